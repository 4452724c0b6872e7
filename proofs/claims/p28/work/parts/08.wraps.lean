/-! Wraps -/

noncomputable def fX6_isOne (number : Int32) (x1 : Int32) : Int32 :=
  (if x1 < 0 then (0) else (if number ≤ x1 then (0) else (1)))
set_option maxHeartbeats 1000000 in
set_option maxRecDepth 100000 in
theorem mX6_isOne (l : Launch) (dC : Nat → ClassId) (dI : Nat → Nat → Nat) (cyI cyO cyL : ClassId) (w0 w1 w2 w3 w4 w5 w6 w7 w8 w9 w10 : Nat) (number : Int32) (heldKeys : Nat → Int32) (heldWhats : Nat → Int32) (closers : Nat → Int32) (closerMakes : Nat → Int32) (stands : Nat → Int32) (x1 : Int32) (sz : Nat) (res : Int32) (h : fX6_isOne number x1 = res) : Met l yX6_isOne (wsG yX6_isOne cX6_isOne 2 (some .boolean)) ({ frames := 0, cells := 0, slots := 0, locals := 0 }) (cP dC dI cyI cyO cyL sz [.ref w0, .int x1] (wrapsW cyI w0 w1 w2 w3 w4 w5 w6 w7 w8 w9 w10 number heldKeys heldWhats closers closerMakes stands)) (cI dC dI res (wrapsW cyI w0 w1 w2 w3 w4 w5 w6 w7 w8 w9 w10 number heldKeys heldWhats closers closerMakes stands) (va_A (wrapsW cyI w0 w1 w2 w3 w4 w5 w6 w7 w8 w9 w10 number heldKeys heldWhats closers closerMakes stands) sz)) 0 0 (va_A (wrapsW cyI w0 w1 w2 w3 w4 w5 w6 w7 w8 w9 w10 number heldKeys heldWhats closers closerMakes stands) sz) := by
  refine Met.ofW (cc := cX6_isOne) (maxL := 2) (ret := (some .boolean)) (by decide) rfl ?_
  intro p e s m args below meth c s₁ B hml hv
  obtain ⟨rfl, hsz, hP, hK, hD0⟩ := hv
  have hx := B.exec
  have hb := B.bytes
  have hr := B.returns
  have hts := atoms_spec (ws := wsG yX6_isOne cX6_isOne 2 (some .boolean)) B.pre
  have hown : s.vm.findClass RX6 = some m.cls := findClass_of_methodNamed B.named
  have hlocks := B.notSynchronized
  subst hsz
  have hD := hD0.self (sz := s.heap.size)
  generalize hAe : va_A (wrapsW cyI w0 w1 w2 w3 w4 w5 w6 w7 w8 w9 w10 number heldKeys heldWhats closers closerMakes stands) s.heap.size = A at hD ⊢
  have hA : ∀ q : Nat, s.heap.size ≤ q → A q := fun q h => by rw [← hAe]; exact Or.inr h
  have hS : va_S A s.heap s.heap [] := va_S.rf
  have hl := lv_entry ([.ref w0, .int x1]) (n := 2) (Nat.le_of_ble_eq_true rfl)
  rw [lg_entry_eq]
  generalize (lg_sl ([.ref w0, .int x1]) ++ List.replicate (2 - (lg_sl ([.ref w0, .int x1])).length) Slot.unset).toArray = ls at hl ⊢
  have hl : lv_has ls 2 [(0, .ref w0), (1, .int x1)] := hl
  unfold fX6_isOne at h
  refine lv_iload_n hx hb dX6_isOne_0 rfl (lv_at hl 1 rfl) ?_
  refine lv_if_lt (tgt := 16) hx hb dX6_isOne_1 (by decide) (fun c1 => ?_) (fun c1 => ?_)
  · have h := (if_pos c1).symm.trans h
    refine lv_iconst (v := 0) hx hb dX6_isOne_16 (by decide) ?_
    obtain rfl := h
    exact e_z (v := 0) hx hb hr hlocks rfl hP hS dX6_isOne_17
  · have h := (if_neg c1).symm.trans h
    refine lv_iload_n hx hb dX6_isOne_4 rfl (lv_at hl 1 rfl) ?_
    refine lv_aload_n hx hb dX6_isOne_5 rfl (lv_at hl 0 rfl) ?_
    refine va_get (D := (dC, dI)) (ci := 6) (v := .int number) (C := RX6) (T := TX6) (N := 6) hx hb hts (fun w h9 => gb_mem (lay_X6 w h9)) hown hK.1 hP 0 rfl rfl 0 (by decide) (hts _ (gb_mem fl_X6_9)) (fun _ h9 => h9) rfl dX6_isOne_6 ?_
    refine lv_icmp_ge (tgt := 16) hx hb dX6_isOne_9 (by decide) (fun c2 => ?_) (fun c2 => ?_)
    · have h := (if_pos c2).symm.trans h
      refine lv_iconst (v := 0) hx hb dX6_isOne_16 (by decide) ?_
      obtain rfl := h
      exact e_z (v := 0) hx hb hr hlocks rfl hP hS dX6_isOne_17
    · have h := (if_neg c2).symm.trans h
      refine lv_iconst (v := 1) hx hb dX6_isOne_12 (by decide) ?_
      refine lv_goto (tgt := 17) hx hb dX6_isOne_13 (by decide) ?_
      obtain rfl := h
      exact e_z (v := 1) hx hb hr hlocks rfl hP hS dX6_isOne_17
theorem nb_X6_isOne (number : Int32) (x1 : Int32) : narrow .boolean (.int (fX6_isOne number x1)) = .int (fX6_isOne number x1) := by
  unfold fX6_isOne
  repeat (first | rfl | split)

noncomputable def fX6_haveRoomFor (number : Int32) (x1 : Int32) : Int32 :=
  (if 120 < (number + x1) then (0) else (1))
set_option maxHeartbeats 1000000 in
set_option maxRecDepth 100000 in
theorem mX6_haveRoomFor (l : Launch) (dC : Nat → ClassId) (dI : Nat → Nat → Nat) (cyI cyO cyL : ClassId) (w0 w1 w2 w3 w4 w5 w6 w7 w8 w9 w10 : Nat) (number : Int32) (heldKeys : Nat → Int32) (heldWhats : Nat → Int32) (closers : Nat → Int32) (closerMakes : Nat → Int32) (stands : Nat → Int32) (x1 : Int32) (sz : Nat) (res : Int32) (h : fX6_haveRoomFor number x1 = res) : Met l yX6_haveRoomFor (wsG yX6_haveRoomFor cX6_haveRoomFor 2 (some .boolean)) ({ frames := 0, cells := 0, slots := 0, locals := 0 }) (cP dC dI cyI cyO cyL sz [.ref w0, .int x1] (wrapsW cyI w0 w1 w2 w3 w4 w5 w6 w7 w8 w9 w10 number heldKeys heldWhats closers closerMakes stands)) (cI dC dI res (wrapsW cyI w0 w1 w2 w3 w4 w5 w6 w7 w8 w9 w10 number heldKeys heldWhats closers closerMakes stands) (va_A (wrapsW cyI w0 w1 w2 w3 w4 w5 w6 w7 w8 w9 w10 number heldKeys heldWhats closers closerMakes stands) sz)) 0 0 (va_A (wrapsW cyI w0 w1 w2 w3 w4 w5 w6 w7 w8 w9 w10 number heldKeys heldWhats closers closerMakes stands) sz) := by
  refine Met.ofW (cc := cX6_haveRoomFor) (maxL := 2) (ret := (some .boolean)) (by decide) rfl ?_
  intro p e s m args below meth c s₁ B hml hv
  obtain ⟨rfl, hsz, hP, hK, hD0⟩ := hv
  have hx := B.exec
  have hb := B.bytes
  have hr := B.returns
  have hts := atoms_spec (ws := wsG yX6_haveRoomFor cX6_haveRoomFor 2 (some .boolean)) B.pre
  have hown : s.vm.findClass RX6 = some m.cls := findClass_of_methodNamed B.named
  have hlocks := B.notSynchronized
  subst hsz
  have hD := hD0.self (sz := s.heap.size)
  generalize hAe : va_A (wrapsW cyI w0 w1 w2 w3 w4 w5 w6 w7 w8 w9 w10 number heldKeys heldWhats closers closerMakes stands) s.heap.size = A at hD ⊢
  have hA : ∀ q : Nat, s.heap.size ≤ q → A q := fun q h => by rw [← hAe]; exact Or.inr h
  have hS : va_S A s.heap s.heap [] := va_S.rf
  have hl := lv_entry ([.ref w0, .int x1]) (n := 2) (Nat.le_of_ble_eq_true rfl)
  rw [lg_entry_eq]
  generalize (lg_sl ([.ref w0, .int x1]) ++ List.replicate (2 - (lg_sl ([.ref w0, .int x1])).length) Slot.unset).toArray = ls at hl ⊢
  have hl : lv_has ls 2 [(0, .ref w0), (1, .int x1)] := hl
  unfold fX6_haveRoomFor at h
  refine lv_aload_n hx hb dX6_haveRoomFor_0 rfl (lv_at hl 0 rfl) ?_
  refine va_get (D := (dC, dI)) (ci := 6) (v := .int number) (C := RX6) (T := TX6) (N := 6) hx hb hts (fun w h9 => gb_mem (lay_X6 w h9)) hown hK.1 hP 0 rfl rfl 0 (by decide) (hts _ (gb_mem fl_X6_9)) (fun _ h9 => h9) rfl dX6_haveRoomFor_1 ?_
  refine lv_iload_n hx hb dX6_haveRoomFor_4 rfl (lv_at hl 1 rfl) ?_
  refine lv_iadd hx hb dX6_haveRoomFor_5 ?_
  refine lv_bipush (v := 120) hx hb dX6_haveRoomFor_6 (by decide) ?_
  refine lv_icmp_gt (tgt := 15) hx hb dX6_haveRoomFor_8 (by decide) (fun c1 => ?_) (fun c1 => ?_)
  · have h := (if_pos c1).symm.trans h
    refine lv_iconst (v := 0) hx hb dX6_haveRoomFor_15 (by decide) ?_
    obtain rfl := h
    exact e_z (v := 0) hx hb hr hlocks rfl hP hS dX6_haveRoomFor_16
  · have h := (if_neg c1).symm.trans h
    refine lv_iconst (v := 1) hx hb dX6_haveRoomFor_11 (by decide) ?_
    refine lv_goto (tgt := 16) hx hb dX6_haveRoomFor_12 (by decide) ?_
    obtain rfl := h
    exact e_z (v := 1) hx hb hr hlocks rfl hP hS dX6_haveRoomFor_16
theorem nb_X6_haveRoomFor (number : Int32) (x1 : Int32) : narrow .boolean (.int (fX6_haveRoomFor number x1)) = .int (fX6_haveRoomFor number x1) := by
  unfold fX6_haveRoomFor
  repeat (first | rfl | split)

noncomputable def fX6_heldKey (heldKeys : Nat → Int32) (x1 : Int32) : Int32 :=
  ((rAt 120 heldKeys x1))
set_option maxHeartbeats 1000000 in
set_option maxRecDepth 100000 in
theorem mX6_heldKey (l : Launch) (dC : Nat → ClassId) (dI : Nat → Nat → Nat) (cyI cyO cyL : ClassId) (w0 w1 w2 w3 w4 w5 w6 w7 w8 w9 w10 : Nat) (number : Int32) (heldKeys : Nat → Int32) (heldWhats : Nat → Int32) (closers : Nat → Int32) (closerMakes : Nat → Int32) (stands : Nat → Int32) (x1 : Int32) (sz : Nat) (res : Int32) (h : fX6_heldKey heldKeys x1 = res) : Met l yX6_heldKey (wsG yX6_heldKey cX6_heldKey 2 (some .int)) ({ frames := 1, cells := 0, slots := 0, locals := 21 }) (cP dC dI cyI cyO cyL sz [.ref w0, .int x1] (wrapsW cyI w0 w1 w2 w3 w4 w5 w6 w7 w8 w9 w10 number heldKeys heldWhats closers closerMakes stands)) (cI dC dI res (wrapsW cyI w0 w1 w2 w3 w4 w5 w6 w7 w8 w9 w10 number heldKeys heldWhats closers closerMakes stands) (va_A (wrapsW cyI w0 w1 w2 w3 w4 w5 w6 w7 w8 w9 w10 number heldKeys heldWhats closers closerMakes stands) sz)) 0 0 (va_A (wrapsW cyI w0 w1 w2 w3 w4 w5 w6 w7 w8 w9 w10 number heldKeys heldWhats closers closerMakes stands) sz) := by
  refine Met.ofW (cc := cX6_heldKey) (maxL := 2) (ret := (some .int)) (by decide) rfl ?_
  intro p e s m args below meth c s₁ B hml hv
  obtain ⟨rfl, hsz, hP, hK, hD0⟩ := hv
  have hx := B.exec
  have hb := B.bytes
  have hr := B.returns
  have hts := atoms_spec (ws := wsG yX6_heldKey cX6_heldKey 2 (some .int)) B.pre
  have hown : s.vm.findClass RX6 = some m.cls := findClass_of_methodNamed B.named
  have hlocks := B.notSynchronized
  subst hsz
  have hD := hD0.self (sz := s.heap.size)
  generalize hAe : va_A (wrapsW cyI w0 w1 w2 w3 w4 w5 w6 w7 w8 w9 w10 number heldKeys heldWhats closers closerMakes stands) s.heap.size = A at hD ⊢
  have hA : ∀ q : Nat, s.heap.size ≤ q → A q := fun q h => by rw [← hAe]; exact Or.inr h
  have hS : va_S A s.heap s.heap [] := va_S.rf
  have hl := lv_entry ([.ref w0, .int x1]) (n := 2) (Nat.le_of_ble_eq_true rfl)
  rw [lg_entry_eq]
  generalize (lg_sl ([.ref w0, .int x1]) ++ List.replicate (2 - (lg_sl ([.ref w0, .int x1])).length) Slot.unset).toArray = ls at hl ⊢
  have hl : lv_has ls 2 [(0, .ref w0), (1, .int x1)] := hl
  unfold fX6_heldKey at h
  refine lv_aload_n hx hb dX6_heldKey_0 rfl (lv_at hl 0 rfl) ?_
  refine va_get (D := (dC, dI)) (ci := 6) (v := .ref w1) (C := RX6) (T := TX6) (N := 6) hx hb hts (fun w h9 => gb_mem (lay_X6 w h9)) hown hK.1 hP 0 rfl rfl 1 (by decide) (hts _ (gb_mem fl_X6_20)) (fun _ h9 => h9) rfl dX6_heldKey_1 ?_
  refine lv_iload_n hx hb dX6_heldKey_4 rfl (lv_at hl 1 rfl) ?_
  refine fr_ir (M := (rowW cyI w1 w2 120 heldKeys)) (va_runV (As := [.int x1]) (rest := []) ⟨hx, hb, hml, hown, hts⟩ (tX4_at l dC dI cyI cyO cyL w1 w2 120 heldKeys x1 _ (rAt 120 heldKeys x1) rfl (by decide)) (cwV 1 hts (gV ml_X6_36 im_X4_at se_X4_at in_X4 co_X4_at) rfl rfl rfl (by decide +kernel) ⟨Nat.le_of_ble_eq_true rfl, Nat.le_of_ble_eq_true rfl⟩) (cP_V hK hP hD [1, 2] rfl rfl 1 rfl rfl) rfl rfl hl.1 rfl (lv_room (Nat.le_of_ble_eq_true rfl)) dX6_heldKey_5 ⟨Nat.zero_le _, Nat.zero_le _⟩) hP hD hS hA [1, 2] rfl (fun H locs hP hS => ?_)
  obtain rfl := h
  exact e_i hx hb hr hlocks hP hS dX6_heldKey_8

noncomputable def fX6_heldWhat (heldWhats : Nat → Int32) (x1 : Int32) : Int32 :=
  ((rAt 120 heldWhats x1))
set_option maxHeartbeats 1000000 in
set_option maxRecDepth 100000 in
theorem mX6_heldWhat (l : Launch) (dC : Nat → ClassId) (dI : Nat → Nat → Nat) (cyI cyO cyL : ClassId) (w0 w1 w2 w3 w4 w5 w6 w7 w8 w9 w10 : Nat) (number : Int32) (heldKeys : Nat → Int32) (heldWhats : Nat → Int32) (closers : Nat → Int32) (closerMakes : Nat → Int32) (stands : Nat → Int32) (x1 : Int32) (sz : Nat) (res : Int32) (h : fX6_heldWhat heldWhats x1 = res) : Met l yX6_heldWhat (wsG yX6_heldWhat cX6_heldWhat 2 (some .int)) ({ frames := 1, cells := 0, slots := 0, locals := 21 }) (cP dC dI cyI cyO cyL sz [.ref w0, .int x1] (wrapsW cyI w0 w1 w2 w3 w4 w5 w6 w7 w8 w9 w10 number heldKeys heldWhats closers closerMakes stands)) (cI dC dI res (wrapsW cyI w0 w1 w2 w3 w4 w5 w6 w7 w8 w9 w10 number heldKeys heldWhats closers closerMakes stands) (va_A (wrapsW cyI w0 w1 w2 w3 w4 w5 w6 w7 w8 w9 w10 number heldKeys heldWhats closers closerMakes stands) sz)) 0 0 (va_A (wrapsW cyI w0 w1 w2 w3 w4 w5 w6 w7 w8 w9 w10 number heldKeys heldWhats closers closerMakes stands) sz) := by
  refine Met.ofW (cc := cX6_heldWhat) (maxL := 2) (ret := (some .int)) (by decide) rfl ?_
  intro p e s m args below meth c s₁ B hml hv
  obtain ⟨rfl, hsz, hP, hK, hD0⟩ := hv
  have hx := B.exec
  have hb := B.bytes
  have hr := B.returns
  have hts := atoms_spec (ws := wsG yX6_heldWhat cX6_heldWhat 2 (some .int)) B.pre
  have hown : s.vm.findClass RX6 = some m.cls := findClass_of_methodNamed B.named
  have hlocks := B.notSynchronized
  subst hsz
  have hD := hD0.self (sz := s.heap.size)
  generalize hAe : va_A (wrapsW cyI w0 w1 w2 w3 w4 w5 w6 w7 w8 w9 w10 number heldKeys heldWhats closers closerMakes stands) s.heap.size = A at hD ⊢
  have hA : ∀ q : Nat, s.heap.size ≤ q → A q := fun q h => by rw [← hAe]; exact Or.inr h
  have hS : va_S A s.heap s.heap [] := va_S.rf
  have hl := lv_entry ([.ref w0, .int x1]) (n := 2) (Nat.le_of_ble_eq_true rfl)
  rw [lg_entry_eq]
  generalize (lg_sl ([.ref w0, .int x1]) ++ List.replicate (2 - (lg_sl ([.ref w0, .int x1])).length) Slot.unset).toArray = ls at hl ⊢
  have hl : lv_has ls 2 [(0, .ref w0), (1, .int x1)] := hl
  unfold fX6_heldWhat at h
  refine lv_aload_n hx hb dX6_heldWhat_0 rfl (lv_at hl 0 rfl) ?_
  refine va_get (D := (dC, dI)) (ci := 6) (v := .ref w3) (C := RX6) (T := TX6) (N := 6) hx hb hts (fun w h9 => gb_mem (lay_X6 w h9)) hown hK.1 hP 0 rfl rfl 2 (by decide) (hts _ (gb_mem fl_X6_24)) (fun _ h9 => h9) rfl dX6_heldWhat_1 ?_
  refine lv_iload_n hx hb dX6_heldWhat_4 rfl (lv_at hl 1 rfl) ?_
  refine fr_ir (M := (rowW cyI w3 w4 120 heldWhats)) (va_runV (As := [.int x1]) (rest := []) ⟨hx, hb, hml, hown, hts⟩ (tX4_at l dC dI cyI cyO cyL w3 w4 120 heldWhats x1 _ (rAt 120 heldWhats x1) rfl (by decide)) (cwV 1 hts (gV ml_X6_36 im_X4_at se_X4_at in_X4 co_X4_at) rfl rfl rfl (by decide +kernel) ⟨Nat.le_of_ble_eq_true rfl, Nat.le_of_ble_eq_true rfl⟩) (cP_V hK hP hD [3, 4] rfl rfl 3 rfl rfl) rfl rfl hl.1 rfl (lv_room (Nat.le_of_ble_eq_true rfl)) dX6_heldWhat_5 ⟨Nat.zero_le _, Nat.zero_le _⟩) hP hD hS hA [3, 4] rfl (fun H locs hP hS => ?_)
  obtain rfl := h
  exact e_i hx hb hr hlocks hP hS dX6_heldWhat_8

noncomputable def fX6_closer (closers : Nat → Int32) (x1 : Int32) : Int32 :=
  ((rAt 120 closers x1))
set_option maxHeartbeats 1000000 in
set_option maxRecDepth 100000 in
theorem mX6_closer (l : Launch) (dC : Nat → ClassId) (dI : Nat → Nat → Nat) (cyI cyO cyL : ClassId) (w0 w1 w2 w3 w4 w5 w6 w7 w8 w9 w10 : Nat) (number : Int32) (heldKeys : Nat → Int32) (heldWhats : Nat → Int32) (closers : Nat → Int32) (closerMakes : Nat → Int32) (stands : Nat → Int32) (x1 : Int32) (sz : Nat) (res : Int32) (h : fX6_closer closers x1 = res) : Met l yX6_closer (wsG yX6_closer cX6_closer 2 (some .int)) ({ frames := 1, cells := 0, slots := 0, locals := 21 }) (cP dC dI cyI cyO cyL sz [.ref w0, .int x1] (wrapsW cyI w0 w1 w2 w3 w4 w5 w6 w7 w8 w9 w10 number heldKeys heldWhats closers closerMakes stands)) (cI dC dI res (wrapsW cyI w0 w1 w2 w3 w4 w5 w6 w7 w8 w9 w10 number heldKeys heldWhats closers closerMakes stands) (va_A (wrapsW cyI w0 w1 w2 w3 w4 w5 w6 w7 w8 w9 w10 number heldKeys heldWhats closers closerMakes stands) sz)) 0 0 (va_A (wrapsW cyI w0 w1 w2 w3 w4 w5 w6 w7 w8 w9 w10 number heldKeys heldWhats closers closerMakes stands) sz) := by
  refine Met.ofW (cc := cX6_closer) (maxL := 2) (ret := (some .int)) (by decide) rfl ?_
  intro p e s m args below meth c s₁ B hml hv
  obtain ⟨rfl, hsz, hP, hK, hD0⟩ := hv
  have hx := B.exec
  have hb := B.bytes
  have hr := B.returns
  have hts := atoms_spec (ws := wsG yX6_closer cX6_closer 2 (some .int)) B.pre
  have hown : s.vm.findClass RX6 = some m.cls := findClass_of_methodNamed B.named
  have hlocks := B.notSynchronized
  subst hsz
  have hD := hD0.self (sz := s.heap.size)
  generalize hAe : va_A (wrapsW cyI w0 w1 w2 w3 w4 w5 w6 w7 w8 w9 w10 number heldKeys heldWhats closers closerMakes stands) s.heap.size = A at hD ⊢
  have hA : ∀ q : Nat, s.heap.size ≤ q → A q := fun q h => by rw [← hAe]; exact Or.inr h
  have hS : va_S A s.heap s.heap [] := va_S.rf
  have hl := lv_entry ([.ref w0, .int x1]) (n := 2) (Nat.le_of_ble_eq_true rfl)
  rw [lg_entry_eq]
  generalize (lg_sl ([.ref w0, .int x1]) ++ List.replicate (2 - (lg_sl ([.ref w0, .int x1])).length) Slot.unset).toArray = ls at hl ⊢
  have hl : lv_has ls 2 [(0, .ref w0), (1, .int x1)] := hl
  unfold fX6_closer at h
  refine lv_aload_n hx hb dX6_closer_0 rfl (lv_at hl 0 rfl) ?_
  refine va_get (D := (dC, dI)) (ci := 6) (v := .ref w5) (C := RX6) (T := TX6) (N := 6) hx hb hts (fun w h9 => gb_mem (lay_X6 w h9)) hown hK.1 hP 0 rfl rfl 3 (by decide) (hts _ (gb_mem fl_X6_27)) (fun _ h9 => h9) rfl dX6_closer_1 ?_
  refine lv_iload_n hx hb dX6_closer_4 rfl (lv_at hl 1 rfl) ?_
  refine fr_ir (M := (rowW cyI w5 w6 120 closers)) (va_runV (As := [.int x1]) (rest := []) ⟨hx, hb, hml, hown, hts⟩ (tX4_at l dC dI cyI cyO cyL w5 w6 120 closers x1 _ (rAt 120 closers x1) rfl (by decide)) (cwV 1 hts (gV ml_X6_36 im_X4_at se_X4_at in_X4 co_X4_at) rfl rfl rfl (by decide +kernel) ⟨Nat.le_of_ble_eq_true rfl, Nat.le_of_ble_eq_true rfl⟩) (cP_V hK hP hD [5, 6] rfl rfl 5 rfl rfl) rfl rfl hl.1 rfl (lv_room (Nat.le_of_ble_eq_true rfl)) dX6_closer_5 ⟨Nat.zero_le _, Nat.zero_le _⟩) hP hD hS hA [5, 6] rfl (fun H locs hP hS => ?_)
  obtain rfl := h
  exact e_i hx hb hr hlocks hP hS dX6_closer_8

noncomputable def fX6_closerMake (closerMakes : Nat → Int32) (x1 : Int32) : Int32 :=
  ((rAt 120 closerMakes x1))
set_option maxHeartbeats 1000000 in
set_option maxRecDepth 100000 in
theorem mX6_closerMake (l : Launch) (dC : Nat → ClassId) (dI : Nat → Nat → Nat) (cyI cyO cyL : ClassId) (w0 w1 w2 w3 w4 w5 w6 w7 w8 w9 w10 : Nat) (number : Int32) (heldKeys : Nat → Int32) (heldWhats : Nat → Int32) (closers : Nat → Int32) (closerMakes : Nat → Int32) (stands : Nat → Int32) (x1 : Int32) (sz : Nat) (res : Int32) (h : fX6_closerMake closerMakes x1 = res) : Met l yX6_closerMake (wsG yX6_closerMake cX6_closerMake 2 (some .int)) ({ frames := 1, cells := 0, slots := 0, locals := 21 }) (cP dC dI cyI cyO cyL sz [.ref w0, .int x1] (wrapsW cyI w0 w1 w2 w3 w4 w5 w6 w7 w8 w9 w10 number heldKeys heldWhats closers closerMakes stands)) (cI dC dI res (wrapsW cyI w0 w1 w2 w3 w4 w5 w6 w7 w8 w9 w10 number heldKeys heldWhats closers closerMakes stands) (va_A (wrapsW cyI w0 w1 w2 w3 w4 w5 w6 w7 w8 w9 w10 number heldKeys heldWhats closers closerMakes stands) sz)) 0 0 (va_A (wrapsW cyI w0 w1 w2 w3 w4 w5 w6 w7 w8 w9 w10 number heldKeys heldWhats closers closerMakes stands) sz) := by
  refine Met.ofW (cc := cX6_closerMake) (maxL := 2) (ret := (some .int)) (by decide) rfl ?_
  intro p e s m args below meth c s₁ B hml hv
  obtain ⟨rfl, hsz, hP, hK, hD0⟩ := hv
  have hx := B.exec
  have hb := B.bytes
  have hr := B.returns
  have hts := atoms_spec (ws := wsG yX6_closerMake cX6_closerMake 2 (some .int)) B.pre
  have hown : s.vm.findClass RX6 = some m.cls := findClass_of_methodNamed B.named
  have hlocks := B.notSynchronized
  subst hsz
  have hD := hD0.self (sz := s.heap.size)
  generalize hAe : va_A (wrapsW cyI w0 w1 w2 w3 w4 w5 w6 w7 w8 w9 w10 number heldKeys heldWhats closers closerMakes stands) s.heap.size = A at hD ⊢
  have hA : ∀ q : Nat, s.heap.size ≤ q → A q := fun q h => by rw [← hAe]; exact Or.inr h
  have hS : va_S A s.heap s.heap [] := va_S.rf
  have hl := lv_entry ([.ref w0, .int x1]) (n := 2) (Nat.le_of_ble_eq_true rfl)
  rw [lg_entry_eq]
  generalize (lg_sl ([.ref w0, .int x1]) ++ List.replicate (2 - (lg_sl ([.ref w0, .int x1])).length) Slot.unset).toArray = ls at hl ⊢
  have hl : lv_has ls 2 [(0, .ref w0), (1, .int x1)] := hl
  unfold fX6_closerMake at h
  refine lv_aload_n hx hb dX6_closerMake_0 rfl (lv_at hl 0 rfl) ?_
  refine va_get (D := (dC, dI)) (ci := 6) (v := .ref w7) (C := RX6) (T := TX6) (N := 6) hx hb hts (fun w h9 => gb_mem (lay_X6 w h9)) hown hK.1 hP 0 rfl rfl 4 (by decide) (hts _ (gb_mem fl_X6_30)) (fun _ h9 => h9) rfl dX6_closerMake_1 ?_
  refine lv_iload_n hx hb dX6_closerMake_4 rfl (lv_at hl 1 rfl) ?_
  refine fr_ir (M := (rowW cyI w7 w8 120 closerMakes)) (va_runV (As := [.int x1]) (rest := []) ⟨hx, hb, hml, hown, hts⟩ (tX4_at l dC dI cyI cyO cyL w7 w8 120 closerMakes x1 _ (rAt 120 closerMakes x1) rfl (by decide)) (cwV 1 hts (gV ml_X6_36 im_X4_at se_X4_at in_X4 co_X4_at) rfl rfl rfl (by decide +kernel) ⟨Nat.le_of_ble_eq_true rfl, Nat.le_of_ble_eq_true rfl⟩) (cP_V hK hP hD [7, 8] rfl rfl 7 rfl rfl) rfl rfl hl.1 rfl (lv_room (Nat.le_of_ble_eq_true rfl)) dX6_closerMake_5 ⟨Nat.zero_le _, Nat.zero_le _⟩) hP hD hS hA [7, 8] rfl (fun H locs hP hS => ?_)
  obtain rfl := h
  exact e_i hx hb hr hlocks hP hS dX6_closerMake_8

noncomputable def fX6_standsIn (stands : Nat → Int32) (x1 : Int32) (x2 : Int32) : Int32 :=
  (if ((rAt 120 stands x1) &&& x2) = 0 then (0) else (1))
set_option maxHeartbeats 1000000 in
set_option maxRecDepth 100000 in
theorem mX6_standsIn (l : Launch) (dC : Nat → ClassId) (dI : Nat → Nat → Nat) (cyI cyO cyL : ClassId) (w0 w1 w2 w3 w4 w5 w6 w7 w8 w9 w10 : Nat) (number : Int32) (heldKeys : Nat → Int32) (heldWhats : Nat → Int32) (closers : Nat → Int32) (closerMakes : Nat → Int32) (stands : Nat → Int32) (x1 : Int32) (x2 : Int32) (sz : Nat) (res : Int32) (h : fX6_standsIn stands x1 x2 = res) : Met l yX6_standsIn (wsG yX6_standsIn cX6_standsIn 3 (some .boolean)) ({ frames := 1, cells := 0, slots := 0, locals := 21 }) (cP dC dI cyI cyO cyL sz [.ref w0, .int x1, .int x2] (wrapsW cyI w0 w1 w2 w3 w4 w5 w6 w7 w8 w9 w10 number heldKeys heldWhats closers closerMakes stands)) (cI dC dI res (wrapsW cyI w0 w1 w2 w3 w4 w5 w6 w7 w8 w9 w10 number heldKeys heldWhats closers closerMakes stands) (va_A (wrapsW cyI w0 w1 w2 w3 w4 w5 w6 w7 w8 w9 w10 number heldKeys heldWhats closers closerMakes stands) sz)) 0 0 (va_A (wrapsW cyI w0 w1 w2 w3 w4 w5 w6 w7 w8 w9 w10 number heldKeys heldWhats closers closerMakes stands) sz) := by
  refine Met.ofW (cc := cX6_standsIn) (maxL := 3) (ret := (some .boolean)) (by decide) rfl ?_
  intro p e s m args below meth c s₁ B hml hv
  obtain ⟨rfl, hsz, hP, hK, hD0⟩ := hv
  have hx := B.exec
  have hb := B.bytes
  have hr := B.returns
  have hts := atoms_spec (ws := wsG yX6_standsIn cX6_standsIn 3 (some .boolean)) B.pre
  have hown : s.vm.findClass RX6 = some m.cls := findClass_of_methodNamed B.named
  have hlocks := B.notSynchronized
  subst hsz
  have hD := hD0.self (sz := s.heap.size)
  generalize hAe : va_A (wrapsW cyI w0 w1 w2 w3 w4 w5 w6 w7 w8 w9 w10 number heldKeys heldWhats closers closerMakes stands) s.heap.size = A at hD ⊢
  have hA : ∀ q : Nat, s.heap.size ≤ q → A q := fun q h => by rw [← hAe]; exact Or.inr h
  have hS : va_S A s.heap s.heap [] := va_S.rf
  have hl := lv_entry ([.ref w0, .int x1, .int x2]) (n := 3) (Nat.le_of_ble_eq_true rfl)
  rw [lg_entry_eq]
  generalize (lg_sl ([.ref w0, .int x1, .int x2]) ++ List.replicate (3 - (lg_sl ([.ref w0, .int x1, .int x2])).length) Slot.unset).toArray = ls at hl ⊢
  have hl : lv_has ls 3 [(0, .ref w0), (1, .int x1), (2, .int x2)] := hl
  unfold fX6_standsIn at h
  refine lv_aload_n hx hb dX6_standsIn_0 rfl (lv_at hl 0 rfl) ?_
  refine va_get (D := (dC, dI)) (ci := 6) (v := .ref w9) (C := RX6) (T := TX6) (N := 6) hx hb hts (fun w h9 => gb_mem (lay_X6 w h9)) hown hK.1 hP 0 rfl rfl 5 (by decide) (hts _ (gb_mem fl_X6_33)) (fun _ h9 => h9) rfl dX6_standsIn_1 ?_
  refine lv_iload_n hx hb dX6_standsIn_4 rfl (lv_at hl 1 rfl) ?_
  refine fr_ir (M := (rowW cyI w9 w10 120 stands)) (va_runV (As := [.int x1]) (rest := []) ⟨hx, hb, hml, hown, hts⟩ (tX4_at l dC dI cyI cyO cyL w9 w10 120 stands x1 _ (rAt 120 stands x1) rfl (by decide)) (cwV 1 hts (gV ml_X6_36 im_X4_at se_X4_at in_X4 co_X4_at) rfl rfl rfl (by decide +kernel) ⟨Nat.le_of_ble_eq_true rfl, Nat.le_of_ble_eq_true rfl⟩) (cP_V hK hP hD [9, 10] rfl rfl 9 rfl rfl) rfl rfl hl.1 rfl (lv_room (Nat.le_of_ble_eq_true rfl)) dX6_standsIn_5 ⟨Nat.zero_le _, Nat.zero_le _⟩) hP hD hS hA [9, 10] rfl (fun H locs hP hS => ?_)
  refine lv_iload_n hx hb dX6_standsIn_8 rfl (lv_at hl 2 rfl) ?_
  refine lv_iand hx hb dX6_standsIn_9 ?_
  refine lv_if_eq (tgt := 17) hx hb dX6_standsIn_10 (by decide) (fun c1 => ?_) (fun c1 => ?_)
  · have h := (if_pos c1).symm.trans h
    refine lv_iconst (v := 0) hx hb dX6_standsIn_17 (by decide) ?_
    obtain rfl := h
    exact e_z (v := 0) hx hb hr hlocks rfl hP hS dX6_standsIn_18
  · have h := (if_neg c1).symm.trans h
    refine lv_iconst (v := 1) hx hb dX6_standsIn_13 (by decide) ?_
    refine lv_goto (tgt := 18) hx hb dX6_standsIn_14 (by decide) ?_
    obtain rfl := h
    exact e_z (v := 1) hx hb hr hlocks rfl hP hS dX6_standsIn_18
theorem nb_X6_standsIn (stands : Nat → Int32) (x1 : Int32) (x2 : Int32) : narrow .boolean (.int (fX6_standsIn stands x1 x2)) = .int (fX6_standsIn stands x1 x2) := by
  unfold fX6_standsIn
  repeat (first | rfl | split)

noncomputable def fX6_placesOf (stands : Nat → Int32) (x1 : Int32) : Int32 :=
  (((rAt 120 stands x1) &&& 7))
set_option maxHeartbeats 1000000 in
set_option maxRecDepth 100000 in
theorem mX6_placesOf (l : Launch) (dC : Nat → ClassId) (dI : Nat → Nat → Nat) (cyI cyO cyL : ClassId) (w0 w1 w2 w3 w4 w5 w6 w7 w8 w9 w10 : Nat) (number : Int32) (heldKeys : Nat → Int32) (heldWhats : Nat → Int32) (closers : Nat → Int32) (closerMakes : Nat → Int32) (stands : Nat → Int32) (x1 : Int32) (sz : Nat) (res : Int32) (h : fX6_placesOf stands x1 = res) : Met l yX6_placesOf (wsG yX6_placesOf cX6_placesOf 2 (some .int)) ({ frames := 1, cells := 0, slots := 0, locals := 21 }) (cP dC dI cyI cyO cyL sz [.ref w0, .int x1] (wrapsW cyI w0 w1 w2 w3 w4 w5 w6 w7 w8 w9 w10 number heldKeys heldWhats closers closerMakes stands)) (cI dC dI res (wrapsW cyI w0 w1 w2 w3 w4 w5 w6 w7 w8 w9 w10 number heldKeys heldWhats closers closerMakes stands) (va_A (wrapsW cyI w0 w1 w2 w3 w4 w5 w6 w7 w8 w9 w10 number heldKeys heldWhats closers closerMakes stands) sz)) 0 0 (va_A (wrapsW cyI w0 w1 w2 w3 w4 w5 w6 w7 w8 w9 w10 number heldKeys heldWhats closers closerMakes stands) sz) := by
  refine Met.ofW (cc := cX6_placesOf) (maxL := 2) (ret := (some .int)) (by decide) rfl ?_
  intro p e s m args below meth c s₁ B hml hv
  obtain ⟨rfl, hsz, hP, hK, hD0⟩ := hv
  have hx := B.exec
  have hb := B.bytes
  have hr := B.returns
  have hts := atoms_spec (ws := wsG yX6_placesOf cX6_placesOf 2 (some .int)) B.pre
  have hown : s.vm.findClass RX6 = some m.cls := findClass_of_methodNamed B.named
  have hlocks := B.notSynchronized
  subst hsz
  have hD := hD0.self (sz := s.heap.size)
  generalize hAe : va_A (wrapsW cyI w0 w1 w2 w3 w4 w5 w6 w7 w8 w9 w10 number heldKeys heldWhats closers closerMakes stands) s.heap.size = A at hD ⊢
  have hA : ∀ q : Nat, s.heap.size ≤ q → A q := fun q h => by rw [← hAe]; exact Or.inr h
  have hS : va_S A s.heap s.heap [] := va_S.rf
  have hl := lv_entry ([.ref w0, .int x1]) (n := 2) (Nat.le_of_ble_eq_true rfl)
  rw [lg_entry_eq]
  generalize (lg_sl ([.ref w0, .int x1]) ++ List.replicate (2 - (lg_sl ([.ref w0, .int x1])).length) Slot.unset).toArray = ls at hl ⊢
  have hl : lv_has ls 2 [(0, .ref w0), (1, .int x1)] := hl
  unfold fX6_placesOf at h
  refine lv_aload_n hx hb dX6_placesOf_0 rfl (lv_at hl 0 rfl) ?_
  refine va_get (D := (dC, dI)) (ci := 6) (v := .ref w9) (C := RX6) (T := TX6) (N := 6) hx hb hts (fun w h9 => gb_mem (lay_X6 w h9)) hown hK.1 hP 0 rfl rfl 5 (by decide) (hts _ (gb_mem fl_X6_33)) (fun _ h9 => h9) rfl dX6_placesOf_1 ?_
  refine lv_iload_n hx hb dX6_placesOf_4 rfl (lv_at hl 1 rfl) ?_
  refine fr_ir (M := (rowW cyI w9 w10 120 stands)) (va_runV (As := [.int x1]) (rest := []) ⟨hx, hb, hml, hown, hts⟩ (tX4_at l dC dI cyI cyO cyL w9 w10 120 stands x1 _ (rAt 120 stands x1) rfl (by decide)) (cwV 1 hts (gV ml_X6_36 im_X4_at se_X4_at in_X4 co_X4_at) rfl rfl rfl (by decide +kernel) ⟨Nat.le_of_ble_eq_true rfl, Nat.le_of_ble_eq_true rfl⟩) (cP_V hK hP hD [9, 10] rfl rfl 9 rfl rfl) rfl rfl hl.1 rfl (lv_room (Nat.le_of_ble_eq_true rfl)) dX6_placesOf_5 ⟨Nat.zero_le _, Nat.zero_le _⟩) hP hD hS hA [9, 10] rfl (fun H locs hP hS => ?_)
  refine lv_bipush (v := 7) hx hb dX6_placesOf_8 (by decide) ?_
  refine lv_iand hx hb dX6_placesOf_10 ?_
  obtain rfl := h
  exact e_i hx hb hr hlocks hP hS dX6_placesOf_11
noncomputable def fX6_standingIn_b4 : Nat → Int32 → (Nat → Int32) → Int32 → Int32 → Int32 → Option (Int32)
  | 0, _, _, _, _, _ => none
  | fuel + 1, number, stands, y1, y2, y3 =>
  (if number ≤ y3 then (some y2) else fX6_standingIn_b4 fuel number stands y1 (y2 + (fJ6_bitCount_0f7a4 ((rAt 120 stands y3) &&& y1))) (y3 + 1))

noncomputable def fX6_standingIn (number : Int32) (stands : Nat → Int32) (x1 : Int32) : Option (Int32) :=
  fX6_standingIn_b4 6000 number stands x1 0 0
set_option maxHeartbeats 1000000 in
set_option maxRecDepth 100000 in
theorem mX6_standingIn (l : Launch) (dC : Nat → ClassId) (dI : Nat → Nat → Nat) (cyI cyO cyL : ClassId) (w0 w1 w2 w3 w4 w5 w6 w7 w8 w9 w10 : Nat) (number : Int32) (heldKeys : Nat → Int32) (heldWhats : Nat → Int32) (closers : Nat → Int32) (closerMakes : Nat → Int32) (stands : Nat → Int32) (x1 : Int32) (sz : Nat) (res : Int32) (h : fX6_standingIn number stands x1 = some res) : Met l yX6_standingIn (wsG yX6_standingIn cX6_standingIn 4 (some .int)) ({ frames := 1, cells := 0, slots := 0, locals := 21 }) (cP dC dI cyI cyO cyL sz [.ref w0, .int x1] (wrapsW cyI w0 w1 w2 w3 w4 w5 w6 w7 w8 w9 w10 number heldKeys heldWhats closers closerMakes stands)) (cI dC dI res (wrapsW cyI w0 w1 w2 w3 w4 w5 w6 w7 w8 w9 w10 number heldKeys heldWhats closers closerMakes stands) (va_A (wrapsW cyI w0 w1 w2 w3 w4 w5 w6 w7 w8 w9 w10 number heldKeys heldWhats closers closerMakes stands) sz)) 0 0 (va_A (wrapsW cyI w0 w1 w2 w3 w4 w5 w6 w7 w8 w9 w10 number heldKeys heldWhats closers closerMakes stands) sz) := by
  refine Met.ofW (cc := cX6_standingIn) (maxL := 4) (ret := (some .int)) (by decide) rfl ?_
  intro p e s m args below meth c s₁ B hml hv
  obtain ⟨rfl, hsz, hP, hK, hD0⟩ := hv
  have hx := B.exec
  have hb := B.bytes
  have hr := B.returns
  have hts := atoms_spec (ws := wsG yX6_standingIn cX6_standingIn 4 (some .int)) B.pre
  have hown : s.vm.findClass RX6 = some m.cls := findClass_of_methodNamed B.named
  have hlocks := B.notSynchronized
  subst hsz
  have hD := hD0.self (sz := s.heap.size)
  generalize hAe : va_A (wrapsW cyI w0 w1 w2 w3 w4 w5 w6 w7 w8 w9 w10 number heldKeys heldWhats closers closerMakes stands) s.heap.size = A at hD ⊢
  have hA : ∀ q : Nat, s.heap.size ≤ q → A q := fun q h => by rw [← hAe]; exact Or.inr h
  have hS : va_S A s.heap s.heap [] := va_S.rf
  have kB4 : ∀ (fuel : Nat) (number : Int32) (stands : Nat → Int32) (y1 : Int32) (y2 : Int32) (y3 : Int32), fX6_standingIn_b4 fuel number stands y1 y2 y3 = some res → ∀ (H : Heap) (locs : List Loc), va_P (dC, dI) vwCl (wrapsW cyI w0 w1 w2 w3 w4 w5 w6 w7 w8 w9 w10 number heldKeys heldWhats closers closerMakes stands) H → va_D A (wrapsW cyI w0 w1 w2 w3 w4 w5 w6 w7 w8 w9 w10 number heldKeys heldWhats closers closerMakes stands) → va_S A s.heap H locs → ∀ ls : Array Slot, lv_has ls 4 [(0, .ref w0), (1, .int y1), (2, .int y2), (3, .int y3)] → W p l e (headSpec (wsG yX6_standingIn cX6_standingIn 4 (some .int)) ({ frames := 1, cells := 0, slots := 0, locals := 21 })).room s m (([.ref w0, .int x1] : List Value).toArray) below meth c H locs 0 0 (MQ below (cI dC dI res (wrapsW cyI w0 w1 w2 w3 w4 w5 w6 w7 w8 w9 w10 number heldKeys heldWhats closers closerMakes stands) A) ([.ref w0, .int x1] : List Value).toArray s 0 0 A) (F0 m 4 ls []) := by
    intro fuel
    induction fuel with
    | zero => intro number stands y1 y2 y3 h; rw [fX6_standingIn_b4] at h; cases h
    | succ fuel ih =>
      intro number stands y1 y2 y3 h H locs hP hD hS ls hl
      rw [fX6_standingIn_b4] at h
      refine lv_iload_n hx hb dX6_standingIn_4 rfl (lv_at hl 3 rfl) ?_
      refine lv_aload_n hx hb dX6_standingIn_5 rfl (lv_at hl 0 rfl) ?_
      refine va_get (D := (dC, dI)) (ci := 6) (v := .int number) (C := RX6) (T := TX6) (N := 6) hx hb hts (fun w h9 => gb_mem (lay_X6 w h9)) hown hK.1 hP 0 rfl rfl 0 (by decide) (hts _ (gb_mem fl_X6_9)) (fun _ h9 => h9) rfl dX6_standingIn_6 ?_
      refine lv_icmp_ge (tgt := 34) hx hb dX6_standingIn_9 (by decide) (fun c1 => ?_) (fun c1 => ?_)
      · have h := (if_pos c1).symm.trans h
        refine lv_iload_n hx hb dX6_standingIn_34 rfl (lv_at hl 2 rfl) ?_
        obtain rfl := Option.some.inj h
        exact e_i hx hb hr hlocks hP hS dX6_standingIn_35
      · have h := (if_neg c1).symm.trans h
        refine lv_iload_n hx hb dX6_standingIn_12 rfl (lv_at hl 2 rfl) ?_
        refine lv_aload_n hx hb dX6_standingIn_13 rfl (lv_at hl 0 rfl) ?_
        refine va_get (D := (dC, dI)) (ci := 6) (v := .ref w9) (C := RX6) (T := TX6) (N := 6) hx hb hts (fun w h9 => gb_mem (lay_X6 w h9)) hown hK.1 hP 0 rfl rfl 5 (by decide) (hts _ (gb_mem fl_X6_33)) (fun _ h9 => h9) rfl dX6_standingIn_14 ?_
        refine lv_iload_n hx hb dX6_standingIn_17 rfl (lv_at hl 3 rfl) ?_
        refine fr_ir (M := (rowW cyI w9 w10 120 stands)) (va_runV (As := [.int y3]) (rest := [.int y2]) ⟨hx, hb, hml, hown, hts⟩ (tX4_at l dC dI cyI cyO cyL w9 w10 120 stands y3 _ (rAt 120 stands y3) rfl (by decide)) (cwV 1 hts (gV ml_X6_36 im_X4_at se_X4_at in_X4 co_X4_at) rfl rfl rfl (by decide +kernel) ⟨Nat.le_of_ble_eq_true rfl, Nat.le_of_ble_eq_true rfl⟩) (cP_V hK hP hD [9, 10] rfl rfl 9 rfl rfl) rfl rfl hl.1 rfl (lv_room (Nat.le_of_ble_eq_true rfl)) dX6_standingIn_18 ⟨Nat.zero_le _, Nat.zero_le _⟩) hP hD hS hA [9, 10] rfl (fun H locs hP hS => ?_)
        refine lv_iload_n hx hb dX6_standingIn_21 rfl (lv_at hl 1 rfl) ?_
        refine lv_iand hx hb dX6_standingIn_22 ?_
        refine fr_ir (M := ([] : va_W)) (va_runS (As := [.int ((rAt 120 stands y3) &&& y1)]) (rest := [.int y2]) ⟨hx, hb, hml, hown, hts⟩ (mJ6_bitCount_0f7a4 l dC dI cyI cyO cyL ((rAt 120 stands y3) &&& y1) _ (fJ6_bitCount_0f7a4 ((rAt 120 stands y3) &&& y1)) rfl) (va_cwS 1 hts (gS ml_X6_40 st_J6_bitCount_0f7a4 in_J6 co_J6_bitCount_0f7a4) rfl rfl rfl (by decide +kernel) ⟨Nat.le_of_ble_eq_true rfl, Nat.le_of_ble_eq_true rfl⟩) (cP_S hK hP hD [] rfl rfl) rfl rfl hl.1 rfl (lv_room (Nat.le_of_ble_eq_true rfl)) dX6_standingIn_23 ⟨Nat.zero_le _, Nat.zero_le _⟩) hP hD hS hA [] rfl (fun H locs hP hS => ?_)
        refine lv_iadd hx hb dX6_standingIn_26 ?_
        refine lv_istore_n (lv' := [(2, .int (y2 + (fJ6_bitCount_0f7a4 ((rAt 120 stands y3) &&& y1)))), (0, .ref w0), (1, .int y1), (3, .int y3)]) hx hb dX6_standingIn_27 rfl hl (by decide) rfl (fun ls hl => ?_)
        refine lv_iinc (v := (y3 + 1)) (lv' := [(3, .int (y3 + 1)), (2, .int (y2 + (fJ6_bitCount_0f7a4 ((rAt 120 stands y3) &&& y1)))), (0, .ref w0), (1, .int y1)]) hx hb dX6_standingIn_28 hl (k := 3) rfl rfl (by decide) rfl (fun ls hl => ?_)
        refine lv_goto (tgt := 4) hx hb dX6_standingIn_31 (by decide) ?_
        exact ih number stands y1 (y2 + (fJ6_bitCount_0f7a4 ((rAt 120 stands y3) &&& y1))) (y3 + 1) h _ _ hP hD hS ls (lv_sub hl [2, 3, 1, 0] rfl)
  have hl := lv_entry ([.ref w0, .int x1]) (n := 4) (Nat.le_of_ble_eq_true rfl)
  rw [lg_entry_eq]
  generalize (lg_sl ([.ref w0, .int x1]) ++ List.replicate (4 - (lg_sl ([.ref w0, .int x1])).length) Slot.unset).toArray = ls at hl ⊢
  have hl : lv_has ls 4 [(0, .ref w0), (1, .int x1)] := hl
  unfold fX6_standingIn at h
  refine lv_iconst (v := 0) hx hb dX6_standingIn_0 (by decide) ?_
  refine lv_istore_n (lv' := [(2, .int 0), (0, .ref w0), (1, .int x1)]) hx hb dX6_standingIn_1 rfl hl (by decide) rfl (fun ls hl => ?_)
  refine lv_iconst (v := 0) hx hb dX6_standingIn_2 (by decide) ?_
  refine lv_istore_n (lv' := [(3, .int 0), (2, .int 0), (0, .ref w0), (1, .int x1)]) hx hb dX6_standingIn_3 rfl hl (by decide) rfl (fun ls hl => ?_)
  exact kB4 6000 number stands x1 0 0 h _ _ hP hD hS ls (lv_sub hl [2, 3, 1, 0] rfl)

noncomputable def fX6_holdsMake (heldKeys : Nat → Int32) (heldWhats : Nat → Int32) (x1 : Int32) (x2 : Int32) (x3 : Int32) : Int32 :=
  (if (rAt 120 heldKeys x1) = x2 then (if (rAt 120 heldWhats x1) = x3 then (1) else (0)) else (0))
set_option maxHeartbeats 1000000 in
set_option maxRecDepth 100000 in
theorem mX6_holdsMake (l : Launch) (dC : Nat → ClassId) (dI : Nat → Nat → Nat) (cyI cyO cyL : ClassId) (w0 w1 w2 w3 w4 w5 w6 w7 w8 w9 w10 : Nat) (number : Int32) (heldKeys : Nat → Int32) (heldWhats : Nat → Int32) (closers : Nat → Int32) (closerMakes : Nat → Int32) (stands : Nat → Int32) (x1 : Int32) (x2 : Int32) (x3 : Int32) (sz : Nat) (res : Int32) (h : fX6_holdsMake heldKeys heldWhats x1 x2 x3 = res) : Met l yX6_holdsMake (wsG yX6_holdsMake cX6_holdsMake 4 (some .boolean)) ({ frames := 1, cells := 0, slots := 0, locals := 21 }) (cP dC dI cyI cyO cyL sz [.ref w0, .int x1, .int x2, .int x3] (wrapsW cyI w0 w1 w2 w3 w4 w5 w6 w7 w8 w9 w10 number heldKeys heldWhats closers closerMakes stands)) (cI dC dI res (wrapsW cyI w0 w1 w2 w3 w4 w5 w6 w7 w8 w9 w10 number heldKeys heldWhats closers closerMakes stands) (va_A (wrapsW cyI w0 w1 w2 w3 w4 w5 w6 w7 w8 w9 w10 number heldKeys heldWhats closers closerMakes stands) sz)) 0 0 (va_A (wrapsW cyI w0 w1 w2 w3 w4 w5 w6 w7 w8 w9 w10 number heldKeys heldWhats closers closerMakes stands) sz) := by
  refine Met.ofW (cc := cX6_holdsMake) (maxL := 4) (ret := (some .boolean)) (by decide) rfl ?_
  intro p e s m args below meth c s₁ B hml hv
  obtain ⟨rfl, hsz, hP, hK, hD0⟩ := hv
  have hx := B.exec
  have hb := B.bytes
  have hr := B.returns
  have hts := atoms_spec (ws := wsG yX6_holdsMake cX6_holdsMake 4 (some .boolean)) B.pre
  have hown : s.vm.findClass RX6 = some m.cls := findClass_of_methodNamed B.named
  have hlocks := B.notSynchronized
  subst hsz
  have hD := hD0.self (sz := s.heap.size)
  generalize hAe : va_A (wrapsW cyI w0 w1 w2 w3 w4 w5 w6 w7 w8 w9 w10 number heldKeys heldWhats closers closerMakes stands) s.heap.size = A at hD ⊢
  have hA : ∀ q : Nat, s.heap.size ≤ q → A q := fun q h => by rw [← hAe]; exact Or.inr h
  have hS : va_S A s.heap s.heap [] := va_S.rf
  have hl := lv_entry ([.ref w0, .int x1, .int x2, .int x3]) (n := 4) (Nat.le_of_ble_eq_true rfl)
  rw [lg_entry_eq]
  generalize (lg_sl ([.ref w0, .int x1, .int x2, .int x3]) ++ List.replicate (4 - (lg_sl ([.ref w0, .int x1, .int x2, .int x3])).length) Slot.unset).toArray = ls at hl ⊢
  have hl : lv_has ls 4 [(0, .ref w0), (1, .int x1), (2, .int x2), (3, .int x3)] := hl
  unfold fX6_holdsMake at h
  refine lv_aload_n hx hb dX6_holdsMake_0 rfl (lv_at hl 0 rfl) ?_
  refine va_get (D := (dC, dI)) (ci := 6) (v := .ref w1) (C := RX6) (T := TX6) (N := 6) hx hb hts (fun w h9 => gb_mem (lay_X6 w h9)) hown hK.1 hP 0 rfl rfl 1 (by decide) (hts _ (gb_mem fl_X6_20)) (fun _ h9 => h9) rfl dX6_holdsMake_1 ?_
  refine lv_iload_n hx hb dX6_holdsMake_4 rfl (lv_at hl 1 rfl) ?_
  refine fr_ir (M := (rowW cyI w1 w2 120 heldKeys)) (va_runV (As := [.int x1]) (rest := []) ⟨hx, hb, hml, hown, hts⟩ (tX4_at l dC dI cyI cyO cyL w1 w2 120 heldKeys x1 _ (rAt 120 heldKeys x1) rfl (by decide)) (cwV 1 hts (gV ml_X6_36 im_X4_at se_X4_at in_X4 co_X4_at) rfl rfl rfl (by decide +kernel) ⟨Nat.le_of_ble_eq_true rfl, Nat.le_of_ble_eq_true rfl⟩) (cP_V hK hP hD [1, 2] rfl rfl 1 rfl rfl) rfl rfl hl.1 rfl (lv_room (Nat.le_of_ble_eq_true rfl)) dX6_holdsMake_5 ⟨Nat.zero_le _, Nat.zero_le _⟩) hP hD hS hA [1, 2] rfl (fun H locs hP hS => ?_)
  refine lv_iload_n hx hb dX6_holdsMake_8 rfl (lv_at hl 2 rfl) ?_
  refine lv_icmp_ne (tgt := 28) hx hb dX6_holdsMake_9 (by decide) (fun c1 => ?_) (fun c1 => ?_)
  · have h := (if_neg c1).symm.trans h
    refine lv_iconst (v := 0) hx hb dX6_holdsMake_28 (by decide) ?_
    obtain rfl := h
    exact e_z (v := 0) hx hb hr hlocks rfl hP hS dX6_holdsMake_29
  · have h := (if_pos c1).symm.trans h
    refine lv_aload_n hx hb dX6_holdsMake_12 rfl (lv_at hl 0 rfl) ?_
    refine va_get (D := (dC, dI)) (ci := 6) (v := .ref w3) (C := RX6) (T := TX6) (N := 6) hx hb hts (fun w h9 => gb_mem (lay_X6 w h9)) hown hK.1 hP 0 rfl rfl 2 (by decide) (hts _ (gb_mem fl_X6_24)) (fun _ h9 => h9) rfl dX6_holdsMake_13 ?_
    refine lv_iload_n hx hb dX6_holdsMake_16 rfl (lv_at hl 1 rfl) ?_
    refine fr_ir (M := (rowW cyI w3 w4 120 heldWhats)) (va_runV (As := [.int x1]) (rest := []) ⟨hx, hb, hml, hown, hts⟩ (tX4_at l dC dI cyI cyO cyL w3 w4 120 heldWhats x1 _ (rAt 120 heldWhats x1) rfl (by decide)) (cwV 1 hts (gV ml_X6_36 im_X4_at se_X4_at in_X4 co_X4_at) rfl rfl rfl (by decide +kernel) ⟨Nat.le_of_ble_eq_true rfl, Nat.le_of_ble_eq_true rfl⟩) (cP_V hK hP hD [3, 4] rfl rfl 3 rfl rfl) rfl rfl hl.1 rfl (lv_room (Nat.le_of_ble_eq_true rfl)) dX6_holdsMake_17 ⟨Nat.zero_le _, Nat.zero_le _⟩) hP hD hS hA [3, 4] rfl (fun H locs hP hS => ?_)
    refine lv_iload_n hx hb dX6_holdsMake_20 rfl (lv_at hl 3 rfl) ?_
    refine lv_icmp_ne (tgt := 28) hx hb dX6_holdsMake_21 (by decide) (fun c2 => ?_) (fun c2 => ?_)
    · have h := (if_neg c2).symm.trans h
      refine lv_iconst (v := 0) hx hb dX6_holdsMake_28 (by decide) ?_
      obtain rfl := h
      exact e_z (v := 0) hx hb hr hlocks rfl hP hS dX6_holdsMake_29
    · have h := (if_pos c2).symm.trans h
      refine lv_iconst (v := 1) hx hb dX6_holdsMake_24 (by decide) ?_
      refine lv_goto (tgt := 29) hx hb dX6_holdsMake_25 (by decide) ?_
      obtain rfl := h
      exact e_z (v := 1) hx hb hr hlocks rfl hP hS dX6_holdsMake_29
theorem nb_X6_holdsMake (heldKeys : Nat → Int32) (heldWhats : Nat → Int32) (x1 : Int32) (x2 : Int32) (x3 : Int32) : narrow .boolean (.int (fX6_holdsMake heldKeys heldWhats x1 x2 x3)) = .int (fX6_holdsMake heldKeys heldWhats x1 x2 x3) := by
  unfold fX6_holdsMake
  repeat (first | rfl | split)

noncomputable def fX6_add (number : Int32) (heldKeys : Nat → Int32) (heldWhats : Nat → Int32) (closers : Nat → Int32) (closerMakes : Nat → Int32) (stands : Nat → Int32) (x1 : Int32) (x2 : Int32) (x3 : Int32) (x4 : Int32) : Option (Int32 × (Nat → Int32) × (Nat → Int32) × (Nat → Int32) × (Nat → Int32) × (Nat → Int32)) :=
  (some ((number + 1), (rSet 120 heldKeys number x1), (rSet 120 heldWhats number x2), (rSet 120 closers number x3), (rSet 120 closerMakes number x4), (rSet 120 stands number 8)))
set_option maxHeartbeats 1000000 in
set_option maxRecDepth 100000 in
theorem mX6_add (l : Launch) (dC : Nat → ClassId) (dI : Nat → Nat → Nat) (cyI cyO cyL : ClassId) (w0 w1 w2 w3 w4 w5 w6 w7 w8 w9 w10 : Nat) (number : Int32) (heldKeys : Nat → Int32) (heldWhats : Nat → Int32) (closers : Nat → Int32) (closerMakes : Nat → Int32) (stands : Nat → Int32) (x1 : Int32) (x2 : Int32) (x3 : Int32) (x4 : Int32) (sz : Nat) (res : Int32 × (Nat → Int32) × (Nat → Int32) × (Nat → Int32) × (Nat → Int32) × (Nat → Int32)) (h : fX6_add number heldKeys heldWhats closers closerMakes stands x1 x2 x3 x4 = some res) : Met l yX6_add (wsG yX6_add cX6_add 5 none) ({ frames := 1, cells := 0, slots := 0, locals := 22 }) (cP dC dI cyI cyO cyL sz [.ref w0, .int x1, .int x2, .int x3, .int x4] (wrapsW cyI w0 w1 w2 w3 w4 w5 w6 w7 w8 w9 w10 number heldKeys heldWhats closers closerMakes stands)) (cV dC dI (wrapsW cyI w0 w1 w2 w3 w4 w5 w6 w7 w8 w9 w10 res.1 res.2.1 res.2.2.1 res.2.2.2.1 res.2.2.2.2.1 res.2.2.2.2.2) (va_A (wrapsW cyI w0 w1 w2 w3 w4 w5 w6 w7 w8 w9 w10 number heldKeys heldWhats closers closerMakes stands) sz)) 0 0 (va_A (wrapsW cyI w0 w1 w2 w3 w4 w5 w6 w7 w8 w9 w10 number heldKeys heldWhats closers closerMakes stands) sz) := by
  refine Met.ofW (cc := cX6_add) (maxL := 5) (ret := none) (by decide) rfl ?_
  intro p e s m args below meth c s₁ B hml hv
  obtain ⟨rfl, hsz, hP, hK, hD0⟩ := hv
  have hx := B.exec
  have hb := B.bytes
  have hr := B.returns
  have hts := atoms_spec (ws := wsG yX6_add cX6_add 5 none) B.pre
  have hown : s.vm.findClass RX6 = some m.cls := findClass_of_methodNamed B.named
  have hlocks := B.notSynchronized
  subst hsz
  have hD := hD0.self (sz := s.heap.size)
  generalize hAe : va_A (wrapsW cyI w0 w1 w2 w3 w4 w5 w6 w7 w8 w9 w10 number heldKeys heldWhats closers closerMakes stands) s.heap.size = A at hD ⊢
  have hA : ∀ q : Nat, s.heap.size ≤ q → A q := fun q h => by rw [← hAe]; exact Or.inr h
  have hS : va_S A s.heap s.heap [] := va_S.rf
  have hl := lv_entry ([.ref w0, .int x1, .int x2, .int x3, .int x4]) (n := 5) (Nat.le_of_ble_eq_true rfl)
  rw [lg_entry_eq]
  generalize (lg_sl ([.ref w0, .int x1, .int x2, .int x3, .int x4]) ++ List.replicate (5 - (lg_sl ([.ref w0, .int x1, .int x2, .int x3, .int x4])).length) Slot.unset).toArray = ls at hl ⊢
  have hl : lv_has ls 5 [(0, .ref w0), (1, .int x1), (2, .int x2), (3, .int x3), (4, .int x4)] := hl
  unfold fX6_add at h
  refine lv_aload_n hx hb dX6_add_0 rfl (lv_at hl 0 rfl) ?_
  refine va_get (D := (dC, dI)) (ci := 6) (v := .ref w1) (C := RX6) (T := TX6) (N := 6) hx hb hts (fun w h9 => gb_mem (lay_X6 w h9)) hown hK.1 hP 0 rfl rfl 1 (by decide) (hts _ (gb_mem fl_X6_20)) (fun _ h9 => h9) rfl dX6_add_1 ?_
  refine lv_aload_n hx hb dX6_add_4 rfl (lv_at hl 0 rfl) ?_
  refine va_get (D := (dC, dI)) (ci := 6) (v := .int number) (C := RX6) (T := TX6) (N := 6) hx hb hts (fun w h9 => gb_mem (lay_X6 w h9)) hown hK.1 hP 0 rfl rfl 0 (by decide) (hts _ (gb_mem fl_X6_9)) (fun _ h9 => h9) rfl dX6_add_5 ?_
  refine lv_iload_n hx hb dX6_add_8 rfl (lv_at hl 1 rfl) ?_
  refine fr_v (M := (rowW cyI w1 w2 120 heldKeys)) (M' := (rowW cyI w1 w2 120 (rSet 120 heldKeys number x1))) (L' := (wrapsW cyI w0 w1 w2 w3 w4 w5 w6 w7 w8 w9 w10 number (rSet 120 heldKeys number x1) heldWhats closers closerMakes stands)) (va_runV (As := [.int number, .int x1]) (rest := []) ⟨hx, hb, hml, hown, hts⟩ (tX4_set l dC dI cyI cyO cyL w1 w2 120 heldKeys number x1 _ (rSet 120 heldKeys number x1) rfl (by decide)) (cwV 2 hts (gV ml_X6_56 im_X4_set se_X4_set in_X4 co_X4_set) rfl rfl rfl (by decide +kernel) ⟨Nat.le_of_ble_eq_true rfl, Nat.le_of_ble_eq_true rfl⟩) (cP_V hK hP hD [1, 2] rfl rfl 1 rfl rfl) rfl rfl hl.1 rfl (lv_room (Nat.le_of_ble_eq_true rfl)) dX6_add_9 ⟨Nat.zero_le _, Nat.zero_le _⟩) hP hD hS hA [1, 2] rfl [(false, 0), (true, 0), (true, 1), (false, 3), (false, 4), (false, 5), (false, 6), (false, 7), (false, 8), (false, 9), (false, 10)] rfl rfl rfl (fun H locs hP hD hS => ?_)
  refine lv_aload_n hx hb dX6_add_12 rfl (lv_at hl 0 rfl) ?_
  refine va_get (D := (dC, dI)) (ci := 6) (v := .ref w3) (C := RX6) (T := TX6) (N := 6) hx hb hts (fun w h9 => gb_mem (lay_X6 w h9)) hown hK.1 hP 0 rfl rfl 2 (by decide) (hts _ (gb_mem fl_X6_24)) (fun _ h9 => h9) rfl dX6_add_13 ?_
  refine lv_aload_n hx hb dX6_add_16 rfl (lv_at hl 0 rfl) ?_
  refine va_get (D := (dC, dI)) (ci := 6) (v := .int number) (C := RX6) (T := TX6) (N := 6) hx hb hts (fun w h9 => gb_mem (lay_X6 w h9)) hown hK.1 hP 0 rfl rfl 0 (by decide) (hts _ (gb_mem fl_X6_9)) (fun _ h9 => h9) rfl dX6_add_17 ?_
  refine lv_iload_n hx hb dX6_add_20 rfl (lv_at hl 2 rfl) ?_
  refine fr_v (M := (rowW cyI w3 w4 120 heldWhats)) (M' := (rowW cyI w3 w4 120 (rSet 120 heldWhats number x2))) (L' := (wrapsW cyI w0 w1 w2 w3 w4 w5 w6 w7 w8 w9 w10 number (rSet 120 heldKeys number x1) (rSet 120 heldWhats number x2) closers closerMakes stands)) (va_runV (As := [.int number, .int x2]) (rest := []) ⟨hx, hb, hml, hown, hts⟩ (tX4_set l dC dI cyI cyO cyL w3 w4 120 heldWhats number x2 _ (rSet 120 heldWhats number x2) rfl (by decide)) (cwV 2 hts (gV ml_X6_56 im_X4_set se_X4_set in_X4 co_X4_set) rfl rfl rfl (by decide +kernel) ⟨Nat.le_of_ble_eq_true rfl, Nat.le_of_ble_eq_true rfl⟩) (cP_V hK hP hD [3, 4] rfl rfl 3 rfl rfl) rfl rfl hl.1 rfl (lv_room (Nat.le_of_ble_eq_true rfl)) dX6_add_21 ⟨Nat.zero_le _, Nat.zero_le _⟩) hP hD hS hA [3, 4] rfl [(false, 0), (false, 1), (false, 2), (true, 0), (true, 1), (false, 5), (false, 6), (false, 7), (false, 8), (false, 9), (false, 10)] rfl rfl rfl (fun H locs hP hD hS => ?_)
  refine lv_aload_n hx hb dX6_add_24 rfl (lv_at hl 0 rfl) ?_
  refine va_get (D := (dC, dI)) (ci := 6) (v := .ref w5) (C := RX6) (T := TX6) (N := 6) hx hb hts (fun w h9 => gb_mem (lay_X6 w h9)) hown hK.1 hP 0 rfl rfl 3 (by decide) (hts _ (gb_mem fl_X6_27)) (fun _ h9 => h9) rfl dX6_add_25 ?_
  refine lv_aload_n hx hb dX6_add_28 rfl (lv_at hl 0 rfl) ?_
  refine va_get (D := (dC, dI)) (ci := 6) (v := .int number) (C := RX6) (T := TX6) (N := 6) hx hb hts (fun w h9 => gb_mem (lay_X6 w h9)) hown hK.1 hP 0 rfl rfl 0 (by decide) (hts _ (gb_mem fl_X6_9)) (fun _ h9 => h9) rfl dX6_add_29 ?_
  refine lv_iload_n hx hb dX6_add_32 rfl (lv_at hl 3 rfl) ?_
  refine fr_v (M := (rowW cyI w5 w6 120 closers)) (M' := (rowW cyI w5 w6 120 (rSet 120 closers number x3))) (L' := (wrapsW cyI w0 w1 w2 w3 w4 w5 w6 w7 w8 w9 w10 number (rSet 120 heldKeys number x1) (rSet 120 heldWhats number x2) (rSet 120 closers number x3) closerMakes stands)) (va_runV (As := [.int number, .int x3]) (rest := []) ⟨hx, hb, hml, hown, hts⟩ (tX4_set l dC dI cyI cyO cyL w5 w6 120 closers number x3 _ (rSet 120 closers number x3) rfl (by decide)) (cwV 2 hts (gV ml_X6_56 im_X4_set se_X4_set in_X4 co_X4_set) rfl rfl rfl (by decide +kernel) ⟨Nat.le_of_ble_eq_true rfl, Nat.le_of_ble_eq_true rfl⟩) (cP_V hK hP hD [5, 6] rfl rfl 5 rfl rfl) rfl rfl hl.1 rfl (lv_room (Nat.le_of_ble_eq_true rfl)) dX6_add_33 ⟨Nat.zero_le _, Nat.zero_le _⟩) hP hD hS hA [5, 6] rfl [(false, 0), (false, 1), (false, 2), (false, 3), (false, 4), (true, 0), (true, 1), (false, 7), (false, 8), (false, 9), (false, 10)] rfl rfl rfl (fun H locs hP hD hS => ?_)
  refine lv_aload_n hx hb dX6_add_36 rfl (lv_at hl 0 rfl) ?_
  refine va_get (D := (dC, dI)) (ci := 6) (v := .ref w7) (C := RX6) (T := TX6) (N := 6) hx hb hts (fun w h9 => gb_mem (lay_X6 w h9)) hown hK.1 hP 0 rfl rfl 4 (by decide) (hts _ (gb_mem fl_X6_30)) (fun _ h9 => h9) rfl dX6_add_37 ?_
  refine lv_aload_n hx hb dX6_add_40 rfl (lv_at hl 0 rfl) ?_
  refine va_get (D := (dC, dI)) (ci := 6) (v := .int number) (C := RX6) (T := TX6) (N := 6) hx hb hts (fun w h9 => gb_mem (lay_X6 w h9)) hown hK.1 hP 0 rfl rfl 0 (by decide) (hts _ (gb_mem fl_X6_9)) (fun _ h9 => h9) rfl dX6_add_41 ?_
  refine lv_iload hx hb dX6_add_44 (lv_at hl 4 rfl) ?_
  refine fr_v (M := (rowW cyI w7 w8 120 closerMakes)) (M' := (rowW cyI w7 w8 120 (rSet 120 closerMakes number x4))) (L' := (wrapsW cyI w0 w1 w2 w3 w4 w5 w6 w7 w8 w9 w10 number (rSet 120 heldKeys number x1) (rSet 120 heldWhats number x2) (rSet 120 closers number x3) (rSet 120 closerMakes number x4) stands)) (va_runV (As := [.int number, .int x4]) (rest := []) ⟨hx, hb, hml, hown, hts⟩ (tX4_set l dC dI cyI cyO cyL w7 w8 120 closerMakes number x4 _ (rSet 120 closerMakes number x4) rfl (by decide)) (cwV 2 hts (gV ml_X6_56 im_X4_set se_X4_set in_X4 co_X4_set) rfl rfl rfl (by decide +kernel) ⟨Nat.le_of_ble_eq_true rfl, Nat.le_of_ble_eq_true rfl⟩) (cP_V hK hP hD [7, 8] rfl rfl 7 rfl rfl) rfl rfl hl.1 rfl (lv_room (Nat.le_of_ble_eq_true rfl)) dX6_add_46 ⟨Nat.zero_le _, Nat.zero_le _⟩) hP hD hS hA [7, 8] rfl [(false, 0), (false, 1), (false, 2), (false, 3), (false, 4), (false, 5), (false, 6), (true, 0), (true, 1), (false, 9), (false, 10)] rfl rfl rfl (fun H locs hP hD hS => ?_)
  refine lv_aload_n hx hb dX6_add_49 rfl (lv_at hl 0 rfl) ?_
  refine va_get (D := (dC, dI)) (ci := 6) (v := .ref w9) (C := RX6) (T := TX6) (N := 6) hx hb hts (fun w h9 => gb_mem (lay_X6 w h9)) hown hK.1 hP 0 rfl rfl 5 (by decide) (hts _ (gb_mem fl_X6_33)) (fun _ h9 => h9) rfl dX6_add_50 ?_
  refine lv_aload_n hx hb dX6_add_53 rfl (lv_at hl 0 rfl) ?_
  refine va_get (D := (dC, dI)) (ci := 6) (v := .int number) (C := RX6) (T := TX6) (N := 6) hx hb hts (fun w h9 => gb_mem (lay_X6 w h9)) hown hK.1 hP 0 rfl rfl 0 (by decide) (hts _ (gb_mem fl_X6_9)) (fun _ h9 => h9) rfl dX6_add_54 ?_
  refine lv_bipush (v := 8) hx hb dX6_add_57 (by decide) ?_
  refine fr_v (M := (rowW cyI w9 w10 120 stands)) (M' := (rowW cyI w9 w10 120 (rSet 120 stands number 8))) (L' := (wrapsW cyI w0 w1 w2 w3 w4 w5 w6 w7 w8 w9 w10 number (rSet 120 heldKeys number x1) (rSet 120 heldWhats number x2) (rSet 120 closers number x3) (rSet 120 closerMakes number x4) (rSet 120 stands number 8))) (va_runV (As := [.int number, .int 8]) (rest := []) ⟨hx, hb, hml, hown, hts⟩ (tX4_set l dC dI cyI cyO cyL w9 w10 120 stands number 8 _ (rSet 120 stands number 8) rfl (by decide)) (cwV 2 hts (gV ml_X6_56 im_X4_set se_X4_set in_X4 co_X4_set) rfl rfl rfl (by decide +kernel) ⟨Nat.le_of_ble_eq_true rfl, Nat.le_of_ble_eq_true rfl⟩) (cP_V hK hP hD [9, 10] rfl rfl 9 rfl rfl) rfl rfl hl.1 rfl (lv_room (Nat.le_of_ble_eq_true rfl)) dX6_add_59 ⟨Nat.zero_le _, Nat.zero_le _⟩) hP hD hS hA [9, 10] rfl [(false, 0), (false, 1), (false, 2), (false, 3), (false, 4), (false, 5), (false, 6), (false, 7), (false, 8), (true, 0), (true, 1)] rfl rfl rfl (fun H locs hP hD hS => ?_)
  refine lv_aload_n hx hb dX6_add_62 rfl (lv_at hl 0 rfl) ?_
  refine lv_dup hx hb dX6_add_63 rfl ?_
  refine va_get (D := (dC, dI)) (ci := 6) (v := .int number) (C := RX6) (T := TX6) (N := 6) hx hb hts (fun w h9 => gb_mem (lay_X6 w h9)) hown hK.1 hP 0 rfl rfl 0 (by decide) (hts _ (gb_mem fl_X6_9)) (fun _ h9 => h9) rfl dX6_add_64 ?_
  refine lv_iconst (v := 1) hx hb dX6_add_67 (by decide) ?_
  refine lv_iadd hx hb dX6_add_68 ?_
  refine va_put (D := (dC, dI)) (ci := 6) (v := .int (number + 1)) (ty := .int) (C := RX6) (T := TX6) (N := 6) hx hb hts (fun w h9 => gb_mem (lay_X6 w h9)) tyX6 tyX6_ok nmX6 hown hK.1 hP hD hS 0 rfl rfl 0 (by decide) (hts _ (gb_mem fl_X6_9)) (fun _ h9 => h9) rfl (by decide +kernel) rfl rfl (Nat.le_of_ble_eq_true rfl) dX6_add_69 (fun H locs hP hD hS => ?_)
  have hP : va_P (dC, dI) vwCl (wrapsW cyI w0 w1 w2 w3 w4 w5 w6 w7 w8 w9 w10 (number + 1) (rSet 120 heldKeys number x1) (rSet 120 heldWhats number x2) (rSet 120 closers number x3) (rSet 120 closerMakes number x4) (rSet 120 stands number 8)) H := hP
  have hD : va_D A (wrapsW cyI w0 w1 w2 w3 w4 w5 w6 w7 w8 w9 w10 (number + 1) (rSet 120 heldKeys number x1) (rSet 120 heldWhats number x2) (rSet 120 closers number x3) (rSet 120 closerMakes number x4) (rSet 120 stands number 8)) := hD
  obtain rfl := Option.some.inj h
  exact e_v hx hb hr hlocks hP hS dX6_add_72

noncomputable def fX6_standAlsoIn (stands : Nat → Int32) (x1 : Int32) (x2 : Int32) : (Nat → Int32) :=
  ((rSet 120 stands x1 ((rAt 120 stands x1) ||| (fX7_setOf x2))))
set_option maxHeartbeats 1000000 in
set_option maxRecDepth 100000 in
theorem mX6_standAlsoIn (l : Launch) (dC : Nat → ClassId) (dI : Nat → Nat → Nat) (cyI cyO cyL : ClassId) (w0 w1 w2 w3 w4 w5 w6 w7 w8 w9 w10 : Nat) (number : Int32) (heldKeys : Nat → Int32) (heldWhats : Nat → Int32) (closers : Nat → Int32) (closerMakes : Nat → Int32) (stands : Nat → Int32) (x1 : Int32) (x2 : Int32) (sz : Nat) (res : (Nat → Int32)) (h : fX6_standAlsoIn stands x1 x2 = res) : Met l yX6_standAlsoIn (wsG yX6_standAlsoIn cX6_standAlsoIn 3 none) ({ frames := 1, cells := 0, slots := 0, locals := 22 }) (cP dC dI cyI cyO cyL sz [.ref w0, .int x1, .int x2] (wrapsW cyI w0 w1 w2 w3 w4 w5 w6 w7 w8 w9 w10 number heldKeys heldWhats closers closerMakes stands)) (cV dC dI (wrapsW cyI w0 w1 w2 w3 w4 w5 w6 w7 w8 w9 w10 number heldKeys heldWhats closers closerMakes res) (va_A (wrapsW cyI w0 w1 w2 w3 w4 w5 w6 w7 w8 w9 w10 number heldKeys heldWhats closers closerMakes stands) sz)) 0 0 (va_A (wrapsW cyI w0 w1 w2 w3 w4 w5 w6 w7 w8 w9 w10 number heldKeys heldWhats closers closerMakes stands) sz) := by
  refine Met.ofW (cc := cX6_standAlsoIn) (maxL := 3) (ret := none) (by decide) rfl ?_
  intro p e s m args below meth c s₁ B hml hv
  obtain ⟨rfl, hsz, hP, hK, hD0⟩ := hv
  have hx := B.exec
  have hb := B.bytes
  have hr := B.returns
  have hts := atoms_spec (ws := wsG yX6_standAlsoIn cX6_standAlsoIn 3 none) B.pre
  have hown : s.vm.findClass RX6 = some m.cls := findClass_of_methodNamed B.named
  have hlocks := B.notSynchronized
  subst hsz
  have hD := hD0.self (sz := s.heap.size)
  generalize hAe : va_A (wrapsW cyI w0 w1 w2 w3 w4 w5 w6 w7 w8 w9 w10 number heldKeys heldWhats closers closerMakes stands) s.heap.size = A at hD ⊢
  have hA : ∀ q : Nat, s.heap.size ≤ q → A q := fun q h => by rw [← hAe]; exact Or.inr h
  have hS : va_S A s.heap s.heap [] := va_S.rf
  have hl := lv_entry ([.ref w0, .int x1, .int x2]) (n := 3) (Nat.le_of_ble_eq_true rfl)
  rw [lg_entry_eq]
  generalize (lg_sl ([.ref w0, .int x1, .int x2]) ++ List.replicate (3 - (lg_sl ([.ref w0, .int x1, .int x2])).length) Slot.unset).toArray = ls at hl ⊢
  have hl : lv_has ls 3 [(0, .ref w0), (1, .int x1), (2, .int x2)] := hl
  unfold fX6_standAlsoIn at h
  refine lv_aload_n hx hb dX6_standAlsoIn_0 rfl (lv_at hl 0 rfl) ?_
  refine va_get (D := (dC, dI)) (ci := 6) (v := .ref w9) (C := RX6) (T := TX6) (N := 6) hx hb hts (fun w h9 => gb_mem (lay_X6 w h9)) hown hK.1 hP 0 rfl rfl 5 (by decide) (hts _ (gb_mem fl_X6_33)) (fun _ h9 => h9) rfl dX6_standAlsoIn_1 ?_
  refine lv_iload_n hx hb dX6_standAlsoIn_4 rfl (lv_at hl 1 rfl) ?_
  refine lv_aload_n hx hb dX6_standAlsoIn_5 rfl (lv_at hl 0 rfl) ?_
  refine va_get (D := (dC, dI)) (ci := 6) (v := .ref w9) (C := RX6) (T := TX6) (N := 6) hx hb hts (fun w h9 => gb_mem (lay_X6 w h9)) hown hK.1 hP 0 rfl rfl 5 (by decide) (hts _ (gb_mem fl_X6_33)) (fun _ h9 => h9) rfl dX6_standAlsoIn_6 ?_
  refine lv_iload_n hx hb dX6_standAlsoIn_9 rfl (lv_at hl 1 rfl) ?_
  refine fr_ir (M := (rowW cyI w9 w10 120 stands)) (va_runV (As := [.int x1]) (rest := [.int x1, .ref w9]) ⟨hx, hb, hml, hown, hts⟩ (tX4_at l dC dI cyI cyO cyL w9 w10 120 stands x1 _ (rAt 120 stands x1) rfl (by decide)) (cwV 1 hts (gV ml_X6_36 im_X4_at se_X4_at in_X4 co_X4_at) rfl rfl rfl (by decide +kernel) ⟨Nat.le_of_ble_eq_true rfl, Nat.le_of_ble_eq_true rfl⟩) (cP_V hK hP hD [9, 10] rfl rfl 9 rfl rfl) rfl rfl hl.1 rfl (lv_room (Nat.le_of_ble_eq_true rfl)) dX6_standAlsoIn_10 ⟨Nat.zero_le _, Nat.zero_le _⟩) hP hD hS hA [9, 10] rfl (fun H locs hP hS => ?_)
  refine lv_iload_n hx hb dX6_standAlsoIn_13 rfl (lv_at hl 2 rfl) ?_
  refine fr_ir (M := ([] : va_W)) (va_runSN (host := "HangingKeys") (As := [.int x2]) (rest := [.int (rAt 120 stands x1), .int x1, .ref w9]) ⟨hx, hb, hml, hown, hts⟩ (mX7_setOf l dC dI cyI cyO cyL x2 _ (fX7_setOf x2) rfl) ⟨va_cnB 1 hts (gW co_X7_setOf) rfl rfl rfl (hK.2 _ nl_X6_60) (hts _ (gb_mem in_X7)) (by decide +kernel) ⟨Nat.le_of_ble_eq_true rfl, Nat.le_of_ble_eq_true rfl⟩, hts _ (gb_mem st_X7_setOf), trivial⟩ (cP_S hK hP hD [] rfl rfl) rfl rfl hl.1 rfl (lv_room (Nat.le_of_ble_eq_true rfl)) dX6_standAlsoIn_14 ⟨Nat.zero_le _, Nat.zero_le _⟩) hP hD hS hA [] rfl (fun H locs hP hS => ?_)
  refine lv_ior hx hb dX6_standAlsoIn_17 ?_
  refine fr_v (M := (rowW cyI w9 w10 120 stands)) (M' := (rowW cyI w9 w10 120 (rSet 120 stands x1 ((rAt 120 stands x1) ||| (fX7_setOf x2))))) (L' := (wrapsW cyI w0 w1 w2 w3 w4 w5 w6 w7 w8 w9 w10 number heldKeys heldWhats closers closerMakes (rSet 120 stands x1 ((rAt 120 stands x1) ||| (fX7_setOf x2))))) (va_runV (As := [.int x1, .int ((rAt 120 stands x1) ||| (fX7_setOf x2))]) (rest := []) ⟨hx, hb, hml, hown, hts⟩ (tX4_set l dC dI cyI cyO cyL w9 w10 120 stands x1 ((rAt 120 stands x1) ||| (fX7_setOf x2)) _ (rSet 120 stands x1 ((rAt 120 stands x1) ||| (fX7_setOf x2))) rfl (by decide)) (cwV 2 hts (gV ml_X6_56 im_X4_set se_X4_set in_X4 co_X4_set) rfl rfl rfl (by decide +kernel) ⟨Nat.le_of_ble_eq_true rfl, Nat.le_of_ble_eq_true rfl⟩) (cP_V hK hP hD [9, 10] rfl rfl 9 rfl rfl) rfl rfl hl.1 rfl (lv_room (Nat.le_of_ble_eq_true rfl)) dX6_standAlsoIn_18 ⟨Nat.zero_le _, Nat.zero_le _⟩) hP hD hS hA [9, 10] rfl [(false, 0), (false, 1), (false, 2), (false, 3), (false, 4), (false, 5), (false, 6), (false, 7), (false, 8), (true, 0), (true, 1)] rfl rfl rfl (fun H locs hP hD hS => ?_)
  obtain rfl := h
  exact e_v hx hb hr hlocks hP hS dX6_standAlsoIn_21

noncomputable def fX6_burn (stands : Nat → Int32) (x1 : Int32) : (Nat → Int32) :=
  ((rSet 120 stands x1 ((rAt 120 stands x1) &&& 7)))
set_option maxHeartbeats 1000000 in
set_option maxRecDepth 100000 in
theorem mX6_burn (l : Launch) (dC : Nat → ClassId) (dI : Nat → Nat → Nat) (cyI cyO cyL : ClassId) (w0 w1 w2 w3 w4 w5 w6 w7 w8 w9 w10 : Nat) (number : Int32) (heldKeys : Nat → Int32) (heldWhats : Nat → Int32) (closers : Nat → Int32) (closerMakes : Nat → Int32) (stands : Nat → Int32) (x1 : Int32) (sz : Nat) (res : (Nat → Int32)) (h : fX6_burn stands x1 = res) : Met l yX6_burn (wsG yX6_burn cX6_burn 2 none) ({ frames := 1, cells := 0, slots := 0, locals := 22 }) (cP dC dI cyI cyO cyL sz [.ref w0, .int x1] (wrapsW cyI w0 w1 w2 w3 w4 w5 w6 w7 w8 w9 w10 number heldKeys heldWhats closers closerMakes stands)) (cV dC dI (wrapsW cyI w0 w1 w2 w3 w4 w5 w6 w7 w8 w9 w10 number heldKeys heldWhats closers closerMakes res) (va_A (wrapsW cyI w0 w1 w2 w3 w4 w5 w6 w7 w8 w9 w10 number heldKeys heldWhats closers closerMakes stands) sz)) 0 0 (va_A (wrapsW cyI w0 w1 w2 w3 w4 w5 w6 w7 w8 w9 w10 number heldKeys heldWhats closers closerMakes stands) sz) := by
  refine Met.ofW (cc := cX6_burn) (maxL := 2) (ret := none) (by decide) rfl ?_
  intro p e s m args below meth c s₁ B hml hv
  obtain ⟨rfl, hsz, hP, hK, hD0⟩ := hv
  have hx := B.exec
  have hb := B.bytes
  have hr := B.returns
  have hts := atoms_spec (ws := wsG yX6_burn cX6_burn 2 none) B.pre
  have hown : s.vm.findClass RX6 = some m.cls := findClass_of_methodNamed B.named
  have hlocks := B.notSynchronized
  subst hsz
  have hD := hD0.self (sz := s.heap.size)
  generalize hAe : va_A (wrapsW cyI w0 w1 w2 w3 w4 w5 w6 w7 w8 w9 w10 number heldKeys heldWhats closers closerMakes stands) s.heap.size = A at hD ⊢
  have hA : ∀ q : Nat, s.heap.size ≤ q → A q := fun q h => by rw [← hAe]; exact Or.inr h
  have hS : va_S A s.heap s.heap [] := va_S.rf
  have hl := lv_entry ([.ref w0, .int x1]) (n := 2) (Nat.le_of_ble_eq_true rfl)
  rw [lg_entry_eq]
  generalize (lg_sl ([.ref w0, .int x1]) ++ List.replicate (2 - (lg_sl ([.ref w0, .int x1])).length) Slot.unset).toArray = ls at hl ⊢
  have hl : lv_has ls 2 [(0, .ref w0), (1, .int x1)] := hl
  unfold fX6_burn at h
  refine lv_aload_n hx hb dX6_burn_0 rfl (lv_at hl 0 rfl) ?_
  refine va_get (D := (dC, dI)) (ci := 6) (v := .ref w9) (C := RX6) (T := TX6) (N := 6) hx hb hts (fun w h9 => gb_mem (lay_X6 w h9)) hown hK.1 hP 0 rfl rfl 5 (by decide) (hts _ (gb_mem fl_X6_33)) (fun _ h9 => h9) rfl dX6_burn_1 ?_
  refine lv_iload_n hx hb dX6_burn_4 rfl (lv_at hl 1 rfl) ?_
  refine lv_aload_n hx hb dX6_burn_5 rfl (lv_at hl 0 rfl) ?_
  refine va_get (D := (dC, dI)) (ci := 6) (v := .ref w9) (C := RX6) (T := TX6) (N := 6) hx hb hts (fun w h9 => gb_mem (lay_X6 w h9)) hown hK.1 hP 0 rfl rfl 5 (by decide) (hts _ (gb_mem fl_X6_33)) (fun _ h9 => h9) rfl dX6_burn_6 ?_
  refine lv_iload_n hx hb dX6_burn_9 rfl (lv_at hl 1 rfl) ?_
  refine fr_ir (M := (rowW cyI w9 w10 120 stands)) (va_runV (As := [.int x1]) (rest := [.int x1, .ref w9]) ⟨hx, hb, hml, hown, hts⟩ (tX4_at l dC dI cyI cyO cyL w9 w10 120 stands x1 _ (rAt 120 stands x1) rfl (by decide)) (cwV 1 hts (gV ml_X6_36 im_X4_at se_X4_at in_X4 co_X4_at) rfl rfl rfl (by decide +kernel) ⟨Nat.le_of_ble_eq_true rfl, Nat.le_of_ble_eq_true rfl⟩) (cP_V hK hP hD [9, 10] rfl rfl 9 rfl rfl) rfl rfl hl.1 rfl (lv_room (Nat.le_of_ble_eq_true rfl)) dX6_burn_10 ⟨Nat.zero_le _, Nat.zero_le _⟩) hP hD hS hA [9, 10] rfl (fun H locs hP hS => ?_)
  refine lv_bipush (v := 7) hx hb dX6_burn_13 (by decide) ?_
  refine lv_iand hx hb dX6_burn_15 ?_
  refine fr_v (M := (rowW cyI w9 w10 120 stands)) (M' := (rowW cyI w9 w10 120 (rSet 120 stands x1 ((rAt 120 stands x1) &&& 7)))) (L' := (wrapsW cyI w0 w1 w2 w3 w4 w5 w6 w7 w8 w9 w10 number heldKeys heldWhats closers closerMakes (rSet 120 stands x1 ((rAt 120 stands x1) &&& 7)))) (va_runV (As := [.int x1, .int ((rAt 120 stands x1) &&& 7)]) (rest := []) ⟨hx, hb, hml, hown, hts⟩ (tX4_set l dC dI cyI cyO cyL w9 w10 120 stands x1 ((rAt 120 stands x1) &&& 7) _ (rSet 120 stands x1 ((rAt 120 stands x1) &&& 7)) rfl (by decide)) (cwV 2 hts (gV ml_X6_56 im_X4_set se_X4_set in_X4 co_X4_set) rfl rfl rfl (by decide +kernel) ⟨Nat.le_of_ble_eq_true rfl, Nat.le_of_ble_eq_true rfl⟩) (cP_V hK hP hD [9, 10] rfl rfl 9 rfl rfl) rfl rfl hl.1 rfl (lv_room (Nat.le_of_ble_eq_true rfl)) dX6_burn_16 ⟨Nat.zero_le _, Nat.zero_le _⟩) hP hD hS hA [9, 10] rfl [(false, 0), (false, 1), (false, 2), (false, 3), (false, 4), (false, 5), (false, 6), (false, 7), (false, 8), (true, 0), (true, 1)] rfl rfl rfl (fun H locs hP hD hS => ?_)
  obtain rfl := h
  exact e_v hx hb hr hlocks hP hS dX6_burn_19
noncomputable def fX6_burnHolding_b2 : Nat → Int32 → (Nat → Int32) → (Nat → Int32) → (Nat → Int32) → Int32 → Int32 → Int32 → Option ((Nat → Int32))
  | 0, _, _, _, _, _, _, _ => none
  | fuel + 1, number, heldKeys, heldWhats, stands, y1, y2, y3 =>
  (if number ≤ y3 then (some stands) else (if (rAt 120 heldKeys y3) = (-6) then (if (fX7_has y2 (rAt 120 heldWhats y3)) = 0 then fX6_burnHolding_b2 fuel number heldKeys heldWhats stands y1 y2 (y3 + 1) else fX6_burnHolding_b2 fuel number heldKeys heldWhats (fX6_burn stands y3) y1 y2 (y3 + 1)) else (if (fX7_has y1 (rAt 120 heldKeys y3)) = 0 then fX6_burnHolding_b2 fuel number heldKeys heldWhats stands y1 y2 (y3 + 1) else fX6_burnHolding_b2 fuel number heldKeys heldWhats (fX6_burn stands y3) y1 y2 (y3 + 1))))

noncomputable def fX6_burnHolding (number : Int32) (heldKeys : Nat → Int32) (heldWhats : Nat → Int32) (stands : Nat → Int32) (x1 : Int32) (x2 : Int32) : Option ((Nat → Int32)) :=
  fX6_burnHolding_b2 6000 number heldKeys heldWhats stands x1 x2 0
set_option maxHeartbeats 1000000 in
set_option maxRecDepth 100000 in
theorem mX6_burnHolding (l : Launch) (dC : Nat → ClassId) (dI : Nat → Nat → Nat) (cyI cyO cyL : ClassId) (w0 w1 w2 w3 w4 w5 w6 w7 w8 w9 w10 : Nat) (number : Int32) (heldKeys : Nat → Int32) (heldWhats : Nat → Int32) (closers : Nat → Int32) (closerMakes : Nat → Int32) (stands : Nat → Int32) (x1 : Int32) (x2 : Int32) (sz : Nat) (res : (Nat → Int32)) (h : fX6_burnHolding number heldKeys heldWhats stands x1 x2 = some res) : Met l yX6_burnHolding (wsG yX6_burnHolding cX6_burnHolding 5 none) ({ frames := 2, cells := 0, slots := 0, locals := 43 }) (cP dC dI cyI cyO cyL sz [.ref w0, .int x1, .int x2] (wrapsW cyI w0 w1 w2 w3 w4 w5 w6 w7 w8 w9 w10 number heldKeys heldWhats closers closerMakes stands)) (cV dC dI (wrapsW cyI w0 w1 w2 w3 w4 w5 w6 w7 w8 w9 w10 number heldKeys heldWhats closers closerMakes res) (va_A (wrapsW cyI w0 w1 w2 w3 w4 w5 w6 w7 w8 w9 w10 number heldKeys heldWhats closers closerMakes stands) sz)) 0 0 (va_A (wrapsW cyI w0 w1 w2 w3 w4 w5 w6 w7 w8 w9 w10 number heldKeys heldWhats closers closerMakes stands) sz) := by
  refine Met.ofW (cc := cX6_burnHolding) (maxL := 5) (ret := none) (by decide) rfl ?_
  intro p e s m args below meth c s₁ B hml hv
  obtain ⟨rfl, hsz, hP, hK, hD0⟩ := hv
  have hx := B.exec
  have hb := B.bytes
  have hr := B.returns
  have hts := atoms_spec (ws := wsG yX6_burnHolding cX6_burnHolding 5 none) B.pre
  have hown : s.vm.findClass RX6 = some m.cls := findClass_of_methodNamed B.named
  have hlocks := B.notSynchronized
  subst hsz
  have hD := hD0.self (sz := s.heap.size)
  generalize hAe : va_A (wrapsW cyI w0 w1 w2 w3 w4 w5 w6 w7 w8 w9 w10 number heldKeys heldWhats closers closerMakes stands) s.heap.size = A at hD ⊢
  have hA : ∀ q : Nat, s.heap.size ≤ q → A q := fun q h => by rw [← hAe]; exact Or.inr h
  have hS : va_S A s.heap s.heap [] := va_S.rf
  have kB2 : ∀ (fuel : Nat) (number : Int32) (heldKeys : Nat → Int32) (heldWhats : Nat → Int32) (stands : Nat → Int32) (y1 : Int32) (y2 : Int32) (y3 : Int32), fX6_burnHolding_b2 fuel number heldKeys heldWhats stands y1 y2 y3 = some res → ∀ (H : Heap) (locs : List Loc), va_P (dC, dI) vwCl (wrapsW cyI w0 w1 w2 w3 w4 w5 w6 w7 w8 w9 w10 number heldKeys heldWhats closers closerMakes stands) H → va_D A (wrapsW cyI w0 w1 w2 w3 w4 w5 w6 w7 w8 w9 w10 number heldKeys heldWhats closers closerMakes stands) → va_S A s.heap H locs → ∀ ls : Array Slot, lv_has ls 5 [(0, .ref w0), (1, .int y1), (2, .int y2), (3, .int y3)] → W p l e (headSpec (wsG yX6_burnHolding cX6_burnHolding 5 none) ({ frames := 2, cells := 0, slots := 0, locals := 43 })).room s m (([.ref w0, .int x1, .int x2] : List Value).toArray) below meth c H locs 0 0 (MQ below (cV dC dI (wrapsW cyI w0 w1 w2 w3 w4 w5 w6 w7 w8 w9 w10 number heldKeys heldWhats closers closerMakes res) A) ([.ref w0, .int x1, .int x2] : List Value).toArray s 0 0 A) (F0 m 2 ls []) := by
    intro fuel
    induction fuel with
    | zero => intro number heldKeys heldWhats stands y1 y2 y3 h; rw [fX6_burnHolding_b2] at h; cases h
    | succ fuel ih =>
      intro number heldKeys heldWhats stands y1 y2 y3 h H locs hP hD hS ls hl
      rw [fX6_burnHolding_b2] at h
      refine lv_iload_n hx hb dX6_burnHolding_2 rfl (lv_at hl 3 rfl) ?_
      refine lv_aload_n hx hb dX6_burnHolding_3 rfl (lv_at hl 0 rfl) ?_
      refine va_get (D := (dC, dI)) (ci := 6) (v := .int number) (C := RX6) (T := TX6) (N := 6) hx hb hts (fun w h9 => gb_mem (lay_X6 w h9)) hown hK.1 hP 0 rfl rfl 0 (by decide) (hts _ (gb_mem fl_X6_9)) (fun _ h9 => h9) rfl dX6_burnHolding_4 ?_
      refine lv_icmp_ge (tgt := 68) hx hb dX6_burnHolding_7 (by decide) (fun c1 => ?_) (fun c1 => ?_)
      · have h := (if_pos c1).symm.trans h
        obtain rfl := Option.some.inj h
        exact e_v hx hb hr hlocks hP hS dX6_burnHolding_68
      · have h := (if_neg c1).symm.trans h
        refine lv_aload_n hx hb dX6_burnHolding_10 rfl (lv_at hl 0 rfl) ?_
        refine va_get (D := (dC, dI)) (ci := 6) (v := .ref w1) (C := RX6) (T := TX6) (N := 6) hx hb hts (fun w h9 => gb_mem (lay_X6 w h9)) hown hK.1 hP 0 rfl rfl 1 (by decide) (hts _ (gb_mem fl_X6_20)) (fun _ h9 => h9) rfl dX6_burnHolding_11 ?_
        refine lv_iload_n hx hb dX6_burnHolding_14 rfl (lv_at hl 3 rfl) ?_
        refine fr_ir (M := (rowW cyI w1 w2 120 heldKeys)) (va_runV (As := [.int y3]) (rest := []) ⟨hx, hb, hml, hown, hts⟩ (tX4_at l dC dI cyI cyO cyL w1 w2 120 heldKeys y3 _ (rAt 120 heldKeys y3) rfl (by decide)) (cwV 1 hts (gV ml_X6_36 im_X4_at se_X4_at in_X4 co_X4_at) rfl rfl rfl (by decide +kernel) ⟨Nat.le_of_ble_eq_true rfl, Nat.le_of_ble_eq_true rfl⟩) (cP_V hK hP hD [1, 2] rfl rfl 1 rfl rfl) rfl rfl hl.1 rfl (lv_room (Nat.le_of_ble_eq_true rfl)) dX6_burnHolding_15 ⟨Nat.zero_le _, Nat.zero_le _⟩) hP hD hS hA [1, 2] rfl (fun H locs hP hS => ?_)
        refine lv_bipush (v := (-6)) hx hb dX6_burnHolding_18 (by decide) ?_
        refine lv_icmp_ne (tgt := 38) hx hb dX6_burnHolding_20 (by decide) (fun c2 => ?_) (fun c2 => ?_)
        · have h := (if_neg c2).symm.trans h
          refine lv_iload_n hx hb dX6_burnHolding_38 rfl (lv_at hl 1 rfl) ?_
          refine lv_aload_n hx hb dX6_burnHolding_39 rfl (lv_at hl 0 rfl) ?_
          refine va_get (D := (dC, dI)) (ci := 6) (v := .ref w1) (C := RX6) (T := TX6) (N := 6) hx hb hts (fun w h9 => gb_mem (lay_X6 w h9)) hown hK.1 hP 0 rfl rfl 1 (by decide) (hts _ (gb_mem fl_X6_20)) (fun _ h9 => h9) rfl dX6_burnHolding_40 ?_
          refine lv_iload_n hx hb dX6_burnHolding_43 rfl (lv_at hl 3 rfl) ?_
          refine fr_ir (M := (rowW cyI w1 w2 120 heldKeys)) (va_runV (As := [.int y3]) (rest := [.int y1]) ⟨hx, hb, hml, hown, hts⟩ (tX4_at l dC dI cyI cyO cyL w1 w2 120 heldKeys y3 _ (rAt 120 heldKeys y3) rfl (by decide)) (cwV 1 hts (gV ml_X6_36 im_X4_at se_X4_at in_X4 co_X4_at) rfl rfl rfl (by decide +kernel) ⟨Nat.le_of_ble_eq_true rfl, Nat.le_of_ble_eq_true rfl⟩) (cP_V hK hP hD [1, 2] rfl rfl 1 rfl rfl) rfl rfl hl.1 rfl (lv_room (Nat.le_of_ble_eq_true rfl)) dX6_burnHolding_44 ⟨Nat.zero_le _, Nat.zero_le _⟩) hP hD hS hA [1, 2] rfl (fun H locs hP hS => ?_)
          refine fr_ir (M := ([] : va_W)) (va_runSN (host := "HangingKeys") (As := [.int y1, .int (rAt 120 heldKeys y3)]) (rest := []) ⟨hx, hb, hml, hown, hts⟩ (mX7_has l dC dI cyI cyO cyL y1 (rAt 120 heldKeys y3) _ (fX7_has y1 (rAt 120 heldKeys y3)) rfl) ⟨va_cnB 2 hts (gW co_X7_has) rfl rfl rfl (hK.2 _ nl_X6_63) (hts _ (gb_mem in_X7)) (by decide +kernel) ⟨Nat.le_of_ble_eq_true rfl, Nat.le_of_ble_eq_true rfl⟩, hts _ (gb_mem st_X7_has), trivial⟩ (cP_S hK hP hD [] rfl rfl) rfl rfl hl.1 rfl (lv_room (Nat.le_of_ble_eq_true rfl)) dX6_burnHolding_47 ⟨Nat.zero_le _, Nat.zero_le _⟩) hP hD hS hA [] rfl (fun H locs hP hS => ?_)
          refine lv_istore (lv' := [(4, .int (fX7_has y1 (rAt 120 heldKeys y3))), (0, .ref w0), (1, .int y1), (2, .int y2), (3, .int y3)]) hx hb dX6_burnHolding_50 hl (by decide) rfl (fun ls hl => ?_)
          refine lv_iload hx hb dX6_burnHolding_52 (lv_at hl 0 rfl) ?_
          refine lv_if_eq (tgt := 62) hx hb dX6_burnHolding_54 (by decide) (fun c3 => ?_) (fun c3 => ?_)
          · have h := (if_pos c3).symm.trans h
            refine lv_iinc (v := (y3 + 1)) (lv' := [(3, .int (y3 + 1)), (4, .int (fX7_has y1 (rAt 120 heldKeys y3))), (0, .ref w0), (1, .int y1), (2, .int y2)]) hx hb dX6_burnHolding_62 hl (k := 4) rfl rfl (by decide) rfl (fun ls hl => ?_)
            refine lv_goto (tgt := 2) hx hb dX6_burnHolding_65 (by decide) ?_
            exact ih number heldKeys heldWhats stands y1 y2 (y3 + 1) h _ _ hP hD hS ls (lv_sub hl [2, 3, 4, 0] rfl)
          · have h := (if_neg c3).symm.trans h
            refine lv_aload_n hx hb dX6_burnHolding_57 rfl (lv_at hl 1 rfl) ?_
            refine lv_iload_n hx hb dX6_burnHolding_58 rfl (lv_at hl 4 rfl) ?_
            refine fr_v (M := (wrapsW cyI w0 w1 w2 w3 w4 w5 w6 w7 w8 w9 w10 number heldKeys heldWhats closers closerMakes stands)) (M' := (wrapsW cyI w0 w1 w2 w3 w4 w5 w6 w7 w8 w9 w10 number heldKeys heldWhats closers closerMakes (fX6_burn stands y3))) (L' := (wrapsW cyI w0 w1 w2 w3 w4 w5 w6 w7 w8 w9 w10 number heldKeys heldWhats closers closerMakes (fX6_burn stands y3))) (va_runV (As := [.int y3]) (rest := []) ⟨hx, hb, hml, hown, hts⟩ (mX6_burn l dC dI cyI cyO cyL w0 w1 w2 w3 w4 w5 w6 w7 w8 w9 w10 number heldKeys heldWhats closers closerMakes stands y3 _ (fX6_burn stands y3) rfl) (cwV 1 hts (gV ml_X6_66 im_X6_burn se_X6_burn in_X6 co_X6_burn) rfl rfl rfl (by decide +kernel) ⟨Nat.le_of_ble_eq_true rfl, Nat.le_of_ble_eq_true rfl⟩) (cP_V hK hP hD [0, 1, 2, 3, 4, 5, 6, 7, 8, 9, 10] rfl rfl 0 rfl rfl) rfl rfl hl.1 rfl (lv_room (Nat.le_of_ble_eq_true rfl)) dX6_burnHolding_59 ⟨Nat.zero_le _, Nat.zero_le _⟩) hP hD hS hA [0, 1, 2, 3, 4, 5, 6, 7, 8, 9, 10] rfl [(true, 0), (true, 1), (true, 2), (true, 3), (true, 4), (true, 5), (true, 6), (true, 7), (true, 8), (true, 9), (true, 10)] rfl rfl rfl (fun H locs hP hD hS => ?_)
            refine lv_iinc (v := (y3 + 1)) (lv' := [(3, .int (y3 + 1)), (4, .int (fX7_has y1 (rAt 120 heldKeys y3))), (0, .ref w0), (1, .int y1), (2, .int y2)]) hx hb dX6_burnHolding_62 hl (k := 4) rfl rfl (by decide) rfl (fun ls hl => ?_)
            refine lv_goto (tgt := 2) hx hb dX6_burnHolding_65 (by decide) ?_
            exact ih number heldKeys heldWhats (fX6_burn stands y3) y1 y2 (y3 + 1) h _ _ hP hD hS ls (lv_sub hl [2, 3, 4, 0] rfl)
        · have h := (if_pos c2).symm.trans h
          refine lv_iload_n hx hb dX6_burnHolding_23 rfl (lv_at hl 2 rfl) ?_
          refine lv_aload_n hx hb dX6_burnHolding_24 rfl (lv_at hl 0 rfl) ?_
          refine va_get (D := (dC, dI)) (ci := 6) (v := .ref w3) (C := RX6) (T := TX6) (N := 6) hx hb hts (fun w h9 => gb_mem (lay_X6 w h9)) hown hK.1 hP 0 rfl rfl 2 (by decide) (hts _ (gb_mem fl_X6_24)) (fun _ h9 => h9) rfl dX6_burnHolding_25 ?_
          refine lv_iload_n hx hb dX6_burnHolding_28 rfl (lv_at hl 3 rfl) ?_
          refine fr_ir (M := (rowW cyI w3 w4 120 heldWhats)) (va_runV (As := [.int y3]) (rest := [.int y2]) ⟨hx, hb, hml, hown, hts⟩ (tX4_at l dC dI cyI cyO cyL w3 w4 120 heldWhats y3 _ (rAt 120 heldWhats y3) rfl (by decide)) (cwV 1 hts (gV ml_X6_36 im_X4_at se_X4_at in_X4 co_X4_at) rfl rfl rfl (by decide +kernel) ⟨Nat.le_of_ble_eq_true rfl, Nat.le_of_ble_eq_true rfl⟩) (cP_V hK hP hD [3, 4] rfl rfl 3 rfl rfl) rfl rfl hl.1 rfl (lv_room (Nat.le_of_ble_eq_true rfl)) dX6_burnHolding_29 ⟨Nat.zero_le _, Nat.zero_le _⟩) hP hD hS hA [3, 4] rfl (fun H locs hP hS => ?_)
          refine fr_ir (M := ([] : va_W)) (va_runSN (host := "HangingKeys") (As := [.int y2, .int (rAt 120 heldWhats y3)]) (rest := []) ⟨hx, hb, hml, hown, hts⟩ (mX7_has l dC dI cyI cyO cyL y2 (rAt 120 heldWhats y3) _ (fX7_has y2 (rAt 120 heldWhats y3)) rfl) ⟨va_cnB 2 hts (gW co_X7_has) rfl rfl rfl (hK.2 _ nl_X6_63) (hts _ (gb_mem in_X7)) (by decide +kernel) ⟨Nat.le_of_ble_eq_true rfl, Nat.le_of_ble_eq_true rfl⟩, hts _ (gb_mem st_X7_has), trivial⟩ (cP_S hK hP hD [] rfl rfl) rfl rfl hl.1 rfl (lv_room (Nat.le_of_ble_eq_true rfl)) dX6_burnHolding_32 ⟨Nat.zero_le _, Nat.zero_le _⟩) hP hD hS hA [] rfl (fun H locs hP hS => ?_)
          refine lv_goto (tgt := 50) hx hb dX6_burnHolding_35 (by decide) ?_
          refine lv_istore (lv' := [(4, .int (fX7_has y2 (rAt 120 heldWhats y3))), (0, .ref w0), (1, .int y1), (2, .int y2), (3, .int y3)]) hx hb dX6_burnHolding_50 hl (by decide) rfl (fun ls hl => ?_)
          refine lv_iload hx hb dX6_burnHolding_52 (lv_at hl 0 rfl) ?_
          refine lv_if_eq (tgt := 62) hx hb dX6_burnHolding_54 (by decide) (fun c4 => ?_) (fun c4 => ?_)
          · have h := (if_pos c4).symm.trans h
            refine lv_iinc (v := (y3 + 1)) (lv' := [(3, .int (y3 + 1)), (4, .int (fX7_has y2 (rAt 120 heldWhats y3))), (0, .ref w0), (1, .int y1), (2, .int y2)]) hx hb dX6_burnHolding_62 hl (k := 4) rfl rfl (by decide) rfl (fun ls hl => ?_)
            refine lv_goto (tgt := 2) hx hb dX6_burnHolding_65 (by decide) ?_
            exact ih number heldKeys heldWhats stands y1 y2 (y3 + 1) h _ _ hP hD hS ls (lv_sub hl [2, 3, 4, 0] rfl)
          · have h := (if_neg c4).symm.trans h
            refine lv_aload_n hx hb dX6_burnHolding_57 rfl (lv_at hl 1 rfl) ?_
            refine lv_iload_n hx hb dX6_burnHolding_58 rfl (lv_at hl 4 rfl) ?_
            refine fr_v (M := (wrapsW cyI w0 w1 w2 w3 w4 w5 w6 w7 w8 w9 w10 number heldKeys heldWhats closers closerMakes stands)) (M' := (wrapsW cyI w0 w1 w2 w3 w4 w5 w6 w7 w8 w9 w10 number heldKeys heldWhats closers closerMakes (fX6_burn stands y3))) (L' := (wrapsW cyI w0 w1 w2 w3 w4 w5 w6 w7 w8 w9 w10 number heldKeys heldWhats closers closerMakes (fX6_burn stands y3))) (va_runV (As := [.int y3]) (rest := []) ⟨hx, hb, hml, hown, hts⟩ (mX6_burn l dC dI cyI cyO cyL w0 w1 w2 w3 w4 w5 w6 w7 w8 w9 w10 number heldKeys heldWhats closers closerMakes stands y3 _ (fX6_burn stands y3) rfl) (cwV 1 hts (gV ml_X6_66 im_X6_burn se_X6_burn in_X6 co_X6_burn) rfl rfl rfl (by decide +kernel) ⟨Nat.le_of_ble_eq_true rfl, Nat.le_of_ble_eq_true rfl⟩) (cP_V hK hP hD [0, 1, 2, 3, 4, 5, 6, 7, 8, 9, 10] rfl rfl 0 rfl rfl) rfl rfl hl.1 rfl (lv_room (Nat.le_of_ble_eq_true rfl)) dX6_burnHolding_59 ⟨Nat.zero_le _, Nat.zero_le _⟩) hP hD hS hA [0, 1, 2, 3, 4, 5, 6, 7, 8, 9, 10] rfl [(true, 0), (true, 1), (true, 2), (true, 3), (true, 4), (true, 5), (true, 6), (true, 7), (true, 8), (true, 9), (true, 10)] rfl rfl rfl (fun H locs hP hD hS => ?_)
            refine lv_iinc (v := (y3 + 1)) (lv' := [(3, .int (y3 + 1)), (4, .int (fX7_has y2 (rAt 120 heldWhats y3))), (0, .ref w0), (1, .int y1), (2, .int y2)]) hx hb dX6_burnHolding_62 hl (k := 4) rfl rfl (by decide) rfl (fun ls hl => ?_)
            refine lv_goto (tgt := 2) hx hb dX6_burnHolding_65 (by decide) ?_
            exact ih number heldKeys heldWhats (fX6_burn stands y3) y1 y2 (y3 + 1) h _ _ hP hD hS ls (lv_sub hl [2, 3, 4, 0] rfl)
  have hl := lv_entry ([.ref w0, .int x1, .int x2]) (n := 5) (Nat.le_of_ble_eq_true rfl)
  rw [lg_entry_eq]
  generalize (lg_sl ([.ref w0, .int x1, .int x2]) ++ List.replicate (5 - (lg_sl ([.ref w0, .int x1, .int x2])).length) Slot.unset).toArray = ls at hl ⊢
  have hl : lv_has ls 5 [(0, .ref w0), (1, .int x1), (2, .int x2)] := hl
  unfold fX6_burnHolding at h
  refine lv_iconst (v := 0) hx hb dX6_burnHolding_0 (by decide) ?_
  refine lv_istore_n (lv' := [(3, .int 0), (0, .ref w0), (1, .int x1), (2, .int x2)]) hx hb dX6_burnHolding_1 rfl hl (by decide) rfl (fun ls hl => ?_)
  exact kB2 6000 number heldKeys heldWhats stands x1 x2 0 h _ _ hP hD hS ls (lv_sub hl [1, 2, 3, 0] rfl)
noncomputable def fX6_burnOlderThan_b39 (k2 : Int32 → (Nat → Int32) → (Nat → Int32) → (Nat → Int32) → (Nat → Int32) → (Nat → Int32) → Int32 → Int32 → Int32 → Option ((Nat → Int32))) (number : Int32) (heldKeys : Nat → Int32) (heldWhats : Nat → Int32) (closers : Nat → Int32) (closerMakes : Nat → Int32) (stands : Nat → Int32) (y1 : Int32) (y2 : Int32) (y3 : Int32) (z0 : Int32) : Option ((Nat → Int32)) :=
  (if (rAt 120 closers y3) = y1 then (if y2 ≤ (rAt 120 closerMakes y3) then (if z0 = 0 then k2 number heldKeys heldWhats closers closerMakes stands y1 y2 (y3 + 1) else k2 number heldKeys heldWhats closers closerMakes (fX6_burn stands y3) y1 y2 (y3 + 1)) else (if z0 = 0 then k2 number heldKeys heldWhats closers closerMakes (fX6_burn stands y3) y1 y2 (y3 + 1) else k2 number heldKeys heldWhats closers closerMakes (fX6_burn stands y3) y1 y2 (y3 + 1))) else (if z0 = 0 then k2 number heldKeys heldWhats closers closerMakes stands y1 y2 (y3 + 1) else k2 number heldKeys heldWhats closers closerMakes (fX6_burn stands y3) y1 y2 (y3 + 1)))

noncomputable def fX6_burnOlderThan_b2 : Nat → Int32 → (Nat → Int32) → (Nat → Int32) → (Nat → Int32) → (Nat → Int32) → (Nat → Int32) → Int32 → Int32 → Int32 → Option ((Nat → Int32))
  | 0, _, _, _, _, _, _, _, _, _ => none
  | fuel + 1, number, heldKeys, heldWhats, closers, closerMakes, stands, y1, y2, y3 =>
  (if number ≤ y3 then (some stands) else (if (rAt 120 heldKeys y3) = y1 then (if y2 ≤ (rAt 120 heldWhats y3) then fX6_burnOlderThan_b39 (fX6_burnOlderThan_b2 fuel) number heldKeys heldWhats closers closerMakes stands y1 y2 y3 0 else fX6_burnOlderThan_b39 (fX6_burnOlderThan_b2 fuel) number heldKeys heldWhats closers closerMakes stands y1 y2 y3 1) else fX6_burnOlderThan_b39 (fX6_burnOlderThan_b2 fuel) number heldKeys heldWhats closers closerMakes stands y1 y2 y3 0))

noncomputable def fX6_burnOlderThan (number : Int32) (heldKeys : Nat → Int32) (heldWhats : Nat → Int32) (closers : Nat → Int32) (closerMakes : Nat → Int32) (stands : Nat → Int32) (x1 : Int32) (x2 : Int32) : Option ((Nat → Int32)) :=
  fX6_burnOlderThan_b2 6000 number heldKeys heldWhats closers closerMakes stands x1 x2 0
set_option maxHeartbeats 1000000 in
set_option maxRecDepth 100000 in
theorem mX6_burnOlderThan (l : Launch) (dC : Nat → ClassId) (dI : Nat → Nat → Nat) (cyI cyO cyL : ClassId) (w0 w1 w2 w3 w4 w5 w6 w7 w8 w9 w10 : Nat) (number : Int32) (heldKeys : Nat → Int32) (heldWhats : Nat → Int32) (closers : Nat → Int32) (closerMakes : Nat → Int32) (stands : Nat → Int32) (x1 : Int32) (x2 : Int32) (sz : Nat) (res : (Nat → Int32)) (h : fX6_burnOlderThan number heldKeys heldWhats closers closerMakes stands x1 x2 = some res) : Met l yX6_burnOlderThan (wsG yX6_burnOlderThan cX6_burnOlderThan 6 none) ({ frames := 2, cells := 0, slots := 0, locals := 43 }) (cP dC dI cyI cyO cyL sz [.ref w0, .int x1, .int x2] (wrapsW cyI w0 w1 w2 w3 w4 w5 w6 w7 w8 w9 w10 number heldKeys heldWhats closers closerMakes stands)) (cV dC dI (wrapsW cyI w0 w1 w2 w3 w4 w5 w6 w7 w8 w9 w10 number heldKeys heldWhats closers closerMakes res) (va_A (wrapsW cyI w0 w1 w2 w3 w4 w5 w6 w7 w8 w9 w10 number heldKeys heldWhats closers closerMakes stands) sz)) 0 0 (va_A (wrapsW cyI w0 w1 w2 w3 w4 w5 w6 w7 w8 w9 w10 number heldKeys heldWhats closers closerMakes stands) sz) := by
  refine Met.ofW (cc := cX6_burnOlderThan) (maxL := 6) (ret := none) (by decide) rfl ?_
  intro p e s m args below meth c s₁ B hml hv
  obtain ⟨rfl, hsz, hP, hK, hD0⟩ := hv
  have hx := B.exec
  have hb := B.bytes
  have hr := B.returns
  have hts := atoms_spec (ws := wsG yX6_burnOlderThan cX6_burnOlderThan 6 none) B.pre
  have hown : s.vm.findClass RX6 = some m.cls := findClass_of_methodNamed B.named
  have hlocks := B.notSynchronized
  subst hsz
  have hD := hD0.self (sz := s.heap.size)
  generalize hAe : va_A (wrapsW cyI w0 w1 w2 w3 w4 w5 w6 w7 w8 w9 w10 number heldKeys heldWhats closers closerMakes stands) s.heap.size = A at hD ⊢
  have hA : ∀ q : Nat, s.heap.size ≤ q → A q := fun q h => by rw [← hAe]; exact Or.inr h
  have hS : va_S A s.heap s.heap [] := va_S.rf
  have kB39 : ∀ (k2 : Int32 → (Nat → Int32) → (Nat → Int32) → (Nat → Int32) → (Nat → Int32) → (Nat → Int32) → Int32 → Int32 → Int32 → Option ((Nat → Int32))) (hk2 : ∀ (number : Int32) (heldKeys : Nat → Int32) (heldWhats : Nat → Int32) (closers : Nat → Int32) (closerMakes : Nat → Int32) (stands : Nat → Int32) (y1 : Int32) (y2 : Int32) (y3 : Int32), k2 number heldKeys heldWhats closers closerMakes stands y1 y2 y3 = some res → ∀ (H : Heap) (locs : List Loc), va_P (dC, dI) vwCl (wrapsW cyI w0 w1 w2 w3 w4 w5 w6 w7 w8 w9 w10 number heldKeys heldWhats closers closerMakes stands) H → va_D A (wrapsW cyI w0 w1 w2 w3 w4 w5 w6 w7 w8 w9 w10 number heldKeys heldWhats closers closerMakes stands) → va_S A s.heap H locs → ∀ ls : Array Slot, lv_has ls 6 [(0, .ref w0), (1, .int y1), (2, .int y2), (3, .int y3)] → W p l e (headSpec (wsG yX6_burnOlderThan cX6_burnOlderThan 6 none) ({ frames := 2, cells := 0, slots := 0, locals := 43 })).room s m (([.ref w0, .int x1, .int x2] : List Value).toArray) below meth c H locs 0 0 (MQ below (cV dC dI (wrapsW cyI w0 w1 w2 w3 w4 w5 w6 w7 w8 w9 w10 number heldKeys heldWhats closers closerMakes res) A) ([.ref w0, .int x1, .int x2] : List Value).toArray s 0 0 A) (F0 m 2 ls [])) (number : Int32) (heldKeys : Nat → Int32) (heldWhats : Nat → Int32) (closers : Nat → Int32) (closerMakes : Nat → Int32) (stands : Nat → Int32) (y1 : Int32) (y2 : Int32) (y3 : Int32) (z0 : Int32), fX6_burnOlderThan_b39 k2 number heldKeys heldWhats closers closerMakes stands y1 y2 y3 z0 = some res → ∀ (H : Heap) (locs : List Loc), va_P (dC, dI) vwCl (wrapsW cyI w0 w1 w2 w3 w4 w5 w6 w7 w8 w9 w10 number heldKeys heldWhats closers closerMakes stands) H → va_D A (wrapsW cyI w0 w1 w2 w3 w4 w5 w6 w7 w8 w9 w10 number heldKeys heldWhats closers closerMakes stands) → va_S A s.heap H locs → ∀ ls : Array Slot, lv_has ls 6 [(0, .ref w0), (1, .int y1), (2, .int y2), (3, .int y3)] → W p l e (headSpec (wsG yX6_burnOlderThan cX6_burnOlderThan 6 none) ({ frames := 2, cells := 0, slots := 0, locals := 43 })).room s m (([.ref w0, .int x1, .int x2] : List Value).toArray) below meth c H locs 0 0 (MQ below (cV dC dI (wrapsW cyI w0 w1 w2 w3 w4 w5 w6 w7 w8 w9 w10 number heldKeys heldWhats closers closerMakes res) A) ([.ref w0, .int x1, .int x2] : List Value).toArray s 0 0 A) (F0 m 39 ls [.int z0]) := by
    intro k2 hk2 number heldKeys heldWhats closers closerMakes stands y1 y2 y3 z0 h H locs hP hD hS ls hl
    unfold fX6_burnOlderThan_b39 at h
    refine lv_istore (lv' := [(4, .int z0), (0, .ref w0), (1, .int y1), (2, .int y2), (3, .int y3)]) hx hb dX6_burnOlderThan_39 hl (by decide) rfl (fun ls hl => ?_)
    refine lv_aload_n hx hb dX6_burnOlderThan_41 rfl (lv_at hl 1 rfl) ?_
    refine va_get (D := (dC, dI)) (ci := 6) (v := .ref w5) (C := RX6) (T := TX6) (N := 6) hx hb hts (fun w h9 => gb_mem (lay_X6 w h9)) hown hK.1 hP 0 rfl rfl 3 (by decide) (hts _ (gb_mem fl_X6_27)) (fun _ h9 => h9) rfl dX6_burnOlderThan_42 ?_
    refine lv_iload_n hx hb dX6_burnOlderThan_45 rfl (lv_at hl 4 rfl) ?_
    refine fr_ir (M := (rowW cyI w5 w6 120 closers)) (va_runV (As := [.int y3]) (rest := []) ⟨hx, hb, hml, hown, hts⟩ (tX4_at l dC dI cyI cyO cyL w5 w6 120 closers y3 _ (rAt 120 closers y3) rfl (by decide)) (cwV 1 hts (gV ml_X6_36 im_X4_at se_X4_at in_X4 co_X4_at) rfl rfl rfl (by decide +kernel) ⟨Nat.le_of_ble_eq_true rfl, Nat.le_of_ble_eq_true rfl⟩) (cP_V hK hP hD [5, 6] rfl rfl 5 rfl rfl) rfl rfl hl.1 rfl (lv_room (Nat.le_of_ble_eq_true rfl)) dX6_burnOlderThan_46 ⟨Nat.zero_le _, Nat.zero_le _⟩) hP hD hS hA [5, 6] rfl (fun H locs hP hS => ?_)
    refine lv_iload_n hx hb dX6_burnOlderThan_49 rfl (lv_at hl 2 rfl) ?_
    refine lv_icmp_ne (tgt := 69) hx hb dX6_burnOlderThan_50 (by decide) (fun c1 => ?_) (fun c1 => ?_)
    · have h := (if_neg c1).symm.trans h
      refine lv_iconst (v := 0) hx hb dX6_burnOlderThan_69 (by decide) ?_
      refine lv_istore (lv' := [(5, .int 0), (4, .int z0), (0, .ref w0), (1, .int y1), (2, .int y2), (3, .int y3)]) hx hb dX6_burnOlderThan_70 hl (by decide) rfl (fun ls hl => ?_)
      refine lv_iload hx hb dX6_burnOlderThan_72 (lv_at hl 1 rfl) ?_
      refine lv_if_ne (tgt := 82) hx hb dX6_burnOlderThan_74 (by decide) (fun c2 => ?_) (fun c2 => ?_)
      · have h := (if_neg c2).symm.trans h
        refine lv_aload_n hx hb dX6_burnOlderThan_82 rfl (lv_at hl 2 rfl) ?_
        refine lv_iload_n hx hb dX6_burnOlderThan_83 rfl (lv_at hl 5 rfl) ?_
        refine fr_v (M := (wrapsW cyI w0 w1 w2 w3 w4 w5 w6 w7 w8 w9 w10 number heldKeys heldWhats closers closerMakes stands)) (M' := (wrapsW cyI w0 w1 w2 w3 w4 w5 w6 w7 w8 w9 w10 number heldKeys heldWhats closers closerMakes (fX6_burn stands y3))) (L' := (wrapsW cyI w0 w1 w2 w3 w4 w5 w6 w7 w8 w9 w10 number heldKeys heldWhats closers closerMakes (fX6_burn stands y3))) (va_runV (As := [.int y3]) (rest := []) ⟨hx, hb, hml, hown, hts⟩ (mX6_burn l dC dI cyI cyO cyL w0 w1 w2 w3 w4 w5 w6 w7 w8 w9 w10 number heldKeys heldWhats closers closerMakes stands y3 _ (fX6_burn stands y3) rfl) (cwV 1 hts (gV ml_X6_66 im_X6_burn se_X6_burn in_X6 co_X6_burn) rfl rfl rfl (by decide +kernel) ⟨Nat.le_of_ble_eq_true rfl, Nat.le_of_ble_eq_true rfl⟩) (cP_V hK hP hD [0, 1, 2, 3, 4, 5, 6, 7, 8, 9, 10] rfl rfl 0 rfl rfl) rfl rfl hl.1 rfl (lv_room (Nat.le_of_ble_eq_true rfl)) dX6_burnOlderThan_84 ⟨Nat.zero_le _, Nat.zero_le _⟩) hP hD hS hA [0, 1, 2, 3, 4, 5, 6, 7, 8, 9, 10] rfl [(true, 0), (true, 1), (true, 2), (true, 3), (true, 4), (true, 5), (true, 6), (true, 7), (true, 8), (true, 9), (true, 10)] rfl rfl rfl (fun H locs hP hD hS => ?_)
        refine lv_iinc (v := (y3 + 1)) (lv' := [(3, .int (y3 + 1)), (5, .int 0), (4, .int z0), (0, .ref w0), (1, .int y1), (2, .int y2)]) hx hb dX6_burnOlderThan_87 hl (k := 5) rfl rfl (by decide) rfl (fun ls hl => ?_)
        refine lv_goto (tgt := 2) hx hb dX6_burnOlderThan_90 (by decide) ?_
        exact hk2 number heldKeys heldWhats closers closerMakes (fX6_burn stands y3) y1 y2 (y3 + 1) h _ _ hP hD hS ls (lv_sub hl [3, 4, 5, 0] rfl)
      · have h := (if_pos c2).symm.trans h
        refine lv_iload hx hb dX6_burnOlderThan_77 (lv_at hl 0 rfl) ?_
        refine lv_if_eq (tgt := 87) hx hb dX6_burnOlderThan_79 (by decide) (fun c3 => ?_) (fun c3 => ?_)
        · refine lv_iinc (v := (y3 + 1)) (lv' := [(3, .int (y3 + 1)), (5, .int 0), (4, .int z0), (0, .ref w0), (1, .int y1), (2, .int y2)]) hx hb dX6_burnOlderThan_87 hl (k := 5) rfl rfl (by decide) rfl (fun ls hl => ?_)
          refine lv_goto (tgt := 2) hx hb dX6_burnOlderThan_90 (by decide) ?_
          exact hk2 number heldKeys heldWhats closers closerMakes stands y1 y2 (y3 + 1) h _ _ hP hD hS ls (lv_sub hl [3, 4, 5, 0] rfl)
        · exact absurd c3 (by decide)
    · have h := (if_pos c1).symm.trans h
      refine lv_aload_n hx hb dX6_burnOlderThan_53 rfl (lv_at hl 1 rfl) ?_
      refine va_get (D := (dC, dI)) (ci := 6) (v := .ref w7) (C := RX6) (T := TX6) (N := 6) hx hb hts (fun w h9 => gb_mem (lay_X6 w h9)) hown hK.1 hP 0 rfl rfl 4 (by decide) (hts _ (gb_mem fl_X6_30)) (fun _ h9 => h9) rfl dX6_burnOlderThan_54 ?_
      refine lv_iload_n hx hb dX6_burnOlderThan_57 rfl (lv_at hl 4 rfl) ?_
      refine fr_ir (M := (rowW cyI w7 w8 120 closerMakes)) (va_runV (As := [.int y3]) (rest := []) ⟨hx, hb, hml, hown, hts⟩ (tX4_at l dC dI cyI cyO cyL w7 w8 120 closerMakes y3 _ (rAt 120 closerMakes y3) rfl (by decide)) (cwV 1 hts (gV ml_X6_36 im_X4_at se_X4_at in_X4 co_X4_at) rfl rfl rfl (by decide +kernel) ⟨Nat.le_of_ble_eq_true rfl, Nat.le_of_ble_eq_true rfl⟩) (cP_V hK hP hD [7, 8] rfl rfl 7 rfl rfl) rfl rfl hl.1 rfl (lv_room (Nat.le_of_ble_eq_true rfl)) dX6_burnOlderThan_58 ⟨Nat.zero_le _, Nat.zero_le _⟩) hP hD hS hA [7, 8] rfl (fun H locs hP hS => ?_)
      refine lv_iload_n hx hb dX6_burnOlderThan_61 rfl (lv_at hl 3 rfl) ?_
      refine lv_icmp_ge (tgt := 69) hx hb dX6_burnOlderThan_62 (by decide) (fun c4 => ?_) (fun c4 => ?_)
      · have h := (if_pos c4).symm.trans h
        refine lv_iconst (v := 0) hx hb dX6_burnOlderThan_69 (by decide) ?_
        refine lv_istore (lv' := [(5, .int 0), (4, .int z0), (0, .ref w0), (1, .int y1), (2, .int y2), (3, .int y3)]) hx hb dX6_burnOlderThan_70 hl (by decide) rfl (fun ls hl => ?_)
        refine lv_iload hx hb dX6_burnOlderThan_72 (lv_at hl 1 rfl) ?_
        refine lv_if_ne (tgt := 82) hx hb dX6_burnOlderThan_74 (by decide) (fun c5 => ?_) (fun c5 => ?_)
        · have h := (if_neg c5).symm.trans h
          refine lv_aload_n hx hb dX6_burnOlderThan_82 rfl (lv_at hl 2 rfl) ?_
          refine lv_iload_n hx hb dX6_burnOlderThan_83 rfl (lv_at hl 5 rfl) ?_
          refine fr_v (M := (wrapsW cyI w0 w1 w2 w3 w4 w5 w6 w7 w8 w9 w10 number heldKeys heldWhats closers closerMakes stands)) (M' := (wrapsW cyI w0 w1 w2 w3 w4 w5 w6 w7 w8 w9 w10 number heldKeys heldWhats closers closerMakes (fX6_burn stands y3))) (L' := (wrapsW cyI w0 w1 w2 w3 w4 w5 w6 w7 w8 w9 w10 number heldKeys heldWhats closers closerMakes (fX6_burn stands y3))) (va_runV (As := [.int y3]) (rest := []) ⟨hx, hb, hml, hown, hts⟩ (mX6_burn l dC dI cyI cyO cyL w0 w1 w2 w3 w4 w5 w6 w7 w8 w9 w10 number heldKeys heldWhats closers closerMakes stands y3 _ (fX6_burn stands y3) rfl) (cwV 1 hts (gV ml_X6_66 im_X6_burn se_X6_burn in_X6 co_X6_burn) rfl rfl rfl (by decide +kernel) ⟨Nat.le_of_ble_eq_true rfl, Nat.le_of_ble_eq_true rfl⟩) (cP_V hK hP hD [0, 1, 2, 3, 4, 5, 6, 7, 8, 9, 10] rfl rfl 0 rfl rfl) rfl rfl hl.1 rfl (lv_room (Nat.le_of_ble_eq_true rfl)) dX6_burnOlderThan_84 ⟨Nat.zero_le _, Nat.zero_le _⟩) hP hD hS hA [0, 1, 2, 3, 4, 5, 6, 7, 8, 9, 10] rfl [(true, 0), (true, 1), (true, 2), (true, 3), (true, 4), (true, 5), (true, 6), (true, 7), (true, 8), (true, 9), (true, 10)] rfl rfl rfl (fun H locs hP hD hS => ?_)
          refine lv_iinc (v := (y3 + 1)) (lv' := [(3, .int (y3 + 1)), (5, .int 0), (4, .int z0), (0, .ref w0), (1, .int y1), (2, .int y2)]) hx hb dX6_burnOlderThan_87 hl (k := 5) rfl rfl (by decide) rfl (fun ls hl => ?_)
          refine lv_goto (tgt := 2) hx hb dX6_burnOlderThan_90 (by decide) ?_
          exact hk2 number heldKeys heldWhats closers closerMakes (fX6_burn stands y3) y1 y2 (y3 + 1) h _ _ hP hD hS ls (lv_sub hl [3, 4, 5, 0] rfl)
        · have h := (if_pos c5).symm.trans h
          refine lv_iload hx hb dX6_burnOlderThan_77 (lv_at hl 0 rfl) ?_
          refine lv_if_eq (tgt := 87) hx hb dX6_burnOlderThan_79 (by decide) (fun c6 => ?_) (fun c6 => ?_)
          · refine lv_iinc (v := (y3 + 1)) (lv' := [(3, .int (y3 + 1)), (5, .int 0), (4, .int z0), (0, .ref w0), (1, .int y1), (2, .int y2)]) hx hb dX6_burnOlderThan_87 hl (k := 5) rfl rfl (by decide) rfl (fun ls hl => ?_)
            refine lv_goto (tgt := 2) hx hb dX6_burnOlderThan_90 (by decide) ?_
            exact hk2 number heldKeys heldWhats closers closerMakes stands y1 y2 (y3 + 1) h _ _ hP hD hS ls (lv_sub hl [3, 4, 5, 0] rfl)
          · exact absurd c6 (by decide)
      · have h := (if_neg c4).symm.trans h
        refine lv_iconst (v := 1) hx hb dX6_burnOlderThan_65 (by decide) ?_
        refine lv_goto (tgt := 70) hx hb dX6_burnOlderThan_66 (by decide) ?_
        refine lv_istore (lv' := [(5, .int 1), (4, .int z0), (0, .ref w0), (1, .int y1), (2, .int y2), (3, .int y3)]) hx hb dX6_burnOlderThan_70 hl (by decide) rfl (fun ls hl => ?_)
        refine lv_iload hx hb dX6_burnOlderThan_72 (lv_at hl 1 rfl) ?_
        refine lv_if_ne (tgt := 82) hx hb dX6_burnOlderThan_74 (by decide) (fun c7 => ?_) (fun c7 => ?_)
        · have h := (if_neg c7).symm.trans h
          refine lv_aload_n hx hb dX6_burnOlderThan_82 rfl (lv_at hl 2 rfl) ?_
          refine lv_iload_n hx hb dX6_burnOlderThan_83 rfl (lv_at hl 5 rfl) ?_
          refine fr_v (M := (wrapsW cyI w0 w1 w2 w3 w4 w5 w6 w7 w8 w9 w10 number heldKeys heldWhats closers closerMakes stands)) (M' := (wrapsW cyI w0 w1 w2 w3 w4 w5 w6 w7 w8 w9 w10 number heldKeys heldWhats closers closerMakes (fX6_burn stands y3))) (L' := (wrapsW cyI w0 w1 w2 w3 w4 w5 w6 w7 w8 w9 w10 number heldKeys heldWhats closers closerMakes (fX6_burn stands y3))) (va_runV (As := [.int y3]) (rest := []) ⟨hx, hb, hml, hown, hts⟩ (mX6_burn l dC dI cyI cyO cyL w0 w1 w2 w3 w4 w5 w6 w7 w8 w9 w10 number heldKeys heldWhats closers closerMakes stands y3 _ (fX6_burn stands y3) rfl) (cwV 1 hts (gV ml_X6_66 im_X6_burn se_X6_burn in_X6 co_X6_burn) rfl rfl rfl (by decide +kernel) ⟨Nat.le_of_ble_eq_true rfl, Nat.le_of_ble_eq_true rfl⟩) (cP_V hK hP hD [0, 1, 2, 3, 4, 5, 6, 7, 8, 9, 10] rfl rfl 0 rfl rfl) rfl rfl hl.1 rfl (lv_room (Nat.le_of_ble_eq_true rfl)) dX6_burnOlderThan_84 ⟨Nat.zero_le _, Nat.zero_le _⟩) hP hD hS hA [0, 1, 2, 3, 4, 5, 6, 7, 8, 9, 10] rfl [(true, 0), (true, 1), (true, 2), (true, 3), (true, 4), (true, 5), (true, 6), (true, 7), (true, 8), (true, 9), (true, 10)] rfl rfl rfl (fun H locs hP hD hS => ?_)
          refine lv_iinc (v := (y3 + 1)) (lv' := [(3, .int (y3 + 1)), (5, .int 1), (4, .int z0), (0, .ref w0), (1, .int y1), (2, .int y2)]) hx hb dX6_burnOlderThan_87 hl (k := 5) rfl rfl (by decide) rfl (fun ls hl => ?_)
          refine lv_goto (tgt := 2) hx hb dX6_burnOlderThan_90 (by decide) ?_
          exact hk2 number heldKeys heldWhats closers closerMakes (fX6_burn stands y3) y1 y2 (y3 + 1) h _ _ hP hD hS ls (lv_sub hl [3, 4, 5, 0] rfl)
        · have h := (if_pos c7).symm.trans h
          refine lv_iload hx hb dX6_burnOlderThan_77 (lv_at hl 0 rfl) ?_
          refine lv_if_eq (tgt := 87) hx hb dX6_burnOlderThan_79 (by decide) (fun c8 => ?_) (fun c8 => ?_)
          · exact absurd c8 (by decide)
          · refine lv_aload_n hx hb dX6_burnOlderThan_82 rfl (lv_at hl 2 rfl) ?_
            refine lv_iload_n hx hb dX6_burnOlderThan_83 rfl (lv_at hl 5 rfl) ?_
            refine fr_v (M := (wrapsW cyI w0 w1 w2 w3 w4 w5 w6 w7 w8 w9 w10 number heldKeys heldWhats closers closerMakes stands)) (M' := (wrapsW cyI w0 w1 w2 w3 w4 w5 w6 w7 w8 w9 w10 number heldKeys heldWhats closers closerMakes (fX6_burn stands y3))) (L' := (wrapsW cyI w0 w1 w2 w3 w4 w5 w6 w7 w8 w9 w10 number heldKeys heldWhats closers closerMakes (fX6_burn stands y3))) (va_runV (As := [.int y3]) (rest := []) ⟨hx, hb, hml, hown, hts⟩ (mX6_burn l dC dI cyI cyO cyL w0 w1 w2 w3 w4 w5 w6 w7 w8 w9 w10 number heldKeys heldWhats closers closerMakes stands y3 _ (fX6_burn stands y3) rfl) (cwV 1 hts (gV ml_X6_66 im_X6_burn se_X6_burn in_X6 co_X6_burn) rfl rfl rfl (by decide +kernel) ⟨Nat.le_of_ble_eq_true rfl, Nat.le_of_ble_eq_true rfl⟩) (cP_V hK hP hD [0, 1, 2, 3, 4, 5, 6, 7, 8, 9, 10] rfl rfl 0 rfl rfl) rfl rfl hl.1 rfl (lv_room (Nat.le_of_ble_eq_true rfl)) dX6_burnOlderThan_84 ⟨Nat.zero_le _, Nat.zero_le _⟩) hP hD hS hA [0, 1, 2, 3, 4, 5, 6, 7, 8, 9, 10] rfl [(true, 0), (true, 1), (true, 2), (true, 3), (true, 4), (true, 5), (true, 6), (true, 7), (true, 8), (true, 9), (true, 10)] rfl rfl rfl (fun H locs hP hD hS => ?_)
            refine lv_iinc (v := (y3 + 1)) (lv' := [(3, .int (y3 + 1)), (5, .int 1), (4, .int z0), (0, .ref w0), (1, .int y1), (2, .int y2)]) hx hb dX6_burnOlderThan_87 hl (k := 5) rfl rfl (by decide) rfl (fun ls hl => ?_)
            refine lv_goto (tgt := 2) hx hb dX6_burnOlderThan_90 (by decide) ?_
            exact hk2 number heldKeys heldWhats closers closerMakes (fX6_burn stands y3) y1 y2 (y3 + 1) h _ _ hP hD hS ls (lv_sub hl [3, 4, 5, 0] rfl)
  have kB2 : ∀ (fuel : Nat) (number : Int32) (heldKeys : Nat → Int32) (heldWhats : Nat → Int32) (closers : Nat → Int32) (closerMakes : Nat → Int32) (stands : Nat → Int32) (y1 : Int32) (y2 : Int32) (y3 : Int32), fX6_burnOlderThan_b2 fuel number heldKeys heldWhats closers closerMakes stands y1 y2 y3 = some res → ∀ (H : Heap) (locs : List Loc), va_P (dC, dI) vwCl (wrapsW cyI w0 w1 w2 w3 w4 w5 w6 w7 w8 w9 w10 number heldKeys heldWhats closers closerMakes stands) H → va_D A (wrapsW cyI w0 w1 w2 w3 w4 w5 w6 w7 w8 w9 w10 number heldKeys heldWhats closers closerMakes stands) → va_S A s.heap H locs → ∀ ls : Array Slot, lv_has ls 6 [(0, .ref w0), (1, .int y1), (2, .int y2), (3, .int y3)] → W p l e (headSpec (wsG yX6_burnOlderThan cX6_burnOlderThan 6 none) ({ frames := 2, cells := 0, slots := 0, locals := 43 })).room s m (([.ref w0, .int x1, .int x2] : List Value).toArray) below meth c H locs 0 0 (MQ below (cV dC dI (wrapsW cyI w0 w1 w2 w3 w4 w5 w6 w7 w8 w9 w10 number heldKeys heldWhats closers closerMakes res) A) ([.ref w0, .int x1, .int x2] : List Value).toArray s 0 0 A) (F0 m 2 ls []) := by
    intro fuel
    induction fuel with
    | zero => intro number heldKeys heldWhats closers closerMakes stands y1 y2 y3 h; rw [fX6_burnOlderThan_b2] at h; cases h
    | succ fuel ih =>
      intro number heldKeys heldWhats closers closerMakes stands y1 y2 y3 h H locs hP hD hS ls hl
      rw [fX6_burnOlderThan_b2] at h
      refine lv_iload_n hx hb dX6_burnOlderThan_2 rfl (lv_at hl 3 rfl) ?_
      refine lv_aload_n hx hb dX6_burnOlderThan_3 rfl (lv_at hl 0 rfl) ?_
      refine va_get (D := (dC, dI)) (ci := 6) (v := .int number) (C := RX6) (T := TX6) (N := 6) hx hb hts (fun w h9 => gb_mem (lay_X6 w h9)) hown hK.1 hP 0 rfl rfl 0 (by decide) (hts _ (gb_mem fl_X6_9)) (fun _ h9 => h9) rfl dX6_burnOlderThan_4 ?_
      refine lv_icmp_ge (tgt := 93) hx hb dX6_burnOlderThan_7 (by decide) (fun c9 => ?_) (fun c9 => ?_)
      · have h := (if_pos c9).symm.trans h
        obtain rfl := Option.some.inj h
        exact e_v hx hb hr hlocks hP hS dX6_burnOlderThan_93
      · have h := (if_neg c9).symm.trans h
        refine lv_aload_n hx hb dX6_burnOlderThan_10 rfl (lv_at hl 0 rfl) ?_
        refine va_get (D := (dC, dI)) (ci := 6) (v := .ref w1) (C := RX6) (T := TX6) (N := 6) hx hb hts (fun w h9 => gb_mem (lay_X6 w h9)) hown hK.1 hP 0 rfl rfl 1 (by decide) (hts _ (gb_mem fl_X6_20)) (fun _ h9 => h9) rfl dX6_burnOlderThan_11 ?_
        refine lv_iload_n hx hb dX6_burnOlderThan_14 rfl (lv_at hl 3 rfl) ?_
        refine fr_ir (M := (rowW cyI w1 w2 120 heldKeys)) (va_runV (As := [.int y3]) (rest := []) ⟨hx, hb, hml, hown, hts⟩ (tX4_at l dC dI cyI cyO cyL w1 w2 120 heldKeys y3 _ (rAt 120 heldKeys y3) rfl (by decide)) (cwV 1 hts (gV ml_X6_36 im_X4_at se_X4_at in_X4 co_X4_at) rfl rfl rfl (by decide +kernel) ⟨Nat.le_of_ble_eq_true rfl, Nat.le_of_ble_eq_true rfl⟩) (cP_V hK hP hD [1, 2] rfl rfl 1 rfl rfl) rfl rfl hl.1 rfl (lv_room (Nat.le_of_ble_eq_true rfl)) dX6_burnOlderThan_15 ⟨Nat.zero_le _, Nat.zero_le _⟩) hP hD hS hA [1, 2] rfl (fun H locs hP hS => ?_)
        refine lv_iload_n hx hb dX6_burnOlderThan_18 rfl (lv_at hl 1 rfl) ?_
        refine lv_icmp_ne (tgt := 38) hx hb dX6_burnOlderThan_19 (by decide) (fun c10 => ?_) (fun c10 => ?_)
        · have h := (if_neg c10).symm.trans h
          refine lv_iconst (v := 0) hx hb dX6_burnOlderThan_38 (by decide) ?_
          exact kB39 (fX6_burnOlderThan_b2 fuel) ih number heldKeys heldWhats closers closerMakes stands y1 y2 y3 0 h _ _ hP hD hS ls (lv_sub hl [0, 1, 2, 3] rfl)
        · have h := (if_pos c10).symm.trans h
          refine lv_aload_n hx hb dX6_burnOlderThan_22 rfl (lv_at hl 0 rfl) ?_
          refine va_get (D := (dC, dI)) (ci := 6) (v := .ref w3) (C := RX6) (T := TX6) (N := 6) hx hb hts (fun w h9 => gb_mem (lay_X6 w h9)) hown hK.1 hP 0 rfl rfl 2 (by decide) (hts _ (gb_mem fl_X6_24)) (fun _ h9 => h9) rfl dX6_burnOlderThan_23 ?_
          refine lv_iload_n hx hb dX6_burnOlderThan_26 rfl (lv_at hl 3 rfl) ?_
          refine fr_ir (M := (rowW cyI w3 w4 120 heldWhats)) (va_runV (As := [.int y3]) (rest := []) ⟨hx, hb, hml, hown, hts⟩ (tX4_at l dC dI cyI cyO cyL w3 w4 120 heldWhats y3 _ (rAt 120 heldWhats y3) rfl (by decide)) (cwV 1 hts (gV ml_X6_36 im_X4_at se_X4_at in_X4 co_X4_at) rfl rfl rfl (by decide +kernel) ⟨Nat.le_of_ble_eq_true rfl, Nat.le_of_ble_eq_true rfl⟩) (cP_V hK hP hD [3, 4] rfl rfl 3 rfl rfl) rfl rfl hl.1 rfl (lv_room (Nat.le_of_ble_eq_true rfl)) dX6_burnOlderThan_27 ⟨Nat.zero_le _, Nat.zero_le _⟩) hP hD hS hA [3, 4] rfl (fun H locs hP hS => ?_)
          refine lv_iload_n hx hb dX6_burnOlderThan_30 rfl (lv_at hl 2 rfl) ?_
          refine lv_icmp_ge (tgt := 38) hx hb dX6_burnOlderThan_31 (by decide) (fun c11 => ?_) (fun c11 => ?_)
          · have h := (if_pos c11).symm.trans h
            refine lv_iconst (v := 0) hx hb dX6_burnOlderThan_38 (by decide) ?_
            exact kB39 (fX6_burnOlderThan_b2 fuel) ih number heldKeys heldWhats closers closerMakes stands y1 y2 y3 0 h _ _ hP hD hS ls (lv_sub hl [0, 1, 2, 3] rfl)
          · have h := (if_neg c11).symm.trans h
            refine lv_iconst (v := 1) hx hb dX6_burnOlderThan_34 (by decide) ?_
            refine lv_goto (tgt := 39) hx hb dX6_burnOlderThan_35 (by decide) ?_
            exact kB39 (fX6_burnOlderThan_b2 fuel) ih number heldKeys heldWhats closers closerMakes stands y1 y2 y3 1 h _ _ hP hD hS ls (lv_sub hl [0, 1, 2, 3] rfl)
  have hl := lv_entry ([.ref w0, .int x1, .int x2]) (n := 6) (Nat.le_of_ble_eq_true rfl)
  rw [lg_entry_eq]
  generalize (lg_sl ([.ref w0, .int x1, .int x2]) ++ List.replicate (6 - (lg_sl ([.ref w0, .int x1, .int x2])).length) Slot.unset).toArray = ls at hl ⊢
  have hl : lv_has ls 6 [(0, .ref w0), (1, .int x1), (2, .int x2)] := hl
  unfold fX6_burnOlderThan at h
  refine lv_iconst (v := 0) hx hb dX6_burnOlderThan_0 (by decide) ?_
  refine lv_istore_n (lv' := [(3, .int 0), (0, .ref w0), (1, .int x1), (2, .int x2)]) hx hb dX6_burnOlderThan_1 rfl hl (by decide) rfl (fun ls hl => ?_)
  exact kB2 6000 number heldKeys heldWhats closers closerMakes stands x1 x2 0 h _ _ hP hD hS ls (lv_sub hl [1, 2, 3, 0] rfl)

noncomputable def fX6_become (number : Int32) (heldKeys : Nat → Int32) (heldWhats : Nat → Int32) (closers : Nat → Int32) (closerMakes : Nat → Int32) (stands : Nat → Int32) (number2 : Int32) (heldKeys2 : Nat → Int32) (heldWhats2 : Nat → Int32) (closers2 : Nat → Int32) (closerMakes2 : Nat → Int32) (stands2 : Nat → Int32) : Option (Int32 × (Nat → Int32) × (Nat → Int32) × (Nat → Int32) × (Nat → Int32) × (Nat → Int32)) :=
  (some (number2, (rCopy 120 heldKeys heldKeys2), (rCopy 120 heldWhats heldWhats2), (rCopy 120 closers closers2), (rCopy 120 closerMakes closerMakes2), (rCopy 120 stands stands2)))
set_option maxHeartbeats 1000000 in
set_option maxRecDepth 100000 in
theorem mX6_become (l : Launch) (dC : Nat → ClassId) (dI : Nat → Nat → Nat) (cyI cyO cyL : ClassId) (w0 w1 w2 w3 w4 w5 w6 w7 w8 w9 w10 vw0 vw1 vw2 vw3 vw4 vw5 vw6 vw7 vw8 vw9 vw10 : Nat) (number : Int32) (heldKeys : Nat → Int32) (heldWhats : Nat → Int32) (closers : Nat → Int32) (closerMakes : Nat → Int32) (stands : Nat → Int32) (number2 : Int32) (heldKeys2 : Nat → Int32) (heldWhats2 : Nat → Int32) (closers2 : Nat → Int32) (closerMakes2 : Nat → Int32) (stands2 : Nat → Int32)  (sz : Nat) (res : Int32 × (Nat → Int32) × (Nat → Int32) × (Nat → Int32) × (Nat → Int32) × (Nat → Int32)) (h : fX6_become number heldKeys heldWhats closers closerMakes stands number2 heldKeys2 heldWhats2 closers2 closerMakes2 stands2 = some res) : Met l yX6_become (wsG yX6_become cX6_become 2 none) ({ frames := 2, cells := 0, slots := 0, locals := 61 }) (cP dC dI cyI cyO cyL sz [.ref w0, .ref vw0] ((wrapsW cyI w0 w1 w2 w3 w4 w5 w6 w7 w8 w9 w10 number heldKeys heldWhats closers closerMakes stands) ++ (wrapsW cyI vw0 vw1 vw2 vw3 vw4 vw5 vw6 vw7 vw8 vw9 vw10 number2 heldKeys2 heldWhats2 closers2 closerMakes2 stands2))) (cV dC dI ((wrapsW cyI w0 w1 w2 w3 w4 w5 w6 w7 w8 w9 w10 res.1 res.2.1 res.2.2.1 res.2.2.2.1 res.2.2.2.2.1 res.2.2.2.2.2) ++ (wrapsW cyI vw0 vw1 vw2 vw3 vw4 vw5 vw6 vw7 vw8 vw9 vw10 number2 heldKeys2 heldWhats2 closers2 closerMakes2 stands2)) (va_A ((wrapsW cyI w0 w1 w2 w3 w4 w5 w6 w7 w8 w9 w10 number heldKeys heldWhats closers closerMakes stands) ++ (wrapsW cyI vw0 vw1 vw2 vw3 vw4 vw5 vw6 vw7 vw8 vw9 vw10 number2 heldKeys2 heldWhats2 closers2 closerMakes2 stands2)) sz)) 0 0 (va_A ((wrapsW cyI w0 w1 w2 w3 w4 w5 w6 w7 w8 w9 w10 number heldKeys heldWhats closers closerMakes stands) ++ (wrapsW cyI vw0 vw1 vw2 vw3 vw4 vw5 vw6 vw7 vw8 vw9 vw10 number2 heldKeys2 heldWhats2 closers2 closerMakes2 stands2)) sz) := by
  refine Met.ofW (cc := cX6_become) (maxL := 2) (ret := none) (by decide) rfl ?_
  intro p e s m args below meth c s₁ B hml hv
  obtain ⟨rfl, hsz, hP, hK, hD0⟩ := hv
  have hx := B.exec
  have hb := B.bytes
  have hr := B.returns
  have hts := atoms_spec (ws := wsG yX6_become cX6_become 2 none) B.pre
  have hown : s.vm.findClass RX6 = some m.cls := findClass_of_methodNamed B.named
  have hlocks := B.notSynchronized
  subst hsz
  have hD := hD0.self (sz := s.heap.size)
  generalize hAe : va_A ((wrapsW cyI w0 w1 w2 w3 w4 w5 w6 w7 w8 w9 w10 number heldKeys heldWhats closers closerMakes stands) ++ (wrapsW cyI vw0 vw1 vw2 vw3 vw4 vw5 vw6 vw7 vw8 vw9 vw10 number2 heldKeys2 heldWhats2 closers2 closerMakes2 stands2)) s.heap.size = A at hD ⊢
  have hA : ∀ q : Nat, s.heap.size ≤ q → A q := fun q h => by rw [← hAe]; exact Or.inr h
  have hS : va_S A s.heap s.heap [] := va_S.rf
  have hl := lv_entry ([.ref w0, .ref vw0]) (n := 2) (Nat.le_of_ble_eq_true rfl)
  rw [lg_entry_eq]
  generalize (lg_sl ([.ref w0, .ref vw0]) ++ List.replicate (2 - (lg_sl ([.ref w0, .ref vw0])).length) Slot.unset).toArray = ls at hl ⊢
  have hl : lv_has ls 2 [(0, .ref w0), (1, .ref vw0)] := hl
  unfold fX6_become at h
  refine lv_aload_n hx hb dX6_become_0 rfl (lv_at hl 1 rfl) ?_
  refine lv_ifnonnull (tgt := 5) hx hb dX6_become_1 (by decide) ?_
  refine lv_aload_n hx hb dX6_become_5 rfl (lv_at hl 0 rfl) ?_
  refine lv_aload_n hx hb dX6_become_6 rfl (lv_at hl 1 rfl) ?_
  refine va_get (D := (dC, dI)) (ci := 6) (v := .int number2) (C := RX6) (T := TX6) (N := 6) hx hb hts (fun w h9 => gb_mem (lay_X6 w h9)) hown hK.1 hP 11 rfl rfl 0 (by decide) (hts _ (gb_mem fl_X6_9)) (fun _ h9 => h9) rfl dX6_become_7 ?_
  refine va_put (D := (dC, dI)) (ci := 6) (v := .int number2) (ty := .int) (C := RX6) (T := TX6) (N := 6) hx hb hts (fun w h9 => gb_mem (lay_X6 w h9)) tyX6 tyX6_ok nmX6 hown hK.1 hP hD hS 0 rfl rfl 0 (by decide) (hts _ (gb_mem fl_X6_9)) (fun _ h9 => h9) rfl (by decide +kernel) rfl rfl (Nat.le_of_ble_eq_true rfl) dX6_become_10 (fun H locs hP hD hS => ?_)
  have hP : va_P (dC, dI) vwCl ((wrapsW cyI w0 w1 w2 w3 w4 w5 w6 w7 w8 w9 w10 number2 heldKeys heldWhats closers closerMakes stands) ++ (wrapsW cyI vw0 vw1 vw2 vw3 vw4 vw5 vw6 vw7 vw8 vw9 vw10 number2 heldKeys2 heldWhats2 closers2 closerMakes2 stands2)) H := hP
  have hD : va_D A ((wrapsW cyI w0 w1 w2 w3 w4 w5 w6 w7 w8 w9 w10 number2 heldKeys heldWhats closers closerMakes stands) ++ (wrapsW cyI vw0 vw1 vw2 vw3 vw4 vw5 vw6 vw7 vw8 vw9 vw10 number2 heldKeys2 heldWhats2 closers2 closerMakes2 stands2)) := hD
  refine lv_aload_n hx hb dX6_become_13 rfl (lv_at hl 0 rfl) ?_
  refine va_get (D := (dC, dI)) (ci := 6) (v := .ref w1) (C := RX6) (T := TX6) (N := 6) hx hb hts (fun w h9 => gb_mem (lay_X6 w h9)) hown hK.1 hP 0 rfl rfl 1 (by decide) (hts _ (gb_mem fl_X6_20)) (fun _ h9 => h9) rfl dX6_become_14 ?_
  refine lv_aload_n hx hb dX6_become_17 rfl (lv_at hl 1 rfl) ?_
  refine va_get (D := (dC, dI)) (ci := 6) (v := .ref vw1) (C := RX6) (T := TX6) (N := 6) hx hb hts (fun w h9 => gb_mem (lay_X6 w h9)) hown hK.1 hP 11 rfl rfl 1 (by decide) (hts _ (gb_mem fl_X6_20)) (fun _ h9 => h9) rfl dX6_become_18 ?_
  refine fr_v (M := ((rowW cyI w1 w2 120 heldKeys) ++ (rowW cyI vw1 vw2 120 heldKeys2))) (M' := ((rowW cyI w1 w2 120 (rCopy 120 heldKeys heldKeys2)) ++ (rowW cyI vw1 vw2 120 heldKeys2))) (L' := ((wrapsW cyI w0 w1 w2 w3 w4 w5 w6 w7 w8 w9 w10 number2 (rCopy 120 heldKeys heldKeys2) heldWhats closers closerMakes stands) ++ (wrapsW cyI vw0 vw1 vw2 vw3 vw4 vw5 vw6 vw7 vw8 vw9 vw10 number2 heldKeys2 heldWhats2 closers2 closerMakes2 stands2))) (va_runV (As := [.ref vw1]) (rest := []) ⟨hx, hb, hml, hown, hts⟩ (tX4_become l dC dI cyI cyO cyL w1 w2 vw1 vw2 120 heldKeys heldKeys2 _ (rCopy 120 heldKeys heldKeys2) rfl (by decide)) (cwV 1 hts (gV ml_X6_69 im_X4_become se_X4_become in_X4 co_X4_become) rfl rfl rfl (by decide +kernel) ⟨Nat.le_of_ble_eq_true rfl, Nat.le_of_ble_eq_true rfl⟩) (cP_V hK hP hD [1, 2, 12, 13] rfl rfl 1 rfl rfl) rfl rfl hl.1 rfl (lv_room (Nat.le_of_ble_eq_true rfl)) dX6_become_21 ⟨Nat.zero_le _, Nat.zero_le _⟩) hP hD hS hA [1, 2, 12, 13] rfl [(false, 0), (true, 0), (true, 1), (false, 3), (false, 4), (false, 5), (false, 6), (false, 7), (false, 8), (false, 9), (false, 10), (false, 11), (true, 2), (true, 3), (false, 14), (false, 15), (false, 16), (false, 17), (false, 18), (false, 19), (false, 20), (false, 21)] rfl rfl rfl (fun H locs hP hD hS => ?_)
  refine lv_aload_n hx hb dX6_become_24 rfl (lv_at hl 0 rfl) ?_
  refine va_get (D := (dC, dI)) (ci := 6) (v := .ref w3) (C := RX6) (T := TX6) (N := 6) hx hb hts (fun w h9 => gb_mem (lay_X6 w h9)) hown hK.1 hP 0 rfl rfl 2 (by decide) (hts _ (gb_mem fl_X6_24)) (fun _ h9 => h9) rfl dX6_become_25 ?_
  refine lv_aload_n hx hb dX6_become_28 rfl (lv_at hl 1 rfl) ?_
  refine va_get (D := (dC, dI)) (ci := 6) (v := .ref vw3) (C := RX6) (T := TX6) (N := 6) hx hb hts (fun w h9 => gb_mem (lay_X6 w h9)) hown hK.1 hP 11 rfl rfl 2 (by decide) (hts _ (gb_mem fl_X6_24)) (fun _ h9 => h9) rfl dX6_become_29 ?_
  refine fr_v (M := ((rowW cyI w3 w4 120 heldWhats) ++ (rowW cyI vw3 vw4 120 heldWhats2))) (M' := ((rowW cyI w3 w4 120 (rCopy 120 heldWhats heldWhats2)) ++ (rowW cyI vw3 vw4 120 heldWhats2))) (L' := ((wrapsW cyI w0 w1 w2 w3 w4 w5 w6 w7 w8 w9 w10 number2 (rCopy 120 heldKeys heldKeys2) (rCopy 120 heldWhats heldWhats2) closers closerMakes stands) ++ (wrapsW cyI vw0 vw1 vw2 vw3 vw4 vw5 vw6 vw7 vw8 vw9 vw10 number2 heldKeys2 heldWhats2 closers2 closerMakes2 stands2))) (va_runV (As := [.ref vw3]) (rest := []) ⟨hx, hb, hml, hown, hts⟩ (tX4_become l dC dI cyI cyO cyL w3 w4 vw3 vw4 120 heldWhats heldWhats2 _ (rCopy 120 heldWhats heldWhats2) rfl (by decide)) (cwV 1 hts (gV ml_X6_69 im_X4_become se_X4_become in_X4 co_X4_become) rfl rfl rfl (by decide +kernel) ⟨Nat.le_of_ble_eq_true rfl, Nat.le_of_ble_eq_true rfl⟩) (cP_V hK hP hD [3, 4, 14, 15] rfl rfl 3 rfl rfl) rfl rfl hl.1 rfl (lv_room (Nat.le_of_ble_eq_true rfl)) dX6_become_32 ⟨Nat.zero_le _, Nat.zero_le _⟩) hP hD hS hA [3, 4, 14, 15] rfl [(false, 0), (false, 1), (false, 2), (true, 0), (true, 1), (false, 5), (false, 6), (false, 7), (false, 8), (false, 9), (false, 10), (false, 11), (false, 12), (false, 13), (true, 2), (true, 3), (false, 16), (false, 17), (false, 18), (false, 19), (false, 20), (false, 21)] rfl rfl rfl (fun H locs hP hD hS => ?_)
  refine lv_aload_n hx hb dX6_become_35 rfl (lv_at hl 0 rfl) ?_
  refine va_get (D := (dC, dI)) (ci := 6) (v := .ref w5) (C := RX6) (T := TX6) (N := 6) hx hb hts (fun w h9 => gb_mem (lay_X6 w h9)) hown hK.1 hP 0 rfl rfl 3 (by decide) (hts _ (gb_mem fl_X6_27)) (fun _ h9 => h9) rfl dX6_become_36 ?_
  refine lv_aload_n hx hb dX6_become_39 rfl (lv_at hl 1 rfl) ?_
  refine va_get (D := (dC, dI)) (ci := 6) (v := .ref vw5) (C := RX6) (T := TX6) (N := 6) hx hb hts (fun w h9 => gb_mem (lay_X6 w h9)) hown hK.1 hP 11 rfl rfl 3 (by decide) (hts _ (gb_mem fl_X6_27)) (fun _ h9 => h9) rfl dX6_become_40 ?_
  refine fr_v (M := ((rowW cyI w5 w6 120 closers) ++ (rowW cyI vw5 vw6 120 closers2))) (M' := ((rowW cyI w5 w6 120 (rCopy 120 closers closers2)) ++ (rowW cyI vw5 vw6 120 closers2))) (L' := ((wrapsW cyI w0 w1 w2 w3 w4 w5 w6 w7 w8 w9 w10 number2 (rCopy 120 heldKeys heldKeys2) (rCopy 120 heldWhats heldWhats2) (rCopy 120 closers closers2) closerMakes stands) ++ (wrapsW cyI vw0 vw1 vw2 vw3 vw4 vw5 vw6 vw7 vw8 vw9 vw10 number2 heldKeys2 heldWhats2 closers2 closerMakes2 stands2))) (va_runV (As := [.ref vw5]) (rest := []) ⟨hx, hb, hml, hown, hts⟩ (tX4_become l dC dI cyI cyO cyL w5 w6 vw5 vw6 120 closers closers2 _ (rCopy 120 closers closers2) rfl (by decide)) (cwV 1 hts (gV ml_X6_69 im_X4_become se_X4_become in_X4 co_X4_become) rfl rfl rfl (by decide +kernel) ⟨Nat.le_of_ble_eq_true rfl, Nat.le_of_ble_eq_true rfl⟩) (cP_V hK hP hD [5, 6, 16, 17] rfl rfl 5 rfl rfl) rfl rfl hl.1 rfl (lv_room (Nat.le_of_ble_eq_true rfl)) dX6_become_43 ⟨Nat.zero_le _, Nat.zero_le _⟩) hP hD hS hA [5, 6, 16, 17] rfl [(false, 0), (false, 1), (false, 2), (false, 3), (false, 4), (true, 0), (true, 1), (false, 7), (false, 8), (false, 9), (false, 10), (false, 11), (false, 12), (false, 13), (false, 14), (false, 15), (true, 2), (true, 3), (false, 18), (false, 19), (false, 20), (false, 21)] rfl rfl rfl (fun H locs hP hD hS => ?_)
  refine lv_aload_n hx hb dX6_become_46 rfl (lv_at hl 0 rfl) ?_
  refine va_get (D := (dC, dI)) (ci := 6) (v := .ref w7) (C := RX6) (T := TX6) (N := 6) hx hb hts (fun w h9 => gb_mem (lay_X6 w h9)) hown hK.1 hP 0 rfl rfl 4 (by decide) (hts _ (gb_mem fl_X6_30)) (fun _ h9 => h9) rfl dX6_become_47 ?_
  refine lv_aload_n hx hb dX6_become_50 rfl (lv_at hl 1 rfl) ?_
  refine va_get (D := (dC, dI)) (ci := 6) (v := .ref vw7) (C := RX6) (T := TX6) (N := 6) hx hb hts (fun w h9 => gb_mem (lay_X6 w h9)) hown hK.1 hP 11 rfl rfl 4 (by decide) (hts _ (gb_mem fl_X6_30)) (fun _ h9 => h9) rfl dX6_become_51 ?_
  refine fr_v (M := ((rowW cyI w7 w8 120 closerMakes) ++ (rowW cyI vw7 vw8 120 closerMakes2))) (M' := ((rowW cyI w7 w8 120 (rCopy 120 closerMakes closerMakes2)) ++ (rowW cyI vw7 vw8 120 closerMakes2))) (L' := ((wrapsW cyI w0 w1 w2 w3 w4 w5 w6 w7 w8 w9 w10 number2 (rCopy 120 heldKeys heldKeys2) (rCopy 120 heldWhats heldWhats2) (rCopy 120 closers closers2) (rCopy 120 closerMakes closerMakes2) stands) ++ (wrapsW cyI vw0 vw1 vw2 vw3 vw4 vw5 vw6 vw7 vw8 vw9 vw10 number2 heldKeys2 heldWhats2 closers2 closerMakes2 stands2))) (va_runV (As := [.ref vw7]) (rest := []) ⟨hx, hb, hml, hown, hts⟩ (tX4_become l dC dI cyI cyO cyL w7 w8 vw7 vw8 120 closerMakes closerMakes2 _ (rCopy 120 closerMakes closerMakes2) rfl (by decide)) (cwV 1 hts (gV ml_X6_69 im_X4_become se_X4_become in_X4 co_X4_become) rfl rfl rfl (by decide +kernel) ⟨Nat.le_of_ble_eq_true rfl, Nat.le_of_ble_eq_true rfl⟩) (cP_V hK hP hD [7, 8, 18, 19] rfl rfl 7 rfl rfl) rfl rfl hl.1 rfl (lv_room (Nat.le_of_ble_eq_true rfl)) dX6_become_54 ⟨Nat.zero_le _, Nat.zero_le _⟩) hP hD hS hA [7, 8, 18, 19] rfl [(false, 0), (false, 1), (false, 2), (false, 3), (false, 4), (false, 5), (false, 6), (true, 0), (true, 1), (false, 9), (false, 10), (false, 11), (false, 12), (false, 13), (false, 14), (false, 15), (false, 16), (false, 17), (true, 2), (true, 3), (false, 20), (false, 21)] rfl rfl rfl (fun H locs hP hD hS => ?_)
  refine lv_aload_n hx hb dX6_become_57 rfl (lv_at hl 0 rfl) ?_
  refine va_get (D := (dC, dI)) (ci := 6) (v := .ref w9) (C := RX6) (T := TX6) (N := 6) hx hb hts (fun w h9 => gb_mem (lay_X6 w h9)) hown hK.1 hP 0 rfl rfl 5 (by decide) (hts _ (gb_mem fl_X6_33)) (fun _ h9 => h9) rfl dX6_become_58 ?_
  refine lv_aload_n hx hb dX6_become_61 rfl (lv_at hl 1 rfl) ?_
  refine va_get (D := (dC, dI)) (ci := 6) (v := .ref vw9) (C := RX6) (T := TX6) (N := 6) hx hb hts (fun w h9 => gb_mem (lay_X6 w h9)) hown hK.1 hP 11 rfl rfl 5 (by decide) (hts _ (gb_mem fl_X6_33)) (fun _ h9 => h9) rfl dX6_become_62 ?_
  refine fr_v (M := ((rowW cyI w9 w10 120 stands) ++ (rowW cyI vw9 vw10 120 stands2))) (M' := ((rowW cyI w9 w10 120 (rCopy 120 stands stands2)) ++ (rowW cyI vw9 vw10 120 stands2))) (L' := ((wrapsW cyI w0 w1 w2 w3 w4 w5 w6 w7 w8 w9 w10 number2 (rCopy 120 heldKeys heldKeys2) (rCopy 120 heldWhats heldWhats2) (rCopy 120 closers closers2) (rCopy 120 closerMakes closerMakes2) (rCopy 120 stands stands2)) ++ (wrapsW cyI vw0 vw1 vw2 vw3 vw4 vw5 vw6 vw7 vw8 vw9 vw10 number2 heldKeys2 heldWhats2 closers2 closerMakes2 stands2))) (va_runV (As := [.ref vw9]) (rest := []) ⟨hx, hb, hml, hown, hts⟩ (tX4_become l dC dI cyI cyO cyL w9 w10 vw9 vw10 120 stands stands2 _ (rCopy 120 stands stands2) rfl (by decide)) (cwV 1 hts (gV ml_X6_69 im_X4_become se_X4_become in_X4 co_X4_become) rfl rfl rfl (by decide +kernel) ⟨Nat.le_of_ble_eq_true rfl, Nat.le_of_ble_eq_true rfl⟩) (cP_V hK hP hD [9, 10, 20, 21] rfl rfl 9 rfl rfl) rfl rfl hl.1 rfl (lv_room (Nat.le_of_ble_eq_true rfl)) dX6_become_65 ⟨Nat.zero_le _, Nat.zero_le _⟩) hP hD hS hA [9, 10, 20, 21] rfl [(false, 0), (false, 1), (false, 2), (false, 3), (false, 4), (false, 5), (false, 6), (false, 7), (false, 8), (true, 0), (true, 1), (false, 11), (false, 12), (false, 13), (false, 14), (false, 15), (false, 16), (false, 17), (false, 18), (false, 19), (true, 2), (true, 3)] rfl rfl rfl (fun H locs hP hD hS => ?_)
  obtain rfl := Option.some.inj h
  exact e_v hx hb hr hlocks hP hS dX6_become_68
