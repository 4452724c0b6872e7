/-! Tree -/

noncomputable def fX5_hasKey (keys : Int32) (x1 : Int32) : Int32 :=
  (if x1 < 0 then (0) else (if keys ≤ x1 then (0) else (1)))
set_option maxHeartbeats 1000000 in
set_option maxRecDepth 100000 in
theorem mX5_hasKey (l : Launch) (dC : Nat → ClassId) (dI : Nat → Nat → Nat) (cyI cyO cyL : ClassId) (t0 t1 t2 t3 t4 t5 t6 t7 t8 : Nat) (mostWear : Int32) (keys : Int32) (boxes : Int32) (liveKeys : Int32) (liveBoxes : Int32) (parents : Nat → Int32) (makes : Nat → Int32) (wears : Nat → Int32) (keysOfBoxes : Nat → Int32) (x1 : Int32) (sz : Nat) (res : Int32) (h : fX5_hasKey keys x1 = res) : Met l yX5_hasKey (wsG yX5_hasKey cX5_hasKey 2 (some .boolean)) ({ frames := 0, cells := 0, slots := 0, locals := 0 }) (cP dC dI cyI cyO cyL sz [.ref t0, .int x1] (treeW cyI t0 t1 t2 t3 t4 t5 t6 t7 t8 mostWear keys boxes liveKeys liveBoxes parents makes wears keysOfBoxes)) (cI dC dI res (treeW cyI t0 t1 t2 t3 t4 t5 t6 t7 t8 mostWear keys boxes liveKeys liveBoxes parents makes wears keysOfBoxes) (va_A (treeW cyI t0 t1 t2 t3 t4 t5 t6 t7 t8 mostWear keys boxes liveKeys liveBoxes parents makes wears keysOfBoxes) sz)) 0 0 (va_A (treeW cyI t0 t1 t2 t3 t4 t5 t6 t7 t8 mostWear keys boxes liveKeys liveBoxes parents makes wears keysOfBoxes) sz) := by
  refine Met.ofW (cc := cX5_hasKey) (maxL := 2) (ret := (some .boolean)) (by decide) rfl ?_
  intro p e s m args below meth c s₁ B hml hv
  obtain ⟨rfl, hsz, hP, hK, hD0⟩ := hv
  have hx := B.exec
  have hb := B.bytes
  have hr := B.returns
  have hts := atoms_spec (ws := wsG yX5_hasKey cX5_hasKey 2 (some .boolean)) B.pre
  have hown : s.vm.findClass RX5 = some m.cls := findClass_of_methodNamed B.named
  have hlocks := B.notSynchronized
  subst hsz
  have hD := hD0.self (sz := s.heap.size)
  generalize hAe : va_A (treeW cyI t0 t1 t2 t3 t4 t5 t6 t7 t8 mostWear keys boxes liveKeys liveBoxes parents makes wears keysOfBoxes) s.heap.size = A at hD ⊢
  have hA : ∀ q : Nat, s.heap.size ≤ q → A q := fun q h => by rw [← hAe]; exact Or.inr h
  have hS : va_S A s.heap s.heap [] := va_S.rf
  have hl := lv_entry ([.ref t0, .int x1]) (n := 2) (Nat.le_of_ble_eq_true rfl)
  rw [lg_entry_eq]
  generalize (lg_sl ([.ref t0, .int x1]) ++ List.replicate (2 - (lg_sl ([.ref t0, .int x1])).length) Slot.unset).toArray = ls at hl ⊢
  have hl : lv_has ls 2 [(0, .ref t0), (1, .int x1)] := hl
  unfold fX5_hasKey at h
  refine lv_iload_n hx hb dX5_hasKey_0 rfl (lv_at hl 1 rfl) ?_
  refine lv_if_lt (tgt := 16) hx hb dX5_hasKey_1 (by decide) (fun c1 => ?_) (fun c1 => ?_)
  · have h := (if_pos c1).symm.trans h
    refine lv_iconst (v := 0) hx hb dX5_hasKey_16 (by decide) ?_
    obtain rfl := h
    exact e_z (v := 0) hx hb hr hlocks rfl hP hS dX5_hasKey_17
  · have h := (if_neg c1).symm.trans h
    refine lv_iload_n hx hb dX5_hasKey_4 rfl (lv_at hl 1 rfl) ?_
    refine lv_aload_n hx hb dX5_hasKey_5 rfl (lv_at hl 0 rfl) ?_
    refine va_get (D := (dC, dI)) (ci := 5) (v := .int keys) (C := RX5) (T := TX5) (N := 9) hx hb hts (fun w h9 => gb_mem (lay_X5 w h9)) hown hK.1 hP 0 rfl rfl 1 (by decide) (hts _ (gb_mem fl_X5_15)) (fun _ h9 => h9) rfl dX5_hasKey_6 ?_
    refine lv_icmp_ge (tgt := 16) hx hb dX5_hasKey_9 (by decide) (fun c2 => ?_) (fun c2 => ?_)
    · have h := (if_pos c2).symm.trans h
      refine lv_iconst (v := 0) hx hb dX5_hasKey_16 (by decide) ?_
      obtain rfl := h
      exact e_z (v := 0) hx hb hr hlocks rfl hP hS dX5_hasKey_17
    · have h := (if_neg c2).symm.trans h
      refine lv_iconst (v := 1) hx hb dX5_hasKey_12 (by decide) ?_
      refine lv_goto (tgt := 17) hx hb dX5_hasKey_13 (by decide) ?_
      obtain rfl := h
      exact e_z (v := 1) hx hb hr hlocks rfl hP hS dX5_hasKey_17
theorem nb_X5_hasKey (keys : Int32) (x1 : Int32) : narrow .boolean (.int (fX5_hasKey keys x1)) = .int (fX5_hasKey keys x1) := by
  unfold fX5_hasKey
  repeat (first | rfl | split)

noncomputable def fX5_hasBox (boxes : Int32) (x1 : Int32) : Int32 :=
  (if x1 < 0 then (0) else (if boxes ≤ x1 then (0) else (1)))
set_option maxHeartbeats 1000000 in
set_option maxRecDepth 100000 in
theorem mX5_hasBox (l : Launch) (dC : Nat → ClassId) (dI : Nat → Nat → Nat) (cyI cyO cyL : ClassId) (t0 t1 t2 t3 t4 t5 t6 t7 t8 : Nat) (mostWear : Int32) (keys : Int32) (boxes : Int32) (liveKeys : Int32) (liveBoxes : Int32) (parents : Nat → Int32) (makes : Nat → Int32) (wears : Nat → Int32) (keysOfBoxes : Nat → Int32) (x1 : Int32) (sz : Nat) (res : Int32) (h : fX5_hasBox boxes x1 = res) : Met l yX5_hasBox (wsG yX5_hasBox cX5_hasBox 2 (some .boolean)) ({ frames := 0, cells := 0, slots := 0, locals := 0 }) (cP dC dI cyI cyO cyL sz [.ref t0, .int x1] (treeW cyI t0 t1 t2 t3 t4 t5 t6 t7 t8 mostWear keys boxes liveKeys liveBoxes parents makes wears keysOfBoxes)) (cI dC dI res (treeW cyI t0 t1 t2 t3 t4 t5 t6 t7 t8 mostWear keys boxes liveKeys liveBoxes parents makes wears keysOfBoxes) (va_A (treeW cyI t0 t1 t2 t3 t4 t5 t6 t7 t8 mostWear keys boxes liveKeys liveBoxes parents makes wears keysOfBoxes) sz)) 0 0 (va_A (treeW cyI t0 t1 t2 t3 t4 t5 t6 t7 t8 mostWear keys boxes liveKeys liveBoxes parents makes wears keysOfBoxes) sz) := by
  refine Met.ofW (cc := cX5_hasBox) (maxL := 2) (ret := (some .boolean)) (by decide) rfl ?_
  intro p e s m args below meth c s₁ B hml hv
  obtain ⟨rfl, hsz, hP, hK, hD0⟩ := hv
  have hx := B.exec
  have hb := B.bytes
  have hr := B.returns
  have hts := atoms_spec (ws := wsG yX5_hasBox cX5_hasBox 2 (some .boolean)) B.pre
  have hown : s.vm.findClass RX5 = some m.cls := findClass_of_methodNamed B.named
  have hlocks := B.notSynchronized
  subst hsz
  have hD := hD0.self (sz := s.heap.size)
  generalize hAe : va_A (treeW cyI t0 t1 t2 t3 t4 t5 t6 t7 t8 mostWear keys boxes liveKeys liveBoxes parents makes wears keysOfBoxes) s.heap.size = A at hD ⊢
  have hA : ∀ q : Nat, s.heap.size ≤ q → A q := fun q h => by rw [← hAe]; exact Or.inr h
  have hS : va_S A s.heap s.heap [] := va_S.rf
  have hl := lv_entry ([.ref t0, .int x1]) (n := 2) (Nat.le_of_ble_eq_true rfl)
  rw [lg_entry_eq]
  generalize (lg_sl ([.ref t0, .int x1]) ++ List.replicate (2 - (lg_sl ([.ref t0, .int x1])).length) Slot.unset).toArray = ls at hl ⊢
  have hl : lv_has ls 2 [(0, .ref t0), (1, .int x1)] := hl
  unfold fX5_hasBox at h
  refine lv_iload_n hx hb dX5_hasBox_0 rfl (lv_at hl 1 rfl) ?_
  refine lv_if_lt (tgt := 16) hx hb dX5_hasBox_1 (by decide) (fun c1 => ?_) (fun c1 => ?_)
  · have h := (if_pos c1).symm.trans h
    refine lv_iconst (v := 0) hx hb dX5_hasBox_16 (by decide) ?_
    obtain rfl := h
    exact e_z (v := 0) hx hb hr hlocks rfl hP hS dX5_hasBox_17
  · have h := (if_neg c1).symm.trans h
    refine lv_iload_n hx hb dX5_hasBox_4 rfl (lv_at hl 1 rfl) ?_
    refine lv_aload_n hx hb dX5_hasBox_5 rfl (lv_at hl 0 rfl) ?_
    refine va_get (D := (dC, dI)) (ci := 5) (v := .int boxes) (C := RX5) (T := TX5) (N := 9) hx hb hts (fun w h9 => gb_mem (lay_X5 w h9)) hown hK.1 hP 0 rfl rfl 2 (by decide) (hts _ (gb_mem fl_X5_18)) (fun _ h9 => h9) rfl dX5_hasBox_6 ?_
    refine lv_icmp_ge (tgt := 16) hx hb dX5_hasBox_9 (by decide) (fun c2 => ?_) (fun c2 => ?_)
    · have h := (if_pos c2).symm.trans h
      refine lv_iconst (v := 0) hx hb dX5_hasBox_16 (by decide) ?_
      obtain rfl := h
      exact e_z (v := 0) hx hb hr hlocks rfl hP hS dX5_hasBox_17
    · have h := (if_neg c2).symm.trans h
      refine lv_iconst (v := 1) hx hb dX5_hasBox_12 (by decide) ?_
      refine lv_goto (tgt := 17) hx hb dX5_hasBox_13 (by decide) ?_
      obtain rfl := h
      exact e_z (v := 1) hx hb hr hlocks rfl hP hS dX5_hasBox_17
theorem nb_X5_hasBox (boxes : Int32) (x1 : Int32) : narrow .boolean (.int (fX5_hasBox boxes x1)) = .int (fX5_hasBox boxes x1) := by
  unfold fX5_hasBox
  repeat (first | rfl | split)

noncomputable def fX5_isLiveKey (liveKeys : Int32) (x1 : Int32) : Int32 :=
  ((fX7_has liveKeys x1))
set_option maxHeartbeats 1000000 in
set_option maxRecDepth 100000 in
theorem mX5_isLiveKey (l : Launch) (dC : Nat → ClassId) (dI : Nat → Nat → Nat) (cyI cyO cyL : ClassId) (t0 t1 t2 t3 t4 t5 t6 t7 t8 : Nat) (mostWear : Int32) (keys : Int32) (boxes : Int32) (liveKeys : Int32) (liveBoxes : Int32) (parents : Nat → Int32) (makes : Nat → Int32) (wears : Nat → Int32) (keysOfBoxes : Nat → Int32) (x1 : Int32) (sz : Nat) (res : Int32) (h : fX5_isLiveKey liveKeys x1 = res) : Met l yX5_isLiveKey (wsG yX5_isLiveKey cX5_isLiveKey 2 (some .boolean)) ({ frames := 1, cells := 0, slots := 0, locals := 21 }) (cP dC dI cyI cyO cyL sz [.ref t0, .int x1] (treeW cyI t0 t1 t2 t3 t4 t5 t6 t7 t8 mostWear keys boxes liveKeys liveBoxes parents makes wears keysOfBoxes)) (cI dC dI res (treeW cyI t0 t1 t2 t3 t4 t5 t6 t7 t8 mostWear keys boxes liveKeys liveBoxes parents makes wears keysOfBoxes) (va_A (treeW cyI t0 t1 t2 t3 t4 t5 t6 t7 t8 mostWear keys boxes liveKeys liveBoxes parents makes wears keysOfBoxes) sz)) 0 0 (va_A (treeW cyI t0 t1 t2 t3 t4 t5 t6 t7 t8 mostWear keys boxes liveKeys liveBoxes parents makes wears keysOfBoxes) sz) := by
  refine Met.ofW (cc := cX5_isLiveKey) (maxL := 2) (ret := (some .boolean)) (by decide) rfl ?_
  intro p e s m args below meth c s₁ B hml hv
  obtain ⟨rfl, hsz, hP, hK, hD0⟩ := hv
  have hx := B.exec
  have hb := B.bytes
  have hr := B.returns
  have hts := atoms_spec (ws := wsG yX5_isLiveKey cX5_isLiveKey 2 (some .boolean)) B.pre
  have hown : s.vm.findClass RX5 = some m.cls := findClass_of_methodNamed B.named
  have hlocks := B.notSynchronized
  subst hsz
  have hD := hD0.self (sz := s.heap.size)
  generalize hAe : va_A (treeW cyI t0 t1 t2 t3 t4 t5 t6 t7 t8 mostWear keys boxes liveKeys liveBoxes parents makes wears keysOfBoxes) s.heap.size = A at hD ⊢
  have hA : ∀ q : Nat, s.heap.size ≤ q → A q := fun q h => by rw [← hAe]; exact Or.inr h
  have hS : va_S A s.heap s.heap [] := va_S.rf
  have hl := lv_entry ([.ref t0, .int x1]) (n := 2) (Nat.le_of_ble_eq_true rfl)
  rw [lg_entry_eq]
  generalize (lg_sl ([.ref t0, .int x1]) ++ List.replicate (2 - (lg_sl ([.ref t0, .int x1])).length) Slot.unset).toArray = ls at hl ⊢
  have hl : lv_has ls 2 [(0, .ref t0), (1, .int x1)] := hl
  unfold fX5_isLiveKey at h
  refine lv_aload_n hx hb dX5_isLiveKey_0 rfl (lv_at hl 0 rfl) ?_
  refine va_get (D := (dC, dI)) (ci := 5) (v := .int liveKeys) (C := RX5) (T := TX5) (N := 9) hx hb hts (fun w h9 => gb_mem (lay_X5 w h9)) hown hK.1 hP 0 rfl rfl 3 (by decide) (hts _ (gb_mem fl_X5_21)) (fun _ h9 => h9) rfl dX5_isLiveKey_1 ?_
  refine lv_iload_n hx hb dX5_isLiveKey_4 rfl (lv_at hl 1 rfl) ?_
  refine fr_ir (M := ([] : va_W)) (va_runSN (host := "HangingKeys") (As := [.int liveKeys, .int x1]) (rest := []) ⟨hx, hb, hml, hown, hts⟩ (mX7_has l dC dI cyI cyO cyL liveKeys x1 _ (fX7_has liveKeys x1) rfl) ⟨va_cnB 2 hts (gW co_X7_has) rfl rfl rfl (hK.2 _ nl_X5_45) (hts _ (gb_mem in_X7)) (by decide +kernel) ⟨Nat.le_of_ble_eq_true rfl, Nat.le_of_ble_eq_true rfl⟩, hts _ (gb_mem st_X7_has), trivial⟩ (cP_S hK hP hD [] rfl rfl) rfl rfl hl.1 rfl (lv_room (Nat.le_of_ble_eq_true rfl)) dX5_isLiveKey_5 ⟨Nat.zero_le _, Nat.zero_le _⟩) hP hD hS hA [] rfl (fun H locs hP hS => ?_)
  obtain rfl := h
  exact e_z hx hb hr hlocks (by first | exact nb_X7_has .. | rfl) hP hS dX5_isLiveKey_8
theorem nb_X5_isLiveKey (liveKeys : Int32) (x1 : Int32) : narrow .boolean (.int (fX5_isLiveKey liveKeys x1)) = .int (fX5_isLiveKey liveKeys x1) := by
  unfold fX5_isLiveKey
  repeat (first | rfl | split | exact nb_X7_has ..)

noncomputable def fX5_isLiveBox (liveBoxes : Int32) (x1 : Int32) : Int32 :=
  ((fX7_has liveBoxes x1))
set_option maxHeartbeats 1000000 in
set_option maxRecDepth 100000 in
theorem mX5_isLiveBox (l : Launch) (dC : Nat → ClassId) (dI : Nat → Nat → Nat) (cyI cyO cyL : ClassId) (t0 t1 t2 t3 t4 t5 t6 t7 t8 : Nat) (mostWear : Int32) (keys : Int32) (boxes : Int32) (liveKeys : Int32) (liveBoxes : Int32) (parents : Nat → Int32) (makes : Nat → Int32) (wears : Nat → Int32) (keysOfBoxes : Nat → Int32) (x1 : Int32) (sz : Nat) (res : Int32) (h : fX5_isLiveBox liveBoxes x1 = res) : Met l yX5_isLiveBox (wsG yX5_isLiveBox cX5_isLiveBox 2 (some .boolean)) ({ frames := 1, cells := 0, slots := 0, locals := 21 }) (cP dC dI cyI cyO cyL sz [.ref t0, .int x1] (treeW cyI t0 t1 t2 t3 t4 t5 t6 t7 t8 mostWear keys boxes liveKeys liveBoxes parents makes wears keysOfBoxes)) (cI dC dI res (treeW cyI t0 t1 t2 t3 t4 t5 t6 t7 t8 mostWear keys boxes liveKeys liveBoxes parents makes wears keysOfBoxes) (va_A (treeW cyI t0 t1 t2 t3 t4 t5 t6 t7 t8 mostWear keys boxes liveKeys liveBoxes parents makes wears keysOfBoxes) sz)) 0 0 (va_A (treeW cyI t0 t1 t2 t3 t4 t5 t6 t7 t8 mostWear keys boxes liveKeys liveBoxes parents makes wears keysOfBoxes) sz) := by
  refine Met.ofW (cc := cX5_isLiveBox) (maxL := 2) (ret := (some .boolean)) (by decide) rfl ?_
  intro p e s m args below meth c s₁ B hml hv
  obtain ⟨rfl, hsz, hP, hK, hD0⟩ := hv
  have hx := B.exec
  have hb := B.bytes
  have hr := B.returns
  have hts := atoms_spec (ws := wsG yX5_isLiveBox cX5_isLiveBox 2 (some .boolean)) B.pre
  have hown : s.vm.findClass RX5 = some m.cls := findClass_of_methodNamed B.named
  have hlocks := B.notSynchronized
  subst hsz
  have hD := hD0.self (sz := s.heap.size)
  generalize hAe : va_A (treeW cyI t0 t1 t2 t3 t4 t5 t6 t7 t8 mostWear keys boxes liveKeys liveBoxes parents makes wears keysOfBoxes) s.heap.size = A at hD ⊢
  have hA : ∀ q : Nat, s.heap.size ≤ q → A q := fun q h => by rw [← hAe]; exact Or.inr h
  have hS : va_S A s.heap s.heap [] := va_S.rf
  have hl := lv_entry ([.ref t0, .int x1]) (n := 2) (Nat.le_of_ble_eq_true rfl)
  rw [lg_entry_eq]
  generalize (lg_sl ([.ref t0, .int x1]) ++ List.replicate (2 - (lg_sl ([.ref t0, .int x1])).length) Slot.unset).toArray = ls at hl ⊢
  have hl : lv_has ls 2 [(0, .ref t0), (1, .int x1)] := hl
  unfold fX5_isLiveBox at h
  refine lv_aload_n hx hb dX5_isLiveBox_0 rfl (lv_at hl 0 rfl) ?_
  refine va_get (D := (dC, dI)) (ci := 5) (v := .int liveBoxes) (C := RX5) (T := TX5) (N := 9) hx hb hts (fun w h9 => gb_mem (lay_X5 w h9)) hown hK.1 hP 0 rfl rfl 4 (by decide) (hts _ (gb_mem fl_X5_24)) (fun _ h9 => h9) rfl dX5_isLiveBox_1 ?_
  refine lv_iload_n hx hb dX5_isLiveBox_4 rfl (lv_at hl 1 rfl) ?_
  refine fr_ir (M := ([] : va_W)) (va_runSN (host := "HangingKeys") (As := [.int liveBoxes, .int x1]) (rest := []) ⟨hx, hb, hml, hown, hts⟩ (mX7_has l dC dI cyI cyO cyL liveBoxes x1 _ (fX7_has liveBoxes x1) rfl) ⟨va_cnB 2 hts (gW co_X7_has) rfl rfl rfl (hK.2 _ nl_X5_45) (hts _ (gb_mem in_X7)) (by decide +kernel) ⟨Nat.le_of_ble_eq_true rfl, Nat.le_of_ble_eq_true rfl⟩, hts _ (gb_mem st_X7_has), trivial⟩ (cP_S hK hP hD [] rfl rfl) rfl rfl hl.1 rfl (lv_room (Nat.le_of_ble_eq_true rfl)) dX5_isLiveBox_5 ⟨Nat.zero_le _, Nat.zero_le _⟩) hP hD hS hA [] rfl (fun H locs hP hS => ?_)
  obtain rfl := h
  exact e_z hx hb hr hlocks (by first | exact nb_X7_has .. | rfl) hP hS dX5_isLiveBox_8
theorem nb_X5_isLiveBox (liveBoxes : Int32) (x1 : Int32) : narrow .boolean (.int (fX5_isLiveBox liveBoxes x1)) = .int (fX5_isLiveBox liveBoxes x1) := by
  unfold fX5_isLiveBox
  repeat (first | rfl | split | exact nb_X7_has ..)

noncomputable def fX5_isLive (liveKeys : Int32) (liveBoxes : Int32) (x1 : Int32) (x2 : Int32) : Int32 :=
  (if x1 = 0 then ((fX5_isLiveKey liveKeys x2)) else ((fX5_isLiveBox liveBoxes x2)))
set_option maxHeartbeats 1000000 in
set_option maxRecDepth 100000 in
theorem mX5_isLive (l : Launch) (dC : Nat → ClassId) (dI : Nat → Nat → Nat) (cyI cyO cyL : ClassId) (t0 t1 t2 t3 t4 t5 t6 t7 t8 : Nat) (mostWear : Int32) (keys : Int32) (boxes : Int32) (liveKeys : Int32) (liveBoxes : Int32) (parents : Nat → Int32) (makes : Nat → Int32) (wears : Nat → Int32) (keysOfBoxes : Nat → Int32) (x1 : Int32) (x2 : Int32) (sz : Nat) (res : Int32) (h : fX5_isLive liveKeys liveBoxes x1 x2 = res) : Met l yX5_isLive (wsG yX5_isLive cX5_isLive 3 (some .boolean)) ({ frames := 2, cells := 0, slots := 0, locals := 42 }) (cP dC dI cyI cyO cyL sz [.ref t0, .int x1, .int x2] (treeW cyI t0 t1 t2 t3 t4 t5 t6 t7 t8 mostWear keys boxes liveKeys liveBoxes parents makes wears keysOfBoxes)) (cI dC dI res (treeW cyI t0 t1 t2 t3 t4 t5 t6 t7 t8 mostWear keys boxes liveKeys liveBoxes parents makes wears keysOfBoxes) (va_A (treeW cyI t0 t1 t2 t3 t4 t5 t6 t7 t8 mostWear keys boxes liveKeys liveBoxes parents makes wears keysOfBoxes) sz)) 0 0 (va_A (treeW cyI t0 t1 t2 t3 t4 t5 t6 t7 t8 mostWear keys boxes liveKeys liveBoxes parents makes wears keysOfBoxes) sz) := by
  refine Met.ofW (cc := cX5_isLive) (maxL := 3) (ret := (some .boolean)) (by decide) rfl ?_
  intro p e s m args below meth c s₁ B hml hv
  obtain ⟨rfl, hsz, hP, hK, hD0⟩ := hv
  have hx := B.exec
  have hb := B.bytes
  have hr := B.returns
  have hts := atoms_spec (ws := wsG yX5_isLive cX5_isLive 3 (some .boolean)) B.pre
  have hown : s.vm.findClass RX5 = some m.cls := findClass_of_methodNamed B.named
  have hlocks := B.notSynchronized
  subst hsz
  have hD := hD0.self (sz := s.heap.size)
  generalize hAe : va_A (treeW cyI t0 t1 t2 t3 t4 t5 t6 t7 t8 mostWear keys boxes liveKeys liveBoxes parents makes wears keysOfBoxes) s.heap.size = A at hD ⊢
  have hA : ∀ q : Nat, s.heap.size ≤ q → A q := fun q h => by rw [← hAe]; exact Or.inr h
  have hS : va_S A s.heap s.heap [] := va_S.rf
  have hl := lv_entry ([.ref t0, .int x1, .int x2]) (n := 3) (Nat.le_of_ble_eq_true rfl)
  rw [lg_entry_eq]
  generalize (lg_sl ([.ref t0, .int x1, .int x2]) ++ List.replicate (3 - (lg_sl ([.ref t0, .int x1, .int x2])).length) Slot.unset).toArray = ls at hl ⊢
  have hl : lv_has ls 3 [(0, .ref t0), (1, .int x1), (2, .int x2)] := hl
  unfold fX5_isLive at h
  refine lv_iload_n hx hb dX5_isLive_0 rfl (lv_at hl 1 rfl) ?_
  refine lv_if_ne (tgt := 12) hx hb dX5_isLive_1 (by decide) (fun c1 => ?_) (fun c1 => ?_)
  · have h := (if_neg c1).symm.trans h
    refine lv_aload_n hx hb dX5_isLive_12 rfl (lv_at hl 0 rfl) ?_
    refine lv_iload_n hx hb dX5_isLive_13 rfl (lv_at hl 2 rfl) ?_
    refine fr_ir (M := (treeW cyI t0 t1 t2 t3 t4 t5 t6 t7 t8 mostWear keys boxes liveKeys liveBoxes parents makes wears keysOfBoxes)) (va_runV (As := [.int x2]) (rest := []) ⟨hx, hb, hml, hown, hts⟩ (mX5_isLiveBox l dC dI cyI cyO cyL t0 t1 t2 t3 t4 t5 t6 t7 t8 mostWear keys boxes liveKeys liveBoxes parents makes wears keysOfBoxes x2 _ (fX5_isLiveBox liveBoxes x2) rfl) (cwV 1 hts (gV ml_X5_53 im_X5_isLiveBox se_X5_isLiveBox in_X5 co_X5_isLiveBox) rfl rfl rfl (by decide +kernel) ⟨Nat.le_of_ble_eq_true rfl, Nat.le_of_ble_eq_true rfl⟩) (cP_V hK hP hD [0, 1, 2, 3, 4, 5, 6, 7, 8] rfl rfl 0 rfl rfl) rfl rfl hl.1 rfl (lv_room (Nat.le_of_ble_eq_true rfl)) dX5_isLive_14 ⟨Nat.zero_le _, Nat.zero_le _⟩) hP hD hS hA [0, 1, 2, 3, 4, 5, 6, 7, 8] rfl (fun H locs hP hS => ?_)
    obtain rfl := h
    exact e_z hx hb hr hlocks (by first | exact nb_X5_isLiveBox .. | rfl) hP hS dX5_isLive_17
  · have h := (if_pos c1).symm.trans h
    refine lv_aload_n hx hb dX5_isLive_4 rfl (lv_at hl 0 rfl) ?_
    refine lv_iload_n hx hb dX5_isLive_5 rfl (lv_at hl 2 rfl) ?_
    refine fr_ir (M := (treeW cyI t0 t1 t2 t3 t4 t5 t6 t7 t8 mostWear keys boxes liveKeys liveBoxes parents makes wears keysOfBoxes)) (va_runV (As := [.int x2]) (rest := []) ⟨hx, hb, hml, hown, hts⟩ (mX5_isLiveKey l dC dI cyI cyO cyL t0 t1 t2 t3 t4 t5 t6 t7 t8 mostWear keys boxes liveKeys liveBoxes parents makes wears keysOfBoxes x2 _ (fX5_isLiveKey liveKeys x2) rfl) (cwV 1 hts (gV ml_X5_49 im_X5_isLiveKey se_X5_isLiveKey in_X5 co_X5_isLiveKey) rfl rfl rfl (by decide +kernel) ⟨Nat.le_of_ble_eq_true rfl, Nat.le_of_ble_eq_true rfl⟩) (cP_V hK hP hD [0, 1, 2, 3, 4, 5, 6, 7, 8] rfl rfl 0 rfl rfl) rfl rfl hl.1 rfl (lv_room (Nat.le_of_ble_eq_true rfl)) dX5_isLive_6 ⟨Nat.zero_le _, Nat.zero_le _⟩) hP hD hS hA [0, 1, 2, 3, 4, 5, 6, 7, 8] rfl (fun H locs hP hS => ?_)
    refine lv_goto (tgt := 17) hx hb dX5_isLive_9 (by decide) ?_
    obtain rfl := h
    exact e_z hx hb hr hlocks (by first | exact nb_X5_isLiveKey .. | rfl) hP hS dX5_isLive_17
theorem nb_X5_isLive (liveKeys : Int32) (liveBoxes : Int32) (x1 : Int32) (x2 : Int32) : narrow .boolean (.int (fX5_isLive liveKeys liveBoxes x1 x2)) = .int (fX5_isLive liveKeys liveBoxes x1 x2) := by
  unfold fX5_isLive
  repeat (first | rfl | split | exact nb_X5_isLiveBox .. | exact nb_X5_isLiveKey ..)

noncomputable def fX5_isRoot (parents : Nat → Int32) (x1 : Int32) : Int32 :=
  (if (rAt 20 parents x1) = (-6) then (1) else (0))
set_option maxHeartbeats 1000000 in
set_option maxRecDepth 100000 in
theorem mX5_isRoot (l : Launch) (dC : Nat → ClassId) (dI : Nat → Nat → Nat) (cyI cyO cyL : ClassId) (t0 t1 t2 t3 t4 t5 t6 t7 t8 : Nat) (mostWear : Int32) (keys : Int32) (boxes : Int32) (liveKeys : Int32) (liveBoxes : Int32) (parents : Nat → Int32) (makes : Nat → Int32) (wears : Nat → Int32) (keysOfBoxes : Nat → Int32) (x1 : Int32) (sz : Nat) (res : Int32) (h : fX5_isRoot parents x1 = res) : Met l yX5_isRoot (wsG yX5_isRoot cX5_isRoot 2 (some .boolean)) ({ frames := 1, cells := 0, slots := 0, locals := 21 }) (cP dC dI cyI cyO cyL sz [.ref t0, .int x1] (treeW cyI t0 t1 t2 t3 t4 t5 t6 t7 t8 mostWear keys boxes liveKeys liveBoxes parents makes wears keysOfBoxes)) (cI dC dI res (treeW cyI t0 t1 t2 t3 t4 t5 t6 t7 t8 mostWear keys boxes liveKeys liveBoxes parents makes wears keysOfBoxes) (va_A (treeW cyI t0 t1 t2 t3 t4 t5 t6 t7 t8 mostWear keys boxes liveKeys liveBoxes parents makes wears keysOfBoxes) sz)) 0 0 (va_A (treeW cyI t0 t1 t2 t3 t4 t5 t6 t7 t8 mostWear keys boxes liveKeys liveBoxes parents makes wears keysOfBoxes) sz) := by
  refine Met.ofW (cc := cX5_isRoot) (maxL := 2) (ret := (some .boolean)) (by decide) rfl ?_
  intro p e s m args below meth c s₁ B hml hv
  obtain ⟨rfl, hsz, hP, hK, hD0⟩ := hv
  have hx := B.exec
  have hb := B.bytes
  have hr := B.returns
  have hts := atoms_spec (ws := wsG yX5_isRoot cX5_isRoot 2 (some .boolean)) B.pre
  have hown : s.vm.findClass RX5 = some m.cls := findClass_of_methodNamed B.named
  have hlocks := B.notSynchronized
  subst hsz
  have hD := hD0.self (sz := s.heap.size)
  generalize hAe : va_A (treeW cyI t0 t1 t2 t3 t4 t5 t6 t7 t8 mostWear keys boxes liveKeys liveBoxes parents makes wears keysOfBoxes) s.heap.size = A at hD ⊢
  have hA : ∀ q : Nat, s.heap.size ≤ q → A q := fun q h => by rw [← hAe]; exact Or.inr h
  have hS : va_S A s.heap s.heap [] := va_S.rf
  have hl := lv_entry ([.ref t0, .int x1]) (n := 2) (Nat.le_of_ble_eq_true rfl)
  rw [lg_entry_eq]
  generalize (lg_sl ([.ref t0, .int x1]) ++ List.replicate (2 - (lg_sl ([.ref t0, .int x1])).length) Slot.unset).toArray = ls at hl ⊢
  have hl : lv_has ls 2 [(0, .ref t0), (1, .int x1)] := hl
  unfold fX5_isRoot at h
  refine lv_aload_n hx hb dX5_isRoot_0 rfl (lv_at hl 0 rfl) ?_
  refine va_get (D := (dC, dI)) (ci := 5) (v := .ref t1) (C := RX5) (T := TX5) (N := 9) hx hb hts (fun w h9 => gb_mem (lay_X5 w h9)) hown hK.1 hP 0 rfl rfl 5 (by decide) (hts _ (gb_mem fl_X5_32)) (fun _ h9 => h9) rfl dX5_isRoot_1 ?_
  refine lv_iload_n hx hb dX5_isRoot_4 rfl (lv_at hl 1 rfl) ?_
  refine fr_ir (M := (rowW cyI t1 t2 20 parents)) (va_runV (As := [.int x1]) (rest := []) ⟨hx, hb, hml, hown, hts⟩ (tX4_at l dC dI cyI cyO cyL t1 t2 20 parents x1 _ (rAt 20 parents x1) rfl (by decide)) (cwV 1 hts (gV ml_X5_56 im_X4_at se_X4_at in_X4 co_X4_at) rfl rfl rfl (by decide +kernel) ⟨Nat.le_of_ble_eq_true rfl, Nat.le_of_ble_eq_true rfl⟩) (cP_V hK hP hD [1, 2] rfl rfl 1 rfl rfl) rfl rfl hl.1 rfl (lv_room (Nat.le_of_ble_eq_true rfl)) dX5_isRoot_5 ⟨Nat.zero_le _, Nat.zero_le _⟩) hP hD hS hA [1, 2] rfl (fun H locs hP hS => ?_)
  refine lv_bipush (v := (-6)) hx hb dX5_isRoot_8 (by decide) ?_
  refine lv_icmp_ne (tgt := 17) hx hb dX5_isRoot_10 (by decide) (fun c1 => ?_) (fun c1 => ?_)
  · have h := (if_neg c1).symm.trans h
    refine lv_iconst (v := 0) hx hb dX5_isRoot_17 (by decide) ?_
    obtain rfl := h
    exact e_z (v := 0) hx hb hr hlocks rfl hP hS dX5_isRoot_18
  · have h := (if_pos c1).symm.trans h
    refine lv_iconst (v := 1) hx hb dX5_isRoot_13 (by decide) ?_
    refine lv_goto (tgt := 18) hx hb dX5_isRoot_14 (by decide) ?_
    obtain rfl := h
    exact e_z (v := 1) hx hb hr hlocks rfl hP hS dX5_isRoot_18
theorem nb_X5_isRoot (parents : Nat → Int32) (x1 : Int32) : narrow .boolean (.int (fX5_isRoot parents x1)) = .int (fX5_isRoot parents x1) := by
  unfold fX5_isRoot
  repeat (first | rfl | split)

noncomputable def fX5_parentOf (parents : Nat → Int32) (x1 : Int32) : Int32 :=
  ((rAt 20 parents x1))
set_option maxHeartbeats 1000000 in
set_option maxRecDepth 100000 in
theorem mX5_parentOf (l : Launch) (dC : Nat → ClassId) (dI : Nat → Nat → Nat) (cyI cyO cyL : ClassId) (t0 t1 t2 t3 t4 t5 t6 t7 t8 : Nat) (mostWear : Int32) (keys : Int32) (boxes : Int32) (liveKeys : Int32) (liveBoxes : Int32) (parents : Nat → Int32) (makes : Nat → Int32) (wears : Nat → Int32) (keysOfBoxes : Nat → Int32) (x1 : Int32) (sz : Nat) (res : Int32) (h : fX5_parentOf parents x1 = res) : Met l yX5_parentOf (wsG yX5_parentOf cX5_parentOf 2 (some .int)) ({ frames := 1, cells := 0, slots := 0, locals := 21 }) (cP dC dI cyI cyO cyL sz [.ref t0, .int x1] (treeW cyI t0 t1 t2 t3 t4 t5 t6 t7 t8 mostWear keys boxes liveKeys liveBoxes parents makes wears keysOfBoxes)) (cI dC dI res (treeW cyI t0 t1 t2 t3 t4 t5 t6 t7 t8 mostWear keys boxes liveKeys liveBoxes parents makes wears keysOfBoxes) (va_A (treeW cyI t0 t1 t2 t3 t4 t5 t6 t7 t8 mostWear keys boxes liveKeys liveBoxes parents makes wears keysOfBoxes) sz)) 0 0 (va_A (treeW cyI t0 t1 t2 t3 t4 t5 t6 t7 t8 mostWear keys boxes liveKeys liveBoxes parents makes wears keysOfBoxes) sz) := by
  refine Met.ofW (cc := cX5_parentOf) (maxL := 2) (ret := (some .int)) (by decide) rfl ?_
  intro p e s m args below meth c s₁ B hml hv
  obtain ⟨rfl, hsz, hP, hK, hD0⟩ := hv
  have hx := B.exec
  have hb := B.bytes
  have hr := B.returns
  have hts := atoms_spec (ws := wsG yX5_parentOf cX5_parentOf 2 (some .int)) B.pre
  have hown : s.vm.findClass RX5 = some m.cls := findClass_of_methodNamed B.named
  have hlocks := B.notSynchronized
  subst hsz
  have hD := hD0.self (sz := s.heap.size)
  generalize hAe : va_A (treeW cyI t0 t1 t2 t3 t4 t5 t6 t7 t8 mostWear keys boxes liveKeys liveBoxes parents makes wears keysOfBoxes) s.heap.size = A at hD ⊢
  have hA : ∀ q : Nat, s.heap.size ≤ q → A q := fun q h => by rw [← hAe]; exact Or.inr h
  have hS : va_S A s.heap s.heap [] := va_S.rf
  have hl := lv_entry ([.ref t0, .int x1]) (n := 2) (Nat.le_of_ble_eq_true rfl)
  rw [lg_entry_eq]
  generalize (lg_sl ([.ref t0, .int x1]) ++ List.replicate (2 - (lg_sl ([.ref t0, .int x1])).length) Slot.unset).toArray = ls at hl ⊢
  have hl : lv_has ls 2 [(0, .ref t0), (1, .int x1)] := hl
  unfold fX5_parentOf at h
  refine lv_aload_n hx hb dX5_parentOf_0 rfl (lv_at hl 0 rfl) ?_
  refine va_get (D := (dC, dI)) (ci := 5) (v := .ref t1) (C := RX5) (T := TX5) (N := 9) hx hb hts (fun w h9 => gb_mem (lay_X5 w h9)) hown hK.1 hP 0 rfl rfl 5 (by decide) (hts _ (gb_mem fl_X5_32)) (fun _ h9 => h9) rfl dX5_parentOf_1 ?_
  refine lv_iload_n hx hb dX5_parentOf_4 rfl (lv_at hl 1 rfl) ?_
  refine fr_ir (M := (rowW cyI t1 t2 20 parents)) (va_runV (As := [.int x1]) (rest := []) ⟨hx, hb, hml, hown, hts⟩ (tX4_at l dC dI cyI cyO cyL t1 t2 20 parents x1 _ (rAt 20 parents x1) rfl (by decide)) (cwV 1 hts (gV ml_X5_56 im_X4_at se_X4_at in_X4 co_X4_at) rfl rfl rfl (by decide +kernel) ⟨Nat.le_of_ble_eq_true rfl, Nat.le_of_ble_eq_true rfl⟩) (cP_V hK hP hD [1, 2] rfl rfl 1 rfl rfl) rfl rfl hl.1 rfl (lv_room (Nat.le_of_ble_eq_true rfl)) dX5_parentOf_5 ⟨Nat.zero_le _, Nat.zero_le _⟩) hP hD hS hA [1, 2] rfl (fun H locs hP hS => ?_)
  obtain rfl := h
  exact e_i hx hb hr hlocks hP hS dX5_parentOf_8

noncomputable def fX5_makeOf (makes : Nat → Int32) (x1 : Int32) : Int32 :=
  ((rAt 20 makes x1))
set_option maxHeartbeats 1000000 in
set_option maxRecDepth 100000 in
theorem mX5_makeOf (l : Launch) (dC : Nat → ClassId) (dI : Nat → Nat → Nat) (cyI cyO cyL : ClassId) (t0 t1 t2 t3 t4 t5 t6 t7 t8 : Nat) (mostWear : Int32) (keys : Int32) (boxes : Int32) (liveKeys : Int32) (liveBoxes : Int32) (parents : Nat → Int32) (makes : Nat → Int32) (wears : Nat → Int32) (keysOfBoxes : Nat → Int32) (x1 : Int32) (sz : Nat) (res : Int32) (h : fX5_makeOf makes x1 = res) : Met l yX5_makeOf (wsG yX5_makeOf cX5_makeOf 2 (some .int)) ({ frames := 1, cells := 0, slots := 0, locals := 21 }) (cP dC dI cyI cyO cyL sz [.ref t0, .int x1] (treeW cyI t0 t1 t2 t3 t4 t5 t6 t7 t8 mostWear keys boxes liveKeys liveBoxes parents makes wears keysOfBoxes)) (cI dC dI res (treeW cyI t0 t1 t2 t3 t4 t5 t6 t7 t8 mostWear keys boxes liveKeys liveBoxes parents makes wears keysOfBoxes) (va_A (treeW cyI t0 t1 t2 t3 t4 t5 t6 t7 t8 mostWear keys boxes liveKeys liveBoxes parents makes wears keysOfBoxes) sz)) 0 0 (va_A (treeW cyI t0 t1 t2 t3 t4 t5 t6 t7 t8 mostWear keys boxes liveKeys liveBoxes parents makes wears keysOfBoxes) sz) := by
  refine Met.ofW (cc := cX5_makeOf) (maxL := 2) (ret := (some .int)) (by decide) rfl ?_
  intro p e s m args below meth c s₁ B hml hv
  obtain ⟨rfl, hsz, hP, hK, hD0⟩ := hv
  have hx := B.exec
  have hb := B.bytes
  have hr := B.returns
  have hts := atoms_spec (ws := wsG yX5_makeOf cX5_makeOf 2 (some .int)) B.pre
  have hown : s.vm.findClass RX5 = some m.cls := findClass_of_methodNamed B.named
  have hlocks := B.notSynchronized
  subst hsz
  have hD := hD0.self (sz := s.heap.size)
  generalize hAe : va_A (treeW cyI t0 t1 t2 t3 t4 t5 t6 t7 t8 mostWear keys boxes liveKeys liveBoxes parents makes wears keysOfBoxes) s.heap.size = A at hD ⊢
  have hA : ∀ q : Nat, s.heap.size ≤ q → A q := fun q h => by rw [← hAe]; exact Or.inr h
  have hS : va_S A s.heap s.heap [] := va_S.rf
  have hl := lv_entry ([.ref t0, .int x1]) (n := 2) (Nat.le_of_ble_eq_true rfl)
  rw [lg_entry_eq]
  generalize (lg_sl ([.ref t0, .int x1]) ++ List.replicate (2 - (lg_sl ([.ref t0, .int x1])).length) Slot.unset).toArray = ls at hl ⊢
  have hl : lv_has ls 2 [(0, .ref t0), (1, .int x1)] := hl
  unfold fX5_makeOf at h
  refine lv_aload_n hx hb dX5_makeOf_0 rfl (lv_at hl 0 rfl) ?_
  refine va_get (D := (dC, dI)) (ci := 5) (v := .ref t3) (C := RX5) (T := TX5) (N := 9) hx hb hts (fun w h9 => gb_mem (lay_X5 w h9)) hown hK.1 hP 0 rfl rfl 6 (by decide) (hts _ (gb_mem fl_X5_36)) (fun _ h9 => h9) rfl dX5_makeOf_1 ?_
  refine lv_iload_n hx hb dX5_makeOf_4 rfl (lv_at hl 1 rfl) ?_
  refine fr_ir (M := (rowW cyI t3 t4 20 makes)) (va_runV (As := [.int x1]) (rest := []) ⟨hx, hb, hml, hown, hts⟩ (tX4_at l dC dI cyI cyO cyL t3 t4 20 makes x1 _ (rAt 20 makes x1) rfl (by decide)) (cwV 1 hts (gV ml_X5_56 im_X4_at se_X4_at in_X4 co_X4_at) rfl rfl rfl (by decide +kernel) ⟨Nat.le_of_ble_eq_true rfl, Nat.le_of_ble_eq_true rfl⟩) (cP_V hK hP hD [3, 4] rfl rfl 3 rfl rfl) rfl rfl hl.1 rfl (lv_room (Nat.le_of_ble_eq_true rfl)) dX5_makeOf_5 ⟨Nat.zero_le _, Nat.zero_le _⟩) hP hD hS hA [3, 4] rfl (fun H locs hP hS => ?_)
  obtain rfl := h
  exact e_i hx hb hr hlocks hP hS dX5_makeOf_8

noncomputable def fX5_wearOf (wears : Nat → Int32) (x1 : Int32) : Int32 :=
  ((rAt 20 wears x1))
set_option maxHeartbeats 1000000 in
set_option maxRecDepth 100000 in
theorem mX5_wearOf (l : Launch) (dC : Nat → ClassId) (dI : Nat → Nat → Nat) (cyI cyO cyL : ClassId) (t0 t1 t2 t3 t4 t5 t6 t7 t8 : Nat) (mostWear : Int32) (keys : Int32) (boxes : Int32) (liveKeys : Int32) (liveBoxes : Int32) (parents : Nat → Int32) (makes : Nat → Int32) (wears : Nat → Int32) (keysOfBoxes : Nat → Int32) (x1 : Int32) (sz : Nat) (res : Int32) (h : fX5_wearOf wears x1 = res) : Met l yX5_wearOf (wsG yX5_wearOf cX5_wearOf 2 (some .int)) ({ frames := 1, cells := 0, slots := 0, locals := 21 }) (cP dC dI cyI cyO cyL sz [.ref t0, .int x1] (treeW cyI t0 t1 t2 t3 t4 t5 t6 t7 t8 mostWear keys boxes liveKeys liveBoxes parents makes wears keysOfBoxes)) (cI dC dI res (treeW cyI t0 t1 t2 t3 t4 t5 t6 t7 t8 mostWear keys boxes liveKeys liveBoxes parents makes wears keysOfBoxes) (va_A (treeW cyI t0 t1 t2 t3 t4 t5 t6 t7 t8 mostWear keys boxes liveKeys liveBoxes parents makes wears keysOfBoxes) sz)) 0 0 (va_A (treeW cyI t0 t1 t2 t3 t4 t5 t6 t7 t8 mostWear keys boxes liveKeys liveBoxes parents makes wears keysOfBoxes) sz) := by
  refine Met.ofW (cc := cX5_wearOf) (maxL := 2) (ret := (some .int)) (by decide) rfl ?_
  intro p e s m args below meth c s₁ B hml hv
  obtain ⟨rfl, hsz, hP, hK, hD0⟩ := hv
  have hx := B.exec
  have hb := B.bytes
  have hr := B.returns
  have hts := atoms_spec (ws := wsG yX5_wearOf cX5_wearOf 2 (some .int)) B.pre
  have hown : s.vm.findClass RX5 = some m.cls := findClass_of_methodNamed B.named
  have hlocks := B.notSynchronized
  subst hsz
  have hD := hD0.self (sz := s.heap.size)
  generalize hAe : va_A (treeW cyI t0 t1 t2 t3 t4 t5 t6 t7 t8 mostWear keys boxes liveKeys liveBoxes parents makes wears keysOfBoxes) s.heap.size = A at hD ⊢
  have hA : ∀ q : Nat, s.heap.size ≤ q → A q := fun q h => by rw [← hAe]; exact Or.inr h
  have hS : va_S A s.heap s.heap [] := va_S.rf
  have hl := lv_entry ([.ref t0, .int x1]) (n := 2) (Nat.le_of_ble_eq_true rfl)
  rw [lg_entry_eq]
  generalize (lg_sl ([.ref t0, .int x1]) ++ List.replicate (2 - (lg_sl ([.ref t0, .int x1])).length) Slot.unset).toArray = ls at hl ⊢
  have hl : lv_has ls 2 [(0, .ref t0), (1, .int x1)] := hl
  unfold fX5_wearOf at h
  refine lv_aload_n hx hb dX5_wearOf_0 rfl (lv_at hl 0 rfl) ?_
  refine va_get (D := (dC, dI)) (ci := 5) (v := .ref t5) (C := RX5) (T := TX5) (N := 9) hx hb hts (fun w h9 => gb_mem (lay_X5 w h9)) hown hK.1 hP 0 rfl rfl 7 (by decide) (hts _ (gb_mem fl_X5_39)) (fun _ h9 => h9) rfl dX5_wearOf_1 ?_
  refine lv_iload_n hx hb dX5_wearOf_4 rfl (lv_at hl 1 rfl) ?_
  refine fr_ir (M := (rowW cyI t5 t6 20 wears)) (va_runV (As := [.int x1]) (rest := []) ⟨hx, hb, hml, hown, hts⟩ (tX4_at l dC dI cyI cyO cyL t5 t6 20 wears x1 _ (rAt 20 wears x1) rfl (by decide)) (cwV 1 hts (gV ml_X5_56 im_X4_at se_X4_at in_X4 co_X4_at) rfl rfl rfl (by decide +kernel) ⟨Nat.le_of_ble_eq_true rfl, Nat.le_of_ble_eq_true rfl⟩) (cP_V hK hP hD [5, 6] rfl rfl 5 rfl rfl) rfl rfl hl.1 rfl (lv_room (Nat.le_of_ble_eq_true rfl)) dX5_wearOf_5 ⟨Nat.zero_le _, Nat.zero_le _⟩) hP hD hS hA [5, 6] rfl (fun H locs hP hS => ?_)
  obtain rfl := h
  exact e_i hx hb hr hlocks hP hS dX5_wearOf_8

noncomputable def fX5_keyOfBox (keysOfBoxes : Nat → Int32) (x1 : Int32) : Int32 :=
  ((rAt 20 keysOfBoxes x1))
set_option maxHeartbeats 1000000 in
set_option maxRecDepth 100000 in
theorem mX5_keyOfBox (l : Launch) (dC : Nat → ClassId) (dI : Nat → Nat → Nat) (cyI cyO cyL : ClassId) (t0 t1 t2 t3 t4 t5 t6 t7 t8 : Nat) (mostWear : Int32) (keys : Int32) (boxes : Int32) (liveKeys : Int32) (liveBoxes : Int32) (parents : Nat → Int32) (makes : Nat → Int32) (wears : Nat → Int32) (keysOfBoxes : Nat → Int32) (x1 : Int32) (sz : Nat) (res : Int32) (h : fX5_keyOfBox keysOfBoxes x1 = res) : Met l yX5_keyOfBox (wsG yX5_keyOfBox cX5_keyOfBox 2 (some .int)) ({ frames := 1, cells := 0, slots := 0, locals := 21 }) (cP dC dI cyI cyO cyL sz [.ref t0, .int x1] (treeW cyI t0 t1 t2 t3 t4 t5 t6 t7 t8 mostWear keys boxes liveKeys liveBoxes parents makes wears keysOfBoxes)) (cI dC dI res (treeW cyI t0 t1 t2 t3 t4 t5 t6 t7 t8 mostWear keys boxes liveKeys liveBoxes parents makes wears keysOfBoxes) (va_A (treeW cyI t0 t1 t2 t3 t4 t5 t6 t7 t8 mostWear keys boxes liveKeys liveBoxes parents makes wears keysOfBoxes) sz)) 0 0 (va_A (treeW cyI t0 t1 t2 t3 t4 t5 t6 t7 t8 mostWear keys boxes liveKeys liveBoxes parents makes wears keysOfBoxes) sz) := by
  refine Met.ofW (cc := cX5_keyOfBox) (maxL := 2) (ret := (some .int)) (by decide) rfl ?_
  intro p e s m args below meth c s₁ B hml hv
  obtain ⟨rfl, hsz, hP, hK, hD0⟩ := hv
  have hx := B.exec
  have hb := B.bytes
  have hr := B.returns
  have hts := atoms_spec (ws := wsG yX5_keyOfBox cX5_keyOfBox 2 (some .int)) B.pre
  have hown : s.vm.findClass RX5 = some m.cls := findClass_of_methodNamed B.named
  have hlocks := B.notSynchronized
  subst hsz
  have hD := hD0.self (sz := s.heap.size)
  generalize hAe : va_A (treeW cyI t0 t1 t2 t3 t4 t5 t6 t7 t8 mostWear keys boxes liveKeys liveBoxes parents makes wears keysOfBoxes) s.heap.size = A at hD ⊢
  have hA : ∀ q : Nat, s.heap.size ≤ q → A q := fun q h => by rw [← hAe]; exact Or.inr h
  have hS : va_S A s.heap s.heap [] := va_S.rf
  have hl := lv_entry ([.ref t0, .int x1]) (n := 2) (Nat.le_of_ble_eq_true rfl)
  rw [lg_entry_eq]
  generalize (lg_sl ([.ref t0, .int x1]) ++ List.replicate (2 - (lg_sl ([.ref t0, .int x1])).length) Slot.unset).toArray = ls at hl ⊢
  have hl : lv_has ls 2 [(0, .ref t0), (1, .int x1)] := hl
  unfold fX5_keyOfBox at h
  refine lv_aload_n hx hb dX5_keyOfBox_0 rfl (lv_at hl 0 rfl) ?_
  refine va_get (D := (dC, dI)) (ci := 5) (v := .ref t7) (C := RX5) (T := TX5) (N := 9) hx hb hts (fun w h9 => gb_mem (lay_X5 w h9)) hown hK.1 hP 0 rfl rfl 8 (by decide) (hts _ (gb_mem fl_X5_42)) (fun _ h9 => h9) rfl dX5_keyOfBox_1 ?_
  refine lv_iload_n hx hb dX5_keyOfBox_4 rfl (lv_at hl 1 rfl) ?_
  refine fr_ir (M := (rowW cyI t7 t8 20 keysOfBoxes)) (va_runV (As := [.int x1]) (rest := []) ⟨hx, hb, hml, hown, hts⟩ (tX4_at l dC dI cyI cyO cyL t7 t8 20 keysOfBoxes x1 _ (rAt 20 keysOfBoxes x1) rfl (by decide)) (cwV 1 hts (gV ml_X5_56 im_X4_at se_X4_at in_X4 co_X4_at) rfl rfl rfl (by decide +kernel) ⟨Nat.le_of_ble_eq_true rfl, Nat.le_of_ble_eq_true rfl⟩) (cP_V hK hP hD [7, 8] rfl rfl 7 rfl rfl) rfl rfl hl.1 rfl (lv_room (Nat.le_of_ble_eq_true rfl)) dX5_keyOfBox_5 ⟨Nat.zero_le _, Nat.zero_le _⟩) hP hD hS hA [7, 8] rfl (fun H locs hP hS => ?_)
  obtain rfl := h
  exact e_i hx hb hr hlocks hP hS dX5_keyOfBox_8

noncomputable def fX5_leftToClose (mostWear : Int32) (wears : Nat → Int32) (x1 : Int32) : Int32 :=
  ((if (mostWear - (rAt 20 wears x1)) < 0 then 0 else (mostWear - (rAt 20 wears x1))))
set_option maxHeartbeats 1000000 in
set_option maxRecDepth 100000 in
theorem mX5_leftToClose (l : Launch) (dC : Nat → ClassId) (dI : Nat → Nat → Nat) (cyI cyO cyL : ClassId) (t0 t1 t2 t3 t4 t5 t6 t7 t8 : Nat) (mostWear : Int32) (keys : Int32) (boxes : Int32) (liveKeys : Int32) (liveBoxes : Int32) (parents : Nat → Int32) (makes : Nat → Int32) (wears : Nat → Int32) (keysOfBoxes : Nat → Int32) (x1 : Int32) (sz : Nat) (res : Int32) (h : fX5_leftToClose mostWear wears x1 = res) : Met l yX5_leftToClose (wsG yX5_leftToClose cX5_leftToClose 2 (some .int)) ({ frames := 1, cells := 0, slots := 0, locals := 21 }) (cP dC dI cyI cyO cyL sz [.ref t0, .int x1] (treeW cyI t0 t1 t2 t3 t4 t5 t6 t7 t8 mostWear keys boxes liveKeys liveBoxes parents makes wears keysOfBoxes)) (cI dC dI res (treeW cyI t0 t1 t2 t3 t4 t5 t6 t7 t8 mostWear keys boxes liveKeys liveBoxes parents makes wears keysOfBoxes) (va_A (treeW cyI t0 t1 t2 t3 t4 t5 t6 t7 t8 mostWear keys boxes liveKeys liveBoxes parents makes wears keysOfBoxes) sz)) 0 0 (va_A (treeW cyI t0 t1 t2 t3 t4 t5 t6 t7 t8 mostWear keys boxes liveKeys liveBoxes parents makes wears keysOfBoxes) sz) := by
  refine Met.ofW (cc := cX5_leftToClose) (maxL := 2) (ret := (some .int)) (by decide) rfl ?_
  intro p e s m args below meth c s₁ B hml hv
  obtain ⟨rfl, hsz, hP, hK, hD0⟩ := hv
  have hx := B.exec
  have hb := B.bytes
  have hr := B.returns
  have hts := atoms_spec (ws := wsG yX5_leftToClose cX5_leftToClose 2 (some .int)) B.pre
  have hown : s.vm.findClass RX5 = some m.cls := findClass_of_methodNamed B.named
  have hlocks := B.notSynchronized
  subst hsz
  have hD := hD0.self (sz := s.heap.size)
  generalize hAe : va_A (treeW cyI t0 t1 t2 t3 t4 t5 t6 t7 t8 mostWear keys boxes liveKeys liveBoxes parents makes wears keysOfBoxes) s.heap.size = A at hD ⊢
  have hA : ∀ q : Nat, s.heap.size ≤ q → A q := fun q h => by rw [← hAe]; exact Or.inr h
  have hS : va_S A s.heap s.heap [] := va_S.rf
  have hl := lv_entry ([.ref t0, .int x1]) (n := 2) (Nat.le_of_ble_eq_true rfl)
  rw [lg_entry_eq]
  generalize (lg_sl ([.ref t0, .int x1]) ++ List.replicate (2 - (lg_sl ([.ref t0, .int x1])).length) Slot.unset).toArray = ls at hl ⊢
  have hl : lv_has ls 2 [(0, .ref t0), (1, .int x1)] := hl
  unfold fX5_leftToClose at h
  refine lv_aload_n hx hb dX5_leftToClose_0 rfl (lv_at hl 0 rfl) ?_
  refine va_get (D := (dC, dI)) (ci := 5) (v := .int mostWear) (C := RX5) (T := TX5) (N := 9) hx hb hts (fun w h9 => gb_mem (lay_X5 w h9)) hown hK.1 hP 0 rfl rfl 0 (by decide) (hts _ (gb_mem fl_X5_9)) (fun _ h9 => h9) rfl dX5_leftToClose_1 ?_
  refine lv_aload_n hx hb dX5_leftToClose_4 rfl (lv_at hl 0 rfl) ?_
  refine va_get (D := (dC, dI)) (ci := 5) (v := .ref t5) (C := RX5) (T := TX5) (N := 9) hx hb hts (fun w h9 => gb_mem (lay_X5 w h9)) hown hK.1 hP 0 rfl rfl 7 (by decide) (hts _ (gb_mem fl_X5_39)) (fun _ h9 => h9) rfl dX5_leftToClose_5 ?_
  refine lv_iload_n hx hb dX5_leftToClose_8 rfl (lv_at hl 1 rfl) ?_
  refine fr_ir (M := (rowW cyI t5 t6 20 wears)) (va_runV (As := [.int x1]) (rest := [.int mostWear]) ⟨hx, hb, hml, hown, hts⟩ (tX4_at l dC dI cyI cyO cyL t5 t6 20 wears x1 _ (rAt 20 wears x1) rfl (by decide)) (cwV 1 hts (gV ml_X5_56 im_X4_at se_X4_at in_X4 co_X4_at) rfl rfl rfl (by decide +kernel) ⟨Nat.le_of_ble_eq_true rfl, Nat.le_of_ble_eq_true rfl⟩) (cP_V hK hP hD [5, 6] rfl rfl 5 rfl rfl) rfl rfl hl.1 rfl (lv_room (Nat.le_of_ble_eq_true rfl)) dX5_leftToClose_9 ⟨Nat.zero_le _, Nat.zero_le _⟩) hP hD hS hA [5, 6] rfl (fun H locs hP hS => ?_)
  refine lv_isub hx hb dX5_leftToClose_12 ?_
  refine lv_iconst (v := 0) hx hb dX5_leftToClose_13 (by decide) ?_
  refine va_mmax hx hb (by rw [hml]; exact hl.1.symm) hown (hts _ (gb_mem ml_X5_60)) (hts _ (gb_mem st_J9_max_7cf53)) (hts _ (gb_mem in_J9)) (hts _ (gb_mem co_J9_max_7cf53)) (Nat.le_of_ble_eq_true rfl) (Nat.le_of_ble_eq_true rfl) (Nat.zero_le _) (Nat.zero_le _) dX5_leftToClose_14 ?_
  obtain rfl := h
  exact e_i hx hb hr hlocks hP hS dX5_leftToClose_17
noncomputable def fX5_above_b14 : Nat → (Nat → Int32) → Int32 → Int32 → Int32 → Option (Int32)
  | 0, _, _, _, _ => none
  | fuel + 1, parents, y2, y3, y4 =>
  (if 20 ≤ y4 then (some y2) else (if y3 < 0 then (some y2) else fX5_above_b14 fuel parents (y2 ||| (fX7_setOf y3)) (rAt 20 parents y3) (y4 + 1)))

noncomputable def fX5_above (parents : Nat → Int32) (x1 : Int32) : Option (Int32) :=
  fX5_above_b14 6000 parents 0 (rAt 20 parents x1) 0
set_option maxHeartbeats 1000000 in
set_option maxRecDepth 100000 in
theorem mX5_above (l : Launch) (dC : Nat → ClassId) (dI : Nat → Nat → Nat) (cyI cyO cyL : ClassId) (t0 t1 t2 t3 t4 t5 t6 t7 t8 : Nat) (mostWear : Int32) (keys : Int32) (boxes : Int32) (liveKeys : Int32) (liveBoxes : Int32) (parents : Nat → Int32) (makes : Nat → Int32) (wears : Nat → Int32) (keysOfBoxes : Nat → Int32) (x1 : Int32) (sz : Nat) (res : Int32) (h : fX5_above parents x1 = some res) : Met l yX5_above (wsG yX5_above cX5_above 5 (some .int)) ({ frames := 1, cells := 0, slots := 0, locals := 21 }) (cP dC dI cyI cyO cyL sz [.ref t0, .int x1] (treeW cyI t0 t1 t2 t3 t4 t5 t6 t7 t8 mostWear keys boxes liveKeys liveBoxes parents makes wears keysOfBoxes)) (cI dC dI res (treeW cyI t0 t1 t2 t3 t4 t5 t6 t7 t8 mostWear keys boxes liveKeys liveBoxes parents makes wears keysOfBoxes) (va_A (treeW cyI t0 t1 t2 t3 t4 t5 t6 t7 t8 mostWear keys boxes liveKeys liveBoxes parents makes wears keysOfBoxes) sz)) 0 0 (va_A (treeW cyI t0 t1 t2 t3 t4 t5 t6 t7 t8 mostWear keys boxes liveKeys liveBoxes parents makes wears keysOfBoxes) sz) := by
  refine Met.ofW (cc := cX5_above) (maxL := 5) (ret := (some .int)) (by decide) rfl ?_
  intro p e s m args below meth c s₁ B hml hv
  obtain ⟨rfl, hsz, hP, hK, hD0⟩ := hv
  have hx := B.exec
  have hb := B.bytes
  have hr := B.returns
  have hts := atoms_spec (ws := wsG yX5_above cX5_above 5 (some .int)) B.pre
  have hown : s.vm.findClass RX5 = some m.cls := findClass_of_methodNamed B.named
  have hlocks := B.notSynchronized
  subst hsz
  have hD := hD0.self (sz := s.heap.size)
  generalize hAe : va_A (treeW cyI t0 t1 t2 t3 t4 t5 t6 t7 t8 mostWear keys boxes liveKeys liveBoxes parents makes wears keysOfBoxes) s.heap.size = A at hD ⊢
  have hA : ∀ q : Nat, s.heap.size ≤ q → A q := fun q h => by rw [← hAe]; exact Or.inr h
  have hS : va_S A s.heap s.heap [] := va_S.rf
  have kB14 : ∀ (fuel : Nat) (parents : Nat → Int32) (y2 : Int32) (y3 : Int32) (y4 : Int32), fX5_above_b14 fuel parents y2 y3 y4 = some res → ∀ (H : Heap) (locs : List Loc), va_P (dC, dI) vwCl (treeW cyI t0 t1 t2 t3 t4 t5 t6 t7 t8 mostWear keys boxes liveKeys liveBoxes parents makes wears keysOfBoxes) H → va_D A (treeW cyI t0 t1 t2 t3 t4 t5 t6 t7 t8 mostWear keys boxes liveKeys liveBoxes parents makes wears keysOfBoxes) → va_S A s.heap H locs → ∀ ls : Array Slot, lv_has ls 5 [(0, .ref t0), (2, .int y2), (3, .int y3), (4, .int y4)] → W p l e (headSpec (wsG yX5_above cX5_above 5 (some .int)) ({ frames := 1, cells := 0, slots := 0, locals := 21 })).room s m (([.ref t0, .int x1] : List Value).toArray) below meth c H locs 0 0 (MQ below (cI dC dI res (treeW cyI t0 t1 t2 t3 t4 t5 t6 t7 t8 mostWear keys boxes liveKeys liveBoxes parents makes wears keysOfBoxes) A) ([.ref t0, .int x1] : List Value).toArray s 0 0 A) (F0 m 14 ls []) := by
    intro fuel
    induction fuel with
    | zero => intro parents y2 y3 y4 h; rw [fX5_above_b14] at h; cases h
    | succ fuel ih =>
      intro parents y2 y3 y4 h H locs hP hD hS ls hl
      rw [fX5_above_b14] at h
      refine lv_iload hx hb dX5_above_14 (lv_at hl 3 rfl) ?_
      refine lv_bipush (v := 20) hx hb dX5_above_16 (by decide) ?_
      refine lv_icmp_ge (tgt := 47) hx hb dX5_above_18 (by decide) (fun c1 => ?_) (fun c1 => ?_)
      · have h := (if_pos c1).symm.trans h
        refine lv_iload_n hx hb dX5_above_47 rfl (lv_at hl 1 rfl) ?_
        obtain rfl := Option.some.inj h
        exact e_i hx hb hr hlocks hP hS dX5_above_48
      · have h := (if_neg c1).symm.trans h
        refine lv_iload_n hx hb dX5_above_21 rfl (lv_at hl 2 rfl) ?_
        refine lv_if_lt (tgt := 47) hx hb dX5_above_22 (by decide) (fun c2 => ?_) (fun c2 => ?_)
        · have h := (if_pos c2).symm.trans h
          refine lv_iload_n hx hb dX5_above_47 rfl (lv_at hl 1 rfl) ?_
          obtain rfl := Option.some.inj h
          exact e_i hx hb hr hlocks hP hS dX5_above_48
        · have h := (if_neg c2).symm.trans h
          refine lv_iload_n hx hb dX5_above_25 rfl (lv_at hl 1 rfl) ?_
          refine lv_iload_n hx hb dX5_above_26 rfl (lv_at hl 2 rfl) ?_
          refine fr_ir (M := ([] : va_W)) (va_runSN (host := "HangingKeys") (As := [.int y3]) (rest := [.int y2]) ⟨hx, hb, hml, hown, hts⟩ (mX7_setOf l dC dI cyI cyO cyL y3 _ (fX7_setOf y3) rfl) ⟨va_cnB 1 hts (gW co_X7_setOf) rfl rfl rfl (hK.2 _ nl_X5_66) (hts _ (gb_mem in_X7)) (by decide +kernel) ⟨Nat.le_of_ble_eq_true rfl, Nat.le_of_ble_eq_true rfl⟩, hts _ (gb_mem st_X7_setOf), trivial⟩ (cP_S hK hP hD [] rfl rfl) rfl rfl hl.1 rfl (lv_room (Nat.le_of_ble_eq_true rfl)) dX5_above_27 ⟨Nat.zero_le _, Nat.zero_le _⟩) hP hD hS hA [] rfl (fun H locs hP hS => ?_)
          refine lv_ior hx hb dX5_above_30 ?_
          refine lv_istore_n (lv' := [(2, .int (y2 ||| (fX7_setOf y3))), (0, .ref t0), (3, .int y3), (4, .int y4)]) hx hb dX5_above_31 rfl hl (by decide) rfl (fun ls hl => ?_)
          refine lv_aload_n hx hb dX5_above_32 rfl (lv_at hl 1 rfl) ?_
          refine va_get (D := (dC, dI)) (ci := 5) (v := .ref t1) (C := RX5) (T := TX5) (N := 9) hx hb hts (fun w h9 => gb_mem (lay_X5 w h9)) hown hK.1 hP 0 rfl rfl 5 (by decide) (hts _ (gb_mem fl_X5_32)) (fun _ h9 => h9) rfl dX5_above_33 ?_
          refine lv_iload_n hx hb dX5_above_36 rfl (lv_at hl 2 rfl) ?_
          refine fr_ir (M := (rowW cyI t1 t2 20 parents)) (va_runV (As := [.int y3]) (rest := []) ⟨hx, hb, hml, hown, hts⟩ (tX4_at l dC dI cyI cyO cyL t1 t2 20 parents y3 _ (rAt 20 parents y3) rfl (by decide)) (cwV 1 hts (gV ml_X5_56 im_X4_at se_X4_at in_X4 co_X4_at) rfl rfl rfl (by decide +kernel) ⟨Nat.le_of_ble_eq_true rfl, Nat.le_of_ble_eq_true rfl⟩) (cP_V hK hP hD [1, 2] rfl rfl 1 rfl rfl) rfl rfl hl.1 rfl (lv_room (Nat.le_of_ble_eq_true rfl)) dX5_above_37 ⟨Nat.zero_le _, Nat.zero_le _⟩) hP hD hS hA [1, 2] rfl (fun H locs hP hS => ?_)
          refine lv_istore_n (lv' := [(3, .int (rAt 20 parents y3)), (2, .int (y2 ||| (fX7_setOf y3))), (0, .ref t0), (4, .int y4)]) hx hb dX5_above_40 rfl hl (by decide) rfl (fun ls hl => ?_)
          refine lv_iinc (v := (y4 + 1)) (lv' := [(4, .int (y4 + 1)), (3, .int (rAt 20 parents y3)), (2, .int (y2 ||| (fX7_setOf y3))), (0, .ref t0)]) hx hb dX5_above_41 hl (k := 3) rfl rfl (by decide) rfl (fun ls hl => ?_)
          refine lv_goto (tgt := 14) hx hb dX5_above_44 (by decide) ?_
          exact ih parents (y2 ||| (fX7_setOf y3)) (rAt 20 parents y3) (y4 + 1) h _ _ hP hD hS ls (lv_sub hl [3, 2, 1, 0] rfl)
  have hl := lv_entry ([.ref t0, .int x1]) (n := 5) (Nat.le_of_ble_eq_true rfl)
  rw [lg_entry_eq]
  generalize (lg_sl ([.ref t0, .int x1]) ++ List.replicate (5 - (lg_sl ([.ref t0, .int x1])).length) Slot.unset).toArray = ls at hl ⊢
  have hl : lv_has ls 5 [(0, .ref t0), (1, .int x1)] := hl
  unfold fX5_above at h
  refine lv_iconst (v := 0) hx hb dX5_above_0 (by decide) ?_
  refine lv_istore_n (lv' := [(2, .int 0), (0, .ref t0), (1, .int x1)]) hx hb dX5_above_1 rfl hl (by decide) rfl (fun ls hl => ?_)
  refine lv_aload_n hx hb dX5_above_2 rfl (lv_at hl 1 rfl) ?_
  refine va_get (D := (dC, dI)) (ci := 5) (v := .ref t1) (C := RX5) (T := TX5) (N := 9) hx hb hts (fun w h9 => gb_mem (lay_X5 w h9)) hown hK.1 hP 0 rfl rfl 5 (by decide) (hts _ (gb_mem fl_X5_32)) (fun _ h9 => h9) rfl dX5_above_3 ?_
  refine lv_iload_n hx hb dX5_above_6 rfl (lv_at hl 2 rfl) ?_
  refine fr_ir (M := (rowW cyI t1 t2 20 parents)) (va_runV (As := [.int x1]) (rest := []) ⟨hx, hb, hml, hown, hts⟩ (tX4_at l dC dI cyI cyO cyL t1 t2 20 parents x1 _ (rAt 20 parents x1) rfl (by decide)) (cwV 1 hts (gV ml_X5_56 im_X4_at se_X4_at in_X4 co_X4_at) rfl rfl rfl (by decide +kernel) ⟨Nat.le_of_ble_eq_true rfl, Nat.le_of_ble_eq_true rfl⟩) (cP_V hK hP hD [1, 2] rfl rfl 1 rfl rfl) rfl rfl hl.1 rfl (lv_room (Nat.le_of_ble_eq_true rfl)) dX5_above_7 ⟨Nat.zero_le _, Nat.zero_le _⟩) hP hD hS hA [1, 2] rfl (fun H locs hP hS => ?_)
  refine lv_istore_n (lv' := [(3, .int (rAt 20 parents x1)), (2, .int 0), (0, .ref t0), (1, .int x1)]) hx hb dX5_above_10 rfl hl (by decide) rfl (fun ls hl => ?_)
  refine lv_iconst (v := 0) hx hb dX5_above_11 (by decide) ?_
  refine lv_istore (lv' := [(4, .int 0), (3, .int (rAt 20 parents x1)), (2, .int 0), (0, .ref t0), (1, .int x1)]) hx hb dX5_above_12 hl (by decide) rfl (fun ls hl => ?_)
  exact kB14 6000 parents 0 (rAt 20 parents x1) 0 h _ _ hP hD hS ls (lv_sub hl [3, 2, 1, 0] rfl)

noncomputable def fX5_aboveBox (parents : Nat → Int32) (keysOfBoxes : Nat → Int32) (x1 : Int32) : Option (Int32) :=
  ((fX5_above parents (rAt 20 keysOfBoxes x1)).bind fun q1 => (some (q1 ||| (fX7_setOf (rAt 20 keysOfBoxes x1)))))
set_option maxHeartbeats 1000000 in
set_option maxRecDepth 100000 in
theorem mX5_aboveBox (l : Launch) (dC : Nat → ClassId) (dI : Nat → Nat → Nat) (cyI cyO cyL : ClassId) (t0 t1 t2 t3 t4 t5 t6 t7 t8 : Nat) (mostWear : Int32) (keys : Int32) (boxes : Int32) (liveKeys : Int32) (liveBoxes : Int32) (parents : Nat → Int32) (makes : Nat → Int32) (wears : Nat → Int32) (keysOfBoxes : Nat → Int32) (x1 : Int32) (sz : Nat) (res : Int32) (h : fX5_aboveBox parents keysOfBoxes x1 = some res) : Met l yX5_aboveBox (wsG yX5_aboveBox cX5_aboveBox 3 (some .int)) ({ frames := 2, cells := 0, slots := 0, locals := 45 }) (cP dC dI cyI cyO cyL sz [.ref t0, .int x1] (treeW cyI t0 t1 t2 t3 t4 t5 t6 t7 t8 mostWear keys boxes liveKeys liveBoxes parents makes wears keysOfBoxes)) (cI dC dI res (treeW cyI t0 t1 t2 t3 t4 t5 t6 t7 t8 mostWear keys boxes liveKeys liveBoxes parents makes wears keysOfBoxes) (va_A (treeW cyI t0 t1 t2 t3 t4 t5 t6 t7 t8 mostWear keys boxes liveKeys liveBoxes parents makes wears keysOfBoxes) sz)) 0 0 (va_A (treeW cyI t0 t1 t2 t3 t4 t5 t6 t7 t8 mostWear keys boxes liveKeys liveBoxes parents makes wears keysOfBoxes) sz) := by
  refine Met.ofW (cc := cX5_aboveBox) (maxL := 3) (ret := (some .int)) (by decide) rfl ?_
  intro p e s m args below meth c s₁ B hml hv
  obtain ⟨rfl, hsz, hP, hK, hD0⟩ := hv
  have hx := B.exec
  have hb := B.bytes
  have hr := B.returns
  have hts := atoms_spec (ws := wsG yX5_aboveBox cX5_aboveBox 3 (some .int)) B.pre
  have hown : s.vm.findClass RX5 = some m.cls := findClass_of_methodNamed B.named
  have hlocks := B.notSynchronized
  subst hsz
  have hD := hD0.self (sz := s.heap.size)
  generalize hAe : va_A (treeW cyI t0 t1 t2 t3 t4 t5 t6 t7 t8 mostWear keys boxes liveKeys liveBoxes parents makes wears keysOfBoxes) s.heap.size = A at hD ⊢
  have hA : ∀ q : Nat, s.heap.size ≤ q → A q := fun q h => by rw [← hAe]; exact Or.inr h
  have hS : va_S A s.heap s.heap [] := va_S.rf
  have hl := lv_entry ([.ref t0, .int x1]) (n := 3) (Nat.le_of_ble_eq_true rfl)
  rw [lg_entry_eq]
  generalize (lg_sl ([.ref t0, .int x1]) ++ List.replicate (3 - (lg_sl ([.ref t0, .int x1])).length) Slot.unset).toArray = ls at hl ⊢
  have hl : lv_has ls 3 [(0, .ref t0), (1, .int x1)] := hl
  unfold fX5_aboveBox at h
  refine lv_aload_n hx hb dX5_aboveBox_0 rfl (lv_at hl 0 rfl) ?_
  refine va_get (D := (dC, dI)) (ci := 5) (v := .ref t7) (C := RX5) (T := TX5) (N := 9) hx hb hts (fun w h9 => gb_mem (lay_X5 w h9)) hown hK.1 hP 0 rfl rfl 8 (by decide) (hts _ (gb_mem fl_X5_42)) (fun _ h9 => h9) rfl dX5_aboveBox_1 ?_
  refine lv_iload_n hx hb dX5_aboveBox_4 rfl (lv_at hl 1 rfl) ?_
  refine fr_ir (M := (rowW cyI t7 t8 20 keysOfBoxes)) (va_runV (As := [.int x1]) (rest := []) ⟨hx, hb, hml, hown, hts⟩ (tX4_at l dC dI cyI cyO cyL t7 t8 20 keysOfBoxes x1 _ (rAt 20 keysOfBoxes x1) rfl (by decide)) (cwV 1 hts (gV ml_X5_56 im_X4_at se_X4_at in_X4 co_X4_at) rfl rfl rfl (by decide +kernel) ⟨Nat.le_of_ble_eq_true rfl, Nat.le_of_ble_eq_true rfl⟩) (cP_V hK hP hD [7, 8] rfl rfl 7 rfl rfl) rfl rfl hl.1 rfl (lv_room (Nat.le_of_ble_eq_true rfl)) dX5_aboveBox_5 ⟨Nat.zero_le _, Nat.zero_le _⟩) hP hD hS hA [7, 8] rfl (fun H locs hP hS => ?_)
  refine lv_istore_n (lv' := [(2, .int (rAt 20 keysOfBoxes x1)), (0, .ref t0), (1, .int x1)]) hx hb dX5_aboveBox_8 rfl hl (by decide) rfl (fun ls hl => ?_)
  refine lv_aload_n hx hb dX5_aboveBox_9 rfl (lv_at hl 1 rfl) ?_
  refine lv_iload_n hx hb dX5_aboveBox_10 rfl (lv_at hl 0 rfl) ?_
  obtain ⟨q1, e2, h⟩ := ob h
  refine fr_ir (M := (treeW cyI t0 t1 t2 t3 t4 t5 t6 t7 t8 mostWear keys boxes liveKeys liveBoxes parents makes wears keysOfBoxes)) (va_runV (As := [.int (rAt 20 keysOfBoxes x1)]) (rest := []) ⟨hx, hb, hml, hown, hts⟩ (mX5_above l dC dI cyI cyO cyL t0 t1 t2 t3 t4 t5 t6 t7 t8 mostWear keys boxes liveKeys liveBoxes parents makes wears keysOfBoxes (rAt 20 keysOfBoxes x1) _ q1 e2) (cwV 1 hts (gV ml_X5_69 im_X5_above se_X5_above in_X5 co_X5_above) rfl rfl rfl (by decide +kernel) ⟨Nat.le_of_ble_eq_true rfl, Nat.le_of_ble_eq_true rfl⟩) (cP_V hK hP hD [0, 1, 2, 3, 4, 5, 6, 7, 8] rfl rfl 0 rfl rfl) rfl rfl hl.1 rfl (lv_room (Nat.le_of_ble_eq_true rfl)) dX5_aboveBox_11 ⟨Nat.zero_le _, Nat.zero_le _⟩) hP hD hS hA [0, 1, 2, 3, 4, 5, 6, 7, 8] rfl (fun H locs hP hS => ?_)
  refine lv_iload_n hx hb dX5_aboveBox_14 rfl (lv_at hl 0 rfl) ?_
  refine fr_ir (M := ([] : va_W)) (va_runSN (host := "HangingKeys") (As := [.int (rAt 20 keysOfBoxes x1)]) (rest := [.int q1]) ⟨hx, hb, hml, hown, hts⟩ (mX7_setOf l dC dI cyI cyO cyL (rAt 20 keysOfBoxes x1) _ (fX7_setOf (rAt 20 keysOfBoxes x1)) rfl) ⟨va_cnB 1 hts (gW co_X7_setOf) rfl rfl rfl (hK.2 _ nl_X5_66) (hts _ (gb_mem in_X7)) (by decide +kernel) ⟨Nat.le_of_ble_eq_true rfl, Nat.le_of_ble_eq_true rfl⟩, hts _ (gb_mem st_X7_setOf), trivial⟩ (cP_S hK hP hD [] rfl rfl) rfl rfl hl.1 rfl (lv_room (Nat.le_of_ble_eq_true rfl)) dX5_aboveBox_15 ⟨Nat.zero_le _, Nat.zero_le _⟩) hP hD hS hA [] rfl (fun H locs hP hS => ?_)
  refine lv_ior hx hb dX5_aboveBox_18 ?_
  obtain rfl := Option.some.inj h
  exact e_i hx hb hr hlocks hP hS dX5_aboveBox_19

noncomputable def fX5_aboveThat (parents : Nat → Int32) (keysOfBoxes : Nat → Int32) (x1 : Int32) (x2 : Int32) : Option (Int32) :=
  (if x1 = 0 then ((fX5_above parents x2).bind fun q4 => (some q4)) else ((fX5_aboveBox parents keysOfBoxes x2).bind fun q2 => (some q2)))
set_option maxHeartbeats 1000000 in
set_option maxRecDepth 100000 in
theorem mX5_aboveThat (l : Launch) (dC : Nat → ClassId) (dI : Nat → Nat → Nat) (cyI cyO cyL : ClassId) (t0 t1 t2 t3 t4 t5 t6 t7 t8 : Nat) (mostWear : Int32) (keys : Int32) (boxes : Int32) (liveKeys : Int32) (liveBoxes : Int32) (parents : Nat → Int32) (makes : Nat → Int32) (wears : Nat → Int32) (keysOfBoxes : Nat → Int32) (x1 : Int32) (x2 : Int32) (sz : Nat) (res : Int32) (h : fX5_aboveThat parents keysOfBoxes x1 x2 = some res) : Met l yX5_aboveThat (wsG yX5_aboveThat cX5_aboveThat 3 (some .int)) ({ frames := 3, cells := 0, slots := 0, locals := 67 }) (cP dC dI cyI cyO cyL sz [.ref t0, .int x1, .int x2] (treeW cyI t0 t1 t2 t3 t4 t5 t6 t7 t8 mostWear keys boxes liveKeys liveBoxes parents makes wears keysOfBoxes)) (cI dC dI res (treeW cyI t0 t1 t2 t3 t4 t5 t6 t7 t8 mostWear keys boxes liveKeys liveBoxes parents makes wears keysOfBoxes) (va_A (treeW cyI t0 t1 t2 t3 t4 t5 t6 t7 t8 mostWear keys boxes liveKeys liveBoxes parents makes wears keysOfBoxes) sz)) 0 0 (va_A (treeW cyI t0 t1 t2 t3 t4 t5 t6 t7 t8 mostWear keys boxes liveKeys liveBoxes parents makes wears keysOfBoxes) sz) := by
  refine Met.ofW (cc := cX5_aboveThat) (maxL := 3) (ret := (some .int)) (by decide) rfl ?_
  intro p e s m args below meth c s₁ B hml hv
  obtain ⟨rfl, hsz, hP, hK, hD0⟩ := hv
  have hx := B.exec
  have hb := B.bytes
  have hr := B.returns
  have hts := atoms_spec (ws := wsG yX5_aboveThat cX5_aboveThat 3 (some .int)) B.pre
  have hown : s.vm.findClass RX5 = some m.cls := findClass_of_methodNamed B.named
  have hlocks := B.notSynchronized
  subst hsz
  have hD := hD0.self (sz := s.heap.size)
  generalize hAe : va_A (treeW cyI t0 t1 t2 t3 t4 t5 t6 t7 t8 mostWear keys boxes liveKeys liveBoxes parents makes wears keysOfBoxes) s.heap.size = A at hD ⊢
  have hA : ∀ q : Nat, s.heap.size ≤ q → A q := fun q h => by rw [← hAe]; exact Or.inr h
  have hS : va_S A s.heap s.heap [] := va_S.rf
  have hl := lv_entry ([.ref t0, .int x1, .int x2]) (n := 3) (Nat.le_of_ble_eq_true rfl)
  rw [lg_entry_eq]
  generalize (lg_sl ([.ref t0, .int x1, .int x2]) ++ List.replicate (3 - (lg_sl ([.ref t0, .int x1, .int x2])).length) Slot.unset).toArray = ls at hl ⊢
  have hl : lv_has ls 3 [(0, .ref t0), (1, .int x1), (2, .int x2)] := hl
  unfold fX5_aboveThat at h
  refine lv_iload_n hx hb dX5_aboveThat_0 rfl (lv_at hl 1 rfl) ?_
  refine lv_if_ne (tgt := 12) hx hb dX5_aboveThat_1 (by decide) (fun c1 => ?_) (fun c1 => ?_)
  · have h := (if_neg c1).symm.trans h
    refine lv_aload_n hx hb dX5_aboveThat_12 rfl (lv_at hl 0 rfl) ?_
    refine lv_iload_n hx hb dX5_aboveThat_13 rfl (lv_at hl 2 rfl) ?_
    obtain ⟨q2, e3, h⟩ := ob h
    refine fr_ir (M := (treeW cyI t0 t1 t2 t3 t4 t5 t6 t7 t8 mostWear keys boxes liveKeys liveBoxes parents makes wears keysOfBoxes)) (va_runV (As := [.int x2]) (rest := []) ⟨hx, hb, hml, hown, hts⟩ (mX5_aboveBox l dC dI cyI cyO cyL t0 t1 t2 t3 t4 t5 t6 t7 t8 mostWear keys boxes liveKeys liveBoxes parents makes wears keysOfBoxes x2 _ q2 e3) (cwV 1 hts (gV ml_X5_72 im_X5_aboveBox se_X5_aboveBox in_X5 co_X5_aboveBox) rfl rfl rfl (by decide +kernel) ⟨Nat.le_of_ble_eq_true rfl, Nat.le_of_ble_eq_true rfl⟩) (cP_V hK hP hD [0, 1, 2, 3, 4, 5, 6, 7, 8] rfl rfl 0 rfl rfl) rfl rfl hl.1 rfl (lv_room (Nat.le_of_ble_eq_true rfl)) dX5_aboveThat_14 ⟨Nat.zero_le _, Nat.zero_le _⟩) hP hD hS hA [0, 1, 2, 3, 4, 5, 6, 7, 8] rfl (fun H locs hP hS => ?_)
    obtain rfl := Option.some.inj h
    exact e_i hx hb hr hlocks hP hS dX5_aboveThat_17
  · have h := (if_pos c1).symm.trans h
    refine lv_aload_n hx hb dX5_aboveThat_4 rfl (lv_at hl 0 rfl) ?_
    refine lv_iload_n hx hb dX5_aboveThat_5 rfl (lv_at hl 2 rfl) ?_
    obtain ⟨q4, e5, h⟩ := ob h
    refine fr_ir (M := (treeW cyI t0 t1 t2 t3 t4 t5 t6 t7 t8 mostWear keys boxes liveKeys liveBoxes parents makes wears keysOfBoxes)) (va_runV (As := [.int x2]) (rest := []) ⟨hx, hb, hml, hown, hts⟩ (mX5_above l dC dI cyI cyO cyL t0 t1 t2 t3 t4 t5 t6 t7 t8 mostWear keys boxes liveKeys liveBoxes parents makes wears keysOfBoxes x2 _ q4 e5) (cwV 1 hts (gV ml_X5_69 im_X5_above se_X5_above in_X5 co_X5_above) rfl rfl rfl (by decide +kernel) ⟨Nat.le_of_ble_eq_true rfl, Nat.le_of_ble_eq_true rfl⟩) (cP_V hK hP hD [0, 1, 2, 3, 4, 5, 6, 7, 8] rfl rfl 0 rfl rfl) rfl rfl hl.1 rfl (lv_room (Nat.le_of_ble_eq_true rfl)) dX5_aboveThat_6 ⟨Nat.zero_le _, Nat.zero_le _⟩) hP hD hS hA [0, 1, 2, 3, 4, 5, 6, 7, 8] rfl (fun H locs hP hS => ?_)
    refine lv_goto (tgt := 17) hx hb dX5_aboveThat_9 (by decide) ?_
    obtain rfl := Option.some.inj h
    exact e_i hx hb hr hlocks hP hS dX5_aboveThat_17
noncomputable def fX5_withAllBelow_b7 : Nat → Int32 → (Nat → Int32) → Int32 → Int32 → Option (Int32)
  | 0, _, _, _, _ => none
  | fuel + 1, keys, parents, y2, y3 =>
  (if keys ≤ y3 then (some y2) else (if (fX7_has y2 (rAt 20 parents y3)) = 0 then fX5_withAllBelow_b7 fuel keys parents y2 (y3 + 1) else fX5_withAllBelow_b7 fuel keys parents (y2 ||| (fX7_setOf y3)) (y3 + 1)))

noncomputable def fX5_withAllBelow (keys : Int32) (parents : Nat → Int32) (x1 : Int32) : Option (Int32) :=
  fX5_withAllBelow_b7 6000 keys parents (fX7_setOf x1) 0
set_option maxHeartbeats 1000000 in
set_option maxRecDepth 100000 in
theorem mX5_withAllBelow (l : Launch) (dC : Nat → ClassId) (dI : Nat → Nat → Nat) (cyI cyO cyL : ClassId) (t0 t1 t2 t3 t4 t5 t6 t7 t8 : Nat) (mostWear : Int32) (keys : Int32) (boxes : Int32) (liveKeys : Int32) (liveBoxes : Int32) (parents : Nat → Int32) (makes : Nat → Int32) (wears : Nat → Int32) (keysOfBoxes : Nat → Int32) (x1 : Int32) (sz : Nat) (res : Int32) (h : fX5_withAllBelow keys parents x1 = some res) : Met l yX5_withAllBelow (wsG yX5_withAllBelow cX5_withAllBelow 4 (some .int)) ({ frames := 1, cells := 0, slots := 0, locals := 21 }) (cP dC dI cyI cyO cyL sz [.ref t0, .int x1] (treeW cyI t0 t1 t2 t3 t4 t5 t6 t7 t8 mostWear keys boxes liveKeys liveBoxes parents makes wears keysOfBoxes)) (cI dC dI res (treeW cyI t0 t1 t2 t3 t4 t5 t6 t7 t8 mostWear keys boxes liveKeys liveBoxes parents makes wears keysOfBoxes) (va_A (treeW cyI t0 t1 t2 t3 t4 t5 t6 t7 t8 mostWear keys boxes liveKeys liveBoxes parents makes wears keysOfBoxes) sz)) 0 0 (va_A (treeW cyI t0 t1 t2 t3 t4 t5 t6 t7 t8 mostWear keys boxes liveKeys liveBoxes parents makes wears keysOfBoxes) sz) := by
  refine Met.ofW (cc := cX5_withAllBelow) (maxL := 4) (ret := (some .int)) (by decide) rfl ?_
  intro p e s m args below meth c s₁ B hml hv
  obtain ⟨rfl, hsz, hP, hK, hD0⟩ := hv
  have hx := B.exec
  have hb := B.bytes
  have hr := B.returns
  have hts := atoms_spec (ws := wsG yX5_withAllBelow cX5_withAllBelow 4 (some .int)) B.pre
  have hown : s.vm.findClass RX5 = some m.cls := findClass_of_methodNamed B.named
  have hlocks := B.notSynchronized
  subst hsz
  have hD := hD0.self (sz := s.heap.size)
  generalize hAe : va_A (treeW cyI t0 t1 t2 t3 t4 t5 t6 t7 t8 mostWear keys boxes liveKeys liveBoxes parents makes wears keysOfBoxes) s.heap.size = A at hD ⊢
  have hA : ∀ q : Nat, s.heap.size ≤ q → A q := fun q h => by rw [← hAe]; exact Or.inr h
  have hS : va_S A s.heap s.heap [] := va_S.rf
  have kB7 : ∀ (fuel : Nat) (keys : Int32) (parents : Nat → Int32) (y2 : Int32) (y3 : Int32), fX5_withAllBelow_b7 fuel keys parents y2 y3 = some res → ∀ (H : Heap) (locs : List Loc), va_P (dC, dI) vwCl (treeW cyI t0 t1 t2 t3 t4 t5 t6 t7 t8 mostWear keys boxes liveKeys liveBoxes parents makes wears keysOfBoxes) H → va_D A (treeW cyI t0 t1 t2 t3 t4 t5 t6 t7 t8 mostWear keys boxes liveKeys liveBoxes parents makes wears keysOfBoxes) → va_S A s.heap H locs → ∀ ls : Array Slot, lv_has ls 4 [(0, .ref t0), (2, .int y2), (3, .int y3)] → W p l e (headSpec (wsG yX5_withAllBelow cX5_withAllBelow 4 (some .int)) ({ frames := 1, cells := 0, slots := 0, locals := 21 })).room s m (([.ref t0, .int x1] : List Value).toArray) below meth c H locs 0 0 (MQ below (cI dC dI res (treeW cyI t0 t1 t2 t3 t4 t5 t6 t7 t8 mostWear keys boxes liveKeys liveBoxes parents makes wears keysOfBoxes) A) ([.ref t0, .int x1] : List Value).toArray s 0 0 A) (F0 m 7 ls []) := by
    intro fuel
    induction fuel with
    | zero => intro keys parents y2 y3 h; rw [fX5_withAllBelow_b7] at h; cases h
    | succ fuel ih =>
      intro keys parents y2 y3 h H locs hP hD hS ls hl
      rw [fX5_withAllBelow_b7] at h
      refine lv_iload_n hx hb dX5_withAllBelow_7 rfl (lv_at hl 2 rfl) ?_
      refine lv_aload_n hx hb dX5_withAllBelow_8 rfl (lv_at hl 0 rfl) ?_
      refine va_get (D := (dC, dI)) (ci := 5) (v := .int keys) (C := RX5) (T := TX5) (N := 9) hx hb hts (fun w h9 => gb_mem (lay_X5 w h9)) hown hK.1 hP 0 rfl rfl 1 (by decide) (hts _ (gb_mem fl_X5_15)) (fun _ h9 => h9) rfl dX5_withAllBelow_9 ?_
      refine lv_icmp_ge (tgt := 43) hx hb dX5_withAllBelow_12 (by decide) (fun c1 => ?_) (fun c1 => ?_)
      · have h := (if_pos c1).symm.trans h
        refine lv_iload_n hx hb dX5_withAllBelow_43 rfl (lv_at hl 1 rfl) ?_
        obtain rfl := Option.some.inj h
        exact e_i hx hb hr hlocks hP hS dX5_withAllBelow_44
      · have h := (if_neg c1).symm.trans h
        refine lv_iload_n hx hb dX5_withAllBelow_15 rfl (lv_at hl 1 rfl) ?_
        refine lv_aload_n hx hb dX5_withAllBelow_16 rfl (lv_at hl 0 rfl) ?_
        refine va_get (D := (dC, dI)) (ci := 5) (v := .ref t1) (C := RX5) (T := TX5) (N := 9) hx hb hts (fun w h9 => gb_mem (lay_X5 w h9)) hown hK.1 hP 0 rfl rfl 5 (by decide) (hts _ (gb_mem fl_X5_32)) (fun _ h9 => h9) rfl dX5_withAllBelow_17 ?_
        refine lv_iload_n hx hb dX5_withAllBelow_20 rfl (lv_at hl 2 rfl) ?_
        refine fr_ir (M := (rowW cyI t1 t2 20 parents)) (va_runV (As := [.int y3]) (rest := [.int y2]) ⟨hx, hb, hml, hown, hts⟩ (tX4_at l dC dI cyI cyO cyL t1 t2 20 parents y3 _ (rAt 20 parents y3) rfl (by decide)) (cwV 1 hts (gV ml_X5_56 im_X4_at se_X4_at in_X4 co_X4_at) rfl rfl rfl (by decide +kernel) ⟨Nat.le_of_ble_eq_true rfl, Nat.le_of_ble_eq_true rfl⟩) (cP_V hK hP hD [1, 2] rfl rfl 1 rfl rfl) rfl rfl hl.1 rfl (lv_room (Nat.le_of_ble_eq_true rfl)) dX5_withAllBelow_21 ⟨Nat.zero_le _, Nat.zero_le _⟩) hP hD hS hA [1, 2] rfl (fun H locs hP hS => ?_)
        refine fr_ir (M := ([] : va_W)) (va_runSN (host := "HangingKeys") (As := [.int y2, .int (rAt 20 parents y3)]) (rest := []) ⟨hx, hb, hml, hown, hts⟩ (mX7_has l dC dI cyI cyO cyL y2 (rAt 20 parents y3) _ (fX7_has y2 (rAt 20 parents y3)) rfl) ⟨va_cnB 2 hts (gW co_X7_has) rfl rfl rfl (hK.2 _ nl_X5_45) (hts _ (gb_mem in_X7)) (by decide +kernel) ⟨Nat.le_of_ble_eq_true rfl, Nat.le_of_ble_eq_true rfl⟩, hts _ (gb_mem st_X7_has), trivial⟩ (cP_S hK hP hD [] rfl rfl) rfl rfl hl.1 rfl (lv_room (Nat.le_of_ble_eq_true rfl)) dX5_withAllBelow_24 ⟨Nat.zero_le _, Nat.zero_le _⟩) hP hD hS hA [] rfl (fun H locs hP hS => ?_)
        refine lv_if_eq (tgt := 37) hx hb dX5_withAllBelow_27 (by decide) (fun c2 => ?_) (fun c2 => ?_)
        · have h := (if_pos c2).symm.trans h
          refine lv_iinc (v := (y3 + 1)) (lv' := [(3, .int (y3 + 1)), (0, .ref t0), (2, .int y2)]) hx hb dX5_withAllBelow_37 hl (k := 2) rfl rfl (by decide) rfl (fun ls hl => ?_)
          refine lv_goto (tgt := 7) hx hb dX5_withAllBelow_40 (by decide) ?_
          exact ih keys parents y2 (y3 + 1) h _ _ hP hD hS ls (lv_sub hl [1, 2, 0] rfl)
        · have h := (if_neg c2).symm.trans h
          refine lv_iload_n hx hb dX5_withAllBelow_30 rfl (lv_at hl 1 rfl) ?_
          refine lv_iload_n hx hb dX5_withAllBelow_31 rfl (lv_at hl 2 rfl) ?_
          refine fr_ir (M := ([] : va_W)) (va_runSN (host := "HangingKeys") (As := [.int y3]) (rest := [.int y2]) ⟨hx, hb, hml, hown, hts⟩ (mX7_setOf l dC dI cyI cyO cyL y3 _ (fX7_setOf y3) rfl) ⟨va_cnB 1 hts (gW co_X7_setOf) rfl rfl rfl (hK.2 _ nl_X5_66) (hts _ (gb_mem in_X7)) (by decide +kernel) ⟨Nat.le_of_ble_eq_true rfl, Nat.le_of_ble_eq_true rfl⟩, hts _ (gb_mem st_X7_setOf), trivial⟩ (cP_S hK hP hD [] rfl rfl) rfl rfl hl.1 rfl (lv_room (Nat.le_of_ble_eq_true rfl)) dX5_withAllBelow_32 ⟨Nat.zero_le _, Nat.zero_le _⟩) hP hD hS hA [] rfl (fun H locs hP hS => ?_)
          refine lv_ior hx hb dX5_withAllBelow_35 ?_
          refine lv_istore_n (lv' := [(2, .int (y2 ||| (fX7_setOf y3))), (0, .ref t0), (3, .int y3)]) hx hb dX5_withAllBelow_36 rfl hl (by decide) rfl (fun ls hl => ?_)
          refine lv_iinc (v := (y3 + 1)) (lv' := [(3, .int (y3 + 1)), (2, .int (y2 ||| (fX7_setOf y3))), (0, .ref t0)]) hx hb dX5_withAllBelow_37 hl (k := 2) rfl rfl (by decide) rfl (fun ls hl => ?_)
          refine lv_goto (tgt := 7) hx hb dX5_withAllBelow_40 (by decide) ?_
          exact ih keys parents (y2 ||| (fX7_setOf y3)) (y3 + 1) h _ _ hP hD hS ls (lv_sub hl [2, 1, 0] rfl)
  have hl := lv_entry ([.ref t0, .int x1]) (n := 4) (Nat.le_of_ble_eq_true rfl)
  rw [lg_entry_eq]
  generalize (lg_sl ([.ref t0, .int x1]) ++ List.replicate (4 - (lg_sl ([.ref t0, .int x1])).length) Slot.unset).toArray = ls at hl ⊢
  have hl : lv_has ls 4 [(0, .ref t0), (1, .int x1)] := hl
  unfold fX5_withAllBelow at h
  refine lv_iload_n hx hb dX5_withAllBelow_0 rfl (lv_at hl 1 rfl) ?_
  refine fr_ir (M := ([] : va_W)) (va_runSN (host := "HangingKeys") (As := [.int x1]) (rest := []) ⟨hx, hb, hml, hown, hts⟩ (mX7_setOf l dC dI cyI cyO cyL x1 _ (fX7_setOf x1) rfl) ⟨va_cnB 1 hts (gW co_X7_setOf) rfl rfl rfl (hK.2 _ nl_X5_66) (hts _ (gb_mem in_X7)) (by decide +kernel) ⟨Nat.le_of_ble_eq_true rfl, Nat.le_of_ble_eq_true rfl⟩, hts _ (gb_mem st_X7_setOf), trivial⟩ (cP_S hK hP hD [] rfl rfl) rfl rfl hl.1 rfl (lv_room (Nat.le_of_ble_eq_true rfl)) dX5_withAllBelow_1 ⟨Nat.zero_le _, Nat.zero_le _⟩) hP hD hS hA [] rfl (fun H locs hP hS => ?_)
  refine lv_istore_n (lv' := [(2, .int (fX7_setOf x1)), (0, .ref t0), (1, .int x1)]) hx hb dX5_withAllBelow_4 rfl hl (by decide) rfl (fun ls hl => ?_)
  refine lv_iconst (v := 0) hx hb dX5_withAllBelow_5 (by decide) ?_
  refine lv_istore_n (lv' := [(3, .int 0), (2, .int (fX7_setOf x1)), (0, .ref t0), (1, .int x1)]) hx hb dX5_withAllBelow_6 rfl hl (by decide) rfl (fun ls hl => ?_)
  exact kB7 6000 keys parents (fX7_setOf x1) 0 h _ _ hP hD hS ls (lv_sub hl [2, 1, 0] rfl)
noncomputable def fX5_liveKeysOn_b4 : Nat → Int32 → Int32 → (Nat → Int32) → Int32 → Int32 → Int32 → Option (Int32)
  | 0, _, _, _, _, _, _ => none
  | fuel + 1, keys, liveKeys, parents, y1, y2, y3 =>
  (if keys ≤ y3 then (some (y2 &&& liveKeys)) else (if (fX7_has y1 (rAt 20 parents y3)) = 0 then fX5_liveKeysOn_b4 fuel keys liveKeys parents y1 y2 (y3 + 1) else fX5_liveKeysOn_b4 fuel keys liveKeys parents y1 (y2 ||| (fX7_setOf y3)) (y3 + 1)))

noncomputable def fX5_liveKeysOn (keys : Int32) (liveKeys : Int32) (parents : Nat → Int32) (x1 : Int32) : Option (Int32) :=
  fX5_liveKeysOn_b4 6000 keys liveKeys parents x1 0 0
set_option maxHeartbeats 1000000 in
set_option maxRecDepth 100000 in
theorem mX5_liveKeysOn (l : Launch) (dC : Nat → ClassId) (dI : Nat → Nat → Nat) (cyI cyO cyL : ClassId) (t0 t1 t2 t3 t4 t5 t6 t7 t8 : Nat) (mostWear : Int32) (keys : Int32) (boxes : Int32) (liveKeys : Int32) (liveBoxes : Int32) (parents : Nat → Int32) (makes : Nat → Int32) (wears : Nat → Int32) (keysOfBoxes : Nat → Int32) (x1 : Int32) (sz : Nat) (res : Int32) (h : fX5_liveKeysOn keys liveKeys parents x1 = some res) : Met l yX5_liveKeysOn (wsG yX5_liveKeysOn cX5_liveKeysOn 4 (some .int)) ({ frames := 1, cells := 0, slots := 0, locals := 21 }) (cP dC dI cyI cyO cyL sz [.ref t0, .int x1] (treeW cyI t0 t1 t2 t3 t4 t5 t6 t7 t8 mostWear keys boxes liveKeys liveBoxes parents makes wears keysOfBoxes)) (cI dC dI res (treeW cyI t0 t1 t2 t3 t4 t5 t6 t7 t8 mostWear keys boxes liveKeys liveBoxes parents makes wears keysOfBoxes) (va_A (treeW cyI t0 t1 t2 t3 t4 t5 t6 t7 t8 mostWear keys boxes liveKeys liveBoxes parents makes wears keysOfBoxes) sz)) 0 0 (va_A (treeW cyI t0 t1 t2 t3 t4 t5 t6 t7 t8 mostWear keys boxes liveKeys liveBoxes parents makes wears keysOfBoxes) sz) := by
  refine Met.ofW (cc := cX5_liveKeysOn) (maxL := 4) (ret := (some .int)) (by decide) rfl ?_
  intro p e s m args below meth c s₁ B hml hv
  obtain ⟨rfl, hsz, hP, hK, hD0⟩ := hv
  have hx := B.exec
  have hb := B.bytes
  have hr := B.returns
  have hts := atoms_spec (ws := wsG yX5_liveKeysOn cX5_liveKeysOn 4 (some .int)) B.pre
  have hown : s.vm.findClass RX5 = some m.cls := findClass_of_methodNamed B.named
  have hlocks := B.notSynchronized
  subst hsz
  have hD := hD0.self (sz := s.heap.size)
  generalize hAe : va_A (treeW cyI t0 t1 t2 t3 t4 t5 t6 t7 t8 mostWear keys boxes liveKeys liveBoxes parents makes wears keysOfBoxes) s.heap.size = A at hD ⊢
  have hA : ∀ q : Nat, s.heap.size ≤ q → A q := fun q h => by rw [← hAe]; exact Or.inr h
  have hS : va_S A s.heap s.heap [] := va_S.rf
  have kB4 : ∀ (fuel : Nat) (keys : Int32) (liveKeys : Int32) (parents : Nat → Int32) (y1 : Int32) (y2 : Int32) (y3 : Int32), fX5_liveKeysOn_b4 fuel keys liveKeys parents y1 y2 y3 = some res → ∀ (H : Heap) (locs : List Loc), va_P (dC, dI) vwCl (treeW cyI t0 t1 t2 t3 t4 t5 t6 t7 t8 mostWear keys boxes liveKeys liveBoxes parents makes wears keysOfBoxes) H → va_D A (treeW cyI t0 t1 t2 t3 t4 t5 t6 t7 t8 mostWear keys boxes liveKeys liveBoxes parents makes wears keysOfBoxes) → va_S A s.heap H locs → ∀ ls : Array Slot, lv_has ls 4 [(0, .ref t0), (1, .int y1), (2, .int y2), (3, .int y3)] → W p l e (headSpec (wsG yX5_liveKeysOn cX5_liveKeysOn 4 (some .int)) ({ frames := 1, cells := 0, slots := 0, locals := 21 })).room s m (([.ref t0, .int x1] : List Value).toArray) below meth c H locs 0 0 (MQ below (cI dC dI res (treeW cyI t0 t1 t2 t3 t4 t5 t6 t7 t8 mostWear keys boxes liveKeys liveBoxes parents makes wears keysOfBoxes) A) ([.ref t0, .int x1] : List Value).toArray s 0 0 A) (F0 m 4 ls []) := by
    intro fuel
    induction fuel with
    | zero => intro keys liveKeys parents y1 y2 y3 h; rw [fX5_liveKeysOn_b4] at h; cases h
    | succ fuel ih =>
      intro keys liveKeys parents y1 y2 y3 h H locs hP hD hS ls hl
      rw [fX5_liveKeysOn_b4] at h
      refine lv_iload_n hx hb dX5_liveKeysOn_4 rfl (lv_at hl 3 rfl) ?_
      refine lv_aload_n hx hb dX5_liveKeysOn_5 rfl (lv_at hl 0 rfl) ?_
      refine va_get (D := (dC, dI)) (ci := 5) (v := .int keys) (C := RX5) (T := TX5) (N := 9) hx hb hts (fun w h9 => gb_mem (lay_X5 w h9)) hown hK.1 hP 0 rfl rfl 1 (by decide) (hts _ (gb_mem fl_X5_15)) (fun _ h9 => h9) rfl dX5_liveKeysOn_6 ?_
      refine lv_icmp_ge (tgt := 40) hx hb dX5_liveKeysOn_9 (by decide) (fun c1 => ?_) (fun c1 => ?_)
      · have h := (if_pos c1).symm.trans h
        refine lv_iload_n hx hb dX5_liveKeysOn_40 rfl (lv_at hl 2 rfl) ?_
        refine lv_aload_n hx hb dX5_liveKeysOn_41 rfl (lv_at hl 0 rfl) ?_
        refine va_get (D := (dC, dI)) (ci := 5) (v := .int liveKeys) (C := RX5) (T := TX5) (N := 9) hx hb hts (fun w h9 => gb_mem (lay_X5 w h9)) hown hK.1 hP 0 rfl rfl 3 (by decide) (hts _ (gb_mem fl_X5_21)) (fun _ h9 => h9) rfl dX5_liveKeysOn_42 ?_
        refine lv_iand hx hb dX5_liveKeysOn_45 ?_
        obtain rfl := Option.some.inj h
        exact e_i hx hb hr hlocks hP hS dX5_liveKeysOn_46
      · have h := (if_neg c1).symm.trans h
        refine lv_iload_n hx hb dX5_liveKeysOn_12 rfl (lv_at hl 1 rfl) ?_
        refine lv_aload_n hx hb dX5_liveKeysOn_13 rfl (lv_at hl 0 rfl) ?_
        refine va_get (D := (dC, dI)) (ci := 5) (v := .ref t1) (C := RX5) (T := TX5) (N := 9) hx hb hts (fun w h9 => gb_mem (lay_X5 w h9)) hown hK.1 hP 0 rfl rfl 5 (by decide) (hts _ (gb_mem fl_X5_32)) (fun _ h9 => h9) rfl dX5_liveKeysOn_14 ?_
        refine lv_iload_n hx hb dX5_liveKeysOn_17 rfl (lv_at hl 3 rfl) ?_
        refine fr_ir (M := (rowW cyI t1 t2 20 parents)) (va_runV (As := [.int y3]) (rest := [.int y1]) ⟨hx, hb, hml, hown, hts⟩ (tX4_at l dC dI cyI cyO cyL t1 t2 20 parents y3 _ (rAt 20 parents y3) rfl (by decide)) (cwV 1 hts (gV ml_X5_56 im_X4_at se_X4_at in_X4 co_X4_at) rfl rfl rfl (by decide +kernel) ⟨Nat.le_of_ble_eq_true rfl, Nat.le_of_ble_eq_true rfl⟩) (cP_V hK hP hD [1, 2] rfl rfl 1 rfl rfl) rfl rfl hl.1 rfl (lv_room (Nat.le_of_ble_eq_true rfl)) dX5_liveKeysOn_18 ⟨Nat.zero_le _, Nat.zero_le _⟩) hP hD hS hA [1, 2] rfl (fun H locs hP hS => ?_)
        refine fr_ir (M := ([] : va_W)) (va_runSN (host := "HangingKeys") (As := [.int y1, .int (rAt 20 parents y3)]) (rest := []) ⟨hx, hb, hml, hown, hts⟩ (mX7_has l dC dI cyI cyO cyL y1 (rAt 20 parents y3) _ (fX7_has y1 (rAt 20 parents y3)) rfl) ⟨va_cnB 2 hts (gW co_X7_has) rfl rfl rfl (hK.2 _ nl_X5_45) (hts _ (gb_mem in_X7)) (by decide +kernel) ⟨Nat.le_of_ble_eq_true rfl, Nat.le_of_ble_eq_true rfl⟩, hts _ (gb_mem st_X7_has), trivial⟩ (cP_S hK hP hD [] rfl rfl) rfl rfl hl.1 rfl (lv_room (Nat.le_of_ble_eq_true rfl)) dX5_liveKeysOn_21 ⟨Nat.zero_le _, Nat.zero_le _⟩) hP hD hS hA [] rfl (fun H locs hP hS => ?_)
        refine lv_if_eq (tgt := 34) hx hb dX5_liveKeysOn_24 (by decide) (fun c2 => ?_) (fun c2 => ?_)
        · have h := (if_pos c2).symm.trans h
          refine lv_iinc (v := (y3 + 1)) (lv' := [(3, .int (y3 + 1)), (0, .ref t0), (1, .int y1), (2, .int y2)]) hx hb dX5_liveKeysOn_34 hl (k := 3) rfl rfl (by decide) rfl (fun ls hl => ?_)
          refine lv_goto (tgt := 4) hx hb dX5_liveKeysOn_37 (by decide) ?_
          exact ih keys liveKeys parents y1 y2 (y3 + 1) h _ _ hP hD hS ls (lv_sub hl [1, 2, 3, 0] rfl)
        · have h := (if_neg c2).symm.trans h
          refine lv_iload_n hx hb dX5_liveKeysOn_27 rfl (lv_at hl 2 rfl) ?_
          refine lv_iload_n hx hb dX5_liveKeysOn_28 rfl (lv_at hl 3 rfl) ?_
          refine fr_ir (M := ([] : va_W)) (va_runSN (host := "HangingKeys") (As := [.int y3]) (rest := [.int y2]) ⟨hx, hb, hml, hown, hts⟩ (mX7_setOf l dC dI cyI cyO cyL y3 _ (fX7_setOf y3) rfl) ⟨va_cnB 1 hts (gW co_X7_setOf) rfl rfl rfl (hK.2 _ nl_X5_66) (hts _ (gb_mem in_X7)) (by decide +kernel) ⟨Nat.le_of_ble_eq_true rfl, Nat.le_of_ble_eq_true rfl⟩, hts _ (gb_mem st_X7_setOf), trivial⟩ (cP_S hK hP hD [] rfl rfl) rfl rfl hl.1 rfl (lv_room (Nat.le_of_ble_eq_true rfl)) dX5_liveKeysOn_29 ⟨Nat.zero_le _, Nat.zero_le _⟩) hP hD hS hA [] rfl (fun H locs hP hS => ?_)
          refine lv_ior hx hb dX5_liveKeysOn_32 ?_
          refine lv_istore_n (lv' := [(2, .int (y2 ||| (fX7_setOf y3))), (0, .ref t0), (1, .int y1), (3, .int y3)]) hx hb dX5_liveKeysOn_33 rfl hl (by decide) rfl (fun ls hl => ?_)
          refine lv_iinc (v := (y3 + 1)) (lv' := [(3, .int (y3 + 1)), (2, .int (y2 ||| (fX7_setOf y3))), (0, .ref t0), (1, .int y1)]) hx hb dX5_liveKeysOn_34 hl (k := 3) rfl rfl (by decide) rfl (fun ls hl => ?_)
          refine lv_goto (tgt := 4) hx hb dX5_liveKeysOn_37 (by decide) ?_
          exact ih keys liveKeys parents y1 (y2 ||| (fX7_setOf y3)) (y3 + 1) h _ _ hP hD hS ls (lv_sub hl [2, 3, 1, 0] rfl)
  have hl := lv_entry ([.ref t0, .int x1]) (n := 4) (Nat.le_of_ble_eq_true rfl)
  rw [lg_entry_eq]
  generalize (lg_sl ([.ref t0, .int x1]) ++ List.replicate (4 - (lg_sl ([.ref t0, .int x1])).length) Slot.unset).toArray = ls at hl ⊢
  have hl : lv_has ls 4 [(0, .ref t0), (1, .int x1)] := hl
  unfold fX5_liveKeysOn at h
  refine lv_iconst (v := 0) hx hb dX5_liveKeysOn_0 (by decide) ?_
  refine lv_istore_n (lv' := [(2, .int 0), (0, .ref t0), (1, .int x1)]) hx hb dX5_liveKeysOn_1 rfl hl (by decide) rfl (fun ls hl => ?_)
  refine lv_iconst (v := 0) hx hb dX5_liveKeysOn_2 (by decide) ?_
  refine lv_istore_n (lv' := [(3, .int 0), (2, .int 0), (0, .ref t0), (1, .int x1)]) hx hb dX5_liveKeysOn_3 rfl hl (by decide) rfl (fun ls hl => ?_)
  exact kB4 6000 keys liveKeys parents x1 0 0 h _ _ hP hD hS ls (lv_sub hl [2, 3, 1, 0] rfl)
noncomputable def fX5_liveBoxesOn_b4 : Nat → Int32 → Int32 → (Nat → Int32) → Int32 → Int32 → Int32 → Option (Int32)
  | 0, _, _, _, _, _, _ => none
  | fuel + 1, boxes, liveBoxes, keysOfBoxes, y1, y2, y3 =>
  (if boxes ≤ y3 then (some (y2 &&& liveBoxes)) else (if (fX7_has y1 (rAt 20 keysOfBoxes y3)) = 0 then fX5_liveBoxesOn_b4 fuel boxes liveBoxes keysOfBoxes y1 y2 (y3 + 1) else fX5_liveBoxesOn_b4 fuel boxes liveBoxes keysOfBoxes y1 (y2 ||| (fX7_setOf y3)) (y3 + 1)))

noncomputable def fX5_liveBoxesOn (boxes : Int32) (liveBoxes : Int32) (keysOfBoxes : Nat → Int32) (x1 : Int32) : Option (Int32) :=
  fX5_liveBoxesOn_b4 6000 boxes liveBoxes keysOfBoxes x1 0 0
set_option maxHeartbeats 1000000 in
set_option maxRecDepth 100000 in
theorem mX5_liveBoxesOn (l : Launch) (dC : Nat → ClassId) (dI : Nat → Nat → Nat) (cyI cyO cyL : ClassId) (t0 t1 t2 t3 t4 t5 t6 t7 t8 : Nat) (mostWear : Int32) (keys : Int32) (boxes : Int32) (liveKeys : Int32) (liveBoxes : Int32) (parents : Nat → Int32) (makes : Nat → Int32) (wears : Nat → Int32) (keysOfBoxes : Nat → Int32) (x1 : Int32) (sz : Nat) (res : Int32) (h : fX5_liveBoxesOn boxes liveBoxes keysOfBoxes x1 = some res) : Met l yX5_liveBoxesOn (wsG yX5_liveBoxesOn cX5_liveBoxesOn 4 (some .int)) ({ frames := 1, cells := 0, slots := 0, locals := 21 }) (cP dC dI cyI cyO cyL sz [.ref t0, .int x1] (treeW cyI t0 t1 t2 t3 t4 t5 t6 t7 t8 mostWear keys boxes liveKeys liveBoxes parents makes wears keysOfBoxes)) (cI dC dI res (treeW cyI t0 t1 t2 t3 t4 t5 t6 t7 t8 mostWear keys boxes liveKeys liveBoxes parents makes wears keysOfBoxes) (va_A (treeW cyI t0 t1 t2 t3 t4 t5 t6 t7 t8 mostWear keys boxes liveKeys liveBoxes parents makes wears keysOfBoxes) sz)) 0 0 (va_A (treeW cyI t0 t1 t2 t3 t4 t5 t6 t7 t8 mostWear keys boxes liveKeys liveBoxes parents makes wears keysOfBoxes) sz) := by
  refine Met.ofW (cc := cX5_liveBoxesOn) (maxL := 4) (ret := (some .int)) (by decide) rfl ?_
  intro p e s m args below meth c s₁ B hml hv
  obtain ⟨rfl, hsz, hP, hK, hD0⟩ := hv
  have hx := B.exec
  have hb := B.bytes
  have hr := B.returns
  have hts := atoms_spec (ws := wsG yX5_liveBoxesOn cX5_liveBoxesOn 4 (some .int)) B.pre
  have hown : s.vm.findClass RX5 = some m.cls := findClass_of_methodNamed B.named
  have hlocks := B.notSynchronized
  subst hsz
  have hD := hD0.self (sz := s.heap.size)
  generalize hAe : va_A (treeW cyI t0 t1 t2 t3 t4 t5 t6 t7 t8 mostWear keys boxes liveKeys liveBoxes parents makes wears keysOfBoxes) s.heap.size = A at hD ⊢
  have hA : ∀ q : Nat, s.heap.size ≤ q → A q := fun q h => by rw [← hAe]; exact Or.inr h
  have hS : va_S A s.heap s.heap [] := va_S.rf
  have kB4 : ∀ (fuel : Nat) (boxes : Int32) (liveBoxes : Int32) (keysOfBoxes : Nat → Int32) (y1 : Int32) (y2 : Int32) (y3 : Int32), fX5_liveBoxesOn_b4 fuel boxes liveBoxes keysOfBoxes y1 y2 y3 = some res → ∀ (H : Heap) (locs : List Loc), va_P (dC, dI) vwCl (treeW cyI t0 t1 t2 t3 t4 t5 t6 t7 t8 mostWear keys boxes liveKeys liveBoxes parents makes wears keysOfBoxes) H → va_D A (treeW cyI t0 t1 t2 t3 t4 t5 t6 t7 t8 mostWear keys boxes liveKeys liveBoxes parents makes wears keysOfBoxes) → va_S A s.heap H locs → ∀ ls : Array Slot, lv_has ls 4 [(0, .ref t0), (1, .int y1), (2, .int y2), (3, .int y3)] → W p l e (headSpec (wsG yX5_liveBoxesOn cX5_liveBoxesOn 4 (some .int)) ({ frames := 1, cells := 0, slots := 0, locals := 21 })).room s m (([.ref t0, .int x1] : List Value).toArray) below meth c H locs 0 0 (MQ below (cI dC dI res (treeW cyI t0 t1 t2 t3 t4 t5 t6 t7 t8 mostWear keys boxes liveKeys liveBoxes parents makes wears keysOfBoxes) A) ([.ref t0, .int x1] : List Value).toArray s 0 0 A) (F0 m 4 ls []) := by
    intro fuel
    induction fuel with
    | zero => intro boxes liveBoxes keysOfBoxes y1 y2 y3 h; rw [fX5_liveBoxesOn_b4] at h; cases h
    | succ fuel ih =>
      intro boxes liveBoxes keysOfBoxes y1 y2 y3 h H locs hP hD hS ls hl
      rw [fX5_liveBoxesOn_b4] at h
      refine lv_iload_n hx hb dX5_liveBoxesOn_4 rfl (lv_at hl 3 rfl) ?_
      refine lv_aload_n hx hb dX5_liveBoxesOn_5 rfl (lv_at hl 0 rfl) ?_
      refine va_get (D := (dC, dI)) (ci := 5) (v := .int boxes) (C := RX5) (T := TX5) (N := 9) hx hb hts (fun w h9 => gb_mem (lay_X5 w h9)) hown hK.1 hP 0 rfl rfl 2 (by decide) (hts _ (gb_mem fl_X5_18)) (fun _ h9 => h9) rfl dX5_liveBoxesOn_6 ?_
      refine lv_icmp_ge (tgt := 40) hx hb dX5_liveBoxesOn_9 (by decide) (fun c1 => ?_) (fun c1 => ?_)
      · have h := (if_pos c1).symm.trans h
        refine lv_iload_n hx hb dX5_liveBoxesOn_40 rfl (lv_at hl 2 rfl) ?_
        refine lv_aload_n hx hb dX5_liveBoxesOn_41 rfl (lv_at hl 0 rfl) ?_
        refine va_get (D := (dC, dI)) (ci := 5) (v := .int liveBoxes) (C := RX5) (T := TX5) (N := 9) hx hb hts (fun w h9 => gb_mem (lay_X5 w h9)) hown hK.1 hP 0 rfl rfl 4 (by decide) (hts _ (gb_mem fl_X5_24)) (fun _ h9 => h9) rfl dX5_liveBoxesOn_42 ?_
        refine lv_iand hx hb dX5_liveBoxesOn_45 ?_
        obtain rfl := Option.some.inj h
        exact e_i hx hb hr hlocks hP hS dX5_liveBoxesOn_46
      · have h := (if_neg c1).symm.trans h
        refine lv_iload_n hx hb dX5_liveBoxesOn_12 rfl (lv_at hl 1 rfl) ?_
        refine lv_aload_n hx hb dX5_liveBoxesOn_13 rfl (lv_at hl 0 rfl) ?_
        refine va_get (D := (dC, dI)) (ci := 5) (v := .ref t7) (C := RX5) (T := TX5) (N := 9) hx hb hts (fun w h9 => gb_mem (lay_X5 w h9)) hown hK.1 hP 0 rfl rfl 8 (by decide) (hts _ (gb_mem fl_X5_42)) (fun _ h9 => h9) rfl dX5_liveBoxesOn_14 ?_
        refine lv_iload_n hx hb dX5_liveBoxesOn_17 rfl (lv_at hl 3 rfl) ?_
        refine fr_ir (M := (rowW cyI t7 t8 20 keysOfBoxes)) (va_runV (As := [.int y3]) (rest := [.int y1]) ⟨hx, hb, hml, hown, hts⟩ (tX4_at l dC dI cyI cyO cyL t7 t8 20 keysOfBoxes y3 _ (rAt 20 keysOfBoxes y3) rfl (by decide)) (cwV 1 hts (gV ml_X5_56 im_X4_at se_X4_at in_X4 co_X4_at) rfl rfl rfl (by decide +kernel) ⟨Nat.le_of_ble_eq_true rfl, Nat.le_of_ble_eq_true rfl⟩) (cP_V hK hP hD [7, 8] rfl rfl 7 rfl rfl) rfl rfl hl.1 rfl (lv_room (Nat.le_of_ble_eq_true rfl)) dX5_liveBoxesOn_18 ⟨Nat.zero_le _, Nat.zero_le _⟩) hP hD hS hA [7, 8] rfl (fun H locs hP hS => ?_)
        refine fr_ir (M := ([] : va_W)) (va_runSN (host := "HangingKeys") (As := [.int y1, .int (rAt 20 keysOfBoxes y3)]) (rest := []) ⟨hx, hb, hml, hown, hts⟩ (mX7_has l dC dI cyI cyO cyL y1 (rAt 20 keysOfBoxes y3) _ (fX7_has y1 (rAt 20 keysOfBoxes y3)) rfl) ⟨va_cnB 2 hts (gW co_X7_has) rfl rfl rfl (hK.2 _ nl_X5_45) (hts _ (gb_mem in_X7)) (by decide +kernel) ⟨Nat.le_of_ble_eq_true rfl, Nat.le_of_ble_eq_true rfl⟩, hts _ (gb_mem st_X7_has), trivial⟩ (cP_S hK hP hD [] rfl rfl) rfl rfl hl.1 rfl (lv_room (Nat.le_of_ble_eq_true rfl)) dX5_liveBoxesOn_21 ⟨Nat.zero_le _, Nat.zero_le _⟩) hP hD hS hA [] rfl (fun H locs hP hS => ?_)
        refine lv_if_eq (tgt := 34) hx hb dX5_liveBoxesOn_24 (by decide) (fun c2 => ?_) (fun c2 => ?_)
        · have h := (if_pos c2).symm.trans h
          refine lv_iinc (v := (y3 + 1)) (lv' := [(3, .int (y3 + 1)), (0, .ref t0), (1, .int y1), (2, .int y2)]) hx hb dX5_liveBoxesOn_34 hl (k := 3) rfl rfl (by decide) rfl (fun ls hl => ?_)
          refine lv_goto (tgt := 4) hx hb dX5_liveBoxesOn_37 (by decide) ?_
          exact ih boxes liveBoxes keysOfBoxes y1 y2 (y3 + 1) h _ _ hP hD hS ls (lv_sub hl [1, 2, 3, 0] rfl)
        · have h := (if_neg c2).symm.trans h
          refine lv_iload_n hx hb dX5_liveBoxesOn_27 rfl (lv_at hl 2 rfl) ?_
          refine lv_iload_n hx hb dX5_liveBoxesOn_28 rfl (lv_at hl 3 rfl) ?_
          refine fr_ir (M := ([] : va_W)) (va_runSN (host := "HangingKeys") (As := [.int y3]) (rest := [.int y2]) ⟨hx, hb, hml, hown, hts⟩ (mX7_setOf l dC dI cyI cyO cyL y3 _ (fX7_setOf y3) rfl) ⟨va_cnB 1 hts (gW co_X7_setOf) rfl rfl rfl (hK.2 _ nl_X5_66) (hts _ (gb_mem in_X7)) (by decide +kernel) ⟨Nat.le_of_ble_eq_true rfl, Nat.le_of_ble_eq_true rfl⟩, hts _ (gb_mem st_X7_setOf), trivial⟩ (cP_S hK hP hD [] rfl rfl) rfl rfl hl.1 rfl (lv_room (Nat.le_of_ble_eq_true rfl)) dX5_liveBoxesOn_29 ⟨Nat.zero_le _, Nat.zero_le _⟩) hP hD hS hA [] rfl (fun H locs hP hS => ?_)
          refine lv_ior hx hb dX5_liveBoxesOn_32 ?_
          refine lv_istore_n (lv' := [(2, .int (y2 ||| (fX7_setOf y3))), (0, .ref t0), (1, .int y1), (3, .int y3)]) hx hb dX5_liveBoxesOn_33 rfl hl (by decide) rfl (fun ls hl => ?_)
          refine lv_iinc (v := (y3 + 1)) (lv' := [(3, .int (y3 + 1)), (2, .int (y2 ||| (fX7_setOf y3))), (0, .ref t0), (1, .int y1)]) hx hb dX5_liveBoxesOn_34 hl (k := 3) rfl rfl (by decide) rfl (fun ls hl => ?_)
          refine lv_goto (tgt := 4) hx hb dX5_liveBoxesOn_37 (by decide) ?_
          exact ih boxes liveBoxes keysOfBoxes y1 (y2 ||| (fX7_setOf y3)) (y3 + 1) h _ _ hP hD hS ls (lv_sub hl [2, 3, 1, 0] rfl)
  have hl := lv_entry ([.ref t0, .int x1]) (n := 4) (Nat.le_of_ble_eq_true rfl)
  rw [lg_entry_eq]
  generalize (lg_sl ([.ref t0, .int x1]) ++ List.replicate (4 - (lg_sl ([.ref t0, .int x1])).length) Slot.unset).toArray = ls at hl ⊢
  have hl : lv_has ls 4 [(0, .ref t0), (1, .int x1)] := hl
  unfold fX5_liveBoxesOn at h
  refine lv_iconst (v := 0) hx hb dX5_liveBoxesOn_0 (by decide) ?_
  refine lv_istore_n (lv' := [(2, .int 0), (0, .ref t0), (1, .int x1)]) hx hb dX5_liveBoxesOn_1 rfl hl (by decide) rfl (fun ls hl => ?_)
  refine lv_iconst (v := 0) hx hb dX5_liveBoxesOn_2 (by decide) ?_
  refine lv_istore_n (lv' := [(3, .int 0), (2, .int 0), (0, .ref t0), (1, .int x1)]) hx hb dX5_liveBoxesOn_3 rfl hl (by decide) rfl (fun ls hl => ?_)
  exact kB4 6000 boxes liveBoxes keysOfBoxes x1 0 0 h _ _ hP hD hS ls (lv_sub hl [2, 3, 1, 0] rfl)
noncomputable def fX5_wornKeys_b4 : Nat → Int32 → Int32 → Int32 → (Nat → Int32) → Int32 → Int32 → Option (Int32)
  | 0, _, _, _, _, _, _ => none
  | fuel + 1, mostWear, keys, liveKeys, wears, y1, y2 =>
  (if keys ≤ y2 then (some (y1 &&& liveKeys)) else (if (fX5_leftToClose mostWear wears y2) = 0 then fX5_wornKeys_b4 fuel mostWear keys liveKeys wears (y1 ||| (fX7_setOf y2)) (y2 + 1) else fX5_wornKeys_b4 fuel mostWear keys liveKeys wears y1 (y2 + 1)))

noncomputable def fX5_wornKeys (mostWear : Int32) (keys : Int32) (liveKeys : Int32) (wears : Nat → Int32) : Option (Int32) :=
  fX5_wornKeys_b4 6000 mostWear keys liveKeys wears 0 0
set_option maxHeartbeats 1000000 in
set_option maxRecDepth 100000 in
theorem mX5_wornKeys (l : Launch) (dC : Nat → ClassId) (dI : Nat → Nat → Nat) (cyI cyO cyL : ClassId) (t0 t1 t2 t3 t4 t5 t6 t7 t8 : Nat) (mostWear : Int32) (keys : Int32) (boxes : Int32) (liveKeys : Int32) (liveBoxes : Int32) (parents : Nat → Int32) (makes : Nat → Int32) (wears : Nat → Int32) (keysOfBoxes : Nat → Int32)  (sz : Nat) (res : Int32) (h : fX5_wornKeys mostWear keys liveKeys wears = some res) : Met l yX5_wornKeys (wsG yX5_wornKeys cX5_wornKeys 3 (some .int)) ({ frames := 2, cells := 0, slots := 0, locals := 42 }) (cP dC dI cyI cyO cyL sz [.ref t0] (treeW cyI t0 t1 t2 t3 t4 t5 t6 t7 t8 mostWear keys boxes liveKeys liveBoxes parents makes wears keysOfBoxes)) (cI dC dI res (treeW cyI t0 t1 t2 t3 t4 t5 t6 t7 t8 mostWear keys boxes liveKeys liveBoxes parents makes wears keysOfBoxes) (va_A (treeW cyI t0 t1 t2 t3 t4 t5 t6 t7 t8 mostWear keys boxes liveKeys liveBoxes parents makes wears keysOfBoxes) sz)) 0 0 (va_A (treeW cyI t0 t1 t2 t3 t4 t5 t6 t7 t8 mostWear keys boxes liveKeys liveBoxes parents makes wears keysOfBoxes) sz) := by
  refine Met.ofW (cc := cX5_wornKeys) (maxL := 3) (ret := (some .int)) (by decide) rfl ?_
  intro p e s m args below meth c s₁ B hml hv
  obtain ⟨rfl, hsz, hP, hK, hD0⟩ := hv
  have hx := B.exec
  have hb := B.bytes
  have hr := B.returns
  have hts := atoms_spec (ws := wsG yX5_wornKeys cX5_wornKeys 3 (some .int)) B.pre
  have hown : s.vm.findClass RX5 = some m.cls := findClass_of_methodNamed B.named
  have hlocks := B.notSynchronized
  subst hsz
  have hD := hD0.self (sz := s.heap.size)
  generalize hAe : va_A (treeW cyI t0 t1 t2 t3 t4 t5 t6 t7 t8 mostWear keys boxes liveKeys liveBoxes parents makes wears keysOfBoxes) s.heap.size = A at hD ⊢
  have hA : ∀ q : Nat, s.heap.size ≤ q → A q := fun q h => by rw [← hAe]; exact Or.inr h
  have hS : va_S A s.heap s.heap [] := va_S.rf
  have kB4 : ∀ (fuel : Nat) (mostWear : Int32) (keys : Int32) (liveKeys : Int32) (wears : Nat → Int32) (y1 : Int32) (y2 : Int32), fX5_wornKeys_b4 fuel mostWear keys liveKeys wears y1 y2 = some res → ∀ (H : Heap) (locs : List Loc), va_P (dC, dI) vwCl (treeW cyI t0 t1 t2 t3 t4 t5 t6 t7 t8 mostWear keys boxes liveKeys liveBoxes parents makes wears keysOfBoxes) H → va_D A (treeW cyI t0 t1 t2 t3 t4 t5 t6 t7 t8 mostWear keys boxes liveKeys liveBoxes parents makes wears keysOfBoxes) → va_S A s.heap H locs → ∀ ls : Array Slot, lv_has ls 3 [(0, .ref t0), (1, .int y1), (2, .int y2)] → W p l e (headSpec (wsG yX5_wornKeys cX5_wornKeys 3 (some .int)) ({ frames := 2, cells := 0, slots := 0, locals := 42 })).room s m (([.ref t0] : List Value).toArray) below meth c H locs 0 0 (MQ below (cI dC dI res (treeW cyI t0 t1 t2 t3 t4 t5 t6 t7 t8 mostWear keys boxes liveKeys liveBoxes parents makes wears keysOfBoxes) A) ([.ref t0] : List Value).toArray s 0 0 A) (F0 m 4 ls []) := by
    intro fuel
    induction fuel with
    | zero => intro mostWear keys liveKeys wears y1 y2 h; rw [fX5_wornKeys_b4] at h; cases h
    | succ fuel ih =>
      intro mostWear keys liveKeys wears y1 y2 h H locs hP hD hS ls hl
      rw [fX5_wornKeys_b4] at h
      refine lv_iload_n hx hb dX5_wornKeys_4 rfl (lv_at hl 2 rfl) ?_
      refine lv_aload_n hx hb dX5_wornKeys_5 rfl (lv_at hl 0 rfl) ?_
      refine va_get (D := (dC, dI)) (ci := 5) (v := .int keys) (C := RX5) (T := TX5) (N := 9) hx hb hts (fun w h9 => gb_mem (lay_X5 w h9)) hown hK.1 hP 0 rfl rfl 1 (by decide) (hts _ (gb_mem fl_X5_15)) (fun _ h9 => h9) rfl dX5_wornKeys_6 ?_
      refine lv_icmp_ge (tgt := 33) hx hb dX5_wornKeys_9 (by decide) (fun c1 => ?_) (fun c1 => ?_)
      · have h := (if_pos c1).symm.trans h
        refine lv_iload_n hx hb dX5_wornKeys_33 rfl (lv_at hl 1 rfl) ?_
        refine lv_aload_n hx hb dX5_wornKeys_34 rfl (lv_at hl 0 rfl) ?_
        refine va_get (D := (dC, dI)) (ci := 5) (v := .int liveKeys) (C := RX5) (T := TX5) (N := 9) hx hb hts (fun w h9 => gb_mem (lay_X5 w h9)) hown hK.1 hP 0 rfl rfl 3 (by decide) (hts _ (gb_mem fl_X5_21)) (fun _ h9 => h9) rfl dX5_wornKeys_35 ?_
        refine lv_iand hx hb dX5_wornKeys_38 ?_
        obtain rfl := Option.some.inj h
        exact e_i hx hb hr hlocks hP hS dX5_wornKeys_39
      · have h := (if_neg c1).symm.trans h
        refine lv_aload_n hx hb dX5_wornKeys_12 rfl (lv_at hl 0 rfl) ?_
        refine lv_iload_n hx hb dX5_wornKeys_13 rfl (lv_at hl 2 rfl) ?_
        refine fr_ir (M := (treeW cyI t0 t1 t2 t3 t4 t5 t6 t7 t8 mostWear keys boxes liveKeys liveBoxes parents makes wears keysOfBoxes)) (va_runV (As := [.int y2]) (rest := []) ⟨hx, hb, hml, hown, hts⟩ (mX5_leftToClose l dC dI cyI cyO cyL t0 t1 t2 t3 t4 t5 t6 t7 t8 mostWear keys boxes liveKeys liveBoxes parents makes wears keysOfBoxes y2 _ (fX5_leftToClose mostWear wears y2) rfl) (cwV 1 hts (gV ml_X5_75 im_X5_leftToClose se_X5_leftToClose in_X5 co_X5_leftToClose) rfl rfl rfl (by decide +kernel) ⟨Nat.le_of_ble_eq_true rfl, Nat.le_of_ble_eq_true rfl⟩) (cP_V hK hP hD [0, 1, 2, 3, 4, 5, 6, 7, 8] rfl rfl 0 rfl rfl) rfl rfl hl.1 rfl (lv_room (Nat.le_of_ble_eq_true rfl)) dX5_wornKeys_14 ⟨Nat.zero_le _, Nat.zero_le _⟩) hP hD hS hA [0, 1, 2, 3, 4, 5, 6, 7, 8] rfl (fun H locs hP hS => ?_)
        refine lv_if_ne (tgt := 27) hx hb dX5_wornKeys_17 (by decide) (fun c2 => ?_) (fun c2 => ?_)
        · have h := (if_neg c2).symm.trans h
          refine lv_iinc (v := (y2 + 1)) (lv' := [(2, .int (y2 + 1)), (0, .ref t0), (1, .int y1)]) hx hb dX5_wornKeys_27 hl (k := 2) rfl rfl (by decide) rfl (fun ls hl => ?_)
          refine lv_goto (tgt := 4) hx hb dX5_wornKeys_30 (by decide) ?_
          exact ih mostWear keys liveKeys wears y1 (y2 + 1) h _ _ hP hD hS ls (lv_sub hl [1, 2, 0] rfl)
        · have h := (if_pos c2).symm.trans h
          refine lv_iload_n hx hb dX5_wornKeys_20 rfl (lv_at hl 1 rfl) ?_
          refine lv_iload_n hx hb dX5_wornKeys_21 rfl (lv_at hl 2 rfl) ?_
          refine fr_ir (M := ([] : va_W)) (va_runSN (host := "HangingKeys") (As := [.int y2]) (rest := [.int y1]) ⟨hx, hb, hml, hown, hts⟩ (mX7_setOf l dC dI cyI cyO cyL y2 _ (fX7_setOf y2) rfl) ⟨va_cnB 1 hts (gW co_X7_setOf) rfl rfl rfl (hK.2 _ nl_X5_66) (hts _ (gb_mem in_X7)) (by decide +kernel) ⟨Nat.le_of_ble_eq_true rfl, Nat.le_of_ble_eq_true rfl⟩, hts _ (gb_mem st_X7_setOf), trivial⟩ (cP_S hK hP hD [] rfl rfl) rfl rfl hl.1 rfl (lv_room (Nat.le_of_ble_eq_true rfl)) dX5_wornKeys_22 ⟨Nat.zero_le _, Nat.zero_le _⟩) hP hD hS hA [] rfl (fun H locs hP hS => ?_)
          refine lv_ior hx hb dX5_wornKeys_25 ?_
          refine lv_istore_n (lv' := [(1, .int (y1 ||| (fX7_setOf y2))), (0, .ref t0), (2, .int y2)]) hx hb dX5_wornKeys_26 rfl hl (by decide) rfl (fun ls hl => ?_)
          refine lv_iinc (v := (y2 + 1)) (lv' := [(2, .int (y2 + 1)), (1, .int (y1 ||| (fX7_setOf y2))), (0, .ref t0)]) hx hb dX5_wornKeys_27 hl (k := 2) rfl rfl (by decide) rfl (fun ls hl => ?_)
          refine lv_goto (tgt := 4) hx hb dX5_wornKeys_30 (by decide) ?_
          exact ih mostWear keys liveKeys wears (y1 ||| (fX7_setOf y2)) (y2 + 1) h _ _ hP hD hS ls (lv_sub hl [2, 1, 0] rfl)
  have hl := lv_entry ([.ref t0]) (n := 3) (Nat.le_of_ble_eq_true rfl)
  rw [lg_entry_eq]
  generalize (lg_sl ([.ref t0]) ++ List.replicate (3 - (lg_sl ([.ref t0])).length) Slot.unset).toArray = ls at hl ⊢
  have hl : lv_has ls 3 [(0, .ref t0)] := hl
  unfold fX5_wornKeys at h
  refine lv_iconst (v := 0) hx hb dX5_wornKeys_0 (by decide) ?_
  refine lv_istore_n (lv' := [(1, .int 0), (0, .ref t0)]) hx hb dX5_wornKeys_1 rfl hl (by decide) rfl (fun ls hl => ?_)
  refine lv_iconst (v := 0) hx hb dX5_wornKeys_2 (by decide) ?_
  refine lv_istore_n (lv' := [(2, .int 0), (1, .int 0), (0, .ref t0)]) hx hb dX5_wornKeys_3 rfl hl (by decide) rfl (fun ls hl => ?_)
  exact kB4 6000 mostWear keys liveKeys wears 0 0 h _ _ hP hD hS ls (lv_sub hl [2, 1, 0] rfl)

noncomputable def fX5_addKey (keys : Int32) (liveKeys : Int32) (parents : Nat → Int32) (makes : Nat → Int32) (wears : Nat → Int32) (x1 : Int32) : Option (Int32 × Int32 × Int32 × (Nat → Int32) × (Nat → Int32) × (Nat → Int32)) :=
  (some (((keys + 1) - 1), (keys + 1), (liveKeys ||| (fX7_setOf keys)), (rSet 20 parents keys x1), (rSet 20 makes keys 0), (rSet 20 wears keys 0)))
set_option maxHeartbeats 1000000 in
set_option maxRecDepth 100000 in
theorem mX5_addKey (l : Launch) (dC : Nat → ClassId) (dI : Nat → Nat → Nat) (cyI cyO cyL : ClassId) (t0 t1 t2 t3 t4 t5 t6 t7 t8 : Nat) (mostWear : Int32) (keys : Int32) (boxes : Int32) (liveKeys : Int32) (liveBoxes : Int32) (parents : Nat → Int32) (makes : Nat → Int32) (wears : Nat → Int32) (keysOfBoxes : Nat → Int32) (x1 : Int32) (sz : Nat) (res : Int32 × Int32 × Int32 × (Nat → Int32) × (Nat → Int32) × (Nat → Int32)) (h : fX5_addKey keys liveKeys parents makes wears x1 = some res) : Met l yX5_addKey (wsG yX5_addKey cX5_addKey 2 (some .int)) ({ frames := 1, cells := 0, slots := 0, locals := 22 }) (cP dC dI cyI cyO cyL sz [.ref t0, .int x1] (treeW cyI t0 t1 t2 t3 t4 t5 t6 t7 t8 mostWear keys boxes liveKeys liveBoxes parents makes wears keysOfBoxes)) (cI dC dI res.1 (treeW cyI t0 t1 t2 t3 t4 t5 t6 t7 t8 mostWear res.2.1 boxes res.2.2.1 liveBoxes res.2.2.2.1 res.2.2.2.2.1 res.2.2.2.2.2 keysOfBoxes) (va_A (treeW cyI t0 t1 t2 t3 t4 t5 t6 t7 t8 mostWear keys boxes liveKeys liveBoxes parents makes wears keysOfBoxes) sz)) 0 0 (va_A (treeW cyI t0 t1 t2 t3 t4 t5 t6 t7 t8 mostWear keys boxes liveKeys liveBoxes parents makes wears keysOfBoxes) sz) := by
  refine Met.ofW (cc := cX5_addKey) (maxL := 2) (ret := (some .int)) (by decide) rfl ?_
  intro p e s m args below meth c s₁ B hml hv
  obtain ⟨rfl, hsz, hP, hK, hD0⟩ := hv
  have hx := B.exec
  have hb := B.bytes
  have hr := B.returns
  have hts := atoms_spec (ws := wsG yX5_addKey cX5_addKey 2 (some .int)) B.pre
  have hown : s.vm.findClass RX5 = some m.cls := findClass_of_methodNamed B.named
  have hlocks := B.notSynchronized
  subst hsz
  have hD := hD0.self (sz := s.heap.size)
  generalize hAe : va_A (treeW cyI t0 t1 t2 t3 t4 t5 t6 t7 t8 mostWear keys boxes liveKeys liveBoxes parents makes wears keysOfBoxes) s.heap.size = A at hD ⊢
  have hA : ∀ q : Nat, s.heap.size ≤ q → A q := fun q h => by rw [← hAe]; exact Or.inr h
  have hS : va_S A s.heap s.heap [] := va_S.rf
  have hl := lv_entry ([.ref t0, .int x1]) (n := 2) (Nat.le_of_ble_eq_true rfl)
  rw [lg_entry_eq]
  generalize (lg_sl ([.ref t0, .int x1]) ++ List.replicate (2 - (lg_sl ([.ref t0, .int x1])).length) Slot.unset).toArray = ls at hl ⊢
  have hl : lv_has ls 2 [(0, .ref t0), (1, .int x1)] := hl
  unfold fX5_addKey at h
  refine lv_aload_n hx hb dX5_addKey_0 rfl (lv_at hl 0 rfl) ?_
  refine va_get (D := (dC, dI)) (ci := 5) (v := .ref t1) (C := RX5) (T := TX5) (N := 9) hx hb hts (fun w h9 => gb_mem (lay_X5 w h9)) hown hK.1 hP 0 rfl rfl 5 (by decide) (hts _ (gb_mem fl_X5_32)) (fun _ h9 => h9) rfl dX5_addKey_1 ?_
  refine lv_aload_n hx hb dX5_addKey_4 rfl (lv_at hl 0 rfl) ?_
  refine va_get (D := (dC, dI)) (ci := 5) (v := .int keys) (C := RX5) (T := TX5) (N := 9) hx hb hts (fun w h9 => gb_mem (lay_X5 w h9)) hown hK.1 hP 0 rfl rfl 1 (by decide) (hts _ (gb_mem fl_X5_15)) (fun _ h9 => h9) rfl dX5_addKey_5 ?_
  refine lv_iload_n hx hb dX5_addKey_8 rfl (lv_at hl 1 rfl) ?_
  refine fr_v (M := (rowW cyI t1 t2 20 parents)) (M' := (rowW cyI t1 t2 20 (rSet 20 parents keys x1))) (L' := (treeW cyI t0 t1 t2 t3 t4 t5 t6 t7 t8 mostWear keys boxes liveKeys liveBoxes (rSet 20 parents keys x1) makes wears keysOfBoxes)) (va_runV (As := [.int keys, .int x1]) (rest := []) ⟨hx, hb, hml, hown, hts⟩ (tX4_set l dC dI cyI cyO cyL t1 t2 20 parents keys x1 _ (rSet 20 parents keys x1) rfl (by decide)) (cwV 2 hts (gV ml_X5_78 im_X4_set se_X4_set in_X4 co_X4_set) rfl rfl rfl (by decide +kernel) ⟨Nat.le_of_ble_eq_true rfl, Nat.le_of_ble_eq_true rfl⟩) (cP_V hK hP hD [1, 2] rfl rfl 1 rfl rfl) rfl rfl hl.1 rfl (lv_room (Nat.le_of_ble_eq_true rfl)) dX5_addKey_9 ⟨Nat.zero_le _, Nat.zero_le _⟩) hP hD hS hA [1, 2] rfl [(false, 0), (true, 0), (true, 1), (false, 3), (false, 4), (false, 5), (false, 6), (false, 7), (false, 8)] rfl rfl rfl (fun H locs hP hD hS => ?_)
  refine lv_aload_n hx hb dX5_addKey_12 rfl (lv_at hl 0 rfl) ?_
  refine va_get (D := (dC, dI)) (ci := 5) (v := .ref t3) (C := RX5) (T := TX5) (N := 9) hx hb hts (fun w h9 => gb_mem (lay_X5 w h9)) hown hK.1 hP 0 rfl rfl 6 (by decide) (hts _ (gb_mem fl_X5_36)) (fun _ h9 => h9) rfl dX5_addKey_13 ?_
  refine lv_aload_n hx hb dX5_addKey_16 rfl (lv_at hl 0 rfl) ?_
  refine va_get (D := (dC, dI)) (ci := 5) (v := .int keys) (C := RX5) (T := TX5) (N := 9) hx hb hts (fun w h9 => gb_mem (lay_X5 w h9)) hown hK.1 hP 0 rfl rfl 1 (by decide) (hts _ (gb_mem fl_X5_15)) (fun _ h9 => h9) rfl dX5_addKey_17 ?_
  refine lv_iconst (v := 0) hx hb dX5_addKey_20 (by decide) ?_
  refine fr_v (M := (rowW cyI t3 t4 20 makes)) (M' := (rowW cyI t3 t4 20 (rSet 20 makes keys 0))) (L' := (treeW cyI t0 t1 t2 t3 t4 t5 t6 t7 t8 mostWear keys boxes liveKeys liveBoxes (rSet 20 parents keys x1) (rSet 20 makes keys 0) wears keysOfBoxes)) (va_runV (As := [.int keys, .int 0]) (rest := []) ⟨hx, hb, hml, hown, hts⟩ (tX4_set l dC dI cyI cyO cyL t3 t4 20 makes keys 0 _ (rSet 20 makes keys 0) rfl (by decide)) (cwV 2 hts (gV ml_X5_78 im_X4_set se_X4_set in_X4 co_X4_set) rfl rfl rfl (by decide +kernel) ⟨Nat.le_of_ble_eq_true rfl, Nat.le_of_ble_eq_true rfl⟩) (cP_V hK hP hD [3, 4] rfl rfl 3 rfl rfl) rfl rfl hl.1 rfl (lv_room (Nat.le_of_ble_eq_true rfl)) dX5_addKey_21 ⟨Nat.zero_le _, Nat.zero_le _⟩) hP hD hS hA [3, 4] rfl [(false, 0), (false, 1), (false, 2), (true, 0), (true, 1), (false, 5), (false, 6), (false, 7), (false, 8)] rfl rfl rfl (fun H locs hP hD hS => ?_)
  refine lv_aload_n hx hb dX5_addKey_24 rfl (lv_at hl 0 rfl) ?_
  refine va_get (D := (dC, dI)) (ci := 5) (v := .ref t5) (C := RX5) (T := TX5) (N := 9) hx hb hts (fun w h9 => gb_mem (lay_X5 w h9)) hown hK.1 hP 0 rfl rfl 7 (by decide) (hts _ (gb_mem fl_X5_39)) (fun _ h9 => h9) rfl dX5_addKey_25 ?_
  refine lv_aload_n hx hb dX5_addKey_28 rfl (lv_at hl 0 rfl) ?_
  refine va_get (D := (dC, dI)) (ci := 5) (v := .int keys) (C := RX5) (T := TX5) (N := 9) hx hb hts (fun w h9 => gb_mem (lay_X5 w h9)) hown hK.1 hP 0 rfl rfl 1 (by decide) (hts _ (gb_mem fl_X5_15)) (fun _ h9 => h9) rfl dX5_addKey_29 ?_
  refine lv_iconst (v := 0) hx hb dX5_addKey_32 (by decide) ?_
  refine fr_v (M := (rowW cyI t5 t6 20 wears)) (M' := (rowW cyI t5 t6 20 (rSet 20 wears keys 0))) (L' := (treeW cyI t0 t1 t2 t3 t4 t5 t6 t7 t8 mostWear keys boxes liveKeys liveBoxes (rSet 20 parents keys x1) (rSet 20 makes keys 0) (rSet 20 wears keys 0) keysOfBoxes)) (va_runV (As := [.int keys, .int 0]) (rest := []) ⟨hx, hb, hml, hown, hts⟩ (tX4_set l dC dI cyI cyO cyL t5 t6 20 wears keys 0 _ (rSet 20 wears keys 0) rfl (by decide)) (cwV 2 hts (gV ml_X5_78 im_X4_set se_X4_set in_X4 co_X4_set) rfl rfl rfl (by decide +kernel) ⟨Nat.le_of_ble_eq_true rfl, Nat.le_of_ble_eq_true rfl⟩) (cP_V hK hP hD [5, 6] rfl rfl 5 rfl rfl) rfl rfl hl.1 rfl (lv_room (Nat.le_of_ble_eq_true rfl)) dX5_addKey_33 ⟨Nat.zero_le _, Nat.zero_le _⟩) hP hD hS hA [5, 6] rfl [(false, 0), (false, 1), (false, 2), (false, 3), (false, 4), (true, 0), (true, 1), (false, 7), (false, 8)] rfl rfl rfl (fun H locs hP hD hS => ?_)
  refine lv_aload_n hx hb dX5_addKey_36 rfl (lv_at hl 0 rfl) ?_
  refine lv_dup hx hb dX5_addKey_37 rfl ?_
  refine va_get (D := (dC, dI)) (ci := 5) (v := .int liveKeys) (C := RX5) (T := TX5) (N := 9) hx hb hts (fun w h9 => gb_mem (lay_X5 w h9)) hown hK.1 hP 0 rfl rfl 3 (by decide) (hts _ (gb_mem fl_X5_21)) (fun _ h9 => h9) rfl dX5_addKey_38 ?_
  refine lv_aload_n hx hb dX5_addKey_41 rfl (lv_at hl 0 rfl) ?_
  refine va_get (D := (dC, dI)) (ci := 5) (v := .int keys) (C := RX5) (T := TX5) (N := 9) hx hb hts (fun w h9 => gb_mem (lay_X5 w h9)) hown hK.1 hP 0 rfl rfl 1 (by decide) (hts _ (gb_mem fl_X5_15)) (fun _ h9 => h9) rfl dX5_addKey_42 ?_
  refine fr_ir (M := ([] : va_W)) (va_runSN (host := "HangingKeys") (As := [.int keys]) (rest := [.int liveKeys, .ref t0]) ⟨hx, hb, hml, hown, hts⟩ (mX7_setOf l dC dI cyI cyO cyL keys _ (fX7_setOf keys) rfl) ⟨va_cnB 1 hts (gW co_X7_setOf) rfl rfl rfl (hK.2 _ nl_X5_66) (hts _ (gb_mem in_X7)) (by decide +kernel) ⟨Nat.le_of_ble_eq_true rfl, Nat.le_of_ble_eq_true rfl⟩, hts _ (gb_mem st_X7_setOf), trivial⟩ (cP_S hK hP hD [] rfl rfl) rfl rfl hl.1 rfl (lv_room (Nat.le_of_ble_eq_true rfl)) dX5_addKey_45 ⟨Nat.zero_le _, Nat.zero_le _⟩) hP hD hS hA [] rfl (fun H locs hP hS => ?_)
  refine lv_ior hx hb dX5_addKey_48 ?_
  refine va_put (D := (dC, dI)) (ci := 5) (v := .int (liveKeys ||| (fX7_setOf keys))) (ty := .int) (C := RX5) (T := TX5) (N := 9) hx hb hts (fun w h9 => gb_mem (lay_X5 w h9)) tyX5 tyX5_ok nmX5 hown hK.1 hP hD hS 0 rfl rfl 3 (by decide) (hts _ (gb_mem fl_X5_21)) (fun _ h9 => h9) rfl (by decide +kernel) rfl rfl (Nat.le_of_ble_eq_true rfl) dX5_addKey_49 (fun H locs hP hD hS => ?_)
  have hP : va_P (dC, dI) vwCl (treeW cyI t0 t1 t2 t3 t4 t5 t6 t7 t8 mostWear keys boxes (liveKeys ||| (fX7_setOf keys)) liveBoxes (rSet 20 parents keys x1) (rSet 20 makes keys 0) (rSet 20 wears keys 0) keysOfBoxes) H := hP
  have hD : va_D A (treeW cyI t0 t1 t2 t3 t4 t5 t6 t7 t8 mostWear keys boxes (liveKeys ||| (fX7_setOf keys)) liveBoxes (rSet 20 parents keys x1) (rSet 20 makes keys 0) (rSet 20 wears keys 0) keysOfBoxes) := hD
  refine lv_aload_n hx hb dX5_addKey_52 rfl (lv_at hl 0 rfl) ?_
  refine lv_dup hx hb dX5_addKey_53 rfl ?_
  refine va_get (D := (dC, dI)) (ci := 5) (v := .int keys) (C := RX5) (T := TX5) (N := 9) hx hb hts (fun w h9 => gb_mem (lay_X5 w h9)) hown hK.1 hP 0 rfl rfl 1 (by decide) (hts _ (gb_mem fl_X5_15)) (fun _ h9 => h9) rfl dX5_addKey_54 ?_
  refine lv_iconst (v := 1) hx hb dX5_addKey_57 (by decide) ?_
  refine lv_iadd hx hb dX5_addKey_58 ?_
  refine va_put (D := (dC, dI)) (ci := 5) (v := .int (keys + 1)) (ty := .int) (C := RX5) (T := TX5) (N := 9) hx hb hts (fun w h9 => gb_mem (lay_X5 w h9)) tyX5 tyX5_ok nmX5 hown hK.1 hP hD hS 0 rfl rfl 1 (by decide) (hts _ (gb_mem fl_X5_15)) (fun _ h9 => h9) rfl (by decide +kernel) rfl rfl (Nat.le_of_ble_eq_true rfl) dX5_addKey_59 (fun H locs hP hD hS => ?_)
  have hP : va_P (dC, dI) vwCl (treeW cyI t0 t1 t2 t3 t4 t5 t6 t7 t8 mostWear (keys + 1) boxes (liveKeys ||| (fX7_setOf keys)) liveBoxes (rSet 20 parents keys x1) (rSet 20 makes keys 0) (rSet 20 wears keys 0) keysOfBoxes) H := hP
  have hD : va_D A (treeW cyI t0 t1 t2 t3 t4 t5 t6 t7 t8 mostWear (keys + 1) boxes (liveKeys ||| (fX7_setOf keys)) liveBoxes (rSet 20 parents keys x1) (rSet 20 makes keys 0) (rSet 20 wears keys 0) keysOfBoxes) := hD
  refine lv_aload_n hx hb dX5_addKey_62 rfl (lv_at hl 0 rfl) ?_
  refine va_get (D := (dC, dI)) (ci := 5) (v := .int (keys + 1)) (C := RX5) (T := TX5) (N := 9) hx hb hts (fun w h9 => gb_mem (lay_X5 w h9)) hown hK.1 hP 0 rfl rfl 1 (by decide) (hts _ (gb_mem fl_X5_15)) (fun _ h9 => h9) rfl dX5_addKey_63 ?_
  refine lv_iconst (v := 1) hx hb dX5_addKey_66 (by decide) ?_
  refine lv_isub hx hb dX5_addKey_67 ?_
  obtain rfl := Option.some.inj h
  exact e_i hx hb hr hlocks hP hS dX5_addKey_68

noncomputable def fX5_addBox (boxes : Int32) (liveBoxes : Int32) (keysOfBoxes : Nat → Int32) (x1 : Int32) : Option (Int32 × Int32 × Int32 × (Nat → Int32)) :=
  (some (((boxes + 1) - 1), (boxes + 1), (liveBoxes ||| (fX7_setOf boxes)), (rSet 20 keysOfBoxes boxes x1)))
set_option maxHeartbeats 1000000 in
set_option maxRecDepth 100000 in
theorem mX5_addBox (l : Launch) (dC : Nat → ClassId) (dI : Nat → Nat → Nat) (cyI cyO cyL : ClassId) (t0 t1 t2 t3 t4 t5 t6 t7 t8 : Nat) (mostWear : Int32) (keys : Int32) (boxes : Int32) (liveKeys : Int32) (liveBoxes : Int32) (parents : Nat → Int32) (makes : Nat → Int32) (wears : Nat → Int32) (keysOfBoxes : Nat → Int32) (x1 : Int32) (sz : Nat) (res : Int32 × Int32 × Int32 × (Nat → Int32)) (h : fX5_addBox boxes liveBoxes keysOfBoxes x1 = some res) : Met l yX5_addBox (wsG yX5_addBox cX5_addBox 2 (some .int)) ({ frames := 1, cells := 0, slots := 0, locals := 22 }) (cP dC dI cyI cyO cyL sz [.ref t0, .int x1] (treeW cyI t0 t1 t2 t3 t4 t5 t6 t7 t8 mostWear keys boxes liveKeys liveBoxes parents makes wears keysOfBoxes)) (cI dC dI res.1 (treeW cyI t0 t1 t2 t3 t4 t5 t6 t7 t8 mostWear keys res.2.1 liveKeys res.2.2.1 parents makes wears res.2.2.2) (va_A (treeW cyI t0 t1 t2 t3 t4 t5 t6 t7 t8 mostWear keys boxes liveKeys liveBoxes parents makes wears keysOfBoxes) sz)) 0 0 (va_A (treeW cyI t0 t1 t2 t3 t4 t5 t6 t7 t8 mostWear keys boxes liveKeys liveBoxes parents makes wears keysOfBoxes) sz) := by
  refine Met.ofW (cc := cX5_addBox) (maxL := 2) (ret := (some .int)) (by decide) rfl ?_
  intro p e s m args below meth c s₁ B hml hv
  obtain ⟨rfl, hsz, hP, hK, hD0⟩ := hv
  have hx := B.exec
  have hb := B.bytes
  have hr := B.returns
  have hts := atoms_spec (ws := wsG yX5_addBox cX5_addBox 2 (some .int)) B.pre
  have hown : s.vm.findClass RX5 = some m.cls := findClass_of_methodNamed B.named
  have hlocks := B.notSynchronized
  subst hsz
  have hD := hD0.self (sz := s.heap.size)
  generalize hAe : va_A (treeW cyI t0 t1 t2 t3 t4 t5 t6 t7 t8 mostWear keys boxes liveKeys liveBoxes parents makes wears keysOfBoxes) s.heap.size = A at hD ⊢
  have hA : ∀ q : Nat, s.heap.size ≤ q → A q := fun q h => by rw [← hAe]; exact Or.inr h
  have hS : va_S A s.heap s.heap [] := va_S.rf
  have hl := lv_entry ([.ref t0, .int x1]) (n := 2) (Nat.le_of_ble_eq_true rfl)
  rw [lg_entry_eq]
  generalize (lg_sl ([.ref t0, .int x1]) ++ List.replicate (2 - (lg_sl ([.ref t0, .int x1])).length) Slot.unset).toArray = ls at hl ⊢
  have hl : lv_has ls 2 [(0, .ref t0), (1, .int x1)] := hl
  unfold fX5_addBox at h
  refine lv_aload_n hx hb dX5_addBox_0 rfl (lv_at hl 0 rfl) ?_
  refine va_get (D := (dC, dI)) (ci := 5) (v := .ref t7) (C := RX5) (T := TX5) (N := 9) hx hb hts (fun w h9 => gb_mem (lay_X5 w h9)) hown hK.1 hP 0 rfl rfl 8 (by decide) (hts _ (gb_mem fl_X5_42)) (fun _ h9 => h9) rfl dX5_addBox_1 ?_
  refine lv_aload_n hx hb dX5_addBox_4 rfl (lv_at hl 0 rfl) ?_
  refine va_get (D := (dC, dI)) (ci := 5) (v := .int boxes) (C := RX5) (T := TX5) (N := 9) hx hb hts (fun w h9 => gb_mem (lay_X5 w h9)) hown hK.1 hP 0 rfl rfl 2 (by decide) (hts _ (gb_mem fl_X5_18)) (fun _ h9 => h9) rfl dX5_addBox_5 ?_
  refine lv_iload_n hx hb dX5_addBox_8 rfl (lv_at hl 1 rfl) ?_
  refine fr_v (M := (rowW cyI t7 t8 20 keysOfBoxes)) (M' := (rowW cyI t7 t8 20 (rSet 20 keysOfBoxes boxes x1))) (L' := (treeW cyI t0 t1 t2 t3 t4 t5 t6 t7 t8 mostWear keys boxes liveKeys liveBoxes parents makes wears (rSet 20 keysOfBoxes boxes x1))) (va_runV (As := [.int boxes, .int x1]) (rest := []) ⟨hx, hb, hml, hown, hts⟩ (tX4_set l dC dI cyI cyO cyL t7 t8 20 keysOfBoxes boxes x1 _ (rSet 20 keysOfBoxes boxes x1) rfl (by decide)) (cwV 2 hts (gV ml_X5_78 im_X4_set se_X4_set in_X4 co_X4_set) rfl rfl rfl (by decide +kernel) ⟨Nat.le_of_ble_eq_true rfl, Nat.le_of_ble_eq_true rfl⟩) (cP_V hK hP hD [7, 8] rfl rfl 7 rfl rfl) rfl rfl hl.1 rfl (lv_room (Nat.le_of_ble_eq_true rfl)) dX5_addBox_9 ⟨Nat.zero_le _, Nat.zero_le _⟩) hP hD hS hA [7, 8] rfl [(false, 0), (false, 1), (false, 2), (false, 3), (false, 4), (false, 5), (false, 6), (true, 0), (true, 1)] rfl rfl rfl (fun H locs hP hD hS => ?_)
  refine lv_aload_n hx hb dX5_addBox_12 rfl (lv_at hl 0 rfl) ?_
  refine lv_dup hx hb dX5_addBox_13 rfl ?_
  refine va_get (D := (dC, dI)) (ci := 5) (v := .int liveBoxes) (C := RX5) (T := TX5) (N := 9) hx hb hts (fun w h9 => gb_mem (lay_X5 w h9)) hown hK.1 hP 0 rfl rfl 4 (by decide) (hts _ (gb_mem fl_X5_24)) (fun _ h9 => h9) rfl dX5_addBox_14 ?_
  refine lv_aload_n hx hb dX5_addBox_17 rfl (lv_at hl 0 rfl) ?_
  refine va_get (D := (dC, dI)) (ci := 5) (v := .int boxes) (C := RX5) (T := TX5) (N := 9) hx hb hts (fun w h9 => gb_mem (lay_X5 w h9)) hown hK.1 hP 0 rfl rfl 2 (by decide) (hts _ (gb_mem fl_X5_18)) (fun _ h9 => h9) rfl dX5_addBox_18 ?_
  refine fr_ir (M := ([] : va_W)) (va_runSN (host := "HangingKeys") (As := [.int boxes]) (rest := [.int liveBoxes, .ref t0]) ⟨hx, hb, hml, hown, hts⟩ (mX7_setOf l dC dI cyI cyO cyL boxes _ (fX7_setOf boxes) rfl) ⟨va_cnB 1 hts (gW co_X7_setOf) rfl rfl rfl (hK.2 _ nl_X5_66) (hts _ (gb_mem in_X7)) (by decide +kernel) ⟨Nat.le_of_ble_eq_true rfl, Nat.le_of_ble_eq_true rfl⟩, hts _ (gb_mem st_X7_setOf), trivial⟩ (cP_S hK hP hD [] rfl rfl) rfl rfl hl.1 rfl (lv_room (Nat.le_of_ble_eq_true rfl)) dX5_addBox_21 ⟨Nat.zero_le _, Nat.zero_le _⟩) hP hD hS hA [] rfl (fun H locs hP hS => ?_)
  refine lv_ior hx hb dX5_addBox_24 ?_
  refine va_put (D := (dC, dI)) (ci := 5) (v := .int (liveBoxes ||| (fX7_setOf boxes))) (ty := .int) (C := RX5) (T := TX5) (N := 9) hx hb hts (fun w h9 => gb_mem (lay_X5 w h9)) tyX5 tyX5_ok nmX5 hown hK.1 hP hD hS 0 rfl rfl 4 (by decide) (hts _ (gb_mem fl_X5_24)) (fun _ h9 => h9) rfl (by decide +kernel) rfl rfl (Nat.le_of_ble_eq_true rfl) dX5_addBox_25 (fun H locs hP hD hS => ?_)
  have hP : va_P (dC, dI) vwCl (treeW cyI t0 t1 t2 t3 t4 t5 t6 t7 t8 mostWear keys boxes liveKeys (liveBoxes ||| (fX7_setOf boxes)) parents makes wears (rSet 20 keysOfBoxes boxes x1)) H := hP
  have hD : va_D A (treeW cyI t0 t1 t2 t3 t4 t5 t6 t7 t8 mostWear keys boxes liveKeys (liveBoxes ||| (fX7_setOf boxes)) parents makes wears (rSet 20 keysOfBoxes boxes x1)) := hD
  refine lv_aload_n hx hb dX5_addBox_28 rfl (lv_at hl 0 rfl) ?_
  refine lv_dup hx hb dX5_addBox_29 rfl ?_
  refine va_get (D := (dC, dI)) (ci := 5) (v := .int boxes) (C := RX5) (T := TX5) (N := 9) hx hb hts (fun w h9 => gb_mem (lay_X5 w h9)) hown hK.1 hP 0 rfl rfl 2 (by decide) (hts _ (gb_mem fl_X5_18)) (fun _ h9 => h9) rfl dX5_addBox_30 ?_
  refine lv_iconst (v := 1) hx hb dX5_addBox_33 (by decide) ?_
  refine lv_iadd hx hb dX5_addBox_34 ?_
  refine va_put (D := (dC, dI)) (ci := 5) (v := .int (boxes + 1)) (ty := .int) (C := RX5) (T := TX5) (N := 9) hx hb hts (fun w h9 => gb_mem (lay_X5 w h9)) tyX5 tyX5_ok nmX5 hown hK.1 hP hD hS 0 rfl rfl 2 (by decide) (hts _ (gb_mem fl_X5_18)) (fun _ h9 => h9) rfl (by decide +kernel) rfl rfl (Nat.le_of_ble_eq_true rfl) dX5_addBox_35 (fun H locs hP hD hS => ?_)
  have hP : va_P (dC, dI) vwCl (treeW cyI t0 t1 t2 t3 t4 t5 t6 t7 t8 mostWear keys (boxes + 1) liveKeys (liveBoxes ||| (fX7_setOf boxes)) parents makes wears (rSet 20 keysOfBoxes boxes x1)) H := hP
  have hD : va_D A (treeW cyI t0 t1 t2 t3 t4 t5 t6 t7 t8 mostWear keys (boxes + 1) liveKeys (liveBoxes ||| (fX7_setOf boxes)) parents makes wears (rSet 20 keysOfBoxes boxes x1)) := hD
  refine lv_aload_n hx hb dX5_addBox_38 rfl (lv_at hl 0 rfl) ?_
  refine va_get (D := (dC, dI)) (ci := 5) (v := .int (boxes + 1)) (C := RX5) (T := TX5) (N := 9) hx hb hts (fun w h9 => gb_mem (lay_X5 w h9)) hown hK.1 hP 0 rfl rfl 2 (by decide) (hts _ (gb_mem fl_X5_18)) (fun _ h9 => h9) rfl dX5_addBox_39 ?_
  refine lv_iconst (v := 1) hx hb dX5_addBox_42 (by decide) ?_
  refine lv_isub hx hb dX5_addBox_43 ?_
  obtain rfl := Option.some.inj h
  exact e_i hx hb hr hlocks hP hS dX5_addBox_44

noncomputable def fX5_startNextMake (makes : Nat → Int32) (wears : Nat → Int32) (x1 : Int32) : Option ((Nat → Int32) × (Nat → Int32)) :=
  (some ((rAdd 20 makes x1 1), (rSet 20 wears x1 0)))
set_option maxHeartbeats 1000000 in
set_option maxRecDepth 100000 in
theorem mX5_startNextMake (l : Launch) (dC : Nat → ClassId) (dI : Nat → Nat → Nat) (cyI cyO cyL : ClassId) (t0 t1 t2 t3 t4 t5 t6 t7 t8 : Nat) (mostWear : Int32) (keys : Int32) (boxes : Int32) (liveKeys : Int32) (liveBoxes : Int32) (parents : Nat → Int32) (makes : Nat → Int32) (wears : Nat → Int32) (keysOfBoxes : Nat → Int32) (x1 : Int32) (sz : Nat) (res : (Nat → Int32) × (Nat → Int32)) (h : fX5_startNextMake makes wears x1 = some res) : Met l yX5_startNextMake (wsG yX5_startNextMake cX5_startNextMake 2 none) ({ frames := 1, cells := 0, slots := 0, locals := 22 }) (cP dC dI cyI cyO cyL sz [.ref t0, .int x1] (treeW cyI t0 t1 t2 t3 t4 t5 t6 t7 t8 mostWear keys boxes liveKeys liveBoxes parents makes wears keysOfBoxes)) (cV dC dI (treeW cyI t0 t1 t2 t3 t4 t5 t6 t7 t8 mostWear keys boxes liveKeys liveBoxes parents res.1 res.2 keysOfBoxes) (va_A (treeW cyI t0 t1 t2 t3 t4 t5 t6 t7 t8 mostWear keys boxes liveKeys liveBoxes parents makes wears keysOfBoxes) sz)) 0 0 (va_A (treeW cyI t0 t1 t2 t3 t4 t5 t6 t7 t8 mostWear keys boxes liveKeys liveBoxes parents makes wears keysOfBoxes) sz) := by
  refine Met.ofW (cc := cX5_startNextMake) (maxL := 2) (ret := none) (by decide) rfl ?_
  intro p e s m args below meth c s₁ B hml hv
  obtain ⟨rfl, hsz, hP, hK, hD0⟩ := hv
  have hx := B.exec
  have hb := B.bytes
  have hr := B.returns
  have hts := atoms_spec (ws := wsG yX5_startNextMake cX5_startNextMake 2 none) B.pre
  have hown : s.vm.findClass RX5 = some m.cls := findClass_of_methodNamed B.named
  have hlocks := B.notSynchronized
  subst hsz
  have hD := hD0.self (sz := s.heap.size)
  generalize hAe : va_A (treeW cyI t0 t1 t2 t3 t4 t5 t6 t7 t8 mostWear keys boxes liveKeys liveBoxes parents makes wears keysOfBoxes) s.heap.size = A at hD ⊢
  have hA : ∀ q : Nat, s.heap.size ≤ q → A q := fun q h => by rw [← hAe]; exact Or.inr h
  have hS : va_S A s.heap s.heap [] := va_S.rf
  have hl := lv_entry ([.ref t0, .int x1]) (n := 2) (Nat.le_of_ble_eq_true rfl)
  rw [lg_entry_eq]
  generalize (lg_sl ([.ref t0, .int x1]) ++ List.replicate (2 - (lg_sl ([.ref t0, .int x1])).length) Slot.unset).toArray = ls at hl ⊢
  have hl : lv_has ls 2 [(0, .ref t0), (1, .int x1)] := hl
  unfold fX5_startNextMake at h
  refine lv_aload_n hx hb dX5_startNextMake_0 rfl (lv_at hl 0 rfl) ?_
  refine va_get (D := (dC, dI)) (ci := 5) (v := .ref t3) (C := RX5) (T := TX5) (N := 9) hx hb hts (fun w h9 => gb_mem (lay_X5 w h9)) hown hK.1 hP 0 rfl rfl 6 (by decide) (hts _ (gb_mem fl_X5_36)) (fun _ h9 => h9) rfl dX5_startNextMake_1 ?_
  refine lv_iload_n hx hb dX5_startNextMake_4 rfl (lv_at hl 1 rfl) ?_
  refine lv_iconst (v := 1) hx hb dX5_startNextMake_5 (by decide) ?_
  refine fr_v (M := (rowW cyI t3 t4 20 makes)) (M' := (rowW cyI t3 t4 20 (rAdd 20 makes x1 1))) (L' := (treeW cyI t0 t1 t2 t3 t4 t5 t6 t7 t8 mostWear keys boxes liveKeys liveBoxes parents (rAdd 20 makes x1 1) wears keysOfBoxes)) (va_runV (As := [.int x1, .int 1]) (rest := []) ⟨hx, hb, hml, hown, hts⟩ (tX4_add l dC dI cyI cyO cyL t3 t4 20 makes x1 1 _ (rAdd 20 makes x1 1) rfl (by decide)) (cwV 2 hts (gV ml_X5_82 im_X4_add se_X4_add in_X4 co_X4_add) rfl rfl rfl (by decide +kernel) ⟨Nat.le_of_ble_eq_true rfl, Nat.le_of_ble_eq_true rfl⟩) (cP_V hK hP hD [3, 4] rfl rfl 3 rfl rfl) rfl rfl hl.1 rfl (lv_room (Nat.le_of_ble_eq_true rfl)) dX5_startNextMake_6 ⟨Nat.zero_le _, Nat.zero_le _⟩) hP hD hS hA [3, 4] rfl [(false, 0), (false, 1), (false, 2), (true, 0), (true, 1), (false, 5), (false, 6), (false, 7), (false, 8)] rfl rfl rfl (fun H locs hP hD hS => ?_)
  refine lv_aload_n hx hb dX5_startNextMake_9 rfl (lv_at hl 0 rfl) ?_
  refine va_get (D := (dC, dI)) (ci := 5) (v := .ref t5) (C := RX5) (T := TX5) (N := 9) hx hb hts (fun w h9 => gb_mem (lay_X5 w h9)) hown hK.1 hP 0 rfl rfl 7 (by decide) (hts _ (gb_mem fl_X5_39)) (fun _ h9 => h9) rfl dX5_startNextMake_10 ?_
  refine lv_iload_n hx hb dX5_startNextMake_13 rfl (lv_at hl 1 rfl) ?_
  refine lv_iconst (v := 0) hx hb dX5_startNextMake_14 (by decide) ?_
  refine fr_v (M := (rowW cyI t5 t6 20 wears)) (M' := (rowW cyI t5 t6 20 (rSet 20 wears x1 0))) (L' := (treeW cyI t0 t1 t2 t3 t4 t5 t6 t7 t8 mostWear keys boxes liveKeys liveBoxes parents (rAdd 20 makes x1 1) (rSet 20 wears x1 0) keysOfBoxes)) (va_runV (As := [.int x1, .int 0]) (rest := []) ⟨hx, hb, hml, hown, hts⟩ (tX4_set l dC dI cyI cyO cyL t5 t6 20 wears x1 0 _ (rSet 20 wears x1 0) rfl (by decide)) (cwV 2 hts (gV ml_X5_78 im_X4_set se_X4_set in_X4 co_X4_set) rfl rfl rfl (by decide +kernel) ⟨Nat.le_of_ble_eq_true rfl, Nat.le_of_ble_eq_true rfl⟩) (cP_V hK hP hD [5, 6] rfl rfl 5 rfl rfl) rfl rfl hl.1 rfl (lv_room (Nat.le_of_ble_eq_true rfl)) dX5_startNextMake_15 ⟨Nat.zero_le _, Nat.zero_le _⟩) hP hD hS hA [5, 6] rfl [(false, 0), (false, 1), (false, 2), (false, 3), (false, 4), (true, 0), (true, 1), (false, 7), (false, 8)] rfl rfl rfl (fun H locs hP hD hS => ?_)
  obtain rfl := Option.some.inj h
  exact e_v hx hb hr hlocks hP hS dX5_startNextMake_18

noncomputable def fX5_wearDown (wears : Nat → Int32) (x1 : Int32) : (Nat → Int32) :=
  ((rAdd 20 wears x1 1))
set_option maxHeartbeats 1000000 in
set_option maxRecDepth 100000 in
theorem mX5_wearDown (l : Launch) (dC : Nat → ClassId) (dI : Nat → Nat → Nat) (cyI cyO cyL : ClassId) (t0 t1 t2 t3 t4 t5 t6 t7 t8 : Nat) (mostWear : Int32) (keys : Int32) (boxes : Int32) (liveKeys : Int32) (liveBoxes : Int32) (parents : Nat → Int32) (makes : Nat → Int32) (wears : Nat → Int32) (keysOfBoxes : Nat → Int32) (x1 : Int32) (sz : Nat) (res : (Nat → Int32)) (h : fX5_wearDown wears x1 = res) : Met l yX5_wearDown (wsG yX5_wearDown cX5_wearDown 2 none) ({ frames := 1, cells := 0, slots := 0, locals := 22 }) (cP dC dI cyI cyO cyL sz [.ref t0, .int x1] (treeW cyI t0 t1 t2 t3 t4 t5 t6 t7 t8 mostWear keys boxes liveKeys liveBoxes parents makes wears keysOfBoxes)) (cV dC dI (treeW cyI t0 t1 t2 t3 t4 t5 t6 t7 t8 mostWear keys boxes liveKeys liveBoxes parents makes res keysOfBoxes) (va_A (treeW cyI t0 t1 t2 t3 t4 t5 t6 t7 t8 mostWear keys boxes liveKeys liveBoxes parents makes wears keysOfBoxes) sz)) 0 0 (va_A (treeW cyI t0 t1 t2 t3 t4 t5 t6 t7 t8 mostWear keys boxes liveKeys liveBoxes parents makes wears keysOfBoxes) sz) := by
  refine Met.ofW (cc := cX5_wearDown) (maxL := 2) (ret := none) (by decide) rfl ?_
  intro p e s m args below meth c s₁ B hml hv
  obtain ⟨rfl, hsz, hP, hK, hD0⟩ := hv
  have hx := B.exec
  have hb := B.bytes
  have hr := B.returns
  have hts := atoms_spec (ws := wsG yX5_wearDown cX5_wearDown 2 none) B.pre
  have hown : s.vm.findClass RX5 = some m.cls := findClass_of_methodNamed B.named
  have hlocks := B.notSynchronized
  subst hsz
  have hD := hD0.self (sz := s.heap.size)
  generalize hAe : va_A (treeW cyI t0 t1 t2 t3 t4 t5 t6 t7 t8 mostWear keys boxes liveKeys liveBoxes parents makes wears keysOfBoxes) s.heap.size = A at hD ⊢
  have hA : ∀ q : Nat, s.heap.size ≤ q → A q := fun q h => by rw [← hAe]; exact Or.inr h
  have hS : va_S A s.heap s.heap [] := va_S.rf
  have hl := lv_entry ([.ref t0, .int x1]) (n := 2) (Nat.le_of_ble_eq_true rfl)
  rw [lg_entry_eq]
  generalize (lg_sl ([.ref t0, .int x1]) ++ List.replicate (2 - (lg_sl ([.ref t0, .int x1])).length) Slot.unset).toArray = ls at hl ⊢
  have hl : lv_has ls 2 [(0, .ref t0), (1, .int x1)] := hl
  unfold fX5_wearDown at h
  refine lv_aload_n hx hb dX5_wearDown_0 rfl (lv_at hl 0 rfl) ?_
  refine va_get (D := (dC, dI)) (ci := 5) (v := .ref t5) (C := RX5) (T := TX5) (N := 9) hx hb hts (fun w h9 => gb_mem (lay_X5 w h9)) hown hK.1 hP 0 rfl rfl 7 (by decide) (hts _ (gb_mem fl_X5_39)) (fun _ h9 => h9) rfl dX5_wearDown_1 ?_
  refine lv_iload_n hx hb dX5_wearDown_4 rfl (lv_at hl 1 rfl) ?_
  refine lv_iconst (v := 1) hx hb dX5_wearDown_5 (by decide) ?_
  refine fr_v (M := (rowW cyI t5 t6 20 wears)) (M' := (rowW cyI t5 t6 20 (rAdd 20 wears x1 1))) (L' := (treeW cyI t0 t1 t2 t3 t4 t5 t6 t7 t8 mostWear keys boxes liveKeys liveBoxes parents makes (rAdd 20 wears x1 1) keysOfBoxes)) (va_runV (As := [.int x1, .int 1]) (rest := []) ⟨hx, hb, hml, hown, hts⟩ (tX4_add l dC dI cyI cyO cyL t5 t6 20 wears x1 1 _ (rAdd 20 wears x1 1) rfl (by decide)) (cwV 2 hts (gV ml_X5_82 im_X4_add se_X4_add in_X4 co_X4_add) rfl rfl rfl (by decide +kernel) ⟨Nat.le_of_ble_eq_true rfl, Nat.le_of_ble_eq_true rfl⟩) (cP_V hK hP hD [5, 6] rfl rfl 5 rfl rfl) rfl rfl hl.1 rfl (lv_room (Nat.le_of_ble_eq_true rfl)) dX5_wearDown_6 ⟨Nat.zero_le _, Nat.zero_le _⟩) hP hD hS hA [5, 6] rfl [(false, 0), (false, 1), (false, 2), (false, 3), (false, 4), (true, 0), (true, 1), (false, 7), (false, 8)] rfl rfl rfl (fun H locs hP hD hS => ?_)
  obtain rfl := h
  exact e_v hx hb hr hlocks hP hS dX5_wearDown_9

noncomputable def fX5_endLife (liveKeys : Int32) (liveBoxes : Int32) (x1 : Int32) (x2 : Int32) : Option (Int32 × Int32) :=
  (some ((liveKeys &&& (x1 ^^^ (-1))), (liveBoxes &&& (x2 ^^^ (-1)))))
set_option maxHeartbeats 1000000 in
set_option maxRecDepth 100000 in
theorem mX5_endLife (l : Launch) (dC : Nat → ClassId) (dI : Nat → Nat → Nat) (cyI cyO cyL : ClassId) (t0 t1 t2 t3 t4 t5 t6 t7 t8 : Nat) (mostWear : Int32) (keys : Int32) (boxes : Int32) (liveKeys : Int32) (liveBoxes : Int32) (parents : Nat → Int32) (makes : Nat → Int32) (wears : Nat → Int32) (keysOfBoxes : Nat → Int32) (x1 : Int32) (x2 : Int32) (sz : Nat) (res : Int32 × Int32) (h : fX5_endLife liveKeys liveBoxes x1 x2 = some res) : Met l yX5_endLife (wsG yX5_endLife cX5_endLife 3 none) ({ frames := 0, cells := 0, slots := 0, locals := 0 }) (cP dC dI cyI cyO cyL sz [.ref t0, .int x1, .int x2] (treeW cyI t0 t1 t2 t3 t4 t5 t6 t7 t8 mostWear keys boxes liveKeys liveBoxes parents makes wears keysOfBoxes)) (cV dC dI (treeW cyI t0 t1 t2 t3 t4 t5 t6 t7 t8 mostWear keys boxes res.1 res.2 parents makes wears keysOfBoxes) (va_A (treeW cyI t0 t1 t2 t3 t4 t5 t6 t7 t8 mostWear keys boxes liveKeys liveBoxes parents makes wears keysOfBoxes) sz)) 0 0 (va_A (treeW cyI t0 t1 t2 t3 t4 t5 t6 t7 t8 mostWear keys boxes liveKeys liveBoxes parents makes wears keysOfBoxes) sz) := by
  refine Met.ofW (cc := cX5_endLife) (maxL := 3) (ret := none) (by decide) rfl ?_
  intro p e s m args below meth c s₁ B hml hv
  obtain ⟨rfl, hsz, hP, hK, hD0⟩ := hv
  have hx := B.exec
  have hb := B.bytes
  have hr := B.returns
  have hts := atoms_spec (ws := wsG yX5_endLife cX5_endLife 3 none) B.pre
  have hown : s.vm.findClass RX5 = some m.cls := findClass_of_methodNamed B.named
  have hlocks := B.notSynchronized
  subst hsz
  have hD := hD0.self (sz := s.heap.size)
  generalize hAe : va_A (treeW cyI t0 t1 t2 t3 t4 t5 t6 t7 t8 mostWear keys boxes liveKeys liveBoxes parents makes wears keysOfBoxes) s.heap.size = A at hD ⊢
  have hA : ∀ q : Nat, s.heap.size ≤ q → A q := fun q h => by rw [← hAe]; exact Or.inr h
  have hS : va_S A s.heap s.heap [] := va_S.rf
  have hl := lv_entry ([.ref t0, .int x1, .int x2]) (n := 3) (Nat.le_of_ble_eq_true rfl)
  rw [lg_entry_eq]
  generalize (lg_sl ([.ref t0, .int x1, .int x2]) ++ List.replicate (3 - (lg_sl ([.ref t0, .int x1, .int x2])).length) Slot.unset).toArray = ls at hl ⊢
  have hl : lv_has ls 3 [(0, .ref t0), (1, .int x1), (2, .int x2)] := hl
  unfold fX5_endLife at h
  refine lv_aload_n hx hb dX5_endLife_0 rfl (lv_at hl 0 rfl) ?_
  refine lv_dup hx hb dX5_endLife_1 rfl ?_
  refine va_get (D := (dC, dI)) (ci := 5) (v := .int liveKeys) (C := RX5) (T := TX5) (N := 9) hx hb hts (fun w h9 => gb_mem (lay_X5 w h9)) hown hK.1 hP 0 rfl rfl 3 (by decide) (hts _ (gb_mem fl_X5_21)) (fun _ h9 => h9) rfl dX5_endLife_2 ?_
  refine lv_iload_n hx hb dX5_endLife_5 rfl (lv_at hl 1 rfl) ?_
  refine lv_iconst (v := (-1)) hx hb dX5_endLife_6 (by decide) ?_
  refine lv_ixor hx hb dX5_endLife_7 ?_
  refine lv_iand hx hb dX5_endLife_8 ?_
  refine va_put (D := (dC, dI)) (ci := 5) (v := .int (liveKeys &&& (x1 ^^^ (-1)))) (ty := .int) (C := RX5) (T := TX5) (N := 9) hx hb hts (fun w h9 => gb_mem (lay_X5 w h9)) tyX5 tyX5_ok nmX5 hown hK.1 hP hD hS 0 rfl rfl 3 (by decide) (hts _ (gb_mem fl_X5_21)) (fun _ h9 => h9) rfl (by decide +kernel) rfl rfl (Nat.le_of_ble_eq_true rfl) dX5_endLife_9 (fun H locs hP hD hS => ?_)
  have hP : va_P (dC, dI) vwCl (treeW cyI t0 t1 t2 t3 t4 t5 t6 t7 t8 mostWear keys boxes (liveKeys &&& (x1 ^^^ (-1))) liveBoxes parents makes wears keysOfBoxes) H := hP
  have hD : va_D A (treeW cyI t0 t1 t2 t3 t4 t5 t6 t7 t8 mostWear keys boxes (liveKeys &&& (x1 ^^^ (-1))) liveBoxes parents makes wears keysOfBoxes) := hD
  refine lv_aload_n hx hb dX5_endLife_12 rfl (lv_at hl 0 rfl) ?_
  refine lv_dup hx hb dX5_endLife_13 rfl ?_
  refine va_get (D := (dC, dI)) (ci := 5) (v := .int liveBoxes) (C := RX5) (T := TX5) (N := 9) hx hb hts (fun w h9 => gb_mem (lay_X5 w h9)) hown hK.1 hP 0 rfl rfl 4 (by decide) (hts _ (gb_mem fl_X5_24)) (fun _ h9 => h9) rfl dX5_endLife_14 ?_
  refine lv_iload_n hx hb dX5_endLife_17 rfl (lv_at hl 2 rfl) ?_
  refine lv_iconst (v := (-1)) hx hb dX5_endLife_18 (by decide) ?_
  refine lv_ixor hx hb dX5_endLife_19 ?_
  refine lv_iand hx hb dX5_endLife_20 ?_
  refine va_put (D := (dC, dI)) (ci := 5) (v := .int (liveBoxes &&& (x2 ^^^ (-1)))) (ty := .int) (C := RX5) (T := TX5) (N := 9) hx hb hts (fun w h9 => gb_mem (lay_X5 w h9)) tyX5 tyX5_ok nmX5 hown hK.1 hP hD hS 0 rfl rfl 4 (by decide) (hts _ (gb_mem fl_X5_24)) (fun _ h9 => h9) rfl (by decide +kernel) rfl rfl (Nat.le_of_ble_eq_true rfl) dX5_endLife_21 (fun H locs hP hD hS => ?_)
  have hP : va_P (dC, dI) vwCl (treeW cyI t0 t1 t2 t3 t4 t5 t6 t7 t8 mostWear keys boxes (liveKeys &&& (x1 ^^^ (-1))) (liveBoxes &&& (x2 ^^^ (-1))) parents makes wears keysOfBoxes) H := hP
  have hD : va_D A (treeW cyI t0 t1 t2 t3 t4 t5 t6 t7 t8 mostWear keys boxes (liveKeys &&& (x1 ^^^ (-1))) (liveBoxes &&& (x2 ^^^ (-1))) parents makes wears keysOfBoxes) := hD
  obtain rfl := Option.some.inj h
  exact e_v hx hb hr hlocks hP hS dX5_endLife_24

noncomputable def fX5_become (mostWear : Int32) (keys : Int32) (boxes : Int32) (liveKeys : Int32) (liveBoxes : Int32) (parents : Nat → Int32) (makes : Nat → Int32) (wears : Nat → Int32) (keysOfBoxes : Nat → Int32) (mostWear2 : Int32) (keys2 : Int32) (boxes2 : Int32) (liveKeys2 : Int32) (liveBoxes2 : Int32) (parents2 : Nat → Int32) (makes2 : Nat → Int32) (wears2 : Nat → Int32) (keysOfBoxes2 : Nat → Int32) : Option (Int32 × Int32 × Int32 × Int32 × Int32 × (Nat → Int32) × (Nat → Int32) × (Nat → Int32) × (Nat → Int32)) :=
  (some (mostWear2, keys2, boxes2, liveKeys2, liveBoxes2, (rCopy 20 parents parents2), (rCopy 20 makes makes2), (rCopy 20 wears wears2), (rCopy 20 keysOfBoxes keysOfBoxes2)))
set_option maxHeartbeats 1000000 in
set_option maxRecDepth 100000 in
theorem mX5_become (l : Launch) (dC : Nat → ClassId) (dI : Nat → Nat → Nat) (cyI cyO cyL : ClassId) (t0 t1 t2 t3 t4 t5 t6 t7 t8 vt0 vt1 vt2 vt3 vt4 vt5 vt6 vt7 vt8 : Nat) (mostWear : Int32) (keys : Int32) (boxes : Int32) (liveKeys : Int32) (liveBoxes : Int32) (parents : Nat → Int32) (makes : Nat → Int32) (wears : Nat → Int32) (keysOfBoxes : Nat → Int32) (mostWear2 : Int32) (keys2 : Int32) (boxes2 : Int32) (liveKeys2 : Int32) (liveBoxes2 : Int32) (parents2 : Nat → Int32) (makes2 : Nat → Int32) (wears2 : Nat → Int32) (keysOfBoxes2 : Nat → Int32)  (sz : Nat) (res : Int32 × Int32 × Int32 × Int32 × Int32 × (Nat → Int32) × (Nat → Int32) × (Nat → Int32) × (Nat → Int32)) (h : fX5_become mostWear keys boxes liveKeys liveBoxes parents makes wears keysOfBoxes mostWear2 keys2 boxes2 liveKeys2 liveBoxes2 parents2 makes2 wears2 keysOfBoxes2 = some res) : Met l yX5_become (wsG yX5_become cX5_become 2 none) ({ frames := 2, cells := 0, slots := 0, locals := 61 }) (cP dC dI cyI cyO cyL sz [.ref t0, .ref vt0] ((treeW cyI t0 t1 t2 t3 t4 t5 t6 t7 t8 mostWear keys boxes liveKeys liveBoxes parents makes wears keysOfBoxes) ++ (treeW cyI vt0 vt1 vt2 vt3 vt4 vt5 vt6 vt7 vt8 mostWear2 keys2 boxes2 liveKeys2 liveBoxes2 parents2 makes2 wears2 keysOfBoxes2))) (cV dC dI ((treeW cyI t0 t1 t2 t3 t4 t5 t6 t7 t8 res.1 res.2.1 res.2.2.1 res.2.2.2.1 res.2.2.2.2.1 res.2.2.2.2.2.1 res.2.2.2.2.2.2.1 res.2.2.2.2.2.2.2.1 res.2.2.2.2.2.2.2.2) ++ (treeW cyI vt0 vt1 vt2 vt3 vt4 vt5 vt6 vt7 vt8 mostWear2 keys2 boxes2 liveKeys2 liveBoxes2 parents2 makes2 wears2 keysOfBoxes2)) (va_A ((treeW cyI t0 t1 t2 t3 t4 t5 t6 t7 t8 mostWear keys boxes liveKeys liveBoxes parents makes wears keysOfBoxes) ++ (treeW cyI vt0 vt1 vt2 vt3 vt4 vt5 vt6 vt7 vt8 mostWear2 keys2 boxes2 liveKeys2 liveBoxes2 parents2 makes2 wears2 keysOfBoxes2)) sz)) 0 0 (va_A ((treeW cyI t0 t1 t2 t3 t4 t5 t6 t7 t8 mostWear keys boxes liveKeys liveBoxes parents makes wears keysOfBoxes) ++ (treeW cyI vt0 vt1 vt2 vt3 vt4 vt5 vt6 vt7 vt8 mostWear2 keys2 boxes2 liveKeys2 liveBoxes2 parents2 makes2 wears2 keysOfBoxes2)) sz) := by
  refine Met.ofW (cc := cX5_become) (maxL := 2) (ret := none) (by decide) rfl ?_
  intro p e s m args below meth c s₁ B hml hv
  obtain ⟨rfl, hsz, hP, hK, hD0⟩ := hv
  have hx := B.exec
  have hb := B.bytes
  have hr := B.returns
  have hts := atoms_spec (ws := wsG yX5_become cX5_become 2 none) B.pre
  have hown : s.vm.findClass RX5 = some m.cls := findClass_of_methodNamed B.named
  have hlocks := B.notSynchronized
  subst hsz
  have hD := hD0.self (sz := s.heap.size)
  generalize hAe : va_A ((treeW cyI t0 t1 t2 t3 t4 t5 t6 t7 t8 mostWear keys boxes liveKeys liveBoxes parents makes wears keysOfBoxes) ++ (treeW cyI vt0 vt1 vt2 vt3 vt4 vt5 vt6 vt7 vt8 mostWear2 keys2 boxes2 liveKeys2 liveBoxes2 parents2 makes2 wears2 keysOfBoxes2)) s.heap.size = A at hD ⊢
  have hA : ∀ q : Nat, s.heap.size ≤ q → A q := fun q h => by rw [← hAe]; exact Or.inr h
  have hS : va_S A s.heap s.heap [] := va_S.rf
  have hl := lv_entry ([.ref t0, .ref vt0]) (n := 2) (Nat.le_of_ble_eq_true rfl)
  rw [lg_entry_eq]
  generalize (lg_sl ([.ref t0, .ref vt0]) ++ List.replicate (2 - (lg_sl ([.ref t0, .ref vt0])).length) Slot.unset).toArray = ls at hl ⊢
  have hl : lv_has ls 2 [(0, .ref t0), (1, .ref vt0)] := hl
  unfold fX5_become at h
  refine lv_aload_n hx hb dX5_become_0 rfl (lv_at hl 1 rfl) ?_
  refine lv_ifnonnull (tgt := 5) hx hb dX5_become_1 (by decide) ?_
  refine lv_aload_n hx hb dX5_become_5 rfl (lv_at hl 0 rfl) ?_
  refine lv_aload_n hx hb dX5_become_6 rfl (lv_at hl 1 rfl) ?_
  refine va_get (D := (dC, dI)) (ci := 5) (v := .int mostWear2) (C := RX5) (T := TX5) (N := 9) hx hb hts (fun w h9 => gb_mem (lay_X5 w h9)) hown hK.1 hP 9 rfl rfl 0 (by decide) (hts _ (gb_mem fl_X5_9)) (fun _ h9 => h9) rfl dX5_become_7 ?_
  refine va_put (D := (dC, dI)) (ci := 5) (v := .int mostWear2) (ty := .int) (C := RX5) (T := TX5) (N := 9) hx hb hts (fun w h9 => gb_mem (lay_X5 w h9)) tyX5 tyX5_ok nmX5 hown hK.1 hP hD hS 0 rfl rfl 0 (by decide) (hts _ (gb_mem fl_X5_9)) (fun _ h9 => h9) rfl (by decide +kernel) rfl rfl (Nat.le_of_ble_eq_true rfl) dX5_become_10 (fun H locs hP hD hS => ?_)
  have hP : va_P (dC, dI) vwCl ((treeW cyI t0 t1 t2 t3 t4 t5 t6 t7 t8 mostWear2 keys boxes liveKeys liveBoxes parents makes wears keysOfBoxes) ++ (treeW cyI vt0 vt1 vt2 vt3 vt4 vt5 vt6 vt7 vt8 mostWear2 keys2 boxes2 liveKeys2 liveBoxes2 parents2 makes2 wears2 keysOfBoxes2)) H := hP
  have hD : va_D A ((treeW cyI t0 t1 t2 t3 t4 t5 t6 t7 t8 mostWear2 keys boxes liveKeys liveBoxes parents makes wears keysOfBoxes) ++ (treeW cyI vt0 vt1 vt2 vt3 vt4 vt5 vt6 vt7 vt8 mostWear2 keys2 boxes2 liveKeys2 liveBoxes2 parents2 makes2 wears2 keysOfBoxes2)) := hD
  refine lv_aload_n hx hb dX5_become_13 rfl (lv_at hl 0 rfl) ?_
  refine lv_aload_n hx hb dX5_become_14 rfl (lv_at hl 1 rfl) ?_
  refine va_get (D := (dC, dI)) (ci := 5) (v := .int keys2) (C := RX5) (T := TX5) (N := 9) hx hb hts (fun w h9 => gb_mem (lay_X5 w h9)) hown hK.1 hP 9 rfl rfl 1 (by decide) (hts _ (gb_mem fl_X5_15)) (fun _ h9 => h9) rfl dX5_become_15 ?_
  refine va_put (D := (dC, dI)) (ci := 5) (v := .int keys2) (ty := .int) (C := RX5) (T := TX5) (N := 9) hx hb hts (fun w h9 => gb_mem (lay_X5 w h9)) tyX5 tyX5_ok nmX5 hown hK.1 hP hD hS 0 rfl rfl 1 (by decide) (hts _ (gb_mem fl_X5_15)) (fun _ h9 => h9) rfl (by decide +kernel) rfl rfl (Nat.le_of_ble_eq_true rfl) dX5_become_18 (fun H locs hP hD hS => ?_)
  have hP : va_P (dC, dI) vwCl ((treeW cyI t0 t1 t2 t3 t4 t5 t6 t7 t8 mostWear2 keys2 boxes liveKeys liveBoxes parents makes wears keysOfBoxes) ++ (treeW cyI vt0 vt1 vt2 vt3 vt4 vt5 vt6 vt7 vt8 mostWear2 keys2 boxes2 liveKeys2 liveBoxes2 parents2 makes2 wears2 keysOfBoxes2)) H := hP
  have hD : va_D A ((treeW cyI t0 t1 t2 t3 t4 t5 t6 t7 t8 mostWear2 keys2 boxes liveKeys liveBoxes parents makes wears keysOfBoxes) ++ (treeW cyI vt0 vt1 vt2 vt3 vt4 vt5 vt6 vt7 vt8 mostWear2 keys2 boxes2 liveKeys2 liveBoxes2 parents2 makes2 wears2 keysOfBoxes2)) := hD
  refine lv_aload_n hx hb dX5_become_21 rfl (lv_at hl 0 rfl) ?_
  refine lv_aload_n hx hb dX5_become_22 rfl (lv_at hl 1 rfl) ?_
  refine va_get (D := (dC, dI)) (ci := 5) (v := .int boxes2) (C := RX5) (T := TX5) (N := 9) hx hb hts (fun w h9 => gb_mem (lay_X5 w h9)) hown hK.1 hP 9 rfl rfl 2 (by decide) (hts _ (gb_mem fl_X5_18)) (fun _ h9 => h9) rfl dX5_become_23 ?_
  refine va_put (D := (dC, dI)) (ci := 5) (v := .int boxes2) (ty := .int) (C := RX5) (T := TX5) (N := 9) hx hb hts (fun w h9 => gb_mem (lay_X5 w h9)) tyX5 tyX5_ok nmX5 hown hK.1 hP hD hS 0 rfl rfl 2 (by decide) (hts _ (gb_mem fl_X5_18)) (fun _ h9 => h9) rfl (by decide +kernel) rfl rfl (Nat.le_of_ble_eq_true rfl) dX5_become_26 (fun H locs hP hD hS => ?_)
  have hP : va_P (dC, dI) vwCl ((treeW cyI t0 t1 t2 t3 t4 t5 t6 t7 t8 mostWear2 keys2 boxes2 liveKeys liveBoxes parents makes wears keysOfBoxes) ++ (treeW cyI vt0 vt1 vt2 vt3 vt4 vt5 vt6 vt7 vt8 mostWear2 keys2 boxes2 liveKeys2 liveBoxes2 parents2 makes2 wears2 keysOfBoxes2)) H := hP
  have hD : va_D A ((treeW cyI t0 t1 t2 t3 t4 t5 t6 t7 t8 mostWear2 keys2 boxes2 liveKeys liveBoxes parents makes wears keysOfBoxes) ++ (treeW cyI vt0 vt1 vt2 vt3 vt4 vt5 vt6 vt7 vt8 mostWear2 keys2 boxes2 liveKeys2 liveBoxes2 parents2 makes2 wears2 keysOfBoxes2)) := hD
  refine lv_aload_n hx hb dX5_become_29 rfl (lv_at hl 0 rfl) ?_
  refine lv_aload_n hx hb dX5_become_30 rfl (lv_at hl 1 rfl) ?_
  refine va_get (D := (dC, dI)) (ci := 5) (v := .int liveKeys2) (C := RX5) (T := TX5) (N := 9) hx hb hts (fun w h9 => gb_mem (lay_X5 w h9)) hown hK.1 hP 9 rfl rfl 3 (by decide) (hts _ (gb_mem fl_X5_21)) (fun _ h9 => h9) rfl dX5_become_31 ?_
  refine va_put (D := (dC, dI)) (ci := 5) (v := .int liveKeys2) (ty := .int) (C := RX5) (T := TX5) (N := 9) hx hb hts (fun w h9 => gb_mem (lay_X5 w h9)) tyX5 tyX5_ok nmX5 hown hK.1 hP hD hS 0 rfl rfl 3 (by decide) (hts _ (gb_mem fl_X5_21)) (fun _ h9 => h9) rfl (by decide +kernel) rfl rfl (Nat.le_of_ble_eq_true rfl) dX5_become_34 (fun H locs hP hD hS => ?_)
  have hP : va_P (dC, dI) vwCl ((treeW cyI t0 t1 t2 t3 t4 t5 t6 t7 t8 mostWear2 keys2 boxes2 liveKeys2 liveBoxes parents makes wears keysOfBoxes) ++ (treeW cyI vt0 vt1 vt2 vt3 vt4 vt5 vt6 vt7 vt8 mostWear2 keys2 boxes2 liveKeys2 liveBoxes2 parents2 makes2 wears2 keysOfBoxes2)) H := hP
  have hD : va_D A ((treeW cyI t0 t1 t2 t3 t4 t5 t6 t7 t8 mostWear2 keys2 boxes2 liveKeys2 liveBoxes parents makes wears keysOfBoxes) ++ (treeW cyI vt0 vt1 vt2 vt3 vt4 vt5 vt6 vt7 vt8 mostWear2 keys2 boxes2 liveKeys2 liveBoxes2 parents2 makes2 wears2 keysOfBoxes2)) := hD
  refine lv_aload_n hx hb dX5_become_37 rfl (lv_at hl 0 rfl) ?_
  refine lv_aload_n hx hb dX5_become_38 rfl (lv_at hl 1 rfl) ?_
  refine va_get (D := (dC, dI)) (ci := 5) (v := .int liveBoxes2) (C := RX5) (T := TX5) (N := 9) hx hb hts (fun w h9 => gb_mem (lay_X5 w h9)) hown hK.1 hP 9 rfl rfl 4 (by decide) (hts _ (gb_mem fl_X5_24)) (fun _ h9 => h9) rfl dX5_become_39 ?_
  refine va_put (D := (dC, dI)) (ci := 5) (v := .int liveBoxes2) (ty := .int) (C := RX5) (T := TX5) (N := 9) hx hb hts (fun w h9 => gb_mem (lay_X5 w h9)) tyX5 tyX5_ok nmX5 hown hK.1 hP hD hS 0 rfl rfl 4 (by decide) (hts _ (gb_mem fl_X5_24)) (fun _ h9 => h9) rfl (by decide +kernel) rfl rfl (Nat.le_of_ble_eq_true rfl) dX5_become_42 (fun H locs hP hD hS => ?_)
  have hP : va_P (dC, dI) vwCl ((treeW cyI t0 t1 t2 t3 t4 t5 t6 t7 t8 mostWear2 keys2 boxes2 liveKeys2 liveBoxes2 parents makes wears keysOfBoxes) ++ (treeW cyI vt0 vt1 vt2 vt3 vt4 vt5 vt6 vt7 vt8 mostWear2 keys2 boxes2 liveKeys2 liveBoxes2 parents2 makes2 wears2 keysOfBoxes2)) H := hP
  have hD : va_D A ((treeW cyI t0 t1 t2 t3 t4 t5 t6 t7 t8 mostWear2 keys2 boxes2 liveKeys2 liveBoxes2 parents makes wears keysOfBoxes) ++ (treeW cyI vt0 vt1 vt2 vt3 vt4 vt5 vt6 vt7 vt8 mostWear2 keys2 boxes2 liveKeys2 liveBoxes2 parents2 makes2 wears2 keysOfBoxes2)) := hD
  refine lv_aload_n hx hb dX5_become_45 rfl (lv_at hl 0 rfl) ?_
  refine va_get (D := (dC, dI)) (ci := 5) (v := .ref t1) (C := RX5) (T := TX5) (N := 9) hx hb hts (fun w h9 => gb_mem (lay_X5 w h9)) hown hK.1 hP 0 rfl rfl 5 (by decide) (hts _ (gb_mem fl_X5_32)) (fun _ h9 => h9) rfl dX5_become_46 ?_
  refine lv_aload_n hx hb dX5_become_49 rfl (lv_at hl 1 rfl) ?_
  refine va_get (D := (dC, dI)) (ci := 5) (v := .ref vt1) (C := RX5) (T := TX5) (N := 9) hx hb hts (fun w h9 => gb_mem (lay_X5 w h9)) hown hK.1 hP 9 rfl rfl 5 (by decide) (hts _ (gb_mem fl_X5_32)) (fun _ h9 => h9) rfl dX5_become_50 ?_
  refine fr_v (M := ((rowW cyI t1 t2 20 parents) ++ (rowW cyI vt1 vt2 20 parents2))) (M' := ((rowW cyI t1 t2 20 (rCopy 20 parents parents2)) ++ (rowW cyI vt1 vt2 20 parents2))) (L' := ((treeW cyI t0 t1 t2 t3 t4 t5 t6 t7 t8 mostWear2 keys2 boxes2 liveKeys2 liveBoxes2 (rCopy 20 parents parents2) makes wears keysOfBoxes) ++ (treeW cyI vt0 vt1 vt2 vt3 vt4 vt5 vt6 vt7 vt8 mostWear2 keys2 boxes2 liveKeys2 liveBoxes2 parents2 makes2 wears2 keysOfBoxes2))) (va_runV (As := [.ref vt1]) (rest := []) ⟨hx, hb, hml, hown, hts⟩ (tX4_become l dC dI cyI cyO cyL t1 t2 vt1 vt2 20 parents parents2 _ (rCopy 20 parents parents2) rfl (by decide)) (cwV 1 hts (gV ml_X5_85 im_X4_become se_X4_become in_X4 co_X4_become) rfl rfl rfl (by decide +kernel) ⟨Nat.le_of_ble_eq_true rfl, Nat.le_of_ble_eq_true rfl⟩) (cP_V hK hP hD [1, 2, 10, 11] rfl rfl 1 rfl rfl) rfl rfl hl.1 rfl (lv_room (Nat.le_of_ble_eq_true rfl)) dX5_become_53 ⟨Nat.zero_le _, Nat.zero_le _⟩) hP hD hS hA [1, 2, 10, 11] rfl [(false, 0), (true, 0), (true, 1), (false, 3), (false, 4), (false, 5), (false, 6), (false, 7), (false, 8), (false, 9), (true, 2), (true, 3), (false, 12), (false, 13), (false, 14), (false, 15), (false, 16), (false, 17)] rfl rfl rfl (fun H locs hP hD hS => ?_)
  refine lv_aload_n hx hb dX5_become_56 rfl (lv_at hl 0 rfl) ?_
  refine va_get (D := (dC, dI)) (ci := 5) (v := .ref t3) (C := RX5) (T := TX5) (N := 9) hx hb hts (fun w h9 => gb_mem (lay_X5 w h9)) hown hK.1 hP 0 rfl rfl 6 (by decide) (hts _ (gb_mem fl_X5_36)) (fun _ h9 => h9) rfl dX5_become_57 ?_
  refine lv_aload_n hx hb dX5_become_60 rfl (lv_at hl 1 rfl) ?_
  refine va_get (D := (dC, dI)) (ci := 5) (v := .ref vt3) (C := RX5) (T := TX5) (N := 9) hx hb hts (fun w h9 => gb_mem (lay_X5 w h9)) hown hK.1 hP 9 rfl rfl 6 (by decide) (hts _ (gb_mem fl_X5_36)) (fun _ h9 => h9) rfl dX5_become_61 ?_
  refine fr_v (M := ((rowW cyI t3 t4 20 makes) ++ (rowW cyI vt3 vt4 20 makes2))) (M' := ((rowW cyI t3 t4 20 (rCopy 20 makes makes2)) ++ (rowW cyI vt3 vt4 20 makes2))) (L' := ((treeW cyI t0 t1 t2 t3 t4 t5 t6 t7 t8 mostWear2 keys2 boxes2 liveKeys2 liveBoxes2 (rCopy 20 parents parents2) (rCopy 20 makes makes2) wears keysOfBoxes) ++ (treeW cyI vt0 vt1 vt2 vt3 vt4 vt5 vt6 vt7 vt8 mostWear2 keys2 boxes2 liveKeys2 liveBoxes2 parents2 makes2 wears2 keysOfBoxes2))) (va_runV (As := [.ref vt3]) (rest := []) ⟨hx, hb, hml, hown, hts⟩ (tX4_become l dC dI cyI cyO cyL t3 t4 vt3 vt4 20 makes makes2 _ (rCopy 20 makes makes2) rfl (by decide)) (cwV 1 hts (gV ml_X5_85 im_X4_become se_X4_become in_X4 co_X4_become) rfl rfl rfl (by decide +kernel) ⟨Nat.le_of_ble_eq_true rfl, Nat.le_of_ble_eq_true rfl⟩) (cP_V hK hP hD [3, 4, 12, 13] rfl rfl 3 rfl rfl) rfl rfl hl.1 rfl (lv_room (Nat.le_of_ble_eq_true rfl)) dX5_become_64 ⟨Nat.zero_le _, Nat.zero_le _⟩) hP hD hS hA [3, 4, 12, 13] rfl [(false, 0), (false, 1), (false, 2), (true, 0), (true, 1), (false, 5), (false, 6), (false, 7), (false, 8), (false, 9), (false, 10), (false, 11), (true, 2), (true, 3), (false, 14), (false, 15), (false, 16), (false, 17)] rfl rfl rfl (fun H locs hP hD hS => ?_)
  refine lv_aload_n hx hb dX5_become_67 rfl (lv_at hl 0 rfl) ?_
  refine va_get (D := (dC, dI)) (ci := 5) (v := .ref t5) (C := RX5) (T := TX5) (N := 9) hx hb hts (fun w h9 => gb_mem (lay_X5 w h9)) hown hK.1 hP 0 rfl rfl 7 (by decide) (hts _ (gb_mem fl_X5_39)) (fun _ h9 => h9) rfl dX5_become_68 ?_
  refine lv_aload_n hx hb dX5_become_71 rfl (lv_at hl 1 rfl) ?_
  refine va_get (D := (dC, dI)) (ci := 5) (v := .ref vt5) (C := RX5) (T := TX5) (N := 9) hx hb hts (fun w h9 => gb_mem (lay_X5 w h9)) hown hK.1 hP 9 rfl rfl 7 (by decide) (hts _ (gb_mem fl_X5_39)) (fun _ h9 => h9) rfl dX5_become_72 ?_
  refine fr_v (M := ((rowW cyI t5 t6 20 wears) ++ (rowW cyI vt5 vt6 20 wears2))) (M' := ((rowW cyI t5 t6 20 (rCopy 20 wears wears2)) ++ (rowW cyI vt5 vt6 20 wears2))) (L' := ((treeW cyI t0 t1 t2 t3 t4 t5 t6 t7 t8 mostWear2 keys2 boxes2 liveKeys2 liveBoxes2 (rCopy 20 parents parents2) (rCopy 20 makes makes2) (rCopy 20 wears wears2) keysOfBoxes) ++ (treeW cyI vt0 vt1 vt2 vt3 vt4 vt5 vt6 vt7 vt8 mostWear2 keys2 boxes2 liveKeys2 liveBoxes2 parents2 makes2 wears2 keysOfBoxes2))) (va_runV (As := [.ref vt5]) (rest := []) ⟨hx, hb, hml, hown, hts⟩ (tX4_become l dC dI cyI cyO cyL t5 t6 vt5 vt6 20 wears wears2 _ (rCopy 20 wears wears2) rfl (by decide)) (cwV 1 hts (gV ml_X5_85 im_X4_become se_X4_become in_X4 co_X4_become) rfl rfl rfl (by decide +kernel) ⟨Nat.le_of_ble_eq_true rfl, Nat.le_of_ble_eq_true rfl⟩) (cP_V hK hP hD [5, 6, 14, 15] rfl rfl 5 rfl rfl) rfl rfl hl.1 rfl (lv_room (Nat.le_of_ble_eq_true rfl)) dX5_become_75 ⟨Nat.zero_le _, Nat.zero_le _⟩) hP hD hS hA [5, 6, 14, 15] rfl [(false, 0), (false, 1), (false, 2), (false, 3), (false, 4), (true, 0), (true, 1), (false, 7), (false, 8), (false, 9), (false, 10), (false, 11), (false, 12), (false, 13), (true, 2), (true, 3), (false, 16), (false, 17)] rfl rfl rfl (fun H locs hP hD hS => ?_)
  refine lv_aload_n hx hb dX5_become_78 rfl (lv_at hl 0 rfl) ?_
  refine va_get (D := (dC, dI)) (ci := 5) (v := .ref t7) (C := RX5) (T := TX5) (N := 9) hx hb hts (fun w h9 => gb_mem (lay_X5 w h9)) hown hK.1 hP 0 rfl rfl 8 (by decide) (hts _ (gb_mem fl_X5_42)) (fun _ h9 => h9) rfl dX5_become_79 ?_
  refine lv_aload_n hx hb dX5_become_82 rfl (lv_at hl 1 rfl) ?_
  refine va_get (D := (dC, dI)) (ci := 5) (v := .ref vt7) (C := RX5) (T := TX5) (N := 9) hx hb hts (fun w h9 => gb_mem (lay_X5 w h9)) hown hK.1 hP 9 rfl rfl 8 (by decide) (hts _ (gb_mem fl_X5_42)) (fun _ h9 => h9) rfl dX5_become_83 ?_
  refine fr_v (M := ((rowW cyI t7 t8 20 keysOfBoxes) ++ (rowW cyI vt7 vt8 20 keysOfBoxes2))) (M' := ((rowW cyI t7 t8 20 (rCopy 20 keysOfBoxes keysOfBoxes2)) ++ (rowW cyI vt7 vt8 20 keysOfBoxes2))) (L' := ((treeW cyI t0 t1 t2 t3 t4 t5 t6 t7 t8 mostWear2 keys2 boxes2 liveKeys2 liveBoxes2 (rCopy 20 parents parents2) (rCopy 20 makes makes2) (rCopy 20 wears wears2) (rCopy 20 keysOfBoxes keysOfBoxes2)) ++ (treeW cyI vt0 vt1 vt2 vt3 vt4 vt5 vt6 vt7 vt8 mostWear2 keys2 boxes2 liveKeys2 liveBoxes2 parents2 makes2 wears2 keysOfBoxes2))) (va_runV (As := [.ref vt7]) (rest := []) ⟨hx, hb, hml, hown, hts⟩ (tX4_become l dC dI cyI cyO cyL t7 t8 vt7 vt8 20 keysOfBoxes keysOfBoxes2 _ (rCopy 20 keysOfBoxes keysOfBoxes2) rfl (by decide)) (cwV 1 hts (gV ml_X5_85 im_X4_become se_X4_become in_X4 co_X4_become) rfl rfl rfl (by decide +kernel) ⟨Nat.le_of_ble_eq_true rfl, Nat.le_of_ble_eq_true rfl⟩) (cP_V hK hP hD [7, 8, 16, 17] rfl rfl 7 rfl rfl) rfl rfl hl.1 rfl (lv_room (Nat.le_of_ble_eq_true rfl)) dX5_become_86 ⟨Nat.zero_le _, Nat.zero_le _⟩) hP hD hS hA [7, 8, 16, 17] rfl [(false, 0), (false, 1), (false, 2), (false, 3), (false, 4), (false, 5), (false, 6), (true, 0), (true, 1), (false, 9), (false, 10), (false, 11), (false, 12), (false, 13), (false, 14), (false, 15), (true, 2), (true, 3)] rfl rfl rfl (fun H locs hP hD hS => ?_)
  obtain rfl := Option.some.inj h
  exact e_v hx hb hr hlocks hP hS dX5_become_89
