/-! the worlds: lists of cells -/
abbrev rowW (cy : ClassId) (a0 a1 n : Nat) (f : Nat → Int32) : va_W := [(a0, .inr (4, [.ref a1])), (a1, .inl (cy, (n, .inl f)))]
abbrev arrW (cy : ClassId) (a0 n : Nat) (f : Nat → Int32) : va_W := [(a0, .inl (cy, (n, .inl f)))]
def treeW (cy : ClassId) (t0 t1 t2 t3 t4 t5 t6 t7 t8 : Nat) (mostWear : Int32) (keys : Int32) (boxes : Int32) (liveKeys : Int32) (liveBoxes : Int32) (parents : Nat → Int32) (makes : Nat → Int32) (wears : Nat → Int32) (keysOfBoxes : Nat → Int32) : va_W := [(t0, .inr (5, [.int mostWear, .int keys, .int boxes, .int liveKeys, .int liveBoxes, .ref t1, .ref t3, .ref t5, .ref t7])), (t1, .inr (4, [.ref t2])), (t2, .inl (cy, (20, .inl parents))), (t3, .inr (4, [.ref t4])), (t4, .inl (cy, (20, .inl makes))), (t5, .inr (4, [.ref t6])), (t6, .inl (cy, (20, .inl wears))), (t7, .inr (4, [.ref t8])), (t8, .inl (cy, (20, .inl keysOfBoxes)))]
def wrapsW (cy : ClassId) (w0 w1 w2 w3 w4 w5 w6 w7 w8 w9 w10 : Nat) (number : Int32) (heldKeys : Nat → Int32) (heldWhats : Nat → Int32) (closers : Nat → Int32) (closerMakes : Nat → Int32) (stands : Nat → Int32) : va_W := [(w0, .inr (6, [.int number, .ref w1, .ref w3, .ref w5, .ref w7, .ref w9])), (w1, .inr (4, [.ref w2])), (w2, .inl (cy, (120, .inl heldKeys))), (w3, .inr (4, [.ref w4])), (w4, .inl (cy, (120, .inl heldWhats))), (w5, .inr (4, [.ref w6])), (w6, .inl (cy, (120, .inl closers))), (w7, .inr (4, [.ref w8])), (w8, .inl (cy, (120, .inl closerMakes))), (w9, .inr (4, [.ref w10])), (w10, .inl (cy, (120, .inl stands)))]
def openW (cy : ClassId) (o0 o1 o2 o3 o4 : Nat) (startMakes : Nat → Int32) (opened : Nat → Int32) : va_W := [(o0, .inr (2, [.ref o1, .ref o3])), (o1, .inr (4, [.ref o2])), (o2, .inl (cy, (20, .inl startMakes))), (o3, .inr (4, [.ref o4])), (o4, .inl (cy, (120, .inl opened)))]
def padW (cy : ClassId) (p0 p1 p2 : Nat) (signs : Nat → Int32) (length : Int32) (next : Int32) (letter : Int32) (target : Int32) (place : Int32) : va_W := [(p0, .inr (3, [.ref p1, .int length, .int next, .int letter, .int target, .int place])), (p1, .inr (4, [.ref p2])), (p2, .inl (cy, (60, .inl signs)))]
def modelW (cy : ClassId) (m0 m1 m2 m3 m4 m5 m6 : Nat) (state : Nat → Int32) (history : Nat → Int32) (recorded : Int32) (slots : Nat → Int32) (isSaved : Nat → Int32) (pad : Nat → Int32) (padLength : Int32) (opened : Nat → Int32) (pos : Int32) (letter : Int32) (first : Int32) (second : Int32) : va_W := [(m0, .inr (8, [.ref m1, .ref m2, .int recorded, .ref m3, .ref m4, .ref m5, .int padLength, .ref m6, .int pos, .int letter, .int first, .int second])), (m1, .inl (cy, (844, .inl state))), (m2, .inl (cy, (5064, .inl history))), (m3, .inl (cy, (1688, .inl slots))), (m4, .inl (cy, (2, .inl isSaved))), (m5, .inl (cy, (60, .inl pad))), (m6, .inl (cy, (120, .inl opened)))]
def houseW (cy : ClassId) (h0 t0 t1 t2 t3 t4 t5 t6 t7 t8 w0 w1 w2 w3 w4 w5 w6 w7 w8 w9 w10 : Nat) (mostWear : Int32) (keys : Int32) (boxes : Int32) (liveKeys : Int32) (liveBoxes : Int32) (parents : Nat → Int32) (makes : Nat → Int32) (wears : Nat → Int32) (keysOfBoxes : Nat → Int32) (number : Int32) (heldKeys : Nat → Int32) (heldWhats : Nat → Int32) (closers : Nat → Int32) (closerMakes : Nat → Int32) (stands : Nat → Int32) : va_W := [(h0, .inr (1, [.ref t0, .ref w0])), (t0, .inr (5, [.int mostWear, .int keys, .int boxes, .int liveKeys, .int liveBoxes, .ref t1, .ref t3, .ref t5, .ref t7])), (t1, .inr (4, [.ref t2])), (t2, .inl (cy, (20, .inl parents))), (t3, .inr (4, [.ref t4])), (t4, .inl (cy, (20, .inl makes))), (t5, .inr (4, [.ref t6])), (t6, .inl (cy, (20, .inl wears))), (t7, .inr (4, [.ref t8])), (t8, .inl (cy, (20, .inl keysOfBoxes))), (w0, .inr (6, [.int number, .ref w1, .ref w3, .ref w5, .ref w7, .ref w9])), (w1, .inr (4, [.ref w2])), (w2, .inl (cy, (120, .inl heldKeys))), (w3, .inr (4, [.ref w4])), (w4, .inl (cy, (120, .inl heldWhats))), (w5, .inr (4, [.ref w6])), (w6, .inl (cy, (120, .inl closers))), (w7, .inr (4, [.ref w8])), (w8, .inl (cy, (120, .inl closerMakes))), (w9, .inr (4, [.ref w10])), (w10, .inl (cy, (120, .inl stands)))]
def iushr (x y : Int32) : Int32 := (x.toUInt32 >>> (y.toUInt32 &&& Int32.toUInt32 31)).toInt32
def lushr (x : Int64) (y : Int32) : Int64 := (x.toUInt64 >>> (y.toInt64.toUInt64 &&& Int64.toUInt64 63)).toInt64
/-- rows of numbers: what is read and written -/
def rAt (n : Nat) (f : Nat → Int32) (i : Int32) : Int32 := if i < 0 then 0 else if nI n ≤ i then 0 else f i.toNatClampNeg
def rSet (n : Nat) (f : Nat → Int32) (i v : Int32) : Nat → Int32 := if i < 0 then f else if nI n ≤ i then f else upd f i.toNatClampNeg v
def rAdd (n : Nat) (f : Nat → Int32) (i v : Int32) : Nat → Int32 := if i < 0 then f else if nI n ≤ i then f else upd f i.toNatClampNeg (f i.toNatClampNeg + v)

noncomputable def fX7_oneIf (x0 : Int32) : Int32 :=
  (if x0 = 0 then (0) else (1))
set_option maxHeartbeats 1000000 in
set_option maxRecDepth 100000 in
theorem mX7_oneIf (l : Launch) (dC : Nat → ClassId) (dI : Nat → Nat → Nat) (cyI cyO cyL : ClassId)   (x0 : Int32) (sz : Nat) (res : Int32) (h : fX7_oneIf x0 = res) : Met l yX7_oneIf (wsG yX7_oneIf cX7_oneIf 1 (some .int)) ({ frames := 0, cells := 0, slots := 0, locals := 0 }) (cP dC dI cyI cyO cyL sz [.int x0] ([] : va_W)) (cI dC dI res ([] : va_W) (va_A ([] : va_W) sz)) 0 0 (va_A ([] : va_W) sz) := by
  refine Met.ofW (cc := cX7_oneIf) (maxL := 1) (ret := (some .int)) (by decide) rfl ?_
  intro p e s m args below meth c s₁ B hml hv
  obtain ⟨rfl, hsz, hP, hK, hD0⟩ := hv
  have hx := B.exec
  have hb := B.bytes
  have hr := B.returns
  have hts := atoms_spec (ws := wsG yX7_oneIf cX7_oneIf 1 (some .int)) B.pre
  have hown : s.vm.findClass RX7 = some m.cls := findClass_of_methodNamed B.named
  have hlocks := B.notSynchronized
  subst hsz
  have hD := hD0.self (sz := s.heap.size)
  generalize hAe : va_A ([] : va_W) s.heap.size = A at hD ⊢
  have hA : ∀ q : Nat, s.heap.size ≤ q → A q := fun q h => by rw [← hAe]; exact Or.inr h
  have hS : va_S A s.heap s.heap [] := va_S.rf
  have hl := lv_entry ([.int x0]) (n := 1) (Nat.le_of_ble_eq_true rfl)
  rw [lg_entry_eq]
  generalize (lg_sl ([.int x0]) ++ List.replicate (1 - (lg_sl ([.int x0])).length) Slot.unset).toArray = ls at hl ⊢
  have hl : lv_has ls 1 [(0, .int x0)] := hl
  unfold fX7_oneIf at h
  refine lv_iload_n hx hb dX7_oneIf_0 rfl (lv_at hl 0 rfl) ?_
  refine lv_if_eq (tgt := 8) hx hb dX7_oneIf_1 (by decide) (fun c1 => ?_) (fun c1 => ?_)
  · have h := (if_pos c1).symm.trans h
    refine lv_iconst (v := 0) hx hb dX7_oneIf_8 (by decide) ?_
    obtain rfl := h
    exact e_i hx hb hr hlocks hP hS dX7_oneIf_9
  · have h := (if_neg c1).symm.trans h
    refine lv_iconst (v := 1) hx hb dX7_oneIf_4 (by decide) ?_
    refine lv_goto (tgt := 9) hx hb dX7_oneIf_5 (by decide) ?_
    obtain rfl := h
    exact e_i hx hb hr hlocks hP hS dX7_oneIf_9

noncomputable def fX7_setOf (x0 : Int32) : Int32 :=
  (if x0 < 0 then (0) else (if 32 ≤ x0 then (0) else ((1 <<< (x0 &&& 31)))))
set_option maxHeartbeats 1000000 in
set_option maxRecDepth 100000 in
theorem mX7_setOf (l : Launch) (dC : Nat → ClassId) (dI : Nat → Nat → Nat) (cyI cyO cyL : ClassId)   (x0 : Int32) (sz : Nat) (res : Int32) (h : fX7_setOf x0 = res) : Met l yX7_setOf (wsG yX7_setOf cX7_setOf 1 (some .int)) ({ frames := 0, cells := 0, slots := 0, locals := 0 }) (cP dC dI cyI cyO cyL sz [.int x0] ([] : va_W)) (cI dC dI res ([] : va_W) (va_A ([] : va_W) sz)) 0 0 (va_A ([] : va_W) sz) := by
  refine Met.ofW (cc := cX7_setOf) (maxL := 1) (ret := (some .int)) (by decide) rfl ?_
  intro p e s m args below meth c s₁ B hml hv
  obtain ⟨rfl, hsz, hP, hK, hD0⟩ := hv
  have hx := B.exec
  have hb := B.bytes
  have hr := B.returns
  have hts := atoms_spec (ws := wsG yX7_setOf cX7_setOf 1 (some .int)) B.pre
  have hown : s.vm.findClass RX7 = some m.cls := findClass_of_methodNamed B.named
  have hlocks := B.notSynchronized
  subst hsz
  have hD := hD0.self (sz := s.heap.size)
  generalize hAe : va_A ([] : va_W) s.heap.size = A at hD ⊢
  have hA : ∀ q : Nat, s.heap.size ≤ q → A q := fun q h => by rw [← hAe]; exact Or.inr h
  have hS : va_S A s.heap s.heap [] := va_S.rf
  have hl := lv_entry ([.int x0]) (n := 1) (Nat.le_of_ble_eq_true rfl)
  rw [lg_entry_eq]
  generalize (lg_sl ([.int x0]) ++ List.replicate (1 - (lg_sl ([.int x0])).length) Slot.unset).toArray = ls at hl ⊢
  have hl : lv_has ls 1 [(0, .int x0)] := hl
  unfold fX7_setOf at h
  refine lv_iload_n hx hb dX7_setOf_0 rfl (lv_at hl 0 rfl) ?_
  refine lv_if_lt (tgt := 16) hx hb dX7_setOf_1 (by decide) (fun c1 => ?_) (fun c1 => ?_)
  · have h := (if_pos c1).symm.trans h
    refine lv_iconst (v := 0) hx hb dX7_setOf_16 (by decide) ?_
    obtain rfl := h
    exact e_i hx hb hr hlocks hP hS dX7_setOf_17
  · have h := (if_neg c1).symm.trans h
    refine lv_iload_n hx hb dX7_setOf_4 rfl (lv_at hl 0 rfl) ?_
    refine lv_bipush (v := 32) hx hb dX7_setOf_5 (by decide) ?_
    refine lv_icmp_ge (tgt := 16) hx hb dX7_setOf_7 (by decide) (fun c2 => ?_) (fun c2 => ?_)
    · have h := (if_pos c2).symm.trans h
      refine lv_iconst (v := 0) hx hb dX7_setOf_16 (by decide) ?_
      obtain rfl := h
      exact e_i hx hb hr hlocks hP hS dX7_setOf_17
    · have h := (if_neg c2).symm.trans h
      refine lv_iconst (v := 1) hx hb dX7_setOf_10 (by decide) ?_
      refine lv_iload_n hx hb dX7_setOf_11 rfl (lv_at hl 0 rfl) ?_
      refine lv_ishl hx hb dX7_setOf_12 ?_
      refine lv_goto (tgt := 17) hx hb dX7_setOf_13 (by decide) ?_
      obtain rfl := h
      exact e_i hx hb hr hlocks hP hS dX7_setOf_17

noncomputable def fX7_has (x0 : Int32) (x1 : Int32) : Int32 :=
  (if x1 < 0 then (0) else (if 32 ≤ x1 then (0) else (if ((iushr x0 x1) &&& 1) = 0 then (0) else (1))))
set_option maxHeartbeats 1000000 in
set_option maxRecDepth 100000 in
theorem mX7_has (l : Launch) (dC : Nat → ClassId) (dI : Nat → Nat → Nat) (cyI cyO cyL : ClassId)   (x0 : Int32) (x1 : Int32) (sz : Nat) (res : Int32) (h : fX7_has x0 x1 = res) : Met l yX7_has (wsG yX7_has cX7_has 2 (some .boolean)) ({ frames := 0, cells := 0, slots := 0, locals := 0 }) (cP dC dI cyI cyO cyL sz [.int x0, .int x1] ([] : va_W)) (cI dC dI res ([] : va_W) (va_A ([] : va_W) sz)) 0 0 (va_A ([] : va_W) sz) := by
  refine Met.ofW (cc := cX7_has) (maxL := 2) (ret := (some .boolean)) (by decide) rfl ?_
  intro p e s m args below meth c s₁ B hml hv
  obtain ⟨rfl, hsz, hP, hK, hD0⟩ := hv
  have hx := B.exec
  have hb := B.bytes
  have hr := B.returns
  have hts := atoms_spec (ws := wsG yX7_has cX7_has 2 (some .boolean)) B.pre
  have hown : s.vm.findClass RX7 = some m.cls := findClass_of_methodNamed B.named
  have hlocks := B.notSynchronized
  subst hsz
  have hD := hD0.self (sz := s.heap.size)
  generalize hAe : va_A ([] : va_W) s.heap.size = A at hD ⊢
  have hA : ∀ q : Nat, s.heap.size ≤ q → A q := fun q h => by rw [← hAe]; exact Or.inr h
  have hS : va_S A s.heap s.heap [] := va_S.rf
  have hl := lv_entry ([.int x0, .int x1]) (n := 2) (Nat.le_of_ble_eq_true rfl)
  rw [lg_entry_eq]
  generalize (lg_sl ([.int x0, .int x1]) ++ List.replicate (2 - (lg_sl ([.int x0, .int x1])).length) Slot.unset).toArray = ls at hl ⊢
  have hl : lv_has ls 2 [(0, .int x0), (1, .int x1)] := hl
  unfold fX7_has at h
  refine lv_iload_n hx hb dX7_has_0 rfl (lv_at hl 1 rfl) ?_
  refine lv_if_lt (tgt := 22) hx hb dX7_has_1 (by decide) (fun c1 => ?_) (fun c1 => ?_)
  · have h := (if_pos c1).symm.trans h
    refine lv_iconst (v := 0) hx hb dX7_has_22 (by decide) ?_
    obtain rfl := h
    exact e_z (v := 0) hx hb hr hlocks rfl hP hS dX7_has_23
  · have h := (if_neg c1).symm.trans h
    refine lv_iload_n hx hb dX7_has_4 rfl (lv_at hl 1 rfl) ?_
    refine lv_bipush (v := 32) hx hb dX7_has_5 (by decide) ?_
    refine lv_icmp_ge (tgt := 22) hx hb dX7_has_7 (by decide) (fun c2 => ?_) (fun c2 => ?_)
    · have h := (if_pos c2).symm.trans h
      refine lv_iconst (v := 0) hx hb dX7_has_22 (by decide) ?_
      obtain rfl := h
      exact e_z (v := 0) hx hb hr hlocks rfl hP hS dX7_has_23
    · have h := (if_neg c2).symm.trans h
      refine lv_iload_n hx hb dX7_has_10 rfl (lv_at hl 0 rfl) ?_
      refine lv_iload_n hx hb dX7_has_11 rfl (lv_at hl 1 rfl) ?_
      refine lv_iushr (v := (iushr x0 x1)) hx hb dX7_has_12 rfl ?_
      refine lv_iconst (v := 1) hx hb dX7_has_13 (by decide) ?_
      refine lv_iand hx hb dX7_has_14 ?_
      refine lv_if_eq (tgt := 22) hx hb dX7_has_15 (by decide) (fun c3 => ?_) (fun c3 => ?_)
      · have h := (if_pos c3).symm.trans h
        refine lv_iconst (v := 0) hx hb dX7_has_22 (by decide) ?_
        obtain rfl := h
        exact e_z (v := 0) hx hb hr hlocks rfl hP hS dX7_has_23
      · have h := (if_neg c3).symm.trans h
        refine lv_iconst (v := 1) hx hb dX7_has_18 (by decide) ?_
        refine lv_goto (tgt := 23) hx hb dX7_has_19 (by decide) ?_
        obtain rfl := h
        exact e_z (v := 1) hx hb hr hlocks rfl hP hS dX7_has_23
theorem nb_X7_has  (x0 : Int32) (x1 : Int32) : narrow .boolean (.int (fX7_has x0 x1)) = .int (fX7_has x0 x1) := by
  unfold fX7_has
  repeat (first | rfl | split)

noncomputable def fX7_arePlaces (x0 : Int32) : Int32 :=
  (if x0 < 0 then (0) else (if 7 < x0 then (0) else (1)))
set_option maxHeartbeats 1000000 in
set_option maxRecDepth 100000 in
theorem mX7_arePlaces (l : Launch) (dC : Nat → ClassId) (dI : Nat → Nat → Nat) (cyI cyO cyL : ClassId)   (x0 : Int32) (sz : Nat) (res : Int32) (h : fX7_arePlaces x0 = res) : Met l yX7_arePlaces (wsG yX7_arePlaces cX7_arePlaces 1 (some .boolean)) ({ frames := 0, cells := 0, slots := 0, locals := 0 }) (cP dC dI cyI cyO cyL sz [.int x0] ([] : va_W)) (cI dC dI res ([] : va_W) (va_A ([] : va_W) sz)) 0 0 (va_A ([] : va_W) sz) := by
  refine Met.ofW (cc := cX7_arePlaces) (maxL := 1) (ret := (some .boolean)) (by decide) rfl ?_
  intro p e s m args below meth c s₁ B hml hv
  obtain ⟨rfl, hsz, hP, hK, hD0⟩ := hv
  have hx := B.exec
  have hb := B.bytes
  have hr := B.returns
  have hts := atoms_spec (ws := wsG yX7_arePlaces cX7_arePlaces 1 (some .boolean)) B.pre
  have hown : s.vm.findClass RX7 = some m.cls := findClass_of_methodNamed B.named
  have hlocks := B.notSynchronized
  subst hsz
  have hD := hD0.self (sz := s.heap.size)
  generalize hAe : va_A ([] : va_W) s.heap.size = A at hD ⊢
  have hA : ∀ q : Nat, s.heap.size ≤ q → A q := fun q h => by rw [← hAe]; exact Or.inr h
  have hS : va_S A s.heap s.heap [] := va_S.rf
  have hl := lv_entry ([.int x0]) (n := 1) (Nat.le_of_ble_eq_true rfl)
  rw [lg_entry_eq]
  generalize (lg_sl ([.int x0]) ++ List.replicate (1 - (lg_sl ([.int x0])).length) Slot.unset).toArray = ls at hl ⊢
  have hl : lv_has ls 1 [(0, .int x0)] := hl
  unfold fX7_arePlaces at h
  refine lv_iload_n hx hb dX7_arePlaces_0 rfl (lv_at hl 0 rfl) ?_
  refine lv_if_lt (tgt := 14) hx hb dX7_arePlaces_1 (by decide) (fun c1 => ?_) (fun c1 => ?_)
  · have h := (if_pos c1).symm.trans h
    refine lv_iconst (v := 0) hx hb dX7_arePlaces_14 (by decide) ?_
    obtain rfl := h
    exact e_z (v := 0) hx hb hr hlocks rfl hP hS dX7_arePlaces_15
  · have h := (if_neg c1).symm.trans h
    refine lv_iload_n hx hb dX7_arePlaces_4 rfl (lv_at hl 0 rfl) ?_
    refine lv_bipush (v := 7) hx hb dX7_arePlaces_5 (by decide) ?_
    refine lv_icmp_gt (tgt := 14) hx hb dX7_arePlaces_7 (by decide) (fun c2 => ?_) (fun c2 => ?_)
    · have h := (if_pos c2).symm.trans h
      refine lv_iconst (v := 0) hx hb dX7_arePlaces_14 (by decide) ?_
      obtain rfl := h
      exact e_z (v := 0) hx hb hr hlocks rfl hP hS dX7_arePlaces_15
    · have h := (if_neg c2).symm.trans h
      refine lv_iconst (v := 1) hx hb dX7_arePlaces_10 (by decide) ?_
      refine lv_goto (tgt := 15) hx hb dX7_arePlaces_11 (by decide) ?_
      obtain rfl := h
      exact e_z (v := 1) hx hb hr hlocks rfl hP hS dX7_arePlaces_15
theorem nb_X7_arePlaces  (x0 : Int32) : narrow .boolean (.int (fX7_arePlaces x0)) = .int (fX7_arePlaces x0) := by
  unfold fX7_arePlaces
  repeat (first | rfl | split)

noncomputable def fJ6_bitCount_0f7a4 (x0 : Int32) : Int32 :=
  (((((((((x0 - ((iushr x0 1) &&& 1431655765)) &&& 858993459) + ((iushr (x0 - ((iushr x0 1) &&& 1431655765)) 2) &&& 858993459)) + (iushr (((x0 - ((iushr x0 1) &&& 1431655765)) &&& 858993459) + ((iushr (x0 - ((iushr x0 1) &&& 1431655765)) 2) &&& 858993459)) 4)) &&& 252645135) + (iushr (((((x0 - ((iushr x0 1) &&& 1431655765)) &&& 858993459) + ((iushr (x0 - ((iushr x0 1) &&& 1431655765)) 2) &&& 858993459)) + (iushr (((x0 - ((iushr x0 1) &&& 1431655765)) &&& 858993459) + ((iushr (x0 - ((iushr x0 1) &&& 1431655765)) 2) &&& 858993459)) 4)) &&& 252645135) 8)) + (iushr ((((((x0 - ((iushr x0 1) &&& 1431655765)) &&& 858993459) + ((iushr (x0 - ((iushr x0 1) &&& 1431655765)) 2) &&& 858993459)) + (iushr (((x0 - ((iushr x0 1) &&& 1431655765)) &&& 858993459) + ((iushr (x0 - ((iushr x0 1) &&& 1431655765)) 2) &&& 858993459)) 4)) &&& 252645135) + (iushr (((((x0 - ((iushr x0 1) &&& 1431655765)) &&& 858993459) + ((iushr (x0 - ((iushr x0 1) &&& 1431655765)) 2) &&& 858993459)) + (iushr (((x0 - ((iushr x0 1) &&& 1431655765)) &&& 858993459) + ((iushr (x0 - ((iushr x0 1) &&& 1431655765)) 2) &&& 858993459)) 4)) &&& 252645135) 8)) 16)) &&& 63))
set_option maxHeartbeats 1000000 in
set_option maxRecDepth 100000 in
theorem mJ6_bitCount_0f7a4 (l : Launch) (dC : Nat → ClassId) (dI : Nat → Nat → Nat) (cyI cyO cyL : ClassId)   (x0 : Int32) (sz : Nat) (res : Int32) (h : fJ6_bitCount_0f7a4 x0 = res) : Met l yJ6_bitCount_0f7a4 (wsG yJ6_bitCount_0f7a4 cJ6_bitCount_0f7a4 1 (some .int)) ({ frames := 0, cells := 0, slots := 0, locals := 0 }) (cP dC dI cyI cyO cyL sz [.int x0] ([] : va_W)) (cI dC dI res ([] : va_W) (va_A ([] : va_W) sz)) 0 0 (va_A ([] : va_W) sz) := by
  refine Met.ofW (cc := cJ6_bitCount_0f7a4) (maxL := 1) (ret := (some .int)) (by decide) rfl ?_
  intro p e s m args below meth c s₁ B hml hv
  obtain ⟨rfl, hsz, hP, hK, hD0⟩ := hv
  have hx := B.exec
  have hb := B.bytes
  have hr := B.returns
  have hts := atoms_spec (ws := wsG yJ6_bitCount_0f7a4 cJ6_bitCount_0f7a4 1 (some .int)) B.pre
  have hown : s.vm.findClass RJ6 = some m.cls := findClass_of_methodNamed B.named
  have hlocks := B.notSynchronized
  subst hsz
  have hD := hD0.self (sz := s.heap.size)
  generalize hAe : va_A ([] : va_W) s.heap.size = A at hD ⊢
  have hA : ∀ q : Nat, s.heap.size ≤ q → A q := fun q h => by rw [← hAe]; exact Or.inr h
  have hS : va_S A s.heap s.heap [] := va_S.rf
  have hl := lv_entry ([.int x0]) (n := 1) (Nat.le_of_ble_eq_true rfl)
  rw [lg_entry_eq]
  generalize (lg_sl ([.int x0]) ++ List.replicate (1 - (lg_sl ([.int x0])).length) Slot.unset).toArray = ls at hl ⊢
  have hl : lv_has ls 1 [(0, .int x0)] := hl
  unfold fJ6_bitCount_0f7a4 at h
  refine lv_iload_n hx hb dJ6_bitCount_0f7a4_0 rfl (lv_at hl 0 rfl) ?_
  refine lv_iload_n hx hb dJ6_bitCount_0f7a4_1 rfl (lv_at hl 0 rfl) ?_
  refine lv_iconst (v := 1) hx hb dJ6_bitCount_0f7a4_2 (by decide) ?_
  refine lv_iushr (v := (iushr x0 1)) hx hb dJ6_bitCount_0f7a4_3 rfl ?_
  refine lv_ldcw (v := 1431655765) hx hb hown (hts _ (gb_mem k_J6_265)) dJ6_bitCount_0f7a4_4 ?_
  refine lv_iand hx hb dJ6_bitCount_0f7a4_7 ?_
  refine lv_isub hx hb dJ6_bitCount_0f7a4_8 ?_
  refine lv_istore_n (lv' := [(0, .int (x0 - ((iushr x0 1) &&& 1431655765)))]) hx hb dJ6_bitCount_0f7a4_9 rfl hl (by decide) rfl (fun ls hl => ?_)
  refine lv_iload_n hx hb dJ6_bitCount_0f7a4_10 rfl (lv_at hl 0 rfl) ?_
  refine lv_ldcw (v := 858993459) hx hb hown (hts _ (gb_mem k_J6_266)) dJ6_bitCount_0f7a4_11 ?_
  refine lv_iand hx hb dJ6_bitCount_0f7a4_14 ?_
  refine lv_iload_n hx hb dJ6_bitCount_0f7a4_15 rfl (lv_at hl 0 rfl) ?_
  refine lv_iconst (v := 2) hx hb dJ6_bitCount_0f7a4_16 (by decide) ?_
  refine lv_iushr (v := (iushr (x0 - ((iushr x0 1) &&& 1431655765)) 2)) hx hb dJ6_bitCount_0f7a4_17 rfl ?_
  refine lv_ldcw (v := 858993459) hx hb hown (hts _ (gb_mem k_J6_266)) dJ6_bitCount_0f7a4_18 ?_
  refine lv_iand hx hb dJ6_bitCount_0f7a4_21 ?_
  refine lv_iadd hx hb dJ6_bitCount_0f7a4_22 ?_
  refine lv_istore_n (lv' := [(0, .int (((x0 - ((iushr x0 1) &&& 1431655765)) &&& 858993459) + ((iushr (x0 - ((iushr x0 1) &&& 1431655765)) 2) &&& 858993459)))]) hx hb dJ6_bitCount_0f7a4_23 rfl hl (by decide) rfl (fun ls hl => ?_)
  refine lv_iload_n hx hb dJ6_bitCount_0f7a4_24 rfl (lv_at hl 0 rfl) ?_
  refine lv_iload_n hx hb dJ6_bitCount_0f7a4_25 rfl (lv_at hl 0 rfl) ?_
  refine lv_iconst (v := 4) hx hb dJ6_bitCount_0f7a4_26 (by decide) ?_
  refine lv_iushr (v := (iushr (((x0 - ((iushr x0 1) &&& 1431655765)) &&& 858993459) + ((iushr (x0 - ((iushr x0 1) &&& 1431655765)) 2) &&& 858993459)) 4)) hx hb dJ6_bitCount_0f7a4_27 rfl ?_
  refine lv_iadd hx hb dJ6_bitCount_0f7a4_28 ?_
  refine lv_ldcw (v := 252645135) hx hb hown (hts _ (gb_mem k_J6_267)) dJ6_bitCount_0f7a4_29 ?_
  refine lv_iand hx hb dJ6_bitCount_0f7a4_32 ?_
  refine lv_istore_n (lv' := [(0, .int (((((x0 - ((iushr x0 1) &&& 1431655765)) &&& 858993459) + ((iushr (x0 - ((iushr x0 1) &&& 1431655765)) 2) &&& 858993459)) + (iushr (((x0 - ((iushr x0 1) &&& 1431655765)) &&& 858993459) + ((iushr (x0 - ((iushr x0 1) &&& 1431655765)) 2) &&& 858993459)) 4)) &&& 252645135))]) hx hb dJ6_bitCount_0f7a4_33 rfl hl (by decide) rfl (fun ls hl => ?_)
  refine lv_iload_n hx hb dJ6_bitCount_0f7a4_34 rfl (lv_at hl 0 rfl) ?_
  refine lv_iload_n hx hb dJ6_bitCount_0f7a4_35 rfl (lv_at hl 0 rfl) ?_
  refine lv_bipush (v := 8) hx hb dJ6_bitCount_0f7a4_36 (by decide) ?_
  refine lv_iushr (v := (iushr (((((x0 - ((iushr x0 1) &&& 1431655765)) &&& 858993459) + ((iushr (x0 - ((iushr x0 1) &&& 1431655765)) 2) &&& 858993459)) + (iushr (((x0 - ((iushr x0 1) &&& 1431655765)) &&& 858993459) + ((iushr (x0 - ((iushr x0 1) &&& 1431655765)) 2) &&& 858993459)) 4)) &&& 252645135) 8)) hx hb dJ6_bitCount_0f7a4_38 rfl ?_
  refine lv_iadd hx hb dJ6_bitCount_0f7a4_39 ?_
  refine lv_istore_n (lv' := [(0, .int ((((((x0 - ((iushr x0 1) &&& 1431655765)) &&& 858993459) + ((iushr (x0 - ((iushr x0 1) &&& 1431655765)) 2) &&& 858993459)) + (iushr (((x0 - ((iushr x0 1) &&& 1431655765)) &&& 858993459) + ((iushr (x0 - ((iushr x0 1) &&& 1431655765)) 2) &&& 858993459)) 4)) &&& 252645135) + (iushr (((((x0 - ((iushr x0 1) &&& 1431655765)) &&& 858993459) + ((iushr (x0 - ((iushr x0 1) &&& 1431655765)) 2) &&& 858993459)) + (iushr (((x0 - ((iushr x0 1) &&& 1431655765)) &&& 858993459) + ((iushr (x0 - ((iushr x0 1) &&& 1431655765)) 2) &&& 858993459)) 4)) &&& 252645135) 8)))]) hx hb dJ6_bitCount_0f7a4_40 rfl hl (by decide) rfl (fun ls hl => ?_)
  refine lv_iload_n hx hb dJ6_bitCount_0f7a4_41 rfl (lv_at hl 0 rfl) ?_
  refine lv_iload_n hx hb dJ6_bitCount_0f7a4_42 rfl (lv_at hl 0 rfl) ?_
  refine lv_bipush (v := 16) hx hb dJ6_bitCount_0f7a4_43 (by decide) ?_
  refine lv_iushr (v := (iushr ((((((x0 - ((iushr x0 1) &&& 1431655765)) &&& 858993459) + ((iushr (x0 - ((iushr x0 1) &&& 1431655765)) 2) &&& 858993459)) + (iushr (((x0 - ((iushr x0 1) &&& 1431655765)) &&& 858993459) + ((iushr (x0 - ((iushr x0 1) &&& 1431655765)) 2) &&& 858993459)) 4)) &&& 252645135) + (iushr (((((x0 - ((iushr x0 1) &&& 1431655765)) &&& 858993459) + ((iushr (x0 - ((iushr x0 1) &&& 1431655765)) 2) &&& 858993459)) + (iushr (((x0 - ((iushr x0 1) &&& 1431655765)) &&& 858993459) + ((iushr (x0 - ((iushr x0 1) &&& 1431655765)) 2) &&& 858993459)) 4)) &&& 252645135) 8)) 16)) hx hb dJ6_bitCount_0f7a4_45 rfl ?_
  refine lv_iadd hx hb dJ6_bitCount_0f7a4_46 ?_
  refine lv_istore_n (lv' := [(0, .int (((((((x0 - ((iushr x0 1) &&& 1431655765)) &&& 858993459) + ((iushr (x0 - ((iushr x0 1) &&& 1431655765)) 2) &&& 858993459)) + (iushr (((x0 - ((iushr x0 1) &&& 1431655765)) &&& 858993459) + ((iushr (x0 - ((iushr x0 1) &&& 1431655765)) 2) &&& 858993459)) 4)) &&& 252645135) + (iushr (((((x0 - ((iushr x0 1) &&& 1431655765)) &&& 858993459) + ((iushr (x0 - ((iushr x0 1) &&& 1431655765)) 2) &&& 858993459)) + (iushr (((x0 - ((iushr x0 1) &&& 1431655765)) &&& 858993459) + ((iushr (x0 - ((iushr x0 1) &&& 1431655765)) 2) &&& 858993459)) 4)) &&& 252645135) 8)) + (iushr ((((((x0 - ((iushr x0 1) &&& 1431655765)) &&& 858993459) + ((iushr (x0 - ((iushr x0 1) &&& 1431655765)) 2) &&& 858993459)) + (iushr (((x0 - ((iushr x0 1) &&& 1431655765)) &&& 858993459) + ((iushr (x0 - ((iushr x0 1) &&& 1431655765)) 2) &&& 858993459)) 4)) &&& 252645135) + (iushr (((((x0 - ((iushr x0 1) &&& 1431655765)) &&& 858993459) + ((iushr (x0 - ((iushr x0 1) &&& 1431655765)) 2) &&& 858993459)) + (iushr (((x0 - ((iushr x0 1) &&& 1431655765)) &&& 858993459) + ((iushr (x0 - ((iushr x0 1) &&& 1431655765)) 2) &&& 858993459)) 4)) &&& 252645135) 8)) 16)))]) hx hb dJ6_bitCount_0f7a4_47 rfl hl (by decide) rfl (fun ls hl => ?_)
  refine lv_iload_n hx hb dJ6_bitCount_0f7a4_48 rfl (lv_at hl 0 rfl) ?_
  refine lv_bipush (v := 63) hx hb dJ6_bitCount_0f7a4_49 (by decide) ?_
  refine lv_iand hx hb dJ6_bitCount_0f7a4_51 ?_
  obtain rfl := h
  exact e_i hx hb hr hlocks hP hS dJ6_bitCount_0f7a4_52

noncomputable def fX4_at (n : Nat) (cells : Nat → Int32) (x1 : Int32) : Option (Int32) :=
  (if x1 < 0 then (some 0) else (if (nI n) ≤ x1 then (some 0) else (if x1 < 0 ∨ n ≤ x1.toNatClampNeg then none else (some (cells x1.toNatClampNeg)))))
set_option maxHeartbeats 1000000 in
set_option maxRecDepth 100000 in
theorem mX4_at (l : Launch) (dC : Nat → ClassId) (dI : Nat → Nat → Nat) (cyI cyO cyL : ClassId) (r0 r1 : Nat) (n : Nat) (cells : Nat → Int32) (x1 : Int32) (sz : Nat) (res : Int32) (h : fX4_at n cells x1 = some res) : Met l yX4_at (wsG yX4_at cX4_at 2 (some .int)) ({ frames := 0, cells := 0, slots := 0, locals := 0 }) (cP dC dI cyI cyO cyL sz [.ref r0, .int x1] (rowW cyI r0 r1 n cells)) (cI dC dI res (rowW cyI r0 r1 n cells) (va_A (rowW cyI r0 r1 n cells) sz)) 0 0 (va_A (rowW cyI r0 r1 n cells) sz) := by
  refine Met.ofW (cc := cX4_at) (maxL := 2) (ret := (some .int)) (by decide) rfl ?_
  intro p e s m args below meth c s₁ B hml hv
  obtain ⟨rfl, hsz, hP, hK, hD0⟩ := hv
  have hx := B.exec
  have hb := B.bytes
  have hr := B.returns
  have hts := atoms_spec (ws := wsG yX4_at cX4_at 2 (some .int)) B.pre
  have hown : s.vm.findClass RX4 = some m.cls := findClass_of_methodNamed B.named
  have hlocks := B.notSynchronized
  subst hsz
  have hD := hD0.self (sz := s.heap.size)
  generalize hAe : va_A (rowW cyI r0 r1 n cells) s.heap.size = A at hD ⊢
  have hA : ∀ q : Nat, s.heap.size ≤ q → A q := fun q h => by rw [← hAe]; exact Or.inr h
  have hS : va_S A s.heap s.heap [] := va_S.rf
  have hl := lv_entry ([.ref r0, .int x1]) (n := 2) (Nat.le_of_ble_eq_true rfl)
  rw [lg_entry_eq]
  generalize (lg_sl ([.ref r0, .int x1]) ++ List.replicate (2 - (lg_sl ([.ref r0, .int x1])).length) Slot.unset).toArray = ls at hl ⊢
  have hl : lv_has ls 2 [(0, .ref r0), (1, .int x1)] := hl
  unfold fX4_at at h
  refine lv_iload_n hx hb dX4_at_0 rfl (lv_at hl 1 rfl) ?_
  refine lv_if_lt (tgt := 22) hx hb dX4_at_1 (by decide) (fun c1 => ?_) (fun c1 => ?_)
  · have h := (if_pos c1).symm.trans h
    refine lv_iconst (v := 0) hx hb dX4_at_22 (by decide) ?_
    obtain rfl := Option.some.inj h
    exact e_i hx hb hr hlocks hP hS dX4_at_23
  · have h := (if_neg c1).symm.trans h
    refine lv_iload_n hx hb dX4_at_4 rfl (lv_at hl 1 rfl) ?_
    refine lv_aload_n hx hb dX4_at_5 rfl (lv_at hl 0 rfl) ?_
    refine va_get (D := (dC, dI)) (ci := 4) (v := .ref r1) (C := RX4) (T := TX4) (N := 1) hx hb hts (fun w h9 => gb_mem (lay_X4 w h9)) hown hK.1 hP 0 rfl rfl 0 (by decide) (hts _ (gb_mem fl_X4_13)) (fun _ h9 => h9) rfl dX4_at_6 ?_
    refine va_alen (v := (nI n)) hx hb hK.1 hP 1 0 rfl rfl rfl dX4_at_9 ?_
    refine lv_icmp_ge (tgt := 22) hx hb dX4_at_10 (by decide) (fun c2 => ?_) (fun c2 => ?_)
    · have h := (if_pos c2).symm.trans h
      refine lv_iconst (v := 0) hx hb dX4_at_22 (by decide) ?_
      obtain rfl := Option.some.inj h
      exact e_i hx hb hr hlocks hP hS dX4_at_23
    · have h := (if_neg c2).symm.trans h
      refine lv_aload_n hx hb dX4_at_13 rfl (lv_at hl 0 rfl) ?_
      refine va_get (D := (dC, dI)) (ci := 4) (v := .ref r1) (C := RX4) (T := TX4) (N := 1) hx hb hts (fun w h9 => gb_mem (lay_X4 w h9)) hown hK.1 hP 0 rfl rfl 0 (by decide) (hts _ (gb_mem fl_X4_13)) (fun _ h9 => h9) rfl dX4_at_14 ?_
      refine lv_iload_n hx hb dX4_at_17 rfl (lv_at hl 1 rfl) ?_
      obtain ⟨ni3, h⟩ := ifn h
      refine va_iald hx hb hK.1 hP 1 0 rfl rfl ni3 dX4_at_18 ?_
      refine lv_goto (tgt := 23) hx hb dX4_at_19 (by decide) ?_
      obtain rfl := Option.some.inj h
      exact e_i hx hb hr hlocks hP hS dX4_at_23
theorem qX4_at (n : Nat) (hn : n < 2 ^ 31) (cells : Nat → Int32) (x1 : Int32) : fX4_at n cells x1 = some (rAt n cells x1) := by
  unfold fX4_at rAt
  by_cases h1 : x1 < 0
  · simp [h1]
  · by_cases h2 : nI n ≤ x1
    · simp [h1, h2]
    · obtain ⟨j, hj, -, -, hc, -⟩ := pk_mu h1 h2 hn
      rw [if_neg h1, if_neg h2, if_neg h1, if_neg h2]
      rw [if_neg (by intro q; rcases q with q | q; exact h1 q; omega)]
theorem tX4_at (l : Launch) (dC : Nat → ClassId) (dI : Nat → Nat → Nat) (cyI cyO cyL : ClassId) (r0 r1 : Nat) (n : Nat) (cells : Nat → Int32) (x1 : Int32) (sz : Nat) (res : Int32) (h : rAt n cells x1 = res) (hn : n < 2 ^ 31) : Met l yX4_at (wsG yX4_at cX4_at 2 (some .int)) ({ frames := 0, cells := 0, slots := 0, locals := 0 }) (cP dC dI cyI cyO cyL sz [.ref r0, .int x1] (rowW cyI r0 r1 n cells)) (cI dC dI (rAt n cells x1) (rowW cyI r0 r1 n cells) (va_A (rowW cyI r0 r1 n cells) sz)) 0 0 (va_A (rowW cyI r0 r1 n cells) sz) := by
  subst h
  exact mX4_at l dC dI cyI cyO cyL r0 r1 n cells x1 sz _ (qX4_at n hn cells x1)

noncomputable def fX4_set (n : Nat) (cells : Nat → Int32) (x1 : Int32) (x2 : Int32) : Option ((Nat → Int32)) :=
  (if x1 < 0 then (some cells) else (if (nI n) ≤ x1 then (some cells) else (if x1 < 0 ∨ n ≤ x1.toNatClampNeg then none else (some (upd cells x1.toNatClampNeg x2)))))
set_option maxHeartbeats 1000000 in
set_option maxRecDepth 100000 in
theorem mX4_set (l : Launch) (dC : Nat → ClassId) (dI : Nat → Nat → Nat) (cyI cyO cyL : ClassId) (r0 r1 : Nat) (n : Nat) (cells : Nat → Int32) (x1 : Int32) (x2 : Int32) (sz : Nat) (res : (Nat → Int32)) (h : fX4_set n cells x1 x2 = some res) : Met l yX4_set (wsG yX4_set cX4_set 3 none) ({ frames := 0, cells := 0, slots := 0, locals := 0 }) (cP dC dI cyI cyO cyL sz [.ref r0, .int x1, .int x2] (rowW cyI r0 r1 n cells)) (cV dC dI (rowW cyI r0 r1 n res) (va_A (rowW cyI r0 r1 n cells) sz)) 0 0 (va_A (rowW cyI r0 r1 n cells) sz) := by
  refine Met.ofW (cc := cX4_set) (maxL := 3) (ret := none) (by decide) rfl ?_
  intro p e s m args below meth c s₁ B hml hv
  obtain ⟨rfl, hsz, hP, hK, hD0⟩ := hv
  have hx := B.exec
  have hb := B.bytes
  have hr := B.returns
  have hts := atoms_spec (ws := wsG yX4_set cX4_set 3 none) B.pre
  have hown : s.vm.findClass RX4 = some m.cls := findClass_of_methodNamed B.named
  have hlocks := B.notSynchronized
  subst hsz
  have hD := hD0.self (sz := s.heap.size)
  generalize hAe : va_A (rowW cyI r0 r1 n cells) s.heap.size = A at hD ⊢
  have hA : ∀ q : Nat, s.heap.size ≤ q → A q := fun q h => by rw [← hAe]; exact Or.inr h
  have hS : va_S A s.heap s.heap [] := va_S.rf
  have hl := lv_entry ([.ref r0, .int x1, .int x2]) (n := 3) (Nat.le_of_ble_eq_true rfl)
  rw [lg_entry_eq]
  generalize (lg_sl ([.ref r0, .int x1, .int x2]) ++ List.replicate (3 - (lg_sl ([.ref r0, .int x1, .int x2])).length) Slot.unset).toArray = ls at hl ⊢
  have hl : lv_has ls 3 [(0, .ref r0), (1, .int x1), (2, .int x2)] := hl
  unfold fX4_set at h
  refine lv_iload_n hx hb dX4_set_0 rfl (lv_at hl 1 rfl) ?_
  refine lv_if_lt (tgt := 20) hx hb dX4_set_1 (by decide) (fun c1 => ?_) (fun c1 => ?_)
  · have h := (if_pos c1).symm.trans h
    obtain rfl := Option.some.inj h
    exact e_v hx hb hr hlocks hP hS dX4_set_20
  · have h := (if_neg c1).symm.trans h
    refine lv_iload_n hx hb dX4_set_4 rfl (lv_at hl 1 rfl) ?_
    refine lv_aload_n hx hb dX4_set_5 rfl (lv_at hl 0 rfl) ?_
    refine va_get (D := (dC, dI)) (ci := 4) (v := .ref r1) (C := RX4) (T := TX4) (N := 1) hx hb hts (fun w h9 => gb_mem (lay_X4 w h9)) hown hK.1 hP 0 rfl rfl 0 (by decide) (hts _ (gb_mem fl_X4_13)) (fun _ h9 => h9) rfl dX4_set_6 ?_
    refine va_alen (v := (nI n)) hx hb hK.1 hP 1 0 rfl rfl rfl dX4_set_9 ?_
    refine lv_icmp_ge (tgt := 20) hx hb dX4_set_10 (by decide) (fun c2 => ?_) (fun c2 => ?_)
    · have h := (if_pos c2).symm.trans h
      obtain rfl := Option.some.inj h
      exact e_v hx hb hr hlocks hP hS dX4_set_20
    · have h := (if_neg c2).symm.trans h
      refine lv_aload_n hx hb dX4_set_13 rfl (lv_at hl 0 rfl) ?_
      refine va_get (D := (dC, dI)) (ci := 4) (v := .ref r1) (C := RX4) (T := TX4) (N := 1) hx hb hts (fun w h9 => gb_mem (lay_X4 w h9)) hown hK.1 hP 0 rfl rfl 0 (by decide) (hts _ (gb_mem fl_X4_13)) (fun _ h9 => h9) rfl dX4_set_14 ?_
      refine lv_iload_n hx hb dX4_set_17 rfl (lv_at hl 1 rfl) ?_
      refine lv_iload_n hx hb dX4_set_18 rfl (lv_at hl 2 rfl) ?_
      obtain ⟨ni3, h⟩ := ifn h
      refine va_iast hx hb hK.1 hP hD hS 1 0 rfl rfl ni3 dX4_set_19 (fun H locs hP hD hS => ?_)
      have hP : va_P (dC, dI) vwCl (rowW cyI r0 r1 n (upd cells x1.toNatClampNeg x2)) H := hP
      have hD : va_D A (rowW cyI r0 r1 n (upd cells x1.toNatClampNeg x2)) := hD
      obtain rfl := Option.some.inj h
      exact e_v hx hb hr hlocks hP hS dX4_set_20
theorem qX4_set (n : Nat) (hn : n < 2 ^ 31) (cells : Nat → Int32) (x1 x2 : Int32) : fX4_set n cells x1 x2 = some (rSet n cells x1 x2) := by
  unfold fX4_set rSet
  by_cases h1 : x1 < 0
  · simp [h1]
  · by_cases h2 : nI n ≤ x1
    · simp [h1, h2]
    · obtain ⟨j, hj, -, -, hc, -⟩ := pk_mu h1 h2 hn
      rw [if_neg h1, if_neg h2, if_neg h1, if_neg h2]
      rw [if_neg (by intro q; rcases q with q | q; exact h1 q; omega)]
theorem tX4_set (l : Launch) (dC : Nat → ClassId) (dI : Nat → Nat → Nat) (cyI cyO cyL : ClassId) (r0 r1 : Nat) (n : Nat) (cells : Nat → Int32) (x1 x2 : Int32) (sz : Nat) (res : Nat → Int32) (h : rSet n cells x1 x2 = res) (hn : n < 2 ^ 31) : Met l yX4_set (wsG yX4_set cX4_set 3 none) ({ frames := 0, cells := 0, slots := 0, locals := 0 }) (cP dC dI cyI cyO cyL sz [.ref r0, .int x1, .int x2] (rowW cyI r0 r1 n cells)) (cV dC dI (rowW cyI r0 r1 n (rSet n cells x1 x2)) (va_A (rowW cyI r0 r1 n cells) sz)) 0 0 (va_A (rowW cyI r0 r1 n cells) sz) := by
  subst h
  exact mX4_set l dC dI cyI cyO cyL r0 r1 n cells x1 x2 sz _ (qX4_set n hn cells x1 x2)

noncomputable def fX4_add (n : Nat) (cells : Nat → Int32) (x1 : Int32) (x2 : Int32) : Option ((Nat → Int32)) :=
  (if x1 < 0 then (some cells) else (if (nI n) ≤ x1 then (some cells) else (if x1 < 0 ∨ n ≤ x1.toNatClampNeg then none else (if x1 < 0 ∨ n ≤ x1.toNatClampNeg then none else (some (upd cells x1.toNatClampNeg ((cells x1.toNatClampNeg) + x2)))))))
set_option maxHeartbeats 1000000 in
set_option maxRecDepth 100000 in
theorem mX4_add (l : Launch) (dC : Nat → ClassId) (dI : Nat → Nat → Nat) (cyI cyO cyL : ClassId) (r0 r1 : Nat) (n : Nat) (cells : Nat → Int32) (x1 : Int32) (x2 : Int32) (sz : Nat) (res : (Nat → Int32)) (h : fX4_add n cells x1 x2 = some res) : Met l yX4_add (wsG yX4_add cX4_add 3 none) ({ frames := 0, cells := 0, slots := 0, locals := 0 }) (cP dC dI cyI cyO cyL sz [.ref r0, .int x1, .int x2] (rowW cyI r0 r1 n cells)) (cV dC dI (rowW cyI r0 r1 n res) (va_A (rowW cyI r0 r1 n cells) sz)) 0 0 (va_A (rowW cyI r0 r1 n cells) sz) := by
  refine Met.ofW (cc := cX4_add) (maxL := 3) (ret := none) (by decide) rfl ?_
  intro p e s m args below meth c s₁ B hml hv
  obtain ⟨rfl, hsz, hP, hK, hD0⟩ := hv
  have hx := B.exec
  have hb := B.bytes
  have hr := B.returns
  have hts := atoms_spec (ws := wsG yX4_add cX4_add 3 none) B.pre
  have hown : s.vm.findClass RX4 = some m.cls := findClass_of_methodNamed B.named
  have hlocks := B.notSynchronized
  subst hsz
  have hD := hD0.self (sz := s.heap.size)
  generalize hAe : va_A (rowW cyI r0 r1 n cells) s.heap.size = A at hD ⊢
  have hA : ∀ q : Nat, s.heap.size ≤ q → A q := fun q h => by rw [← hAe]; exact Or.inr h
  have hS : va_S A s.heap s.heap [] := va_S.rf
  have hl := lv_entry ([.ref r0, .int x1, .int x2]) (n := 3) (Nat.le_of_ble_eq_true rfl)
  rw [lg_entry_eq]
  generalize (lg_sl ([.ref r0, .int x1, .int x2]) ++ List.replicate (3 - (lg_sl ([.ref r0, .int x1, .int x2])).length) Slot.unset).toArray = ls at hl ⊢
  have hl : lv_has ls 3 [(0, .ref r0), (1, .int x1), (2, .int x2)] := hl
  unfold fX4_add at h
  refine lv_iload_n hx hb dX4_add_0 rfl (lv_at hl 1 rfl) ?_
  refine lv_if_lt (tgt := 23) hx hb dX4_add_1 (by decide) (fun c1 => ?_) (fun c1 => ?_)
  · have h := (if_pos c1).symm.trans h
    obtain rfl := Option.some.inj h
    exact e_v hx hb hr hlocks hP hS dX4_add_23
  · have h := (if_neg c1).symm.trans h
    refine lv_iload_n hx hb dX4_add_4 rfl (lv_at hl 1 rfl) ?_
    refine lv_aload_n hx hb dX4_add_5 rfl (lv_at hl 0 rfl) ?_
    refine va_get (D := (dC, dI)) (ci := 4) (v := .ref r1) (C := RX4) (T := TX4) (N := 1) hx hb hts (fun w h9 => gb_mem (lay_X4 w h9)) hown hK.1 hP 0 rfl rfl 0 (by decide) (hts _ (gb_mem fl_X4_13)) (fun _ h9 => h9) rfl dX4_add_6 ?_
    refine va_alen (v := (nI n)) hx hb hK.1 hP 1 0 rfl rfl rfl dX4_add_9 ?_
    refine lv_icmp_ge (tgt := 23) hx hb dX4_add_10 (by decide) (fun c2 => ?_) (fun c2 => ?_)
    · have h := (if_pos c2).symm.trans h
      obtain rfl := Option.some.inj h
      exact e_v hx hb hr hlocks hP hS dX4_add_23
    · have h := (if_neg c2).symm.trans h
      refine lv_aload_n hx hb dX4_add_13 rfl (lv_at hl 0 rfl) ?_
      refine va_get (D := (dC, dI)) (ci := 4) (v := .ref r1) (C := RX4) (T := TX4) (N := 1) hx hb hts (fun w h9 => gb_mem (lay_X4 w h9)) hown hK.1 hP 0 rfl rfl 0 (by decide) (hts _ (gb_mem fl_X4_13)) (fun _ h9 => h9) rfl dX4_add_14 ?_
      refine lv_iload_n hx hb dX4_add_17 rfl (lv_at hl 1 rfl) ?_
      refine lv_dup2_11 hx hb dX4_add_18 rfl rfl ?_
      obtain ⟨ni3, h⟩ := ifn h
      refine va_iald hx hb hK.1 hP 1 0 rfl rfl ni3 dX4_add_19 ?_
      refine lv_iload_n hx hb dX4_add_20 rfl (lv_at hl 2 rfl) ?_
      refine lv_iadd hx hb dX4_add_21 ?_
      obtain ⟨ni4, h⟩ := ifn h
      refine va_iast hx hb hK.1 hP hD hS 1 0 rfl rfl ni4 dX4_add_22 (fun H locs hP hD hS => ?_)
      have hP : va_P (dC, dI) vwCl (rowW cyI r0 r1 n (upd cells x1.toNatClampNeg ((cells x1.toNatClampNeg) + x2))) H := hP
      have hD : va_D A (rowW cyI r0 r1 n (upd cells x1.toNatClampNeg ((cells x1.toNatClampNeg) + x2))) := hD
      obtain rfl := Option.some.inj h
      exact e_v hx hb hr hlocks hP hS dX4_add_23
theorem qX4_add (n : Nat) (hn : n < 2 ^ 31) (cells : Nat → Int32) (x1 x2 : Int32) : fX4_add n cells x1 x2 = some (rAdd n cells x1 x2) := by
  unfold fX4_add rAdd
  by_cases h1 : x1 < 0
  · simp [h1]
  · by_cases h2 : nI n ≤ x1
    · simp [h1, h2]
    · obtain ⟨j, hj, -, -, hc, -⟩ := pk_mu h1 h2 hn
      rw [if_neg h1, if_neg h2, if_neg h1, if_neg h2]
      rw [if_neg (by intro q; rcases q with q | q; exact h1 q; omega)]
      first | rfl | rw [if_neg (by intro q; rcases q with q | q; exact h1 q; omega)]
theorem tX4_add (l : Launch) (dC : Nat → ClassId) (dI : Nat → Nat → Nat) (cyI cyO cyL : ClassId) (r0 r1 : Nat) (n : Nat) (cells : Nat → Int32) (x1 x2 : Int32) (sz : Nat) (res : Nat → Int32) (h : rAdd n cells x1 x2 = res) (hn : n < 2 ^ 31) : Met l yX4_add (wsG yX4_add cX4_add 3 none) ({ frames := 0, cells := 0, slots := 0, locals := 0 }) (cP dC dI cyI cyO cyL sz [.ref r0, .int x1, .int x2] (rowW cyI r0 r1 n cells)) (cV dC dI (rowW cyI r0 r1 n (rAdd n cells x1 x2)) (va_A (rowW cyI r0 r1 n cells) sz)) 0 0 (va_A (rowW cyI r0 r1 n cells) sz) := by
  subst h
  exact mX4_add l dC dI cyI cyO cyL r0 r1 n cells x1 x2 sz _ (qX4_add n hn cells x1 x2)
def rFill (n : Nat) (f : Nat → Int32) (v : Int32) : Nat → Int32 := fun k => if k < n then v else f k
def rCopy (n : Nat) (f g : Nat → Int32) : Nat → Int32 := fun k => if k < n then g k else f k
noncomputable def fX4_fill_b2 (n : Nat) : Nat → (Nat → Int32) → Int32 → Int32 → Option ((Nat → Int32))
  | 0, _, _, _ => none
  | fuel + 1, cells, y1, y2 =>
  (if (nI n) ≤ y2 then (some cells) else (if y2 < 0 ∨ n ≤ y2.toNatClampNeg then none else fX4_fill_b2 n fuel (upd cells y2.toNatClampNeg y1) y1 (y2 + 1)))

noncomputable def fX4_fill (n : Nat) (cells : Nat → Int32) (x1 : Int32) : Option ((Nat → Int32)) :=
  fX4_fill_b2 n 6000 cells x1 0
set_option maxHeartbeats 1000000 in
set_option maxRecDepth 100000 in
theorem mX4_fill (l : Launch) (dC : Nat → ClassId) (dI : Nat → Nat → Nat) (cyI cyO cyL : ClassId) (r0 r1 : Nat) (n : Nat) (cells : Nat → Int32) (x1 : Int32) (sz : Nat) (res : (Nat → Int32)) (h : fX4_fill n cells x1 = some res) : Met l yX4_fill (wsG yX4_fill cX4_fill 3 none) ({ frames := 0, cells := 0, slots := 0, locals := 0 }) (cP dC dI cyI cyO cyL sz [.ref r0, .int x1] (rowW cyI r0 r1 n cells)) (cV dC dI (rowW cyI r0 r1 n res) (va_A (rowW cyI r0 r1 n cells) sz)) 0 0 (va_A (rowW cyI r0 r1 n cells) sz) := by
  refine Met.ofW (cc := cX4_fill) (maxL := 3) (ret := none) (by decide) rfl ?_
  intro p e s m args below meth c s₁ B hml hv
  obtain ⟨rfl, hsz, hP, hK, hD0⟩ := hv
  have hx := B.exec
  have hb := B.bytes
  have hr := B.returns
  have hts := atoms_spec (ws := wsG yX4_fill cX4_fill 3 none) B.pre
  have hown : s.vm.findClass RX4 = some m.cls := findClass_of_methodNamed B.named
  have hlocks := B.notSynchronized
  subst hsz
  have hD := hD0.self (sz := s.heap.size)
  generalize hAe : va_A (rowW cyI r0 r1 n cells) s.heap.size = A at hD ⊢
  have hA : ∀ q : Nat, s.heap.size ≤ q → A q := fun q h => by rw [← hAe]; exact Or.inr h
  have hS : va_S A s.heap s.heap [] := va_S.rf
  have kB2 : ∀ (fuel : Nat) (cells : Nat → Int32) (y1 : Int32) (y2 : Int32), fX4_fill_b2 n fuel cells y1 y2 = some res → ∀ (H : Heap) (locs : List Loc), va_P (dC, dI) vwCl (rowW cyI r0 r1 n cells) H → va_D A (rowW cyI r0 r1 n cells) → va_S A s.heap H locs → ∀ ls : Array Slot, lv_has ls 3 [(0, .ref r0), (1, .int y1), (2, .int y2)] → W p l e (headSpec (wsG yX4_fill cX4_fill 3 none) ({ frames := 0, cells := 0, slots := 0, locals := 0 })).room s m (([.ref r0, .int x1] : List Value).toArray) below meth c H locs 0 0 (MQ below (cV dC dI (rowW cyI r0 r1 n res) A) ([.ref r0, .int x1] : List Value).toArray s 0 0 A) (F0 m 2 ls []) := by
    intro fuel
    induction fuel with
    | zero => intro cells y1 y2 h; rw [fX4_fill_b2] at h; cases h
    | succ fuel ih =>
      intro cells y1 y2 h H locs hP hD hS ls hl
      rw [fX4_fill_b2] at h
      refine lv_iload_n hx hb dX4_fill_2 rfl (lv_at hl 2 rfl) ?_
      refine lv_aload_n hx hb dX4_fill_3 rfl (lv_at hl 0 rfl) ?_
      refine va_get (D := (dC, dI)) (ci := 4) (v := .ref r1) (C := RX4) (T := TX4) (N := 1) hx hb hts (fun w h9 => gb_mem (lay_X4 w h9)) hown hK.1 hP 0 rfl rfl 0 (by decide) (hts _ (gb_mem fl_X4_13)) (fun _ h9 => h9) rfl dX4_fill_4 ?_
      refine va_alen (v := (nI n)) hx hb hK.1 hP 1 0 rfl rfl rfl dX4_fill_7 ?_
      refine lv_icmp_ge (tgt := 24) hx hb dX4_fill_8 (by decide) (fun c1 => ?_) (fun c1 => ?_)
      · have h := (if_pos c1).symm.trans h
        obtain rfl := Option.some.inj h
        exact e_v hx hb hr hlocks hP hS dX4_fill_24
      · have h := (if_neg c1).symm.trans h
        refine lv_aload_n hx hb dX4_fill_11 rfl (lv_at hl 0 rfl) ?_
        refine va_get (D := (dC, dI)) (ci := 4) (v := .ref r1) (C := RX4) (T := TX4) (N := 1) hx hb hts (fun w h9 => gb_mem (lay_X4 w h9)) hown hK.1 hP 0 rfl rfl 0 (by decide) (hts _ (gb_mem fl_X4_13)) (fun _ h9 => h9) rfl dX4_fill_12 ?_
        refine lv_iload_n hx hb dX4_fill_15 rfl (lv_at hl 2 rfl) ?_
        refine lv_iload_n hx hb dX4_fill_16 rfl (lv_at hl 1 rfl) ?_
        obtain ⟨ni2, h⟩ := ifn h
        refine va_iast hx hb hK.1 hP hD hS 1 0 rfl rfl ni2 dX4_fill_17 (fun H locs hP hD hS => ?_)
        have hP : va_P (dC, dI) vwCl (rowW cyI r0 r1 n (upd cells y2.toNatClampNeg y1)) H := hP
        have hD : va_D A (rowW cyI r0 r1 n (upd cells y2.toNatClampNeg y1)) := hD
        refine lv_iinc (v := (y2 + 1)) (lv' := [(2, .int (y2 + 1)), (0, .ref r0), (1, .int y1)]) hx hb dX4_fill_18 hl (k := 2) rfl rfl (by decide) rfl (fun ls hl => ?_)
        refine lv_goto (tgt := 2) hx hb dX4_fill_21 (by decide) ?_
        exact ih (upd cells y2.toNatClampNeg y1) y1 (y2 + 1) h _ _ hP hD hS ls (lv_sub hl [1, 2, 0] rfl)
  have hl := lv_entry ([.ref r0, .int x1]) (n := 3) (Nat.le_of_ble_eq_true rfl)
  rw [lg_entry_eq]
  generalize (lg_sl ([.ref r0, .int x1]) ++ List.replicate (3 - (lg_sl ([.ref r0, .int x1])).length) Slot.unset).toArray = ls at hl ⊢
  have hl : lv_has ls 3 [(0, .ref r0), (1, .int x1)] := hl
  unfold fX4_fill at h
  refine lv_iconst (v := 0) hx hb dX4_fill_0 (by decide) ?_
  refine lv_istore_n (lv' := [(2, .int 0), (0, .ref r0), (1, .int x1)]) hx hb dX4_fill_1 rfl hl (by decide) rfl (fun ls hl => ?_)
  exact kB2 6000 cells x1 0 h _ _ hP hD hS ls (lv_sub hl [1, 2, 0] rfl)
theorem qX4_fill_b (n : Nat) (hn : n < 2 ^ 31) (v : Int32) : ∀ (fuel i : Nat) (cells : Nat → Int32), i ≤ n → n < i + fuel → fX4_fill_b2 n fuel cells v (nI i) = some (fun k => if i ≤ k ∧ k < n then v else cells k) := by
  intro fuel
  induction fuel with
  | zero => intro i cells h1 h2; omega
  | succ fuel ih =>
    intro i cells h1 h2
    rw [fX4_fill_b2]
    by_cases h : i < n
    · rw [if_neg (nI_ge h hn), if_neg (nI_in h hn), nI_clamp (by omega), nI_1, ih (i + 1) _ h (by omega)]
      congr 1
      funext k
      by_cases hk : k = i
      · subst hk
        simp [upd, h]
      · have : (i + 1 ≤ k ∧ k < n) ↔ (i ≤ k ∧ k < n) := by omega
        simp [upd, hk, this]
    · have hi : i = n := by omega
      subst hi
      rw [if_pos (nI_le (Nat.le_refl _) hn)]
      congr 1
      funext k
      rw [if_neg (by omega)]
theorem qX4_fill (n : Nat) (hn : n < 6000) (cells : Nat → Int32) (x1 : Int32) : fX4_fill n cells x1 = some (rFill n cells x1) := by
  unfold fX4_fill
  have h0 : (0 : Int32) = nI 0 := rfl
  rw [h0, qX4_fill_b n (by omega) x1 6000 0 cells (by omega) (by omega)]
  congr 1
  funext k
  simp [rFill]
theorem tX4_fill (l : Launch) (dC : Nat → ClassId) (dI : Nat → Nat → Nat) (cyI cyO cyL : ClassId) (r0 r1 : Nat) (n : Nat) (cells : Nat → Int32) (x1 : Int32) (sz : Nat) (res : Nat → Int32) (h : rFill n cells x1 = res) (hn : n < 6000) : Met l yX4_fill (wsG yX4_fill cX4_fill 3 none) ({ frames := 0, cells := 0, slots := 0, locals := 0 }) (cP dC dI cyI cyO cyL sz [.ref r0, .int x1] (rowW cyI r0 r1 n cells)) (cV dC dI (rowW cyI r0 r1 n (rFill n cells x1)) (va_A (rowW cyI r0 r1 n cells) sz)) 0 0 (va_A (rowW cyI r0 r1 n cells) sz) := by
  subst h
  exact mX4_fill l dC dI cyI cyO cyL r0 r1 n cells x1 sz _ (qX4_fill n hn cells x1)

noncomputable def fX4_become (n : Nat) (n2 : Nat) (cells : Nat → Int32) (cells2 : Nat → Int32) : Option ((Nat → Int32)) :=
  (if (0 : Int32) < 0 ∨ (0 : Int32) < 0 ∨ (if (nI n2) < (nI n) then (nI n2) else (nI n)) < 0 ∨ n2 < (0 : Int32).toNatClampNeg + (if (nI n2) < (nI n) then (nI n2) else (nI n)).toNatClampNeg ∨ n < (0 : Int32).toNatClampNeg + (if (nI n2) < (nI n) then (nI n2) else (nI n)).toNatClampNeg then none else (some (va_cpy cells2 cells (0 : Int32).toNatClampNeg (0 : Int32).toNatClampNeg (if (nI n2) < (nI n) then (nI n2) else (nI n)).toNatClampNeg)))
set_option maxHeartbeats 1000000 in
set_option maxRecDepth 100000 in
theorem mX4_become (l : Launch) (dC : Nat → ClassId) (dI : Nat → Nat → Nat) (cyI cyO cyL : ClassId) (r0 r1 vr0 vr1 : Nat) (n : Nat) (n2 : Nat) (cells : Nat → Int32) (cells2 : Nat → Int32)  (sz : Nat) (res : (Nat → Int32)) (h : fX4_become n n2 cells cells2 = some res) : Met l yX4_become (wsG yX4_become cX4_become 2 none) ({ frames := 1, cells := 0, slots := 0, locals := 40 }) (cP dC dI cyI cyO cyL sz [.ref r0, .ref vr0] ((rowW cyI r0 r1 n cells) ++ (rowW cyI vr0 vr1 n2 cells2))) (cV dC dI ((rowW cyI r0 r1 n res) ++ (rowW cyI vr0 vr1 n2 cells2)) (va_A ((rowW cyI r0 r1 n cells) ++ (rowW cyI vr0 vr1 n2 cells2)) sz)) 0 0 (va_A ((rowW cyI r0 r1 n cells) ++ (rowW cyI vr0 vr1 n2 cells2)) sz) := by
  refine Met.ofW (cc := cX4_become) (maxL := 2) (ret := none) (by decide) rfl ?_
  intro p e s m args below meth c s₁ B hml hv
  obtain ⟨rfl, hsz, hP, hK, hD0⟩ := hv
  have hx := B.exec
  have hb := B.bytes
  have hr := B.returns
  have hts := atoms_spec (ws := wsG yX4_become cX4_become 2 none) B.pre
  have hown : s.vm.findClass RX4 = some m.cls := findClass_of_methodNamed B.named
  have hlocks := B.notSynchronized
  subst hsz
  have hD := hD0.self (sz := s.heap.size)
  generalize hAe : va_A ((rowW cyI r0 r1 n cells) ++ (rowW cyI vr0 vr1 n2 cells2)) s.heap.size = A at hD ⊢
  have hA : ∀ q : Nat, s.heap.size ≤ q → A q := fun q h => by rw [← hAe]; exact Or.inr h
  have hS : va_S A s.heap s.heap [] := va_S.rf
  have hl := lv_entry ([.ref r0, .ref vr0]) (n := 2) (Nat.le_of_ble_eq_true rfl)
  rw [lg_entry_eq]
  generalize (lg_sl ([.ref r0, .ref vr0]) ++ List.replicate (2 - (lg_sl ([.ref r0, .ref vr0])).length) Slot.unset).toArray = ls at hl ⊢
  have hl : lv_has ls 2 [(0, .ref r0), (1, .ref vr0)] := hl
  unfold fX4_become at h
  refine lv_aload_n hx hb dX4_become_0 rfl (lv_at hl 1 rfl) ?_
  refine lv_ifnull hx hb dX4_become_1 ?_
  refine lv_aload_n hx hb dX4_become_4 rfl (lv_at hl 1 rfl) ?_
  refine va_get (D := (dC, dI)) (ci := 4) (v := .ref vr1) (C := RX4) (T := TX4) (N := 1) hx hb hts (fun w h9 => gb_mem (lay_X4 w h9)) hown hK.1 hP 2 rfl rfl 0 (by decide) (hts _ (gb_mem fl_X4_13)) (fun _ h9 => h9) rfl dX4_become_5 ?_
  refine lv_iconst (v := 0) hx hb dX4_become_8 (by decide) ?_
  refine lv_aload_n hx hb dX4_become_9 rfl (lv_at hl 0 rfl) ?_
  refine va_get (D := (dC, dI)) (ci := 4) (v := .ref r1) (C := RX4) (T := TX4) (N := 1) hx hb hts (fun w h9 => gb_mem (lay_X4 w h9)) hown hK.1 hP 0 rfl rfl 0 (by decide) (hts _ (gb_mem fl_X4_13)) (fun _ h9 => h9) rfl dX4_become_10 ?_
  refine lv_iconst (v := 0) hx hb dX4_become_13 (by decide) ?_
  refine lv_aload_n hx hb dX4_become_14 rfl (lv_at hl 0 rfl) ?_
  refine va_get (D := (dC, dI)) (ci := 4) (v := .ref r1) (C := RX4) (T := TX4) (N := 1) hx hb hts (fun w h9 => gb_mem (lay_X4 w h9)) hown hK.1 hP 0 rfl rfl 0 (by decide) (hts _ (gb_mem fl_X4_13)) (fun _ h9 => h9) rfl dX4_become_15 ?_
  refine va_alen (v := (nI n)) hx hb hK.1 hP 1 0 rfl rfl rfl dX4_become_18 ?_
  refine lv_aload_n hx hb dX4_become_19 rfl (lv_at hl 1 rfl) ?_
  refine va_get (D := (dC, dI)) (ci := 4) (v := .ref vr1) (C := RX4) (T := TX4) (N := 1) hx hb hts (fun w h9 => gb_mem (lay_X4 w h9)) hown hK.1 hP 2 rfl rfl 0 (by decide) (hts _ (gb_mem fl_X4_13)) (fun _ h9 => h9) rfl dX4_become_20 ?_
  refine va_alen (v := (nI n2)) hx hb hK.1 hP 3 0 rfl rfl rfl dX4_become_23 ?_
  refine va_mmin hx hb (by rw [hml]; exact hl.1.symm) hown (hts _ (gb_mem ml_X4_19)) (hts _ (gb_mem st_J9_min_7cf53)) (hts _ (gb_mem in_J9)) (hts _ (gb_mem co_J9_min_7cf53)) (Nat.le_of_ble_eq_true rfl) (Nat.le_of_ble_eq_true rfl) (Nat.zero_le _) (Nat.zero_le _) dX4_become_24 ?_
  obtain ⟨ni1, h⟩ := ifn h
  refine va_copyi hx hb (by rw [hml]; exact hl.1.symm) hown (hts _ (gb_mem ml_X4_22)) (hts _ (gb_mem na_arraycopy)) (hts _ (gb_mem st_arraycopy)) (hts _ (gb_mem in_J10)) hK.1 hP hD hS 3 1 0 0 rfl rfl rfl rfl rfl (fun q => ni1 (Or.inl q)) (fun q => ni1 (Or.inr (Or.inl q))) (fun q => ni1 (Or.inr (Or.inr (Or.inl q)))) (Nat.le_of_not_lt (fun q => ni1 (Or.inr (Or.inr (Or.inr (Or.inl q)))))) (Nat.le_of_not_lt (fun q => ni1 (Or.inr (Or.inr (Or.inr (Or.inr q)))))) (fun _ _ => rfl) (Nat.le_of_ble_eq_true rfl) (Nat.le_of_ble_eq_true rfl) dX4_become_27 (fun H locs hP hD hS => ?_)
  have hP : va_P (dC, dI) vwCl ((rowW cyI r0 r1 n (va_cpy cells2 cells (0 : Int32).toNatClampNeg (0 : Int32).toNatClampNeg (if (nI n2) < (nI n) then (nI n2) else (nI n)).toNatClampNeg)) ++ (rowW cyI vr0 vr1 n2 cells2)) H := hP
  have hD : va_D A ((rowW cyI r0 r1 n (va_cpy cells2 cells (0 : Int32).toNatClampNeg (0 : Int32).toNatClampNeg (if (nI n2) < (nI n) then (nI n2) else (nI n)).toNatClampNeg)) ++ (rowW cyI vr0 vr1 n2 cells2)) := hD
  obtain rfl := Option.some.inj h
  exact e_v hx hb hr hlocks hP hS dX4_become_30
theorem qX4_become (n : Nat) (hn : n < 2 ^ 31) (cells cells2 : Nat → Int32) : fX4_become n n cells cells2 = some (rCopy n cells cells2) := by
  unfold fX4_become
  have h0 : (if nI n < nI n then nI n else nI n) = nI n := by split <;> rfl
  have h1 : (0 : Int32).toNatClampNeg = 0 := rfl
  rw [h0, if_neg (by
    rw [nI_clamp hn, h1]
    intro q
    rcases q with q | q | q | q | q
    · exact absurd q (by decide)
    · exact absurd q (by decide)
    · exact nI_pos hn q
    · omega
    · omega)]
  rw [nI_clamp hn, h1]
  congr 1
  funext k
  simp [va_cpy, rCopy]
theorem tX4_become (l : Launch) (dC : Nat → ClassId) (dI : Nat → Nat → Nat) (cyI cyO cyL : ClassId) (r0 r1 vr0 vr1 : Nat) (n : Nat) (cells cells2 : Nat → Int32) (sz : Nat) (res : Nat → Int32) (h : rCopy n cells cells2 = res) (hn : n < 2 ^ 31) : Met l yX4_become (wsG yX4_become cX4_become 2 none) ({ frames := 1, cells := 0, slots := 0, locals := 40 }) (cP dC dI cyI cyO cyL sz [.ref r0, .ref vr0] ((rowW cyI r0 r1 n cells) ++ (rowW cyI vr0 vr1 n cells2))) (cV dC dI ((rowW cyI r0 r1 n (rCopy n cells cells2)) ++ (rowW cyI vr0 vr1 n cells2)) (va_A ((rowW cyI r0 r1 n cells) ++ (rowW cyI vr0 vr1 n cells2)) sz)) 0 0 (va_A ((rowW cyI r0 r1 n cells) ++ (rowW cyI vr0 vr1 n cells2)) sz) := by
  subst h
  exact mX4_become l dC dI cyI cyO cyL r0 r1 vr0 vr1 n n cells cells2 sz _ (qX4_become n hn cells cells2)
