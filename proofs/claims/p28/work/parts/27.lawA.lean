/-! the law's own methods -/

noncomputable def fL_key (x0 : Int32) : Int32 :=
  ((x0 &&& 7))
set_option maxHeartbeats 1000000 in
set_option maxRecDepth 100000 in
theorem mL_key (l : Launch) (dC : Nat → ClassId) (dI : Nat → Nat → Nat) (cyI cyO cyL : ClassId)   (x0 : Int32) (sz : Nat) (res : Int32) (h : fL_key x0 = res) : Met l yL_key (wsG yL_key cL_key 1 (some .int)) ({ frames := 0, cells := 0, slots := 0, locals := 0 }) (cP dC dI cyI cyO cyL sz [.int x0] ([] : va_W)) (cI dC dI res ([] : va_W) (va_A ([] : va_W) sz)) 0 0 (va_A ([] : va_W) sz) := by
  refine Met.ofW (cc := cL_key) (maxL := 1) (ret := (some .int)) (by decide) rfl ?_
  intro p e s m args below meth c s₁ B hml hv
  obtain ⟨rfl, hsz, hP, hK, hD0⟩ := hv
  have hx := B.exec
  have hb := B.bytes
  have hr := B.returns
  have hts := atoms_spec (ws := wsG yL_key cL_key 1 (some .int)) B.pre
  have hown : s.vm.findClass RL = some m.cls := findClass_of_methodNamed B.named
  have hlocks := B.notSynchronized
  subst hsz
  have hD := hD0.self (sz := s.heap.size)
  generalize hAe : va_A ([] : va_W) s.heap.size = A at hD ⊢
  have hA : ∀ q : Nat, s.heap.size ≤ q → A q := fun q h => by rw [← hAe]; exact Or.inr h
  have hS : va_S A s.heap s.heap [] := va_S.rf
  have hl := lv_entry ([.int x0]) (n := 1) (Nat.le_of_ble_eq_true rfl)
  rw [lg_entry_eq]
  generalize (lg_sl ([.int x0]) ++ List.replicate (1 - (lg_sl ([.int x0])).length) Slot.unset).toArray = ls at hl ⊢
  have hl : lv_has ls 1 [(0, .int x0)] := hl
  unfold fL_key at h
  refine lv_iload_n hx hb dL_key_0 rfl (lv_at hl 0 rfl) ?_
  refine lv_bipush (v := 7) hx hb dL_key_1 (by decide) ?_
  refine lv_iand hx hb dL_key_3 ?_
  obtain rfl := h
  exact e_i hx hb hr hlocks hP hS dL_key_4

noncomputable def fL_which (x0 : Int32) : Int32 :=
  (((x0 >>> (3 &&& 31)) &&& 63))
set_option maxHeartbeats 1000000 in
set_option maxRecDepth 100000 in
theorem mL_which (l : Launch) (dC : Nat → ClassId) (dI : Nat → Nat → Nat) (cyI cyO cyL : ClassId)   (x0 : Int32) (sz : Nat) (res : Int32) (h : fL_which x0 = res) : Met l yL_which (wsG yL_which cL_which 1 (some .int)) ({ frames := 0, cells := 0, slots := 0, locals := 0 }) (cP dC dI cyI cyO cyL sz [.int x0] ([] : va_W)) (cI dC dI res ([] : va_W) (va_A ([] : va_W) sz)) 0 0 (va_A ([] : va_W) sz) := by
  refine Met.ofW (cc := cL_which) (maxL := 1) (ret := (some .int)) (by decide) rfl ?_
  intro p e s m args below meth c s₁ B hml hv
  obtain ⟨rfl, hsz, hP, hK, hD0⟩ := hv
  have hx := B.exec
  have hb := B.bytes
  have hr := B.returns
  have hts := atoms_spec (ws := wsG yL_which cL_which 1 (some .int)) B.pre
  have hown : s.vm.findClass RL = some m.cls := findClass_of_methodNamed B.named
  have hlocks := B.notSynchronized
  subst hsz
  have hD := hD0.self (sz := s.heap.size)
  generalize hAe : va_A ([] : va_W) s.heap.size = A at hD ⊢
  have hA : ∀ q : Nat, s.heap.size ≤ q → A q := fun q h => by rw [← hAe]; exact Or.inr h
  have hS : va_S A s.heap s.heap [] := va_S.rf
  have hl := lv_entry ([.int x0]) (n := 1) (Nat.le_of_ble_eq_true rfl)
  rw [lg_entry_eq]
  generalize (lg_sl ([.int x0]) ++ List.replicate (1 - (lg_sl ([.int x0])).length) Slot.unset).toArray = ls at hl ⊢
  have hl : lv_has ls 1 [(0, .int x0)] := hl
  unfold fL_which at h
  refine lv_iload_n hx hb dL_which_0 rfl (lv_at hl 0 rfl) ?_
  refine lv_iconst (v := 3) hx hb dL_which_1 (by decide) ?_
  refine lv_ishr hx hb dL_which_2 ?_
  refine lv_bipush (v := 63) hx hb dL_which_3 (by decide) ?_
  refine lv_iand hx hb dL_which_5 ?_
  obtain rfl := h
  exact e_i hx hb hr hlocks hP hS dL_which_6

noncomputable def fL_closer (x0 : Int32) : Int32 :=
  (((x0 >>> (9 &&& 31)) &&& 7))
set_option maxHeartbeats 1000000 in
set_option maxRecDepth 100000 in
theorem mL_closer (l : Launch) (dC : Nat → ClassId) (dI : Nat → Nat → Nat) (cyI cyO cyL : ClassId)   (x0 : Int32) (sz : Nat) (res : Int32) (h : fL_closer x0 = res) : Met l yL_closer (wsG yL_closer cL_closer 1 (some .int)) ({ frames := 0, cells := 0, slots := 0, locals := 0 }) (cP dC dI cyI cyO cyL sz [.int x0] ([] : va_W)) (cI dC dI res ([] : va_W) (va_A ([] : va_W) sz)) 0 0 (va_A ([] : va_W) sz) := by
  refine Met.ofW (cc := cL_closer) (maxL := 1) (ret := (some .int)) (by decide) rfl ?_
  intro p e s m args below meth c s₁ B hml hv
  obtain ⟨rfl, hsz, hP, hK, hD0⟩ := hv
  have hx := B.exec
  have hb := B.bytes
  have hr := B.returns
  have hts := atoms_spec (ws := wsG yL_closer cL_closer 1 (some .int)) B.pre
  have hown : s.vm.findClass RL = some m.cls := findClass_of_methodNamed B.named
  have hlocks := B.notSynchronized
  subst hsz
  have hD := hD0.self (sz := s.heap.size)
  generalize hAe : va_A ([] : va_W) s.heap.size = A at hD ⊢
  have hA : ∀ q : Nat, s.heap.size ≤ q → A q := fun q h => by rw [← hAe]; exact Or.inr h
  have hS : va_S A s.heap s.heap [] := va_S.rf
  have hl := lv_entry ([.int x0]) (n := 1) (Nat.le_of_ble_eq_true rfl)
  rw [lg_entry_eq]
  generalize (lg_sl ([.int x0]) ++ List.replicate (1 - (lg_sl ([.int x0])).length) Slot.unset).toArray = ls at hl ⊢
  have hl : lv_has ls 1 [(0, .int x0)] := hl
  unfold fL_closer at h
  refine lv_iload_n hx hb dL_closer_0 rfl (lv_at hl 0 rfl) ?_
  refine lv_bipush (v := 9) hx hb dL_closer_1 (by decide) ?_
  refine lv_ishr hx hb dL_closer_3 ?_
  refine lv_bipush (v := 7) hx hb dL_closer_4 (by decide) ?_
  refine lv_iand hx hb dL_closer_6 ?_
  obtain rfl := h
  exact e_i hx hb hr hlocks hP hS dL_closer_7

noncomputable def fL_closed (x0 : Int32) : Int32 :=
  (((x0 >>> (12 &&& 31)) &&& 63))
set_option maxHeartbeats 1000000 in
set_option maxRecDepth 100000 in
theorem mL_closed (l : Launch) (dC : Nat → ClassId) (dI : Nat → Nat → Nat) (cyI cyO cyL : ClassId)   (x0 : Int32) (sz : Nat) (res : Int32) (h : fL_closed x0 = res) : Met l yL_closed (wsG yL_closed cL_closed 1 (some .int)) ({ frames := 0, cells := 0, slots := 0, locals := 0 }) (cP dC dI cyI cyO cyL sz [.int x0] ([] : va_W)) (cI dC dI res ([] : va_W) (va_A ([] : va_W) sz)) 0 0 (va_A ([] : va_W) sz) := by
  refine Met.ofW (cc := cL_closed) (maxL := 1) (ret := (some .int)) (by decide) rfl ?_
  intro p e s m args below meth c s₁ B hml hv
  obtain ⟨rfl, hsz, hP, hK, hD0⟩ := hv
  have hx := B.exec
  have hb := B.bytes
  have hr := B.returns
  have hts := atoms_spec (ws := wsG yL_closed cL_closed 1 (some .int)) B.pre
  have hown : s.vm.findClass RL = some m.cls := findClass_of_methodNamed B.named
  have hlocks := B.notSynchronized
  subst hsz
  have hD := hD0.self (sz := s.heap.size)
  generalize hAe : va_A ([] : va_W) s.heap.size = A at hD ⊢
  have hA : ∀ q : Nat, s.heap.size ≤ q → A q := fun q h => by rw [← hAe]; exact Or.inr h
  have hS : va_S A s.heap s.heap [] := va_S.rf
  have hl := lv_entry ([.int x0]) (n := 1) (Nat.le_of_ble_eq_true rfl)
  rw [lg_entry_eq]
  generalize (lg_sl ([.int x0]) ++ List.replicate (1 - (lg_sl ([.int x0])).length) Slot.unset).toArray = ls at hl ⊢
  have hl : lv_has ls 1 [(0, .int x0)] := hl
  unfold fL_closed at h
  refine lv_iload_n hx hb dL_closed_0 rfl (lv_at hl 0 rfl) ?_
  refine lv_bipush (v := 12) hx hb dL_closed_1 (by decide) ?_
  refine lv_ishr hx hb dL_closed_3 ?_
  refine lv_bipush (v := 63) hx hb dL_closed_4 (by decide) ?_
  refine lv_iand hx hb dL_closed_6 ?_
  obtain rfl := h
  exact e_i hx hb hr hlocks hP hS dL_closed_7

noncomputable def fL_made (x0 : Int32) (x1 : Int32) (x2 : Int32) (x3 : Int32) : Int32 :=
  (((((x0 ||| (x1 <<< (3 &&& 31))) ||| (x2 <<< (9 &&& 31))) ||| (x3 <<< (12 &&& 31))) ||| 262144))
set_option maxHeartbeats 1000000 in
set_option maxRecDepth 100000 in
theorem mL_made (l : Launch) (dC : Nat → ClassId) (dI : Nat → Nat → Nat) (cyI cyO cyL : ClassId)   (x0 : Int32) (x1 : Int32) (x2 : Int32) (x3 : Int32) (sz : Nat) (res : Int32) (h : fL_made x0 x1 x2 x3 = res) : Met l yL_made (wsG yL_made cL_made 4 (some .int)) ({ frames := 0, cells := 0, slots := 0, locals := 0 }) (cP dC dI cyI cyO cyL sz [.int x0, .int x1, .int x2, .int x3] ([] : va_W)) (cI dC dI res ([] : va_W) (va_A ([] : va_W) sz)) 0 0 (va_A ([] : va_W) sz) := by
  refine Met.ofW (cc := cL_made) (maxL := 4) (ret := (some .int)) (by decide) rfl ?_
  intro p e s m args below meth c s₁ B hml hv
  obtain ⟨rfl, hsz, hP, hK, hD0⟩ := hv
  have hx := B.exec
  have hb := B.bytes
  have hr := B.returns
  have hts := atoms_spec (ws := wsG yL_made cL_made 4 (some .int)) B.pre
  have hown : s.vm.findClass RL = some m.cls := findClass_of_methodNamed B.named
  have hlocks := B.notSynchronized
  subst hsz
  have hD := hD0.self (sz := s.heap.size)
  generalize hAe : va_A ([] : va_W) s.heap.size = A at hD ⊢
  have hA : ∀ q : Nat, s.heap.size ≤ q → A q := fun q h => by rw [← hAe]; exact Or.inr h
  have hS : va_S A s.heap s.heap [] := va_S.rf
  have hl := lv_entry ([.int x0, .int x1, .int x2, .int x3]) (n := 4) (Nat.le_of_ble_eq_true rfl)
  rw [lg_entry_eq]
  generalize (lg_sl ([.int x0, .int x1, .int x2, .int x3]) ++ List.replicate (4 - (lg_sl ([.int x0, .int x1, .int x2, .int x3])).length) Slot.unset).toArray = ls at hl ⊢
  have hl : lv_has ls 4 [(0, .int x0), (1, .int x1), (2, .int x2), (3, .int x3)] := hl
  unfold fL_made at h
  refine lv_iload_n hx hb dL_made_0 rfl (lv_at hl 0 rfl) ?_
  refine lv_iload_n hx hb dL_made_1 rfl (lv_at hl 1 rfl) ?_
  refine lv_iconst (v := 3) hx hb dL_made_2 (by decide) ?_
  refine lv_ishl hx hb dL_made_3 ?_
  refine lv_ior hx hb dL_made_4 ?_
  refine lv_iload_n hx hb dL_made_5 rfl (lv_at hl 2 rfl) ?_
  refine lv_bipush (v := 9) hx hb dL_made_6 (by decide) ?_
  refine lv_ishl hx hb dL_made_8 ?_
  refine lv_ior hx hb dL_made_9 ?_
  refine lv_iload_n hx hb dL_made_10 rfl (lv_at hl 3 rfl) ?_
  refine lv_bipush (v := 12) hx hb dL_made_11 (by decide) ?_
  refine lv_ishl hx hb dL_made_13 ?_
  refine lv_ior hx hb dL_made_14 ?_
  refine lv_ldc (v := 262144) hx hb hown (hts _ (gb_mem k_L_10)) dL_made_15 ?_
  refine lv_ior hx hb dL_made_17 ?_
  obtain rfl := h
  exact e_i hx hb hr hlocks hP hS dL_made_18

noncomputable def fL_low (x0 : Int32) (x1 : Int32) : Option (Int32) :=
  (if x1 = 0 then none else (some ((x0 &&& 2147483647) - (x0 &&& 2147483647) / x1 * x1)))
set_option maxHeartbeats 1000000 in
set_option maxRecDepth 100000 in
theorem mL_low (l : Launch) (dC : Nat → ClassId) (dI : Nat → Nat → Nat) (cyI cyO cyL : ClassId)   (x0 : Int32) (x1 : Int32) (sz : Nat) (res : Int32) (h : fL_low x0 x1 = some res) : Met l yL_low (wsG yL_low cL_low 2 (some .int)) ({ frames := 0, cells := 0, slots := 0, locals := 0 }) (cP dC dI cyI cyO cyL sz [.int x0, .int x1] ([] : va_W)) (cI dC dI res ([] : va_W) (va_A ([] : va_W) sz)) 0 0 (va_A ([] : va_W) sz) := by
  refine Met.ofW (cc := cL_low) (maxL := 2) (ret := (some .int)) (by decide) rfl ?_
  intro p e s m args below meth c s₁ B hml hv
  obtain ⟨rfl, hsz, hP, hK, hD0⟩ := hv
  have hx := B.exec
  have hb := B.bytes
  have hr := B.returns
  have hts := atoms_spec (ws := wsG yL_low cL_low 2 (some .int)) B.pre
  have hown : s.vm.findClass RL = some m.cls := findClass_of_methodNamed B.named
  have hlocks := B.notSynchronized
  subst hsz
  have hD := hD0.self (sz := s.heap.size)
  generalize hAe : va_A ([] : va_W) s.heap.size = A at hD ⊢
  have hA : ∀ q : Nat, s.heap.size ≤ q → A q := fun q h => by rw [← hAe]; exact Or.inr h
  have hS : va_S A s.heap s.heap [] := va_S.rf
  have hl := lv_entry ([.int x0, .int x1]) (n := 2) (Nat.le_of_ble_eq_true rfl)
  rw [lg_entry_eq]
  generalize (lg_sl ([.int x0, .int x1]) ++ List.replicate (2 - (lg_sl ([.int x0, .int x1])).length) Slot.unset).toArray = ls at hl ⊢
  have hl : lv_has ls 2 [(0, .int x0), (1, .int x1)] := hl
  unfold fL_low at h
  refine lv_iload_n hx hb dL_low_0 rfl (lv_at hl 0 rfl) ?_
  refine lv_ldc (v := 2147483647) hx hb hown (hts _ (gb_mem k_L_9)) dL_low_1 ?_
  refine lv_iand hx hb dL_low_3 ?_
  refine lv_iload_n hx hb dL_low_4 rfl (lv_at hl 1 rfl) ?_
  obtain ⟨ni1, h⟩ := ifn h
  refine lv_irem hx hb dL_low_5 ni1 ?_
  obtain rfl := Option.some.inj h
  exact e_i hx hb hr hlocks hP hS dL_low_6

noncomputable def fL_wrap (qv : Nat → Int32) (kev : Nat → Int32) (wrv : Nat → Int32) (x0 : Int32) (x1 : Int32) (x2 : Int32) : Option ((Nat → Int32) × (Nat → Int32) × (Nat → Int32)) :=
  (if (3 : Int32) < 0 ∨ 4 ≤ (3 : Int32).toNatClampNeg then none else (if (3 : Int32) < 0 ∨ 4 ≤ (3 : Int32).toNatClampNeg then none else (if ((4 * x2) + 2) < 0 ∨ 24 ≤ ((4 * x2) + 2).toNatClampNeg then none else (if (qv (3 : Int32).toNatClampNeg) < 0 ∨ 64 ≤ (qv (3 : Int32).toNatClampNeg).toNatClampNeg then none else (if ((4 * x2) + 3) < 0 ∨ 24 ≤ ((4 * x2) + 3).toNatClampNeg then none else (if ((4 * x2) + 3) < 0 ∨ 24 ≤ ((4 * x2) + 3).toNatClampNeg then none else (some ((upd qv (3 : Int32).toNatClampNeg ((qv (3 : Int32).toNatClampNeg) + 1)), (upd kev ((4 * x2) + 3).toNatClampNeg ((kev ((4 * x2) + 3).toNatClampNeg) + 1)), (upd wrv (qv (3 : Int32).toNatClampNeg).toNatClampNeg (fL_made x0 x1 x2 (kev ((4 * x2) + 2).toNatClampNeg)))))))))))
set_option maxHeartbeats 1000000 in
set_option maxRecDepth 100000 in
theorem mL_wrap (l : Launch) (dC : Nat → ClassId) (dI : Nat → Nat → Nat) (cyI cyO cyL : ClassId) (aq ak aw : Nat) (qv : Nat → Int32) (kev : Nat → Int32) (wrv : Nat → Int32) (x0 : Int32) (x1 : Int32) (x2 : Int32) (sz : Nat) (res : (Nat → Int32) × (Nat → Int32) × (Nat → Int32)) (h : fL_wrap qv kev wrv x0 x1 x2 = some res) : Met l yL_wrap (wsG yL_wrap cL_wrap 6 none) ({ frames := 1, cells := 0, slots := 0, locals := 23 }) (cP dC dI cyI cyO cyL sz [.int x0, .int x1, .int x2, .ref aq, .ref ak, .ref aw] ((arrW cyI aq 4 qv) ++ (arrW cyI ak 24 kev) ++ (arrW cyI aw 64 wrv))) (cV dC dI ((arrW cyI aq 4 res.1) ++ (arrW cyI ak 24 res.2.1) ++ (arrW cyI aw 64 res.2.2)) (va_A ((arrW cyI aq 4 qv) ++ (arrW cyI ak 24 kev) ++ (arrW cyI aw 64 wrv)) sz)) 0 0 (va_A ((arrW cyI aq 4 qv) ++ (arrW cyI ak 24 kev) ++ (arrW cyI aw 64 wrv)) sz) := by
  refine Met.ofW (cc := cL_wrap) (maxL := 6) (ret := none) (by decide) rfl ?_
  intro p e s m args below meth c s₁ B hml hv
  obtain ⟨rfl, hsz, hP, hK, hD0⟩ := hv
  have hx := B.exec
  have hb := B.bytes
  have hr := B.returns
  have hts := atoms_spec (ws := wsG yL_wrap cL_wrap 6 none) B.pre
  have hown : s.vm.findClass RL = some m.cls := findClass_of_methodNamed B.named
  have hlocks := B.notSynchronized
  subst hsz
  have hD := hD0.self (sz := s.heap.size)
  generalize hAe : va_A ((arrW cyI aq 4 qv) ++ (arrW cyI ak 24 kev) ++ (arrW cyI aw 64 wrv)) s.heap.size = A at hD ⊢
  have hA : ∀ q : Nat, s.heap.size ≤ q → A q := fun q h => by rw [← hAe]; exact Or.inr h
  have hS : va_S A s.heap s.heap [] := va_S.rf
  have hl := lv_entry ([.int x0, .int x1, .int x2, .ref aq, .ref ak, .ref aw]) (n := 6) (Nat.le_of_ble_eq_true rfl)
  rw [lg_entry_eq]
  generalize (lg_sl ([.int x0, .int x1, .int x2, .ref aq, .ref ak, .ref aw]) ++ List.replicate (6 - (lg_sl ([.int x0, .int x1, .int x2, .ref aq, .ref ak, .ref aw])).length) Slot.unset).toArray = ls at hl ⊢
  have hl : lv_has ls 6 [(0, .int x0), (1, .int x1), (2, .int x2), (3, .ref aq), (4, .ref ak), (5, .ref aw)] := hl
  unfold fL_wrap at h
  refine lv_aload hx hb dL_wrap_0 (lv_at hl 5 rfl) ?_
  refine lv_aload_n hx hb dL_wrap_2 rfl (lv_at hl 3 rfl) ?_
  refine lv_iconst (v := 3) hx hb dL_wrap_3 (by decide) ?_
  refine lv_dup2_11 hx hb dL_wrap_4 rfl rfl ?_
  obtain ⟨ni1, h⟩ := ifn h
  refine va_iald hx hb hK.1 hP 0 0 rfl rfl ni1 dL_wrap_5 ?_
  refine lv_dup_x2 hx hb dL_wrap_6 rfl rfl rfl ?_
  refine lv_iconst (v := 1) hx hb dL_wrap_7 (by decide) ?_
  refine lv_iadd hx hb dL_wrap_8 ?_
  obtain ⟨ni2, h⟩ := ifn h
  refine va_iast hx hb hK.1 hP hD hS 0 0 rfl rfl ni2 dL_wrap_9 (fun H locs hP hD hS => ?_)
  have hP : va_P (dC, dI) vwCl ((arrW cyI aq 4 (upd qv (3 : Int32).toNatClampNeg ((qv (3 : Int32).toNatClampNeg) + 1))) ++ (arrW cyI ak 24 kev) ++ (arrW cyI aw 64 wrv)) H := hP
  have hD : va_D A ((arrW cyI aq 4 (upd qv (3 : Int32).toNatClampNeg ((qv (3 : Int32).toNatClampNeg) + 1))) ++ (arrW cyI ak 24 kev) ++ (arrW cyI aw 64 wrv)) := hD
  refine lv_iload_n hx hb dL_wrap_10 rfl (lv_at hl 0 rfl) ?_
  refine lv_iload_n hx hb dL_wrap_11 rfl (lv_at hl 1 rfl) ?_
  refine lv_iload_n hx hb dL_wrap_12 rfl (lv_at hl 2 rfl) ?_
  refine lv_aload hx hb dL_wrap_13 (lv_at hl 4 rfl) ?_
  refine lv_iconst (v := 4) hx hb dL_wrap_15 (by decide) ?_
  refine lv_iload_n hx hb dL_wrap_16 rfl (lv_at hl 2 rfl) ?_
  refine lv_imul hx hb dL_wrap_17 ?_
  refine lv_iconst (v := 2) hx hb dL_wrap_18 (by decide) ?_
  refine lv_iadd hx hb dL_wrap_19 ?_
  obtain ⟨ni3, h⟩ := ifn h
  refine va_iald hx hb hK.1 hP 1 0 rfl rfl ni3 dL_wrap_20 ?_
  refine fr_ir (M := ([] : va_W)) (va_runS (As := [.int x0, .int x1, .int x2, .int (kev ((4 * x2) + 2).toNatClampNeg)]) (rest := [.int (qv (3 : Int32).toNatClampNeg), .ref aw]) ⟨hx, hb, hml, hown, hts⟩ (mL_made l dC dI cyI cyO cyL x0 x1 x2 (kev ((4 * x2) + 2).toNatClampNeg) _ (fL_made x0 x1 x2 (kev ((4 * x2) + 2).toNatClampNeg)) rfl) (va_cwS 4 hts (gS ml_L_11 st_L_made in_L co_L_made) rfl rfl rfl (by decide +kernel) ⟨Nat.le_of_ble_eq_true rfl, Nat.le_of_ble_eq_true rfl⟩) (cP_S hK hP hD [] rfl rfl) rfl rfl hl.1 rfl (lv_room (Nat.le_of_ble_eq_true rfl)) dL_wrap_21 ⟨Nat.zero_le _, Nat.zero_le _⟩) hP hD hS hA [] rfl (fun H locs hP hS => ?_)
  obtain ⟨ni4, h⟩ := ifn h
  refine va_iast hx hb hK.1 hP hD hS 2 0 rfl rfl ni4 dL_wrap_24 (fun H locs hP hD hS => ?_)
  have hP : va_P (dC, dI) vwCl ((arrW cyI aq 4 (upd qv (3 : Int32).toNatClampNeg ((qv (3 : Int32).toNatClampNeg) + 1))) ++ (arrW cyI ak 24 kev) ++ (arrW cyI aw 64 (upd wrv (qv (3 : Int32).toNatClampNeg).toNatClampNeg (fL_made x0 x1 x2 (kev ((4 * x2) + 2).toNatClampNeg))))) H := hP
  have hD : va_D A ((arrW cyI aq 4 (upd qv (3 : Int32).toNatClampNeg ((qv (3 : Int32).toNatClampNeg) + 1))) ++ (arrW cyI ak 24 kev) ++ (arrW cyI aw 64 (upd wrv (qv (3 : Int32).toNatClampNeg).toNatClampNeg (fL_made x0 x1 x2 (kev ((4 * x2) + 2).toNatClampNeg))))) := hD
  refine lv_aload hx hb dL_wrap_25 (lv_at hl 4 rfl) ?_
  refine lv_iconst (v := 4) hx hb dL_wrap_27 (by decide) ?_
  refine lv_iload_n hx hb dL_wrap_28 rfl (lv_at hl 2 rfl) ?_
  refine lv_imul hx hb dL_wrap_29 ?_
  refine lv_iconst (v := 3) hx hb dL_wrap_30 (by decide) ?_
  refine lv_iadd hx hb dL_wrap_31 ?_
  refine lv_dup2_11 hx hb dL_wrap_32 rfl rfl ?_
  obtain ⟨ni5, h⟩ := ifn h
  refine va_iald hx hb hK.1 hP 1 0 rfl rfl ni5 dL_wrap_33 ?_
  refine lv_iconst (v := 1) hx hb dL_wrap_34 (by decide) ?_
  refine lv_iadd hx hb dL_wrap_35 ?_
  obtain ⟨ni6, h⟩ := ifn h
  refine va_iast hx hb hK.1 hP hD hS 1 0 rfl rfl ni6 dL_wrap_36 (fun H locs hP hD hS => ?_)
  have hP : va_P (dC, dI) vwCl ((arrW cyI aq 4 (upd qv (3 : Int32).toNatClampNeg ((qv (3 : Int32).toNatClampNeg) + 1))) ++ (arrW cyI ak 24 (upd kev ((4 * x2) + 3).toNatClampNeg ((kev ((4 * x2) + 3).toNatClampNeg) + 1))) ++ (arrW cyI aw 64 (upd wrv (qv (3 : Int32).toNatClampNeg).toNatClampNeg (fL_made x0 x1 x2 (kev ((4 * x2) + 2).toNatClampNeg))))) H := hP
  have hD : va_D A ((arrW cyI aq 4 (upd qv (3 : Int32).toNatClampNeg ((qv (3 : Int32).toNatClampNeg) + 1))) ++ (arrW cyI ak 24 (upd kev ((4 * x2) + 3).toNatClampNeg ((kev ((4 * x2) + 3).toNatClampNeg) + 1))) ++ (arrW cyI aw 64 (upd wrv (qv (3 : Int32).toNatClampNeg).toNatClampNeg (fL_made x0 x1 x2 (kev ((4 * x2) + 2).toNatClampNeg))))) := hD
  obtain rfl := Option.some.inj h
  exact e_v hx hb hr hlocks hP hS dL_wrap_37
noncomputable def fL_hang_b55 : Nat → (Nat → Int32) → (Nat → Int32) → (Nat → Int32) → Int32 → Int32 → Int32 → Option (Int32)
  | 0, _, _, _, _, _, _ => none
  | fuel + 1, qv, kev, bov, y0, y4, y5 =>
  (if (2 : Int32) < 0 ∨ 4 ≤ (2 : Int32).toNatClampNeg then none else (if (qv (2 : Int32).toNatClampNeg) ≤ y5 then (some y4) else (if (2 * y5) < 0 ∨ 12 ≤ (2 * y5).toNatClampNeg then none else (if (bov (2 * y5).toNatClampNeg) = y0 then (if ((2 * y5) + 1) < 0 ∨ 12 ≤ ((2 * y5) + 1).toNatClampNeg then none else (if (bov ((2 * y5) + 1).toNatClampNeg) = 1 then fL_hang_b55 fuel qv kev bov y0 (y4 + 1) (y5 + 1) else fL_hang_b55 fuel qv kev bov y0 (y4 + 0) (y5 + 1))) else fL_hang_b55 fuel qv kev bov y0 (y4 + 0) (y5 + 1)))))

noncomputable def fL_hang_b6 : Nat → (Nat → Int32) → (Nat → Int32) → (Nat → Int32) → Int32 → Int32 → Int32 → Option (Int32)
  | 0, _, _, _, _, _, _ => none
  | fuel + 1, qv, kev, bov, y0, y4, y5 =>
  (if (1 : Int32) < 0 ∨ 4 ≤ (1 : Int32).toNatClampNeg then none else (if (qv (1 : Int32).toNatClampNeg) ≤ y5 then fL_hang_b55 6000 qv kev bov y0 y4 0 else (if (4 * y5) < 0 ∨ 24 ≤ (4 * y5).toNatClampNeg then none else (if (kev (4 * y5).toNatClampNeg) = y0 then (if ((4 * y5) + 1) < 0 ∨ 24 ≤ ((4 * y5) + 1).toNatClampNeg then none else (if (kev ((4 * y5) + 1).toNatClampNeg) = 1 then fL_hang_b6 fuel qv kev bov y0 (y4 + 1) (y5 + 1) else fL_hang_b6 fuel qv kev bov y0 (y4 + 0) (y5 + 1))) else fL_hang_b6 fuel qv kev bov y0 (y4 + 0) (y5 + 1)))))

noncomputable def fL_hang (qv : Nat → Int32) (kev : Nat → Int32) (bov : Nat → Int32) (x0 : Int32) : Option (Int32) :=
  fL_hang_b6 6000 qv kev bov x0 0 0
set_option maxHeartbeats 1000000 in
set_option maxRecDepth 100000 in
theorem mL_hang (l : Launch) (dC : Nat → ClassId) (dI : Nat → Nat → Nat) (cyI cyO cyL : ClassId) (aq ak ab : Nat) (qv : Nat → Int32) (kev : Nat → Int32) (bov : Nat → Int32) (x0 : Int32) (sz : Nat) (res : Int32) (h : fL_hang qv kev bov x0 = some res) : Met l yL_hang (wsG yL_hang cL_hang 6 (some .int)) ({ frames := 0, cells := 0, slots := 0, locals := 0 }) (cP dC dI cyI cyO cyL sz [.int x0, .ref aq, .ref ak, .ref ab] ((arrW cyI aq 4 qv) ++ (arrW cyI ak 24 kev) ++ (arrW cyI ab 12 bov))) (cI dC dI res ((arrW cyI aq 4 qv) ++ (arrW cyI ak 24 kev) ++ (arrW cyI ab 12 bov)) (va_A ((arrW cyI aq 4 qv) ++ (arrW cyI ak 24 kev) ++ (arrW cyI ab 12 bov)) sz)) 0 0 (va_A ((arrW cyI aq 4 qv) ++ (arrW cyI ak 24 kev) ++ (arrW cyI ab 12 bov)) sz) := by
  refine Met.ofW (cc := cL_hang) (maxL := 6) (ret := (some .int)) (by decide) rfl ?_
  intro p e s m args below meth c s₁ B hml hv
  obtain ⟨rfl, hsz, hP, hK, hD0⟩ := hv
  have hx := B.exec
  have hb := B.bytes
  have hr := B.returns
  have hts := atoms_spec (ws := wsG yL_hang cL_hang 6 (some .int)) B.pre
  have hown : s.vm.findClass RL = some m.cls := findClass_of_methodNamed B.named
  have hlocks := B.notSynchronized
  subst hsz
  have hD := hD0.self (sz := s.heap.size)
  generalize hAe : va_A ((arrW cyI aq 4 qv) ++ (arrW cyI ak 24 kev) ++ (arrW cyI ab 12 bov)) s.heap.size = A at hD ⊢
  have hA : ∀ q : Nat, s.heap.size ≤ q → A q := fun q h => by rw [← hAe]; exact Or.inr h
  have hS : va_S A s.heap s.heap [] := va_S.rf
  have kB55 : ∀ (fuel : Nat) (qv : Nat → Int32) (kev : Nat → Int32) (bov : Nat → Int32) (y0 : Int32) (y4 : Int32) (y5 : Int32), fL_hang_b55 fuel qv kev bov y0 y4 y5 = some res → ∀ (H : Heap) (locs : List Loc), va_P (dC, dI) vwCl ((arrW cyI aq 4 qv) ++ (arrW cyI ak 24 kev) ++ (arrW cyI ab 12 bov)) H → va_D A ((arrW cyI aq 4 qv) ++ (arrW cyI ak 24 kev) ++ (arrW cyI ab 12 bov)) → va_S A s.heap H locs → ∀ ls : Array Slot, lv_has ls 6 [(0, .int y0), (1, .ref aq), (3, .ref ab), (4, .int y4), (5, .int y5)] → W p l e (headSpec (wsG yL_hang cL_hang 6 (some .int)) ({ frames := 0, cells := 0, slots := 0, locals := 0 })).room s m (([.int x0, .ref aq, .ref ak, .ref ab] : List Value).toArray) below meth c H locs 0 0 (MQ below (cI dC dI res ((arrW cyI aq 4 qv) ++ (arrW cyI ak 24 kev) ++ (arrW cyI ab 12 bov)) A) ([.int x0, .ref aq, .ref ak, .ref ab] : List Value).toArray s 0 0 A) (F0 m 55 ls []) := by
    intro fuel
    induction fuel with
    | zero => intro qv kev bov y0 y4 y5 h; rw [fL_hang_b55] at h; cases h
    | succ fuel ih =>
      intro qv kev bov y0 y4 y5 h H locs hP hD hS ls hl
      rw [fL_hang_b55] at h
      refine lv_iload hx hb dL_hang_55 (lv_at hl 4 rfl) ?_
      refine lv_aload_n hx hb dL_hang_57 rfl (lv_at hl 1 rfl) ?_
      refine lv_iconst (v := 2) hx hb dL_hang_58 (by decide) ?_
      obtain ⟨ni1, h⟩ := ifn h
      refine va_iald hx hb hK.1 hP 0 0 rfl rfl ni1 dL_hang_59 ?_
      refine lv_icmp_ge (tgt := 101) hx hb dL_hang_60 (by decide) (fun c2 => ?_) (fun c2 => ?_)
      · have h := (if_pos c2).symm.trans h
        refine lv_iload hx hb dL_hang_101 (lv_at hl 3 rfl) ?_
        obtain rfl := Option.some.inj h
        exact e_i hx hb hr hlocks hP hS dL_hang_103
      · have h := (if_neg c2).symm.trans h
        refine lv_iload hx hb dL_hang_63 (lv_at hl 3 rfl) ?_
        refine lv_aload_n hx hb dL_hang_65 rfl (lv_at hl 2 rfl) ?_
        refine lv_iconst (v := 2) hx hb dL_hang_66 (by decide) ?_
        refine lv_iload hx hb dL_hang_67 (lv_at hl 4 rfl) ?_
        refine lv_imul hx hb dL_hang_69 ?_
        obtain ⟨ni3, h⟩ := ifn h
        refine va_iald hx hb hK.1 hP 2 0 rfl rfl ni3 dL_hang_70 ?_
        refine lv_iload_n hx hb dL_hang_71 rfl (lv_at hl 0 rfl) ?_
        refine lv_icmp_ne (tgt := 91) hx hb dL_hang_72 (by decide) (fun c4 => ?_) (fun c4 => ?_)
        · have h := (if_neg c4).symm.trans h
          refine lv_iconst (v := 0) hx hb dL_hang_91 (by decide) ?_
          refine lv_iadd hx hb dL_hang_92 ?_
          refine lv_istore (lv' := [(4, .int (y4 + 0)), (0, .int y0), (1, .ref aq), (3, .ref ab), (5, .int y5)]) hx hb dL_hang_93 hl (by decide) rfl (fun ls hl => ?_)
          refine lv_iinc (v := (y5 + 1)) (lv' := [(5, .int (y5 + 1)), (4, .int (y4 + 0)), (0, .int y0), (1, .ref aq), (3, .ref ab)]) hx hb dL_hang_95 hl (k := 4) rfl rfl (by decide) rfl (fun ls hl => ?_)
          refine lv_goto (tgt := 55) hx hb dL_hang_98 (by decide) ?_
          exact ih qv kev bov y0 (y4 + 0) (y5 + 1) h _ _ hP hD hS ls (lv_sub hl [2, 3, 4, 1, 0] rfl)
        · have h := (if_pos c4).symm.trans h
          refine lv_aload_n hx hb dL_hang_75 rfl (lv_at hl 2 rfl) ?_
          refine lv_iconst (v := 2) hx hb dL_hang_76 (by decide) ?_
          refine lv_iload hx hb dL_hang_77 (lv_at hl 4 rfl) ?_
          refine lv_imul hx hb dL_hang_79 ?_
          refine lv_iconst (v := 1) hx hb dL_hang_80 (by decide) ?_
          refine lv_iadd hx hb dL_hang_81 ?_
          obtain ⟨ni5, h⟩ := ifn h
          refine va_iald hx hb hK.1 hP 2 0 rfl rfl ni5 dL_hang_82 ?_
          refine lv_iconst (v := 1) hx hb dL_hang_83 (by decide) ?_
          refine lv_icmp_ne (tgt := 91) hx hb dL_hang_84 (by decide) (fun c6 => ?_) (fun c6 => ?_)
          · have h := (if_neg c6).symm.trans h
            refine lv_iconst (v := 0) hx hb dL_hang_91 (by decide) ?_
            refine lv_iadd hx hb dL_hang_92 ?_
            refine lv_istore (lv' := [(4, .int (y4 + 0)), (0, .int y0), (1, .ref aq), (3, .ref ab), (5, .int y5)]) hx hb dL_hang_93 hl (by decide) rfl (fun ls hl => ?_)
            refine lv_iinc (v := (y5 + 1)) (lv' := [(5, .int (y5 + 1)), (4, .int (y4 + 0)), (0, .int y0), (1, .ref aq), (3, .ref ab)]) hx hb dL_hang_95 hl (k := 4) rfl rfl (by decide) rfl (fun ls hl => ?_)
            refine lv_goto (tgt := 55) hx hb dL_hang_98 (by decide) ?_
            exact ih qv kev bov y0 (y4 + 0) (y5 + 1) h _ _ hP hD hS ls (lv_sub hl [2, 3, 4, 1, 0] rfl)
          · have h := (if_pos c6).symm.trans h
            refine lv_iconst (v := 1) hx hb dL_hang_87 (by decide) ?_
            refine lv_goto (tgt := 92) hx hb dL_hang_88 (by decide) ?_
            refine lv_iadd hx hb dL_hang_92 ?_
            refine lv_istore (lv' := [(4, .int (y4 + 1)), (0, .int y0), (1, .ref aq), (3, .ref ab), (5, .int y5)]) hx hb dL_hang_93 hl (by decide) rfl (fun ls hl => ?_)
            refine lv_iinc (v := (y5 + 1)) (lv' := [(5, .int (y5 + 1)), (4, .int (y4 + 1)), (0, .int y0), (1, .ref aq), (3, .ref ab)]) hx hb dL_hang_95 hl (k := 4) rfl rfl (by decide) rfl (fun ls hl => ?_)
            refine lv_goto (tgt := 55) hx hb dL_hang_98 (by decide) ?_
            exact ih qv kev bov y0 (y4 + 1) (y5 + 1) h _ _ hP hD hS ls (lv_sub hl [2, 3, 4, 1, 0] rfl)
  have kB6 : ∀ (fuel : Nat) (qv : Nat → Int32) (kev : Nat → Int32) (bov : Nat → Int32) (y0 : Int32) (y4 : Int32) (y5 : Int32), fL_hang_b6 fuel qv kev bov y0 y4 y5 = some res → ∀ (H : Heap) (locs : List Loc), va_P (dC, dI) vwCl ((arrW cyI aq 4 qv) ++ (arrW cyI ak 24 kev) ++ (arrW cyI ab 12 bov)) H → va_D A ((arrW cyI aq 4 qv) ++ (arrW cyI ak 24 kev) ++ (arrW cyI ab 12 bov)) → va_S A s.heap H locs → ∀ ls : Array Slot, lv_has ls 6 [(0, .int y0), (1, .ref aq), (2, .ref ak), (3, .ref ab), (4, .int y4), (5, .int y5)] → W p l e (headSpec (wsG yL_hang cL_hang 6 (some .int)) ({ frames := 0, cells := 0, slots := 0, locals := 0 })).room s m (([.int x0, .ref aq, .ref ak, .ref ab] : List Value).toArray) below meth c H locs 0 0 (MQ below (cI dC dI res ((arrW cyI aq 4 qv) ++ (arrW cyI ak 24 kev) ++ (arrW cyI ab 12 bov)) A) ([.int x0, .ref aq, .ref ak, .ref ab] : List Value).toArray s 0 0 A) (F0 m 6 ls []) := by
    intro fuel
    induction fuel with
    | zero => intro qv kev bov y0 y4 y5 h; rw [fL_hang_b6] at h; cases h
    | succ fuel ih =>
      intro qv kev bov y0 y4 y5 h H locs hP hD hS ls hl
      rw [fL_hang_b6] at h
      refine lv_iload hx hb dL_hang_6 (lv_at hl 5 rfl) ?_
      refine lv_aload_n hx hb dL_hang_8 rfl (lv_at hl 1 rfl) ?_
      refine lv_iconst (v := 1) hx hb dL_hang_9 (by decide) ?_
      obtain ⟨ni7, h⟩ := ifn h
      refine va_iald hx hb hK.1 hP 0 0 rfl rfl ni7 dL_hang_10 ?_
      refine lv_icmp_ge (tgt := 52) hx hb dL_hang_11 (by decide) (fun c8 => ?_) (fun c8 => ?_)
      · have h := (if_pos c8).symm.trans h
        refine lv_iconst (v := 0) hx hb dL_hang_52 (by decide) ?_
        refine lv_istore (lv' := [(5, .int 0), (0, .int y0), (1, .ref aq), (2, .ref ak), (3, .ref ab), (4, .int y4)]) hx hb dL_hang_53 hl (by decide) rfl (fun ls hl => ?_)
        exact kB55 6000 qv kev bov y0 y4 0 h _ _ hP hD hS ls (lv_sub hl [1, 2, 4, 5, 0] rfl)
      · have h := (if_neg c8).symm.trans h
        refine lv_iload hx hb dL_hang_14 (lv_at hl 4 rfl) ?_
        refine lv_aload_n hx hb dL_hang_16 rfl (lv_at hl 2 rfl) ?_
        refine lv_iconst (v := 4) hx hb dL_hang_17 (by decide) ?_
        refine lv_iload hx hb dL_hang_18 (lv_at hl 5 rfl) ?_
        refine lv_imul hx hb dL_hang_20 ?_
        obtain ⟨ni9, h⟩ := ifn h
        refine va_iald hx hb hK.1 hP 1 0 rfl rfl ni9 dL_hang_21 ?_
        refine lv_iload_n hx hb dL_hang_22 rfl (lv_at hl 0 rfl) ?_
        refine lv_icmp_ne (tgt := 42) hx hb dL_hang_23 (by decide) (fun c10 => ?_) (fun c10 => ?_)
        · have h := (if_neg c10).symm.trans h
          refine lv_iconst (v := 0) hx hb dL_hang_42 (by decide) ?_
          refine lv_iadd hx hb dL_hang_43 ?_
          refine lv_istore (lv' := [(4, .int (y4 + 0)), (0, .int y0), (1, .ref aq), (2, .ref ak), (3, .ref ab), (5, .int y5)]) hx hb dL_hang_44 hl (by decide) rfl (fun ls hl => ?_)
          refine lv_iinc (v := (y5 + 1)) (lv' := [(5, .int (y5 + 1)), (4, .int (y4 + 0)), (0, .int y0), (1, .ref aq), (2, .ref ak), (3, .ref ab)]) hx hb dL_hang_46 hl (k := 5) rfl rfl (by decide) rfl (fun ls hl => ?_)
          refine lv_goto (tgt := 6) hx hb dL_hang_49 (by decide) ?_
          exact ih qv kev bov y0 (y4 + 0) (y5 + 1) h _ _ hP hD hS ls (lv_sub hl [2, 3, 4, 5, 1, 0] rfl)
        · have h := (if_pos c10).symm.trans h
          refine lv_aload_n hx hb dL_hang_26 rfl (lv_at hl 2 rfl) ?_
          refine lv_iconst (v := 4) hx hb dL_hang_27 (by decide) ?_
          refine lv_iload hx hb dL_hang_28 (lv_at hl 5 rfl) ?_
          refine lv_imul hx hb dL_hang_30 ?_
          refine lv_iconst (v := 1) hx hb dL_hang_31 (by decide) ?_
          refine lv_iadd hx hb dL_hang_32 ?_
          obtain ⟨ni11, h⟩ := ifn h
          refine va_iald hx hb hK.1 hP 1 0 rfl rfl ni11 dL_hang_33 ?_
          refine lv_iconst (v := 1) hx hb dL_hang_34 (by decide) ?_
          refine lv_icmp_ne (tgt := 42) hx hb dL_hang_35 (by decide) (fun c12 => ?_) (fun c12 => ?_)
          · have h := (if_neg c12).symm.trans h
            refine lv_iconst (v := 0) hx hb dL_hang_42 (by decide) ?_
            refine lv_iadd hx hb dL_hang_43 ?_
            refine lv_istore (lv' := [(4, .int (y4 + 0)), (0, .int y0), (1, .ref aq), (2, .ref ak), (3, .ref ab), (5, .int y5)]) hx hb dL_hang_44 hl (by decide) rfl (fun ls hl => ?_)
            refine lv_iinc (v := (y5 + 1)) (lv' := [(5, .int (y5 + 1)), (4, .int (y4 + 0)), (0, .int y0), (1, .ref aq), (2, .ref ak), (3, .ref ab)]) hx hb dL_hang_46 hl (k := 5) rfl rfl (by decide) rfl (fun ls hl => ?_)
            refine lv_goto (tgt := 6) hx hb dL_hang_49 (by decide) ?_
            exact ih qv kev bov y0 (y4 + 0) (y5 + 1) h _ _ hP hD hS ls (lv_sub hl [2, 3, 4, 5, 1, 0] rfl)
          · have h := (if_pos c12).symm.trans h
            refine lv_iconst (v := 1) hx hb dL_hang_38 (by decide) ?_
            refine lv_goto (tgt := 43) hx hb dL_hang_39 (by decide) ?_
            refine lv_iadd hx hb dL_hang_43 ?_
            refine lv_istore (lv' := [(4, .int (y4 + 1)), (0, .int y0), (1, .ref aq), (2, .ref ak), (3, .ref ab), (5, .int y5)]) hx hb dL_hang_44 hl (by decide) rfl (fun ls hl => ?_)
            refine lv_iinc (v := (y5 + 1)) (lv' := [(5, .int (y5 + 1)), (4, .int (y4 + 1)), (0, .int y0), (1, .ref aq), (2, .ref ak), (3, .ref ab)]) hx hb dL_hang_46 hl (k := 5) rfl rfl (by decide) rfl (fun ls hl => ?_)
            refine lv_goto (tgt := 6) hx hb dL_hang_49 (by decide) ?_
            exact ih qv kev bov y0 (y4 + 1) (y5 + 1) h _ _ hP hD hS ls (lv_sub hl [2, 3, 4, 5, 1, 0] rfl)
  have hl := lv_entry ([.int x0, .ref aq, .ref ak, .ref ab]) (n := 6) (Nat.le_of_ble_eq_true rfl)
  rw [lg_entry_eq]
  generalize (lg_sl ([.int x0, .ref aq, .ref ak, .ref ab]) ++ List.replicate (6 - (lg_sl ([.int x0, .ref aq, .ref ak, .ref ab])).length) Slot.unset).toArray = ls at hl ⊢
  have hl : lv_has ls 6 [(0, .int x0), (1, .ref aq), (2, .ref ak), (3, .ref ab)] := hl
  unfold fL_hang at h
  refine lv_iconst (v := 0) hx hb dL_hang_0 (by decide) ?_
  refine lv_istore (lv' := [(4, .int 0), (0, .int x0), (1, .ref aq), (2, .ref ak), (3, .ref ab)]) hx hb dL_hang_1 hl (by decide) rfl (fun ls hl => ?_)
  refine lv_iconst (v := 0) hx hb dL_hang_3 (by decide) ?_
  refine lv_istore (lv' := [(5, .int 0), (4, .int 0), (0, .int x0), (1, .ref aq), (2, .ref ak), (3, .ref ab)]) hx hb dL_hang_4 hl (by decide) rfl (fun ls hl => ?_)
  exact kB6 6000 qv kev bov x0 0 0 h _ _ hP hD hS ls (lv_sub hl [2, 3, 4, 5, 1, 0] rfl)
noncomputable def fL_wrapAll_b65 : Nat → (Nat → Int32) → (Nat → Int32) → (Nat → Int32) → (Nat → Int32) → Int32 → Int32 → Int32 → Option (Int32 × (Nat → Int32) × (Nat → Int32) × (Nat → Int32))
  | 0, _, _, _, _, _, _, _ => none
  | fuel + 1, qv, kev, bov, wrv, y0, y5, y6 =>
  (if (2 : Int32) < 0 ∨ 4 ≤ (2 : Int32).toNatClampNeg then none else (if (qv (2 : Int32).toNatClampNeg) ≤ y6 then (if (3 : Int32) < 0 ∨ 4 ≤ (3 : Int32).toNatClampNeg then none else (some (((qv (3 : Int32).toNatClampNeg) - y5), qv, kev, wrv))) else (if (2 * y6) < 0 ∨ 12 ≤ (2 * y6).toNatClampNeg then none else (if (bov (2 * y6).toNatClampNeg) = y0 then (if ((2 * y6) + 1) < 0 ∨ 12 ≤ ((2 * y6) + 1).toNatClampNeg then none else (if (bov ((2 * y6) + 1).toNatClampNeg) = 1 then ((fL_wrap qv kev wrv 7 y6 y0).bind fun q8 => fL_wrapAll_b65 fuel q8.1 q8.2.1 bov q8.2.2 y0 y5 (y6 + 1)) else fL_wrapAll_b65 fuel qv kev bov wrv y0 y5 (y6 + 1))) else fL_wrapAll_b65 fuel qv kev bov wrv y0 y5 (y6 + 1)))))

noncomputable def fL_wrapAll_b8 : Nat → (Nat → Int32) → (Nat → Int32) → (Nat → Int32) → (Nat → Int32) → Int32 → Int32 → Int32 → Option (Int32 × (Nat → Int32) × (Nat → Int32) × (Nat → Int32))
  | 0, _, _, _, _, _, _, _ => none
  | fuel + 1, qv, kev, bov, wrv, y0, y5, y6 =>
  (if (1 : Int32) < 0 ∨ 4 ≤ (1 : Int32).toNatClampNeg then none else (if (qv (1 : Int32).toNatClampNeg) ≤ y6 then fL_wrapAll_b65 6000 qv kev bov wrv y0 y5 0 else (if (4 * y6) < 0 ∨ 24 ≤ (4 * y6).toNatClampNeg then none else (if (kev (4 * y6).toNatClampNeg) = y0 then (if ((4 * y6) + 1) < 0 ∨ 24 ≤ ((4 * y6) + 1).toNatClampNeg then none else (if (kev ((4 * y6) + 1).toNatClampNeg) = 1 then (if ((4 * y6) + 2) < 0 ∨ 24 ≤ ((4 * y6) + 2).toNatClampNeg then none else ((fL_wrap qv kev wrv y6 (kev ((4 * y6) + 2).toNatClampNeg) y0).bind fun q17 => fL_wrapAll_b8 fuel q17.1 q17.2.1 bov q17.2.2 y0 y5 (y6 + 1))) else fL_wrapAll_b8 fuel qv kev bov wrv y0 y5 (y6 + 1))) else fL_wrapAll_b8 fuel qv kev bov wrv y0 y5 (y6 + 1)))))

noncomputable def fL_wrapAll (qv : Nat → Int32) (kev : Nat → Int32) (bov : Nat → Int32) (wrv : Nat → Int32) (x0 : Int32) : Option (Int32 × (Nat → Int32) × (Nat → Int32) × (Nat → Int32)) :=
  (if (3 : Int32) < 0 ∨ 4 ≤ (3 : Int32).toNatClampNeg then none else fL_wrapAll_b8 6000 qv kev bov wrv x0 (qv (3 : Int32).toNatClampNeg) 0)
set_option maxHeartbeats 1000000 in
set_option maxRecDepth 100000 in
theorem mL_wrapAll (l : Launch) (dC : Nat → ClassId) (dI : Nat → Nat → Nat) (cyI cyO cyL : ClassId) (aq ak ab aw : Nat) (qv : Nat → Int32) (kev : Nat → Int32) (bov : Nat → Int32) (wrv : Nat → Int32) (x0 : Int32) (sz : Nat) (res : Int32 × (Nat → Int32) × (Nat → Int32) × (Nat → Int32)) (h : fL_wrapAll qv kev bov wrv x0 = some res) : Met l yL_wrapAll (wsG yL_wrapAll cL_wrapAll 7 (some .int)) ({ frames := 2, cells := 0, slots := 0, locals := 48 }) (cP dC dI cyI cyO cyL sz [.int x0, .ref aq, .ref ak, .ref ab, .ref aw] ((arrW cyI aq 4 qv) ++ (arrW cyI ak 24 kev) ++ (arrW cyI ab 12 bov) ++ (arrW cyI aw 64 wrv))) (cI dC dI res.1 ((arrW cyI aq 4 res.2.1) ++ (arrW cyI ak 24 res.2.2.1) ++ (arrW cyI ab 12 bov) ++ (arrW cyI aw 64 res.2.2.2)) (va_A ((arrW cyI aq 4 qv) ++ (arrW cyI ak 24 kev) ++ (arrW cyI ab 12 bov) ++ (arrW cyI aw 64 wrv)) sz)) 0 0 (va_A ((arrW cyI aq 4 qv) ++ (arrW cyI ak 24 kev) ++ (arrW cyI ab 12 bov) ++ (arrW cyI aw 64 wrv)) sz) := by
  refine Met.ofW (cc := cL_wrapAll) (maxL := 7) (ret := (some .int)) (by decide) rfl ?_
  intro p e s m args below meth c s₁ B hml hv
  obtain ⟨rfl, hsz, hP, hK, hD0⟩ := hv
  have hx := B.exec
  have hb := B.bytes
  have hr := B.returns
  have hts := atoms_spec (ws := wsG yL_wrapAll cL_wrapAll 7 (some .int)) B.pre
  have hown : s.vm.findClass RL = some m.cls := findClass_of_methodNamed B.named
  have hlocks := B.notSynchronized
  subst hsz
  have hD := hD0.self (sz := s.heap.size)
  generalize hAe : va_A ((arrW cyI aq 4 qv) ++ (arrW cyI ak 24 kev) ++ (arrW cyI ab 12 bov) ++ (arrW cyI aw 64 wrv)) s.heap.size = A at hD ⊢
  have hA : ∀ q : Nat, s.heap.size ≤ q → A q := fun q h => by rw [← hAe]; exact Or.inr h
  have hS : va_S A s.heap s.heap [] := va_S.rf
  have kB65 : ∀ (fuel : Nat) (qv : Nat → Int32) (kev : Nat → Int32) (bov : Nat → Int32) (wrv : Nat → Int32) (y0 : Int32) (y5 : Int32) (y6 : Int32), fL_wrapAll_b65 fuel qv kev bov wrv y0 y5 y6 = some res → ∀ (H : Heap) (locs : List Loc), va_P (dC, dI) vwCl ((arrW cyI aq 4 qv) ++ (arrW cyI ak 24 kev) ++ (arrW cyI ab 12 bov) ++ (arrW cyI aw 64 wrv)) H → va_D A ((arrW cyI aq 4 qv) ++ (arrW cyI ak 24 kev) ++ (arrW cyI ab 12 bov) ++ (arrW cyI aw 64 wrv)) → va_S A s.heap H locs → ∀ ls : Array Slot, lv_has ls 7 [(0, .int y0), (1, .ref aq), (2, .ref ak), (3, .ref ab), (4, .ref aw), (5, .int y5), (6, .int y6)] → W p l e (headSpec (wsG yL_wrapAll cL_wrapAll 7 (some .int)) ({ frames := 2, cells := 0, slots := 0, locals := 48 })).room s m (([.int x0, .ref aq, .ref ak, .ref ab, .ref aw] : List Value).toArray) below meth c H locs 0 0 (MQ below (cI dC dI res.1 ((arrW cyI aq 4 res.2.1) ++ (arrW cyI ak 24 res.2.2.1) ++ (arrW cyI ab 12 bov) ++ (arrW cyI aw 64 res.2.2.2)) A) ([.int x0, .ref aq, .ref ak, .ref ab, .ref aw] : List Value).toArray s 0 0 A) (F0 m 65 ls []) := by
    intro fuel
    induction fuel with
    | zero => intro qv kev bov wrv y0 y5 y6 h; rw [fL_wrapAll_b65] at h; cases h
    | succ fuel ih =>
      intro qv kev bov wrv y0 y5 y6 h H locs hP hD hS ls hl
      rw [fL_wrapAll_b65] at h
      refine lv_iload hx hb dL_wrapAll_65 (lv_at hl 6 rfl) ?_
      refine lv_aload_n hx hb dL_wrapAll_67 rfl (lv_at hl 1 rfl) ?_
      refine lv_iconst (v := 2) hx hb dL_wrapAll_68 (by decide) ?_
      obtain ⟨ni1, h⟩ := ifn h
      refine va_iald hx hb hK.1 hP 0 0 rfl rfl ni1 dL_wrapAll_69 ?_
      refine lv_icmp_ge (tgt := 113) hx hb dL_wrapAll_70 (by decide) (fun c2 => ?_) (fun c2 => ?_)
      · have h := (if_pos c2).symm.trans h
        refine lv_aload_n hx hb dL_wrapAll_113 rfl (lv_at hl 1 rfl) ?_
        refine lv_iconst (v := 3) hx hb dL_wrapAll_114 (by decide) ?_
        obtain ⟨ni3, h⟩ := ifn h
        refine va_iald hx hb hK.1 hP 0 0 rfl rfl ni3 dL_wrapAll_115 ?_
        refine lv_iload hx hb dL_wrapAll_116 (lv_at hl 5 rfl) ?_
        refine lv_isub hx hb dL_wrapAll_118 ?_
        obtain rfl := Option.some.inj h
        exact e_i hx hb hr hlocks hP hS dL_wrapAll_119
      · have h := (if_neg c2).symm.trans h
        refine lv_aload_n hx hb dL_wrapAll_73 rfl (lv_at hl 3 rfl) ?_
        refine lv_iconst (v := 2) hx hb dL_wrapAll_74 (by decide) ?_
        refine lv_iload hx hb dL_wrapAll_75 (lv_at hl 6 rfl) ?_
        refine lv_imul hx hb dL_wrapAll_77 ?_
        obtain ⟨ni4, h⟩ := ifn h
        refine va_iald hx hb hK.1 hP 2 0 rfl rfl ni4 dL_wrapAll_78 ?_
        refine lv_iload_n hx hb dL_wrapAll_79 rfl (lv_at hl 0 rfl) ?_
        refine lv_icmp_ne (tgt := 107) hx hb dL_wrapAll_80 (by decide) (fun c5 => ?_) (fun c5 => ?_)
        · have h := (if_neg c5).symm.trans h
          refine lv_iinc (v := (y6 + 1)) (lv' := [(6, .int (y6 + 1)), (0, .int y0), (1, .ref aq), (2, .ref ak), (3, .ref ab), (4, .ref aw), (5, .int y5)]) hx hb dL_wrapAll_107 hl (k := 6) rfl rfl (by decide) rfl (fun ls hl => ?_)
          refine lv_goto (tgt := 65) hx hb dL_wrapAll_110 (by decide) ?_
          exact ih qv kev bov wrv y0 y5 (y6 + 1) h _ _ hP hD hS ls (lv_sub hl [1, 2, 3, 4, 5, 6, 0] rfl)
        · have h := (if_pos c5).symm.trans h
          refine lv_aload_n hx hb dL_wrapAll_83 rfl (lv_at hl 3 rfl) ?_
          refine lv_iconst (v := 2) hx hb dL_wrapAll_84 (by decide) ?_
          refine lv_iload hx hb dL_wrapAll_85 (lv_at hl 6 rfl) ?_
          refine lv_imul hx hb dL_wrapAll_87 ?_
          refine lv_iconst (v := 1) hx hb dL_wrapAll_88 (by decide) ?_
          refine lv_iadd hx hb dL_wrapAll_89 ?_
          obtain ⟨ni6, h⟩ := ifn h
          refine va_iald hx hb hK.1 hP 2 0 rfl rfl ni6 dL_wrapAll_90 ?_
          refine lv_iconst (v := 1) hx hb dL_wrapAll_91 (by decide) ?_
          refine lv_icmp_ne (tgt := 107) hx hb dL_wrapAll_92 (by decide) (fun c7 => ?_) (fun c7 => ?_)
          · have h := (if_neg c7).symm.trans h
            refine lv_iinc (v := (y6 + 1)) (lv' := [(6, .int (y6 + 1)), (0, .int y0), (1, .ref aq), (2, .ref ak), (3, .ref ab), (4, .ref aw), (5, .int y5)]) hx hb dL_wrapAll_107 hl (k := 6) rfl rfl (by decide) rfl (fun ls hl => ?_)
            refine lv_goto (tgt := 65) hx hb dL_wrapAll_110 (by decide) ?_
            exact ih qv kev bov wrv y0 y5 (y6 + 1) h _ _ hP hD hS ls (lv_sub hl [1, 2, 3, 4, 5, 6, 0] rfl)
          · have h := (if_pos c7).symm.trans h
            refine lv_bipush (v := 7) hx hb dL_wrapAll_95 (by decide) ?_
            refine lv_iload hx hb dL_wrapAll_97 (lv_at hl 6 rfl) ?_
            refine lv_iload_n hx hb dL_wrapAll_99 rfl (lv_at hl 0 rfl) ?_
            refine lv_aload_n hx hb dL_wrapAll_100 rfl (lv_at hl 1 rfl) ?_
            refine lv_aload_n hx hb dL_wrapAll_101 rfl (lv_at hl 2 rfl) ?_
            refine lv_aload hx hb dL_wrapAll_102 (lv_at hl 4 rfl) ?_
            obtain ⟨q8, e9, h⟩ := ob h
            refine fr_v (M := ((arrW cyI aq 4 qv) ++ (arrW cyI ak 24 kev) ++ (arrW cyI aw 64 wrv))) (M' := ((arrW cyI aq 4 q8.1) ++ (arrW cyI ak 24 q8.2.1) ++ (arrW cyI aw 64 q8.2.2))) (L' := ((arrW cyI aq 4 q8.1) ++ (arrW cyI ak 24 q8.2.1) ++ (arrW cyI ab 12 bov) ++ (arrW cyI aw 64 q8.2.2))) (va_runS (As := [.int 7, .int y6, .int y0, .ref aq, .ref ak, .ref aw]) (rest := []) ⟨hx, hb, hml, hown, hts⟩ (mL_wrap l dC dI cyI cyO cyL aq ak aw qv kev wrv 7 y6 y0 _ q8 e9) (va_cwS 6 hts (gS ml_L_17 st_L_wrap in_L co_L_wrap) rfl rfl rfl (by decide +kernel) ⟨Nat.le_of_ble_eq_true rfl, Nat.le_of_ble_eq_true rfl⟩) (cP_S hK hP hD [0, 1, 3] rfl rfl) rfl rfl hl.1 rfl (lv_room (Nat.le_of_ble_eq_true rfl)) dL_wrapAll_104 ⟨Nat.zero_le _, Nat.zero_le _⟩) hP hD hS hA [0, 1, 3] rfl [(true, 0), (true, 1), (false, 2), (true, 2)] rfl rfl rfl (fun H locs hP hD hS => ?_)
            refine lv_iinc (v := (y6 + 1)) (lv' := [(6, .int (y6 + 1)), (0, .int y0), (1, .ref aq), (2, .ref ak), (3, .ref ab), (4, .ref aw), (5, .int y5)]) hx hb dL_wrapAll_107 hl (k := 6) rfl rfl (by decide) rfl (fun ls hl => ?_)
            refine lv_goto (tgt := 65) hx hb dL_wrapAll_110 (by decide) ?_
            exact ih q8.1 q8.2.1 bov q8.2.2 y0 y5 (y6 + 1) h _ _ hP hD hS ls (lv_sub hl [1, 2, 3, 4, 5, 6, 0] rfl)
  have kB8 : ∀ (fuel : Nat) (qv : Nat → Int32) (kev : Nat → Int32) (bov : Nat → Int32) (wrv : Nat → Int32) (y0 : Int32) (y5 : Int32) (y6 : Int32), fL_wrapAll_b8 fuel qv kev bov wrv y0 y5 y6 = some res → ∀ (H : Heap) (locs : List Loc), va_P (dC, dI) vwCl ((arrW cyI aq 4 qv) ++ (arrW cyI ak 24 kev) ++ (arrW cyI ab 12 bov) ++ (arrW cyI aw 64 wrv)) H → va_D A ((arrW cyI aq 4 qv) ++ (arrW cyI ak 24 kev) ++ (arrW cyI ab 12 bov) ++ (arrW cyI aw 64 wrv)) → va_S A s.heap H locs → ∀ ls : Array Slot, lv_has ls 7 [(0, .int y0), (1, .ref aq), (2, .ref ak), (3, .ref ab), (4, .ref aw), (5, .int y5), (6, .int y6)] → W p l e (headSpec (wsG yL_wrapAll cL_wrapAll 7 (some .int)) ({ frames := 2, cells := 0, slots := 0, locals := 48 })).room s m (([.int x0, .ref aq, .ref ak, .ref ab, .ref aw] : List Value).toArray) below meth c H locs 0 0 (MQ below (cI dC dI res.1 ((arrW cyI aq 4 res.2.1) ++ (arrW cyI ak 24 res.2.2.1) ++ (arrW cyI ab 12 bov) ++ (arrW cyI aw 64 res.2.2.2)) A) ([.int x0, .ref aq, .ref ak, .ref ab, .ref aw] : List Value).toArray s 0 0 A) (F0 m 8 ls []) := by
    intro fuel
    induction fuel with
    | zero => intro qv kev bov wrv y0 y5 y6 h; rw [fL_wrapAll_b8] at h; cases h
    | succ fuel ih =>
      intro qv kev bov wrv y0 y5 y6 h H locs hP hD hS ls hl
      rw [fL_wrapAll_b8] at h
      refine lv_iload hx hb dL_wrapAll_8 (lv_at hl 6 rfl) ?_
      refine lv_aload_n hx hb dL_wrapAll_10 rfl (lv_at hl 1 rfl) ?_
      refine lv_iconst (v := 1) hx hb dL_wrapAll_11 (by decide) ?_
      obtain ⟨ni10, h⟩ := ifn h
      refine va_iald hx hb hK.1 hP 0 0 rfl rfl ni10 dL_wrapAll_12 ?_
      refine lv_icmp_ge (tgt := 62) hx hb dL_wrapAll_13 (by decide) (fun c11 => ?_) (fun c11 => ?_)
      · have h := (if_pos c11).symm.trans h
        refine lv_iconst (v := 0) hx hb dL_wrapAll_62 (by decide) ?_
        refine lv_istore (lv' := [(6, .int 0), (0, .int y0), (1, .ref aq), (2, .ref ak), (3, .ref ab), (4, .ref aw), (5, .int y5)]) hx hb dL_wrapAll_63 hl (by decide) rfl (fun ls hl => ?_)
        exact kB65 6000 qv kev bov wrv y0 y5 0 h _ _ hP hD hS ls (lv_sub hl [1, 2, 3, 4, 5, 6, 0] rfl)
      · have h := (if_neg c11).symm.trans h
        refine lv_aload_n hx hb dL_wrapAll_16 rfl (lv_at hl 2 rfl) ?_
        refine lv_iconst (v := 4) hx hb dL_wrapAll_17 (by decide) ?_
        refine lv_iload hx hb dL_wrapAll_18 (lv_at hl 6 rfl) ?_
        refine lv_imul hx hb dL_wrapAll_20 ?_
        obtain ⟨ni12, h⟩ := ifn h
        refine va_iald hx hb hK.1 hP 1 0 rfl rfl ni12 dL_wrapAll_21 ?_
        refine lv_iload_n hx hb dL_wrapAll_22 rfl (lv_at hl 0 rfl) ?_
        refine lv_icmp_ne (tgt := 56) hx hb dL_wrapAll_23 (by decide) (fun c13 => ?_) (fun c13 => ?_)
        · have h := (if_neg c13).symm.trans h
          refine lv_iinc (v := (y6 + 1)) (lv' := [(6, .int (y6 + 1)), (0, .int y0), (1, .ref aq), (2, .ref ak), (3, .ref ab), (4, .ref aw), (5, .int y5)]) hx hb dL_wrapAll_56 hl (k := 6) rfl rfl (by decide) rfl (fun ls hl => ?_)
          refine lv_goto (tgt := 8) hx hb dL_wrapAll_59 (by decide) ?_
          exact ih qv kev bov wrv y0 y5 (y6 + 1) h _ _ hP hD hS ls (lv_sub hl [1, 2, 3, 4, 5, 6, 0] rfl)
        · have h := (if_pos c13).symm.trans h
          refine lv_aload_n hx hb dL_wrapAll_26 rfl (lv_at hl 2 rfl) ?_
          refine lv_iconst (v := 4) hx hb dL_wrapAll_27 (by decide) ?_
          refine lv_iload hx hb dL_wrapAll_28 (lv_at hl 6 rfl) ?_
          refine lv_imul hx hb dL_wrapAll_30 ?_
          refine lv_iconst (v := 1) hx hb dL_wrapAll_31 (by decide) ?_
          refine lv_iadd hx hb dL_wrapAll_32 ?_
          obtain ⟨ni14, h⟩ := ifn h
          refine va_iald hx hb hK.1 hP 1 0 rfl rfl ni14 dL_wrapAll_33 ?_
          refine lv_iconst (v := 1) hx hb dL_wrapAll_34 (by decide) ?_
          refine lv_icmp_ne (tgt := 56) hx hb dL_wrapAll_35 (by decide) (fun c15 => ?_) (fun c15 => ?_)
          · have h := (if_neg c15).symm.trans h
            refine lv_iinc (v := (y6 + 1)) (lv' := [(6, .int (y6 + 1)), (0, .int y0), (1, .ref aq), (2, .ref ak), (3, .ref ab), (4, .ref aw), (5, .int y5)]) hx hb dL_wrapAll_56 hl (k := 6) rfl rfl (by decide) rfl (fun ls hl => ?_)
            refine lv_goto (tgt := 8) hx hb dL_wrapAll_59 (by decide) ?_
            exact ih qv kev bov wrv y0 y5 (y6 + 1) h _ _ hP hD hS ls (lv_sub hl [1, 2, 3, 4, 5, 6, 0] rfl)
          · have h := (if_pos c15).symm.trans h
            refine lv_iload hx hb dL_wrapAll_38 (lv_at hl 6 rfl) ?_
            refine lv_aload_n hx hb dL_wrapAll_40 rfl (lv_at hl 2 rfl) ?_
            refine lv_iconst (v := 4) hx hb dL_wrapAll_41 (by decide) ?_
            refine lv_iload hx hb dL_wrapAll_42 (lv_at hl 6 rfl) ?_
            refine lv_imul hx hb dL_wrapAll_44 ?_
            refine lv_iconst (v := 2) hx hb dL_wrapAll_45 (by decide) ?_
            refine lv_iadd hx hb dL_wrapAll_46 ?_
            obtain ⟨ni16, h⟩ := ifn h
            refine va_iald hx hb hK.1 hP 1 0 rfl rfl ni16 dL_wrapAll_47 ?_
            refine lv_iload_n hx hb dL_wrapAll_48 rfl (lv_at hl 0 rfl) ?_
            refine lv_aload_n hx hb dL_wrapAll_49 rfl (lv_at hl 1 rfl) ?_
            refine lv_aload_n hx hb dL_wrapAll_50 rfl (lv_at hl 2 rfl) ?_
            refine lv_aload hx hb dL_wrapAll_51 (lv_at hl 4 rfl) ?_
            obtain ⟨q17, e18, h⟩ := ob h
            refine fr_v (M := ((arrW cyI aq 4 qv) ++ (arrW cyI ak 24 kev) ++ (arrW cyI aw 64 wrv))) (M' := ((arrW cyI aq 4 q17.1) ++ (arrW cyI ak 24 q17.2.1) ++ (arrW cyI aw 64 q17.2.2))) (L' := ((arrW cyI aq 4 q17.1) ++ (arrW cyI ak 24 q17.2.1) ++ (arrW cyI ab 12 bov) ++ (arrW cyI aw 64 q17.2.2))) (va_runS (As := [.int y6, .int (kev ((4 * y6) + 2).toNatClampNeg), .int y0, .ref aq, .ref ak, .ref aw]) (rest := []) ⟨hx, hb, hml, hown, hts⟩ (mL_wrap l dC dI cyI cyO cyL aq ak aw qv kev wrv y6 (kev ((4 * y6) + 2).toNatClampNeg) y0 _ q17 e18) (va_cwS 6 hts (gS ml_L_17 st_L_wrap in_L co_L_wrap) rfl rfl rfl (by decide +kernel) ⟨Nat.le_of_ble_eq_true rfl, Nat.le_of_ble_eq_true rfl⟩) (cP_S hK hP hD [0, 1, 3] rfl rfl) rfl rfl hl.1 rfl (lv_room (Nat.le_of_ble_eq_true rfl)) dL_wrapAll_53 ⟨Nat.zero_le _, Nat.zero_le _⟩) hP hD hS hA [0, 1, 3] rfl [(true, 0), (true, 1), (false, 2), (true, 2)] rfl rfl rfl (fun H locs hP hD hS => ?_)
            refine lv_iinc (v := (y6 + 1)) (lv' := [(6, .int (y6 + 1)), (0, .int y0), (1, .ref aq), (2, .ref ak), (3, .ref ab), (4, .ref aw), (5, .int y5)]) hx hb dL_wrapAll_56 hl (k := 6) rfl rfl (by decide) rfl (fun ls hl => ?_)
            refine lv_goto (tgt := 8) hx hb dL_wrapAll_59 (by decide) ?_
            exact ih q17.1 q17.2.1 bov q17.2.2 y0 y5 (y6 + 1) h _ _ hP hD hS ls (lv_sub hl [1, 2, 3, 4, 5, 6, 0] rfl)
  have hl := lv_entry ([.int x0, .ref aq, .ref ak, .ref ab, .ref aw]) (n := 7) (Nat.le_of_ble_eq_true rfl)
  rw [lg_entry_eq]
  generalize (lg_sl ([.int x0, .ref aq, .ref ak, .ref ab, .ref aw]) ++ List.replicate (7 - (lg_sl ([.int x0, .ref aq, .ref ak, .ref ab, .ref aw])).length) Slot.unset).toArray = ls at hl ⊢
  have hl : lv_has ls 7 [(0, .int x0), (1, .ref aq), (2, .ref ak), (3, .ref ab), (4, .ref aw)] := hl
  unfold fL_wrapAll at h
  refine lv_aload_n hx hb dL_wrapAll_0 rfl (lv_at hl 1 rfl) ?_
  refine lv_iconst (v := 3) hx hb dL_wrapAll_1 (by decide) ?_
  obtain ⟨ni19, h⟩ := ifn h
  refine va_iald hx hb hK.1 hP 0 0 rfl rfl ni19 dL_wrapAll_2 ?_
  refine lv_istore (lv' := [(5, .int (qv (3 : Int32).toNatClampNeg)), (0, .int x0), (1, .ref aq), (2, .ref ak), (3, .ref ab), (4, .ref aw)]) hx hb dL_wrapAll_3 hl (by decide) rfl (fun ls hl => ?_)
  refine lv_iconst (v := 0) hx hb dL_wrapAll_5 (by decide) ?_
  refine lv_istore (lv' := [(6, .int 0), (5, .int (qv (3 : Int32).toNatClampNeg)), (0, .int x0), (1, .ref aq), (2, .ref ak), (3, .ref ab), (4, .ref aw)]) hx hb dL_wrapAll_6 hl (by decide) rfl (fun ls hl => ?_)
  exact kB8 6000 qv kev bov wrv x0 (qv (3 : Int32).toNatClampNeg) 0 h _ _ hP hD hS ls (lv_sub hl [2, 3, 4, 5, 6, 1, 0] rfl)
noncomputable def fL_burn_b3 : Nat → (Nat → Int32) → (Nat → Int32) → (Nat → Int32) → (Nat → Int32) → Int32 → Int32 → Option ((Nat → Int32))
  | 0, _, _, _, _, _, _ => none
  | fuel + 1, qv, kev, bov, wrv, y0, y5 =>
  (if (3 : Int32) < 0 ∨ 4 ≤ (3 : Int32).toNatClampNeg then none else (if (qv (3 : Int32).toNatClampNeg) ≤ y5 then (some wrv) else (if y5 < 0 ∨ 64 ≤ y5.toNatClampNeg then none else (if (fL_key (wrv y5.toNatClampNeg)) = y0 then (if y5 < 0 ∨ 64 ≤ y5.toNatClampNeg then none else fL_burn_b3 fuel qv kev bov (upd wrv y5.toNatClampNeg ((wrv y5.toNatClampNeg) &&& (-262145))) y0 (y5 + 1)) else (if (fL_closer (wrv y5.toNatClampNeg)) = y0 then (if y5 < 0 ∨ 64 ≤ y5.toNatClampNeg then none else fL_burn_b3 fuel qv kev bov (upd wrv y5.toNatClampNeg ((wrv y5.toNatClampNeg) &&& (-262145))) y0 (y5 + 1)) else (if (fL_key (wrv y5.toNatClampNeg)) = 7 then (if ((2 * (fL_which (wrv y5.toNatClampNeg))) + 1) < 0 ∨ 12 ≤ ((2 * (fL_which (wrv y5.toNatClampNeg))) + 1).toNatClampNeg then none else (if (bov ((2 * (fL_which (wrv y5.toNatClampNeg))) + 1).toNatClampNeg) = 0 then (if y5 < 0 ∨ 64 ≤ y5.toNatClampNeg then none else fL_burn_b3 fuel qv kev bov (upd wrv y5.toNatClampNeg ((wrv y5.toNatClampNeg) &&& (-262145))) y0 (y5 + 1)) else fL_burn_b3 fuel qv kev bov wrv y0 (y5 + 1))) else (if ((4 * (fL_key (wrv y5.toNatClampNeg))) + 1) < 0 ∨ 24 ≤ ((4 * (fL_key (wrv y5.toNatClampNeg))) + 1).toNatClampNeg then none else (if (kev ((4 * (fL_key (wrv y5.toNatClampNeg))) + 1).toNatClampNeg) = 0 then (if y5 < 0 ∨ 64 ≤ y5.toNatClampNeg then none else fL_burn_b3 fuel qv kev bov (upd wrv y5.toNatClampNeg ((wrv y5.toNatClampNeg) &&& (-262145))) y0 (y5 + 1)) else fL_burn_b3 fuel qv kev bov wrv y0 (y5 + 1)))))))))

noncomputable def fL_burn (qv : Nat → Int32) (kev : Nat → Int32) (bov : Nat → Int32) (wrv : Nat → Int32) (x0 : Int32) : Option ((Nat → Int32)) :=
  fL_burn_b3 6000 qv kev bov wrv x0 0
set_option maxHeartbeats 1000000 in
set_option maxRecDepth 100000 in
theorem mL_burn (l : Launch) (dC : Nat → ClassId) (dI : Nat → Nat → Nat) (cyI cyO cyL : ClassId) (aq ak ab aw : Nat) (qv : Nat → Int32) (kev : Nat → Int32) (bov : Nat → Int32) (wrv : Nat → Int32) (x0 : Int32) (sz : Nat) (res : (Nat → Int32)) (h : fL_burn qv kev bov wrv x0 = some res) : Met l yL_burn (wsG yL_burn cL_burn 8 none) ({ frames := 1, cells := 0, slots := 0, locals := 20 }) (cP dC dI cyI cyO cyL sz [.int x0, .ref aq, .ref ak, .ref ab, .ref aw] ((arrW cyI aq 4 qv) ++ (arrW cyI ak 24 kev) ++ (arrW cyI ab 12 bov) ++ (arrW cyI aw 64 wrv))) (cV dC dI ((arrW cyI aq 4 qv) ++ (arrW cyI ak 24 kev) ++ (arrW cyI ab 12 bov) ++ (arrW cyI aw 64 res)) (va_A ((arrW cyI aq 4 qv) ++ (arrW cyI ak 24 kev) ++ (arrW cyI ab 12 bov) ++ (arrW cyI aw 64 wrv)) sz)) 0 0 (va_A ((arrW cyI aq 4 qv) ++ (arrW cyI ak 24 kev) ++ (arrW cyI ab 12 bov) ++ (arrW cyI aw 64 wrv)) sz) := by
  refine Met.ofW (cc := cL_burn) (maxL := 8) (ret := none) (by decide) rfl ?_
  intro p e s m args below meth c s₁ B hml hv
  obtain ⟨rfl, hsz, hP, hK, hD0⟩ := hv
  have hx := B.exec
  have hb := B.bytes
  have hr := B.returns
  have hts := atoms_spec (ws := wsG yL_burn cL_burn 8 none) B.pre
  have hown : s.vm.findClass RL = some m.cls := findClass_of_methodNamed B.named
  have hlocks := B.notSynchronized
  subst hsz
  have hD := hD0.self (sz := s.heap.size)
  generalize hAe : va_A ((arrW cyI aq 4 qv) ++ (arrW cyI ak 24 kev) ++ (arrW cyI ab 12 bov) ++ (arrW cyI aw 64 wrv)) s.heap.size = A at hD ⊢
  have hA : ∀ q : Nat, s.heap.size ≤ q → A q := fun q h => by rw [← hAe]; exact Or.inr h
  have hS : va_S A s.heap s.heap [] := va_S.rf
  have kB3 : ∀ (fuel : Nat) (qv : Nat → Int32) (kev : Nat → Int32) (bov : Nat → Int32) (wrv : Nat → Int32) (y0 : Int32) (y5 : Int32), fL_burn_b3 fuel qv kev bov wrv y0 y5 = some res → ∀ (H : Heap) (locs : List Loc), va_P (dC, dI) vwCl ((arrW cyI aq 4 qv) ++ (arrW cyI ak 24 kev) ++ (arrW cyI ab 12 bov) ++ (arrW cyI aw 64 wrv)) H → va_D A ((arrW cyI aq 4 qv) ++ (arrW cyI ak 24 kev) ++ (arrW cyI ab 12 bov) ++ (arrW cyI aw 64 wrv)) → va_S A s.heap H locs → ∀ ls : Array Slot, lv_has ls 8 [(0, .int y0), (1, .ref aq), (2, .ref ak), (3, .ref ab), (4, .ref aw), (5, .int y5)] → W p l e (headSpec (wsG yL_burn cL_burn 8 none) ({ frames := 1, cells := 0, slots := 0, locals := 20 })).room s m (([.int x0, .ref aq, .ref ak, .ref ab, .ref aw] : List Value).toArray) below meth c H locs 0 0 (MQ below (cV dC dI ((arrW cyI aq 4 qv) ++ (arrW cyI ak 24 kev) ++ (arrW cyI ab 12 bov) ++ (arrW cyI aw 64 res)) A) ([.int x0, .ref aq, .ref ak, .ref ab, .ref aw] : List Value).toArray s 0 0 A) (F0 m 3 ls []) := by
    intro fuel
    induction fuel with
    | zero => intro qv kev bov wrv y0 y5 h; rw [fL_burn_b3] at h; cases h
    | succ fuel ih =>
      intro qv kev bov wrv y0 y5 h H locs hP hD hS ls hl
      rw [fL_burn_b3] at h
      refine lv_iload hx hb dL_burn_3 (lv_at hl 5 rfl) ?_
      refine lv_aload_n hx hb dL_burn_5 rfl (lv_at hl 1 rfl) ?_
      refine lv_iconst (v := 3) hx hb dL_burn_6 (by decide) ?_
      obtain ⟨ni1, h⟩ := ifn h
      refine va_iald hx hb hK.1 hP 0 0 rfl rfl ni1 dL_burn_7 ?_
      refine lv_icmp_ge (tgt := 105) hx hb dL_burn_8 (by decide) (fun c2 => ?_) (fun c2 => ?_)
      · have h := (if_pos c2).symm.trans h
        obtain rfl := Option.some.inj h
        exact e_v hx hb hr hlocks hP hS dL_burn_105
      · have h := (if_neg c2).symm.trans h
        refine lv_aload hx hb dL_burn_11 (lv_at hl 4 rfl) ?_
        refine lv_iload hx hb dL_burn_13 (lv_at hl 5 rfl) ?_
        obtain ⟨ni3, h⟩ := ifn h
        refine va_iald hx hb hK.1 hP 3 0 rfl rfl ni3 dL_burn_15 ?_
        refine lv_istore (lv' := [(6, .int (wrv y5.toNatClampNeg)), (0, .int y0), (1, .ref aq), (2, .ref ak), (3, .ref ab), (4, .ref aw), (5, .int y5)]) hx hb dL_burn_16 hl (by decide) rfl (fun ls hl => ?_)
        refine lv_iload hx hb dL_burn_18 (lv_at hl 0 rfl) ?_
        refine fr_ir (M := ([] : va_W)) (va_runS (As := [.int (wrv y5.toNatClampNeg)]) (rest := []) ⟨hx, hb, hml, hown, hts⟩ (mL_key l dC dI cyI cyO cyL (wrv y5.toNatClampNeg) _ (fL_key (wrv y5.toNatClampNeg)) rfl) (va_cwS 1 hts (gS ml_L_21 st_L_key in_L co_L_key) rfl rfl rfl (by decide +kernel) ⟨Nat.le_of_ble_eq_true rfl, Nat.le_of_ble_eq_true rfl⟩) (cP_S hK hP hD [] rfl rfl) rfl rfl hl.1 rfl (lv_room (Nat.le_of_ble_eq_true rfl)) dL_burn_20 ⟨Nat.zero_le _, Nat.zero_le _⟩) hP hD hS hA [] rfl (fun H locs hP hS => ?_)
        refine lv_iload_n hx hb dL_burn_23 rfl (lv_at hl 1 rfl) ?_
        refine lv_icmp_eq (tgt := 77) hx hb dL_burn_24 (by decide) (fun c4 => ?_) (fun c4 => ?_)
        · have h := (if_pos c4).symm.trans h
          refine lv_iconst (v := 1) hx hb dL_burn_77 (by decide) ?_
          refine lv_goto (tgt := 82) hx hb dL_burn_78 (by decide) ?_
          refine lv_istore (lv' := [(7, .int 1), (6, .int (wrv y5.toNatClampNeg)), (0, .int y0), (1, .ref aq), (2, .ref ak), (3, .ref ab), (4, .ref aw), (5, .int y5)]) hx hb dL_burn_82 hl (by decide) rfl (fun ls hl => ?_)
          refine lv_iload hx hb dL_burn_84 (lv_at hl 0 rfl) ?_
          refine lv_if_eq (tgt := 99) hx hb dL_burn_86 (by decide) (fun c5 => ?_) (fun c5 => ?_)
          · exact absurd c5 (by decide)
          · refine lv_aload hx hb dL_burn_89 (lv_at hl 6 rfl) ?_
            refine lv_iload hx hb dL_burn_91 (lv_at hl 7 rfl) ?_
            refine lv_iload hx hb dL_burn_93 (lv_at hl 1 rfl) ?_
            refine lv_ldc (v := -262145) hx hb hown (hts _ (gb_mem k_L_31)) dL_burn_95 ?_
            refine lv_iand hx hb dL_burn_97 ?_
            obtain ⟨ni6, h⟩ := ifn h
            refine va_iast hx hb hK.1 hP hD hS 3 0 rfl rfl ni6 dL_burn_98 (fun H locs hP hD hS => ?_)
            have hP : va_P (dC, dI) vwCl ((arrW cyI aq 4 qv) ++ (arrW cyI ak 24 kev) ++ (arrW cyI ab 12 bov) ++ (arrW cyI aw 64 (upd wrv y5.toNatClampNeg ((wrv y5.toNatClampNeg) &&& (-262145))))) H := hP
            have hD : va_D A ((arrW cyI aq 4 qv) ++ (arrW cyI ak 24 kev) ++ (arrW cyI ab 12 bov) ++ (arrW cyI aw 64 (upd wrv y5.toNatClampNeg ((wrv y5.toNatClampNeg) &&& (-262145))))) := hD
            refine lv_iinc (v := (y5 + 1)) (lv' := [(5, .int (y5 + 1)), (7, .int 1), (6, .int (wrv y5.toNatClampNeg)), (0, .int y0), (1, .ref aq), (2, .ref ak), (3, .ref ab), (4, .ref aw)]) hx hb dL_burn_99 hl (k := 7) rfl rfl (by decide) rfl (fun ls hl => ?_)
            refine lv_goto (tgt := 3) hx hb dL_burn_102 (by decide) ?_
            exact ih qv kev bov (upd wrv y5.toNatClampNeg ((wrv y5.toNatClampNeg) &&& (-262145))) y0 (y5 + 1) h _ _ hP hD hS ls (lv_sub hl [3, 4, 5, 6, 7, 0] rfl)
        · have h := (if_neg c4).symm.trans h
          refine lv_iload hx hb dL_burn_27 (lv_at hl 0 rfl) ?_
          refine fr_ir (M := ([] : va_W)) (va_runS (As := [.int (wrv y5.toNatClampNeg)]) (rest := []) ⟨hx, hb, hml, hown, hts⟩ (mL_closer l dC dI cyI cyO cyL (wrv y5.toNatClampNeg) _ (fL_closer (wrv y5.toNatClampNeg)) rfl) (va_cwS 1 hts (gS ml_L_25 st_L_closer in_L co_L_closer) rfl rfl rfl (by decide +kernel) ⟨Nat.le_of_ble_eq_true rfl, Nat.le_of_ble_eq_true rfl⟩) (cP_S hK hP hD [] rfl rfl) rfl rfl hl.1 rfl (lv_room (Nat.le_of_ble_eq_true rfl)) dL_burn_29 ⟨Nat.zero_le _, Nat.zero_le _⟩) hP hD hS hA [] rfl (fun H locs hP hS => ?_)
          refine lv_iload_n hx hb dL_burn_32 rfl (lv_at hl 1 rfl) ?_
          refine lv_icmp_eq (tgt := 77) hx hb dL_burn_33 (by decide) (fun c7 => ?_) (fun c7 => ?_)
          · have h := (if_pos c7).symm.trans h
            refine lv_iconst (v := 1) hx hb dL_burn_77 (by decide) ?_
            refine lv_goto (tgt := 82) hx hb dL_burn_78 (by decide) ?_
            refine lv_istore (lv' := [(7, .int 1), (6, .int (wrv y5.toNatClampNeg)), (0, .int y0), (1, .ref aq), (2, .ref ak), (3, .ref ab), (4, .ref aw), (5, .int y5)]) hx hb dL_burn_82 hl (by decide) rfl (fun ls hl => ?_)
            refine lv_iload hx hb dL_burn_84 (lv_at hl 0 rfl) ?_
            refine lv_if_eq (tgt := 99) hx hb dL_burn_86 (by decide) (fun c8 => ?_) (fun c8 => ?_)
            · exact absurd c8 (by decide)
            · refine lv_aload hx hb dL_burn_89 (lv_at hl 6 rfl) ?_
              refine lv_iload hx hb dL_burn_91 (lv_at hl 7 rfl) ?_
              refine lv_iload hx hb dL_burn_93 (lv_at hl 1 rfl) ?_
              refine lv_ldc (v := -262145) hx hb hown (hts _ (gb_mem k_L_31)) dL_burn_95 ?_
              refine lv_iand hx hb dL_burn_97 ?_
              obtain ⟨ni9, h⟩ := ifn h
              refine va_iast hx hb hK.1 hP hD hS 3 0 rfl rfl ni9 dL_burn_98 (fun H locs hP hD hS => ?_)
              have hP : va_P (dC, dI) vwCl ((arrW cyI aq 4 qv) ++ (arrW cyI ak 24 kev) ++ (arrW cyI ab 12 bov) ++ (arrW cyI aw 64 (upd wrv y5.toNatClampNeg ((wrv y5.toNatClampNeg) &&& (-262145))))) H := hP
              have hD : va_D A ((arrW cyI aq 4 qv) ++ (arrW cyI ak 24 kev) ++ (arrW cyI ab 12 bov) ++ (arrW cyI aw 64 (upd wrv y5.toNatClampNeg ((wrv y5.toNatClampNeg) &&& (-262145))))) := hD
              refine lv_iinc (v := (y5 + 1)) (lv' := [(5, .int (y5 + 1)), (7, .int 1), (6, .int (wrv y5.toNatClampNeg)), (0, .int y0), (1, .ref aq), (2, .ref ak), (3, .ref ab), (4, .ref aw)]) hx hb dL_burn_99 hl (k := 7) rfl rfl (by decide) rfl (fun ls hl => ?_)
              refine lv_goto (tgt := 3) hx hb dL_burn_102 (by decide) ?_
              exact ih qv kev bov (upd wrv y5.toNatClampNeg ((wrv y5.toNatClampNeg) &&& (-262145))) y0 (y5 + 1) h _ _ hP hD hS ls (lv_sub hl [3, 4, 5, 6, 7, 0] rfl)
          · have h := (if_neg c7).symm.trans h
            refine lv_iload hx hb dL_burn_36 (lv_at hl 0 rfl) ?_
            refine fr_ir (M := ([] : va_W)) (va_runS (As := [.int (wrv y5.toNatClampNeg)]) (rest := []) ⟨hx, hb, hml, hown, hts⟩ (mL_key l dC dI cyI cyO cyL (wrv y5.toNatClampNeg) _ (fL_key (wrv y5.toNatClampNeg)) rfl) (va_cwS 1 hts (gS ml_L_21 st_L_key in_L co_L_key) rfl rfl rfl (by decide +kernel) ⟨Nat.le_of_ble_eq_true rfl, Nat.le_of_ble_eq_true rfl⟩) (cP_S hK hP hD [] rfl rfl) rfl rfl hl.1 rfl (lv_room (Nat.le_of_ble_eq_true rfl)) dL_burn_38 ⟨Nat.zero_le _, Nat.zero_le _⟩) hP hD hS hA [] rfl (fun H locs hP hS => ?_)
            refine lv_bipush (v := 7) hx hb dL_burn_41 (by decide) ?_
            refine lv_icmp_ne (tgt := 63) hx hb dL_burn_43 (by decide) (fun c10 => ?_) (fun c10 => ?_)
            · have h := (if_neg c10).symm.trans h
              refine lv_aload_n hx hb dL_burn_63 rfl (lv_at hl 3 rfl) ?_
              refine lv_iconst (v := 4) hx hb dL_burn_64 (by decide) ?_
              refine lv_iload hx hb dL_burn_65 (lv_at hl 0 rfl) ?_
              refine fr_ir (M := ([] : va_W)) (va_runS (As := [.int (wrv y5.toNatClampNeg)]) (rest := [.int 4, .ref ak]) ⟨hx, hb, hml, hown, hts⟩ (mL_key l dC dI cyI cyO cyL (wrv y5.toNatClampNeg) _ (fL_key (wrv y5.toNatClampNeg)) rfl) (va_cwS 1 hts (gS ml_L_21 st_L_key in_L co_L_key) rfl rfl rfl (by decide +kernel) ⟨Nat.le_of_ble_eq_true rfl, Nat.le_of_ble_eq_true rfl⟩) (cP_S hK hP hD [] rfl rfl) rfl rfl hl.1 rfl (lv_room (Nat.le_of_ble_eq_true rfl)) dL_burn_67 ⟨Nat.zero_le _, Nat.zero_le _⟩) hP hD hS hA [] rfl (fun H locs hP hS => ?_)
              refine lv_imul hx hb dL_burn_70 ?_
              refine lv_iconst (v := 1) hx hb dL_burn_71 (by decide) ?_
              refine lv_iadd hx hb dL_burn_72 ?_
              obtain ⟨ni11, h⟩ := ifn h
              refine va_iald hx hb hK.1 hP 1 0 rfl rfl ni11 dL_burn_73 ?_
              refine lv_if_ne (tgt := 81) hx hb dL_burn_74 (by decide) (fun c12 => ?_) (fun c12 => ?_)
              · have h := (if_neg c12).symm.trans h
                refine lv_iconst (v := 0) hx hb dL_burn_81 (by decide) ?_
                refine lv_istore (lv' := [(7, .int 0), (6, .int (wrv y5.toNatClampNeg)), (0, .int y0), (1, .ref aq), (2, .ref ak), (3, .ref ab), (4, .ref aw), (5, .int y5)]) hx hb dL_burn_82 hl (by decide) rfl (fun ls hl => ?_)
                refine lv_iload hx hb dL_burn_84 (lv_at hl 0 rfl) ?_
                refine lv_if_eq (tgt := 99) hx hb dL_burn_86 (by decide) (fun c13 => ?_) (fun c13 => ?_)
                · refine lv_iinc (v := (y5 + 1)) (lv' := [(5, .int (y5 + 1)), (7, .int 0), (6, .int (wrv y5.toNatClampNeg)), (0, .int y0), (1, .ref aq), (2, .ref ak), (3, .ref ab), (4, .ref aw)]) hx hb dL_burn_99 hl (k := 7) rfl rfl (by decide) rfl (fun ls hl => ?_)
                  refine lv_goto (tgt := 3) hx hb dL_burn_102 (by decide) ?_
                  exact ih qv kev bov wrv y0 (y5 + 1) h _ _ hP hD hS ls (lv_sub hl [3, 4, 5, 6, 7, 0] rfl)
                · exact absurd c13 (by decide)
              · have h := (if_pos c12).symm.trans h
                refine lv_iconst (v := 1) hx hb dL_burn_77 (by decide) ?_
                refine lv_goto (tgt := 82) hx hb dL_burn_78 (by decide) ?_
                refine lv_istore (lv' := [(7, .int 1), (6, .int (wrv y5.toNatClampNeg)), (0, .int y0), (1, .ref aq), (2, .ref ak), (3, .ref ab), (4, .ref aw), (5, .int y5)]) hx hb dL_burn_82 hl (by decide) rfl (fun ls hl => ?_)
                refine lv_iload hx hb dL_burn_84 (lv_at hl 0 rfl) ?_
                refine lv_if_eq (tgt := 99) hx hb dL_burn_86 (by decide) (fun c14 => ?_) (fun c14 => ?_)
                · exact absurd c14 (by decide)
                · refine lv_aload hx hb dL_burn_89 (lv_at hl 6 rfl) ?_
                  refine lv_iload hx hb dL_burn_91 (lv_at hl 7 rfl) ?_
                  refine lv_iload hx hb dL_burn_93 (lv_at hl 1 rfl) ?_
                  refine lv_ldc (v := -262145) hx hb hown (hts _ (gb_mem k_L_31)) dL_burn_95 ?_
                  refine lv_iand hx hb dL_burn_97 ?_
                  obtain ⟨ni15, h⟩ := ifn h
                  refine va_iast hx hb hK.1 hP hD hS 3 0 rfl rfl ni15 dL_burn_98 (fun H locs hP hD hS => ?_)
                  have hP : va_P (dC, dI) vwCl ((arrW cyI aq 4 qv) ++ (arrW cyI ak 24 kev) ++ (arrW cyI ab 12 bov) ++ (arrW cyI aw 64 (upd wrv y5.toNatClampNeg ((wrv y5.toNatClampNeg) &&& (-262145))))) H := hP
                  have hD : va_D A ((arrW cyI aq 4 qv) ++ (arrW cyI ak 24 kev) ++ (arrW cyI ab 12 bov) ++ (arrW cyI aw 64 (upd wrv y5.toNatClampNeg ((wrv y5.toNatClampNeg) &&& (-262145))))) := hD
                  refine lv_iinc (v := (y5 + 1)) (lv' := [(5, .int (y5 + 1)), (7, .int 1), (6, .int (wrv y5.toNatClampNeg)), (0, .int y0), (1, .ref aq), (2, .ref ak), (3, .ref ab), (4, .ref aw)]) hx hb dL_burn_99 hl (k := 7) rfl rfl (by decide) rfl (fun ls hl => ?_)
                  refine lv_goto (tgt := 3) hx hb dL_burn_102 (by decide) ?_
                  exact ih qv kev bov (upd wrv y5.toNatClampNeg ((wrv y5.toNatClampNeg) &&& (-262145))) y0 (y5 + 1) h _ _ hP hD hS ls (lv_sub hl [3, 4, 5, 6, 7, 0] rfl)
            · have h := (if_pos c10).symm.trans h
              refine lv_aload_n hx hb dL_burn_46 rfl (lv_at hl 4 rfl) ?_
              refine lv_iconst (v := 2) hx hb dL_burn_47 (by decide) ?_
              refine lv_iload hx hb dL_burn_48 (lv_at hl 0 rfl) ?_
              refine fr_ir (M := ([] : va_W)) (va_runS (As := [.int (wrv y5.toNatClampNeg)]) (rest := [.int 2, .ref ab]) ⟨hx, hb, hml, hown, hts⟩ (mL_which l dC dI cyI cyO cyL (wrv y5.toNatClampNeg) _ (fL_which (wrv y5.toNatClampNeg)) rfl) (va_cwS 1 hts (gS ml_L_28 st_L_which in_L co_L_which) rfl rfl rfl (by decide +kernel) ⟨Nat.le_of_ble_eq_true rfl, Nat.le_of_ble_eq_true rfl⟩) (cP_S hK hP hD [] rfl rfl) rfl rfl hl.1 rfl (lv_room (Nat.le_of_ble_eq_true rfl)) dL_burn_50 ⟨Nat.zero_le _, Nat.zero_le _⟩) hP hD hS hA [] rfl (fun H locs hP hS => ?_)
              refine lv_imul hx hb dL_burn_53 ?_
              refine lv_iconst (v := 1) hx hb dL_burn_54 (by decide) ?_
              refine lv_iadd hx hb dL_burn_55 ?_
              obtain ⟨ni16, h⟩ := ifn h
              refine va_iald hx hb hK.1 hP 2 0 rfl rfl ni16 dL_burn_56 ?_
              refine lv_if_ne (tgt := 81) hx hb dL_burn_57 (by decide) (fun c17 => ?_) (fun c17 => ?_)
              · have h := (if_neg c17).symm.trans h
                refine lv_iconst (v := 0) hx hb dL_burn_81 (by decide) ?_
                refine lv_istore (lv' := [(7, .int 0), (6, .int (wrv y5.toNatClampNeg)), (0, .int y0), (1, .ref aq), (2, .ref ak), (3, .ref ab), (4, .ref aw), (5, .int y5)]) hx hb dL_burn_82 hl (by decide) rfl (fun ls hl => ?_)
                refine lv_iload hx hb dL_burn_84 (lv_at hl 0 rfl) ?_
                refine lv_if_eq (tgt := 99) hx hb dL_burn_86 (by decide) (fun c18 => ?_) (fun c18 => ?_)
                · refine lv_iinc (v := (y5 + 1)) (lv' := [(5, .int (y5 + 1)), (7, .int 0), (6, .int (wrv y5.toNatClampNeg)), (0, .int y0), (1, .ref aq), (2, .ref ak), (3, .ref ab), (4, .ref aw)]) hx hb dL_burn_99 hl (k := 7) rfl rfl (by decide) rfl (fun ls hl => ?_)
                  refine lv_goto (tgt := 3) hx hb dL_burn_102 (by decide) ?_
                  exact ih qv kev bov wrv y0 (y5 + 1) h _ _ hP hD hS ls (lv_sub hl [3, 4, 5, 6, 7, 0] rfl)
                · exact absurd c18 (by decide)
              · have h := (if_pos c17).symm.trans h
                refine lv_goto (tgt := 77) hx hb dL_burn_60 (by decide) ?_
                refine lv_iconst (v := 1) hx hb dL_burn_77 (by decide) ?_
                refine lv_goto (tgt := 82) hx hb dL_burn_78 (by decide) ?_
                refine lv_istore (lv' := [(7, .int 1), (6, .int (wrv y5.toNatClampNeg)), (0, .int y0), (1, .ref aq), (2, .ref ak), (3, .ref ab), (4, .ref aw), (5, .int y5)]) hx hb dL_burn_82 hl (by decide) rfl (fun ls hl => ?_)
                refine lv_iload hx hb dL_burn_84 (lv_at hl 0 rfl) ?_
                refine lv_if_eq (tgt := 99) hx hb dL_burn_86 (by decide) (fun c19 => ?_) (fun c19 => ?_)
                · exact absurd c19 (by decide)
                · refine lv_aload hx hb dL_burn_89 (lv_at hl 6 rfl) ?_
                  refine lv_iload hx hb dL_burn_91 (lv_at hl 7 rfl) ?_
                  refine lv_iload hx hb dL_burn_93 (lv_at hl 1 rfl) ?_
                  refine lv_ldc (v := -262145) hx hb hown (hts _ (gb_mem k_L_31)) dL_burn_95 ?_
                  refine lv_iand hx hb dL_burn_97 ?_
                  obtain ⟨ni20, h⟩ := ifn h
                  refine va_iast hx hb hK.1 hP hD hS 3 0 rfl rfl ni20 dL_burn_98 (fun H locs hP hD hS => ?_)
                  have hP : va_P (dC, dI) vwCl ((arrW cyI aq 4 qv) ++ (arrW cyI ak 24 kev) ++ (arrW cyI ab 12 bov) ++ (arrW cyI aw 64 (upd wrv y5.toNatClampNeg ((wrv y5.toNatClampNeg) &&& (-262145))))) H := hP
                  have hD : va_D A ((arrW cyI aq 4 qv) ++ (arrW cyI ak 24 kev) ++ (arrW cyI ab 12 bov) ++ (arrW cyI aw 64 (upd wrv y5.toNatClampNeg ((wrv y5.toNatClampNeg) &&& (-262145))))) := hD
                  refine lv_iinc (v := (y5 + 1)) (lv' := [(5, .int (y5 + 1)), (7, .int 1), (6, .int (wrv y5.toNatClampNeg)), (0, .int y0), (1, .ref aq), (2, .ref ak), (3, .ref ab), (4, .ref aw)]) hx hb dL_burn_99 hl (k := 7) rfl rfl (by decide) rfl (fun ls hl => ?_)
                  refine lv_goto (tgt := 3) hx hb dL_burn_102 (by decide) ?_
                  exact ih qv kev bov (upd wrv y5.toNatClampNeg ((wrv y5.toNatClampNeg) &&& (-262145))) y0 (y5 + 1) h _ _ hP hD hS ls (lv_sub hl [3, 4, 5, 6, 7, 0] rfl)
  have hl := lv_entry ([.int x0, .ref aq, .ref ak, .ref ab, .ref aw]) (n := 8) (Nat.le_of_ble_eq_true rfl)
  rw [lg_entry_eq]
  generalize (lg_sl ([.int x0, .ref aq, .ref ak, .ref ab, .ref aw]) ++ List.replicate (8 - (lg_sl ([.int x0, .ref aq, .ref ak, .ref ab, .ref aw])).length) Slot.unset).toArray = ls at hl ⊢
  have hl : lv_has ls 8 [(0, .int x0), (1, .ref aq), (2, .ref ak), (3, .ref ab), (4, .ref aw)] := hl
  unfold fL_burn at h
  refine lv_iconst (v := 0) hx hb dL_burn_0 (by decide) ?_
  refine lv_istore (lv' := [(5, .int 0), (0, .int x0), (1, .ref aq), (2, .ref ak), (3, .ref ab), (4, .ref aw)]) hx hb dL_burn_1 hl (by decide) rfl (fun ls hl => ?_)
  exact kB3 6000 qv kev bov wrv x0 0 h _ _ hP hD hS ls (lv_sub hl [1, 2, 3, 4, 5, 0] rfl)
noncomputable def fL_under_b2 : Nat → (Nat → Int32) → Int32 → Int32 → Option (Int32)
  | 0, _, _, _ => none
  | fuel + 1, kev, y1, y3 =>
  (if y3 < 0 then (some 0) else (if y3 = y1 then (some 1) else (if (4 * y3) < 0 ∨ 24 ≤ (4 * y3).toNatClampNeg then none else fL_under_b2 fuel kev y1 (kev (4 * y3).toNatClampNeg))))

noncomputable def fL_under (kev : Nat → Int32) (x0 : Int32) (x1 : Int32) : Option (Int32) :=
  fL_under_b2 6000 kev x1 x0
set_option maxHeartbeats 1000000 in
set_option maxRecDepth 100000 in
theorem mL_under (l : Launch) (dC : Nat → ClassId) (dI : Nat → Nat → Nat) (cyI cyO cyL : ClassId) (ak : Nat) (kev : Nat → Int32) (x0 : Int32) (x1 : Int32) (sz : Nat) (res : Int32) (h : fL_under kev x0 x1 = some res) : Met l yL_under (wsG yL_under cL_under 4 (some .boolean)) ({ frames := 0, cells := 0, slots := 0, locals := 0 }) (cP dC dI cyI cyO cyL sz [.int x0, .int x1, .ref ak] (arrW cyI ak 24 kev)) (cI dC dI res (arrW cyI ak 24 kev) (va_A (arrW cyI ak 24 kev) sz)) 0 0 (va_A (arrW cyI ak 24 kev) sz) := by
  refine Met.ofW (cc := cL_under) (maxL := 4) (ret := (some .boolean)) (by decide) rfl ?_
  intro p e s m args below meth c s₁ B hml hv
  obtain ⟨rfl, hsz, hP, hK, hD0⟩ := hv
  have hx := B.exec
  have hb := B.bytes
  have hr := B.returns
  have hts := atoms_spec (ws := wsG yL_under cL_under 4 (some .boolean)) B.pre
  have hown : s.vm.findClass RL = some m.cls := findClass_of_methodNamed B.named
  have hlocks := B.notSynchronized
  subst hsz
  have hD := hD0.self (sz := s.heap.size)
  generalize hAe : va_A (arrW cyI ak 24 kev) s.heap.size = A at hD ⊢
  have hA : ∀ q : Nat, s.heap.size ≤ q → A q := fun q h => by rw [← hAe]; exact Or.inr h
  have hS : va_S A s.heap s.heap [] := va_S.rf
  have kB2 : ∀ (fuel : Nat) (kev : Nat → Int32) (y1 : Int32) (y3 : Int32), fL_under_b2 fuel kev y1 y3 = some res → ∀ (H : Heap) (locs : List Loc), va_P (dC, dI) vwCl (arrW cyI ak 24 kev) H → va_D A (arrW cyI ak 24 kev) → va_S A s.heap H locs → ∀ ls : Array Slot, lv_has ls 4 [(1, .int y1), (2, .ref ak), (3, .int y3)] → W p l e (headSpec (wsG yL_under cL_under 4 (some .boolean)) ({ frames := 0, cells := 0, slots := 0, locals := 0 })).room s m (([.int x0, .int x1, .ref ak] : List Value).toArray) below meth c H locs 0 0 (MQ below (cI dC dI res (arrW cyI ak 24 kev) A) ([.int x0, .int x1, .ref ak] : List Value).toArray s 0 0 A) (F0 m 2 ls []) := by
    intro fuel
    induction fuel with
    | zero => intro kev y1 y3 h; rw [fL_under_b2] at h; cases h
    | succ fuel ih =>
      intro kev y1 y3 h H locs hP hD hS ls hl
      rw [fL_under_b2] at h
      refine lv_iload_n hx hb dL_under_2 rfl (lv_at hl 2 rfl) ?_
      refine lv_if_lt (tgt := 22) hx hb dL_under_3 (by decide) (fun c1 => ?_) (fun c1 => ?_)
      · have h := (if_pos c1).symm.trans h
        refine lv_iconst (v := 0) hx hb dL_under_22 (by decide) ?_
        obtain rfl := Option.some.inj h
        exact e_z (v := 0) hx hb hr hlocks rfl hP hS dL_under_23
      · have h := (if_neg c1).symm.trans h
        refine lv_iload_n hx hb dL_under_6 rfl (lv_at hl 2 rfl) ?_
        refine lv_iload_n hx hb dL_under_7 rfl (lv_at hl 0 rfl) ?_
        refine lv_icmp_ne (tgt := 13) hx hb dL_under_8 (by decide) (fun c2 => ?_) (fun c2 => ?_)
        · have h := (if_neg c2).symm.trans h
          refine lv_aload_n hx hb dL_under_13 rfl (lv_at hl 1 rfl) ?_
          refine lv_iconst (v := 4) hx hb dL_under_14 (by decide) ?_
          refine lv_iload_n hx hb dL_under_15 rfl (lv_at hl 2 rfl) ?_
          refine lv_imul hx hb dL_under_16 ?_
          obtain ⟨ni3, h⟩ := ifn h
          refine va_iald hx hb hK.1 hP 0 0 rfl rfl ni3 dL_under_17 ?_
          refine lv_istore_n (lv' := [(3, .int (kev (4 * y3).toNatClampNeg)), (1, .int y1), (2, .ref ak)]) hx hb dL_under_18 rfl hl (by decide) rfl (fun ls hl => ?_)
          refine lv_goto (tgt := 2) hx hb dL_under_19 (by decide) ?_
          exact ih kev y1 (kev (4 * y3).toNatClampNeg) h _ _ hP hD hS ls (lv_sub hl [1, 2, 0] rfl)
        · have h := (if_pos c2).symm.trans h
          refine lv_iconst (v := 1) hx hb dL_under_11 (by decide) ?_
          obtain rfl := Option.some.inj h
          exact e_z (v := 1) hx hb hr hlocks rfl hP hS dL_under_12
  have hl := lv_entry ([.int x0, .int x1, .ref ak]) (n := 4) (Nat.le_of_ble_eq_true rfl)
  rw [lg_entry_eq]
  generalize (lg_sl ([.int x0, .int x1, .ref ak]) ++ List.replicate (4 - (lg_sl ([.int x0, .int x1, .ref ak])).length) Slot.unset).toArray = ls at hl ⊢
  have hl : lv_has ls 4 [(0, .int x0), (1, .int x1), (2, .ref ak)] := hl
  unfold fL_under at h
  refine lv_iload_n hx hb dL_under_0 rfl (lv_at hl 0 rfl) ?_
  refine lv_istore_n (lv' := [(3, .int x0), (0, .int x0), (1, .int x1), (2, .ref ak)]) hx hb dL_under_1 rfl hl (by decide) rfl (fun ls hl => ?_)
  exact kB2 6000 kev x1 x0 h _ _ hP hD hS ls (lv_sub hl [2, 3, 0] rfl)
noncomputable def fL_anew_b65 (k56 : (Nat → Int32) → (Nat → Int32) → (Nat → Int32) → (Nat → Int32) → Int32 → Int32 → Int32 → Option (Int32 × (Nat → Int32) × (Nat → Int32) × (Nat → Int32))) : Nat → (Nat → Int32) → (Nat → Int32) → (Nat → Int32) → (Nat → Int32) → Int32 → Int32 → Int32 → Int32 → Option (Int32 × (Nat → Int32) × (Nat → Int32) × (Nat → Int32))
  | 0, _, _, _, _, _, _, _, _ => none
  | fuel + 1, qv, kev, bov, wrv, y0, y5, y6, y7 =>
  (if (4 * y7) < 0 ∨ 24 ≤ (4 * y7).toNatClampNeg then none else (if (kev (4 * y7).toNatClampNeg) = y6 then ((fL_wrapAll qv kev bov wrv y7).bind fun q3 => k56 q3.2.1 q3.2.2.1 bov q3.2.2.2 y0 (y5 + q3.1) y7) else (if (4 * y7) < 0 ∨ 24 ≤ (4 * y7).toNatClampNeg then none else (if (kev (4 * y7).toNatClampNeg) < 0 then ((fL_wrapAll qv kev bov wrv y7).bind fun q7 => k56 q7.2.1 q7.2.2.1 bov q7.2.2.2 y0 (y5 + q7.1) y7) else (if (4 * y7) < 0 ∨ 24 ≤ (4 * y7).toNatClampNeg then none else fL_anew_b65 k56 fuel qv kev bov wrv y0 y5 y6 (kev (4 * y7).toNatClampNeg))))))

noncomputable def fL_anew_b56 : Nat → (Nat → Int32) → (Nat → Int32) → (Nat → Int32) → (Nat → Int32) → Int32 → Int32 → Int32 → Option (Int32 × (Nat → Int32) × (Nat → Int32) × (Nat → Int32))
  | 0, _, _, _, _, _, _, _ => none
  | fuel + 1, qv, kev, bov, wrv, y0, y5, y6 =>
  (if y6 = y0 then (some (y5, qv, kev, wrv)) else fL_anew_b65 (fL_anew_b56 fuel) 6000 qv kev bov wrv y0 y5 y6 y0)

noncomputable def fL_anew_b6 : Nat → (Nat → Int32) → (Nat → Int32) → (Nat → Int32) → (Nat → Int32) → Int32 → Int32 → Int32 → Option (Int32 × (Nat → Int32) × (Nat → Int32) × (Nat → Int32))
  | 0, _, _, _, _, _, _, _ => none
  | fuel + 1, qv, kev, bov, wrv, y0, y5, y6 =>
  (if y6 < 0 then fL_anew_b56 6000 qv kev bov wrv y0 y5 (-1) else (if ((4 * y6) + 2) < 0 ∨ 24 ≤ ((4 * y6) + 2).toNatClampNeg then none else (if ((4 * y6) + 2) < 0 ∨ 24 ≤ ((4 * y6) + 2).toNatClampNeg then none else (if ((4 * y6) + 3) < 0 ∨ 24 ≤ ((4 * y6) + 3).toNatClampNeg then none else ((fL_burn qv (upd (upd kev ((4 * y6) + 2).toNatClampNeg ((kev ((4 * y6) + 2).toNatClampNeg) + 1)) ((4 * y6) + 3).toNatClampNeg 0) bov wrv y6).bind fun q15 => (if (4 * y6) < 0 ∨ 24 ≤ (4 * y6).toNatClampNeg then none else fL_anew_b6 fuel qv (upd (upd kev ((4 * y6) + 2).toNatClampNeg ((kev ((4 * y6) + 2).toNatClampNeg) + 1)) ((4 * y6) + 3).toNatClampNeg 0) bov q15 y0 y5 ((upd (upd kev ((4 * y6) + 2).toNatClampNeg ((kev ((4 * y6) + 2).toNatClampNeg) + 1)) ((4 * y6) + 3).toNatClampNeg 0) (4 * y6).toNatClampNeg)))))))

noncomputable def fL_anew (qv : Nat → Int32) (kev : Nat → Int32) (bov : Nat → Int32) (wrv : Nat → Int32) (x0 : Int32) : Option (Int32 × (Nat → Int32) × (Nat → Int32) × (Nat → Int32)) :=
  fL_anew_b6 6000 qv kev bov wrv x0 0 x0
set_option maxHeartbeats 1000000 in
set_option maxRecDepth 100000 in
theorem mL_anew (l : Launch) (dC : Nat → ClassId) (dI : Nat → Nat → Nat) (cyI cyO cyL : ClassId) (aq ak ab aw : Nat) (qv : Nat → Int32) (kev : Nat → Int32) (bov : Nat → Int32) (wrv : Nat → Int32) (x0 : Int32) (sz : Nat) (res : Int32 × (Nat → Int32) × (Nat → Int32) × (Nat → Int32)) (h : fL_anew qv kev bov wrv x0 = some res) : Met l yL_anew (wsG yL_anew cL_anew 8 (some .int)) ({ frames := 3, cells := 0, slots := 0, locals := 74 }) (cP dC dI cyI cyO cyL sz [.int x0, .ref aq, .ref ak, .ref ab, .ref aw] ((arrW cyI aq 4 qv) ++ (arrW cyI ak 24 kev) ++ (arrW cyI ab 12 bov) ++ (arrW cyI aw 64 wrv))) (cI dC dI res.1 ((arrW cyI aq 4 res.2.1) ++ (arrW cyI ak 24 res.2.2.1) ++ (arrW cyI ab 12 bov) ++ (arrW cyI aw 64 res.2.2.2)) (va_A ((arrW cyI aq 4 qv) ++ (arrW cyI ak 24 kev) ++ (arrW cyI ab 12 bov) ++ (arrW cyI aw 64 wrv)) sz)) 0 0 (va_A ((arrW cyI aq 4 qv) ++ (arrW cyI ak 24 kev) ++ (arrW cyI ab 12 bov) ++ (arrW cyI aw 64 wrv)) sz) := by
  refine Met.ofW (cc := cL_anew) (maxL := 8) (ret := (some .int)) (by decide) rfl ?_
  intro p e s m args below meth c s₁ B hml hv
  obtain ⟨rfl, hsz, hP, hK, hD0⟩ := hv
  have hx := B.exec
  have hb := B.bytes
  have hr := B.returns
  have hts := atoms_spec (ws := wsG yL_anew cL_anew 8 (some .int)) B.pre
  have hown : s.vm.findClass RL = some m.cls := findClass_of_methodNamed B.named
  have hlocks := B.notSynchronized
  subst hsz
  have hD := hD0.self (sz := s.heap.size)
  generalize hAe : va_A ((arrW cyI aq 4 qv) ++ (arrW cyI ak 24 kev) ++ (arrW cyI ab 12 bov) ++ (arrW cyI aw 64 wrv)) s.heap.size = A at hD ⊢
  have hA : ∀ q : Nat, s.heap.size ≤ q → A q := fun q h => by rw [← hAe]; exact Or.inr h
  have hS : va_S A s.heap s.heap [] := va_S.rf
  have kB65 : ∀ (k56 : (Nat → Int32) → (Nat → Int32) → (Nat → Int32) → (Nat → Int32) → Int32 → Int32 → Int32 → Option (Int32 × (Nat → Int32) × (Nat → Int32) × (Nat → Int32))) (hk56 : ∀ (qv : Nat → Int32) (kev : Nat → Int32) (bov : Nat → Int32) (wrv : Nat → Int32) (y0 : Int32) (y5 : Int32) (y6 : Int32), k56 qv kev bov wrv y0 y5 y6 = some res → ∀ (H : Heap) (locs : List Loc), va_P (dC, dI) vwCl ((arrW cyI aq 4 qv) ++ (arrW cyI ak 24 kev) ++ (arrW cyI ab 12 bov) ++ (arrW cyI aw 64 wrv)) H → va_D A ((arrW cyI aq 4 qv) ++ (arrW cyI ak 24 kev) ++ (arrW cyI ab 12 bov) ++ (arrW cyI aw 64 wrv)) → va_S A s.heap H locs → ∀ ls : Array Slot, lv_has ls 8 [(0, .int y0), (1, .ref aq), (2, .ref ak), (3, .ref ab), (4, .ref aw), (5, .int y5), (6, .int y6)] → W p l e (headSpec (wsG yL_anew cL_anew 8 (some .int)) ({ frames := 3, cells := 0, slots := 0, locals := 74 })).room s m (([.int x0, .ref aq, .ref ak, .ref ab, .ref aw] : List Value).toArray) below meth c H locs 0 0 (MQ below (cI dC dI res.1 ((arrW cyI aq 4 res.2.1) ++ (arrW cyI ak 24 res.2.2.1) ++ (arrW cyI ab 12 bov) ++ (arrW cyI aw 64 res.2.2.2)) A) ([.int x0, .ref aq, .ref ak, .ref ab, .ref aw] : List Value).toArray s 0 0 A) (F0 m 56 ls [])) (fuel : Nat) (qv : Nat → Int32) (kev : Nat → Int32) (bov : Nat → Int32) (wrv : Nat → Int32) (y0 : Int32) (y5 : Int32) (y6 : Int32) (y7 : Int32), fL_anew_b65 k56 fuel qv kev bov wrv y0 y5 y6 y7 = some res → ∀ (H : Heap) (locs : List Loc), va_P (dC, dI) vwCl ((arrW cyI aq 4 qv) ++ (arrW cyI ak 24 kev) ++ (arrW cyI ab 12 bov) ++ (arrW cyI aw 64 wrv)) H → va_D A ((arrW cyI aq 4 qv) ++ (arrW cyI ak 24 kev) ++ (arrW cyI ab 12 bov) ++ (arrW cyI aw 64 wrv)) → va_S A s.heap H locs → ∀ ls : Array Slot, lv_has ls 8 [(0, .int y0), (1, .ref aq), (2, .ref ak), (3, .ref ab), (4, .ref aw), (5, .int y5), (6, .int y6), (7, .int y7)] → W p l e (headSpec (wsG yL_anew cL_anew 8 (some .int)) ({ frames := 3, cells := 0, slots := 0, locals := 74 })).room s m (([.int x0, .ref aq, .ref ak, .ref ab, .ref aw] : List Value).toArray) below meth c H locs 0 0 (MQ below (cI dC dI res.1 ((arrW cyI aq 4 res.2.1) ++ (arrW cyI ak 24 res.2.2.1) ++ (arrW cyI ab 12 bov) ++ (arrW cyI aw 64 res.2.2.2)) A) ([.int x0, .ref aq, .ref ak, .ref ab, .ref aw] : List Value).toArray s 0 0 A) (F0 m 65 ls []) := by
    intro k56 hk56 fuel
    induction fuel with
    | zero => intro qv kev bov wrv y0 y5 y6 y7 h; rw [fL_anew_b65] at h; cases h
    | succ fuel ih =>
      intro qv kev bov wrv y0 y5 y6 y7 h H locs hP hD hS ls hl
      rw [fL_anew_b65] at h
      refine lv_aload_n hx hb dL_anew_65 rfl (lv_at hl 2 rfl) ?_
      refine lv_iconst (v := 4) hx hb dL_anew_66 (by decide) ?_
      refine lv_iload hx hb dL_anew_67 (lv_at hl 7 rfl) ?_
      refine lv_imul hx hb dL_anew_69 ?_
      obtain ⟨ni1, h⟩ := ifn h
      refine va_iald hx hb hK.1 hP 1 0 rfl rfl ni1 dL_anew_70 ?_
      refine lv_iload hx hb dL_anew_71 (lv_at hl 6 rfl) ?_
      refine lv_icmp_eq (tgt := 96) hx hb dL_anew_73 (by decide) (fun c2 => ?_) (fun c2 => ?_)
      · have h := (if_pos c2).symm.trans h
        refine lv_iload hx hb dL_anew_96 (lv_at hl 5 rfl) ?_
        refine lv_iload hx hb dL_anew_98 (lv_at hl 7 rfl) ?_
        refine lv_aload_n hx hb dL_anew_100 rfl (lv_at hl 1 rfl) ?_
        refine lv_aload_n hx hb dL_anew_101 rfl (lv_at hl 2 rfl) ?_
        refine lv_aload_n hx hb dL_anew_102 rfl (lv_at hl 3 rfl) ?_
        refine lv_aload hx hb dL_anew_103 (lv_at hl 4 rfl) ?_
        obtain ⟨q3, e4, h⟩ := ob h
        refine fr_i (M := ((arrW cyI aq 4 qv) ++ (arrW cyI ak 24 kev) ++ (arrW cyI ab 12 bov) ++ (arrW cyI aw 64 wrv))) (M' := ((arrW cyI aq 4 q3.2.1) ++ (arrW cyI ak 24 q3.2.2.1) ++ (arrW cyI ab 12 bov) ++ (arrW cyI aw 64 q3.2.2.2))) (L' := ((arrW cyI aq 4 q3.2.1) ++ (arrW cyI ak 24 q3.2.2.1) ++ (arrW cyI ab 12 bov) ++ (arrW cyI aw 64 q3.2.2.2))) (va_runS (As := [.int y7, .ref aq, .ref ak, .ref ab, .ref aw]) (rest := [.int y5]) ⟨hx, hb, hml, hown, hts⟩ (mL_wrapAll l dC dI cyI cyO cyL aq ak ab aw qv kev bov wrv y7 _ q3 e4) (va_cwS 5 hts (gS ml_L_36 st_L_wrapAll in_L co_L_wrapAll) rfl rfl rfl (by decide +kernel) ⟨Nat.le_of_ble_eq_true rfl, Nat.le_of_ble_eq_true rfl⟩) (cP_S hK hP hD [0, 1, 2, 3] rfl rfl) rfl rfl hl.1 rfl (lv_room (Nat.le_of_ble_eq_true rfl)) dL_anew_105 ⟨Nat.zero_le _, Nat.zero_le _⟩) hP hD hS hA [0, 1, 2, 3] rfl [(true, 0), (true, 1), (true, 2), (true, 3)] rfl rfl rfl (fun H locs hP hD hS => ?_)
        refine lv_iadd hx hb dL_anew_108 ?_
        refine lv_istore (lv' := [(5, .int (y5 + q3.1)), (0, .int y0), (1, .ref aq), (2, .ref ak), (3, .ref ab), (4, .ref aw), (6, .int y6), (7, .int y7)]) hx hb dL_anew_109 hl (by decide) rfl (fun ls hl => ?_)
        refine lv_iload hx hb dL_anew_111 (lv_at hl 7 rfl) ?_
        refine lv_istore (lv' := [(6, .int y7), (5, .int (y5 + q3.1)), (0, .int y0), (1, .ref aq), (2, .ref ak), (3, .ref ab), (4, .ref aw), (7, .int y7)]) hx hb dL_anew_113 hl (by decide) rfl (fun ls hl => ?_)
        refine lv_goto (tgt := 56) hx hb dL_anew_115 (by decide) ?_
        exact hk56 q3.2.1 q3.2.2.1 bov q3.2.2.2 y0 (y5 + q3.1) y7 h _ _ hP hD hS ls (lv_sub hl [2, 3, 4, 5, 6, 1, 0] rfl)
      · have h := (if_neg c2).symm.trans h
        refine lv_aload_n hx hb dL_anew_76 rfl (lv_at hl 2 rfl) ?_
        refine lv_iconst (v := 4) hx hb dL_anew_77 (by decide) ?_
        refine lv_iload hx hb dL_anew_78 (lv_at hl 7 rfl) ?_
        refine lv_imul hx hb dL_anew_80 ?_
        obtain ⟨ni5, h⟩ := ifn h
        refine va_iald hx hb hK.1 hP 1 0 rfl rfl ni5 dL_anew_81 ?_
        refine lv_if_lt (tgt := 96) hx hb dL_anew_82 (by decide) (fun c6 => ?_) (fun c6 => ?_)
        · have h := (if_pos c6).symm.trans h
          refine lv_iload hx hb dL_anew_96 (lv_at hl 5 rfl) ?_
          refine lv_iload hx hb dL_anew_98 (lv_at hl 7 rfl) ?_
          refine lv_aload_n hx hb dL_anew_100 rfl (lv_at hl 1 rfl) ?_
          refine lv_aload_n hx hb dL_anew_101 rfl (lv_at hl 2 rfl) ?_
          refine lv_aload_n hx hb dL_anew_102 rfl (lv_at hl 3 rfl) ?_
          refine lv_aload hx hb dL_anew_103 (lv_at hl 4 rfl) ?_
          obtain ⟨q7, e8, h⟩ := ob h
          refine fr_i (M := ((arrW cyI aq 4 qv) ++ (arrW cyI ak 24 kev) ++ (arrW cyI ab 12 bov) ++ (arrW cyI aw 64 wrv))) (M' := ((arrW cyI aq 4 q7.2.1) ++ (arrW cyI ak 24 q7.2.2.1) ++ (arrW cyI ab 12 bov) ++ (arrW cyI aw 64 q7.2.2.2))) (L' := ((arrW cyI aq 4 q7.2.1) ++ (arrW cyI ak 24 q7.2.2.1) ++ (arrW cyI ab 12 bov) ++ (arrW cyI aw 64 q7.2.2.2))) (va_runS (As := [.int y7, .ref aq, .ref ak, .ref ab, .ref aw]) (rest := [.int y5]) ⟨hx, hb, hml, hown, hts⟩ (mL_wrapAll l dC dI cyI cyO cyL aq ak ab aw qv kev bov wrv y7 _ q7 e8) (va_cwS 5 hts (gS ml_L_36 st_L_wrapAll in_L co_L_wrapAll) rfl rfl rfl (by decide +kernel) ⟨Nat.le_of_ble_eq_true rfl, Nat.le_of_ble_eq_true rfl⟩) (cP_S hK hP hD [0, 1, 2, 3] rfl rfl) rfl rfl hl.1 rfl (lv_room (Nat.le_of_ble_eq_true rfl)) dL_anew_105 ⟨Nat.zero_le _, Nat.zero_le _⟩) hP hD hS hA [0, 1, 2, 3] rfl [(true, 0), (true, 1), (true, 2), (true, 3)] rfl rfl rfl (fun H locs hP hD hS => ?_)
          refine lv_iadd hx hb dL_anew_108 ?_
          refine lv_istore (lv' := [(5, .int (y5 + q7.1)), (0, .int y0), (1, .ref aq), (2, .ref ak), (3, .ref ab), (4, .ref aw), (6, .int y6), (7, .int y7)]) hx hb dL_anew_109 hl (by decide) rfl (fun ls hl => ?_)
          refine lv_iload hx hb dL_anew_111 (lv_at hl 7 rfl) ?_
          refine lv_istore (lv' := [(6, .int y7), (5, .int (y5 + q7.1)), (0, .int y0), (1, .ref aq), (2, .ref ak), (3, .ref ab), (4, .ref aw), (7, .int y7)]) hx hb dL_anew_113 hl (by decide) rfl (fun ls hl => ?_)
          refine lv_goto (tgt := 56) hx hb dL_anew_115 (by decide) ?_
          exact hk56 q7.2.1 q7.2.2.1 bov q7.2.2.2 y0 (y5 + q7.1) y7 h _ _ hP hD hS ls (lv_sub hl [2, 3, 4, 5, 6, 1, 0] rfl)
        · have h := (if_neg c6).symm.trans h
          refine lv_aload_n hx hb dL_anew_85 rfl (lv_at hl 2 rfl) ?_
          refine lv_iconst (v := 4) hx hb dL_anew_86 (by decide) ?_
          refine lv_iload hx hb dL_anew_87 (lv_at hl 7 rfl) ?_
          refine lv_imul hx hb dL_anew_89 ?_
          obtain ⟨ni9, h⟩ := ifn h
          refine va_iald hx hb hK.1 hP 1 0 rfl rfl ni9 dL_anew_90 ?_
          refine lv_istore (lv' := [(7, .int (kev (4 * y7).toNatClampNeg)), (0, .int y0), (1, .ref aq), (2, .ref ak), (3, .ref ab), (4, .ref aw), (5, .int y5), (6, .int y6)]) hx hb dL_anew_91 hl (by decide) rfl (fun ls hl => ?_)
          refine lv_goto (tgt := 65) hx hb dL_anew_93 (by decide) ?_
          exact ih qv kev bov wrv y0 y5 y6 (kev (4 * y7).toNatClampNeg) h _ _ hP hD hS ls (lv_sub hl [1, 2, 3, 4, 5, 6, 7, 0] rfl)
  have kB56 : ∀ (fuel : Nat) (qv : Nat → Int32) (kev : Nat → Int32) (bov : Nat → Int32) (wrv : Nat → Int32) (y0 : Int32) (y5 : Int32) (y6 : Int32), fL_anew_b56 fuel qv kev bov wrv y0 y5 y6 = some res → ∀ (H : Heap) (locs : List Loc), va_P (dC, dI) vwCl ((arrW cyI aq 4 qv) ++ (arrW cyI ak 24 kev) ++ (arrW cyI ab 12 bov) ++ (arrW cyI aw 64 wrv)) H → va_D A ((arrW cyI aq 4 qv) ++ (arrW cyI ak 24 kev) ++ (arrW cyI ab 12 bov) ++ (arrW cyI aw 64 wrv)) → va_S A s.heap H locs → ∀ ls : Array Slot, lv_has ls 8 [(0, .int y0), (1, .ref aq), (2, .ref ak), (3, .ref ab), (4, .ref aw), (5, .int y5), (6, .int y6)] → W p l e (headSpec (wsG yL_anew cL_anew 8 (some .int)) ({ frames := 3, cells := 0, slots := 0, locals := 74 })).room s m (([.int x0, .ref aq, .ref ak, .ref ab, .ref aw] : List Value).toArray) below meth c H locs 0 0 (MQ below (cI dC dI res.1 ((arrW cyI aq 4 res.2.1) ++ (arrW cyI ak 24 res.2.2.1) ++ (arrW cyI ab 12 bov) ++ (arrW cyI aw 64 res.2.2.2)) A) ([.int x0, .ref aq, .ref ak, .ref ab, .ref aw] : List Value).toArray s 0 0 A) (F0 m 56 ls []) := by
    intro fuel
    induction fuel with
    | zero => intro qv kev bov wrv y0 y5 y6 h; rw [fL_anew_b56] at h; cases h
    | succ fuel ih =>
      intro qv kev bov wrv y0 y5 y6 h H locs hP hD hS ls hl
      rw [fL_anew_b56] at h
      refine lv_iload hx hb dL_anew_56 (lv_at hl 6 rfl) ?_
      refine lv_iload_n hx hb dL_anew_58 rfl (lv_at hl 0 rfl) ?_
      refine lv_icmp_eq (tgt := 118) hx hb dL_anew_59 (by decide) (fun c10 => ?_) (fun c10 => ?_)
      · have h := (if_pos c10).symm.trans h
        refine lv_iload hx hb dL_anew_118 (lv_at hl 5 rfl) ?_
        obtain rfl := Option.some.inj h
        exact e_i hx hb hr hlocks hP hS dL_anew_120
      · have h := (if_neg c10).symm.trans h
        refine lv_iload_n hx hb dL_anew_62 rfl (lv_at hl 0 rfl) ?_
        refine lv_istore (lv' := [(7, .int y0), (0, .int y0), (1, .ref aq), (2, .ref ak), (3, .ref ab), (4, .ref aw), (5, .int y5), (6, .int y6)]) hx hb dL_anew_63 hl (by decide) rfl (fun ls hl => ?_)
        exact kB65 (fL_anew_b56 fuel) ih 6000 qv kev bov wrv y0 y5 y6 y0 h _ _ hP hD hS ls (lv_sub hl [1, 2, 3, 4, 5, 6, 7, 0] rfl)
  have kB6 : ∀ (fuel : Nat) (qv : Nat → Int32) (kev : Nat → Int32) (bov : Nat → Int32) (wrv : Nat → Int32) (y0 : Int32) (y5 : Int32) (y6 : Int32), fL_anew_b6 fuel qv kev bov wrv y0 y5 y6 = some res → ∀ (H : Heap) (locs : List Loc), va_P (dC, dI) vwCl ((arrW cyI aq 4 qv) ++ (arrW cyI ak 24 kev) ++ (arrW cyI ab 12 bov) ++ (arrW cyI aw 64 wrv)) H → va_D A ((arrW cyI aq 4 qv) ++ (arrW cyI ak 24 kev) ++ (arrW cyI ab 12 bov) ++ (arrW cyI aw 64 wrv)) → va_S A s.heap H locs → ∀ ls : Array Slot, lv_has ls 8 [(0, .int y0), (1, .ref aq), (2, .ref ak), (3, .ref ab), (4, .ref aw), (5, .int y5), (6, .int y6)] → W p l e (headSpec (wsG yL_anew cL_anew 8 (some .int)) ({ frames := 3, cells := 0, slots := 0, locals := 74 })).room s m (([.int x0, .ref aq, .ref ak, .ref ab, .ref aw] : List Value).toArray) below meth c H locs 0 0 (MQ below (cI dC dI res.1 ((arrW cyI aq 4 res.2.1) ++ (arrW cyI ak 24 res.2.2.1) ++ (arrW cyI ab 12 bov) ++ (arrW cyI aw 64 res.2.2.2)) A) ([.int x0, .ref aq, .ref ak, .ref ab, .ref aw] : List Value).toArray s 0 0 A) (F0 m 6 ls []) := by
    intro fuel
    induction fuel with
    | zero => intro qv kev bov wrv y0 y5 y6 h; rw [fL_anew_b6] at h; cases h
    | succ fuel ih =>
      intro qv kev bov wrv y0 y5 y6 h H locs hP hD hS ls hl
      rw [fL_anew_b6] at h
      refine lv_iload hx hb dL_anew_6 (lv_at hl 6 rfl) ?_
      refine lv_if_lt (tgt := 53) hx hb dL_anew_8 (by decide) (fun c11 => ?_) (fun c11 => ?_)
      · have h := (if_pos c11).symm.trans h
        refine lv_iconst (v := (-1)) hx hb dL_anew_53 (by decide) ?_
        refine lv_istore (lv' := [(6, .int (-1)), (0, .int y0), (1, .ref aq), (2, .ref ak), (3, .ref ab), (4, .ref aw), (5, .int y5)]) hx hb dL_anew_54 hl (by decide) rfl (fun ls hl => ?_)
        exact kB56 6000 qv kev bov wrv y0 y5 (-1) h _ _ hP hD hS ls (lv_sub hl [1, 2, 3, 4, 5, 6, 0] rfl)
      · have h := (if_neg c11).symm.trans h
        refine lv_aload_n hx hb dL_anew_11 rfl (lv_at hl 2 rfl) ?_
        refine lv_iconst (v := 4) hx hb dL_anew_12 (by decide) ?_
        refine lv_iload hx hb dL_anew_13 (lv_at hl 6 rfl) ?_
        refine lv_imul hx hb dL_anew_15 ?_
        refine lv_iconst (v := 2) hx hb dL_anew_16 (by decide) ?_
        refine lv_iadd hx hb dL_anew_17 ?_
        refine lv_dup2_11 hx hb dL_anew_18 rfl rfl ?_
        obtain ⟨ni12, h⟩ := ifn h
        refine va_iald hx hb hK.1 hP 1 0 rfl rfl ni12 dL_anew_19 ?_
        refine lv_iconst (v := 1) hx hb dL_anew_20 (by decide) ?_
        refine lv_iadd hx hb dL_anew_21 ?_
        obtain ⟨ni13, h⟩ := ifn h
        refine va_iast hx hb hK.1 hP hD hS 1 0 rfl rfl ni13 dL_anew_22 (fun H locs hP hD hS => ?_)
        have hP : va_P (dC, dI) vwCl ((arrW cyI aq 4 qv) ++ (arrW cyI ak 24 (upd kev ((4 * y6) + 2).toNatClampNeg ((kev ((4 * y6) + 2).toNatClampNeg) + 1))) ++ (arrW cyI ab 12 bov) ++ (arrW cyI aw 64 wrv)) H := hP
        have hD : va_D A ((arrW cyI aq 4 qv) ++ (arrW cyI ak 24 (upd kev ((4 * y6) + 2).toNatClampNeg ((kev ((4 * y6) + 2).toNatClampNeg) + 1))) ++ (arrW cyI ab 12 bov) ++ (arrW cyI aw 64 wrv)) := hD
        refine lv_aload_n hx hb dL_anew_23 rfl (lv_at hl 2 rfl) ?_
        refine lv_iconst (v := 4) hx hb dL_anew_24 (by decide) ?_
        refine lv_iload hx hb dL_anew_25 (lv_at hl 6 rfl) ?_
        refine lv_imul hx hb dL_anew_27 ?_
        refine lv_iconst (v := 3) hx hb dL_anew_28 (by decide) ?_
        refine lv_iadd hx hb dL_anew_29 ?_
        refine lv_iconst (v := 0) hx hb dL_anew_30 (by decide) ?_
        obtain ⟨ni14, h⟩ := ifn h
        refine va_iast hx hb hK.1 hP hD hS 1 0 rfl rfl ni14 dL_anew_31 (fun H locs hP hD hS => ?_)
        have hP : va_P (dC, dI) vwCl ((arrW cyI aq 4 qv) ++ (arrW cyI ak 24 (upd (upd kev ((4 * y6) + 2).toNatClampNeg ((kev ((4 * y6) + 2).toNatClampNeg) + 1)) ((4 * y6) + 3).toNatClampNeg 0)) ++ (arrW cyI ab 12 bov) ++ (arrW cyI aw 64 wrv)) H := hP
        have hD : va_D A ((arrW cyI aq 4 qv) ++ (arrW cyI ak 24 (upd (upd kev ((4 * y6) + 2).toNatClampNeg ((kev ((4 * y6) + 2).toNatClampNeg) + 1)) ((4 * y6) + 3).toNatClampNeg 0)) ++ (arrW cyI ab 12 bov) ++ (arrW cyI aw 64 wrv)) := hD
        refine lv_iload hx hb dL_anew_32 (lv_at hl 6 rfl) ?_
        refine lv_aload_n hx hb dL_anew_34 rfl (lv_at hl 1 rfl) ?_
        refine lv_aload_n hx hb dL_anew_35 rfl (lv_at hl 2 rfl) ?_
        refine lv_aload_n hx hb dL_anew_36 rfl (lv_at hl 3 rfl) ?_
        refine lv_aload hx hb dL_anew_37 (lv_at hl 4 rfl) ?_
        obtain ⟨q15, e16, h⟩ := ob h
        refine fr_v (M := ((arrW cyI aq 4 qv) ++ (arrW cyI ak 24 (upd (upd kev ((4 * y6) + 2).toNatClampNeg ((kev ((4 * y6) + 2).toNatClampNeg) + 1)) ((4 * y6) + 3).toNatClampNeg 0)) ++ (arrW cyI ab 12 bov) ++ (arrW cyI aw 64 wrv))) (M' := ((arrW cyI aq 4 qv) ++ (arrW cyI ak 24 (upd (upd kev ((4 * y6) + 2).toNatClampNeg ((kev ((4 * y6) + 2).toNatClampNeg) + 1)) ((4 * y6) + 3).toNatClampNeg 0)) ++ (arrW cyI ab 12 bov) ++ (arrW cyI aw 64 q15))) (L' := ((arrW cyI aq 4 qv) ++ (arrW cyI ak 24 (upd (upd kev ((4 * y6) + 2).toNatClampNeg ((kev ((4 * y6) + 2).toNatClampNeg) + 1)) ((4 * y6) + 3).toNatClampNeg 0)) ++ (arrW cyI ab 12 bov) ++ (arrW cyI aw 64 q15))) (va_runS (As := [.int y6, .ref aq, .ref ak, .ref ab, .ref aw]) (rest := []) ⟨hx, hb, hml, hown, hts⟩ (mL_burn l dC dI cyI cyO cyL aq ak ab aw qv (upd (upd kev ((4 * y6) + 2).toNatClampNeg ((kev ((4 * y6) + 2).toNatClampNeg) + 1)) ((4 * y6) + 3).toNatClampNeg 0) bov wrv y6 _ q15 e16) (va_cwS 5 hts (gS ml_L_32 st_L_burn in_L co_L_burn) rfl rfl rfl (by decide +kernel) ⟨Nat.le_of_ble_eq_true rfl, Nat.le_of_ble_eq_true rfl⟩) (cP_S hK hP hD [0, 1, 2, 3] rfl rfl) rfl rfl hl.1 rfl (lv_room (Nat.le_of_ble_eq_true rfl)) dL_anew_39 ⟨Nat.zero_le _, Nat.zero_le _⟩) hP hD hS hA [0, 1, 2, 3] rfl [(true, 0), (true, 1), (true, 2), (true, 3)] rfl rfl rfl (fun H locs hP hD hS => ?_)
        refine lv_aload_n hx hb dL_anew_42 rfl (lv_at hl 2 rfl) ?_
        refine lv_iconst (v := 4) hx hb dL_anew_43 (by decide) ?_
        refine lv_iload hx hb dL_anew_44 (lv_at hl 6 rfl) ?_
        refine lv_imul hx hb dL_anew_46 ?_
        obtain ⟨ni17, h⟩ := ifn h
        refine va_iald hx hb hK.1 hP 1 0 rfl rfl ni17 dL_anew_47 ?_
        refine lv_istore (lv' := [(6, .int ((upd (upd kev ((4 * y6) + 2).toNatClampNeg ((kev ((4 * y6) + 2).toNatClampNeg) + 1)) ((4 * y6) + 3).toNatClampNeg 0) (4 * y6).toNatClampNeg)), (0, .int y0), (1, .ref aq), (2, .ref ak), (3, .ref ab), (4, .ref aw), (5, .int y5)]) hx hb dL_anew_48 hl (by decide) rfl (fun ls hl => ?_)
        refine lv_goto (tgt := 6) hx hb dL_anew_50 (by decide) ?_
        exact ih qv (upd (upd kev ((4 * y6) + 2).toNatClampNeg ((kev ((4 * y6) + 2).toNatClampNeg) + 1)) ((4 * y6) + 3).toNatClampNeg 0) bov q15 y0 y5 ((upd (upd kev ((4 * y6) + 2).toNatClampNeg ((kev ((4 * y6) + 2).toNatClampNeg) + 1)) ((4 * y6) + 3).toNatClampNeg 0) (4 * y6).toNatClampNeg) h _ _ hP hD hS ls (lv_sub hl [1, 2, 3, 4, 5, 6, 0] rfl)
  have hl := lv_entry ([.int x0, .ref aq, .ref ak, .ref ab, .ref aw]) (n := 8) (Nat.le_of_ble_eq_true rfl)
  rw [lg_entry_eq]
  generalize (lg_sl ([.int x0, .ref aq, .ref ak, .ref ab, .ref aw]) ++ List.replicate (8 - (lg_sl ([.int x0, .ref aq, .ref ak, .ref ab, .ref aw])).length) Slot.unset).toArray = ls at hl ⊢
  have hl : lv_has ls 8 [(0, .int x0), (1, .ref aq), (2, .ref ak), (3, .ref ab), (4, .ref aw)] := hl
  unfold fL_anew at h
  refine lv_iconst (v := 0) hx hb dL_anew_0 (by decide) ?_
  refine lv_istore (lv' := [(5, .int 0), (0, .int x0), (1, .ref aq), (2, .ref ak), (3, .ref ab), (4, .ref aw)]) hx hb dL_anew_1 hl (by decide) rfl (fun ls hl => ?_)
  refine lv_iload_n hx hb dL_anew_3 rfl (lv_at hl 1 rfl) ?_
  refine lv_istore (lv' := [(6, .int x0), (5, .int 0), (0, .int x0), (1, .ref aq), (2, .ref ak), (3, .ref ab), (4, .ref aw)]) hx hb dL_anew_4 hl (by decide) rfl (fun ls hl => ?_)
  exact kB6 6000 qv kev bov wrv x0 0 x0 h _ _ hP hD hS ls (lv_sub hl [2, 3, 4, 5, 6, 1, 0] rfl)
noncomputable def fL_had_b55 : Nat → (Nat → Int32) → (Nat → Int32) → (Nat → Int32) → (Nat → Int64) → Int32 → Int32 → Int32 → Option (Int32)
  | 0, _, _, _, _, _, _, _ => none
  | fuel + 1, qv, kev, wrv, opv, y0, y1, y8 =>
  (if (3 : Int32) < 0 ∨ 4 ≤ (3 : Int32).toNatClampNeg then none else (if (qv (3 : Int32).toNatClampNeg) ≤ y8 then (some 0) else (if (y8 / 64) < 0 ∨ 2 ≤ (y8 / 64).toNatClampNeg then none else (if (lg_cmp ((lushr (opv (y8 / 64).toNatClampNeg) (y8 - y8 / 64 * 64)) &&& 1) 1) = 0 then (if y8 < 0 ∨ 64 ≤ y8.toNatClampNeg then none else (if (fL_key (wrv y8.toNatClampNeg)) = y0 then (if y8 < 0 ∨ 64 ≤ y8.toNatClampNeg then none else (if (fL_which (wrv y8.toNatClampNeg)) = y1 then (some 1) else fL_had_b55 fuel qv kev wrv opv y0 y1 (y8 + 1))) else fL_had_b55 fuel qv kev wrv opv y0 y1 (y8 + 1))) else fL_had_b55 fuel qv kev wrv opv y0 y1 (y8 + 1)))))

noncomputable def fL_had (qv : Nat → Int32) (kev : Nat → Int32) (wrv : Nat → Int32) (opv : Nat → Int64) (x0 : Int32) (x1 : Int32) (x2 : Int32) (x3 : Int32) : Option (Int32) :=
  (if 0 ≤ x2 then (if x0 = x2 then (if x1 = x3 then (some 1) else fL_had_b55 6000 qv kev wrv opv x0 x1 0) else fL_had_b55 6000 qv kev wrv opv x0 x1 0) else (if (4 * x0) < 0 ∨ 24 ≤ (4 * x0).toNatClampNeg then none else (if 0 ≤ (kev (4 * x0).toNatClampNeg) then fL_had_b55 6000 qv kev wrv opv x0 x1 0 else (if ((4 * x0) + 1) < 0 ∨ 24 ≤ ((4 * x0) + 1).toNatClampNeg then none else (if (kev ((4 * x0) + 1).toNatClampNeg) = 1 then (if ((4 * x0) + 2) < 0 ∨ 24 ≤ ((4 * x0) + 2).toNatClampNeg then none else (if (kev ((4 * x0) + 2).toNatClampNeg) = x1 then (some 1) else fL_had_b55 6000 qv kev wrv opv x0 x1 0)) else fL_had_b55 6000 qv kev wrv opv x0 x1 0)))))
set_option maxHeartbeats 1000000 in
set_option maxRecDepth 100000 in
theorem mL_had (l : Launch) (dC : Nat → ClassId) (dI : Nat → Nat → Nat) (cyI cyO cyL : ClassId) (aq ak aw ao : Nat) (qv : Nat → Int32) (kev : Nat → Int32) (wrv : Nat → Int32) (opv : Nat → Int64) (x0 : Int32) (x1 : Int32) (x2 : Int32) (x3 : Int32) (sz : Nat) (res : Int32) (h : fL_had qv kev wrv opv x0 x1 x2 x3 = some res) : Met l yL_had (wsG yL_had cL_had 9 (some .boolean)) ({ frames := 1, cells := 0, slots := 0, locals := 20 }) (cP dC dI cyI cyO cyL sz [.int x0, .int x1, .int x2, .int x3, .ref aq, .ref ak, .ref aw, .ref ao] ((arrW cyI aq 4 qv) ++ (arrW cyI ak 24 kev) ++ (arrW cyI aw 64 wrv) ++ (larrW cyL ao 2 opv))) (cI dC dI res ((arrW cyI aq 4 qv) ++ (arrW cyI ak 24 kev) ++ (arrW cyI aw 64 wrv) ++ (larrW cyL ao 2 opv)) (va_A ((arrW cyI aq 4 qv) ++ (arrW cyI ak 24 kev) ++ (arrW cyI aw 64 wrv) ++ (larrW cyL ao 2 opv)) sz)) 0 0 (va_A ((arrW cyI aq 4 qv) ++ (arrW cyI ak 24 kev) ++ (arrW cyI aw 64 wrv) ++ (larrW cyL ao 2 opv)) sz) := by
  refine Met.ofW (cc := cL_had) (maxL := 9) (ret := (some .boolean)) (by decide) rfl ?_
  intro p e s m args below meth c s₁ B hml hv
  obtain ⟨rfl, hsz, hP, hK, hD0⟩ := hv
  have hx := B.exec
  have hb := B.bytes
  have hr := B.returns
  have hts := atoms_spec (ws := wsG yL_had cL_had 9 (some .boolean)) B.pre
  have hown : s.vm.findClass RL = some m.cls := findClass_of_methodNamed B.named
  have hlocks := B.notSynchronized
  subst hsz
  have hD := hD0.self (sz := s.heap.size)
  generalize hAe : va_A ((arrW cyI aq 4 qv) ++ (arrW cyI ak 24 kev) ++ (arrW cyI aw 64 wrv) ++ (larrW cyL ao 2 opv)) s.heap.size = A at hD ⊢
  have hA : ∀ q : Nat, s.heap.size ≤ q → A q := fun q h => by rw [← hAe]; exact Or.inr h
  have hS : va_S A s.heap s.heap [] := va_S.rf
  have kB55 : ∀ (fuel : Nat) (qv : Nat → Int32) (kev : Nat → Int32) (wrv : Nat → Int32) (opv : Nat → Int64) (y0 : Int32) (y1 : Int32) (y8 : Int32), fL_had_b55 fuel qv kev wrv opv y0 y1 y8 = some res → ∀ (H : Heap) (locs : List Loc), va_P (dC, dI) vwCl ((arrW cyI aq 4 qv) ++ (arrW cyI ak 24 kev) ++ (arrW cyI aw 64 wrv) ++ (larrW cyL ao 2 opv)) H → va_D A ((arrW cyI aq 4 qv) ++ (arrW cyI ak 24 kev) ++ (arrW cyI aw 64 wrv) ++ (larrW cyL ao 2 opv)) → va_S A s.heap H locs → ∀ ls : Array Slot, lv_has ls 9 [(0, .int y0), (1, .int y1), (4, .ref aq), (6, .ref aw), (7, .ref ao), (8, .int y8)] → W p l e (headSpec (wsG yL_had cL_had 9 (some .boolean)) ({ frames := 1, cells := 0, slots := 0, locals := 20 })).room s m (([.int x0, .int x1, .int x2, .int x3, .ref aq, .ref ak, .ref aw, .ref ao] : List Value).toArray) below meth c H locs 0 0 (MQ below (cI dC dI res ((arrW cyI aq 4 qv) ++ (arrW cyI ak 24 kev) ++ (arrW cyI aw 64 wrv) ++ (larrW cyL ao 2 opv)) A) ([.int x0, .int x1, .int x2, .int x3, .ref aq, .ref ak, .ref aw, .ref ao] : List Value).toArray s 0 0 A) (F0 m 55 ls []) := by
    intro fuel
    induction fuel with
    | zero => intro qv kev wrv opv y0 y1 y8 h; rw [fL_had_b55] at h; cases h
    | succ fuel ih =>
      intro qv kev wrv opv y0 y1 y8 h H locs hP hD hS ls hl
      rw [fL_had_b55] at h
      refine lv_iload hx hb dL_had_55 (lv_at hl 5 rfl) ?_
      refine lv_aload hx hb dL_had_57 (lv_at hl 2 rfl) ?_
      refine lv_iconst (v := 3) hx hb dL_had_59 (by decide) ?_
      obtain ⟨ni1, h⟩ := ifn h
      refine va_iald hx hb hK.1 hP 0 0 rfl rfl ni1 dL_had_60 ?_
      refine lv_icmp_ge (tgt := 117) hx hb dL_had_61 (by decide) (fun c2 => ?_) (fun c2 => ?_)
      · have h := (if_pos c2).symm.trans h
        refine lv_iconst (v := 0) hx hb dL_had_117 (by decide) ?_
        obtain rfl := Option.some.inj h
        exact e_z (v := 0) hx hb hr hlocks rfl hP hS dL_had_118
      · have h := (if_neg c2).symm.trans h
        refine lv_aload hx hb dL_had_64 (lv_at hl 4 rfl) ?_
        refine lv_iload hx hb dL_had_66 (lv_at hl 5 rfl) ?_
        refine lv_bipush (v := 64) hx hb dL_had_68 (by decide) ?_
        refine lv_idiv hx hb dL_had_70 (by decide) ?_
        obtain ⟨ni3, h⟩ := ifn h
        refine va_lald hx hb hK.1 hP 3 2 rfl rfl ni3 dL_had_71 ?_
        refine lv_iload hx hb dL_had_72 (lv_at hl 5 rfl) ?_
        refine lv_bipush (v := 64) hx hb dL_had_74 (by decide) ?_
        refine lv_irem hx hb dL_had_76 (by decide) ?_
        refine lv_lushr (v := (lushr (opv (y8 / 64).toNatClampNeg) (y8 - y8 / 64 * 64))) hx hb dL_had_77 rfl ?_
        refine lv_lconst (v := 1) hx hb dL_had_78 (by decide) ?_
        refine lv_land hx hb dL_had_79 ?_
        refine lv_lconst (v := 1) hx hb dL_had_80 (by decide) ?_
        refine W.lcmp hx hb dL_had_81 ?_
        refine lv_if_ne (tgt := 111) hx hb dL_had_82 (by decide) (fun c4 => ?_) (fun c4 => ?_)
        · have h := (if_neg c4).symm.trans h
          refine lv_iinc (v := (y8 + 1)) (lv' := [(8, .int (y8 + 1)), (0, .int y0), (1, .int y1), (4, .ref aq), (6, .ref aw), (7, .ref ao)]) hx hb dL_had_111 hl (k := 5) rfl rfl (by decide) rfl (fun ls hl => ?_)
          refine lv_goto (tgt := 55) hx hb dL_had_114 (by decide) ?_
          exact ih qv kev wrv opv y0 y1 (y8 + 1) h _ _ hP hD hS ls (lv_sub hl [1, 2, 3, 4, 5, 0] rfl)
        · have h := (if_pos c4).symm.trans h
          refine lv_aload hx hb dL_had_85 (lv_at hl 3 rfl) ?_
          refine lv_iload hx hb dL_had_87 (lv_at hl 5 rfl) ?_
          obtain ⟨ni5, h⟩ := ifn h
          refine va_iald hx hb hK.1 hP 2 0 rfl rfl ni5 dL_had_89 ?_
          refine fr_ir (M := ([] : va_W)) (va_runS (As := [.int (wrv y8.toNatClampNeg)]) (rest := []) ⟨hx, hb, hml, hown, hts⟩ (mL_key l dC dI cyI cyO cyL (wrv y8.toNatClampNeg) _ (fL_key (wrv y8.toNatClampNeg)) rfl) (va_cwS 1 hts (gS ml_L_21 st_L_key in_L co_L_key) rfl rfl rfl (by decide +kernel) ⟨Nat.le_of_ble_eq_true rfl, Nat.le_of_ble_eq_true rfl⟩) (cP_S hK hP hD [] rfl rfl) rfl rfl hl.1 rfl (lv_room (Nat.le_of_ble_eq_true rfl)) dL_had_90 ⟨Nat.zero_le _, Nat.zero_le _⟩) hP hD hS hA [] rfl (fun H locs hP hS => ?_)
          refine lv_iload_n hx hb dL_had_93 rfl (lv_at hl 0 rfl) ?_
          refine lv_icmp_ne (tgt := 111) hx hb dL_had_94 (by decide) (fun c6 => ?_) (fun c6 => ?_)
          · have h := (if_neg c6).symm.trans h
            refine lv_iinc (v := (y8 + 1)) (lv' := [(8, .int (y8 + 1)), (0, .int y0), (1, .int y1), (4, .ref aq), (6, .ref aw), (7, .ref ao)]) hx hb dL_had_111 hl (k := 5) rfl rfl (by decide) rfl (fun ls hl => ?_)
            refine lv_goto (tgt := 55) hx hb dL_had_114 (by decide) ?_
            exact ih qv kev wrv opv y0 y1 (y8 + 1) h _ _ hP hD hS ls (lv_sub hl [1, 2, 3, 4, 5, 0] rfl)
          · have h := (if_pos c6).symm.trans h
            refine lv_aload hx hb dL_had_97 (lv_at hl 3 rfl) ?_
            refine lv_iload hx hb dL_had_99 (lv_at hl 5 rfl) ?_
            obtain ⟨ni7, h⟩ := ifn h
            refine va_iald hx hb hK.1 hP 2 0 rfl rfl ni7 dL_had_101 ?_
            refine fr_ir (M := ([] : va_W)) (va_runS (As := [.int (wrv y8.toNatClampNeg)]) (rest := []) ⟨hx, hb, hml, hown, hts⟩ (mL_which l dC dI cyI cyO cyL (wrv y8.toNatClampNeg) _ (fL_which (wrv y8.toNatClampNeg)) rfl) (va_cwS 1 hts (gS ml_L_28 st_L_which in_L co_L_which) rfl rfl rfl (by decide +kernel) ⟨Nat.le_of_ble_eq_true rfl, Nat.le_of_ble_eq_true rfl⟩) (cP_S hK hP hD [] rfl rfl) rfl rfl hl.1 rfl (lv_room (Nat.le_of_ble_eq_true rfl)) dL_had_102 ⟨Nat.zero_le _, Nat.zero_le _⟩) hP hD hS hA [] rfl (fun H locs hP hS => ?_)
            refine lv_iload_n hx hb dL_had_105 rfl (lv_at hl 1 rfl) ?_
            refine lv_icmp_ne (tgt := 111) hx hb dL_had_106 (by decide) (fun c8 => ?_) (fun c8 => ?_)
            · have h := (if_neg c8).symm.trans h
              refine lv_iinc (v := (y8 + 1)) (lv' := [(8, .int (y8 + 1)), (0, .int y0), (1, .int y1), (4, .ref aq), (6, .ref aw), (7, .ref ao)]) hx hb dL_had_111 hl (k := 5) rfl rfl (by decide) rfl (fun ls hl => ?_)
              refine lv_goto (tgt := 55) hx hb dL_had_114 (by decide) ?_
              exact ih qv kev wrv opv y0 y1 (y8 + 1) h _ _ hP hD hS ls (lv_sub hl [1, 2, 3, 4, 5, 0] rfl)
            · have h := (if_pos c8).symm.trans h
              refine lv_iconst (v := 1) hx hb dL_had_109 (by decide) ?_
              obtain rfl := Option.some.inj h
              exact e_z (v := 1) hx hb hr hlocks rfl hP hS dL_had_110
  have hl := lv_entry ([.int x0, .int x1, .int x2, .int x3, .ref aq, .ref ak, .ref aw, .ref ao]) (n := 9) (Nat.le_of_ble_eq_true rfl)
  rw [lg_entry_eq]
  generalize (lg_sl ([.int x0, .int x1, .int x2, .int x3, .ref aq, .ref ak, .ref aw, .ref ao]) ++ List.replicate (9 - (lg_sl ([.int x0, .int x1, .int x2, .int x3, .ref aq, .ref ak, .ref aw, .ref ao])).length) Slot.unset).toArray = ls at hl ⊢
  have hl : lv_has ls 9 [(0, .int x0), (1, .int x1), (2, .int x2), (3, .int x3), (4, .ref aq), (5, .ref ak), (6, .ref aw), (7, .ref ao)] := hl
  unfold fL_had at h
  refine lv_iload_n hx hb dL_had_0 rfl (lv_at hl 2 rfl) ?_
  refine lv_if_ge (tgt := 40) hx hb dL_had_1 (by decide) (fun c9 => ?_) (fun c9 => ?_)
  · have h := (if_pos c9).symm.trans h
    refine lv_iload_n hx hb dL_had_40 rfl (lv_at hl 0 rfl) ?_
    refine lv_iload_n hx hb dL_had_41 rfl (lv_at hl 2 rfl) ?_
    refine lv_icmp_ne (tgt := 52) hx hb dL_had_42 (by decide) (fun c10 => ?_) (fun c10 => ?_)
    · have h := (if_neg c10).symm.trans h
      refine lv_iconst (v := 0) hx hb dL_had_52 (by decide) ?_
      refine lv_istore (lv' := [(8, .int 0), (0, .int x0), (1, .int x1), (2, .int x2), (3, .int x3), (4, .ref aq), (5, .ref ak), (6, .ref aw), (7, .ref ao)]) hx hb dL_had_53 hl (by decide) rfl (fun ls hl => ?_)
      exact kB55 6000 qv kev wrv opv x0 x1 0 h _ _ hP hD hS ls (lv_sub hl [1, 2, 5, 7, 8, 0] rfl)
    · have h := (if_pos c10).symm.trans h
      refine lv_iload_n hx hb dL_had_45 rfl (lv_at hl 1 rfl) ?_
      refine lv_iload_n hx hb dL_had_46 rfl (lv_at hl 3 rfl) ?_
      refine lv_icmp_ne (tgt := 52) hx hb dL_had_47 (by decide) (fun c11 => ?_) (fun c11 => ?_)
      · have h := (if_neg c11).symm.trans h
        refine lv_iconst (v := 0) hx hb dL_had_52 (by decide) ?_
        refine lv_istore (lv' := [(8, .int 0), (0, .int x0), (1, .int x1), (2, .int x2), (3, .int x3), (4, .ref aq), (5, .ref ak), (6, .ref aw), (7, .ref ao)]) hx hb dL_had_53 hl (by decide) rfl (fun ls hl => ?_)
        exact kB55 6000 qv kev wrv opv x0 x1 0 h _ _ hP hD hS ls (lv_sub hl [1, 2, 5, 7, 8, 0] rfl)
      · have h := (if_pos c11).symm.trans h
        refine lv_iconst (v := 1) hx hb dL_had_50 (by decide) ?_
        obtain rfl := Option.some.inj h
        exact e_z (v := 1) hx hb hr hlocks rfl hP hS dL_had_51
  · have h := (if_neg c9).symm.trans h
    refine lv_aload hx hb dL_had_4 (lv_at hl 5 rfl) ?_
    refine lv_iconst (v := 4) hx hb dL_had_6 (by decide) ?_
    refine lv_iload_n hx hb dL_had_7 rfl (lv_at hl 0 rfl) ?_
    refine lv_imul hx hb dL_had_8 ?_
    obtain ⟨ni12, h⟩ := ifn h
    refine va_iald hx hb hK.1 hP 1 0 rfl rfl ni12 dL_had_9 ?_
    refine lv_if_ge (tgt := 52) hx hb dL_had_10 (by decide) (fun c13 => ?_) (fun c13 => ?_)
    · have h := (if_pos c13).symm.trans h
      refine lv_iconst (v := 0) hx hb dL_had_52 (by decide) ?_
      refine lv_istore (lv' := [(8, .int 0), (0, .int x0), (1, .int x1), (2, .int x2), (3, .int x3), (4, .ref aq), (5, .ref ak), (6, .ref aw), (7, .ref ao)]) hx hb dL_had_53 hl (by decide) rfl (fun ls hl => ?_)
      exact kB55 6000 qv kev wrv opv x0 x1 0 h _ _ hP hD hS ls (lv_sub hl [1, 2, 5, 7, 8, 0] rfl)
    · have h := (if_neg c13).symm.trans h
      refine lv_aload hx hb dL_had_13 (lv_at hl 5 rfl) ?_
      refine lv_iconst (v := 4) hx hb dL_had_15 (by decide) ?_
      refine lv_iload_n hx hb dL_had_16 rfl (lv_at hl 0 rfl) ?_
      refine lv_imul hx hb dL_had_17 ?_
      refine lv_iconst (v := 1) hx hb dL_had_18 (by decide) ?_
      refine lv_iadd hx hb dL_had_19 ?_
      obtain ⟨ni14, h⟩ := ifn h
      refine va_iald hx hb hK.1 hP 1 0 rfl rfl ni14 dL_had_20 ?_
      refine lv_iconst (v := 1) hx hb dL_had_21 (by decide) ?_
      refine lv_icmp_ne (tgt := 52) hx hb dL_had_22 (by decide) (fun c15 => ?_) (fun c15 => ?_)
      · have h := (if_neg c15).symm.trans h
        refine lv_iconst (v := 0) hx hb dL_had_52 (by decide) ?_
        refine lv_istore (lv' := [(8, .int 0), (0, .int x0), (1, .int x1), (2, .int x2), (3, .int x3), (4, .ref aq), (5, .ref ak), (6, .ref aw), (7, .ref ao)]) hx hb dL_had_53 hl (by decide) rfl (fun ls hl => ?_)
        exact kB55 6000 qv kev wrv opv x0 x1 0 h _ _ hP hD hS ls (lv_sub hl [1, 2, 5, 7, 8, 0] rfl)
      · have h := (if_pos c15).symm.trans h
        refine lv_aload hx hb dL_had_25 (lv_at hl 5 rfl) ?_
        refine lv_iconst (v := 4) hx hb dL_had_27 (by decide) ?_
        refine lv_iload_n hx hb dL_had_28 rfl (lv_at hl 0 rfl) ?_
        refine lv_imul hx hb dL_had_29 ?_
        refine lv_iconst (v := 2) hx hb dL_had_30 (by decide) ?_
        refine lv_iadd hx hb dL_had_31 ?_
        obtain ⟨ni16, h⟩ := ifn h
        refine va_iald hx hb hK.1 hP 1 0 rfl rfl ni16 dL_had_32 ?_
        refine lv_iload_n hx hb dL_had_33 rfl (lv_at hl 1 rfl) ?_
        refine lv_icmp_ne (tgt := 52) hx hb dL_had_34 (by decide) (fun c17 => ?_) (fun c17 => ?_)
        · have h := (if_neg c17).symm.trans h
          refine lv_iconst (v := 0) hx hb dL_had_52 (by decide) ?_
          refine lv_istore (lv' := [(8, .int 0), (0, .int x0), (1, .int x1), (2, .int x2), (3, .int x3), (4, .ref aq), (5, .ref ak), (6, .ref aw), (7, .ref ao)]) hx hb dL_had_53 hl (by decide) rfl (fun ls hl => ?_)
          exact kB55 6000 qv kev wrv opv x0 x1 0 h _ _ hP hD hS ls (lv_sub hl [1, 2, 5, 7, 8, 0] rfl)
        · have h := (if_pos c17).symm.trans h
          refine lv_goto (tgt := 50) hx hb dL_had_37 (by decide) ?_
          refine lv_iconst (v := 1) hx hb dL_had_50 (by decide) ?_
          obtain rfl := Option.some.inj h
          exact e_z (v := 1) hx hb hr hlocks rfl hP hS dL_had_51
noncomputable def fL_open_b69 (k13 : (Nat → Int32) → (Nat → Int32) → (Nat → Int32) → (Nat → Int64) → Int32 → Int32 → Int32 → Int32 → Option ((Nat → Int64))) (k24 : (Nat → Int32) → (Nat → Int32) → (Nat → Int32) → (Nat → Int64) → Int32 → Int32 → Int32 → Int32 → Int32 → Option ((Nat → Int64))) (qv : Nat → Int32) (kev : Nat → Int32) (wrv : Nat → Int32) (opv : Nat → Int64) (y0 : Int32) (y1 : Int32) (y2 : Int32) (y7 : Int32) (y8 : Int32) (y9 : Int32) (z0 : Int32) : Option ((Nat → Int64)) :=
  (if z0 = 0 then k24 qv kev wrv opv y0 y1 y2 y7 (y8 + 1) else (if (y8 / 64) < 0 ∨ 2 ≤ (y8 / 64).toNatClampNeg then none else (if (lg_cmp ((lushr (opv (y8 / 64).toNatClampNeg) (y8 - y8 / 64 * 64)) &&& 1) 1) = 0 then k24 qv kev wrv opv y0 y1 y2 y7 (y8 + 1) else ((fL_had qv kev wrv opv (fL_closer y9) (fL_closed y9) y1 y2).bind fun q4 => (if q4 = 0 then k24 qv kev wrv opv y0 y1 y2 y7 (y8 + 1) else (if (y8 / 64) < 0 ∨ 2 ≤ (y8 / 64).toNatClampNeg then none else (if (y8 / 64) < 0 ∨ 2 ≤ (y8 / 64).toNatClampNeg then none else k24 qv kev wrv (vp_updL opv (y8 / 64).toNatClampNeg ((opv (y8 / 64).toNatClampNeg) ||| (1 <<< (((y8 - y8 / 64 * 64)).toInt64 &&& 63)))) y0 y1 y2 1 (y8 + 1))))))))

noncomputable def fL_open_b24 (k13 : (Nat → Int32) → (Nat → Int32) → (Nat → Int32) → (Nat → Int64) → Int32 → Int32 → Int32 → Int32 → Option ((Nat → Int64))) : Nat → (Nat → Int32) → (Nat → Int32) → (Nat → Int32) → (Nat → Int64) → Int32 → Int32 → Int32 → Int32 → Int32 → Option ((Nat → Int64))
  | 0, _, _, _, _, _, _, _, _, _ => none
  | fuel + 1, qv, kev, wrv, opv, y0, y1, y2, y7, y8 =>
  (if (3 : Int32) < 0 ∨ 4 ≤ (3 : Int32).toNatClampNeg then none else (if (qv (3 : Int32).toNatClampNeg) ≤ y8 then k13 qv kev wrv opv y0 y1 y2 y7 else (if y8 < 0 ∨ 64 ≤ y8.toNatClampNeg then none else (if (((wrv y8.toNatClampNeg) >>> (19 &&& 31)) &&& y0) = 0 then (if 0 ≤ y1 then fL_open_b69 k13 (fL_open_b24 k13 fuel) qv kev wrv opv y0 y1 y2 y7 y8 (wrv y8.toNatClampNeg) 0 else (if (((wrv y8.toNatClampNeg) >>> (18 &&& 31)) &&& 1) = 1 then fL_open_b69 k13 (fL_open_b24 k13 fuel) qv kev wrv opv y0 y1 y2 y7 y8 (wrv y8.toNatClampNeg) 1 else fL_open_b69 k13 (fL_open_b24 k13 fuel) qv kev wrv opv y0 y1 y2 y7 y8 (wrv y8.toNatClampNeg) 0)) else fL_open_b69 k13 (fL_open_b24 k13 fuel) qv kev wrv opv y0 y1 y2 y7 y8 (wrv y8.toNatClampNeg) 1))))

noncomputable def fL_open_b13 : Nat → (Nat → Int32) → (Nat → Int32) → (Nat → Int32) → (Nat → Int64) → Int32 → Int32 → Int32 → Int32 → Option ((Nat → Int64))
  | 0, _, _, _, _, _, _, _, _ => none
  | fuel + 1, qv, kev, wrv, opv, y0, y1, y2, y7 =>
  (if y7 = 0 then (some opv) else fL_open_b24 (fL_open_b13 fuel) 6000 qv kev wrv opv y0 y1 y2 0 0)

noncomputable def fL_open (qv : Nat → Int32) (kev : Nat → Int32) (wrv : Nat → Int32) (opv : Nat → Int64) (x0 : Int32) (x1 : Int32) (x2 : Int32) : Option ((Nat → Int64)) :=
  (if (0 : Int32) < 0 ∨ 2 ≤ (0 : Int32).toNatClampNeg then none else (if (1 : Int32) < 0 ∨ 2 ≤ (1 : Int32).toNatClampNeg then none else fL_open_b13 6000 qv kev wrv (vp_updL (vp_updL opv (0 : Int32).toNatClampNeg 0) (1 : Int32).toNatClampNeg 0) x0 x1 x2 1))
set_option maxHeartbeats 1000000 in
set_option maxRecDepth 100000 in
theorem mL_open (l : Launch) (dC : Nat → ClassId) (dI : Nat → Nat → Nat) (cyI cyO cyL : ClassId) (aq ak aw ao : Nat) (qv : Nat → Int32) (kev : Nat → Int32) (wrv : Nat → Int32) (opv : Nat → Int64) (x0 : Int32) (x1 : Int32) (x2 : Int32) (sz : Nat) (res : (Nat → Int64)) (h : fL_open qv kev wrv opv x0 x1 x2 = some res) : Met l yL_open (wsG yL_open cL_open 11 none) ({ frames := 2, cells := 0, slots := 0, locals := 48 }) (cP dC dI cyI cyO cyL sz [.int x0, .int x1, .int x2, .ref aq, .ref ak, .ref aw, .ref ao] ((arrW cyI aq 4 qv) ++ (arrW cyI ak 24 kev) ++ (arrW cyI aw 64 wrv) ++ (larrW cyL ao 2 opv))) (cV dC dI ((arrW cyI aq 4 qv) ++ (arrW cyI ak 24 kev) ++ (arrW cyI aw 64 wrv) ++ (larrW cyL ao 2 res)) (va_A ((arrW cyI aq 4 qv) ++ (arrW cyI ak 24 kev) ++ (arrW cyI aw 64 wrv) ++ (larrW cyL ao 2 opv)) sz)) 0 0 (va_A ((arrW cyI aq 4 qv) ++ (arrW cyI ak 24 kev) ++ (arrW cyI aw 64 wrv) ++ (larrW cyL ao 2 opv)) sz) := by
  refine Met.ofW (cc := cL_open) (maxL := 11) (ret := none) (by decide) rfl ?_
  intro p e s m args below meth c s₁ B hml hv
  obtain ⟨rfl, hsz, hP, hK, hD0⟩ := hv
  have hx := B.exec
  have hb := B.bytes
  have hr := B.returns
  have hts := atoms_spec (ws := wsG yL_open cL_open 11 none) B.pre
  have hown : s.vm.findClass RL = some m.cls := findClass_of_methodNamed B.named
  have hlocks := B.notSynchronized
  subst hsz
  have hD := hD0.self (sz := s.heap.size)
  generalize hAe : va_A ((arrW cyI aq 4 qv) ++ (arrW cyI ak 24 kev) ++ (arrW cyI aw 64 wrv) ++ (larrW cyL ao 2 opv)) s.heap.size = A at hD ⊢
  have hA : ∀ q : Nat, s.heap.size ≤ q → A q := fun q h => by rw [← hAe]; exact Or.inr h
  have hS : va_S A s.heap s.heap [] := va_S.rf
  have kB69 : ∀ (k13 : (Nat → Int32) → (Nat → Int32) → (Nat → Int32) → (Nat → Int64) → Int32 → Int32 → Int32 → Int32 → Option ((Nat → Int64))) (hk13 : ∀ (qv : Nat → Int32) (kev : Nat → Int32) (wrv : Nat → Int32) (opv : Nat → Int64) (y0 : Int32) (y1 : Int32) (y2 : Int32) (y7 : Int32), k13 qv kev wrv opv y0 y1 y2 y7 = some res → ∀ (H : Heap) (locs : List Loc), va_P (dC, dI) vwCl ((arrW cyI aq 4 qv) ++ (arrW cyI ak 24 kev) ++ (arrW cyI aw 64 wrv) ++ (larrW cyL ao 2 opv)) H → va_D A ((arrW cyI aq 4 qv) ++ (arrW cyI ak 24 kev) ++ (arrW cyI aw 64 wrv) ++ (larrW cyL ao 2 opv)) → va_S A s.heap H locs → ∀ ls : Array Slot, lv_has ls 11 [(0, .int y0), (1, .int y1), (2, .int y2), (3, .ref aq), (4, .ref ak), (5, .ref aw), (6, .ref ao), (7, .int y7)] → W p l e (headSpec (wsG yL_open cL_open 11 none) ({ frames := 2, cells := 0, slots := 0, locals := 48 })).room s m (([.int x0, .int x1, .int x2, .ref aq, .ref ak, .ref aw, .ref ao] : List Value).toArray) below meth c H locs 0 0 (MQ below (cV dC dI ((arrW cyI aq 4 qv) ++ (arrW cyI ak 24 kev) ++ (arrW cyI aw 64 wrv) ++ (larrW cyL ao 2 res)) A) ([.int x0, .int x1, .int x2, .ref aq, .ref ak, .ref aw, .ref ao] : List Value).toArray s 0 0 A) (F0 m 13 ls [])) (k24 : (Nat → Int32) → (Nat → Int32) → (Nat → Int32) → (Nat → Int64) → Int32 → Int32 → Int32 → Int32 → Int32 → Option ((Nat → Int64))) (hk24 : ∀ (qv : Nat → Int32) (kev : Nat → Int32) (wrv : Nat → Int32) (opv : Nat → Int64) (y0 : Int32) (y1 : Int32) (y2 : Int32) (y7 : Int32) (y8 : Int32), k24 qv kev wrv opv y0 y1 y2 y7 y8 = some res → ∀ (H : Heap) (locs : List Loc), va_P (dC, dI) vwCl ((arrW cyI aq 4 qv) ++ (arrW cyI ak 24 kev) ++ (arrW cyI aw 64 wrv) ++ (larrW cyL ao 2 opv)) H → va_D A ((arrW cyI aq 4 qv) ++ (arrW cyI ak 24 kev) ++ (arrW cyI aw 64 wrv) ++ (larrW cyL ao 2 opv)) → va_S A s.heap H locs → ∀ ls : Array Slot, lv_has ls 11 [(0, .int y0), (1, .int y1), (2, .int y2), (3, .ref aq), (4, .ref ak), (5, .ref aw), (6, .ref ao), (7, .int y7), (8, .int y8)] → W p l e (headSpec (wsG yL_open cL_open 11 none) ({ frames := 2, cells := 0, slots := 0, locals := 48 })).room s m (([.int x0, .int x1, .int x2, .ref aq, .ref ak, .ref aw, .ref ao] : List Value).toArray) below meth c H locs 0 0 (MQ below (cV dC dI ((arrW cyI aq 4 qv) ++ (arrW cyI ak 24 kev) ++ (arrW cyI aw 64 wrv) ++ (larrW cyL ao 2 res)) A) ([.int x0, .int x1, .int x2, .ref aq, .ref ak, .ref aw, .ref ao] : List Value).toArray s 0 0 A) (F0 m 24 ls [])) (qv : Nat → Int32) (kev : Nat → Int32) (wrv : Nat → Int32) (opv : Nat → Int64) (y0 : Int32) (y1 : Int32) (y2 : Int32) (y7 : Int32) (y8 : Int32) (y9 : Int32) (z0 : Int32), fL_open_b69 k13 k24 qv kev wrv opv y0 y1 y2 y7 y8 y9 z0 = some res → ∀ (H : Heap) (locs : List Loc), va_P (dC, dI) vwCl ((arrW cyI aq 4 qv) ++ (arrW cyI ak 24 kev) ++ (arrW cyI aw 64 wrv) ++ (larrW cyL ao 2 opv)) H → va_D A ((arrW cyI aq 4 qv) ++ (arrW cyI ak 24 kev) ++ (arrW cyI aw 64 wrv) ++ (larrW cyL ao 2 opv)) → va_S A s.heap H locs → ∀ ls : Array Slot, lv_has ls 11 [(0, .int y0), (1, .int y1), (2, .int y2), (3, .ref aq), (4, .ref ak), (5, .ref aw), (6, .ref ao), (7, .int y7), (8, .int y8), (9, .int y9)] → W p l e (headSpec (wsG yL_open cL_open 11 none) ({ frames := 2, cells := 0, slots := 0, locals := 48 })).room s m (([.int x0, .int x1, .int x2, .ref aq, .ref ak, .ref aw, .ref ao] : List Value).toArray) below meth c H locs 0 0 (MQ below (cV dC dI ((arrW cyI aq 4 qv) ++ (arrW cyI ak 24 kev) ++ (arrW cyI aw 64 wrv) ++ (larrW cyL ao 2 res)) A) ([.int x0, .int x1, .int x2, .ref aq, .ref ak, .ref aw, .ref ao] : List Value).toArray s 0 0 A) (F0 m 69 ls [.int z0]) := by
    intro k13 hk13 k24 hk24 qv kev wrv opv y0 y1 y2 y7 y8 y9 z0 h H locs hP hD hS ls hl
    unfold fL_open_b69 at h
    refine lv_istore (lv' := [(10, .int z0), (0, .int y0), (1, .int y1), (2, .int y2), (3, .ref aq), (4, .ref ak), (5, .ref aw), (6, .ref ao), (7, .int y7), (8, .int y8), (9, .int y9)]) hx hb dL_open_69 hl (by decide) rfl (fun ls hl => ?_)
    refine lv_iload hx hb dL_open_71 (lv_at hl 0 rfl) ?_
    refine lv_if_eq (tgt := 146) hx hb dL_open_73 (by decide) (fun c1 => ?_) (fun c1 => ?_)
    · have h := (if_pos c1).symm.trans h
      refine lv_iinc (v := (y8 + 1)) (lv' := [(8, .int (y8 + 1)), (10, .int z0), (0, .int y0), (1, .int y1), (2, .int y2), (3, .ref aq), (4, .ref ak), (5, .ref aw), (6, .ref ao), (7, .int y7), (9, .int y9)]) hx hb dL_open_146 hl (k := 9) rfl rfl (by decide) rfl (fun ls hl => ?_)
      refine lv_goto (tgt := 24) hx hb dL_open_149 (by decide) ?_
      exact hk24 qv kev wrv opv y0 y1 y2 y7 (y8 + 1) h _ _ hP hD hS ls (lv_sub hl [2, 3, 4, 5, 6, 7, 8, 9, 0] rfl)
    · have h := (if_neg c1).symm.trans h
      refine lv_aload hx hb dL_open_76 (lv_at hl 7 rfl) ?_
      refine lv_iload hx hb dL_open_78 (lv_at hl 9 rfl) ?_
      refine lv_bipush (v := 64) hx hb dL_open_80 (by decide) ?_
      refine lv_idiv hx hb dL_open_82 (by decide) ?_
      obtain ⟨ni2, h⟩ := ifn h
      refine va_lald hx hb hK.1 hP 3 2 rfl rfl ni2 dL_open_83 ?_
      refine lv_iload hx hb dL_open_84 (lv_at hl 9 rfl) ?_
      refine lv_bipush (v := 64) hx hb dL_open_86 (by decide) ?_
      refine lv_irem hx hb dL_open_88 (by decide) ?_
      refine lv_lushr (v := (lushr (opv (y8 / 64).toNatClampNeg) (y8 - y8 / 64 * 64))) hx hb dL_open_89 rfl ?_
      refine lv_lconst (v := 1) hx hb dL_open_90 (by decide) ?_
      refine lv_land hx hb dL_open_91 ?_
      refine lv_lconst (v := 1) hx hb dL_open_92 (by decide) ?_
      refine W.lcmp hx hb dL_open_93 ?_
      refine lv_if_eq (tgt := 146) hx hb dL_open_94 (by decide) (fun c3 => ?_) (fun c3 => ?_)
      · have h := (if_pos c3).symm.trans h
        refine lv_iinc (v := (y8 + 1)) (lv' := [(8, .int (y8 + 1)), (10, .int z0), (0, .int y0), (1, .int y1), (2, .int y2), (3, .ref aq), (4, .ref ak), (5, .ref aw), (6, .ref ao), (7, .int y7), (9, .int y9)]) hx hb dL_open_146 hl (k := 9) rfl rfl (by decide) rfl (fun ls hl => ?_)
        refine lv_goto (tgt := 24) hx hb dL_open_149 (by decide) ?_
        exact hk24 qv kev wrv opv y0 y1 y2 y7 (y8 + 1) h _ _ hP hD hS ls (lv_sub hl [2, 3, 4, 5, 6, 7, 8, 9, 0] rfl)
      · have h := (if_neg c3).symm.trans h
        refine lv_iload hx hb dL_open_97 (lv_at hl 10 rfl) ?_
        refine fr_ir (M := ([] : va_W)) (va_runS (As := [.int y9]) (rest := []) ⟨hx, hb, hml, hown, hts⟩ (mL_closer l dC dI cyI cyO cyL y9 _ (fL_closer y9) rfl) (va_cwS 1 hts (gS ml_L_25 st_L_closer in_L co_L_closer) rfl rfl rfl (by decide +kernel) ⟨Nat.le_of_ble_eq_true rfl, Nat.le_of_ble_eq_true rfl⟩) (cP_S hK hP hD [] rfl rfl) rfl rfl hl.1 rfl (lv_room (Nat.le_of_ble_eq_true rfl)) dL_open_99 ⟨Nat.zero_le _, Nat.zero_le _⟩) hP hD hS hA [] rfl (fun H locs hP hS => ?_)
        refine lv_iload hx hb dL_open_102 (lv_at hl 10 rfl) ?_
        refine fr_ir (M := ([] : va_W)) (va_runS (As := [.int y9]) (rest := [.int (fL_closer y9)]) ⟨hx, hb, hml, hown, hts⟩ (mL_closed l dC dI cyI cyO cyL y9 _ (fL_closed y9) rfl) (va_cwS 1 hts (gS ml_L_40 st_L_closed in_L co_L_closed) rfl rfl rfl (by decide +kernel) ⟨Nat.le_of_ble_eq_true rfl, Nat.le_of_ble_eq_true rfl⟩) (cP_S hK hP hD [] rfl rfl) rfl rfl hl.1 rfl (lv_room (Nat.le_of_ble_eq_true rfl)) dL_open_104 ⟨Nat.zero_le _, Nat.zero_le _⟩) hP hD hS hA [] rfl (fun H locs hP hS => ?_)
        refine lv_iload_n hx hb dL_open_107 rfl (lv_at hl 2 rfl) ?_
        refine lv_iload_n hx hb dL_open_108 rfl (lv_at hl 3 rfl) ?_
        refine lv_aload_n hx hb dL_open_109 rfl (lv_at hl 4 rfl) ?_
        refine lv_aload hx hb dL_open_110 (lv_at hl 5 rfl) ?_
        refine lv_aload hx hb dL_open_112 (lv_at hl 6 rfl) ?_
        refine lv_aload hx hb dL_open_114 (lv_at hl 7 rfl) ?_
        obtain ⟨q4, e5, h⟩ := ob h
        refine fr_ir (M := ((arrW cyI aq 4 qv) ++ (arrW cyI ak 24 kev) ++ (arrW cyI aw 64 wrv) ++ (larrW cyL ao 2 opv))) (va_runS (As := [.int (fL_closer y9), .int (fL_closed y9), .int y1, .int y2, .ref aq, .ref ak, .ref aw, .ref ao]) (rest := []) ⟨hx, hb, hml, hown, hts⟩ (mL_had l dC dI cyI cyO cyL aq ak aw ao qv kev wrv opv (fL_closer y9) (fL_closed y9) y1 y2 _ q4 e5) (va_cwS 8 hts (gS ml_L_43 st_L_had in_L co_L_had) rfl rfl rfl (by decide +kernel) ⟨Nat.le_of_ble_eq_true rfl, Nat.le_of_ble_eq_true rfl⟩) (cP_S hK hP hD [0, 1, 2, 3] rfl rfl) rfl rfl hl.1 rfl (lv_room (Nat.le_of_ble_eq_true rfl)) dL_open_116 ⟨Nat.zero_le _, Nat.zero_le _⟩) hP hD hS hA [0, 1, 2, 3] rfl (fun H locs hP hS => ?_)
        refine lv_if_ne (tgt := 125) hx hb dL_open_119 (by decide) (fun c6 => ?_) (fun c6 => ?_)
        · have h := (if_neg c6).symm.trans h
          refine lv_aload hx hb dL_open_125 (lv_at hl 7 rfl) ?_
          refine lv_iload hx hb dL_open_127 (lv_at hl 9 rfl) ?_
          refine lv_bipush (v := 64) hx hb dL_open_129 (by decide) ?_
          refine lv_idiv hx hb dL_open_131 (by decide) ?_
          refine lv_dup2_11 hx hb dL_open_132 rfl rfl ?_
          obtain ⟨ni7, h⟩ := ifn h
          refine va_lald hx hb hK.1 hP 3 2 rfl rfl ni7 dL_open_133 ?_
          refine lv_lconst (v := 1) hx hb dL_open_134 (by decide) ?_
          refine lv_iload hx hb dL_open_135 (lv_at hl 9 rfl) ?_
          refine lv_bipush (v := 64) hx hb dL_open_137 (by decide) ?_
          refine lv_irem hx hb dL_open_139 (by decide) ?_
          refine lv_lshl (v := (1 <<< (((y8 - y8 / 64 * 64)).toInt64 &&& 63))) hx hb dL_open_140 rfl ?_
          refine lv_lor hx hb dL_open_141 ?_
          obtain ⟨ni8, h⟩ := ifn h
          refine va_last hx hb hK.1 hP hD hS 3 2 rfl rfl ni8 dL_open_142 (fun H locs hP hD hS => ?_)
          have hP : va_P (dC, dI) vwCl ((arrW cyI aq 4 qv) ++ (arrW cyI ak 24 kev) ++ (arrW cyI aw 64 wrv) ++ (larrW cyL ao 2 (vp_updL opv (y8 / 64).toNatClampNeg ((opv (y8 / 64).toNatClampNeg) ||| (1 <<< (((y8 - y8 / 64 * 64)).toInt64 &&& 63)))))) H := hP
          have hD : va_D A ((arrW cyI aq 4 qv) ++ (arrW cyI ak 24 kev) ++ (arrW cyI aw 64 wrv) ++ (larrW cyL ao 2 (vp_updL opv (y8 / 64).toNatClampNeg ((opv (y8 / 64).toNatClampNeg) ||| (1 <<< (((y8 - y8 / 64 * 64)).toInt64 &&& 63)))))) := hD
          refine lv_iconst (v := 1) hx hb dL_open_143 (by decide) ?_
          refine lv_istore (lv' := [(7, .int 1), (10, .int z0), (0, .int y0), (1, .int y1), (2, .int y2), (3, .ref aq), (4, .ref ak), (5, .ref aw), (6, .ref ao), (8, .int y8), (9, .int y9)]) hx hb dL_open_144 hl (by decide) rfl (fun ls hl => ?_)
          refine lv_iinc (v := (y8 + 1)) (lv' := [(8, .int (y8 + 1)), (7, .int 1), (10, .int z0), (0, .int y0), (1, .int y1), (2, .int y2), (3, .ref aq), (4, .ref ak), (5, .ref aw), (6, .ref ao), (9, .int y9)]) hx hb dL_open_146 hl (k := 9) rfl rfl (by decide) rfl (fun ls hl => ?_)
          refine lv_goto (tgt := 24) hx hb dL_open_149 (by decide) ?_
          exact hk24 qv kev wrv (vp_updL opv (y8 / 64).toNatClampNeg ((opv (y8 / 64).toNatClampNeg) ||| (1 <<< (((y8 - y8 / 64 * 64)).toInt64 &&& 63)))) y0 y1 y2 1 (y8 + 1) h _ _ hP hD hS ls (lv_sub hl [3, 4, 5, 6, 7, 8, 9, 1, 0] rfl)
        · have h := (if_pos c6).symm.trans h
          refine lv_goto (tgt := 146) hx hb dL_open_122 (by decide) ?_
          refine lv_iinc (v := (y8 + 1)) (lv' := [(8, .int (y8 + 1)), (10, .int z0), (0, .int y0), (1, .int y1), (2, .int y2), (3, .ref aq), (4, .ref ak), (5, .ref aw), (6, .ref ao), (7, .int y7), (9, .int y9)]) hx hb dL_open_146 hl (k := 9) rfl rfl (by decide) rfl (fun ls hl => ?_)
          refine lv_goto (tgt := 24) hx hb dL_open_149 (by decide) ?_
          exact hk24 qv kev wrv opv y0 y1 y2 y7 (y8 + 1) h _ _ hP hD hS ls (lv_sub hl [2, 3, 4, 5, 6, 7, 8, 9, 0] rfl)
  have kB24 : ∀ (k13 : (Nat → Int32) → (Nat → Int32) → (Nat → Int32) → (Nat → Int64) → Int32 → Int32 → Int32 → Int32 → Option ((Nat → Int64))) (hk13 : ∀ (qv : Nat → Int32) (kev : Nat → Int32) (wrv : Nat → Int32) (opv : Nat → Int64) (y0 : Int32) (y1 : Int32) (y2 : Int32) (y7 : Int32), k13 qv kev wrv opv y0 y1 y2 y7 = some res → ∀ (H : Heap) (locs : List Loc), va_P (dC, dI) vwCl ((arrW cyI aq 4 qv) ++ (arrW cyI ak 24 kev) ++ (arrW cyI aw 64 wrv) ++ (larrW cyL ao 2 opv)) H → va_D A ((arrW cyI aq 4 qv) ++ (arrW cyI ak 24 kev) ++ (arrW cyI aw 64 wrv) ++ (larrW cyL ao 2 opv)) → va_S A s.heap H locs → ∀ ls : Array Slot, lv_has ls 11 [(0, .int y0), (1, .int y1), (2, .int y2), (3, .ref aq), (4, .ref ak), (5, .ref aw), (6, .ref ao), (7, .int y7)] → W p l e (headSpec (wsG yL_open cL_open 11 none) ({ frames := 2, cells := 0, slots := 0, locals := 48 })).room s m (([.int x0, .int x1, .int x2, .ref aq, .ref ak, .ref aw, .ref ao] : List Value).toArray) below meth c H locs 0 0 (MQ below (cV dC dI ((arrW cyI aq 4 qv) ++ (arrW cyI ak 24 kev) ++ (arrW cyI aw 64 wrv) ++ (larrW cyL ao 2 res)) A) ([.int x0, .int x1, .int x2, .ref aq, .ref ak, .ref aw, .ref ao] : List Value).toArray s 0 0 A) (F0 m 13 ls [])) (fuel : Nat) (qv : Nat → Int32) (kev : Nat → Int32) (wrv : Nat → Int32) (opv : Nat → Int64) (y0 : Int32) (y1 : Int32) (y2 : Int32) (y7 : Int32) (y8 : Int32), fL_open_b24 k13 fuel qv kev wrv opv y0 y1 y2 y7 y8 = some res → ∀ (H : Heap) (locs : List Loc), va_P (dC, dI) vwCl ((arrW cyI aq 4 qv) ++ (arrW cyI ak 24 kev) ++ (arrW cyI aw 64 wrv) ++ (larrW cyL ao 2 opv)) H → va_D A ((arrW cyI aq 4 qv) ++ (arrW cyI ak 24 kev) ++ (arrW cyI aw 64 wrv) ++ (larrW cyL ao 2 opv)) → va_S A s.heap H locs → ∀ ls : Array Slot, lv_has ls 11 [(0, .int y0), (1, .int y1), (2, .int y2), (3, .ref aq), (4, .ref ak), (5, .ref aw), (6, .ref ao), (7, .int y7), (8, .int y8)] → W p l e (headSpec (wsG yL_open cL_open 11 none) ({ frames := 2, cells := 0, slots := 0, locals := 48 })).room s m (([.int x0, .int x1, .int x2, .ref aq, .ref ak, .ref aw, .ref ao] : List Value).toArray) below meth c H locs 0 0 (MQ below (cV dC dI ((arrW cyI aq 4 qv) ++ (arrW cyI ak 24 kev) ++ (arrW cyI aw 64 wrv) ++ (larrW cyL ao 2 res)) A) ([.int x0, .int x1, .int x2, .ref aq, .ref ak, .ref aw, .ref ao] : List Value).toArray s 0 0 A) (F0 m 24 ls []) := by
    intro k13 hk13 fuel
    induction fuel with
    | zero => intro qv kev wrv opv y0 y1 y2 y7 y8 h; rw [fL_open_b24] at h; cases h
    | succ fuel ih =>
      intro qv kev wrv opv y0 y1 y2 y7 y8 h H locs hP hD hS ls hl
      rw [fL_open_b24] at h
      refine lv_iload hx hb dL_open_24 (lv_at hl 8 rfl) ?_
      refine lv_aload_n hx hb dL_open_26 rfl (lv_at hl 3 rfl) ?_
      refine lv_iconst (v := 3) hx hb dL_open_27 (by decide) ?_
      obtain ⟨ni9, h⟩ := ifn h
      refine va_iald hx hb hK.1 hP 0 0 rfl rfl ni9 dL_open_28 ?_
      refine lv_icmp_ge (tgt := 152) hx hb dL_open_29 (by decide) (fun c10 => ?_) (fun c10 => ?_)
      · have h := (if_pos c10).symm.trans h
        refine lv_goto (tgt := 13) hx hb dL_open_152 (by decide) ?_
        exact hk13 qv kev wrv opv y0 y1 y2 y7 h _ _ hP hD hS ls (lv_sub hl [0, 1, 2, 3, 4, 5, 6, 7] rfl)
      · have h := (if_neg c10).symm.trans h
        refine lv_aload hx hb dL_open_32 (lv_at hl 5 rfl) ?_
        refine lv_iload hx hb dL_open_34 (lv_at hl 8 rfl) ?_
        obtain ⟨ni11, h⟩ := ifn h
        refine va_iald hx hb hK.1 hP 2 0 rfl rfl ni11 dL_open_36 ?_
        refine lv_istore (lv' := [(9, .int (wrv y8.toNatClampNeg)), (0, .int y0), (1, .int y1), (2, .int y2), (3, .ref aq), (4, .ref ak), (5, .ref aw), (6, .ref ao), (7, .int y7), (8, .int y8)]) hx hb dL_open_37 hl (by decide) rfl (fun ls hl => ?_)
        refine lv_iload hx hb dL_open_39 (lv_at hl 0 rfl) ?_
        refine lv_bipush (v := 19) hx hb dL_open_41 (by decide) ?_
        refine lv_ishr hx hb dL_open_43 ?_
        refine lv_iload_n hx hb dL_open_44 rfl (lv_at hl 1 rfl) ?_
        refine lv_iand hx hb dL_open_45 ?_
        refine lv_if_ne (tgt := 64) hx hb dL_open_46 (by decide) (fun c12 => ?_) (fun c12 => ?_)
        · have h := (if_neg c12).symm.trans h
          refine lv_iconst (v := 1) hx hb dL_open_64 (by decide) ?_
          refine lv_goto (tgt := 69) hx hb dL_open_65 (by decide) ?_
          exact kB69 k13 hk13 (fL_open_b24 k13 fuel) ih qv kev wrv opv y0 y1 y2 y7 y8 (wrv y8.toNatClampNeg) 1 h _ _ hP hD hS ls (lv_sub hl [1, 2, 3, 4, 5, 6, 7, 8, 9, 0] rfl)
        · have h := (if_pos c12).symm.trans h
          refine lv_iload_n hx hb dL_open_49 rfl (lv_at hl 2 rfl) ?_
          refine lv_if_ge (tgt := 68) hx hb dL_open_50 (by decide) (fun c13 => ?_) (fun c13 => ?_)
          · have h := (if_pos c13).symm.trans h
            refine lv_iconst (v := 0) hx hb dL_open_68 (by decide) ?_
            exact kB69 k13 hk13 (fL_open_b24 k13 fuel) ih qv kev wrv opv y0 y1 y2 y7 y8 (wrv y8.toNatClampNeg) 0 h _ _ hP hD hS ls (lv_sub hl [1, 2, 3, 4, 5, 6, 7, 8, 9, 0] rfl)
          · have h := (if_neg c13).symm.trans h
            refine lv_iload hx hb dL_open_53 (lv_at hl 0 rfl) ?_
            refine lv_bipush (v := 18) hx hb dL_open_55 (by decide) ?_
            refine lv_ishr hx hb dL_open_57 ?_
            refine lv_iconst (v := 1) hx hb dL_open_58 (by decide) ?_
            refine lv_iand hx hb dL_open_59 ?_
            refine lv_iconst (v := 1) hx hb dL_open_60 (by decide) ?_
            refine lv_icmp_ne (tgt := 68) hx hb dL_open_61 (by decide) (fun c14 => ?_) (fun c14 => ?_)
            · have h := (if_neg c14).symm.trans h
              refine lv_iconst (v := 0) hx hb dL_open_68 (by decide) ?_
              exact kB69 k13 hk13 (fL_open_b24 k13 fuel) ih qv kev wrv opv y0 y1 y2 y7 y8 (wrv y8.toNatClampNeg) 0 h _ _ hP hD hS ls (lv_sub hl [1, 2, 3, 4, 5, 6, 7, 8, 9, 0] rfl)
            · have h := (if_pos c14).symm.trans h
              refine lv_iconst (v := 1) hx hb dL_open_64 (by decide) ?_
              refine lv_goto (tgt := 69) hx hb dL_open_65 (by decide) ?_
              exact kB69 k13 hk13 (fL_open_b24 k13 fuel) ih qv kev wrv opv y0 y1 y2 y7 y8 (wrv y8.toNatClampNeg) 1 h _ _ hP hD hS ls (lv_sub hl [1, 2, 3, 4, 5, 6, 7, 8, 9, 0] rfl)
  have kB13 : ∀ (fuel : Nat) (qv : Nat → Int32) (kev : Nat → Int32) (wrv : Nat → Int32) (opv : Nat → Int64) (y0 : Int32) (y1 : Int32) (y2 : Int32) (y7 : Int32), fL_open_b13 fuel qv kev wrv opv y0 y1 y2 y7 = some res → ∀ (H : Heap) (locs : List Loc), va_P (dC, dI) vwCl ((arrW cyI aq 4 qv) ++ (arrW cyI ak 24 kev) ++ (arrW cyI aw 64 wrv) ++ (larrW cyL ao 2 opv)) H → va_D A ((arrW cyI aq 4 qv) ++ (arrW cyI ak 24 kev) ++ (arrW cyI aw 64 wrv) ++ (larrW cyL ao 2 opv)) → va_S A s.heap H locs → ∀ ls : Array Slot, lv_has ls 11 [(0, .int y0), (1, .int y1), (2, .int y2), (3, .ref aq), (4, .ref ak), (5, .ref aw), (6, .ref ao), (7, .int y7)] → W p l e (headSpec (wsG yL_open cL_open 11 none) ({ frames := 2, cells := 0, slots := 0, locals := 48 })).room s m (([.int x0, .int x1, .int x2, .ref aq, .ref ak, .ref aw, .ref ao] : List Value).toArray) below meth c H locs 0 0 (MQ below (cV dC dI ((arrW cyI aq 4 qv) ++ (arrW cyI ak 24 kev) ++ (arrW cyI aw 64 wrv) ++ (larrW cyL ao 2 res)) A) ([.int x0, .int x1, .int x2, .ref aq, .ref ak, .ref aw, .ref ao] : List Value).toArray s 0 0 A) (F0 m 13 ls []) := by
    intro fuel
    induction fuel with
    | zero => intro qv kev wrv opv y0 y1 y2 y7 h; rw [fL_open_b13] at h; cases h
    | succ fuel ih =>
      intro qv kev wrv opv y0 y1 y2 y7 h H locs hP hD hS ls hl
      rw [fL_open_b13] at h
      refine lv_iload hx hb dL_open_13 (lv_at hl 7 rfl) ?_
      refine lv_if_eq (tgt := 155) hx hb dL_open_15 (by decide) (fun c15 => ?_) (fun c15 => ?_)
      · have h := (if_pos c15).symm.trans h
        obtain rfl := Option.some.inj h
        exact e_v hx hb hr hlocks hP hS dL_open_155
      · have h := (if_neg c15).symm.trans h
        refine lv_iconst (v := 0) hx hb dL_open_18 (by decide) ?_
        refine lv_istore (lv' := [(7, .int 0), (0, .int y0), (1, .int y1), (2, .int y2), (3, .ref aq), (4, .ref ak), (5, .ref aw), (6, .ref ao)]) hx hb dL_open_19 hl (by decide) rfl (fun ls hl => ?_)
        refine lv_iconst (v := 0) hx hb dL_open_21 (by decide) ?_
        refine lv_istore (lv' := [(8, .int 0), (7, .int 0), (0, .int y0), (1, .int y1), (2, .int y2), (3, .ref aq), (4, .ref ak), (5, .ref aw), (6, .ref ao)]) hx hb dL_open_22 hl (by decide) rfl (fun ls hl => ?_)
        exact kB24 (fL_open_b13 fuel) ih 6000 qv kev wrv opv y0 y1 y2 0 0 h _ _ hP hD hS ls (lv_sub hl [2, 3, 4, 5, 6, 7, 8, 1, 0] rfl)
  have hl := lv_entry ([.int x0, .int x1, .int x2, .ref aq, .ref ak, .ref aw, .ref ao]) (n := 11) (Nat.le_of_ble_eq_true rfl)
  rw [lg_entry_eq]
  generalize (lg_sl ([.int x0, .int x1, .int x2, .ref aq, .ref ak, .ref aw, .ref ao]) ++ List.replicate (11 - (lg_sl ([.int x0, .int x1, .int x2, .ref aq, .ref ak, .ref aw, .ref ao])).length) Slot.unset).toArray = ls at hl ⊢
  have hl : lv_has ls 11 [(0, .int x0), (1, .int x1), (2, .int x2), (3, .ref aq), (4, .ref ak), (5, .ref aw), (6, .ref ao)] := hl
  unfold fL_open at h
  refine lv_aload hx hb dL_open_0 (lv_at hl 6 rfl) ?_
  refine lv_iconst (v := 0) hx hb dL_open_2 (by decide) ?_
  refine lv_lconst (v := 0) hx hb dL_open_3 (by decide) ?_
  obtain ⟨ni16, h⟩ := ifn h
  refine va_last hx hb hK.1 hP hD hS 3 2 rfl rfl ni16 dL_open_4 (fun H locs hP hD hS => ?_)
  have hP : va_P (dC, dI) vwCl ((arrW cyI aq 4 qv) ++ (arrW cyI ak 24 kev) ++ (arrW cyI aw 64 wrv) ++ (larrW cyL ao 2 (vp_updL opv (0 : Int32).toNatClampNeg 0))) H := hP
  have hD : va_D A ((arrW cyI aq 4 qv) ++ (arrW cyI ak 24 kev) ++ (arrW cyI aw 64 wrv) ++ (larrW cyL ao 2 (vp_updL opv (0 : Int32).toNatClampNeg 0))) := hD
  refine lv_aload hx hb dL_open_5 (lv_at hl 6 rfl) ?_
  refine lv_iconst (v := 1) hx hb dL_open_7 (by decide) ?_
  refine lv_lconst (v := 0) hx hb dL_open_8 (by decide) ?_
  obtain ⟨ni17, h⟩ := ifn h
  refine va_last hx hb hK.1 hP hD hS 3 2 rfl rfl ni17 dL_open_9 (fun H locs hP hD hS => ?_)
  have hP : va_P (dC, dI) vwCl ((arrW cyI aq 4 qv) ++ (arrW cyI ak 24 kev) ++ (arrW cyI aw 64 wrv) ++ (larrW cyL ao 2 (vp_updL (vp_updL opv (0 : Int32).toNatClampNeg 0) (1 : Int32).toNatClampNeg 0))) H := hP
  have hD : va_D A ((arrW cyI aq 4 qv) ++ (arrW cyI ak 24 kev) ++ (arrW cyI aw 64 wrv) ++ (larrW cyL ao 2 (vp_updL (vp_updL opv (0 : Int32).toNatClampNeg 0) (1 : Int32).toNatClampNeg 0))) := hD
  refine lv_iconst (v := 1) hx hb dL_open_10 (by decide) ?_
  refine lv_istore (lv' := [(7, .int 1), (0, .int x0), (1, .int x1), (2, .int x2), (3, .ref aq), (4, .ref ak), (5, .ref aw), (6, .ref ao)]) hx hb dL_open_11 hl (by decide) rfl (fun ls hl => ?_)
  exact kB13 6000 qv kev wrv (vp_updL (vp_updL opv (0 : Int32).toNatClampNeg 0) (1 : Int32).toNatClampNeg 0) x0 x1 x2 1 h _ _ hP hD hS ls (lv_sub hl [1, 2, 3, 4, 5, 6, 7, 0] rfl)
noncomputable def fL_boxes_b5 : Nat → (Nat → Int32) → (Nat → Int32) → (Nat → Int64) → Int32 → Int32 → Option (Int32)
  | 0, _, _, _, _, _ => none
  | fuel + 1, qv, wrv, opv, y3, y4 =>
  (if (3 : Int32) < 0 ∨ 4 ≤ (3 : Int32).toNatClampNeg then none else (if (qv (3 : Int32).toNatClampNeg) ≤ y4 then (some y3) else (if (y4 / 64) < 0 ∨ 2 ≤ (y4 / 64).toNatClampNeg then none else (if (lg_cmp ((lushr (opv (y4 / 64).toNatClampNeg) (y4 - y4 / 64 * 64)) &&& 1) 1) = 0 then (if y4 < 0 ∨ 64 ≤ y4.toNatClampNeg then none else (if (fL_key (wrv y4.toNatClampNeg)) = 7 then (if y4 < 0 ∨ 64 ≤ y4.toNatClampNeg then none else fL_boxes_b5 fuel qv wrv opv (y3 ||| (1 <<< ((fL_which (wrv y4.toNatClampNeg)) &&& 31))) (y4 + 1)) else fL_boxes_b5 fuel qv wrv opv y3 (y4 + 1))) else fL_boxes_b5 fuel qv wrv opv y3 (y4 + 1)))))

noncomputable def fL_boxes (qv : Nat → Int32) (wrv : Nat → Int32) (opv : Nat → Int64) : Option (Int32) :=
  fL_boxes_b5 6000 qv wrv opv 0 0
set_option maxHeartbeats 1000000 in
set_option maxRecDepth 100000 in
theorem mL_boxes (l : Launch) (dC : Nat → ClassId) (dI : Nat → Nat → Nat) (cyI cyO cyL : ClassId) (aq aw ao : Nat) (qv : Nat → Int32) (wrv : Nat → Int32) (opv : Nat → Int64)  (sz : Nat) (res : Int32) (h : fL_boxes qv wrv opv = some res) : Met l yL_boxes (wsG yL_boxes cL_boxes 5 (some .int)) ({ frames := 1, cells := 0, slots := 0, locals := 20 }) (cP dC dI cyI cyO cyL sz [.ref aq, .ref aw, .ref ao] ((arrW cyI aq 4 qv) ++ (arrW cyI aw 64 wrv) ++ (larrW cyL ao 2 opv))) (cI dC dI res ((arrW cyI aq 4 qv) ++ (arrW cyI aw 64 wrv) ++ (larrW cyL ao 2 opv)) (va_A ((arrW cyI aq 4 qv) ++ (arrW cyI aw 64 wrv) ++ (larrW cyL ao 2 opv)) sz)) 0 0 (va_A ((arrW cyI aq 4 qv) ++ (arrW cyI aw 64 wrv) ++ (larrW cyL ao 2 opv)) sz) := by
  refine Met.ofW (cc := cL_boxes) (maxL := 5) (ret := (some .int)) (by decide) rfl ?_
  intro p e s m args below meth c s₁ B hml hv
  obtain ⟨rfl, hsz, hP, hK, hD0⟩ := hv
  have hx := B.exec
  have hb := B.bytes
  have hr := B.returns
  have hts := atoms_spec (ws := wsG yL_boxes cL_boxes 5 (some .int)) B.pre
  have hown : s.vm.findClass RL = some m.cls := findClass_of_methodNamed B.named
  have hlocks := B.notSynchronized
  subst hsz
  have hD := hD0.self (sz := s.heap.size)
  generalize hAe : va_A ((arrW cyI aq 4 qv) ++ (arrW cyI aw 64 wrv) ++ (larrW cyL ao 2 opv)) s.heap.size = A at hD ⊢
  have hA : ∀ q : Nat, s.heap.size ≤ q → A q := fun q h => by rw [← hAe]; exact Or.inr h
  have hS : va_S A s.heap s.heap [] := va_S.rf
  have kB5 : ∀ (fuel : Nat) (qv : Nat → Int32) (wrv : Nat → Int32) (opv : Nat → Int64) (y3 : Int32) (y4 : Int32), fL_boxes_b5 fuel qv wrv opv y3 y4 = some res → ∀ (H : Heap) (locs : List Loc), va_P (dC, dI) vwCl ((arrW cyI aq 4 qv) ++ (arrW cyI aw 64 wrv) ++ (larrW cyL ao 2 opv)) H → va_D A ((arrW cyI aq 4 qv) ++ (arrW cyI aw 64 wrv) ++ (larrW cyL ao 2 opv)) → va_S A s.heap H locs → ∀ ls : Array Slot, lv_has ls 5 [(0, .ref aq), (1, .ref aw), (2, .ref ao), (3, .int y3), (4, .int y4)] → W p l e (headSpec (wsG yL_boxes cL_boxes 5 (some .int)) ({ frames := 1, cells := 0, slots := 0, locals := 20 })).room s m (([.ref aq, .ref aw, .ref ao] : List Value).toArray) below meth c H locs 0 0 (MQ below (cI dC dI res ((arrW cyI aq 4 qv) ++ (arrW cyI aw 64 wrv) ++ (larrW cyL ao 2 opv)) A) ([.ref aq, .ref aw, .ref ao] : List Value).toArray s 0 0 A) (F0 m 5 ls []) := by
    intro fuel
    induction fuel with
    | zero => intro qv wrv opv y3 y4 h; rw [fL_boxes_b5] at h; cases h
    | succ fuel ih =>
      intro qv wrv opv y3 y4 h H locs hP hD hS ls hl
      rw [fL_boxes_b5] at h
      refine lv_iload hx hb dL_boxes_5 (lv_at hl 4 rfl) ?_
      refine lv_aload_n hx hb dL_boxes_7 rfl (lv_at hl 0 rfl) ?_
      refine lv_iconst (v := 3) hx hb dL_boxes_8 (by decide) ?_
      obtain ⟨ni1, h⟩ := ifn h
      refine va_iald hx hb hK.1 hP 0 0 rfl rfl ni1 dL_boxes_9 ?_
      refine lv_icmp_ge (tgt := 63) hx hb dL_boxes_10 (by decide) (fun c2 => ?_) (fun c2 => ?_)
      · have h := (if_pos c2).symm.trans h
        refine lv_iload_n hx hb dL_boxes_63 rfl (lv_at hl 3 rfl) ?_
        obtain rfl := Option.some.inj h
        exact e_i hx hb hr hlocks hP hS dL_boxes_64
      · have h := (if_neg c2).symm.trans h
        refine lv_aload_n hx hb dL_boxes_13 rfl (lv_at hl 2 rfl) ?_
        refine lv_iload hx hb dL_boxes_14 (lv_at hl 4 rfl) ?_
        refine lv_bipush (v := 64) hx hb dL_boxes_16 (by decide) ?_
        refine lv_idiv hx hb dL_boxes_18 (by decide) ?_
        obtain ⟨ni3, h⟩ := ifn h
        refine va_lald hx hb hK.1 hP 2 2 rfl rfl ni3 dL_boxes_19 ?_
        refine lv_iload hx hb dL_boxes_20 (lv_at hl 4 rfl) ?_
        refine lv_bipush (v := 64) hx hb dL_boxes_22 (by decide) ?_
        refine lv_irem hx hb dL_boxes_24 (by decide) ?_
        refine lv_lushr (v := (lushr (opv (y4 / 64).toNatClampNeg) (y4 - y4 / 64 * 64))) hx hb dL_boxes_25 rfl ?_
        refine lv_lconst (v := 1) hx hb dL_boxes_26 (by decide) ?_
        refine lv_land hx hb dL_boxes_27 ?_
        refine lv_lconst (v := 1) hx hb dL_boxes_28 (by decide) ?_
        refine W.lcmp hx hb dL_boxes_29 ?_
        refine lv_if_ne (tgt := 57) hx hb dL_boxes_30 (by decide) (fun c4 => ?_) (fun c4 => ?_)
        · have h := (if_neg c4).symm.trans h
          refine lv_iinc (v := (y4 + 1)) (lv' := [(4, .int (y4 + 1)), (0, .ref aq), (1, .ref aw), (2, .ref ao), (3, .int y3)]) hx hb dL_boxes_57 hl (k := 4) rfl rfl (by decide) rfl (fun ls hl => ?_)
          refine lv_goto (tgt := 5) hx hb dL_boxes_60 (by decide) ?_
          exact ih qv wrv opv y3 (y4 + 1) h _ _ hP hD hS ls (lv_sub hl [1, 2, 3, 4, 0] rfl)
        · have h := (if_pos c4).symm.trans h
          refine lv_aload_n hx hb dL_boxes_33 rfl (lv_at hl 1 rfl) ?_
          refine lv_iload hx hb dL_boxes_34 (lv_at hl 4 rfl) ?_
          obtain ⟨ni5, h⟩ := ifn h
          refine va_iald hx hb hK.1 hP 1 0 rfl rfl ni5 dL_boxes_36 ?_
          refine fr_ir (M := ([] : va_W)) (va_runS (As := [.int (wrv y4.toNatClampNeg)]) (rest := []) ⟨hx, hb, hml, hown, hts⟩ (mL_key l dC dI cyI cyO cyL (wrv y4.toNatClampNeg) _ (fL_key (wrv y4.toNatClampNeg)) rfl) (va_cwS 1 hts (gS ml_L_21 st_L_key in_L co_L_key) rfl rfl rfl (by decide +kernel) ⟨Nat.le_of_ble_eq_true rfl, Nat.le_of_ble_eq_true rfl⟩) (cP_S hK hP hD [] rfl rfl) rfl rfl hl.1 rfl (lv_room (Nat.le_of_ble_eq_true rfl)) dL_boxes_37 ⟨Nat.zero_le _, Nat.zero_le _⟩) hP hD hS hA [] rfl (fun H locs hP hS => ?_)
          refine lv_bipush (v := 7) hx hb dL_boxes_40 (by decide) ?_
          refine lv_icmp_ne (tgt := 57) hx hb dL_boxes_42 (by decide) (fun c6 => ?_) (fun c6 => ?_)
          · have h := (if_neg c6).symm.trans h
            refine lv_iinc (v := (y4 + 1)) (lv' := [(4, .int (y4 + 1)), (0, .ref aq), (1, .ref aw), (2, .ref ao), (3, .int y3)]) hx hb dL_boxes_57 hl (k := 4) rfl rfl (by decide) rfl (fun ls hl => ?_)
            refine lv_goto (tgt := 5) hx hb dL_boxes_60 (by decide) ?_
            exact ih qv wrv opv y3 (y4 + 1) h _ _ hP hD hS ls (lv_sub hl [1, 2, 3, 4, 0] rfl)
          · have h := (if_pos c6).symm.trans h
            refine lv_iload_n hx hb dL_boxes_45 rfl (lv_at hl 3 rfl) ?_
            refine lv_iconst (v := 1) hx hb dL_boxes_46 (by decide) ?_
            refine lv_aload_n hx hb dL_boxes_47 rfl (lv_at hl 1 rfl) ?_
            refine lv_iload hx hb dL_boxes_48 (lv_at hl 4 rfl) ?_
            obtain ⟨ni7, h⟩ := ifn h
            refine va_iald hx hb hK.1 hP 1 0 rfl rfl ni7 dL_boxes_50 ?_
            refine fr_ir (M := ([] : va_W)) (va_runS (As := [.int (wrv y4.toNatClampNeg)]) (rest := [.int 1, .int y3]) ⟨hx, hb, hml, hown, hts⟩ (mL_which l dC dI cyI cyO cyL (wrv y4.toNatClampNeg) _ (fL_which (wrv y4.toNatClampNeg)) rfl) (va_cwS 1 hts (gS ml_L_28 st_L_which in_L co_L_which) rfl rfl rfl (by decide +kernel) ⟨Nat.le_of_ble_eq_true rfl, Nat.le_of_ble_eq_true rfl⟩) (cP_S hK hP hD [] rfl rfl) rfl rfl hl.1 rfl (lv_room (Nat.le_of_ble_eq_true rfl)) dL_boxes_51 ⟨Nat.zero_le _, Nat.zero_le _⟩) hP hD hS hA [] rfl (fun H locs hP hS => ?_)
            refine lv_ishl hx hb dL_boxes_54 ?_
            refine lv_ior hx hb dL_boxes_55 ?_
            refine lv_istore_n (lv' := [(3, .int (y3 ||| (1 <<< ((fL_which (wrv y4.toNatClampNeg)) &&& 31)))), (0, .ref aq), (1, .ref aw), (2, .ref ao), (4, .int y4)]) hx hb dL_boxes_56 rfl hl (by decide) rfl (fun ls hl => ?_)
            refine lv_iinc (v := (y4 + 1)) (lv' := [(4, .int (y4 + 1)), (3, .int (y3 ||| (1 <<< ((fL_which (wrv y4.toNatClampNeg)) &&& 31)))), (0, .ref aq), (1, .ref aw), (2, .ref ao)]) hx hb dL_boxes_57 hl (k := 4) rfl rfl (by decide) rfl (fun ls hl => ?_)
            refine lv_goto (tgt := 5) hx hb dL_boxes_60 (by decide) ?_
            exact ih qv wrv opv (y3 ||| (1 <<< ((fL_which (wrv y4.toNatClampNeg)) &&& 31))) (y4 + 1) h _ _ hP hD hS ls (lv_sub hl [2, 3, 4, 1, 0] rfl)
  have hl := lv_entry ([.ref aq, .ref aw, .ref ao]) (n := 5) (Nat.le_of_ble_eq_true rfl)
  rw [lg_entry_eq]
  generalize (lg_sl ([.ref aq, .ref aw, .ref ao]) ++ List.replicate (5 - (lg_sl ([.ref aq, .ref aw, .ref ao])).length) Slot.unset).toArray = ls at hl ⊢
  have hl : lv_has ls 5 [(0, .ref aq), (1, .ref aw), (2, .ref ao)] := hl
  unfold fL_boxes at h
  refine lv_iconst (v := 0) hx hb dL_boxes_0 (by decide) ?_
  refine lv_istore_n (lv' := [(3, .int 0), (0, .ref aq), (1, .ref aw), (2, .ref ao)]) hx hb dL_boxes_1 rfl hl (by decide) rfl (fun ls hl => ?_)
  refine lv_iconst (v := 0) hx hb dL_boxes_2 (by decide) ?_
  refine lv_istore (lv' := [(4, .int 0), (3, .int 0), (0, .ref aq), (1, .ref aw), (2, .ref ao)]) hx hb dL_boxes_3 hl (by decide) rfl (fun ls hl => ?_)
  exact kB5 6000 qv wrv opv 0 0 h _ _ hP hD hS ls (lv_sub hl [2, 3, 4, 1, 0] rfl)
