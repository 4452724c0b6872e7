/-! the reference -/
noncomputable def fX8_moves_b3 (n : Nat) (n2 : Nat) : Nat → (Nat → Int32) → (Nat → Int32) → Int32 → Int32 → Int32 → Option ((Nat → Int32))
  | 0, _, _, _, _, _ => none
  | fuel + 1, cells, cells2, y1, y3, y4 =>
  (if 844 ≤ y4 then (some cells2) else (if (y1 + y4) < 0 ∨ n ≤ (y1 + y4).toNatClampNeg then none else (if (y3 + y4) < 0 ∨ n2 ≤ (y3 + y4).toNatClampNeg then none else fX8_moves_b3 n n2 fuel cells (upd cells2 (y3 + y4).toNatClampNeg (cells (y1 + y4).toNatClampNeg)) y1 y3 (y4 + 1))))

noncomputable def fX8_moves (n : Nat) (n2 : Nat) (cells : Nat → Int32) (cells2 : Nat → Int32) (x1 : Int32) (x3 : Int32) : Option ((Nat → Int32)) :=
  fX8_moves_b3 n n2 6000 cells cells2 x1 x3 0
set_option maxHeartbeats 1000000 in
set_option maxRecDepth 100000 in
theorem mX8_moves (l : Launch) (dC : Nat → ClassId) (dI : Nat → Nat → Nat) (cyI cyO : ClassId) (a0 va0 : Nat) (n : Nat) (n2 : Nat) (cells : Nat → Int32) (cells2 : Nat → Int32) (x1 : Int32) (x3 : Int32) (sz : Nat) (res : (Nat → Int32)) (h : fX8_moves n n2 cells cells2 x1 x3 = some res) : Met l yX8_moves (wsG yX8_moves cX8_moves 5 none) ({ frames := 0, cells := 0, slots := 0, locals := 0 }) (cP dC dI cyI cyO sz [.ref a0, .int x1, .ref va0, .int x3] ((arrW cyI a0 n cells) ++ (arrW cyI va0 n2 cells2))) (cV dC dI ((arrW cyI a0 n cells) ++ (arrW cyI va0 n2 res)) (va_A ((arrW cyI a0 n cells) ++ (arrW cyI va0 n2 cells2)) sz)) 0 0 (va_A ((arrW cyI a0 n cells) ++ (arrW cyI va0 n2 cells2)) sz) := by
  refine Met.ofW (cc := cX8_moves) (maxL := 5) (ret := none) (by decide) rfl ?_
  intro p e s m args below meth c s₁ B hml hv
  obtain ⟨rfl, hsz, hP, hK, hD0⟩ := hv
  have hx := B.exec
  have hb := B.bytes
  have hr := B.returns
  have hts := atoms_spec (ws := wsG yX8_moves cX8_moves 5 none) B.pre
  have hown : s.vm.findClass RX8 = some m.cls := findClass_of_methodNamed B.named
  have hlocks := B.notSynchronized
  subst hsz
  have hD := hD0.self (sz := s.heap.size)
  generalize hAe : va_A ((arrW cyI a0 n cells) ++ (arrW cyI va0 n2 cells2)) s.heap.size = A at hD ⊢
  have hA : ∀ q : Nat, s.heap.size ≤ q → A q := fun q h => by rw [← hAe]; exact Or.inr h
  have hS : va_S A s.heap s.heap [] := va_S.rf
  have kB3 : ∀ (fuel : Nat) (cells : Nat → Int32) (cells2 : Nat → Int32) (y1 : Int32) (y3 : Int32) (y4 : Int32), fX8_moves_b3 n n2 fuel cells cells2 y1 y3 y4 = some res → ∀ (H : Heap) (locs : List Loc), va_P (dC, dI) vwCl ((arrW cyI a0 n cells) ++ (arrW cyI va0 n2 cells2)) H → va_D A ((arrW cyI a0 n cells) ++ (arrW cyI va0 n2 cells2)) → va_S A s.heap H locs → ∀ ls : Array Slot, lv_has ls 5 [(0, .ref a0), (1, .int y1), (2, .ref va0), (3, .int y3), (4, .int y4)] → W p l e (headSpec (wsG yX8_moves cX8_moves 5 none) ({ frames := 0, cells := 0, slots := 0, locals := 0 })).room s m (([.ref a0, .int x1, .ref va0, .int x3] : List Value).toArray) below meth c H locs 0 0 (MQ below (cV dC dI ((arrW cyI a0 n cells) ++ (arrW cyI va0 n2 res)) A) ([.ref a0, .int x1, .ref va0, .int x3] : List Value).toArray s 0 0 A) (F0 m 3 ls []) := by
    intro fuel
    induction fuel with
    | zero => intro cells cells2 y1 y3 y4 h; rw [fX8_moves_b3] at h; cases h
    | succ fuel ih =>
      intro cells cells2 y1 y3 y4 h H locs hP hD hS ls hl
      rw [fX8_moves_b3] at h
      refine lv_iload hx hb dX8_moves_3 (lv_at hl 4 rfl) ?_
      refine lv_sipush (v := 844) hx hb dX8_moves_5 (by decide) ?_
      refine lv_icmp_ge (tgt := 29) hx hb dX8_moves_8 (by decide) (fun c1 => ?_) (fun c1 => ?_)
      · have h := (if_pos c1).symm.trans h
        obtain rfl := Option.some.inj h
        exact e_v hx hb hr hlocks hP hS dX8_moves_29
      · have h := (if_neg c1).symm.trans h
        refine lv_aload_n hx hb dX8_moves_11 rfl (lv_at hl 2 rfl) ?_
        refine lv_iload_n hx hb dX8_moves_12 rfl (lv_at hl 3 rfl) ?_
        refine lv_iload hx hb dX8_moves_13 (lv_at hl 4 rfl) ?_
        refine lv_iadd hx hb dX8_moves_15 ?_
        refine lv_aload_n hx hb dX8_moves_16 rfl (lv_at hl 0 rfl) ?_
        refine lv_iload_n hx hb dX8_moves_17 rfl (lv_at hl 1 rfl) ?_
        refine lv_iload hx hb dX8_moves_18 (lv_at hl 4 rfl) ?_
        refine lv_iadd hx hb dX8_moves_20 ?_
        obtain ⟨ni2, h⟩ := ifn h
        refine va_iald hx hb hK.1 hP 0 0 rfl rfl ni2 dX8_moves_21 ?_
        obtain ⟨ni3, h⟩ := ifn h
        refine va_iast hx hb hK.1 hP hD hS 1 0 rfl rfl ni3 dX8_moves_22 (fun H locs hP hD hS => ?_)
        have hP : va_P (dC, dI) vwCl ((arrW cyI a0 n cells) ++ (arrW cyI va0 n2 (upd cells2 (y3 + y4).toNatClampNeg (cells (y1 + y4).toNatClampNeg)))) H := hP
        have hD : va_D A ((arrW cyI a0 n cells) ++ (arrW cyI va0 n2 (upd cells2 (y3 + y4).toNatClampNeg (cells (y1 + y4).toNatClampNeg)))) := hD
        refine lv_iinc (v := (y4 + 1)) (lv' := [(4, .int (y4 + 1)), (0, .ref a0), (1, .int y1), (2, .ref va0), (3, .int y3)]) hx hb dX8_moves_23 hl (k := 4) rfl rfl (by decide) rfl (fun ls hl => ?_)
        refine lv_goto (tgt := 3) hx hb dX8_moves_26 (by decide) ?_
        exact ih cells (upd cells2 (y3 + y4).toNatClampNeg (cells (y1 + y4).toNatClampNeg)) y1 y3 (y4 + 1) h _ _ hP hD hS ls (lv_sub hl [1, 2, 3, 4, 0] rfl)
  have hl := lv_entry ([.ref a0, .int x1, .ref va0, .int x3]) (n := 5) (Nat.le_of_ble_eq_true rfl)
  rw [lg_entry_eq]
  generalize (lg_sl ([.ref a0, .int x1, .ref va0, .int x3]) ++ List.replicate (5 - (lg_sl ([.ref a0, .int x1, .ref va0, .int x3])).length) Slot.unset).toArray = ls at hl ⊢
  have hl : lv_has ls 5 [(0, .ref a0), (1, .int x1), (2, .ref va0), (3, .int x3)] := hl
  unfold fX8_moves at h
  refine lv_iconst (v := 0) hx hb dX8_moves_0 (by decide) ?_
  refine lv_istore (lv' := [(4, .int 0), (0, .ref a0), (1, .int x1), (2, .ref va0), (3, .int x3)]) hx hb dX8_moves_1 hl (by decide) rfl (fun ls hl => ?_)
  exact kB3 6000 cells cells2 x1 x3 0 h _ _ hP hD hS ls (lv_sub hl [1, 2, 3, 4, 0] rfl)

noncomputable def fX8_within (x0 : Int32) (x1 : Int32) (x2 : Int32) : Int32 :=
  (if x0 < x1 then (0) else (if x2 < x0 then (0) else (1)))
set_option maxHeartbeats 1000000 in
set_option maxRecDepth 100000 in
theorem mX8_within (l : Launch) (dC : Nat → ClassId) (dI : Nat → Nat → Nat) (cyI cyO : ClassId)   (x0 : Int32) (x1 : Int32) (x2 : Int32) (sz : Nat) (res : Int32) (h : fX8_within x0 x1 x2 = res) : Met l yX8_within (wsG yX8_within cX8_within 3 (some .boolean)) ({ frames := 0, cells := 0, slots := 0, locals := 0 }) (cP dC dI cyI cyO sz [.int x0, .int x1, .int x2] ([] : va_W)) (cI dC dI res ([] : va_W) (va_A ([] : va_W) sz)) 0 0 (va_A ([] : va_W) sz) := by
  refine Met.ofW (cc := cX8_within) (maxL := 3) (ret := (some .boolean)) (by decide) rfl ?_
  intro p e s m args below meth c s₁ B hml hv
  obtain ⟨rfl, hsz, hP, hK, hD0⟩ := hv
  have hx := B.exec
  have hb := B.bytes
  have hr := B.returns
  have hts := atoms_spec (ws := wsG yX8_within cX8_within 3 (some .boolean)) B.pre
  have hown : s.vm.findClass RX8 = some m.cls := findClass_of_methodNamed B.named
  have hlocks := B.notSynchronized
  subst hsz
  have hD := hD0.self (sz := s.heap.size)
  generalize hAe : va_A ([] : va_W) s.heap.size = A at hD ⊢
  have hA : ∀ q : Nat, s.heap.size ≤ q → A q := fun q h => by rw [← hAe]; exact Or.inr h
  have hS : va_S A s.heap s.heap [] := va_S.rf
  have hl := lv_entry ([.int x0, .int x1, .int x2]) (n := 3) (Nat.le_of_ble_eq_true rfl)
  rw [lg_entry_eq]
  generalize (lg_sl ([.int x0, .int x1, .int x2]) ++ List.replicate (3 - (lg_sl ([.int x0, .int x1, .int x2])).length) Slot.unset).toArray = ls at hl ⊢
  have hl : lv_has ls 3 [(0, .int x0), (1, .int x1), (2, .int x2)] := hl
  unfold fX8_within at h
  refine lv_iload_n hx hb dX8_within_0 rfl (lv_at hl 0 rfl) ?_
  refine lv_iload_n hx hb dX8_within_1 rfl (lv_at hl 1 rfl) ?_
  refine lv_icmp_lt (tgt := 14) hx hb dX8_within_2 (by decide) (fun c1 => ?_) (fun c1 => ?_)
  · have h := (if_pos c1).symm.trans h
    refine lv_iconst (v := 0) hx hb dX8_within_14 (by decide) ?_
    obtain rfl := h
    exact e_z (v := 0) hx hb hr hlocks rfl hP hS dX8_within_15
  · have h := (if_neg c1).symm.trans h
    refine lv_iload_n hx hb dX8_within_5 rfl (lv_at hl 0 rfl) ?_
    refine lv_iload_n hx hb dX8_within_6 rfl (lv_at hl 2 rfl) ?_
    refine lv_icmp_gt (tgt := 14) hx hb dX8_within_7 (by decide) (fun c2 => ?_) (fun c2 => ?_)
    · have h := (if_pos c2).symm.trans h
      refine lv_iconst (v := 0) hx hb dX8_within_14 (by decide) ?_
      obtain rfl := h
      exact e_z (v := 0) hx hb hr hlocks rfl hP hS dX8_within_15
    · have h := (if_neg c2).symm.trans h
      refine lv_iconst (v := 1) hx hb dX8_within_10 (by decide) ?_
      refine lv_goto (tgt := 15) hx hb dX8_within_11 (by decide) ?_
      obtain rfl := h
      exact e_z (v := 1) hx hb hr hlocks rfl hP hS dX8_within_15
theorem nb_X8_within  (x0 : Int32) (x1 : Int32) (x2 : Int32) : narrow .boolean (.int (fX8_within x0 x1 x2)) = .int (fX8_within x0 x1 x2) := by
  unfold fX8_within
  repeat (first | rfl | split)
noncomputable def fX8_record_b11 : Nat → (Nat → Int32) → (Nat → Int32) → Int32 → Int32 → Option ((Nat → Int32) × Int32)
  | 0, _, _, _, _ => none
  | fuel + 1, state, history, recorded, y1 =>
  (if 4220 ≤ y1 then ((fX8_moves 844 5064 state history 0 ((recorded - 1) * 844)).bind fun q2 => (some (q2, ((recorded - 1) + 1)))) else (if (y1 + 844) < 0 ∨ 5064 ≤ (y1 + 844).toNatClampNeg then none else (if y1 < 0 ∨ 5064 ≤ y1.toNatClampNeg then none else fX8_record_b11 fuel state (upd history y1.toNatClampNeg (history (y1 + 844).toNatClampNeg)) recorded (y1 + 1))))

noncomputable def fX8_record (state : Nat → Int32) (history : Nat → Int32) (recorded : Int32) : Option ((Nat → Int32) × Int32) :=
  (if recorded = 6 then fX8_record_b11 6000 state history recorded 0 else ((fX8_moves 844 5064 state history 0 (recorded * 844)).bind fun q7 => (some (q7, (recorded + 1)))))
set_option maxHeartbeats 1000000 in
set_option maxRecDepth 100000 in
theorem mX8_record (l : Launch) (dC : Nat → ClassId) (dI : Nat → Nat → Nat) (cyI cyO : ClassId) (m0 m1 m2 m3 m4 m5 m6 : Nat) (state : Nat → Int32) (history : Nat → Int32) (recorded : Int32) (slots : Nat → Int32) (isSaved : Nat → Int32) (pad : Nat → Int32) (padLength : Int32) (opened : Nat → Int32) (pos : Int32) (letter : Int32) (first : Int32) (second : Int32)  (sz : Nat) (res : (Nat → Int32) × Int32) (h : fX8_record state history recorded = some res) : Met l yX8_record (wsG yX8_record cX8_record 2 none) ({ frames := 1, cells := 0, slots := 0, locals := 24 }) (cP dC dI cyI cyO sz [.ref m0] (modelW cyI m0 m1 m2 m3 m4 m5 m6 state history recorded slots isSaved pad padLength opened pos letter first second)) (cV dC dI (modelW cyI m0 m1 m2 m3 m4 m5 m6 state res.1 res.2 slots isSaved pad padLength opened pos letter first second) (va_A (modelW cyI m0 m1 m2 m3 m4 m5 m6 state history recorded slots isSaved pad padLength opened pos letter first second) sz)) 0 0 (va_A (modelW cyI m0 m1 m2 m3 m4 m5 m6 state history recorded slots isSaved pad padLength opened pos letter first second) sz) := by
  refine Met.ofW (cc := cX8_record) (maxL := 2) (ret := none) (by decide) rfl ?_
  intro p e s m args below meth c s₁ B hml hv
  obtain ⟨rfl, hsz, hP, hK, hD0⟩ := hv
  have hx := B.exec
  have hb := B.bytes
  have hr := B.returns
  have hts := atoms_spec (ws := wsG yX8_record cX8_record 2 none) B.pre
  have hown : s.vm.findClass RX8 = some m.cls := findClass_of_methodNamed B.named
  have hlocks := B.notSynchronized
  subst hsz
  have hD := hD0.self (sz := s.heap.size)
  generalize hAe : va_A (modelW cyI m0 m1 m2 m3 m4 m5 m6 state history recorded slots isSaved pad padLength opened pos letter first second) s.heap.size = A at hD ⊢
  have hA : ∀ q : Nat, s.heap.size ≤ q → A q := fun q h => by rw [← hAe]; exact Or.inr h
  have hS : va_S A s.heap s.heap [] := va_S.rf
  have kB11 : ∀ (fuel : Nat) (state : Nat → Int32) (history : Nat → Int32) (recorded : Int32) (y1 : Int32), fX8_record_b11 fuel state history recorded y1 = some res → ∀ (H : Heap) (locs : List Loc), va_P (dC, dI) vwCl (modelW cyI m0 m1 m2 m3 m4 m5 m6 state history recorded slots isSaved pad padLength opened pos letter first second) H → va_D A (modelW cyI m0 m1 m2 m3 m4 m5 m6 state history recorded slots isSaved pad padLength opened pos letter first second) → va_S A s.heap H locs → ∀ ls : Array Slot, lv_has ls 2 [(0, .ref m0), (1, .int y1)] → W p l e (headSpec (wsG yX8_record cX8_record 2 none) ({ frames := 1, cells := 0, slots := 0, locals := 24 })).room s m (([.ref m0] : List Value).toArray) below meth c H locs 0 0 (MQ below (cV dC dI (modelW cyI m0 m1 m2 m3 m4 m5 m6 state res.1 res.2 slots isSaved pad padLength opened pos letter first second) A) ([.ref m0] : List Value).toArray s 0 0 A) (F0 m 11 ls []) := by
    intro fuel
    induction fuel with
    | zero => intro state history recorded y1 h; rw [fX8_record_b11] at h; cases h
    | succ fuel ih =>
      intro state history recorded y1 h H locs hP hD hS ls hl
      rw [fX8_record_b11] at h
      refine lv_iload_n hx hb dX8_record_11 rfl (lv_at hl 1 rfl) ?_
      refine lv_sipush (v := 4220) hx hb dX8_record_12 (by decide) ?_
      refine lv_icmp_ge (tgt := 40) hx hb dX8_record_15 (by decide) (fun c1 => ?_) (fun c1 => ?_)
      · have h := (if_pos c1).symm.trans h
        refine lv_aload_n hx hb dX8_record_40 rfl (lv_at hl 0 rfl) ?_
        refine lv_dup hx hb dX8_record_41 rfl ?_
        refine va_get (D := (dC, dI)) (ci := 8) (v := .int recorded) (C := RX8) (T := TX8) (N := 12) hx hb hts (fun w h9 => gb_mem (lay_X8 w h9)) hown hK.1 hP 0 rfl rfl 2 (by decide) (hts _ (gb_mem fl_X8_28)) (fun _ h9 => h9) rfl dX8_record_42 ?_
        refine lv_iconst (v := 1) hx hb dX8_record_45 (by decide) ?_
        refine lv_isub hx hb dX8_record_46 ?_
        refine va_put (D := (dC, dI)) (ci := 8) (v := .int (recorded - 1)) (ty := .int) (C := RX8) (T := TX8) (N := 12) hx hb hts (fun w h9 => gb_mem (lay_X8 w h9)) tyX8 tyX8_ok nmX8 hown hK.1 hP hD hS 0 rfl rfl 2 (by decide) (hts _ (gb_mem fl_X8_28)) (fun _ h9 => h9) rfl (by decide +kernel) rfl rfl (Nat.le_of_ble_eq_true rfl) dX8_record_47 (fun H locs hP hD hS => ?_)
        have hP : va_P (dC, dI) vwCl (modelW cyI m0 m1 m2 m3 m4 m5 m6 state history (recorded - 1) slots isSaved pad padLength opened pos letter first second) H := hP
        have hD : va_D A (modelW cyI m0 m1 m2 m3 m4 m5 m6 state history (recorded - 1) slots isSaved pad padLength opened pos letter first second) := hD
        refine lv_aload_n hx hb dX8_record_50 rfl (lv_at hl 0 rfl) ?_
        refine va_get (D := (dC, dI)) (ci := 8) (v := .ref m1) (C := RX8) (T := TX8) (N := 12) hx hb hts (fun w h9 => gb_mem (lay_X8 w h9)) hown hK.1 hP 0 rfl rfl 0 (by decide) (hts _ (gb_mem fl_X8_7)) (fun _ h9 => h9) rfl dX8_record_51 ?_
        refine lv_iconst (v := 0) hx hb dX8_record_54 (by decide) ?_
        refine lv_aload_n hx hb dX8_record_55 rfl (lv_at hl 0 rfl) ?_
        refine va_get (D := (dC, dI)) (ci := 8) (v := .ref m2) (C := RX8) (T := TX8) (N := 12) hx hb hts (fun w h9 => gb_mem (lay_X8 w h9)) hown hK.1 hP 0 rfl rfl 1 (by decide) (hts _ (gb_mem fl_X8_13)) (fun _ h9 => h9) rfl dX8_record_56 ?_
        refine lv_aload_n hx hb dX8_record_59 rfl (lv_at hl 0 rfl) ?_
        refine va_get (D := (dC, dI)) (ci := 8) (v := .int (recorded - 1)) (C := RX8) (T := TX8) (N := 12) hx hb hts (fun w h9 => gb_mem (lay_X8 w h9)) hown hK.1 hP 0 rfl rfl 2 (by decide) (hts _ (gb_mem fl_X8_28)) (fun _ h9 => h9) rfl dX8_record_60 ?_
        refine lv_sipush (v := 844) hx hb dX8_record_63 (by decide) ?_
        refine lv_imul hx hb dX8_record_66 ?_
        obtain ⟨q2, e3, h⟩ := ob h
        refine fr_v (M := ((arrW cyI m1 844 state) ++ (arrW cyI m2 5064 history))) (M' := ((arrW cyI m1 844 state) ++ (arrW cyI m2 5064 q2))) (L' := (modelW cyI m0 m1 m2 m3 m4 m5 m6 state q2 (recorded - 1) slots isSaved pad padLength opened pos letter first second)) (va_runS (As := [.ref m1, .int 0, .ref m2, .int ((recorded - 1) * 844)]) (rest := []) ⟨hx, hb, hml, hown, hts⟩ (mX8_moves l dC dI cyI cyO m1 m2 844 5064 state history 0 ((recorded - 1) * 844) _ q2 e3) (va_cwS 4 hts (gS ml_X8_32 st_X8_moves in_X8 co_X8_moves) rfl rfl rfl (by decide +kernel) ⟨Nat.le_of_ble_eq_true rfl, Nat.le_of_ble_eq_true rfl⟩) (cP_S hK hP hD [1, 2] rfl rfl) rfl rfl hl.1 rfl (lv_room (Nat.le_of_ble_eq_true rfl)) dX8_record_67 ⟨Nat.zero_le _, Nat.zero_le _⟩) hP hD hS hA [1, 2] rfl [(false, 0), (true, 0), (true, 1), (false, 3), (false, 4), (false, 5), (false, 6)] rfl rfl rfl (fun H locs hP hD hS => ?_)
        refine lv_aload_n hx hb dX8_record_70 rfl (lv_at hl 0 rfl) ?_
        refine lv_dup hx hb dX8_record_71 rfl ?_
        refine va_get (D := (dC, dI)) (ci := 8) (v := .int (recorded - 1)) (C := RX8) (T := TX8) (N := 12) hx hb hts (fun w h9 => gb_mem (lay_X8 w h9)) hown hK.1 hP 0 rfl rfl 2 (by decide) (hts _ (gb_mem fl_X8_28)) (fun _ h9 => h9) rfl dX8_record_72 ?_
        refine lv_iconst (v := 1) hx hb dX8_record_75 (by decide) ?_
        refine lv_iadd hx hb dX8_record_76 ?_
        refine va_put (D := (dC, dI)) (ci := 8) (v := .int ((recorded - 1) + 1)) (ty := .int) (C := RX8) (T := TX8) (N := 12) hx hb hts (fun w h9 => gb_mem (lay_X8 w h9)) tyX8 tyX8_ok nmX8 hown hK.1 hP hD hS 0 rfl rfl 2 (by decide) (hts _ (gb_mem fl_X8_28)) (fun _ h9 => h9) rfl (by decide +kernel) rfl rfl (Nat.le_of_ble_eq_true rfl) dX8_record_77 (fun H locs hP hD hS => ?_)
        have hP : va_P (dC, dI) vwCl (modelW cyI m0 m1 m2 m3 m4 m5 m6 state q2 ((recorded - 1) + 1) slots isSaved pad padLength opened pos letter first second) H := hP
        have hD : va_D A (modelW cyI m0 m1 m2 m3 m4 m5 m6 state q2 ((recorded - 1) + 1) slots isSaved pad padLength opened pos letter first second) := hD
        obtain rfl := Option.some.inj h
        exact e_v hx hb hr hlocks hP hS dX8_record_80
      · have h := (if_neg c1).symm.trans h
        refine lv_aload_n hx hb dX8_record_18 rfl (lv_at hl 0 rfl) ?_
        refine va_get (D := (dC, dI)) (ci := 8) (v := .ref m2) (C := RX8) (T := TX8) (N := 12) hx hb hts (fun w h9 => gb_mem (lay_X8 w h9)) hown hK.1 hP 0 rfl rfl 1 (by decide) (hts _ (gb_mem fl_X8_13)) (fun _ h9 => h9) rfl dX8_record_19 ?_
        refine lv_iload_n hx hb dX8_record_22 rfl (lv_at hl 1 rfl) ?_
        refine lv_aload_n hx hb dX8_record_23 rfl (lv_at hl 0 rfl) ?_
        refine va_get (D := (dC, dI)) (ci := 8) (v := .ref m2) (C := RX8) (T := TX8) (N := 12) hx hb hts (fun w h9 => gb_mem (lay_X8 w h9)) hown hK.1 hP 0 rfl rfl 1 (by decide) (hts _ (gb_mem fl_X8_13)) (fun _ h9 => h9) rfl dX8_record_24 ?_
        refine lv_iload_n hx hb dX8_record_27 rfl (lv_at hl 1 rfl) ?_
        refine lv_sipush (v := 844) hx hb dX8_record_28 (by decide) ?_
        refine lv_iadd hx hb dX8_record_31 ?_
        obtain ⟨ni4, h⟩ := ifn h
        refine va_iald hx hb hK.1 hP 2 0 rfl rfl ni4 dX8_record_32 ?_
        obtain ⟨ni5, h⟩ := ifn h
        refine va_iast hx hb hK.1 hP hD hS 2 0 rfl rfl ni5 dX8_record_33 (fun H locs hP hD hS => ?_)
        have hP : va_P (dC, dI) vwCl (modelW cyI m0 m1 m2 m3 m4 m5 m6 state (upd history y1.toNatClampNeg (history (y1 + 844).toNatClampNeg)) recorded slots isSaved pad padLength opened pos letter first second) H := hP
        have hD : va_D A (modelW cyI m0 m1 m2 m3 m4 m5 m6 state (upd history y1.toNatClampNeg (history (y1 + 844).toNatClampNeg)) recorded slots isSaved pad padLength opened pos letter first second) := hD
        refine lv_iinc (v := (y1 + 1)) (lv' := [(1, .int (y1 + 1)), (0, .ref m0)]) hx hb dX8_record_34 hl (k := 1) rfl rfl (by decide) rfl (fun ls hl => ?_)
        refine lv_goto (tgt := 11) hx hb dX8_record_37 (by decide) ?_
        exact ih state (upd history y1.toNatClampNeg (history (y1 + 844).toNatClampNeg)) recorded (y1 + 1) h _ _ hP hD hS ls (lv_sub hl [1, 0] rfl)
  have hl := lv_entry ([.ref m0]) (n := 2) (Nat.le_of_ble_eq_true rfl)
  rw [lg_entry_eq]
  generalize (lg_sl ([.ref m0]) ++ List.replicate (2 - (lg_sl ([.ref m0])).length) Slot.unset).toArray = ls at hl ⊢
  have hl : lv_has ls 2 [(0, .ref m0)] := hl
  unfold fX8_record at h
  refine lv_aload_n hx hb dX8_record_0 rfl (lv_at hl 0 rfl) ?_
  refine va_get (D := (dC, dI)) (ci := 8) (v := .int recorded) (C := RX8) (T := TX8) (N := 12) hx hb hts (fun w h9 => gb_mem (lay_X8 w h9)) hown hK.1 hP 0 rfl rfl 2 (by decide) (hts _ (gb_mem fl_X8_28)) (fun _ h9 => h9) rfl dX8_record_1 ?_
  refine lv_bipush (v := 6) hx hb dX8_record_4 (by decide) ?_
  refine lv_icmp_ne (tgt := 50) hx hb dX8_record_6 (by decide) (fun c6 => ?_) (fun c6 => ?_)
  · have h := (if_neg c6).symm.trans h
    refine lv_aload_n hx hb dX8_record_50 rfl (lv_at hl 0 rfl) ?_
    refine va_get (D := (dC, dI)) (ci := 8) (v := .ref m1) (C := RX8) (T := TX8) (N := 12) hx hb hts (fun w h9 => gb_mem (lay_X8 w h9)) hown hK.1 hP 0 rfl rfl 0 (by decide) (hts _ (gb_mem fl_X8_7)) (fun _ h9 => h9) rfl dX8_record_51 ?_
    refine lv_iconst (v := 0) hx hb dX8_record_54 (by decide) ?_
    refine lv_aload_n hx hb dX8_record_55 rfl (lv_at hl 0 rfl) ?_
    refine va_get (D := (dC, dI)) (ci := 8) (v := .ref m2) (C := RX8) (T := TX8) (N := 12) hx hb hts (fun w h9 => gb_mem (lay_X8 w h9)) hown hK.1 hP 0 rfl rfl 1 (by decide) (hts _ (gb_mem fl_X8_13)) (fun _ h9 => h9) rfl dX8_record_56 ?_
    refine lv_aload_n hx hb dX8_record_59 rfl (lv_at hl 0 rfl) ?_
    refine va_get (D := (dC, dI)) (ci := 8) (v := .int recorded) (C := RX8) (T := TX8) (N := 12) hx hb hts (fun w h9 => gb_mem (lay_X8 w h9)) hown hK.1 hP 0 rfl rfl 2 (by decide) (hts _ (gb_mem fl_X8_28)) (fun _ h9 => h9) rfl dX8_record_60 ?_
    refine lv_sipush (v := 844) hx hb dX8_record_63 (by decide) ?_
    refine lv_imul hx hb dX8_record_66 ?_
    obtain ⟨q7, e8, h⟩ := ob h
    refine fr_v (M := ((arrW cyI m1 844 state) ++ (arrW cyI m2 5064 history))) (M' := ((arrW cyI m1 844 state) ++ (arrW cyI m2 5064 q7))) (L' := (modelW cyI m0 m1 m2 m3 m4 m5 m6 state q7 recorded slots isSaved pad padLength opened pos letter first second)) (va_runS (As := [.ref m1, .int 0, .ref m2, .int (recorded * 844)]) (rest := []) ⟨hx, hb, hml, hown, hts⟩ (mX8_moves l dC dI cyI cyO m1 m2 844 5064 state history 0 (recorded * 844) _ q7 e8) (va_cwS 4 hts (gS ml_X8_32 st_X8_moves in_X8 co_X8_moves) rfl rfl rfl (by decide +kernel) ⟨Nat.le_of_ble_eq_true rfl, Nat.le_of_ble_eq_true rfl⟩) (cP_S hK hP hD [1, 2] rfl rfl) rfl rfl hl.1 rfl (lv_room (Nat.le_of_ble_eq_true rfl)) dX8_record_67 ⟨Nat.zero_le _, Nat.zero_le _⟩) hP hD hS hA [1, 2] rfl [(false, 0), (true, 0), (true, 1), (false, 3), (false, 4), (false, 5), (false, 6)] rfl rfl rfl (fun H locs hP hD hS => ?_)
    refine lv_aload_n hx hb dX8_record_70 rfl (lv_at hl 0 rfl) ?_
    refine lv_dup hx hb dX8_record_71 rfl ?_
    refine va_get (D := (dC, dI)) (ci := 8) (v := .int recorded) (C := RX8) (T := TX8) (N := 12) hx hb hts (fun w h9 => gb_mem (lay_X8 w h9)) hown hK.1 hP 0 rfl rfl 2 (by decide) (hts _ (gb_mem fl_X8_28)) (fun _ h9 => h9) rfl dX8_record_72 ?_
    refine lv_iconst (v := 1) hx hb dX8_record_75 (by decide) ?_
    refine lv_iadd hx hb dX8_record_76 ?_
    refine va_put (D := (dC, dI)) (ci := 8) (v := .int (recorded + 1)) (ty := .int) (C := RX8) (T := TX8) (N := 12) hx hb hts (fun w h9 => gb_mem (lay_X8 w h9)) tyX8 tyX8_ok nmX8 hown hK.1 hP hD hS 0 rfl rfl 2 (by decide) (hts _ (gb_mem fl_X8_28)) (fun _ h9 => h9) rfl (by decide +kernel) rfl rfl (Nat.le_of_ble_eq_true rfl) dX8_record_77 (fun H locs hP hD hS => ?_)
    have hP : va_P (dC, dI) vwCl (modelW cyI m0 m1 m2 m3 m4 m5 m6 state q7 (recorded + 1) slots isSaved pad padLength opened pos letter first second) H := hP
    have hD : va_D A (modelW cyI m0 m1 m2 m3 m4 m5 m6 state q7 (recorded + 1) slots isSaved pad padLength opened pos letter first second) := hD
    obtain rfl := Option.some.inj h
    exact e_v hx hb hr hlocks hP hS dX8_record_80
  · have h := (if_pos c6).symm.trans h
    refine lv_iconst (v := 0) hx hb dX8_record_9 (by decide) ?_
    refine lv_istore_n (lv' := [(1, .int 0), (0, .ref m0)]) hx hb dX8_record_10 rfl hl (by decide) rfl (fun ls hl => ?_)
    exact kB11 6000 state history recorded 0 h _ _ hP hD hS ls (lv_sub hl [1, 0] rfl)

noncomputable def fX8_keyPart (state : Nat → Int32) (x1 : Int32) (x2 : Int32) : Option (Int32) :=
  (if ((4 + (4 * x1)) + x2) < 0 ∨ 844 ≤ ((4 + (4 * x1)) + x2).toNatClampNeg then none else (some (state ((4 + (4 * x1)) + x2).toNatClampNeg)))
set_option maxHeartbeats 1000000 in
set_option maxRecDepth 100000 in
theorem mX8_keyPart (l : Launch) (dC : Nat → ClassId) (dI : Nat → Nat → Nat) (cyI cyO : ClassId) (m0 m1 m2 m3 m4 m5 m6 : Nat) (state : Nat → Int32) (history : Nat → Int32) (recorded : Int32) (slots : Nat → Int32) (isSaved : Nat → Int32) (pad : Nat → Int32) (padLength : Int32) (opened : Nat → Int32) (pos : Int32) (letter : Int32) (first : Int32) (second : Int32) (x1 : Int32) (x2 : Int32) (sz : Nat) (res : Int32) (h : fX8_keyPart state x1 x2 = some res) : Met l yX8_keyPart (wsG yX8_keyPart cX8_keyPart 3 (some .int)) ({ frames := 0, cells := 0, slots := 0, locals := 0 }) (cP dC dI cyI cyO sz [.ref m0, .int x1, .int x2] (modelW cyI m0 m1 m2 m3 m4 m5 m6 state history recorded slots isSaved pad padLength opened pos letter first second)) (cI dC dI res (modelW cyI m0 m1 m2 m3 m4 m5 m6 state history recorded slots isSaved pad padLength opened pos letter first second) (va_A (modelW cyI m0 m1 m2 m3 m4 m5 m6 state history recorded slots isSaved pad padLength opened pos letter first second) sz)) 0 0 (va_A (modelW cyI m0 m1 m2 m3 m4 m5 m6 state history recorded slots isSaved pad padLength opened pos letter first second) sz) := by
  refine Met.ofW (cc := cX8_keyPart) (maxL := 3) (ret := (some .int)) (by decide) rfl ?_
  intro p e s m args below meth c s₁ B hml hv
  obtain ⟨rfl, hsz, hP, hK, hD0⟩ := hv
  have hx := B.exec
  have hb := B.bytes
  have hr := B.returns
  have hts := atoms_spec (ws := wsG yX8_keyPart cX8_keyPart 3 (some .int)) B.pre
  have hown : s.vm.findClass RX8 = some m.cls := findClass_of_methodNamed B.named
  have hlocks := B.notSynchronized
  subst hsz
  have hD := hD0.self (sz := s.heap.size)
  generalize hAe : va_A (modelW cyI m0 m1 m2 m3 m4 m5 m6 state history recorded slots isSaved pad padLength opened pos letter first second) s.heap.size = A at hD ⊢
  have hA : ∀ q : Nat, s.heap.size ≤ q → A q := fun q h => by rw [← hAe]; exact Or.inr h
  have hS : va_S A s.heap s.heap [] := va_S.rf
  have hl := lv_entry ([.ref m0, .int x1, .int x2]) (n := 3) (Nat.le_of_ble_eq_true rfl)
  rw [lg_entry_eq]
  generalize (lg_sl ([.ref m0, .int x1, .int x2]) ++ List.replicate (3 - (lg_sl ([.ref m0, .int x1, .int x2])).length) Slot.unset).toArray = ls at hl ⊢
  have hl : lv_has ls 3 [(0, .ref m0), (1, .int x1), (2, .int x2)] := hl
  unfold fX8_keyPart at h
  refine lv_aload_n hx hb dX8_keyPart_0 rfl (lv_at hl 0 rfl) ?_
  refine va_get (D := (dC, dI)) (ci := 8) (v := .ref m1) (C := RX8) (T := TX8) (N := 12) hx hb hts (fun w h9 => gb_mem (lay_X8 w h9)) hown hK.1 hP 0 rfl rfl 0 (by decide) (hts _ (gb_mem fl_X8_7)) (fun _ h9 => h9) rfl dX8_keyPart_1 ?_
  refine lv_iconst (v := 4) hx hb dX8_keyPart_4 (by decide) ?_
  refine lv_iconst (v := 4) hx hb dX8_keyPart_5 (by decide) ?_
  refine lv_iload_n hx hb dX8_keyPart_6 rfl (lv_at hl 1 rfl) ?_
  refine lv_imul hx hb dX8_keyPart_7 ?_
  refine lv_iadd hx hb dX8_keyPart_8 ?_
  refine lv_iload_n hx hb dX8_keyPart_9 rfl (lv_at hl 2 rfl) ?_
  refine lv_iadd hx hb dX8_keyPart_10 ?_
  obtain ⟨ni1, h⟩ := ifn h
  refine va_iald hx hb hK.1 hP 1 0 rfl rfl ni1 dX8_keyPart_11 ?_
  obtain rfl := Option.some.inj h
  exact e_i hx hb hr hlocks hP hS dX8_keyPart_12

noncomputable def fX8_setKey (state : Nat → Int32) (x1 : Int32) (x2 : Int32) (x3 : Int32) : Option ((Nat → Int32)) :=
  (if ((4 + (4 * x1)) + x2) < 0 ∨ 844 ≤ ((4 + (4 * x1)) + x2).toNatClampNeg then none else (some (upd state ((4 + (4 * x1)) + x2).toNatClampNeg x3)))
set_option maxHeartbeats 1000000 in
set_option maxRecDepth 100000 in
theorem mX8_setKey (l : Launch) (dC : Nat → ClassId) (dI : Nat → Nat → Nat) (cyI cyO : ClassId) (m0 m1 m2 m3 m4 m5 m6 : Nat) (state : Nat → Int32) (history : Nat → Int32) (recorded : Int32) (slots : Nat → Int32) (isSaved : Nat → Int32) (pad : Nat → Int32) (padLength : Int32) (opened : Nat → Int32) (pos : Int32) (letter : Int32) (first : Int32) (second : Int32) (x1 : Int32) (x2 : Int32) (x3 : Int32) (sz : Nat) (res : (Nat → Int32)) (h : fX8_setKey state x1 x2 x3 = some res) : Met l yX8_setKey (wsG yX8_setKey cX8_setKey 4 none) ({ frames := 0, cells := 0, slots := 0, locals := 0 }) (cP dC dI cyI cyO sz [.ref m0, .int x1, .int x2, .int x3] (modelW cyI m0 m1 m2 m3 m4 m5 m6 state history recorded slots isSaved pad padLength opened pos letter first second)) (cV dC dI (modelW cyI m0 m1 m2 m3 m4 m5 m6 res history recorded slots isSaved pad padLength opened pos letter first second) (va_A (modelW cyI m0 m1 m2 m3 m4 m5 m6 state history recorded slots isSaved pad padLength opened pos letter first second) sz)) 0 0 (va_A (modelW cyI m0 m1 m2 m3 m4 m5 m6 state history recorded slots isSaved pad padLength opened pos letter first second) sz) := by
  refine Met.ofW (cc := cX8_setKey) (maxL := 4) (ret := none) (by decide) rfl ?_
  intro p e s m args below meth c s₁ B hml hv
  obtain ⟨rfl, hsz, hP, hK, hD0⟩ := hv
  have hx := B.exec
  have hb := B.bytes
  have hr := B.returns
  have hts := atoms_spec (ws := wsG yX8_setKey cX8_setKey 4 none) B.pre
  have hown : s.vm.findClass RX8 = some m.cls := findClass_of_methodNamed B.named
  have hlocks := B.notSynchronized
  subst hsz
  have hD := hD0.self (sz := s.heap.size)
  generalize hAe : va_A (modelW cyI m0 m1 m2 m3 m4 m5 m6 state history recorded slots isSaved pad padLength opened pos letter first second) s.heap.size = A at hD ⊢
  have hA : ∀ q : Nat, s.heap.size ≤ q → A q := fun q h => by rw [← hAe]; exact Or.inr h
  have hS : va_S A s.heap s.heap [] := va_S.rf
  have hl := lv_entry ([.ref m0, .int x1, .int x2, .int x3]) (n := 4) (Nat.le_of_ble_eq_true rfl)
  rw [lg_entry_eq]
  generalize (lg_sl ([.ref m0, .int x1, .int x2, .int x3]) ++ List.replicate (4 - (lg_sl ([.ref m0, .int x1, .int x2, .int x3])).length) Slot.unset).toArray = ls at hl ⊢
  have hl : lv_has ls 4 [(0, .ref m0), (1, .int x1), (2, .int x2), (3, .int x3)] := hl
  unfold fX8_setKey at h
  refine lv_aload_n hx hb dX8_setKey_0 rfl (lv_at hl 0 rfl) ?_
  refine va_get (D := (dC, dI)) (ci := 8) (v := .ref m1) (C := RX8) (T := TX8) (N := 12) hx hb hts (fun w h9 => gb_mem (lay_X8 w h9)) hown hK.1 hP 0 rfl rfl 0 (by decide) (hts _ (gb_mem fl_X8_7)) (fun _ h9 => h9) rfl dX8_setKey_1 ?_
  refine lv_iconst (v := 4) hx hb dX8_setKey_4 (by decide) ?_
  refine lv_iconst (v := 4) hx hb dX8_setKey_5 (by decide) ?_
  refine lv_iload_n hx hb dX8_setKey_6 rfl (lv_at hl 1 rfl) ?_
  refine lv_imul hx hb dX8_setKey_7 ?_
  refine lv_iadd hx hb dX8_setKey_8 ?_
  refine lv_iload_n hx hb dX8_setKey_9 rfl (lv_at hl 2 rfl) ?_
  refine lv_iadd hx hb dX8_setKey_10 ?_
  refine lv_iload_n hx hb dX8_setKey_11 rfl (lv_at hl 3 rfl) ?_
  obtain ⟨ni1, h⟩ := ifn h
  refine va_iast hx hb hK.1 hP hD hS 1 0 rfl rfl ni1 dX8_setKey_12 (fun H locs hP hD hS => ?_)
  have hP : va_P (dC, dI) vwCl (modelW cyI m0 m1 m2 m3 m4 m5 m6 (upd state ((4 + (4 * x1)) + x2).toNatClampNeg x3) history recorded slots isSaved pad padLength opened pos letter first second) H := hP
  have hD : va_D A (modelW cyI m0 m1 m2 m3 m4 m5 m6 (upd state ((4 + (4 * x1)) + x2).toNatClampNeg x3) history recorded slots isSaved pad padLength opened pos letter first second) := hD
  obtain rfl := Option.some.inj h
  exact e_v hx hb hr hlocks hP hS dX8_setKey_13

noncomputable def fX8_boxPart (state : Nat → Int32) (x1 : Int32) (x2 : Int32) : Option (Int32) :=
  (if ((84 + (2 * x1)) + x2) < 0 ∨ 844 ≤ ((84 + (2 * x1)) + x2).toNatClampNeg then none else (some (state ((84 + (2 * x1)) + x2).toNatClampNeg)))
set_option maxHeartbeats 1000000 in
set_option maxRecDepth 100000 in
theorem mX8_boxPart (l : Launch) (dC : Nat → ClassId) (dI : Nat → Nat → Nat) (cyI cyO : ClassId) (m0 m1 m2 m3 m4 m5 m6 : Nat) (state : Nat → Int32) (history : Nat → Int32) (recorded : Int32) (slots : Nat → Int32) (isSaved : Nat → Int32) (pad : Nat → Int32) (padLength : Int32) (opened : Nat → Int32) (pos : Int32) (letter : Int32) (first : Int32) (second : Int32) (x1 : Int32) (x2 : Int32) (sz : Nat) (res : Int32) (h : fX8_boxPart state x1 x2 = some res) : Met l yX8_boxPart (wsG yX8_boxPart cX8_boxPart 3 (some .int)) ({ frames := 0, cells := 0, slots := 0, locals := 0 }) (cP dC dI cyI cyO sz [.ref m0, .int x1, .int x2] (modelW cyI m0 m1 m2 m3 m4 m5 m6 state history recorded slots isSaved pad padLength opened pos letter first second)) (cI dC dI res (modelW cyI m0 m1 m2 m3 m4 m5 m6 state history recorded slots isSaved pad padLength opened pos letter first second) (va_A (modelW cyI m0 m1 m2 m3 m4 m5 m6 state history recorded slots isSaved pad padLength opened pos letter first second) sz)) 0 0 (va_A (modelW cyI m0 m1 m2 m3 m4 m5 m6 state history recorded slots isSaved pad padLength opened pos letter first second) sz) := by
  refine Met.ofW (cc := cX8_boxPart) (maxL := 3) (ret := (some .int)) (by decide) rfl ?_
  intro p e s m args below meth c s₁ B hml hv
  obtain ⟨rfl, hsz, hP, hK, hD0⟩ := hv
  have hx := B.exec
  have hb := B.bytes
  have hr := B.returns
  have hts := atoms_spec (ws := wsG yX8_boxPart cX8_boxPart 3 (some .int)) B.pre
  have hown : s.vm.findClass RX8 = some m.cls := findClass_of_methodNamed B.named
  have hlocks := B.notSynchronized
  subst hsz
  have hD := hD0.self (sz := s.heap.size)
  generalize hAe : va_A (modelW cyI m0 m1 m2 m3 m4 m5 m6 state history recorded slots isSaved pad padLength opened pos letter first second) s.heap.size = A at hD ⊢
  have hA : ∀ q : Nat, s.heap.size ≤ q → A q := fun q h => by rw [← hAe]; exact Or.inr h
  have hS : va_S A s.heap s.heap [] := va_S.rf
  have hl := lv_entry ([.ref m0, .int x1, .int x2]) (n := 3) (Nat.le_of_ble_eq_true rfl)
  rw [lg_entry_eq]
  generalize (lg_sl ([.ref m0, .int x1, .int x2]) ++ List.replicate (3 - (lg_sl ([.ref m0, .int x1, .int x2])).length) Slot.unset).toArray = ls at hl ⊢
  have hl : lv_has ls 3 [(0, .ref m0), (1, .int x1), (2, .int x2)] := hl
  unfold fX8_boxPart at h
  refine lv_aload_n hx hb dX8_boxPart_0 rfl (lv_at hl 0 rfl) ?_
  refine va_get (D := (dC, dI)) (ci := 8) (v := .ref m1) (C := RX8) (T := TX8) (N := 12) hx hb hts (fun w h9 => gb_mem (lay_X8 w h9)) hown hK.1 hP 0 rfl rfl 0 (by decide) (hts _ (gb_mem fl_X8_7)) (fun _ h9 => h9) rfl dX8_boxPart_1 ?_
  refine lv_bipush (v := 84) hx hb dX8_boxPart_4 (by decide) ?_
  refine lv_iconst (v := 2) hx hb dX8_boxPart_6 (by decide) ?_
  refine lv_iload_n hx hb dX8_boxPart_7 rfl (lv_at hl 1 rfl) ?_
  refine lv_imul hx hb dX8_boxPart_8 ?_
  refine lv_iadd hx hb dX8_boxPart_9 ?_
  refine lv_iload_n hx hb dX8_boxPart_10 rfl (lv_at hl 2 rfl) ?_
  refine lv_iadd hx hb dX8_boxPart_11 ?_
  obtain ⟨ni1, h⟩ := ifn h
  refine va_iald hx hb hK.1 hP 1 0 rfl rfl ni1 dX8_boxPart_12 ?_
  obtain rfl := Option.some.inj h
  exact e_i hx hb hr hlocks hP hS dX8_boxPart_13

noncomputable def fX8_setBox (state : Nat → Int32) (x1 : Int32) (x2 : Int32) (x3 : Int32) : Option ((Nat → Int32)) :=
  (if ((84 + (2 * x1)) + x2) < 0 ∨ 844 ≤ ((84 + (2 * x1)) + x2).toNatClampNeg then none else (some (upd state ((84 + (2 * x1)) + x2).toNatClampNeg x3)))
set_option maxHeartbeats 1000000 in
set_option maxRecDepth 100000 in
theorem mX8_setBox (l : Launch) (dC : Nat → ClassId) (dI : Nat → Nat → Nat) (cyI cyO : ClassId) (m0 m1 m2 m3 m4 m5 m6 : Nat) (state : Nat → Int32) (history : Nat → Int32) (recorded : Int32) (slots : Nat → Int32) (isSaved : Nat → Int32) (pad : Nat → Int32) (padLength : Int32) (opened : Nat → Int32) (pos : Int32) (letter : Int32) (first : Int32) (second : Int32) (x1 : Int32) (x2 : Int32) (x3 : Int32) (sz : Nat) (res : (Nat → Int32)) (h : fX8_setBox state x1 x2 x3 = some res) : Met l yX8_setBox (wsG yX8_setBox cX8_setBox 4 none) ({ frames := 0, cells := 0, slots := 0, locals := 0 }) (cP dC dI cyI cyO sz [.ref m0, .int x1, .int x2, .int x3] (modelW cyI m0 m1 m2 m3 m4 m5 m6 state history recorded slots isSaved pad padLength opened pos letter first second)) (cV dC dI (modelW cyI m0 m1 m2 m3 m4 m5 m6 res history recorded slots isSaved pad padLength opened pos letter first second) (va_A (modelW cyI m0 m1 m2 m3 m4 m5 m6 state history recorded slots isSaved pad padLength opened pos letter first second) sz)) 0 0 (va_A (modelW cyI m0 m1 m2 m3 m4 m5 m6 state history recorded slots isSaved pad padLength opened pos letter first second) sz) := by
  refine Met.ofW (cc := cX8_setBox) (maxL := 4) (ret := none) (by decide) rfl ?_
  intro p e s m args below meth c s₁ B hml hv
  obtain ⟨rfl, hsz, hP, hK, hD0⟩ := hv
  have hx := B.exec
  have hb := B.bytes
  have hr := B.returns
  have hts := atoms_spec (ws := wsG yX8_setBox cX8_setBox 4 none) B.pre
  have hown : s.vm.findClass RX8 = some m.cls := findClass_of_methodNamed B.named
  have hlocks := B.notSynchronized
  subst hsz
  have hD := hD0.self (sz := s.heap.size)
  generalize hAe : va_A (modelW cyI m0 m1 m2 m3 m4 m5 m6 state history recorded slots isSaved pad padLength opened pos letter first second) s.heap.size = A at hD ⊢
  have hA : ∀ q : Nat, s.heap.size ≤ q → A q := fun q h => by rw [← hAe]; exact Or.inr h
  have hS : va_S A s.heap s.heap [] := va_S.rf
  have hl := lv_entry ([.ref m0, .int x1, .int x2, .int x3]) (n := 4) (Nat.le_of_ble_eq_true rfl)
  rw [lg_entry_eq]
  generalize (lg_sl ([.ref m0, .int x1, .int x2, .int x3]) ++ List.replicate (4 - (lg_sl ([.ref m0, .int x1, .int x2, .int x3])).length) Slot.unset).toArray = ls at hl ⊢
  have hl : lv_has ls 4 [(0, .ref m0), (1, .int x1), (2, .int x2), (3, .int x3)] := hl
  unfold fX8_setBox at h
  refine lv_aload_n hx hb dX8_setBox_0 rfl (lv_at hl 0 rfl) ?_
  refine va_get (D := (dC, dI)) (ci := 8) (v := .ref m1) (C := RX8) (T := TX8) (N := 12) hx hb hts (fun w h9 => gb_mem (lay_X8 w h9)) hown hK.1 hP 0 rfl rfl 0 (by decide) (hts _ (gb_mem fl_X8_7)) (fun _ h9 => h9) rfl dX8_setBox_1 ?_
  refine lv_bipush (v := 84) hx hb dX8_setBox_4 (by decide) ?_
  refine lv_iconst (v := 2) hx hb dX8_setBox_6 (by decide) ?_
  refine lv_iload_n hx hb dX8_setBox_7 rfl (lv_at hl 1 rfl) ?_
  refine lv_imul hx hb dX8_setBox_8 ?_
  refine lv_iadd hx hb dX8_setBox_9 ?_
  refine lv_iload_n hx hb dX8_setBox_10 rfl (lv_at hl 2 rfl) ?_
  refine lv_iadd hx hb dX8_setBox_11 ?_
  refine lv_iload_n hx hb dX8_setBox_12 rfl (lv_at hl 3 rfl) ?_
  obtain ⟨ni1, h⟩ := ifn h
  refine va_iast hx hb hK.1 hP hD hS 1 0 rfl rfl ni1 dX8_setBox_13 (fun H locs hP hD hS => ?_)
  have hP : va_P (dC, dI) vwCl (modelW cyI m0 m1 m2 m3 m4 m5 m6 (upd state ((84 + (2 * x1)) + x2).toNatClampNeg x3) history recorded slots isSaved pad padLength opened pos letter first second) H := hP
  have hD : va_D A (modelW cyI m0 m1 m2 m3 m4 m5 m6 (upd state ((84 + (2 * x1)) + x2).toNatClampNeg x3) history recorded slots isSaved pad padLength opened pos letter first second) := hD
  obtain rfl := Option.some.inj h
  exact e_v hx hb hr hlocks hP hS dX8_setBox_14

noncomputable def fX8_wrapPart (state : Nat → Int32) (x1 : Int32) (x2 : Int32) : Option (Int32) :=
  (if ((124 + (6 * x1)) + x2) < 0 ∨ 844 ≤ ((124 + (6 * x1)) + x2).toNatClampNeg then none else (some (state ((124 + (6 * x1)) + x2).toNatClampNeg)))
set_option maxHeartbeats 1000000 in
set_option maxRecDepth 100000 in
theorem mX8_wrapPart (l : Launch) (dC : Nat → ClassId) (dI : Nat → Nat → Nat) (cyI cyO : ClassId) (m0 m1 m2 m3 m4 m5 m6 : Nat) (state : Nat → Int32) (history : Nat → Int32) (recorded : Int32) (slots : Nat → Int32) (isSaved : Nat → Int32) (pad : Nat → Int32) (padLength : Int32) (opened : Nat → Int32) (pos : Int32) (letter : Int32) (first : Int32) (second : Int32) (x1 : Int32) (x2 : Int32) (sz : Nat) (res : Int32) (h : fX8_wrapPart state x1 x2 = some res) : Met l yX8_wrapPart (wsG yX8_wrapPart cX8_wrapPart 3 (some .int)) ({ frames := 0, cells := 0, slots := 0, locals := 0 }) (cP dC dI cyI cyO sz [.ref m0, .int x1, .int x2] (modelW cyI m0 m1 m2 m3 m4 m5 m6 state history recorded slots isSaved pad padLength opened pos letter first second)) (cI dC dI res (modelW cyI m0 m1 m2 m3 m4 m5 m6 state history recorded slots isSaved pad padLength opened pos letter first second) (va_A (modelW cyI m0 m1 m2 m3 m4 m5 m6 state history recorded slots isSaved pad padLength opened pos letter first second) sz)) 0 0 (va_A (modelW cyI m0 m1 m2 m3 m4 m5 m6 state history recorded slots isSaved pad padLength opened pos letter first second) sz) := by
  refine Met.ofW (cc := cX8_wrapPart) (maxL := 3) (ret := (some .int)) (by decide) rfl ?_
  intro p e s m args below meth c s₁ B hml hv
  obtain ⟨rfl, hsz, hP, hK, hD0⟩ := hv
  have hx := B.exec
  have hb := B.bytes
  have hr := B.returns
  have hts := atoms_spec (ws := wsG yX8_wrapPart cX8_wrapPart 3 (some .int)) B.pre
  have hown : s.vm.findClass RX8 = some m.cls := findClass_of_methodNamed B.named
  have hlocks := B.notSynchronized
  subst hsz
  have hD := hD0.self (sz := s.heap.size)
  generalize hAe : va_A (modelW cyI m0 m1 m2 m3 m4 m5 m6 state history recorded slots isSaved pad padLength opened pos letter first second) s.heap.size = A at hD ⊢
  have hA : ∀ q : Nat, s.heap.size ≤ q → A q := fun q h => by rw [← hAe]; exact Or.inr h
  have hS : va_S A s.heap s.heap [] := va_S.rf
  have hl := lv_entry ([.ref m0, .int x1, .int x2]) (n := 3) (Nat.le_of_ble_eq_true rfl)
  rw [lg_entry_eq]
  generalize (lg_sl ([.ref m0, .int x1, .int x2]) ++ List.replicate (3 - (lg_sl ([.ref m0, .int x1, .int x2])).length) Slot.unset).toArray = ls at hl ⊢
  have hl : lv_has ls 3 [(0, .ref m0), (1, .int x1), (2, .int x2)] := hl
  unfold fX8_wrapPart at h
  refine lv_aload_n hx hb dX8_wrapPart_0 rfl (lv_at hl 0 rfl) ?_
  refine va_get (D := (dC, dI)) (ci := 8) (v := .ref m1) (C := RX8) (T := TX8) (N := 12) hx hb hts (fun w h9 => gb_mem (lay_X8 w h9)) hown hK.1 hP 0 rfl rfl 0 (by decide) (hts _ (gb_mem fl_X8_7)) (fun _ h9 => h9) rfl dX8_wrapPart_1 ?_
  refine lv_bipush (v := 124) hx hb dX8_wrapPart_4 (by decide) ?_
  refine lv_bipush (v := 6) hx hb dX8_wrapPart_6 (by decide) ?_
  refine lv_iload_n hx hb dX8_wrapPart_8 rfl (lv_at hl 1 rfl) ?_
  refine lv_imul hx hb dX8_wrapPart_9 ?_
  refine lv_iadd hx hb dX8_wrapPart_10 ?_
  refine lv_iload_n hx hb dX8_wrapPart_11 rfl (lv_at hl 2 rfl) ?_
  refine lv_iadd hx hb dX8_wrapPart_12 ?_
  obtain ⟨ni1, h⟩ := ifn h
  refine va_iald hx hb hK.1 hP 1 0 rfl rfl ni1 dX8_wrapPart_13 ?_
  obtain rfl := Option.some.inj h
  exact e_i hx hb hr hlocks hP hS dX8_wrapPart_14

noncomputable def fX8_setWrap (state : Nat → Int32) (x1 : Int32) (x2 : Int32) (x3 : Int32) : Option ((Nat → Int32)) :=
  (if ((124 + (6 * x1)) + x2) < 0 ∨ 844 ≤ ((124 + (6 * x1)) + x2).toNatClampNeg then none else (some (upd state ((124 + (6 * x1)) + x2).toNatClampNeg x3)))
set_option maxHeartbeats 1000000 in
set_option maxRecDepth 100000 in
theorem mX8_setWrap (l : Launch) (dC : Nat → ClassId) (dI : Nat → Nat → Nat) (cyI cyO : ClassId) (m0 m1 m2 m3 m4 m5 m6 : Nat) (state : Nat → Int32) (history : Nat → Int32) (recorded : Int32) (slots : Nat → Int32) (isSaved : Nat → Int32) (pad : Nat → Int32) (padLength : Int32) (opened : Nat → Int32) (pos : Int32) (letter : Int32) (first : Int32) (second : Int32) (x1 : Int32) (x2 : Int32) (x3 : Int32) (sz : Nat) (res : (Nat → Int32)) (h : fX8_setWrap state x1 x2 x3 = some res) : Met l yX8_setWrap (wsG yX8_setWrap cX8_setWrap 4 none) ({ frames := 0, cells := 0, slots := 0, locals := 0 }) (cP dC dI cyI cyO sz [.ref m0, .int x1, .int x2, .int x3] (modelW cyI m0 m1 m2 m3 m4 m5 m6 state history recorded slots isSaved pad padLength opened pos letter first second)) (cV dC dI (modelW cyI m0 m1 m2 m3 m4 m5 m6 res history recorded slots isSaved pad padLength opened pos letter first second) (va_A (modelW cyI m0 m1 m2 m3 m4 m5 m6 state history recorded slots isSaved pad padLength opened pos letter first second) sz)) 0 0 (va_A (modelW cyI m0 m1 m2 m3 m4 m5 m6 state history recorded slots isSaved pad padLength opened pos letter first second) sz) := by
  refine Met.ofW (cc := cX8_setWrap) (maxL := 4) (ret := none) (by decide) rfl ?_
  intro p e s m args below meth c s₁ B hml hv
  obtain ⟨rfl, hsz, hP, hK, hD0⟩ := hv
  have hx := B.exec
  have hb := B.bytes
  have hr := B.returns
  have hts := atoms_spec (ws := wsG yX8_setWrap cX8_setWrap 4 none) B.pre
  have hown : s.vm.findClass RX8 = some m.cls := findClass_of_methodNamed B.named
  have hlocks := B.notSynchronized
  subst hsz
  have hD := hD0.self (sz := s.heap.size)
  generalize hAe : va_A (modelW cyI m0 m1 m2 m3 m4 m5 m6 state history recorded slots isSaved pad padLength opened pos letter first second) s.heap.size = A at hD ⊢
  have hA : ∀ q : Nat, s.heap.size ≤ q → A q := fun q h => by rw [← hAe]; exact Or.inr h
  have hS : va_S A s.heap s.heap [] := va_S.rf
  have hl := lv_entry ([.ref m0, .int x1, .int x2, .int x3]) (n := 4) (Nat.le_of_ble_eq_true rfl)
  rw [lg_entry_eq]
  generalize (lg_sl ([.ref m0, .int x1, .int x2, .int x3]) ++ List.replicate (4 - (lg_sl ([.ref m0, .int x1, .int x2, .int x3])).length) Slot.unset).toArray = ls at hl ⊢
  have hl : lv_has ls 4 [(0, .ref m0), (1, .int x1), (2, .int x2), (3, .int x3)] := hl
  unfold fX8_setWrap at h
  refine lv_aload_n hx hb dX8_setWrap_0 rfl (lv_at hl 0 rfl) ?_
  refine va_get (D := (dC, dI)) (ci := 8) (v := .ref m1) (C := RX8) (T := TX8) (N := 12) hx hb hts (fun w h9 => gb_mem (lay_X8 w h9)) hown hK.1 hP 0 rfl rfl 0 (by decide) (hts _ (gb_mem fl_X8_7)) (fun _ h9 => h9) rfl dX8_setWrap_1 ?_
  refine lv_bipush (v := 124) hx hb dX8_setWrap_4 (by decide) ?_
  refine lv_bipush (v := 6) hx hb dX8_setWrap_6 (by decide) ?_
  refine lv_iload_n hx hb dX8_setWrap_8 rfl (lv_at hl 1 rfl) ?_
  refine lv_imul hx hb dX8_setWrap_9 ?_
  refine lv_iadd hx hb dX8_setWrap_10 ?_
  refine lv_iload_n hx hb dX8_setWrap_11 rfl (lv_at hl 2 rfl) ?_
  refine lv_iadd hx hb dX8_setWrap_12 ?_
  refine lv_iload_n hx hb dX8_setWrap_13 rfl (lv_at hl 3 rfl) ?_
  obtain ⟨ni1, h⟩ := ifn h
  refine va_iast hx hb hK.1 hP hD hS 1 0 rfl rfl ni1 dX8_setWrap_14 (fun H locs hP hD hS => ?_)
  have hP : va_P (dC, dI) vwCl (modelW cyI m0 m1 m2 m3 m4 m5 m6 (upd state ((124 + (6 * x1)) + x2).toNatClampNeg x3) history recorded slots isSaved pad padLength opened pos letter first second) H := hP
  have hD : va_D A (modelW cyI m0 m1 m2 m3 m4 m5 m6 (upd state ((124 + (6 * x1)) + x2).toNatClampNeg x3) history recorded slots isSaved pad padLength opened pos letter first second) := hD
  obtain rfl := Option.some.inj h
  exact e_v hx hb hr hlocks hP hS dX8_setWrap_15

noncomputable def fX8_isKey (state : Nat → Int32) (x1 : Int32) : Option (Int32) :=
  (if (1 : Int32) < 0 ∨ 844 ≤ (1 : Int32).toNatClampNeg then none else (some (fX8_within x1 0 ((state (1 : Int32).toNatClampNeg) - 1))))
set_option maxHeartbeats 1000000 in
set_option maxRecDepth 100000 in
theorem mX8_isKey (l : Launch) (dC : Nat → ClassId) (dI : Nat → Nat → Nat) (cyI cyO : ClassId) (m0 m1 m2 m3 m4 m5 m6 : Nat) (state : Nat → Int32) (history : Nat → Int32) (recorded : Int32) (slots : Nat → Int32) (isSaved : Nat → Int32) (pad : Nat → Int32) (padLength : Int32) (opened : Nat → Int32) (pos : Int32) (letter : Int32) (first : Int32) (second : Int32) (x1 : Int32) (sz : Nat) (res : Int32) (h : fX8_isKey state x1 = some res) : Met l yX8_isKey (wsG yX8_isKey cX8_isKey 2 (some .boolean)) ({ frames := 1, cells := 0, slots := 0, locals := 22 }) (cP dC dI cyI cyO sz [.ref m0, .int x1] (modelW cyI m0 m1 m2 m3 m4 m5 m6 state history recorded slots isSaved pad padLength opened pos letter first second)) (cI dC dI res (modelW cyI m0 m1 m2 m3 m4 m5 m6 state history recorded slots isSaved pad padLength opened pos letter first second) (va_A (modelW cyI m0 m1 m2 m3 m4 m5 m6 state history recorded slots isSaved pad padLength opened pos letter first second) sz)) 0 0 (va_A (modelW cyI m0 m1 m2 m3 m4 m5 m6 state history recorded slots isSaved pad padLength opened pos letter first second) sz) := by
  refine Met.ofW (cc := cX8_isKey) (maxL := 2) (ret := (some .boolean)) (by decide) rfl ?_
  intro p e s m args below meth c s₁ B hml hv
  obtain ⟨rfl, hsz, hP, hK, hD0⟩ := hv
  have hx := B.exec
  have hb := B.bytes
  have hr := B.returns
  have hts := atoms_spec (ws := wsG yX8_isKey cX8_isKey 2 (some .boolean)) B.pre
  have hown : s.vm.findClass RX8 = some m.cls := findClass_of_methodNamed B.named
  have hlocks := B.notSynchronized
  subst hsz
  have hD := hD0.self (sz := s.heap.size)
  generalize hAe : va_A (modelW cyI m0 m1 m2 m3 m4 m5 m6 state history recorded slots isSaved pad padLength opened pos letter first second) s.heap.size = A at hD ⊢
  have hA : ∀ q : Nat, s.heap.size ≤ q → A q := fun q h => by rw [← hAe]; exact Or.inr h
  have hS : va_S A s.heap s.heap [] := va_S.rf
  have hl := lv_entry ([.ref m0, .int x1]) (n := 2) (Nat.le_of_ble_eq_true rfl)
  rw [lg_entry_eq]
  generalize (lg_sl ([.ref m0, .int x1]) ++ List.replicate (2 - (lg_sl ([.ref m0, .int x1])).length) Slot.unset).toArray = ls at hl ⊢
  have hl : lv_has ls 2 [(0, .ref m0), (1, .int x1)] := hl
  unfold fX8_isKey at h
  refine lv_iload_n hx hb dX8_isKey_0 rfl (lv_at hl 1 rfl) ?_
  refine lv_iconst (v := 0) hx hb dX8_isKey_1 (by decide) ?_
  refine lv_aload_n hx hb dX8_isKey_2 rfl (lv_at hl 0 rfl) ?_
  refine va_get (D := (dC, dI)) (ci := 8) (v := .ref m1) (C := RX8) (T := TX8) (N := 12) hx hb hts (fun w h9 => gb_mem (lay_X8 w h9)) hown hK.1 hP 0 rfl rfl 0 (by decide) (hts _ (gb_mem fl_X8_7)) (fun _ h9 => h9) rfl dX8_isKey_3 ?_
  refine lv_iconst (v := 1) hx hb dX8_isKey_6 (by decide) ?_
  obtain ⟨ni1, h⟩ := ifn h
  refine va_iald hx hb hK.1 hP 1 0 rfl rfl ni1 dX8_isKey_7 ?_
  refine lv_iconst (v := 1) hx hb dX8_isKey_8 (by decide) ?_
  refine lv_isub hx hb dX8_isKey_9 ?_
  refine fr_ir (M := ([] : va_W)) (va_runS (As := [.int x1, .int 0, .int ((state (1 : Int32).toNatClampNeg) - 1)]) (rest := []) ⟨hx, hb, hml, hown, hts⟩ (mX8_within l dC dI cyI cyO x1 0 ((state (1 : Int32).toNatClampNeg) - 1) _ (fX8_within x1 0 ((state (1 : Int32).toNatClampNeg) - 1)) rfl) (va_cwS 3 hts (gS ml_X8_36 st_X8_within in_X8 co_X8_within) rfl rfl rfl (by decide +kernel) ⟨Nat.le_of_ble_eq_true rfl, Nat.le_of_ble_eq_true rfl⟩) (cP_S hK hP hD [] rfl rfl) rfl rfl hl.1 rfl (lv_room (Nat.le_of_ble_eq_true rfl)) dX8_isKey_10 ⟨Nat.zero_le _, Nat.zero_le _⟩) hP hD hS hA [] rfl (fun H locs hP hS => ?_)
  obtain rfl := Option.some.inj h
  exact e_z hx hb hr hlocks (by first | exact nb_X8_within .. | rfl) hP hS dX8_isKey_13

noncomputable def fX8_isLiveKey (state : Nat → Int32) (x1 : Int32) : Option (Int32) :=
  ((fX8_isKey state x1).bind fun q1 => (if q1 = 0 then (some 0) else ((fX8_keyPart state x1 1).bind fun q4 => (if q4 = 1 then (some 1) else (some 0)))))
set_option maxHeartbeats 1000000 in
set_option maxRecDepth 100000 in
theorem mX8_isLiveKey (l : Launch) (dC : Nat → ClassId) (dI : Nat → Nat → Nat) (cyI cyO : ClassId) (m0 m1 m2 m3 m4 m5 m6 : Nat) (state : Nat → Int32) (history : Nat → Int32) (recorded : Int32) (slots : Nat → Int32) (isSaved : Nat → Int32) (pad : Nat → Int32) (padLength : Int32) (opened : Nat → Int32) (pos : Int32) (letter : Int32) (first : Int32) (second : Int32) (x1 : Int32) (sz : Nat) (res : Int32) (h : fX8_isLiveKey state x1 = some res) : Met l yX8_isLiveKey (wsG yX8_isLiveKey cX8_isLiveKey 2 (some .boolean)) ({ frames := 2, cells := 0, slots := 0, locals := 43 }) (cP dC dI cyI cyO sz [.ref m0, .int x1] (modelW cyI m0 m1 m2 m3 m4 m5 m6 state history recorded slots isSaved pad padLength opened pos letter first second)) (cI dC dI res (modelW cyI m0 m1 m2 m3 m4 m5 m6 state history recorded slots isSaved pad padLength opened pos letter first second) (va_A (modelW cyI m0 m1 m2 m3 m4 m5 m6 state history recorded slots isSaved pad padLength opened pos letter first second) sz)) 0 0 (va_A (modelW cyI m0 m1 m2 m3 m4 m5 m6 state history recorded slots isSaved pad padLength opened pos letter first second) sz) := by
  refine Met.ofW (cc := cX8_isLiveKey) (maxL := 2) (ret := (some .boolean)) (by decide) rfl ?_
  intro p e s m args below meth c s₁ B hml hv
  obtain ⟨rfl, hsz, hP, hK, hD0⟩ := hv
  have hx := B.exec
  have hb := B.bytes
  have hr := B.returns
  have hts := atoms_spec (ws := wsG yX8_isLiveKey cX8_isLiveKey 2 (some .boolean)) B.pre
  have hown : s.vm.findClass RX8 = some m.cls := findClass_of_methodNamed B.named
  have hlocks := B.notSynchronized
  subst hsz
  have hD := hD0.self (sz := s.heap.size)
  generalize hAe : va_A (modelW cyI m0 m1 m2 m3 m4 m5 m6 state history recorded slots isSaved pad padLength opened pos letter first second) s.heap.size = A at hD ⊢
  have hA : ∀ q : Nat, s.heap.size ≤ q → A q := fun q h => by rw [← hAe]; exact Or.inr h
  have hS : va_S A s.heap s.heap [] := va_S.rf
  have hl := lv_entry ([.ref m0, .int x1]) (n := 2) (Nat.le_of_ble_eq_true rfl)
  rw [lg_entry_eq]
  generalize (lg_sl ([.ref m0, .int x1]) ++ List.replicate (2 - (lg_sl ([.ref m0, .int x1])).length) Slot.unset).toArray = ls at hl ⊢
  have hl : lv_has ls 2 [(0, .ref m0), (1, .int x1)] := hl
  unfold fX8_isLiveKey at h
  refine lv_aload_n hx hb dX8_isLiveKey_0 rfl (lv_at hl 0 rfl) ?_
  refine lv_iload_n hx hb dX8_isLiveKey_1 rfl (lv_at hl 1 rfl) ?_
  obtain ⟨q1, e2, h⟩ := ob h
  refine fr_ir (M := (modelW cyI m0 m1 m2 m3 m4 m5 m6 state history recorded slots isSaved pad padLength opened pos letter first second)) (va_runV (As := [.int x1]) (rest := []) ⟨hx, hb, hml, hown, hts⟩ (mX8_isKey l dC dI cyI cyO m0 m1 m2 m3 m4 m5 m6 state history recorded slots isSaved pad padLength opened pos letter first second x1 _ q1 e2) (cwV 1 hts (gV ml_X8_40 im_X8_isKey se_X8_isKey in_X8 co_X8_isKey) rfl rfl rfl (by decide +kernel) ⟨Nat.le_of_ble_eq_true rfl, Nat.le_of_ble_eq_true rfl⟩) (cP_V hK hP hD [0, 1, 2, 3, 4, 5, 6] rfl rfl 0 rfl rfl) rfl rfl hl.1 rfl (lv_room (Nat.le_of_ble_eq_true rfl)) dX8_isLiveKey_2 ⟨Nat.zero_le _, Nat.zero_le _⟩) hP hD hS hA [0, 1, 2, 3, 4, 5, 6] rfl (fun H locs hP hS => ?_)
  refine lv_if_eq (tgt := 22) hx hb dX8_isLiveKey_5 (by decide) (fun c3 => ?_) (fun c3 => ?_)
  · have h := (if_pos c3).symm.trans h
    refine lv_iconst (v := 0) hx hb dX8_isLiveKey_22 (by decide) ?_
    obtain rfl := Option.some.inj h
    exact e_z (v := 0) hx hb hr hlocks rfl hP hS dX8_isLiveKey_23
  · have h := (if_neg c3).symm.trans h
    refine lv_aload_n hx hb dX8_isLiveKey_8 rfl (lv_at hl 0 rfl) ?_
    refine lv_iload_n hx hb dX8_isLiveKey_9 rfl (lv_at hl 1 rfl) ?_
    refine lv_iconst (v := 1) hx hb dX8_isLiveKey_10 (by decide) ?_
    obtain ⟨q4, e5, h⟩ := ob h
    refine fr_ir (M := (modelW cyI m0 m1 m2 m3 m4 m5 m6 state history recorded slots isSaved pad padLength opened pos letter first second)) (va_runV (As := [.int x1, .int 1]) (rest := []) ⟨hx, hb, hml, hown, hts⟩ (mX8_keyPart l dC dI cyI cyO m0 m1 m2 m3 m4 m5 m6 state history recorded slots isSaved pad padLength opened pos letter first second x1 1 _ q4 e5) (cwV 2 hts (gV ml_X8_44 im_X8_keyPart se_X8_keyPart in_X8 co_X8_keyPart) rfl rfl rfl (by decide +kernel) ⟨Nat.le_of_ble_eq_true rfl, Nat.le_of_ble_eq_true rfl⟩) (cP_V hK hP hD [0, 1, 2, 3, 4, 5, 6] rfl rfl 0 rfl rfl) rfl rfl hl.1 rfl (lv_room (Nat.le_of_ble_eq_true rfl)) dX8_isLiveKey_11 ⟨Nat.zero_le _, Nat.zero_le _⟩) hP hD hS hA [0, 1, 2, 3, 4, 5, 6] rfl (fun H locs hP hS => ?_)
    refine lv_iconst (v := 1) hx hb dX8_isLiveKey_14 (by decide) ?_
    refine lv_icmp_ne (tgt := 22) hx hb dX8_isLiveKey_15 (by decide) (fun c6 => ?_) (fun c6 => ?_)
    · have h := (if_neg c6).symm.trans h
      refine lv_iconst (v := 0) hx hb dX8_isLiveKey_22 (by decide) ?_
      obtain rfl := Option.some.inj h
      exact e_z (v := 0) hx hb hr hlocks rfl hP hS dX8_isLiveKey_23
    · have h := (if_pos c6).symm.trans h
      refine lv_iconst (v := 1) hx hb dX8_isLiveKey_18 (by decide) ?_
      refine lv_goto (tgt := 23) hx hb dX8_isLiveKey_19 (by decide) ?_
      obtain rfl := Option.some.inj h
      exact e_z (v := 1) hx hb hr hlocks rfl hP hS dX8_isLiveKey_23

noncomputable def fX8_isBox (state : Nat → Int32) (x1 : Int32) : Option (Int32) :=
  (if (2 : Int32) < 0 ∨ 844 ≤ (2 : Int32).toNatClampNeg then none else (some (fX8_within x1 0 ((state (2 : Int32).toNatClampNeg) - 1))))
set_option maxHeartbeats 1000000 in
set_option maxRecDepth 100000 in
theorem mX8_isBox (l : Launch) (dC : Nat → ClassId) (dI : Nat → Nat → Nat) (cyI cyO : ClassId) (m0 m1 m2 m3 m4 m5 m6 : Nat) (state : Nat → Int32) (history : Nat → Int32) (recorded : Int32) (slots : Nat → Int32) (isSaved : Nat → Int32) (pad : Nat → Int32) (padLength : Int32) (opened : Nat → Int32) (pos : Int32) (letter : Int32) (first : Int32) (second : Int32) (x1 : Int32) (sz : Nat) (res : Int32) (h : fX8_isBox state x1 = some res) : Met l yX8_isBox (wsG yX8_isBox cX8_isBox 2 (some .boolean)) ({ frames := 1, cells := 0, slots := 0, locals := 22 }) (cP dC dI cyI cyO sz [.ref m0, .int x1] (modelW cyI m0 m1 m2 m3 m4 m5 m6 state history recorded slots isSaved pad padLength opened pos letter first second)) (cI dC dI res (modelW cyI m0 m1 m2 m3 m4 m5 m6 state history recorded slots isSaved pad padLength opened pos letter first second) (va_A (modelW cyI m0 m1 m2 m3 m4 m5 m6 state history recorded slots isSaved pad padLength opened pos letter first second) sz)) 0 0 (va_A (modelW cyI m0 m1 m2 m3 m4 m5 m6 state history recorded slots isSaved pad padLength opened pos letter first second) sz) := by
  refine Met.ofW (cc := cX8_isBox) (maxL := 2) (ret := (some .boolean)) (by decide) rfl ?_
  intro p e s m args below meth c s₁ B hml hv
  obtain ⟨rfl, hsz, hP, hK, hD0⟩ := hv
  have hx := B.exec
  have hb := B.bytes
  have hr := B.returns
  have hts := atoms_spec (ws := wsG yX8_isBox cX8_isBox 2 (some .boolean)) B.pre
  have hown : s.vm.findClass RX8 = some m.cls := findClass_of_methodNamed B.named
  have hlocks := B.notSynchronized
  subst hsz
  have hD := hD0.self (sz := s.heap.size)
  generalize hAe : va_A (modelW cyI m0 m1 m2 m3 m4 m5 m6 state history recorded slots isSaved pad padLength opened pos letter first second) s.heap.size = A at hD ⊢
  have hA : ∀ q : Nat, s.heap.size ≤ q → A q := fun q h => by rw [← hAe]; exact Or.inr h
  have hS : va_S A s.heap s.heap [] := va_S.rf
  have hl := lv_entry ([.ref m0, .int x1]) (n := 2) (Nat.le_of_ble_eq_true rfl)
  rw [lg_entry_eq]
  generalize (lg_sl ([.ref m0, .int x1]) ++ List.replicate (2 - (lg_sl ([.ref m0, .int x1])).length) Slot.unset).toArray = ls at hl ⊢
  have hl : lv_has ls 2 [(0, .ref m0), (1, .int x1)] := hl
  unfold fX8_isBox at h
  refine lv_iload_n hx hb dX8_isBox_0 rfl (lv_at hl 1 rfl) ?_
  refine lv_iconst (v := 0) hx hb dX8_isBox_1 (by decide) ?_
  refine lv_aload_n hx hb dX8_isBox_2 rfl (lv_at hl 0 rfl) ?_
  refine va_get (D := (dC, dI)) (ci := 8) (v := .ref m1) (C := RX8) (T := TX8) (N := 12) hx hb hts (fun w h9 => gb_mem (lay_X8 w h9)) hown hK.1 hP 0 rfl rfl 0 (by decide) (hts _ (gb_mem fl_X8_7)) (fun _ h9 => h9) rfl dX8_isBox_3 ?_
  refine lv_iconst (v := 2) hx hb dX8_isBox_6 (by decide) ?_
  obtain ⟨ni1, h⟩ := ifn h
  refine va_iald hx hb hK.1 hP 1 0 rfl rfl ni1 dX8_isBox_7 ?_
  refine lv_iconst (v := 1) hx hb dX8_isBox_8 (by decide) ?_
  refine lv_isub hx hb dX8_isBox_9 ?_
  refine fr_ir (M := ([] : va_W)) (va_runS (As := [.int x1, .int 0, .int ((state (2 : Int32).toNatClampNeg) - 1)]) (rest := []) ⟨hx, hb, hml, hown, hts⟩ (mX8_within l dC dI cyI cyO x1 0 ((state (2 : Int32).toNatClampNeg) - 1) _ (fX8_within x1 0 ((state (2 : Int32).toNatClampNeg) - 1)) rfl) (va_cwS 3 hts (gS ml_X8_36 st_X8_within in_X8 co_X8_within) rfl rfl rfl (by decide +kernel) ⟨Nat.le_of_ble_eq_true rfl, Nat.le_of_ble_eq_true rfl⟩) (cP_S hK hP hD [] rfl rfl) rfl rfl hl.1 rfl (lv_room (Nat.le_of_ble_eq_true rfl)) dX8_isBox_10 ⟨Nat.zero_le _, Nat.zero_le _⟩) hP hD hS hA [] rfl (fun H locs hP hS => ?_)
  obtain rfl := Option.some.inj h
  exact e_z hx hb hr hlocks (by first | exact nb_X8_within .. | rfl) hP hS dX8_isBox_13

noncomputable def fX8_isLiveBox (state : Nat → Int32) (x1 : Int32) : Option (Int32) :=
  ((fX8_isBox state x1).bind fun q1 => (if q1 = 0 then (some 0) else ((fX8_boxPart state x1 1).bind fun q4 => (if q4 = 1 then (some 1) else (some 0)))))
set_option maxHeartbeats 1000000 in
set_option maxRecDepth 100000 in
theorem mX8_isLiveBox (l : Launch) (dC : Nat → ClassId) (dI : Nat → Nat → Nat) (cyI cyO : ClassId) (m0 m1 m2 m3 m4 m5 m6 : Nat) (state : Nat → Int32) (history : Nat → Int32) (recorded : Int32) (slots : Nat → Int32) (isSaved : Nat → Int32) (pad : Nat → Int32) (padLength : Int32) (opened : Nat → Int32) (pos : Int32) (letter : Int32) (first : Int32) (second : Int32) (x1 : Int32) (sz : Nat) (res : Int32) (h : fX8_isLiveBox state x1 = some res) : Met l yX8_isLiveBox (wsG yX8_isLiveBox cX8_isLiveBox 2 (some .boolean)) ({ frames := 2, cells := 0, slots := 0, locals := 43 }) (cP dC dI cyI cyO sz [.ref m0, .int x1] (modelW cyI m0 m1 m2 m3 m4 m5 m6 state history recorded slots isSaved pad padLength opened pos letter first second)) (cI dC dI res (modelW cyI m0 m1 m2 m3 m4 m5 m6 state history recorded slots isSaved pad padLength opened pos letter first second) (va_A (modelW cyI m0 m1 m2 m3 m4 m5 m6 state history recorded slots isSaved pad padLength opened pos letter first second) sz)) 0 0 (va_A (modelW cyI m0 m1 m2 m3 m4 m5 m6 state history recorded slots isSaved pad padLength opened pos letter first second) sz) := by
  refine Met.ofW (cc := cX8_isLiveBox) (maxL := 2) (ret := (some .boolean)) (by decide) rfl ?_
  intro p e s m args below meth c s₁ B hml hv
  obtain ⟨rfl, hsz, hP, hK, hD0⟩ := hv
  have hx := B.exec
  have hb := B.bytes
  have hr := B.returns
  have hts := atoms_spec (ws := wsG yX8_isLiveBox cX8_isLiveBox 2 (some .boolean)) B.pre
  have hown : s.vm.findClass RX8 = some m.cls := findClass_of_methodNamed B.named
  have hlocks := B.notSynchronized
  subst hsz
  have hD := hD0.self (sz := s.heap.size)
  generalize hAe : va_A (modelW cyI m0 m1 m2 m3 m4 m5 m6 state history recorded slots isSaved pad padLength opened pos letter first second) s.heap.size = A at hD ⊢
  have hA : ∀ q : Nat, s.heap.size ≤ q → A q := fun q h => by rw [← hAe]; exact Or.inr h
  have hS : va_S A s.heap s.heap [] := va_S.rf
  have hl := lv_entry ([.ref m0, .int x1]) (n := 2) (Nat.le_of_ble_eq_true rfl)
  rw [lg_entry_eq]
  generalize (lg_sl ([.ref m0, .int x1]) ++ List.replicate (2 - (lg_sl ([.ref m0, .int x1])).length) Slot.unset).toArray = ls at hl ⊢
  have hl : lv_has ls 2 [(0, .ref m0), (1, .int x1)] := hl
  unfold fX8_isLiveBox at h
  refine lv_aload_n hx hb dX8_isLiveBox_0 rfl (lv_at hl 0 rfl) ?_
  refine lv_iload_n hx hb dX8_isLiveBox_1 rfl (lv_at hl 1 rfl) ?_
  obtain ⟨q1, e2, h⟩ := ob h
  refine fr_ir (M := (modelW cyI m0 m1 m2 m3 m4 m5 m6 state history recorded slots isSaved pad padLength opened pos letter first second)) (va_runV (As := [.int x1]) (rest := []) ⟨hx, hb, hml, hown, hts⟩ (mX8_isBox l dC dI cyI cyO m0 m1 m2 m3 m4 m5 m6 state history recorded slots isSaved pad padLength opened pos letter first second x1 _ q1 e2) (cwV 1 hts (gV ml_X8_48 im_X8_isBox se_X8_isBox in_X8 co_X8_isBox) rfl rfl rfl (by decide +kernel) ⟨Nat.le_of_ble_eq_true rfl, Nat.le_of_ble_eq_true rfl⟩) (cP_V hK hP hD [0, 1, 2, 3, 4, 5, 6] rfl rfl 0 rfl rfl) rfl rfl hl.1 rfl (lv_room (Nat.le_of_ble_eq_true rfl)) dX8_isLiveBox_2 ⟨Nat.zero_le _, Nat.zero_le _⟩) hP hD hS hA [0, 1, 2, 3, 4, 5, 6] rfl (fun H locs hP hS => ?_)
  refine lv_if_eq (tgt := 22) hx hb dX8_isLiveBox_5 (by decide) (fun c3 => ?_) (fun c3 => ?_)
  · have h := (if_pos c3).symm.trans h
    refine lv_iconst (v := 0) hx hb dX8_isLiveBox_22 (by decide) ?_
    obtain rfl := Option.some.inj h
    exact e_z (v := 0) hx hb hr hlocks rfl hP hS dX8_isLiveBox_23
  · have h := (if_neg c3).symm.trans h
    refine lv_aload_n hx hb dX8_isLiveBox_8 rfl (lv_at hl 0 rfl) ?_
    refine lv_iload_n hx hb dX8_isLiveBox_9 rfl (lv_at hl 1 rfl) ?_
    refine lv_iconst (v := 1) hx hb dX8_isLiveBox_10 (by decide) ?_
    obtain ⟨q4, e5, h⟩ := ob h
    refine fr_ir (M := (modelW cyI m0 m1 m2 m3 m4 m5 m6 state history recorded slots isSaved pad padLength opened pos letter first second)) (va_runV (As := [.int x1, .int 1]) (rest := []) ⟨hx, hb, hml, hown, hts⟩ (mX8_boxPart l dC dI cyI cyO m0 m1 m2 m3 m4 m5 m6 state history recorded slots isSaved pad padLength opened pos letter first second x1 1 _ q4 e5) (cwV 2 hts (gV ml_X8_51 im_X8_boxPart se_X8_boxPart in_X8 co_X8_boxPart) rfl rfl rfl (by decide +kernel) ⟨Nat.le_of_ble_eq_true rfl, Nat.le_of_ble_eq_true rfl⟩) (cP_V hK hP hD [0, 1, 2, 3, 4, 5, 6] rfl rfl 0 rfl rfl) rfl rfl hl.1 rfl (lv_room (Nat.le_of_ble_eq_true rfl)) dX8_isLiveBox_11 ⟨Nat.zero_le _, Nat.zero_le _⟩) hP hD hS hA [0, 1, 2, 3, 4, 5, 6] rfl (fun H locs hP hS => ?_)
    refine lv_iconst (v := 1) hx hb dX8_isLiveBox_14 (by decide) ?_
    refine lv_icmp_ne (tgt := 22) hx hb dX8_isLiveBox_15 (by decide) (fun c6 => ?_) (fun c6 => ?_)
    · have h := (if_neg c6).symm.trans h
      refine lv_iconst (v := 0) hx hb dX8_isLiveBox_22 (by decide) ?_
      obtain rfl := Option.some.inj h
      exact e_z (v := 0) hx hb hr hlocks rfl hP hS dX8_isLiveBox_23
    · have h := (if_pos c6).symm.trans h
      refine lv_iconst (v := 1) hx hb dX8_isLiveBox_18 (by decide) ?_
      refine lv_goto (tgt := 23) hx hb dX8_isLiveBox_19 (by decide) ?_
      obtain rfl := Option.some.inj h
      exact e_z (v := 1) hx hb hr hlocks rfl hP hS dX8_isLiveBox_23

noncomputable def fX8_isRoot (state : Nat → Int32) (x1 : Int32) : Option (Int32) :=
  ((fX8_keyPart state x1 0).bind fun q1 => (if q1 = (-6) then (some 1) else (some 0)))
set_option maxHeartbeats 1000000 in
set_option maxRecDepth 100000 in
theorem mX8_isRoot (l : Launch) (dC : Nat → ClassId) (dI : Nat → Nat → Nat) (cyI cyO : ClassId) (m0 m1 m2 m3 m4 m5 m6 : Nat) (state : Nat → Int32) (history : Nat → Int32) (recorded : Int32) (slots : Nat → Int32) (isSaved : Nat → Int32) (pad : Nat → Int32) (padLength : Int32) (opened : Nat → Int32) (pos : Int32) (letter : Int32) (first : Int32) (second : Int32) (x1 : Int32) (sz : Nat) (res : Int32) (h : fX8_isRoot state x1 = some res) : Met l yX8_isRoot (wsG yX8_isRoot cX8_isRoot 2 (some .boolean)) ({ frames := 1, cells := 0, slots := 0, locals := 22 }) (cP dC dI cyI cyO sz [.ref m0, .int x1] (modelW cyI m0 m1 m2 m3 m4 m5 m6 state history recorded slots isSaved pad padLength opened pos letter first second)) (cI dC dI res (modelW cyI m0 m1 m2 m3 m4 m5 m6 state history recorded slots isSaved pad padLength opened pos letter first second) (va_A (modelW cyI m0 m1 m2 m3 m4 m5 m6 state history recorded slots isSaved pad padLength opened pos letter first second) sz)) 0 0 (va_A (modelW cyI m0 m1 m2 m3 m4 m5 m6 state history recorded slots isSaved pad padLength opened pos letter first second) sz) := by
  refine Met.ofW (cc := cX8_isRoot) (maxL := 2) (ret := (some .boolean)) (by decide) rfl ?_
  intro p e s m args below meth c s₁ B hml hv
  obtain ⟨rfl, hsz, hP, hK, hD0⟩ := hv
  have hx := B.exec
  have hb := B.bytes
  have hr := B.returns
  have hts := atoms_spec (ws := wsG yX8_isRoot cX8_isRoot 2 (some .boolean)) B.pre
  have hown : s.vm.findClass RX8 = some m.cls := findClass_of_methodNamed B.named
  have hlocks := B.notSynchronized
  subst hsz
  have hD := hD0.self (sz := s.heap.size)
  generalize hAe : va_A (modelW cyI m0 m1 m2 m3 m4 m5 m6 state history recorded slots isSaved pad padLength opened pos letter first second) s.heap.size = A at hD ⊢
  have hA : ∀ q : Nat, s.heap.size ≤ q → A q := fun q h => by rw [← hAe]; exact Or.inr h
  have hS : va_S A s.heap s.heap [] := va_S.rf
  have hl := lv_entry ([.ref m0, .int x1]) (n := 2) (Nat.le_of_ble_eq_true rfl)
  rw [lg_entry_eq]
  generalize (lg_sl ([.ref m0, .int x1]) ++ List.replicate (2 - (lg_sl ([.ref m0, .int x1])).length) Slot.unset).toArray = ls at hl ⊢
  have hl : lv_has ls 2 [(0, .ref m0), (1, .int x1)] := hl
  unfold fX8_isRoot at h
  refine lv_aload_n hx hb dX8_isRoot_0 rfl (lv_at hl 0 rfl) ?_
  refine lv_iload_n hx hb dX8_isRoot_1 rfl (lv_at hl 1 rfl) ?_
  refine lv_iconst (v := 0) hx hb dX8_isRoot_2 (by decide) ?_
  obtain ⟨q1, e2, h⟩ := ob h
  refine fr_ir (M := (modelW cyI m0 m1 m2 m3 m4 m5 m6 state history recorded slots isSaved pad padLength opened pos letter first second)) (va_runV (As := [.int x1, .int 0]) (rest := []) ⟨hx, hb, hml, hown, hts⟩ (mX8_keyPart l dC dI cyI cyO m0 m1 m2 m3 m4 m5 m6 state history recorded slots isSaved pad padLength opened pos letter first second x1 0 _ q1 e2) (cwV 2 hts (gV ml_X8_44 im_X8_keyPart se_X8_keyPart in_X8 co_X8_keyPart) rfl rfl rfl (by decide +kernel) ⟨Nat.le_of_ble_eq_true rfl, Nat.le_of_ble_eq_true rfl⟩) (cP_V hK hP hD [0, 1, 2, 3, 4, 5, 6] rfl rfl 0 rfl rfl) rfl rfl hl.1 rfl (lv_room (Nat.le_of_ble_eq_true rfl)) dX8_isRoot_3 ⟨Nat.zero_le _, Nat.zero_le _⟩) hP hD hS hA [0, 1, 2, 3, 4, 5, 6] rfl (fun H locs hP hS => ?_)
  refine lv_bipush (v := (-6)) hx hb dX8_isRoot_6 (by decide) ?_
  refine lv_icmp_ne (tgt := 15) hx hb dX8_isRoot_8 (by decide) (fun c3 => ?_) (fun c3 => ?_)
  · have h := (if_neg c3).symm.trans h
    refine lv_iconst (v := 0) hx hb dX8_isRoot_15 (by decide) ?_
    obtain rfl := Option.some.inj h
    exact e_z (v := 0) hx hb hr hlocks rfl hP hS dX8_isRoot_16
  · have h := (if_pos c3).symm.trans h
    refine lv_iconst (v := 1) hx hb dX8_isRoot_11 (by decide) ?_
    refine lv_goto (tgt := 16) hx hb dX8_isRoot_12 (by decide) ?_
    obtain rfl := Option.some.inj h
    exact e_z (v := 1) hx hb hr hlocks rfl hP hS dX8_isRoot_16

noncomputable def fX8_canClose (state : Nat → Int32) (x1 : Int32) : Option (Int32) :=
  ((fX8_keyPart state x1 3).bind fun q1 => (if (0 : Int32) < 0 ∨ 844 ≤ (0 : Int32).toNatClampNeg then none else (if (state (0 : Int32).toNatClampNeg) ≤ q1 then (some 0) else (some 1))))
set_option maxHeartbeats 1000000 in
set_option maxRecDepth 100000 in
theorem mX8_canClose (l : Launch) (dC : Nat → ClassId) (dI : Nat → Nat → Nat) (cyI cyO : ClassId) (m0 m1 m2 m3 m4 m5 m6 : Nat) (state : Nat → Int32) (history : Nat → Int32) (recorded : Int32) (slots : Nat → Int32) (isSaved : Nat → Int32) (pad : Nat → Int32) (padLength : Int32) (opened : Nat → Int32) (pos : Int32) (letter : Int32) (first : Int32) (second : Int32) (x1 : Int32) (sz : Nat) (res : Int32) (h : fX8_canClose state x1 = some res) : Met l yX8_canClose (wsG yX8_canClose cX8_canClose 2 (some .boolean)) ({ frames := 1, cells := 0, slots := 0, locals := 22 }) (cP dC dI cyI cyO sz [.ref m0, .int x1] (modelW cyI m0 m1 m2 m3 m4 m5 m6 state history recorded slots isSaved pad padLength opened pos letter first second)) (cI dC dI res (modelW cyI m0 m1 m2 m3 m4 m5 m6 state history recorded slots isSaved pad padLength opened pos letter first second) (va_A (modelW cyI m0 m1 m2 m3 m4 m5 m6 state history recorded slots isSaved pad padLength opened pos letter first second) sz)) 0 0 (va_A (modelW cyI m0 m1 m2 m3 m4 m5 m6 state history recorded slots isSaved pad padLength opened pos letter first second) sz) := by
  refine Met.ofW (cc := cX8_canClose) (maxL := 2) (ret := (some .boolean)) (by decide) rfl ?_
  intro p e s m args below meth c s₁ B hml hv
  obtain ⟨rfl, hsz, hP, hK, hD0⟩ := hv
  have hx := B.exec
  have hb := B.bytes
  have hr := B.returns
  have hts := atoms_spec (ws := wsG yX8_canClose cX8_canClose 2 (some .boolean)) B.pre
  have hown : s.vm.findClass RX8 = some m.cls := findClass_of_methodNamed B.named
  have hlocks := B.notSynchronized
  subst hsz
  have hD := hD0.self (sz := s.heap.size)
  generalize hAe : va_A (modelW cyI m0 m1 m2 m3 m4 m5 m6 state history recorded slots isSaved pad padLength opened pos letter first second) s.heap.size = A at hD ⊢
  have hA : ∀ q : Nat, s.heap.size ≤ q → A q := fun q h => by rw [← hAe]; exact Or.inr h
  have hS : va_S A s.heap s.heap [] := va_S.rf
  have hl := lv_entry ([.ref m0, .int x1]) (n := 2) (Nat.le_of_ble_eq_true rfl)
  rw [lg_entry_eq]
  generalize (lg_sl ([.ref m0, .int x1]) ++ List.replicate (2 - (lg_sl ([.ref m0, .int x1])).length) Slot.unset).toArray = ls at hl ⊢
  have hl : lv_has ls 2 [(0, .ref m0), (1, .int x1)] := hl
  unfold fX8_canClose at h
  refine lv_aload_n hx hb dX8_canClose_0 rfl (lv_at hl 0 rfl) ?_
  refine lv_iload_n hx hb dX8_canClose_1 rfl (lv_at hl 1 rfl) ?_
  refine lv_iconst (v := 3) hx hb dX8_canClose_2 (by decide) ?_
  obtain ⟨q1, e2, h⟩ := ob h
  refine fr_ir (M := (modelW cyI m0 m1 m2 m3 m4 m5 m6 state history recorded slots isSaved pad padLength opened pos letter first second)) (va_runV (As := [.int x1, .int 3]) (rest := []) ⟨hx, hb, hml, hown, hts⟩ (mX8_keyPart l dC dI cyI cyO m0 m1 m2 m3 m4 m5 m6 state history recorded slots isSaved pad padLength opened pos letter first second x1 3 _ q1 e2) (cwV 2 hts (gV ml_X8_44 im_X8_keyPart se_X8_keyPart in_X8 co_X8_keyPart) rfl rfl rfl (by decide +kernel) ⟨Nat.le_of_ble_eq_true rfl, Nat.le_of_ble_eq_true rfl⟩) (cP_V hK hP hD [0, 1, 2, 3, 4, 5, 6] rfl rfl 0 rfl rfl) rfl rfl hl.1 rfl (lv_room (Nat.le_of_ble_eq_true rfl)) dX8_canClose_3 ⟨Nat.zero_le _, Nat.zero_le _⟩) hP hD hS hA [0, 1, 2, 3, 4, 5, 6] rfl (fun H locs hP hS => ?_)
  refine lv_aload_n hx hb dX8_canClose_6 rfl (lv_at hl 0 rfl) ?_
  refine va_get (D := (dC, dI)) (ci := 8) (v := .ref m1) (C := RX8) (T := TX8) (N := 12) hx hb hts (fun w h9 => gb_mem (lay_X8 w h9)) hown hK.1 hP 0 rfl rfl 0 (by decide) (hts _ (gb_mem fl_X8_7)) (fun _ h9 => h9) rfl dX8_canClose_7 ?_
  refine lv_iconst (v := 0) hx hb dX8_canClose_10 (by decide) ?_
  obtain ⟨ni3, h⟩ := ifn h
  refine va_iald hx hb hK.1 hP 1 0 rfl rfl ni3 dX8_canClose_11 ?_
  refine lv_icmp_ge (tgt := 19) hx hb dX8_canClose_12 (by decide) (fun c4 => ?_) (fun c4 => ?_)
  · have h := (if_pos c4).symm.trans h
    refine lv_iconst (v := 0) hx hb dX8_canClose_19 (by decide) ?_
    obtain rfl := Option.some.inj h
    exact e_z (v := 0) hx hb hr hlocks rfl hP hS dX8_canClose_20
  · have h := (if_neg c4).symm.trans h
    refine lv_iconst (v := 1) hx hb dX8_canClose_15 (by decide) ?_
    refine lv_goto (tgt := 20) hx hb dX8_canClose_16 (by decide) ?_
    obtain rfl := Option.some.inj h
    exact e_z (v := 1) hx hb hr hlocks rfl hP hS dX8_canClose_20
noncomputable def fX8_isUnder_b2 : Nat → (Nat → Int32) → Int32 → Int32 → Option (Int32)
  | 0, _, _, _ => none
  | fuel + 1, state, y2, y3 =>
  (if y3 = (-6) then (if y3 = y2 then (some 1) else (some 0)) else (if y3 = y2 then (if y3 = y2 then (some 1) else (some 0)) else ((fX8_keyPart state y3 0).bind fun q5 => fX8_isUnder_b2 fuel state y2 q5)))

noncomputable def fX8_isUnder (state : Nat → Int32) (x1 : Int32) (x2 : Int32) : Option (Int32) :=
  fX8_isUnder_b2 6000 state x2 x1
set_option maxHeartbeats 1000000 in
set_option maxRecDepth 100000 in
theorem mX8_isUnder (l : Launch) (dC : Nat → ClassId) (dI : Nat → Nat → Nat) (cyI cyO : ClassId) (m0 m1 m2 m3 m4 m5 m6 : Nat) (state : Nat → Int32) (history : Nat → Int32) (recorded : Int32) (slots : Nat → Int32) (isSaved : Nat → Int32) (pad : Nat → Int32) (padLength : Int32) (opened : Nat → Int32) (pos : Int32) (letter : Int32) (first : Int32) (second : Int32) (x1 : Int32) (x2 : Int32) (sz : Nat) (res : Int32) (h : fX8_isUnder state x1 x2 = some res) : Met l yX8_isUnder (wsG yX8_isUnder cX8_isUnder 4 (some .boolean)) ({ frames := 1, cells := 0, slots := 0, locals := 22 }) (cP dC dI cyI cyO sz [.ref m0, .int x1, .int x2] (modelW cyI m0 m1 m2 m3 m4 m5 m6 state history recorded slots isSaved pad padLength opened pos letter first second)) (cI dC dI res (modelW cyI m0 m1 m2 m3 m4 m5 m6 state history recorded slots isSaved pad padLength opened pos letter first second) (va_A (modelW cyI m0 m1 m2 m3 m4 m5 m6 state history recorded slots isSaved pad padLength opened pos letter first second) sz)) 0 0 (va_A (modelW cyI m0 m1 m2 m3 m4 m5 m6 state history recorded slots isSaved pad padLength opened pos letter first second) sz) := by
  refine Met.ofW (cc := cX8_isUnder) (maxL := 4) (ret := (some .boolean)) (by decide) rfl ?_
  intro p e s m args below meth c s₁ B hml hv
  obtain ⟨rfl, hsz, hP, hK, hD0⟩ := hv
  have hx := B.exec
  have hb := B.bytes
  have hr := B.returns
  have hts := atoms_spec (ws := wsG yX8_isUnder cX8_isUnder 4 (some .boolean)) B.pre
  have hown : s.vm.findClass RX8 = some m.cls := findClass_of_methodNamed B.named
  have hlocks := B.notSynchronized
  subst hsz
  have hD := hD0.self (sz := s.heap.size)
  generalize hAe : va_A (modelW cyI m0 m1 m2 m3 m4 m5 m6 state history recorded slots isSaved pad padLength opened pos letter first second) s.heap.size = A at hD ⊢
  have hA : ∀ q : Nat, s.heap.size ≤ q → A q := fun q h => by rw [← hAe]; exact Or.inr h
  have hS : va_S A s.heap s.heap [] := va_S.rf
  have kB2 : ∀ (fuel : Nat) (state : Nat → Int32) (y2 : Int32) (y3 : Int32), fX8_isUnder_b2 fuel state y2 y3 = some res → ∀ (H : Heap) (locs : List Loc), va_P (dC, dI) vwCl (modelW cyI m0 m1 m2 m3 m4 m5 m6 state history recorded slots isSaved pad padLength opened pos letter first second) H → va_D A (modelW cyI m0 m1 m2 m3 m4 m5 m6 state history recorded slots isSaved pad padLength opened pos letter first second) → va_S A s.heap H locs → ∀ ls : Array Slot, lv_has ls 4 [(0, .ref m0), (2, .int y2), (3, .int y3)] → W p l e (headSpec (wsG yX8_isUnder cX8_isUnder 4 (some .boolean)) ({ frames := 1, cells := 0, slots := 0, locals := 22 })).room s m (([.ref m0, .int x1, .int x2] : List Value).toArray) below meth c H locs 0 0 (MQ below (cI dC dI res (modelW cyI m0 m1 m2 m3 m4 m5 m6 state history recorded slots isSaved pad padLength opened pos letter first second) A) ([.ref m0, .int x1, .int x2] : List Value).toArray s 0 0 A) (F0 m 2 ls []) := by
    intro fuel
    induction fuel with
    | zero => intro state y2 y3 h; rw [fX8_isUnder_b2] at h; cases h
    | succ fuel ih =>
      intro state y2 y3 h H locs hP hD hS ls hl
      rw [fX8_isUnder_b2] at h
      refine lv_iload_n hx hb dX8_isUnder_2 rfl (lv_at hl 2 rfl) ?_
      refine lv_bipush (v := (-6)) hx hb dX8_isUnder_3 (by decide) ?_
      refine lv_icmp_eq (tgt := 23) hx hb dX8_isUnder_5 (by decide) (fun c1 => ?_) (fun c1 => ?_)
      · have h := (if_pos c1).symm.trans h
        refine lv_iload_n hx hb dX8_isUnder_23 rfl (lv_at hl 2 rfl) ?_
        refine lv_iload_n hx hb dX8_isUnder_24 rfl (lv_at hl 1 rfl) ?_
        refine lv_icmp_ne (tgt := 32) hx hb dX8_isUnder_25 (by decide) (fun c2 => ?_) (fun c2 => ?_)
        · have h := (if_neg c2).symm.trans h
          refine lv_iconst (v := 0) hx hb dX8_isUnder_32 (by decide) ?_
          obtain rfl := Option.some.inj h
          exact e_z (v := 0) hx hb hr hlocks rfl hP hS dX8_isUnder_33
        · have h := (if_pos c2).symm.trans h
          refine lv_iconst (v := 1) hx hb dX8_isUnder_28 (by decide) ?_
          refine lv_goto (tgt := 33) hx hb dX8_isUnder_29 (by decide) ?_
          obtain rfl := Option.some.inj h
          exact e_z (v := 1) hx hb hr hlocks rfl hP hS dX8_isUnder_33
      · have h := (if_neg c1).symm.trans h
        refine lv_iload_n hx hb dX8_isUnder_8 rfl (lv_at hl 2 rfl) ?_
        refine lv_iload_n hx hb dX8_isUnder_9 rfl (lv_at hl 1 rfl) ?_
        refine lv_icmp_eq (tgt := 23) hx hb dX8_isUnder_10 (by decide) (fun c3 => ?_) (fun c3 => ?_)
        · have h := (if_pos c3).symm.trans h
          refine lv_iload_n hx hb dX8_isUnder_23 rfl (lv_at hl 2 rfl) ?_
          refine lv_iload_n hx hb dX8_isUnder_24 rfl (lv_at hl 1 rfl) ?_
          refine lv_icmp_ne (tgt := 32) hx hb dX8_isUnder_25 (by decide) (fun c4 => ?_) (fun c4 => ?_)
          · have h := (if_neg c4).symm.trans h
            refine lv_iconst (v := 0) hx hb dX8_isUnder_32 (by decide) ?_
            obtain rfl := Option.some.inj h
            exact e_z (v := 0) hx hb hr hlocks rfl hP hS dX8_isUnder_33
          · have h := (if_pos c4).symm.trans h
            refine lv_iconst (v := 1) hx hb dX8_isUnder_28 (by decide) ?_
            refine lv_goto (tgt := 33) hx hb dX8_isUnder_29 (by decide) ?_
            obtain rfl := Option.some.inj h
            exact e_z (v := 1) hx hb hr hlocks rfl hP hS dX8_isUnder_33
        · have h := (if_neg c3).symm.trans h
          refine lv_aload_n hx hb dX8_isUnder_13 rfl (lv_at hl 0 rfl) ?_
          refine lv_iload_n hx hb dX8_isUnder_14 rfl (lv_at hl 2 rfl) ?_
          refine lv_iconst (v := 0) hx hb dX8_isUnder_15 (by decide) ?_
          obtain ⟨q5, e6, h⟩ := ob h
          refine fr_ir (M := (modelW cyI m0 m1 m2 m3 m4 m5 m6 state history recorded slots isSaved pad padLength opened pos letter first second)) (va_runV (As := [.int y3, .int 0]) (rest := []) ⟨hx, hb, hml, hown, hts⟩ (mX8_keyPart l dC dI cyI cyO m0 m1 m2 m3 m4 m5 m6 state history recorded slots isSaved pad padLength opened pos letter first second y3 0 _ q5 e6) (cwV 2 hts (gV ml_X8_44 im_X8_keyPart se_X8_keyPart in_X8 co_X8_keyPart) rfl rfl rfl (by decide +kernel) ⟨Nat.le_of_ble_eq_true rfl, Nat.le_of_ble_eq_true rfl⟩) (cP_V hK hP hD [0, 1, 2, 3, 4, 5, 6] rfl rfl 0 rfl rfl) rfl rfl hl.1 rfl (lv_room (Nat.le_of_ble_eq_true rfl)) dX8_isUnder_16 ⟨Nat.zero_le _, Nat.zero_le _⟩) hP hD hS hA [0, 1, 2, 3, 4, 5, 6] rfl (fun H locs hP hS => ?_)
          refine lv_istore_n (lv' := [(3, .int q5), (0, .ref m0), (2, .int y2)]) hx hb dX8_isUnder_19 rfl hl (by decide) rfl (fun ls hl => ?_)
          refine lv_goto (tgt := 2) hx hb dX8_isUnder_20 (by decide) ?_
          exact ih state y2 q5 h _ _ hP hD hS ls (lv_sub hl [1, 2, 0] rfl)
  have hl := lv_entry ([.ref m0, .int x1, .int x2]) (n := 4) (Nat.le_of_ble_eq_true rfl)
  rw [lg_entry_eq]
  generalize (lg_sl ([.ref m0, .int x1, .int x2]) ++ List.replicate (4 - (lg_sl ([.ref m0, .int x1, .int x2])).length) Slot.unset).toArray = ls at hl ⊢
  have hl : lv_has ls 4 [(0, .ref m0), (1, .int x1), (2, .int x2)] := hl
  unfold fX8_isUnder at h
  refine lv_iload_n hx hb dX8_isUnder_0 rfl (lv_at hl 1 rfl) ?_
  refine lv_istore_n (lv' := [(3, .int x1), (0, .ref m0), (1, .int x1), (2, .int x2)]) hx hb dX8_isUnder_1 rfl hl (by decide) rfl (fun ls hl => ?_)
  exact kB2 6000 state x2 x1 h _ _ hP hD hS ls (lv_sub hl [1, 3, 0] rfl)
noncomputable def fX8_above_b9 : Nat → (Nat → Int32) → Int32 → Int32 → Option (Int32)
  | 0, _, _, _ => none
  | fuel + 1, state, y2, y3 =>
  (if y3 = (-6) then (some y2) else ((fX8_keyPart state y3 0).bind fun q2 => fX8_above_b9 fuel state (y2 + 1) q2))

noncomputable def fX8_above (state : Nat → Int32) (x1 : Int32) : Option (Int32) :=
  ((fX8_keyPart state x1 0).bind fun q4 => fX8_above_b9 6000 state 0 q4)
set_option maxHeartbeats 1000000 in
set_option maxRecDepth 100000 in
theorem mX8_above (l : Launch) (dC : Nat → ClassId) (dI : Nat → Nat → Nat) (cyI cyO : ClassId) (m0 m1 m2 m3 m4 m5 m6 : Nat) (state : Nat → Int32) (history : Nat → Int32) (recorded : Int32) (slots : Nat → Int32) (isSaved : Nat → Int32) (pad : Nat → Int32) (padLength : Int32) (opened : Nat → Int32) (pos : Int32) (letter : Int32) (first : Int32) (second : Int32) (x1 : Int32) (sz : Nat) (res : Int32) (h : fX8_above state x1 = some res) : Met l yX8_above (wsG yX8_above cX8_above 4 (some .int)) ({ frames := 1, cells := 0, slots := 0, locals := 22 }) (cP dC dI cyI cyO sz [.ref m0, .int x1] (modelW cyI m0 m1 m2 m3 m4 m5 m6 state history recorded slots isSaved pad padLength opened pos letter first second)) (cI dC dI res (modelW cyI m0 m1 m2 m3 m4 m5 m6 state history recorded slots isSaved pad padLength opened pos letter first second) (va_A (modelW cyI m0 m1 m2 m3 m4 m5 m6 state history recorded slots isSaved pad padLength opened pos letter first second) sz)) 0 0 (va_A (modelW cyI m0 m1 m2 m3 m4 m5 m6 state history recorded slots isSaved pad padLength opened pos letter first second) sz) := by
  refine Met.ofW (cc := cX8_above) (maxL := 4) (ret := (some .int)) (by decide) rfl ?_
  intro p e s m args below meth c s₁ B hml hv
  obtain ⟨rfl, hsz, hP, hK, hD0⟩ := hv
  have hx := B.exec
  have hb := B.bytes
  have hr := B.returns
  have hts := atoms_spec (ws := wsG yX8_above cX8_above 4 (some .int)) B.pre
  have hown : s.vm.findClass RX8 = some m.cls := findClass_of_methodNamed B.named
  have hlocks := B.notSynchronized
  subst hsz
  have hD := hD0.self (sz := s.heap.size)
  generalize hAe : va_A (modelW cyI m0 m1 m2 m3 m4 m5 m6 state history recorded slots isSaved pad padLength opened pos letter first second) s.heap.size = A at hD ⊢
  have hA : ∀ q : Nat, s.heap.size ≤ q → A q := fun q h => by rw [← hAe]; exact Or.inr h
  have hS : va_S A s.heap s.heap [] := va_S.rf
  have kB9 : ∀ (fuel : Nat) (state : Nat → Int32) (y2 : Int32) (y3 : Int32), fX8_above_b9 fuel state y2 y3 = some res → ∀ (H : Heap) (locs : List Loc), va_P (dC, dI) vwCl (modelW cyI m0 m1 m2 m3 m4 m5 m6 state history recorded slots isSaved pad padLength opened pos letter first second) H → va_D A (modelW cyI m0 m1 m2 m3 m4 m5 m6 state history recorded slots isSaved pad padLength opened pos letter first second) → va_S A s.heap H locs → ∀ ls : Array Slot, lv_has ls 4 [(0, .ref m0), (2, .int y2), (3, .int y3)] → W p l e (headSpec (wsG yX8_above cX8_above 4 (some .int)) ({ frames := 1, cells := 0, slots := 0, locals := 22 })).room s m (([.ref m0, .int x1] : List Value).toArray) below meth c H locs 0 0 (MQ below (cI dC dI res (modelW cyI m0 m1 m2 m3 m4 m5 m6 state history recorded slots isSaved pad padLength opened pos letter first second) A) ([.ref m0, .int x1] : List Value).toArray s 0 0 A) (F0 m 9 ls []) := by
    intro fuel
    induction fuel with
    | zero => intro state y2 y3 h; rw [fX8_above_b9] at h; cases h
    | succ fuel ih =>
      intro state y2 y3 h H locs hP hD hS ls hl
      rw [fX8_above_b9] at h
      refine lv_iload_n hx hb dX8_above_9 rfl (lv_at hl 2 rfl) ?_
      refine lv_bipush (v := (-6)) hx hb dX8_above_10 (by decide) ?_
      refine lv_icmp_eq (tgt := 28) hx hb dX8_above_12 (by decide) (fun c1 => ?_) (fun c1 => ?_)
      · have h := (if_pos c1).symm.trans h
        refine lv_iload_n hx hb dX8_above_28 rfl (lv_at hl 1 rfl) ?_
        obtain rfl := Option.some.inj h
        exact e_i hx hb hr hlocks hP hS dX8_above_29
      · have h := (if_neg c1).symm.trans h
        refine lv_iinc (v := (y2 + 1)) (lv' := [(2, .int (y2 + 1)), (0, .ref m0), (3, .int y3)]) hx hb dX8_above_15 hl (k := 1) rfl rfl (by decide) rfl (fun ls hl => ?_)
        refine lv_aload_n hx hb dX8_above_18 rfl (lv_at hl 1 rfl) ?_
        refine lv_iload_n hx hb dX8_above_19 rfl (lv_at hl 2 rfl) ?_
        refine lv_iconst (v := 0) hx hb dX8_above_20 (by decide) ?_
        obtain ⟨q2, e3, h⟩ := ob h
        refine fr_ir (M := (modelW cyI m0 m1 m2 m3 m4 m5 m6 state history recorded slots isSaved pad padLength opened pos letter first second)) (va_runV (As := [.int y3, .int 0]) (rest := []) ⟨hx, hb, hml, hown, hts⟩ (mX8_keyPart l dC dI cyI cyO m0 m1 m2 m3 m4 m5 m6 state history recorded slots isSaved pad padLength opened pos letter first second y3 0 _ q2 e3) (cwV 2 hts (gV ml_X8_44 im_X8_keyPart se_X8_keyPart in_X8 co_X8_keyPart) rfl rfl rfl (by decide +kernel) ⟨Nat.le_of_ble_eq_true rfl, Nat.le_of_ble_eq_true rfl⟩) (cP_V hK hP hD [0, 1, 2, 3, 4, 5, 6] rfl rfl 0 rfl rfl) rfl rfl hl.1 rfl (lv_room (Nat.le_of_ble_eq_true rfl)) dX8_above_21 ⟨Nat.zero_le _, Nat.zero_le _⟩) hP hD hS hA [0, 1, 2, 3, 4, 5, 6] rfl (fun H locs hP hS => ?_)
        refine lv_istore_n (lv' := [(3, .int q2), (2, .int (y2 + 1)), (0, .ref m0)]) hx hb dX8_above_24 rfl hl (by decide) rfl (fun ls hl => ?_)
        refine lv_goto (tgt := 9) hx hb dX8_above_25 (by decide) ?_
        exact ih state (y2 + 1) q2 h _ _ hP hD hS ls (lv_sub hl [2, 1, 0] rfl)
  have hl := lv_entry ([.ref m0, .int x1]) (n := 4) (Nat.le_of_ble_eq_true rfl)
  rw [lg_entry_eq]
  generalize (lg_sl ([.ref m0, .int x1]) ++ List.replicate (4 - (lg_sl ([.ref m0, .int x1])).length) Slot.unset).toArray = ls at hl ⊢
  have hl : lv_has ls 4 [(0, .ref m0), (1, .int x1)] := hl
  unfold fX8_above at h
  refine lv_iconst (v := 0) hx hb dX8_above_0 (by decide) ?_
  refine lv_istore_n (lv' := [(2, .int 0), (0, .ref m0), (1, .int x1)]) hx hb dX8_above_1 rfl hl (by decide) rfl (fun ls hl => ?_)
  refine lv_aload_n hx hb dX8_above_2 rfl (lv_at hl 1 rfl) ?_
  refine lv_iload_n hx hb dX8_above_3 rfl (lv_at hl 2 rfl) ?_
  refine lv_iconst (v := 0) hx hb dX8_above_4 (by decide) ?_
  obtain ⟨q4, e5, h⟩ := ob h
  refine fr_ir (M := (modelW cyI m0 m1 m2 m3 m4 m5 m6 state history recorded slots isSaved pad padLength opened pos letter first second)) (va_runV (As := [.int x1, .int 0]) (rest := []) ⟨hx, hb, hml, hown, hts⟩ (mX8_keyPart l dC dI cyI cyO m0 m1 m2 m3 m4 m5 m6 state history recorded slots isSaved pad padLength opened pos letter first second x1 0 _ q4 e5) (cwV 2 hts (gV ml_X8_44 im_X8_keyPart se_X8_keyPart in_X8 co_X8_keyPart) rfl rfl rfl (by decide +kernel) ⟨Nat.le_of_ble_eq_true rfl, Nat.le_of_ble_eq_true rfl⟩) (cP_V hK hP hD [0, 1, 2, 3, 4, 5, 6] rfl rfl 0 rfl rfl) rfl rfl hl.1 rfl (lv_room (Nat.le_of_ble_eq_true rfl)) dX8_above_5 ⟨Nat.zero_le _, Nat.zero_le _⟩) hP hD hS hA [0, 1, 2, 3, 4, 5, 6] rfl (fun H locs hP hS => ?_)
  refine lv_istore_n (lv' := [(3, .int q4), (2, .int 0), (0, .ref m0), (1, .int x1)]) hx hb dX8_above_8 rfl hl (by decide) rfl (fun ls hl => ?_)
  exact kB9 6000 state 0 q4 h _ _ hP hD hS ls (lv_sub hl [2, 1, 0] rfl)
noncomputable def fX8_higher_b5 : Nat → (Nat → Int32) → Int32 → Int32 → Int32 → Option (Int32)
  | 0, _, _, _, _ => none
  | fuel + 1, state, y2, y3, y4 =>
  (if y2 ≤ y4 then (some y3) else ((fX8_keyPart state y3 0).bind fun q2 => fX8_higher_b5 fuel state y2 q2 (y4 + 1)))

noncomputable def fX8_higher (state : Nat → Int32) (x1 : Int32) (x2 : Int32) : Option (Int32) :=
  fX8_higher_b5 6000 state x2 x1 0
set_option maxHeartbeats 1000000 in
set_option maxRecDepth 100000 in
theorem mX8_higher (l : Launch) (dC : Nat → ClassId) (dI : Nat → Nat → Nat) (cyI cyO : ClassId) (m0 m1 m2 m3 m4 m5 m6 : Nat) (state : Nat → Int32) (history : Nat → Int32) (recorded : Int32) (slots : Nat → Int32) (isSaved : Nat → Int32) (pad : Nat → Int32) (padLength : Int32) (opened : Nat → Int32) (pos : Int32) (letter : Int32) (first : Int32) (second : Int32) (x1 : Int32) (x2 : Int32) (sz : Nat) (res : Int32) (h : fX8_higher state x1 x2 = some res) : Met l yX8_higher (wsG yX8_higher cX8_higher 5 (some .int)) ({ frames := 1, cells := 0, slots := 0, locals := 22 }) (cP dC dI cyI cyO sz [.ref m0, .int x1, .int x2] (modelW cyI m0 m1 m2 m3 m4 m5 m6 state history recorded slots isSaved pad padLength opened pos letter first second)) (cI dC dI res (modelW cyI m0 m1 m2 m3 m4 m5 m6 state history recorded slots isSaved pad padLength opened pos letter first second) (va_A (modelW cyI m0 m1 m2 m3 m4 m5 m6 state history recorded slots isSaved pad padLength opened pos letter first second) sz)) 0 0 (va_A (modelW cyI m0 m1 m2 m3 m4 m5 m6 state history recorded slots isSaved pad padLength opened pos letter first second) sz) := by
  refine Met.ofW (cc := cX8_higher) (maxL := 5) (ret := (some .int)) (by decide) rfl ?_
  intro p e s m args below meth c s₁ B hml hv
  obtain ⟨rfl, hsz, hP, hK, hD0⟩ := hv
  have hx := B.exec
  have hb := B.bytes
  have hr := B.returns
  have hts := atoms_spec (ws := wsG yX8_higher cX8_higher 5 (some .int)) B.pre
  have hown : s.vm.findClass RX8 = some m.cls := findClass_of_methodNamed B.named
  have hlocks := B.notSynchronized
  subst hsz
  have hD := hD0.self (sz := s.heap.size)
  generalize hAe : va_A (modelW cyI m0 m1 m2 m3 m4 m5 m6 state history recorded slots isSaved pad padLength opened pos letter first second) s.heap.size = A at hD ⊢
  have hA : ∀ q : Nat, s.heap.size ≤ q → A q := fun q h => by rw [← hAe]; exact Or.inr h
  have hS : va_S A s.heap s.heap [] := va_S.rf
  have kB5 : ∀ (fuel : Nat) (state : Nat → Int32) (y2 : Int32) (y3 : Int32) (y4 : Int32), fX8_higher_b5 fuel state y2 y3 y4 = some res → ∀ (H : Heap) (locs : List Loc), va_P (dC, dI) vwCl (modelW cyI m0 m1 m2 m3 m4 m5 m6 state history recorded slots isSaved pad padLength opened pos letter first second) H → va_D A (modelW cyI m0 m1 m2 m3 m4 m5 m6 state history recorded slots isSaved pad padLength opened pos letter first second) → va_S A s.heap H locs → ∀ ls : Array Slot, lv_has ls 5 [(0, .ref m0), (2, .int y2), (3, .int y3), (4, .int y4)] → W p l e (headSpec (wsG yX8_higher cX8_higher 5 (some .int)) ({ frames := 1, cells := 0, slots := 0, locals := 22 })).room s m (([.ref m0, .int x1, .int x2] : List Value).toArray) below meth c H locs 0 0 (MQ below (cI dC dI res (modelW cyI m0 m1 m2 m3 m4 m5 m6 state history recorded slots isSaved pad padLength opened pos letter first second) A) ([.ref m0, .int x1, .int x2] : List Value).toArray s 0 0 A) (F0 m 5 ls []) := by
    intro fuel
    induction fuel with
    | zero => intro state y2 y3 y4 h; rw [fX8_higher_b5] at h; cases h
    | succ fuel ih =>
      intro state y2 y3 y4 h H locs hP hD hS ls hl
      rw [fX8_higher_b5] at h
      refine lv_iload hx hb dX8_higher_5 (lv_at hl 3 rfl) ?_
      refine lv_iload_n hx hb dX8_higher_7 rfl (lv_at hl 1 rfl) ?_
      refine lv_icmp_ge (tgt := 24) hx hb dX8_higher_8 (by decide) (fun c1 => ?_) (fun c1 => ?_)
      · have h := (if_pos c1).symm.trans h
        refine lv_iload_n hx hb dX8_higher_24 rfl (lv_at hl 2 rfl) ?_
        obtain rfl := Option.some.inj h
        exact e_i hx hb hr hlocks hP hS dX8_higher_25
      · have h := (if_neg c1).symm.trans h
        refine lv_aload_n hx hb dX8_higher_11 rfl (lv_at hl 0 rfl) ?_
        refine lv_iload_n hx hb dX8_higher_12 rfl (lv_at hl 2 rfl) ?_
        refine lv_iconst (v := 0) hx hb dX8_higher_13 (by decide) ?_
        obtain ⟨q2, e3, h⟩ := ob h
        refine fr_ir (M := (modelW cyI m0 m1 m2 m3 m4 m5 m6 state history recorded slots isSaved pad padLength opened pos letter first second)) (va_runV (As := [.int y3, .int 0]) (rest := []) ⟨hx, hb, hml, hown, hts⟩ (mX8_keyPart l dC dI cyI cyO m0 m1 m2 m3 m4 m5 m6 state history recorded slots isSaved pad padLength opened pos letter first second y3 0 _ q2 e3) (cwV 2 hts (gV ml_X8_44 im_X8_keyPart se_X8_keyPart in_X8 co_X8_keyPart) rfl rfl rfl (by decide +kernel) ⟨Nat.le_of_ble_eq_true rfl, Nat.le_of_ble_eq_true rfl⟩) (cP_V hK hP hD [0, 1, 2, 3, 4, 5, 6] rfl rfl 0 rfl rfl) rfl rfl hl.1 rfl (lv_room (Nat.le_of_ble_eq_true rfl)) dX8_higher_14 ⟨Nat.zero_le _, Nat.zero_le _⟩) hP hD hS hA [0, 1, 2, 3, 4, 5, 6] rfl (fun H locs hP hS => ?_)
        refine lv_istore_n (lv' := [(3, .int q2), (0, .ref m0), (2, .int y2), (4, .int y4)]) hx hb dX8_higher_17 rfl hl (by decide) rfl (fun ls hl => ?_)
        refine lv_iinc (v := (y4 + 1)) (lv' := [(4, .int (y4 + 1)), (3, .int q2), (0, .ref m0), (2, .int y2)]) hx hb dX8_higher_18 hl (k := 3) rfl rfl (by decide) rfl (fun ls hl => ?_)
        refine lv_goto (tgt := 5) hx hb dX8_higher_21 (by decide) ?_
        exact ih state y2 q2 (y4 + 1) h _ _ hP hD hS ls (lv_sub hl [2, 3, 1, 0] rfl)
  have hl := lv_entry ([.ref m0, .int x1, .int x2]) (n := 5) (Nat.le_of_ble_eq_true rfl)
  rw [lg_entry_eq]
  generalize (lg_sl ([.ref m0, .int x1, .int x2]) ++ List.replicate (5 - (lg_sl ([.ref m0, .int x1, .int x2])).length) Slot.unset).toArray = ls at hl ⊢
  have hl : lv_has ls 5 [(0, .ref m0), (1, .int x1), (2, .int x2)] := hl
  unfold fX8_higher at h
  refine lv_iload_n hx hb dX8_higher_0 rfl (lv_at hl 1 rfl) ?_
  refine lv_istore_n (lv' := [(3, .int x1), (0, .ref m0), (1, .int x1), (2, .int x2)]) hx hb dX8_higher_1 rfl hl (by decide) rfl (fun ls hl => ?_)
  refine lv_iconst (v := 0) hx hb dX8_higher_2 (by decide) ?_
  refine lv_istore (lv' := [(4, .int 0), (3, .int x1), (0, .ref m0), (1, .int x1), (2, .int x2)]) hx hb dX8_higher_3 hl (by decide) rfl (fun ls hl => ?_)
  exact kB5 6000 state x2 x1 0 h _ _ hP hD hS ls (lv_sub hl [2, 4, 1, 0] rfl)
noncomputable def fX8_hangingKeys_b4 : Nat → (Nat → Int32) → Int32 → Int32 → Int32 → Option (Int32)
  | 0, _, _, _, _ => none
  | fuel + 1, state, y1, y2, y3 =>
  (if (1 : Int32) < 0 ∨ 844 ≤ (1 : Int32).toNatClampNeg then none else (if (state (1 : Int32).toNatClampNeg) ≤ y3 then (some y2) else ((fX8_keyPart state y3 1).bind fun q3 => (if q3 = 1 then ((fX8_keyPart state y3 0).bind fun q6 => (if q6 = y1 then fX8_hangingKeys_b4 fuel state y1 (y2 ||| (1 <<< (y3 &&& 31))) (y3 + 1) else fX8_hangingKeys_b4 fuel state y1 (y2 ||| 0) (y3 + 1))) else fX8_hangingKeys_b4 fuel state y1 (y2 ||| 0) (y3 + 1)))))

noncomputable def fX8_hangingKeys (state : Nat → Int32) (x1 : Int32) : Option (Int32) :=
  fX8_hangingKeys_b4 6000 state x1 0 0
set_option maxHeartbeats 1000000 in
set_option maxRecDepth 100000 in
theorem mX8_hangingKeys (l : Launch) (dC : Nat → ClassId) (dI : Nat → Nat → Nat) (cyI cyO : ClassId) (m0 m1 m2 m3 m4 m5 m6 : Nat) (state : Nat → Int32) (history : Nat → Int32) (recorded : Int32) (slots : Nat → Int32) (isSaved : Nat → Int32) (pad : Nat → Int32) (padLength : Int32) (opened : Nat → Int32) (pos : Int32) (letter : Int32) (first : Int32) (second : Int32) (x1 : Int32) (sz : Nat) (res : Int32) (h : fX8_hangingKeys state x1 = some res) : Met l yX8_hangingKeys (wsG yX8_hangingKeys cX8_hangingKeys 4 (some .int)) ({ frames := 1, cells := 0, slots := 0, locals := 22 }) (cP dC dI cyI cyO sz [.ref m0, .int x1] (modelW cyI m0 m1 m2 m3 m4 m5 m6 state history recorded slots isSaved pad padLength opened pos letter first second)) (cI dC dI res (modelW cyI m0 m1 m2 m3 m4 m5 m6 state history recorded slots isSaved pad padLength opened pos letter first second) (va_A (modelW cyI m0 m1 m2 m3 m4 m5 m6 state history recorded slots isSaved pad padLength opened pos letter first second) sz)) 0 0 (va_A (modelW cyI m0 m1 m2 m3 m4 m5 m6 state history recorded slots isSaved pad padLength opened pos letter first second) sz) := by
  refine Met.ofW (cc := cX8_hangingKeys) (maxL := 4) (ret := (some .int)) (by decide) rfl ?_
  intro p e s m args below meth c s₁ B hml hv
  obtain ⟨rfl, hsz, hP, hK, hD0⟩ := hv
  have hx := B.exec
  have hb := B.bytes
  have hr := B.returns
  have hts := atoms_spec (ws := wsG yX8_hangingKeys cX8_hangingKeys 4 (some .int)) B.pre
  have hown : s.vm.findClass RX8 = some m.cls := findClass_of_methodNamed B.named
  have hlocks := B.notSynchronized
  subst hsz
  have hD := hD0.self (sz := s.heap.size)
  generalize hAe : va_A (modelW cyI m0 m1 m2 m3 m4 m5 m6 state history recorded slots isSaved pad padLength opened pos letter first second) s.heap.size = A at hD ⊢
  have hA : ∀ q : Nat, s.heap.size ≤ q → A q := fun q h => by rw [← hAe]; exact Or.inr h
  have hS : va_S A s.heap s.heap [] := va_S.rf
  have kB4 : ∀ (fuel : Nat) (state : Nat → Int32) (y1 : Int32) (y2 : Int32) (y3 : Int32), fX8_hangingKeys_b4 fuel state y1 y2 y3 = some res → ∀ (H : Heap) (locs : List Loc), va_P (dC, dI) vwCl (modelW cyI m0 m1 m2 m3 m4 m5 m6 state history recorded slots isSaved pad padLength opened pos letter first second) H → va_D A (modelW cyI m0 m1 m2 m3 m4 m5 m6 state history recorded slots isSaved pad padLength opened pos letter first second) → va_S A s.heap H locs → ∀ ls : Array Slot, lv_has ls 4 [(0, .ref m0), (1, .int y1), (2, .int y2), (3, .int y3)] → W p l e (headSpec (wsG yX8_hangingKeys cX8_hangingKeys 4 (some .int)) ({ frames := 1, cells := 0, slots := 0, locals := 22 })).room s m (([.ref m0, .int x1] : List Value).toArray) below meth c H locs 0 0 (MQ below (cI dC dI res (modelW cyI m0 m1 m2 m3 m4 m5 m6 state history recorded slots isSaved pad padLength opened pos letter first second) A) ([.ref m0, .int x1] : List Value).toArray s 0 0 A) (F0 m 4 ls []) := by
    intro fuel
    induction fuel with
    | zero => intro state y1 y2 y3 h; rw [fX8_hangingKeys_b4] at h; cases h
    | succ fuel ih =>
      intro state y1 y2 y3 h H locs hP hD hS ls hl
      rw [fX8_hangingKeys_b4] at h
      refine lv_iload_n hx hb dX8_hangingKeys_4 rfl (lv_at hl 3 rfl) ?_
      refine lv_aload_n hx hb dX8_hangingKeys_5 rfl (lv_at hl 0 rfl) ?_
      refine va_get (D := (dC, dI)) (ci := 8) (v := .ref m1) (C := RX8) (T := TX8) (N := 12) hx hb hts (fun w h9 => gb_mem (lay_X8 w h9)) hown hK.1 hP 0 rfl rfl 0 (by decide) (hts _ (gb_mem fl_X8_7)) (fun _ h9 => h9) rfl dX8_hangingKeys_6 ?_
      refine lv_iconst (v := 1) hx hb dX8_hangingKeys_9 (by decide) ?_
      obtain ⟨ni1, h⟩ := ifn h
      refine va_iald hx hb hK.1 hP 1 0 rfl rfl ni1 dX8_hangingKeys_10 ?_
      refine lv_icmp_ge (tgt := 50) hx hb dX8_hangingKeys_11 (by decide) (fun c2 => ?_) (fun c2 => ?_)
      · have h := (if_pos c2).symm.trans h
        refine lv_iload_n hx hb dX8_hangingKeys_50 rfl (lv_at hl 2 rfl) ?_
        obtain rfl := Option.some.inj h
        exact e_i hx hb hr hlocks hP hS dX8_hangingKeys_51
      · have h := (if_neg c2).symm.trans h
        refine lv_iload_n hx hb dX8_hangingKeys_14 rfl (lv_at hl 2 rfl) ?_
        refine lv_aload_n hx hb dX8_hangingKeys_15 rfl (lv_at hl 0 rfl) ?_
        refine lv_iload_n hx hb dX8_hangingKeys_16 rfl (lv_at hl 3 rfl) ?_
        refine lv_iconst (v := 1) hx hb dX8_hangingKeys_17 (by decide) ?_
        obtain ⟨q3, e4, h⟩ := ob h
        refine fr_ir (M := (modelW cyI m0 m1 m2 m3 m4 m5 m6 state history recorded slots isSaved pad padLength opened pos letter first second)) (va_runV (As := [.int y3, .int 1]) (rest := [.int y2]) ⟨hx, hb, hml, hown, hts⟩ (mX8_keyPart l dC dI cyI cyO m0 m1 m2 m3 m4 m5 m6 state history recorded slots isSaved pad padLength opened pos letter first second y3 1 _ q3 e4) (cwV 2 hts (gV ml_X8_44 im_X8_keyPart se_X8_keyPart in_X8 co_X8_keyPart) rfl rfl rfl (by decide +kernel) ⟨Nat.le_of_ble_eq_true rfl, Nat.le_of_ble_eq_true rfl⟩) (cP_V hK hP hD [0, 1, 2, 3, 4, 5, 6] rfl rfl 0 rfl rfl) rfl rfl hl.1 rfl (lv_room (Nat.le_of_ble_eq_true rfl)) dX8_hangingKeys_18 ⟨Nat.zero_le _, Nat.zero_le _⟩) hP hD hS hA [0, 1, 2, 3, 4, 5, 6] rfl (fun H locs hP hS => ?_)
        refine lv_iconst (v := 1) hx hb dX8_hangingKeys_21 (by decide) ?_
        refine lv_icmp_ne (tgt := 41) hx hb dX8_hangingKeys_22 (by decide) (fun c5 => ?_) (fun c5 => ?_)
        · have h := (if_neg c5).symm.trans h
          refine lv_iconst (v := 0) hx hb dX8_hangingKeys_41 (by decide) ?_
          refine lv_ior hx hb dX8_hangingKeys_42 ?_
          refine lv_istore_n (lv' := [(2, .int (y2 ||| 0)), (0, .ref m0), (1, .int y1), (3, .int y3)]) hx hb dX8_hangingKeys_43 rfl hl (by decide) rfl (fun ls hl => ?_)
          refine lv_iinc (v := (y3 + 1)) (lv' := [(3, .int (y3 + 1)), (2, .int (y2 ||| 0)), (0, .ref m0), (1, .int y1)]) hx hb dX8_hangingKeys_44 hl (k := 3) rfl rfl (by decide) rfl (fun ls hl => ?_)
          refine lv_goto (tgt := 4) hx hb dX8_hangingKeys_47 (by decide) ?_
          exact ih state y1 (y2 ||| 0) (y3 + 1) h _ _ hP hD hS ls (lv_sub hl [2, 3, 1, 0] rfl)
        · have h := (if_pos c5).symm.trans h
          refine lv_aload_n hx hb dX8_hangingKeys_25 rfl (lv_at hl 0 rfl) ?_
          refine lv_iload_n hx hb dX8_hangingKeys_26 rfl (lv_at hl 3 rfl) ?_
          refine lv_iconst (v := 0) hx hb dX8_hangingKeys_27 (by decide) ?_
          obtain ⟨q6, e7, h⟩ := ob h
          refine fr_ir (M := (modelW cyI m0 m1 m2 m3 m4 m5 m6 state history recorded slots isSaved pad padLength opened pos letter first second)) (va_runV (As := [.int y3, .int 0]) (rest := [.int y2]) ⟨hx, hb, hml, hown, hts⟩ (mX8_keyPart l dC dI cyI cyO m0 m1 m2 m3 m4 m5 m6 state history recorded slots isSaved pad padLength opened pos letter first second y3 0 _ q6 e7) (cwV 2 hts (gV ml_X8_44 im_X8_keyPart se_X8_keyPart in_X8 co_X8_keyPart) rfl rfl rfl (by decide +kernel) ⟨Nat.le_of_ble_eq_true rfl, Nat.le_of_ble_eq_true rfl⟩) (cP_V hK hP hD [0, 1, 2, 3, 4, 5, 6] rfl rfl 0 rfl rfl) rfl rfl hl.1 rfl (lv_room (Nat.le_of_ble_eq_true rfl)) dX8_hangingKeys_28 ⟨Nat.zero_le _, Nat.zero_le _⟩) hP hD hS hA [0, 1, 2, 3, 4, 5, 6] rfl (fun H locs hP hS => ?_)
          refine lv_iload_n hx hb dX8_hangingKeys_31 rfl (lv_at hl 1 rfl) ?_
          refine lv_icmp_ne (tgt := 41) hx hb dX8_hangingKeys_32 (by decide) (fun c8 => ?_) (fun c8 => ?_)
          · have h := (if_neg c8).symm.trans h
            refine lv_iconst (v := 0) hx hb dX8_hangingKeys_41 (by decide) ?_
            refine lv_ior hx hb dX8_hangingKeys_42 ?_
            refine lv_istore_n (lv' := [(2, .int (y2 ||| 0)), (0, .ref m0), (1, .int y1), (3, .int y3)]) hx hb dX8_hangingKeys_43 rfl hl (by decide) rfl (fun ls hl => ?_)
            refine lv_iinc (v := (y3 + 1)) (lv' := [(3, .int (y3 + 1)), (2, .int (y2 ||| 0)), (0, .ref m0), (1, .int y1)]) hx hb dX8_hangingKeys_44 hl (k := 3) rfl rfl (by decide) rfl (fun ls hl => ?_)
            refine lv_goto (tgt := 4) hx hb dX8_hangingKeys_47 (by decide) ?_
            exact ih state y1 (y2 ||| 0) (y3 + 1) h _ _ hP hD hS ls (lv_sub hl [2, 3, 1, 0] rfl)
          · have h := (if_pos c8).symm.trans h
            refine lv_iconst (v := 1) hx hb dX8_hangingKeys_35 (by decide) ?_
            refine lv_iload_n hx hb dX8_hangingKeys_36 rfl (lv_at hl 3 rfl) ?_
            refine lv_ishl hx hb dX8_hangingKeys_37 ?_
            refine lv_goto (tgt := 42) hx hb dX8_hangingKeys_38 (by decide) ?_
            refine lv_ior hx hb dX8_hangingKeys_42 ?_
            refine lv_istore_n (lv' := [(2, .int (y2 ||| (1 <<< (y3 &&& 31)))), (0, .ref m0), (1, .int y1), (3, .int y3)]) hx hb dX8_hangingKeys_43 rfl hl (by decide) rfl (fun ls hl => ?_)
            refine lv_iinc (v := (y3 + 1)) (lv' := [(3, .int (y3 + 1)), (2, .int (y2 ||| (1 <<< (y3 &&& 31)))), (0, .ref m0), (1, .int y1)]) hx hb dX8_hangingKeys_44 hl (k := 3) rfl rfl (by decide) rfl (fun ls hl => ?_)
            refine lv_goto (tgt := 4) hx hb dX8_hangingKeys_47 (by decide) ?_
            exact ih state y1 (y2 ||| (1 <<< (y3 &&& 31))) (y3 + 1) h _ _ hP hD hS ls (lv_sub hl [2, 3, 1, 0] rfl)
  have hl := lv_entry ([.ref m0, .int x1]) (n := 4) (Nat.le_of_ble_eq_true rfl)
  rw [lg_entry_eq]
  generalize (lg_sl ([.ref m0, .int x1]) ++ List.replicate (4 - (lg_sl ([.ref m0, .int x1])).length) Slot.unset).toArray = ls at hl ⊢
  have hl : lv_has ls 4 [(0, .ref m0), (1, .int x1)] := hl
  unfold fX8_hangingKeys at h
  refine lv_iconst (v := 0) hx hb dX8_hangingKeys_0 (by decide) ?_
  refine lv_istore_n (lv' := [(2, .int 0), (0, .ref m0), (1, .int x1)]) hx hb dX8_hangingKeys_1 rfl hl (by decide) rfl (fun ls hl => ?_)
  refine lv_iconst (v := 0) hx hb dX8_hangingKeys_2 (by decide) ?_
  refine lv_istore_n (lv' := [(3, .int 0), (2, .int 0), (0, .ref m0), (1, .int x1)]) hx hb dX8_hangingKeys_3 rfl hl (by decide) rfl (fun ls hl => ?_)
  exact kB4 6000 state x1 0 0 h _ _ hP hD hS ls (lv_sub hl [2, 3, 1, 0] rfl)
noncomputable def fX8_hangingBoxes_b4 : Nat → (Nat → Int32) → Int32 → Int32 → Int32 → Option (Int32)
  | 0, _, _, _, _ => none
  | fuel + 1, state, y1, y2, y3 =>
  (if (2 : Int32) < 0 ∨ 844 ≤ (2 : Int32).toNatClampNeg then none else (if (state (2 : Int32).toNatClampNeg) ≤ y3 then (some y2) else ((fX8_boxPart state y3 1).bind fun q3 => (if q3 = 1 then ((fX8_boxPart state y3 0).bind fun q6 => (if q6 = y1 then fX8_hangingBoxes_b4 fuel state y1 (y2 ||| (1 <<< (y3 &&& 31))) (y3 + 1) else fX8_hangingBoxes_b4 fuel state y1 (y2 ||| 0) (y3 + 1))) else fX8_hangingBoxes_b4 fuel state y1 (y2 ||| 0) (y3 + 1)))))

noncomputable def fX8_hangingBoxes (state : Nat → Int32) (x1 : Int32) : Option (Int32) :=
  fX8_hangingBoxes_b4 6000 state x1 0 0
set_option maxHeartbeats 1000000 in
set_option maxRecDepth 100000 in
theorem mX8_hangingBoxes (l : Launch) (dC : Nat → ClassId) (dI : Nat → Nat → Nat) (cyI cyO : ClassId) (m0 m1 m2 m3 m4 m5 m6 : Nat) (state : Nat → Int32) (history : Nat → Int32) (recorded : Int32) (slots : Nat → Int32) (isSaved : Nat → Int32) (pad : Nat → Int32) (padLength : Int32) (opened : Nat → Int32) (pos : Int32) (letter : Int32) (first : Int32) (second : Int32) (x1 : Int32) (sz : Nat) (res : Int32) (h : fX8_hangingBoxes state x1 = some res) : Met l yX8_hangingBoxes (wsG yX8_hangingBoxes cX8_hangingBoxes 4 (some .int)) ({ frames := 1, cells := 0, slots := 0, locals := 22 }) (cP dC dI cyI cyO sz [.ref m0, .int x1] (modelW cyI m0 m1 m2 m3 m4 m5 m6 state history recorded slots isSaved pad padLength opened pos letter first second)) (cI dC dI res (modelW cyI m0 m1 m2 m3 m4 m5 m6 state history recorded slots isSaved pad padLength opened pos letter first second) (va_A (modelW cyI m0 m1 m2 m3 m4 m5 m6 state history recorded slots isSaved pad padLength opened pos letter first second) sz)) 0 0 (va_A (modelW cyI m0 m1 m2 m3 m4 m5 m6 state history recorded slots isSaved pad padLength opened pos letter first second) sz) := by
  refine Met.ofW (cc := cX8_hangingBoxes) (maxL := 4) (ret := (some .int)) (by decide) rfl ?_
  intro p e s m args below meth c s₁ B hml hv
  obtain ⟨rfl, hsz, hP, hK, hD0⟩ := hv
  have hx := B.exec
  have hb := B.bytes
  have hr := B.returns
  have hts := atoms_spec (ws := wsG yX8_hangingBoxes cX8_hangingBoxes 4 (some .int)) B.pre
  have hown : s.vm.findClass RX8 = some m.cls := findClass_of_methodNamed B.named
  have hlocks := B.notSynchronized
  subst hsz
  have hD := hD0.self (sz := s.heap.size)
  generalize hAe : va_A (modelW cyI m0 m1 m2 m3 m4 m5 m6 state history recorded slots isSaved pad padLength opened pos letter first second) s.heap.size = A at hD ⊢
  have hA : ∀ q : Nat, s.heap.size ≤ q → A q := fun q h => by rw [← hAe]; exact Or.inr h
  have hS : va_S A s.heap s.heap [] := va_S.rf
  have kB4 : ∀ (fuel : Nat) (state : Nat → Int32) (y1 : Int32) (y2 : Int32) (y3 : Int32), fX8_hangingBoxes_b4 fuel state y1 y2 y3 = some res → ∀ (H : Heap) (locs : List Loc), va_P (dC, dI) vwCl (modelW cyI m0 m1 m2 m3 m4 m5 m6 state history recorded slots isSaved pad padLength opened pos letter first second) H → va_D A (modelW cyI m0 m1 m2 m3 m4 m5 m6 state history recorded slots isSaved pad padLength opened pos letter first second) → va_S A s.heap H locs → ∀ ls : Array Slot, lv_has ls 4 [(0, .ref m0), (1, .int y1), (2, .int y2), (3, .int y3)] → W p l e (headSpec (wsG yX8_hangingBoxes cX8_hangingBoxes 4 (some .int)) ({ frames := 1, cells := 0, slots := 0, locals := 22 })).room s m (([.ref m0, .int x1] : List Value).toArray) below meth c H locs 0 0 (MQ below (cI dC dI res (modelW cyI m0 m1 m2 m3 m4 m5 m6 state history recorded slots isSaved pad padLength opened pos letter first second) A) ([.ref m0, .int x1] : List Value).toArray s 0 0 A) (F0 m 4 ls []) := by
    intro fuel
    induction fuel with
    | zero => intro state y1 y2 y3 h; rw [fX8_hangingBoxes_b4] at h; cases h
    | succ fuel ih =>
      intro state y1 y2 y3 h H locs hP hD hS ls hl
      rw [fX8_hangingBoxes_b4] at h
      refine lv_iload_n hx hb dX8_hangingBoxes_4 rfl (lv_at hl 3 rfl) ?_
      refine lv_aload_n hx hb dX8_hangingBoxes_5 rfl (lv_at hl 0 rfl) ?_
      refine va_get (D := (dC, dI)) (ci := 8) (v := .ref m1) (C := RX8) (T := TX8) (N := 12) hx hb hts (fun w h9 => gb_mem (lay_X8 w h9)) hown hK.1 hP 0 rfl rfl 0 (by decide) (hts _ (gb_mem fl_X8_7)) (fun _ h9 => h9) rfl dX8_hangingBoxes_6 ?_
      refine lv_iconst (v := 2) hx hb dX8_hangingBoxes_9 (by decide) ?_
      obtain ⟨ni1, h⟩ := ifn h
      refine va_iald hx hb hK.1 hP 1 0 rfl rfl ni1 dX8_hangingBoxes_10 ?_
      refine lv_icmp_ge (tgt := 50) hx hb dX8_hangingBoxes_11 (by decide) (fun c2 => ?_) (fun c2 => ?_)
      · have h := (if_pos c2).symm.trans h
        refine lv_iload_n hx hb dX8_hangingBoxes_50 rfl (lv_at hl 2 rfl) ?_
        obtain rfl := Option.some.inj h
        exact e_i hx hb hr hlocks hP hS dX8_hangingBoxes_51
      · have h := (if_neg c2).symm.trans h
        refine lv_iload_n hx hb dX8_hangingBoxes_14 rfl (lv_at hl 2 rfl) ?_
        refine lv_aload_n hx hb dX8_hangingBoxes_15 rfl (lv_at hl 0 rfl) ?_
        refine lv_iload_n hx hb dX8_hangingBoxes_16 rfl (lv_at hl 3 rfl) ?_
        refine lv_iconst (v := 1) hx hb dX8_hangingBoxes_17 (by decide) ?_
        obtain ⟨q3, e4, h⟩ := ob h
        refine fr_ir (M := (modelW cyI m0 m1 m2 m3 m4 m5 m6 state history recorded slots isSaved pad padLength opened pos letter first second)) (va_runV (As := [.int y3, .int 1]) (rest := [.int y2]) ⟨hx, hb, hml, hown, hts⟩ (mX8_boxPart l dC dI cyI cyO m0 m1 m2 m3 m4 m5 m6 state history recorded slots isSaved pad padLength opened pos letter first second y3 1 _ q3 e4) (cwV 2 hts (gV ml_X8_51 im_X8_boxPart se_X8_boxPart in_X8 co_X8_boxPart) rfl rfl rfl (by decide +kernel) ⟨Nat.le_of_ble_eq_true rfl, Nat.le_of_ble_eq_true rfl⟩) (cP_V hK hP hD [0, 1, 2, 3, 4, 5, 6] rfl rfl 0 rfl rfl) rfl rfl hl.1 rfl (lv_room (Nat.le_of_ble_eq_true rfl)) dX8_hangingBoxes_18 ⟨Nat.zero_le _, Nat.zero_le _⟩) hP hD hS hA [0, 1, 2, 3, 4, 5, 6] rfl (fun H locs hP hS => ?_)
        refine lv_iconst (v := 1) hx hb dX8_hangingBoxes_21 (by decide) ?_
        refine lv_icmp_ne (tgt := 41) hx hb dX8_hangingBoxes_22 (by decide) (fun c5 => ?_) (fun c5 => ?_)
        · have h := (if_neg c5).symm.trans h
          refine lv_iconst (v := 0) hx hb dX8_hangingBoxes_41 (by decide) ?_
          refine lv_ior hx hb dX8_hangingBoxes_42 ?_
          refine lv_istore_n (lv' := [(2, .int (y2 ||| 0)), (0, .ref m0), (1, .int y1), (3, .int y3)]) hx hb dX8_hangingBoxes_43 rfl hl (by decide) rfl (fun ls hl => ?_)
          refine lv_iinc (v := (y3 + 1)) (lv' := [(3, .int (y3 + 1)), (2, .int (y2 ||| 0)), (0, .ref m0), (1, .int y1)]) hx hb dX8_hangingBoxes_44 hl (k := 3) rfl rfl (by decide) rfl (fun ls hl => ?_)
          refine lv_goto (tgt := 4) hx hb dX8_hangingBoxes_47 (by decide) ?_
          exact ih state y1 (y2 ||| 0) (y3 + 1) h _ _ hP hD hS ls (lv_sub hl [2, 3, 1, 0] rfl)
        · have h := (if_pos c5).symm.trans h
          refine lv_aload_n hx hb dX8_hangingBoxes_25 rfl (lv_at hl 0 rfl) ?_
          refine lv_iload_n hx hb dX8_hangingBoxes_26 rfl (lv_at hl 3 rfl) ?_
          refine lv_iconst (v := 0) hx hb dX8_hangingBoxes_27 (by decide) ?_
          obtain ⟨q6, e7, h⟩ := ob h
          refine fr_ir (M := (modelW cyI m0 m1 m2 m3 m4 m5 m6 state history recorded slots isSaved pad padLength opened pos letter first second)) (va_runV (As := [.int y3, .int 0]) (rest := [.int y2]) ⟨hx, hb, hml, hown, hts⟩ (mX8_boxPart l dC dI cyI cyO m0 m1 m2 m3 m4 m5 m6 state history recorded slots isSaved pad padLength opened pos letter first second y3 0 _ q6 e7) (cwV 2 hts (gV ml_X8_51 im_X8_boxPart se_X8_boxPart in_X8 co_X8_boxPart) rfl rfl rfl (by decide +kernel) ⟨Nat.le_of_ble_eq_true rfl, Nat.le_of_ble_eq_true rfl⟩) (cP_V hK hP hD [0, 1, 2, 3, 4, 5, 6] rfl rfl 0 rfl rfl) rfl rfl hl.1 rfl (lv_room (Nat.le_of_ble_eq_true rfl)) dX8_hangingBoxes_28 ⟨Nat.zero_le _, Nat.zero_le _⟩) hP hD hS hA [0, 1, 2, 3, 4, 5, 6] rfl (fun H locs hP hS => ?_)
          refine lv_iload_n hx hb dX8_hangingBoxes_31 rfl (lv_at hl 1 rfl) ?_
          refine lv_icmp_ne (tgt := 41) hx hb dX8_hangingBoxes_32 (by decide) (fun c8 => ?_) (fun c8 => ?_)
          · have h := (if_neg c8).symm.trans h
            refine lv_iconst (v := 0) hx hb dX8_hangingBoxes_41 (by decide) ?_
            refine lv_ior hx hb dX8_hangingBoxes_42 ?_
            refine lv_istore_n (lv' := [(2, .int (y2 ||| 0)), (0, .ref m0), (1, .int y1), (3, .int y3)]) hx hb dX8_hangingBoxes_43 rfl hl (by decide) rfl (fun ls hl => ?_)
            refine lv_iinc (v := (y3 + 1)) (lv' := [(3, .int (y3 + 1)), (2, .int (y2 ||| 0)), (0, .ref m0), (1, .int y1)]) hx hb dX8_hangingBoxes_44 hl (k := 3) rfl rfl (by decide) rfl (fun ls hl => ?_)
            refine lv_goto (tgt := 4) hx hb dX8_hangingBoxes_47 (by decide) ?_
            exact ih state y1 (y2 ||| 0) (y3 + 1) h _ _ hP hD hS ls (lv_sub hl [2, 3, 1, 0] rfl)
          · have h := (if_pos c8).symm.trans h
            refine lv_iconst (v := 1) hx hb dX8_hangingBoxes_35 (by decide) ?_
            refine lv_iload_n hx hb dX8_hangingBoxes_36 rfl (lv_at hl 3 rfl) ?_
            refine lv_ishl hx hb dX8_hangingBoxes_37 ?_
            refine lv_goto (tgt := 42) hx hb dX8_hangingBoxes_38 (by decide) ?_
            refine lv_ior hx hb dX8_hangingBoxes_42 ?_
            refine lv_istore_n (lv' := [(2, .int (y2 ||| (1 <<< (y3 &&& 31)))), (0, .ref m0), (1, .int y1), (3, .int y3)]) hx hb dX8_hangingBoxes_43 rfl hl (by decide) rfl (fun ls hl => ?_)
            refine lv_iinc (v := (y3 + 1)) (lv' := [(3, .int (y3 + 1)), (2, .int (y2 ||| (1 <<< (y3 &&& 31)))), (0, .ref m0), (1, .int y1)]) hx hb dX8_hangingBoxes_44 hl (k := 3) rfl rfl (by decide) rfl (fun ls hl => ?_)
            refine lv_goto (tgt := 4) hx hb dX8_hangingBoxes_47 (by decide) ?_
            exact ih state y1 (y2 ||| (1 <<< (y3 &&& 31))) (y3 + 1) h _ _ hP hD hS ls (lv_sub hl [2, 3, 1, 0] rfl)
  have hl := lv_entry ([.ref m0, .int x1]) (n := 4) (Nat.le_of_ble_eq_true rfl)
  rw [lg_entry_eq]
  generalize (lg_sl ([.ref m0, .int x1]) ++ List.replicate (4 - (lg_sl ([.ref m0, .int x1])).length) Slot.unset).toArray = ls at hl ⊢
  have hl : lv_has ls 4 [(0, .ref m0), (1, .int x1)] := hl
  unfold fX8_hangingBoxes at h
  refine lv_iconst (v := 0) hx hb dX8_hangingBoxes_0 (by decide) ?_
  refine lv_istore_n (lv' := [(2, .int 0), (0, .ref m0), (1, .int x1)]) hx hb dX8_hangingBoxes_1 rfl hl (by decide) rfl (fun ls hl => ?_)
  refine lv_iconst (v := 0) hx hb dX8_hangingBoxes_2 (by decide) ?_
  refine lv_istore_n (lv' := [(3, .int 0), (2, .int 0), (0, .ref m0), (1, .int x1)]) hx hb dX8_hangingBoxes_3 rfl hl (by decide) rfl (fun ls hl => ?_)
  exact kB4 6000 state x1 0 0 h _ _ hP hD hS ls (lv_sub hl [2, 3, 1, 0] rfl)
noncomputable def fX8_bits_b4 : Nat → Int32 → Int32 → Int32 → Option (Int32)
  | 0, _, _, _ => none
  | fuel + 1, y0, y1, y2 =>
  (if 20 ≤ y2 then (some y1) else fX8_bits_b4 fuel y0 (y1 + ((y0 >>> (y2 &&& 31)) &&& 1)) (y2 + 1))

noncomputable def fX8_bits (x0 : Int32) : Option (Int32) :=
  fX8_bits_b4 6000 x0 0 0
set_option maxHeartbeats 1000000 in
set_option maxRecDepth 100000 in
theorem mX8_bits (l : Launch) (dC : Nat → ClassId) (dI : Nat → Nat → Nat) (cyI cyO : ClassId)   (x0 : Int32) (sz : Nat) (res : Int32) (h : fX8_bits x0 = some res) : Met l yX8_bits (wsG yX8_bits cX8_bits 3 (some .int)) ({ frames := 0, cells := 0, slots := 0, locals := 0 }) (cP dC dI cyI cyO sz [.int x0] ([] : va_W)) (cI dC dI res ([] : va_W) (va_A ([] : va_W) sz)) 0 0 (va_A ([] : va_W) sz) := by
  refine Met.ofW (cc := cX8_bits) (maxL := 3) (ret := (some .int)) (by decide) rfl ?_
  intro p e s m args below meth c s₁ B hml hv
  obtain ⟨rfl, hsz, hP, hK, hD0⟩ := hv
  have hx := B.exec
  have hb := B.bytes
  have hr := B.returns
  have hts := atoms_spec (ws := wsG yX8_bits cX8_bits 3 (some .int)) B.pre
  have hown : s.vm.findClass RX8 = some m.cls := findClass_of_methodNamed B.named
  have hlocks := B.notSynchronized
  subst hsz
  have hD := hD0.self (sz := s.heap.size)
  generalize hAe : va_A ([] : va_W) s.heap.size = A at hD ⊢
  have hA : ∀ q : Nat, s.heap.size ≤ q → A q := fun q h => by rw [← hAe]; exact Or.inr h
  have hS : va_S A s.heap s.heap [] := va_S.rf
  have kB4 : ∀ (fuel : Nat) (y0 : Int32) (y1 : Int32) (y2 : Int32), fX8_bits_b4 fuel y0 y1 y2 = some res → ∀ (H : Heap) (locs : List Loc), va_P (dC, dI) vwCl ([] : va_W) H → va_D A ([] : va_W) → va_S A s.heap H locs → ∀ ls : Array Slot, lv_has ls 3 [(0, .int y0), (1, .int y1), (2, .int y2)] → W p l e (headSpec (wsG yX8_bits cX8_bits 3 (some .int)) ({ frames := 0, cells := 0, slots := 0, locals := 0 })).room s m (([.int x0] : List Value).toArray) below meth c H locs 0 0 (MQ below (cI dC dI res ([] : va_W) A) ([.int x0] : List Value).toArray s 0 0 A) (F0 m 4 ls []) := by
    intro fuel
    induction fuel with
    | zero => intro y0 y1 y2 h; rw [fX8_bits_b4] at h; cases h
    | succ fuel ih =>
      intro y0 y1 y2 h H locs hP hD hS ls hl
      rw [fX8_bits_b4] at h
      refine lv_iload_n hx hb dX8_bits_4 rfl (lv_at hl 2 rfl) ?_
      refine lv_bipush (v := 20) hx hb dX8_bits_5 (by decide) ?_
      refine lv_icmp_ge (tgt := 24) hx hb dX8_bits_7 (by decide) (fun c1 => ?_) (fun c1 => ?_)
      · have h := (if_pos c1).symm.trans h
        refine lv_iload_n hx hb dX8_bits_24 rfl (lv_at hl 1 rfl) ?_
        obtain rfl := Option.some.inj h
        exact e_i hx hb hr hlocks hP hS dX8_bits_25
      · have h := (if_neg c1).symm.trans h
        refine lv_iload_n hx hb dX8_bits_10 rfl (lv_at hl 1 rfl) ?_
        refine lv_iload_n hx hb dX8_bits_11 rfl (lv_at hl 0 rfl) ?_
        refine lv_iload_n hx hb dX8_bits_12 rfl (lv_at hl 2 rfl) ?_
        refine lv_ishr hx hb dX8_bits_13 ?_
        refine lv_iconst (v := 1) hx hb dX8_bits_14 (by decide) ?_
        refine lv_iand hx hb dX8_bits_15 ?_
        refine lv_iadd hx hb dX8_bits_16 ?_
        refine lv_istore_n (lv' := [(1, .int (y1 + ((y0 >>> (y2 &&& 31)) &&& 1))), (0, .int y0), (2, .int y2)]) hx hb dX8_bits_17 rfl hl (by decide) rfl (fun ls hl => ?_)
        refine lv_iinc (v := (y2 + 1)) (lv' := [(2, .int (y2 + 1)), (1, .int (y1 + ((y0 >>> (y2 &&& 31)) &&& 1))), (0, .int y0)]) hx hb dX8_bits_18 hl (k := 2) rfl rfl (by decide) rfl (fun ls hl => ?_)
        refine lv_goto (tgt := 4) hx hb dX8_bits_21 (by decide) ?_
        exact ih y0 (y1 + ((y0 >>> (y2 &&& 31)) &&& 1)) (y2 + 1) h _ _ hP hD hS ls (lv_sub hl [2, 1, 0] rfl)
  have hl := lv_entry ([.int x0]) (n := 3) (Nat.le_of_ble_eq_true rfl)
  rw [lg_entry_eq]
  generalize (lg_sl ([.int x0]) ++ List.replicate (3 - (lg_sl ([.int x0])).length) Slot.unset).toArray = ls at hl ⊢
  have hl : lv_has ls 3 [(0, .int x0)] := hl
  unfold fX8_bits at h
  refine lv_iconst (v := 0) hx hb dX8_bits_0 (by decide) ?_
  refine lv_istore_n (lv' := [(1, .int 0), (0, .int x0)]) hx hb dX8_bits_1 rfl hl (by decide) rfl (fun ls hl => ?_)
  refine lv_iconst (v := 0) hx hb dX8_bits_2 (by decide) ?_
  refine lv_istore_n (lv' := [(2, .int 0), (1, .int 0), (0, .int x0)]) hx hb dX8_bits_3 rfl hl (by decide) rfl (fun ls hl => ?_)
  exact kB4 6000 x0 0 0 h _ _ hP hD hS ls (lv_sub hl [2, 1, 0] rfl)

noncomputable def fX8_hangingFrom (state : Nat → Int32) (x1 : Int32) : Option (Int32) :=
  ((fX8_hangingKeys state x1).bind fun q1 => ((fX8_bits q1).bind fun q3 => ((fX8_hangingBoxes state x1).bind fun q5 => ((fX8_bits q5).bind fun q7 => (some (q3 + q7))))))
set_option maxHeartbeats 1000000 in
set_option maxRecDepth 100000 in
theorem mX8_hangingFrom (l : Launch) (dC : Nat → ClassId) (dI : Nat → Nat → Nat) (cyI cyO : ClassId) (m0 m1 m2 m3 m4 m5 m6 : Nat) (state : Nat → Int32) (history : Nat → Int32) (recorded : Int32) (slots : Nat → Int32) (isSaved : Nat → Int32) (pad : Nat → Int32) (padLength : Int32) (opened : Nat → Int32) (pos : Int32) (letter : Int32) (first : Int32) (second : Int32) (x1 : Int32) (sz : Nat) (res : Int32) (h : fX8_hangingFrom state x1 = some res) : Met l yX8_hangingFrom (wsG yX8_hangingFrom cX8_hangingFrom 2 (some .int)) ({ frames := 2, cells := 0, slots := 0, locals := 45 }) (cP dC dI cyI cyO sz [.ref m0, .int x1] (modelW cyI m0 m1 m2 m3 m4 m5 m6 state history recorded slots isSaved pad padLength opened pos letter first second)) (cI dC dI res (modelW cyI m0 m1 m2 m3 m4 m5 m6 state history recorded slots isSaved pad padLength opened pos letter first second) (va_A (modelW cyI m0 m1 m2 m3 m4 m5 m6 state history recorded slots isSaved pad padLength opened pos letter first second) sz)) 0 0 (va_A (modelW cyI m0 m1 m2 m3 m4 m5 m6 state history recorded slots isSaved pad padLength opened pos letter first second) sz) := by
  refine Met.ofW (cc := cX8_hangingFrom) (maxL := 2) (ret := (some .int)) (by decide) rfl ?_
  intro p e s m args below meth c s₁ B hml hv
  obtain ⟨rfl, hsz, hP, hK, hD0⟩ := hv
  have hx := B.exec
  have hb := B.bytes
  have hr := B.returns
  have hts := atoms_spec (ws := wsG yX8_hangingFrom cX8_hangingFrom 2 (some .int)) B.pre
  have hown : s.vm.findClass RX8 = some m.cls := findClass_of_methodNamed B.named
  have hlocks := B.notSynchronized
  subst hsz
  have hD := hD0.self (sz := s.heap.size)
  generalize hAe : va_A (modelW cyI m0 m1 m2 m3 m4 m5 m6 state history recorded slots isSaved pad padLength opened pos letter first second) s.heap.size = A at hD ⊢
  have hA : ∀ q : Nat, s.heap.size ≤ q → A q := fun q h => by rw [← hAe]; exact Or.inr h
  have hS : va_S A s.heap s.heap [] := va_S.rf
  have hl := lv_entry ([.ref m0, .int x1]) (n := 2) (Nat.le_of_ble_eq_true rfl)
  rw [lg_entry_eq]
  generalize (lg_sl ([.ref m0, .int x1]) ++ List.replicate (2 - (lg_sl ([.ref m0, .int x1])).length) Slot.unset).toArray = ls at hl ⊢
  have hl : lv_has ls 2 [(0, .ref m0), (1, .int x1)] := hl
  unfold fX8_hangingFrom at h
  refine lv_aload_n hx hb dX8_hangingFrom_0 rfl (lv_at hl 0 rfl) ?_
  refine lv_iload_n hx hb dX8_hangingFrom_1 rfl (lv_at hl 1 rfl) ?_
  obtain ⟨q1, e2, h⟩ := ob h
  refine fr_ir (M := (modelW cyI m0 m1 m2 m3 m4 m5 m6 state history recorded slots isSaved pad padLength opened pos letter first second)) (va_runV (As := [.int x1]) (rest := []) ⟨hx, hb, hml, hown, hts⟩ (mX8_hangingKeys l dC dI cyI cyO m0 m1 m2 m3 m4 m5 m6 state history recorded slots isSaved pad padLength opened pos letter first second x1 _ q1 e2) (cwV 1 hts (gV ml_X8_54 im_X8_hangingKeys se_X8_hangingKeys in_X8 co_X8_hangingKeys) rfl rfl rfl (by decide +kernel) ⟨Nat.le_of_ble_eq_true rfl, Nat.le_of_ble_eq_true rfl⟩) (cP_V hK hP hD [0, 1, 2, 3, 4, 5, 6] rfl rfl 0 rfl rfl) rfl rfl hl.1 rfl (lv_room (Nat.le_of_ble_eq_true rfl)) dX8_hangingFrom_2 ⟨Nat.zero_le _, Nat.zero_le _⟩) hP hD hS hA [0, 1, 2, 3, 4, 5, 6] rfl (fun H locs hP hS => ?_)
  obtain ⟨q3, e4, h⟩ := ob h
  refine fr_ir (M := ([] : va_W)) (va_runS (As := [.int q1]) (rest := []) ⟨hx, hb, hml, hown, hts⟩ (mX8_bits l dC dI cyI cyO q1 _ q3 e4) (va_cwS 1 hts (gS ml_X8_58 st_X8_bits in_X8 co_X8_bits) rfl rfl rfl (by decide +kernel) ⟨Nat.le_of_ble_eq_true rfl, Nat.le_of_ble_eq_true rfl⟩) (cP_S hK hP hD [] rfl rfl) rfl rfl hl.1 rfl (lv_room (Nat.le_of_ble_eq_true rfl)) dX8_hangingFrom_5 ⟨Nat.zero_le _, Nat.zero_le _⟩) hP hD hS hA [] rfl (fun H locs hP hS => ?_)
  refine lv_aload_n hx hb dX8_hangingFrom_8 rfl (lv_at hl 0 rfl) ?_
  refine lv_iload_n hx hb dX8_hangingFrom_9 rfl (lv_at hl 1 rfl) ?_
  obtain ⟨q5, e6, h⟩ := ob h
  refine fr_ir (M := (modelW cyI m0 m1 m2 m3 m4 m5 m6 state history recorded slots isSaved pad padLength opened pos letter first second)) (va_runV (As := [.int x1]) (rest := [.int q3]) ⟨hx, hb, hml, hown, hts⟩ (mX8_hangingBoxes l dC dI cyI cyO m0 m1 m2 m3 m4 m5 m6 state history recorded slots isSaved pad padLength opened pos letter first second x1 _ q5 e6) (cwV 1 hts (gV ml_X8_61 im_X8_hangingBoxes se_X8_hangingBoxes in_X8 co_X8_hangingBoxes) rfl rfl rfl (by decide +kernel) ⟨Nat.le_of_ble_eq_true rfl, Nat.le_of_ble_eq_true rfl⟩) (cP_V hK hP hD [0, 1, 2, 3, 4, 5, 6] rfl rfl 0 rfl rfl) rfl rfl hl.1 rfl (lv_room (Nat.le_of_ble_eq_true rfl)) dX8_hangingFrom_10 ⟨Nat.zero_le _, Nat.zero_le _⟩) hP hD hS hA [0, 1, 2, 3, 4, 5, 6] rfl (fun H locs hP hS => ?_)
  obtain ⟨q7, e8, h⟩ := ob h
  refine fr_ir (M := ([] : va_W)) (va_runS (As := [.int q5]) (rest := [.int q3]) ⟨hx, hb, hml, hown, hts⟩ (mX8_bits l dC dI cyI cyO q5 _ q7 e8) (va_cwS 1 hts (gS ml_X8_58 st_X8_bits in_X8 co_X8_bits) rfl rfl rfl (by decide +kernel) ⟨Nat.le_of_ble_eq_true rfl, Nat.le_of_ble_eq_true rfl⟩) (cP_S hK hP hD [] rfl rfl) rfl rfl hl.1 rfl (lv_room (Nat.le_of_ble_eq_true rfl)) dX8_hangingFrom_13 ⟨Nat.zero_le _, Nat.zero_le _⟩) hP hD hS hA [] rfl (fun H locs hP hS => ?_)
  refine lv_iadd hx hb dX8_hangingFrom_16 ?_
  obtain rfl := Option.some.inj h
  exact e_i hx hb hr hlocks hP hS dX8_hangingFrom_17

noncomputable def fX8_makeWrap (state : Nat → Int32) (x1 : Int32) (x2 : Int32) (x3 : Int32) : Option ((Nat → Int32)) :=
  (if (3 : Int32) < 0 ∨ 844 ≤ (3 : Int32).toNatClampNeg then none else ((fX8_setWrap state (state (3 : Int32).toNatClampNeg) 0 x1).bind fun q2 => ((fX8_setWrap q2 (state (3 : Int32).toNatClampNeg) 1 x2).bind fun q4 => ((fX8_setWrap q4 (state (3 : Int32).toNatClampNeg) 2 x3).bind fun q6 => ((fX8_keyPart q6 x3 2).bind fun q8 => ((fX8_setWrap q6 (state (3 : Int32).toNatClampNeg) 3 q8).bind fun q10 => ((fX8_setWrap q10 (state (3 : Int32).toNatClampNeg) 4 1).bind fun q12 => ((fX8_setWrap q12 (state (3 : Int32).toNatClampNeg) 5 0).bind fun q14 => ((fX8_keyPart q14 x3 3).bind fun q16 => ((fX8_setKey q14 x3 3 (q16 + 1)).bind fun q18 => (if (3 : Int32) < 0 ∨ 844 ≤ (3 : Int32).toNatClampNeg then none else (if (3 : Int32) < 0 ∨ 844 ≤ (3 : Int32).toNatClampNeg then none else (some (upd q18 (3 : Int32).toNatClampNeg ((q18 (3 : Int32).toNatClampNeg) + 1)))))))))))))))
set_option maxHeartbeats 1000000 in
set_option maxRecDepth 100000 in
theorem mX8_makeWrap (l : Launch) (dC : Nat → ClassId) (dI : Nat → Nat → Nat) (cyI cyO : ClassId) (m0 m1 m2 m3 m4 m5 m6 : Nat) (state : Nat → Int32) (history : Nat → Int32) (recorded : Int32) (slots : Nat → Int32) (isSaved : Nat → Int32) (pad : Nat → Int32) (padLength : Int32) (opened : Nat → Int32) (pos : Int32) (letter : Int32) (first : Int32) (second : Int32) (x1 : Int32) (x2 : Int32) (x3 : Int32) (sz : Nat) (res : (Nat → Int32)) (h : fX8_makeWrap state x1 x2 x3 = some res) : Met l yX8_makeWrap (wsG yX8_makeWrap cX8_makeWrap 5 none) ({ frames := 1, cells := 0, slots := 0, locals := 23 }) (cP dC dI cyI cyO sz [.ref m0, .int x1, .int x2, .int x3] (modelW cyI m0 m1 m2 m3 m4 m5 m6 state history recorded slots isSaved pad padLength opened pos letter first second)) (cV dC dI (modelW cyI m0 m1 m2 m3 m4 m5 m6 res history recorded slots isSaved pad padLength opened pos letter first second) (va_A (modelW cyI m0 m1 m2 m3 m4 m5 m6 state history recorded slots isSaved pad padLength opened pos letter first second) sz)) 0 0 (va_A (modelW cyI m0 m1 m2 m3 m4 m5 m6 state history recorded slots isSaved pad padLength opened pos letter first second) sz) := by
  refine Met.ofW (cc := cX8_makeWrap) (maxL := 5) (ret := none) (by decide) rfl ?_
  intro p e s m args below meth c s₁ B hml hv
  obtain ⟨rfl, hsz, hP, hK, hD0⟩ := hv
  have hx := B.exec
  have hb := B.bytes
  have hr := B.returns
  have hts := atoms_spec (ws := wsG yX8_makeWrap cX8_makeWrap 5 none) B.pre
  have hown : s.vm.findClass RX8 = some m.cls := findClass_of_methodNamed B.named
  have hlocks := B.notSynchronized
  subst hsz
  have hD := hD0.self (sz := s.heap.size)
  generalize hAe : va_A (modelW cyI m0 m1 m2 m3 m4 m5 m6 state history recorded slots isSaved pad padLength opened pos letter first second) s.heap.size = A at hD ⊢
  have hA : ∀ q : Nat, s.heap.size ≤ q → A q := fun q h => by rw [← hAe]; exact Or.inr h
  have hS : va_S A s.heap s.heap [] := va_S.rf
  have hl := lv_entry ([.ref m0, .int x1, .int x2, .int x3]) (n := 5) (Nat.le_of_ble_eq_true rfl)
  rw [lg_entry_eq]
  generalize (lg_sl ([.ref m0, .int x1, .int x2, .int x3]) ++ List.replicate (5 - (lg_sl ([.ref m0, .int x1, .int x2, .int x3])).length) Slot.unset).toArray = ls at hl ⊢
  have hl : lv_has ls 5 [(0, .ref m0), (1, .int x1), (2, .int x2), (3, .int x3)] := hl
  unfold fX8_makeWrap at h
  refine lv_aload_n hx hb dX8_makeWrap_0 rfl (lv_at hl 0 rfl) ?_
  refine va_get (D := (dC, dI)) (ci := 8) (v := .ref m1) (C := RX8) (T := TX8) (N := 12) hx hb hts (fun w h9 => gb_mem (lay_X8 w h9)) hown hK.1 hP 0 rfl rfl 0 (by decide) (hts _ (gb_mem fl_X8_7)) (fun _ h9 => h9) rfl dX8_makeWrap_1 ?_
  refine lv_iconst (v := 3) hx hb dX8_makeWrap_4 (by decide) ?_
  obtain ⟨ni1, h⟩ := ifn h
  refine va_iald hx hb hK.1 hP 1 0 rfl rfl ni1 dX8_makeWrap_5 ?_
  refine lv_istore (lv' := [(4, .int (state (3 : Int32).toNatClampNeg)), (0, .ref m0), (1, .int x1), (2, .int x2), (3, .int x3)]) hx hb dX8_makeWrap_6 hl (by decide) rfl (fun ls hl => ?_)
  refine lv_aload_n hx hb dX8_makeWrap_8 rfl (lv_at hl 1 rfl) ?_
  refine lv_iload hx hb dX8_makeWrap_9 (lv_at hl 0 rfl) ?_
  refine lv_iconst (v := 0) hx hb dX8_makeWrap_11 (by decide) ?_
  refine lv_iload_n hx hb dX8_makeWrap_12 rfl (lv_at hl 2 rfl) ?_
  obtain ⟨q2, e3, h⟩ := ob h
  refine fr_v (M := (modelW cyI m0 m1 m2 m3 m4 m5 m6 state history recorded slots isSaved pad padLength opened pos letter first second)) (M' := (modelW cyI m0 m1 m2 m3 m4 m5 m6 q2 history recorded slots isSaved pad padLength opened pos letter first second)) (L' := (modelW cyI m0 m1 m2 m3 m4 m5 m6 q2 history recorded slots isSaved pad padLength opened pos letter first second)) (va_runV (As := [.int (state (3 : Int32).toNatClampNeg), .int 0, .int x1]) (rest := []) ⟨hx, hb, hml, hown, hts⟩ (mX8_setWrap l dC dI cyI cyO m0 m1 m2 m3 m4 m5 m6 state history recorded slots isSaved pad padLength opened pos letter first second (state (3 : Int32).toNatClampNeg) 0 x1 _ q2 e3) (cwV 3 hts (gV ml_X8_64 im_X8_setWrap se_X8_setWrap in_X8 co_X8_setWrap) rfl rfl rfl (by decide +kernel) ⟨Nat.le_of_ble_eq_true rfl, Nat.le_of_ble_eq_true rfl⟩) (cP_V hK hP hD [0, 1, 2, 3, 4, 5, 6] rfl rfl 0 rfl rfl) rfl rfl hl.1 rfl (lv_room (Nat.le_of_ble_eq_true rfl)) dX8_makeWrap_13 ⟨Nat.zero_le _, Nat.zero_le _⟩) hP hD hS hA [0, 1, 2, 3, 4, 5, 6] rfl [(true, 0), (true, 1), (true, 2), (true, 3), (true, 4), (true, 5), (true, 6)] rfl rfl rfl (fun H locs hP hD hS => ?_)
  refine lv_aload_n hx hb dX8_makeWrap_16 rfl (lv_at hl 1 rfl) ?_
  refine lv_iload hx hb dX8_makeWrap_17 (lv_at hl 0 rfl) ?_
  refine lv_iconst (v := 1) hx hb dX8_makeWrap_19 (by decide) ?_
  refine lv_iload_n hx hb dX8_makeWrap_20 rfl (lv_at hl 3 rfl) ?_
  obtain ⟨q4, e5, h⟩ := ob h
  refine fr_v (M := (modelW cyI m0 m1 m2 m3 m4 m5 m6 q2 history recorded slots isSaved pad padLength opened pos letter first second)) (M' := (modelW cyI m0 m1 m2 m3 m4 m5 m6 q4 history recorded slots isSaved pad padLength opened pos letter first second)) (L' := (modelW cyI m0 m1 m2 m3 m4 m5 m6 q4 history recorded slots isSaved pad padLength opened pos letter first second)) (va_runV (As := [.int (state (3 : Int32).toNatClampNeg), .int 1, .int x2]) (rest := []) ⟨hx, hb, hml, hown, hts⟩ (mX8_setWrap l dC dI cyI cyO m0 m1 m2 m3 m4 m5 m6 q2 history recorded slots isSaved pad padLength opened pos letter first second (state (3 : Int32).toNatClampNeg) 1 x2 _ q4 e5) (cwV 3 hts (gV ml_X8_64 im_X8_setWrap se_X8_setWrap in_X8 co_X8_setWrap) rfl rfl rfl (by decide +kernel) ⟨Nat.le_of_ble_eq_true rfl, Nat.le_of_ble_eq_true rfl⟩) (cP_V hK hP hD [0, 1, 2, 3, 4, 5, 6] rfl rfl 0 rfl rfl) rfl rfl hl.1 rfl (lv_room (Nat.le_of_ble_eq_true rfl)) dX8_makeWrap_21 ⟨Nat.zero_le _, Nat.zero_le _⟩) hP hD hS hA [0, 1, 2, 3, 4, 5, 6] rfl [(true, 0), (true, 1), (true, 2), (true, 3), (true, 4), (true, 5), (true, 6)] rfl rfl rfl (fun H locs hP hD hS => ?_)
  refine lv_aload_n hx hb dX8_makeWrap_24 rfl (lv_at hl 1 rfl) ?_
  refine lv_iload hx hb dX8_makeWrap_25 (lv_at hl 0 rfl) ?_
  refine lv_iconst (v := 2) hx hb dX8_makeWrap_27 (by decide) ?_
  refine lv_iload_n hx hb dX8_makeWrap_28 rfl (lv_at hl 4 rfl) ?_
  obtain ⟨q6, e7, h⟩ := ob h
  refine fr_v (M := (modelW cyI m0 m1 m2 m3 m4 m5 m6 q4 history recorded slots isSaved pad padLength opened pos letter first second)) (M' := (modelW cyI m0 m1 m2 m3 m4 m5 m6 q6 history recorded slots isSaved pad padLength opened pos letter first second)) (L' := (modelW cyI m0 m1 m2 m3 m4 m5 m6 q6 history recorded slots isSaved pad padLength opened pos letter first second)) (va_runV (As := [.int (state (3 : Int32).toNatClampNeg), .int 2, .int x3]) (rest := []) ⟨hx, hb, hml, hown, hts⟩ (mX8_setWrap l dC dI cyI cyO m0 m1 m2 m3 m4 m5 m6 q4 history recorded slots isSaved pad padLength opened pos letter first second (state (3 : Int32).toNatClampNeg) 2 x3 _ q6 e7) (cwV 3 hts (gV ml_X8_64 im_X8_setWrap se_X8_setWrap in_X8 co_X8_setWrap) rfl rfl rfl (by decide +kernel) ⟨Nat.le_of_ble_eq_true rfl, Nat.le_of_ble_eq_true rfl⟩) (cP_V hK hP hD [0, 1, 2, 3, 4, 5, 6] rfl rfl 0 rfl rfl) rfl rfl hl.1 rfl (lv_room (Nat.le_of_ble_eq_true rfl)) dX8_makeWrap_29 ⟨Nat.zero_le _, Nat.zero_le _⟩) hP hD hS hA [0, 1, 2, 3, 4, 5, 6] rfl [(true, 0), (true, 1), (true, 2), (true, 3), (true, 4), (true, 5), (true, 6)] rfl rfl rfl (fun H locs hP hD hS => ?_)
  refine lv_aload_n hx hb dX8_makeWrap_32 rfl (lv_at hl 1 rfl) ?_
  refine lv_iload hx hb dX8_makeWrap_33 (lv_at hl 0 rfl) ?_
  refine lv_iconst (v := 3) hx hb dX8_makeWrap_35 (by decide) ?_
  refine lv_aload_n hx hb dX8_makeWrap_36 rfl (lv_at hl 1 rfl) ?_
  refine lv_iload_n hx hb dX8_makeWrap_37 rfl (lv_at hl 4 rfl) ?_
  refine lv_iconst (v := 2) hx hb dX8_makeWrap_38 (by decide) ?_
  obtain ⟨q8, e9, h⟩ := ob h
  refine fr_ir (M := (modelW cyI m0 m1 m2 m3 m4 m5 m6 q6 history recorded slots isSaved pad padLength opened pos letter first second)) (va_runV (As := [.int x3, .int 2]) (rest := [.int 3, .int (state (3 : Int32).toNatClampNeg), .ref m0]) ⟨hx, hb, hml, hown, hts⟩ (mX8_keyPart l dC dI cyI cyO m0 m1 m2 m3 m4 m5 m6 q6 history recorded slots isSaved pad padLength opened pos letter first second x3 2 _ q8 e9) (cwV 2 hts (gV ml_X8_44 im_X8_keyPart se_X8_keyPart in_X8 co_X8_keyPart) rfl rfl rfl (by decide +kernel) ⟨Nat.le_of_ble_eq_true rfl, Nat.le_of_ble_eq_true rfl⟩) (cP_V hK hP hD [0, 1, 2, 3, 4, 5, 6] rfl rfl 0 rfl rfl) rfl rfl hl.1 rfl (lv_room (Nat.le_of_ble_eq_true rfl)) dX8_makeWrap_39 ⟨Nat.zero_le _, Nat.zero_le _⟩) hP hD hS hA [0, 1, 2, 3, 4, 5, 6] rfl (fun H locs hP hS => ?_)
  obtain ⟨q10, e11, h⟩ := ob h
  refine fr_v (M := (modelW cyI m0 m1 m2 m3 m4 m5 m6 q6 history recorded slots isSaved pad padLength opened pos letter first second)) (M' := (modelW cyI m0 m1 m2 m3 m4 m5 m6 q10 history recorded slots isSaved pad padLength opened pos letter first second)) (L' := (modelW cyI m0 m1 m2 m3 m4 m5 m6 q10 history recorded slots isSaved pad padLength opened pos letter first second)) (va_runV (As := [.int (state (3 : Int32).toNatClampNeg), .int 3, .int q8]) (rest := []) ⟨hx, hb, hml, hown, hts⟩ (mX8_setWrap l dC dI cyI cyO m0 m1 m2 m3 m4 m5 m6 q6 history recorded slots isSaved pad padLength opened pos letter first second (state (3 : Int32).toNatClampNeg) 3 q8 _ q10 e11) (cwV 3 hts (gV ml_X8_64 im_X8_setWrap se_X8_setWrap in_X8 co_X8_setWrap) rfl rfl rfl (by decide +kernel) ⟨Nat.le_of_ble_eq_true rfl, Nat.le_of_ble_eq_true rfl⟩) (cP_V hK hP hD [0, 1, 2, 3, 4, 5, 6] rfl rfl 0 rfl rfl) rfl rfl hl.1 rfl (lv_room (Nat.le_of_ble_eq_true rfl)) dX8_makeWrap_42 ⟨Nat.zero_le _, Nat.zero_le _⟩) hP hD hS hA [0, 1, 2, 3, 4, 5, 6] rfl [(true, 0), (true, 1), (true, 2), (true, 3), (true, 4), (true, 5), (true, 6)] rfl rfl rfl (fun H locs hP hD hS => ?_)
  refine lv_aload_n hx hb dX8_makeWrap_45 rfl (lv_at hl 1 rfl) ?_
  refine lv_iload hx hb dX8_makeWrap_46 (lv_at hl 0 rfl) ?_
  refine lv_iconst (v := 4) hx hb dX8_makeWrap_48 (by decide) ?_
  refine lv_iconst (v := 1) hx hb dX8_makeWrap_49 (by decide) ?_
  obtain ⟨q12, e13, h⟩ := ob h
  refine fr_v (M := (modelW cyI m0 m1 m2 m3 m4 m5 m6 q10 history recorded slots isSaved pad padLength opened pos letter first second)) (M' := (modelW cyI m0 m1 m2 m3 m4 m5 m6 q12 history recorded slots isSaved pad padLength opened pos letter first second)) (L' := (modelW cyI m0 m1 m2 m3 m4 m5 m6 q12 history recorded slots isSaved pad padLength opened pos letter first second)) (va_runV (As := [.int (state (3 : Int32).toNatClampNeg), .int 4, .int 1]) (rest := []) ⟨hx, hb, hml, hown, hts⟩ (mX8_setWrap l dC dI cyI cyO m0 m1 m2 m3 m4 m5 m6 q10 history recorded slots isSaved pad padLength opened pos letter first second (state (3 : Int32).toNatClampNeg) 4 1 _ q12 e13) (cwV 3 hts (gV ml_X8_64 im_X8_setWrap se_X8_setWrap in_X8 co_X8_setWrap) rfl rfl rfl (by decide +kernel) ⟨Nat.le_of_ble_eq_true rfl, Nat.le_of_ble_eq_true rfl⟩) (cP_V hK hP hD [0, 1, 2, 3, 4, 5, 6] rfl rfl 0 rfl rfl) rfl rfl hl.1 rfl (lv_room (Nat.le_of_ble_eq_true rfl)) dX8_makeWrap_50 ⟨Nat.zero_le _, Nat.zero_le _⟩) hP hD hS hA [0, 1, 2, 3, 4, 5, 6] rfl [(true, 0), (true, 1), (true, 2), (true, 3), (true, 4), (true, 5), (true, 6)] rfl rfl rfl (fun H locs hP hD hS => ?_)
  refine lv_aload_n hx hb dX8_makeWrap_53 rfl (lv_at hl 1 rfl) ?_
  refine lv_iload hx hb dX8_makeWrap_54 (lv_at hl 0 rfl) ?_
  refine lv_iconst (v := 5) hx hb dX8_makeWrap_56 (by decide) ?_
  refine lv_iconst (v := 0) hx hb dX8_makeWrap_57 (by decide) ?_
  obtain ⟨q14, e15, h⟩ := ob h
  refine fr_v (M := (modelW cyI m0 m1 m2 m3 m4 m5 m6 q12 history recorded slots isSaved pad padLength opened pos letter first second)) (M' := (modelW cyI m0 m1 m2 m3 m4 m5 m6 q14 history recorded slots isSaved pad padLength opened pos letter first second)) (L' := (modelW cyI m0 m1 m2 m3 m4 m5 m6 q14 history recorded slots isSaved pad padLength opened pos letter first second)) (va_runV (As := [.int (state (3 : Int32).toNatClampNeg), .int 5, .int 0]) (rest := []) ⟨hx, hb, hml, hown, hts⟩ (mX8_setWrap l dC dI cyI cyO m0 m1 m2 m3 m4 m5 m6 q12 history recorded slots isSaved pad padLength opened pos letter first second (state (3 : Int32).toNatClampNeg) 5 0 _ q14 e15) (cwV 3 hts (gV ml_X8_64 im_X8_setWrap se_X8_setWrap in_X8 co_X8_setWrap) rfl rfl rfl (by decide +kernel) ⟨Nat.le_of_ble_eq_true rfl, Nat.le_of_ble_eq_true rfl⟩) (cP_V hK hP hD [0, 1, 2, 3, 4, 5, 6] rfl rfl 0 rfl rfl) rfl rfl hl.1 rfl (lv_room (Nat.le_of_ble_eq_true rfl)) dX8_makeWrap_58 ⟨Nat.zero_le _, Nat.zero_le _⟩) hP hD hS hA [0, 1, 2, 3, 4, 5, 6] rfl [(true, 0), (true, 1), (true, 2), (true, 3), (true, 4), (true, 5), (true, 6)] rfl rfl rfl (fun H locs hP hD hS => ?_)
  refine lv_aload_n hx hb dX8_makeWrap_61 rfl (lv_at hl 1 rfl) ?_
  refine lv_iload_n hx hb dX8_makeWrap_62 rfl (lv_at hl 4 rfl) ?_
  refine lv_iconst (v := 3) hx hb dX8_makeWrap_63 (by decide) ?_
  refine lv_aload_n hx hb dX8_makeWrap_64 rfl (lv_at hl 1 rfl) ?_
  refine lv_iload_n hx hb dX8_makeWrap_65 rfl (lv_at hl 4 rfl) ?_
  refine lv_iconst (v := 3) hx hb dX8_makeWrap_66 (by decide) ?_
  obtain ⟨q16, e17, h⟩ := ob h
  refine fr_ir (M := (modelW cyI m0 m1 m2 m3 m4 m5 m6 q14 history recorded slots isSaved pad padLength opened pos letter first second)) (va_runV (As := [.int x3, .int 3]) (rest := [.int 3, .int x3, .ref m0]) ⟨hx, hb, hml, hown, hts⟩ (mX8_keyPart l dC dI cyI cyO m0 m1 m2 m3 m4 m5 m6 q14 history recorded slots isSaved pad padLength opened pos letter first second x3 3 _ q16 e17) (cwV 2 hts (gV ml_X8_44 im_X8_keyPart se_X8_keyPart in_X8 co_X8_keyPart) rfl rfl rfl (by decide +kernel) ⟨Nat.le_of_ble_eq_true rfl, Nat.le_of_ble_eq_true rfl⟩) (cP_V hK hP hD [0, 1, 2, 3, 4, 5, 6] rfl rfl 0 rfl rfl) rfl rfl hl.1 rfl (lv_room (Nat.le_of_ble_eq_true rfl)) dX8_makeWrap_67 ⟨Nat.zero_le _, Nat.zero_le _⟩) hP hD hS hA [0, 1, 2, 3, 4, 5, 6] rfl (fun H locs hP hS => ?_)
  refine lv_iconst (v := 1) hx hb dX8_makeWrap_70 (by decide) ?_
  refine lv_iadd hx hb dX8_makeWrap_71 ?_
  obtain ⟨q18, e19, h⟩ := ob h
  refine fr_v (M := (modelW cyI m0 m1 m2 m3 m4 m5 m6 q14 history recorded slots isSaved pad padLength opened pos letter first second)) (M' := (modelW cyI m0 m1 m2 m3 m4 m5 m6 q18 history recorded slots isSaved pad padLength opened pos letter first second)) (L' := (modelW cyI m0 m1 m2 m3 m4 m5 m6 q18 history recorded slots isSaved pad padLength opened pos letter first second)) (va_runV (As := [.int x3, .int 3, .int (q16 + 1)]) (rest := []) ⟨hx, hb, hml, hown, hts⟩ (mX8_setKey l dC dI cyI cyO m0 m1 m2 m3 m4 m5 m6 q14 history recorded slots isSaved pad padLength opened pos letter first second x3 3 (q16 + 1) _ q18 e19) (cwV 3 hts (gV ml_X8_68 im_X8_setKey se_X8_setKey in_X8 co_X8_setKey) rfl rfl rfl (by decide +kernel) ⟨Nat.le_of_ble_eq_true rfl, Nat.le_of_ble_eq_true rfl⟩) (cP_V hK hP hD [0, 1, 2, 3, 4, 5, 6] rfl rfl 0 rfl rfl) rfl rfl hl.1 rfl (lv_room (Nat.le_of_ble_eq_true rfl)) dX8_makeWrap_72 ⟨Nat.zero_le _, Nat.zero_le _⟩) hP hD hS hA [0, 1, 2, 3, 4, 5, 6] rfl [(true, 0), (true, 1), (true, 2), (true, 3), (true, 4), (true, 5), (true, 6)] rfl rfl rfl (fun H locs hP hD hS => ?_)
  refine lv_aload_n hx hb dX8_makeWrap_75 rfl (lv_at hl 1 rfl) ?_
  refine va_get (D := (dC, dI)) (ci := 8) (v := .ref m1) (C := RX8) (T := TX8) (N := 12) hx hb hts (fun w h9 => gb_mem (lay_X8 w h9)) hown hK.1 hP 0 rfl rfl 0 (by decide) (hts _ (gb_mem fl_X8_7)) (fun _ h9 => h9) rfl dX8_makeWrap_76 ?_
  refine lv_iconst (v := 3) hx hb dX8_makeWrap_79 (by decide) ?_
  refine lv_dup2_11 hx hb dX8_makeWrap_80 rfl rfl ?_
  obtain ⟨ni20, h⟩ := ifn h
  refine va_iald hx hb hK.1 hP 1 0 rfl rfl ni20 dX8_makeWrap_81 ?_
  refine lv_iconst (v := 1) hx hb dX8_makeWrap_82 (by decide) ?_
  refine lv_iadd hx hb dX8_makeWrap_83 ?_
  obtain ⟨ni21, h⟩ := ifn h
  refine va_iast hx hb hK.1 hP hD hS 1 0 rfl rfl ni21 dX8_makeWrap_84 (fun H locs hP hD hS => ?_)
  have hP : va_P (dC, dI) vwCl (modelW cyI m0 m1 m2 m3 m4 m5 m6 (upd q18 (3 : Int32).toNatClampNeg ((q18 (3 : Int32).toNatClampNeg) + 1)) history recorded slots isSaved pad padLength opened pos letter first second) H := hP
  have hD : va_D A (modelW cyI m0 m1 m2 m3 m4 m5 m6 (upd q18 (3 : Int32).toNatClampNeg ((q18 (3 : Int32).toNatClampNeg) + 1)) history recorded slots isSaved pad padLength opened pos letter first second) := hD
  obtain rfl := Option.some.inj h
  exact e_v hx hb hr hlocks hP hS dX8_makeWrap_85

noncomputable def fX8_wrapKey (state : Nat → Int32) (x1 : Int32) : Option ((Nat → Int32)) :=
  ((fX8_keyPart state x1 2).bind fun q1 => ((fX8_keyPart state x1 0).bind fun q3 => ((fX8_makeWrap state x1 q1 q3).bind fun q5 => (some q5))))
set_option maxHeartbeats 1000000 in
set_option maxRecDepth 100000 in
theorem mX8_wrapKey (l : Launch) (dC : Nat → ClassId) (dI : Nat → Nat → Nat) (cyI cyO : ClassId) (m0 m1 m2 m3 m4 m5 m6 : Nat) (state : Nat → Int32) (history : Nat → Int32) (recorded : Int32) (slots : Nat → Int32) (isSaved : Nat → Int32) (pad : Nat → Int32) (padLength : Int32) (opened : Nat → Int32) (pos : Int32) (letter : Int32) (first : Int32) (second : Int32) (x1 : Int32) (sz : Nat) (res : (Nat → Int32)) (h : fX8_wrapKey state x1 = some res) : Met l yX8_wrapKey (wsG yX8_wrapKey cX8_wrapKey 2 none) ({ frames := 2, cells := 0, slots := 0, locals := 47 }) (cP dC dI cyI cyO sz [.ref m0, .int x1] (modelW cyI m0 m1 m2 m3 m4 m5 m6 state history recorded slots isSaved pad padLength opened pos letter first second)) (cV dC dI (modelW cyI m0 m1 m2 m3 m4 m5 m6 res history recorded slots isSaved pad padLength opened pos letter first second) (va_A (modelW cyI m0 m1 m2 m3 m4 m5 m6 state history recorded slots isSaved pad padLength opened pos letter first second) sz)) 0 0 (va_A (modelW cyI m0 m1 m2 m3 m4 m5 m6 state history recorded slots isSaved pad padLength opened pos letter first second) sz) := by
  refine Met.ofW (cc := cX8_wrapKey) (maxL := 2) (ret := none) (by decide) rfl ?_
  intro p e s m args below meth c s₁ B hml hv
  obtain ⟨rfl, hsz, hP, hK, hD0⟩ := hv
  have hx := B.exec
  have hb := B.bytes
  have hr := B.returns
  have hts := atoms_spec (ws := wsG yX8_wrapKey cX8_wrapKey 2 none) B.pre
  have hown : s.vm.findClass RX8 = some m.cls := findClass_of_methodNamed B.named
  have hlocks := B.notSynchronized
  subst hsz
  have hD := hD0.self (sz := s.heap.size)
  generalize hAe : va_A (modelW cyI m0 m1 m2 m3 m4 m5 m6 state history recorded slots isSaved pad padLength opened pos letter first second) s.heap.size = A at hD ⊢
  have hA : ∀ q : Nat, s.heap.size ≤ q → A q := fun q h => by rw [← hAe]; exact Or.inr h
  have hS : va_S A s.heap s.heap [] := va_S.rf
  have hl := lv_entry ([.ref m0, .int x1]) (n := 2) (Nat.le_of_ble_eq_true rfl)
  rw [lg_entry_eq]
  generalize (lg_sl ([.ref m0, .int x1]) ++ List.replicate (2 - (lg_sl ([.ref m0, .int x1])).length) Slot.unset).toArray = ls at hl ⊢
  have hl : lv_has ls 2 [(0, .ref m0), (1, .int x1)] := hl
  unfold fX8_wrapKey at h
  refine lv_aload_n hx hb dX8_wrapKey_0 rfl (lv_at hl 0 rfl) ?_
  refine lv_iload_n hx hb dX8_wrapKey_1 rfl (lv_at hl 1 rfl) ?_
  refine lv_aload_n hx hb dX8_wrapKey_2 rfl (lv_at hl 0 rfl) ?_
  refine lv_iload_n hx hb dX8_wrapKey_3 rfl (lv_at hl 1 rfl) ?_
  refine lv_iconst (v := 2) hx hb dX8_wrapKey_4 (by decide) ?_
  obtain ⟨q1, e2, h⟩ := ob h
  refine fr_ir (M := (modelW cyI m0 m1 m2 m3 m4 m5 m6 state history recorded slots isSaved pad padLength opened pos letter first second)) (va_runV (As := [.int x1, .int 2]) (rest := [.int x1, .ref m0]) ⟨hx, hb, hml, hown, hts⟩ (mX8_keyPart l dC dI cyI cyO m0 m1 m2 m3 m4 m5 m6 state history recorded slots isSaved pad padLength opened pos letter first second x1 2 _ q1 e2) (cwV 2 hts (gV ml_X8_44 im_X8_keyPart se_X8_keyPart in_X8 co_X8_keyPart) rfl rfl rfl (by decide +kernel) ⟨Nat.le_of_ble_eq_true rfl, Nat.le_of_ble_eq_true rfl⟩) (cP_V hK hP hD [0, 1, 2, 3, 4, 5, 6] rfl rfl 0 rfl rfl) rfl rfl hl.1 rfl (lv_room (Nat.le_of_ble_eq_true rfl)) dX8_wrapKey_5 ⟨Nat.zero_le _, Nat.zero_le _⟩) hP hD hS hA [0, 1, 2, 3, 4, 5, 6] rfl (fun H locs hP hS => ?_)
  refine lv_aload_n hx hb dX8_wrapKey_8 rfl (lv_at hl 0 rfl) ?_
  refine lv_iload_n hx hb dX8_wrapKey_9 rfl (lv_at hl 1 rfl) ?_
  refine lv_iconst (v := 0) hx hb dX8_wrapKey_10 (by decide) ?_
  obtain ⟨q3, e4, h⟩ := ob h
  refine fr_ir (M := (modelW cyI m0 m1 m2 m3 m4 m5 m6 state history recorded slots isSaved pad padLength opened pos letter first second)) (va_runV (As := [.int x1, .int 0]) (rest := [.int q1, .int x1, .ref m0]) ⟨hx, hb, hml, hown, hts⟩ (mX8_keyPart l dC dI cyI cyO m0 m1 m2 m3 m4 m5 m6 state history recorded slots isSaved pad padLength opened pos letter first second x1 0 _ q3 e4) (cwV 2 hts (gV ml_X8_44 im_X8_keyPart se_X8_keyPart in_X8 co_X8_keyPart) rfl rfl rfl (by decide +kernel) ⟨Nat.le_of_ble_eq_true rfl, Nat.le_of_ble_eq_true rfl⟩) (cP_V hK hP hD [0, 1, 2, 3, 4, 5, 6] rfl rfl 0 rfl rfl) rfl rfl hl.1 rfl (lv_room (Nat.le_of_ble_eq_true rfl)) dX8_wrapKey_11 ⟨Nat.zero_le _, Nat.zero_le _⟩) hP hD hS hA [0, 1, 2, 3, 4, 5, 6] rfl (fun H locs hP hS => ?_)
  obtain ⟨q5, e6, h⟩ := ob h
  refine fr_v (M := (modelW cyI m0 m1 m2 m3 m4 m5 m6 state history recorded slots isSaved pad padLength opened pos letter first second)) (M' := (modelW cyI m0 m1 m2 m3 m4 m5 m6 q5 history recorded slots isSaved pad padLength opened pos letter first second)) (L' := (modelW cyI m0 m1 m2 m3 m4 m5 m6 q5 history recorded slots isSaved pad padLength opened pos letter first second)) (va_runV (As := [.int x1, .int q1, .int q3]) (rest := []) ⟨hx, hb, hml, hown, hts⟩ (mX8_makeWrap l dC dI cyI cyO m0 m1 m2 m3 m4 m5 m6 state history recorded slots isSaved pad padLength opened pos letter first second x1 q1 q3 _ q5 e6) (cwV 3 hts (gV ml_X8_71 im_X8_makeWrap se_X8_makeWrap in_X8 co_X8_makeWrap) rfl rfl rfl (by decide +kernel) ⟨Nat.le_of_ble_eq_true rfl, Nat.le_of_ble_eq_true rfl⟩) (cP_V hK hP hD [0, 1, 2, 3, 4, 5, 6] rfl rfl 0 rfl rfl) rfl rfl hl.1 rfl (lv_room (Nat.le_of_ble_eq_true rfl)) dX8_wrapKey_14 ⟨Nat.zero_le _, Nat.zero_le _⟩) hP hD hS hA [0, 1, 2, 3, 4, 5, 6] rfl [(true, 0), (true, 1), (true, 2), (true, 3), (true, 4), (true, 5), (true, 6)] rfl rfl rfl (fun H locs hP hD hS => ?_)
  obtain rfl := Option.some.inj h
  exact e_v hx hb hr hlocks hP hS dX8_wrapKey_17

noncomputable def fX8_wrapBox (state : Nat → Int32) (x1 : Int32) : Option ((Nat → Int32)) :=
  ((fX8_boxPart state x1 0).bind fun q1 => ((fX8_makeWrap state (-6) x1 q1).bind fun q3 => (some q3)))
set_option maxHeartbeats 1000000 in
set_option maxRecDepth 100000 in
theorem mX8_wrapBox (l : Launch) (dC : Nat → ClassId) (dI : Nat → Nat → Nat) (cyI cyO : ClassId) (m0 m1 m2 m3 m4 m5 m6 : Nat) (state : Nat → Int32) (history : Nat → Int32) (recorded : Int32) (slots : Nat → Int32) (isSaved : Nat → Int32) (pad : Nat → Int32) (padLength : Int32) (opened : Nat → Int32) (pos : Int32) (letter : Int32) (first : Int32) (second : Int32) (x1 : Int32) (sz : Nat) (res : (Nat → Int32)) (h : fX8_wrapBox state x1 = some res) : Met l yX8_wrapBox (wsG yX8_wrapBox cX8_wrapBox 2 none) ({ frames := 2, cells := 0, slots := 0, locals := 47 }) (cP dC dI cyI cyO sz [.ref m0, .int x1] (modelW cyI m0 m1 m2 m3 m4 m5 m6 state history recorded slots isSaved pad padLength opened pos letter first second)) (cV dC dI (modelW cyI m0 m1 m2 m3 m4 m5 m6 res history recorded slots isSaved pad padLength opened pos letter first second) (va_A (modelW cyI m0 m1 m2 m3 m4 m5 m6 state history recorded slots isSaved pad padLength opened pos letter first second) sz)) 0 0 (va_A (modelW cyI m0 m1 m2 m3 m4 m5 m6 state history recorded slots isSaved pad padLength opened pos letter first second) sz) := by
  refine Met.ofW (cc := cX8_wrapBox) (maxL := 2) (ret := none) (by decide) rfl ?_
  intro p e s m args below meth c s₁ B hml hv
  obtain ⟨rfl, hsz, hP, hK, hD0⟩ := hv
  have hx := B.exec
  have hb := B.bytes
  have hr := B.returns
  have hts := atoms_spec (ws := wsG yX8_wrapBox cX8_wrapBox 2 none) B.pre
  have hown : s.vm.findClass RX8 = some m.cls := findClass_of_methodNamed B.named
  have hlocks := B.notSynchronized
  subst hsz
  have hD := hD0.self (sz := s.heap.size)
  generalize hAe : va_A (modelW cyI m0 m1 m2 m3 m4 m5 m6 state history recorded slots isSaved pad padLength opened pos letter first second) s.heap.size = A at hD ⊢
  have hA : ∀ q : Nat, s.heap.size ≤ q → A q := fun q h => by rw [← hAe]; exact Or.inr h
  have hS : va_S A s.heap s.heap [] := va_S.rf
  have hl := lv_entry ([.ref m0, .int x1]) (n := 2) (Nat.le_of_ble_eq_true rfl)
  rw [lg_entry_eq]
  generalize (lg_sl ([.ref m0, .int x1]) ++ List.replicate (2 - (lg_sl ([.ref m0, .int x1])).length) Slot.unset).toArray = ls at hl ⊢
  have hl : lv_has ls 2 [(0, .ref m0), (1, .int x1)] := hl
  unfold fX8_wrapBox at h
  refine lv_aload_n hx hb dX8_wrapBox_0 rfl (lv_at hl 0 rfl) ?_
  refine lv_bipush (v := (-6)) hx hb dX8_wrapBox_1 (by decide) ?_
  refine lv_iload_n hx hb dX8_wrapBox_3 rfl (lv_at hl 1 rfl) ?_
  refine lv_aload_n hx hb dX8_wrapBox_4 rfl (lv_at hl 0 rfl) ?_
  refine lv_iload_n hx hb dX8_wrapBox_5 rfl (lv_at hl 1 rfl) ?_
  refine lv_iconst (v := 0) hx hb dX8_wrapBox_6 (by decide) ?_
  obtain ⟨q1, e2, h⟩ := ob h
  refine fr_ir (M := (modelW cyI m0 m1 m2 m3 m4 m5 m6 state history recorded slots isSaved pad padLength opened pos letter first second)) (va_runV (As := [.int x1, .int 0]) (rest := [.int x1, .int (-6), .ref m0]) ⟨hx, hb, hml, hown, hts⟩ (mX8_boxPart l dC dI cyI cyO m0 m1 m2 m3 m4 m5 m6 state history recorded slots isSaved pad padLength opened pos letter first second x1 0 _ q1 e2) (cwV 2 hts (gV ml_X8_51 im_X8_boxPart se_X8_boxPart in_X8 co_X8_boxPart) rfl rfl rfl (by decide +kernel) ⟨Nat.le_of_ble_eq_true rfl, Nat.le_of_ble_eq_true rfl⟩) (cP_V hK hP hD [0, 1, 2, 3, 4, 5, 6] rfl rfl 0 rfl rfl) rfl rfl hl.1 rfl (lv_room (Nat.le_of_ble_eq_true rfl)) dX8_wrapBox_7 ⟨Nat.zero_le _, Nat.zero_le _⟩) hP hD hS hA [0, 1, 2, 3, 4, 5, 6] rfl (fun H locs hP hS => ?_)
  obtain ⟨q3, e4, h⟩ := ob h
  refine fr_v (M := (modelW cyI m0 m1 m2 m3 m4 m5 m6 state history recorded slots isSaved pad padLength opened pos letter first second)) (M' := (modelW cyI m0 m1 m2 m3 m4 m5 m6 q3 history recorded slots isSaved pad padLength opened pos letter first second)) (L' := (modelW cyI m0 m1 m2 m3 m4 m5 m6 q3 history recorded slots isSaved pad padLength opened pos letter first second)) (va_runV (As := [.int (-6), .int x1, .int q1]) (rest := []) ⟨hx, hb, hml, hown, hts⟩ (mX8_makeWrap l dC dI cyI cyO m0 m1 m2 m3 m4 m5 m6 state history recorded slots isSaved pad padLength opened pos letter first second (-6) x1 q1 _ q3 e4) (cwV 3 hts (gV ml_X8_71 im_X8_makeWrap se_X8_makeWrap in_X8 co_X8_makeWrap) rfl rfl rfl (by decide +kernel) ⟨Nat.le_of_ble_eq_true rfl, Nat.le_of_ble_eq_true rfl⟩) (cP_V hK hP hD [0, 1, 2, 3, 4, 5, 6] rfl rfl 0 rfl rfl) rfl rfl hl.1 rfl (lv_room (Nat.le_of_ble_eq_true rfl)) dX8_wrapBox_10 ⟨Nat.zero_le _, Nat.zero_le _⟩) hP hD hS hA [0, 1, 2, 3, 4, 5, 6] rfl [(true, 0), (true, 1), (true, 2), (true, 3), (true, 4), (true, 5), (true, 6)] rfl rfl rfl (fun H locs hP hD hS => ?_)
  obtain rfl := Option.some.inj h
  exact e_v hx hb hr hlocks hP hS dX8_wrapBox_13
noncomputable def fX8_wrapAllUnder_b45 : Nat → (Nat → Int32) → Int32 → Int32 → Option ((Nat → Int32))
  | 0, _, _, _ => none
  | fuel + 1, state, y1, y2 =>
  (if (2 : Int32) < 0 ∨ 844 ≤ (2 : Int32).toNatClampNeg then none else (if (state (2 : Int32).toNatClampNeg) ≤ y2 then (some state) else ((fX8_boxPart state y2 1).bind fun q3 => (if q3 = 1 then ((fX8_boxPart state y2 0).bind fun q6 => (if q6 = y1 then ((fX8_wrapBox state y2).bind fun q9 => fX8_wrapAllUnder_b45 fuel q9 y1 (y2 + 1)) else fX8_wrapAllUnder_b45 fuel state y1 (y2 + 1))) else fX8_wrapAllUnder_b45 fuel state y1 (y2 + 1)))))

noncomputable def fX8_wrapAllUnder_b2 : Nat → (Nat → Int32) → Int32 → Int32 → Option ((Nat → Int32))
  | 0, _, _, _ => none
  | fuel + 1, state, y1, y2 =>
  (if (1 : Int32) < 0 ∨ 844 ≤ (1 : Int32).toNatClampNeg then none else (if (state (1 : Int32).toNatClampNeg) ≤ y2 then fX8_wrapAllUnder_b45 6000 state y1 0 else ((fX8_keyPart state y2 1).bind fun q13 => (if q13 = 1 then ((fX8_keyPart state y2 0).bind fun q16 => (if q16 = y1 then ((fX8_wrapKey state y2).bind fun q19 => fX8_wrapAllUnder_b2 fuel q19 y1 (y2 + 1)) else fX8_wrapAllUnder_b2 fuel state y1 (y2 + 1))) else fX8_wrapAllUnder_b2 fuel state y1 (y2 + 1)))))

noncomputable def fX8_wrapAllUnder (state : Nat → Int32) (x1 : Int32) : Option ((Nat → Int32)) :=
  fX8_wrapAllUnder_b2 6000 state x1 0
set_option maxHeartbeats 1000000 in
set_option maxRecDepth 100000 in
theorem mX8_wrapAllUnder (l : Launch) (dC : Nat → ClassId) (dI : Nat → Nat → Nat) (cyI cyO : ClassId) (m0 m1 m2 m3 m4 m5 m6 : Nat) (state : Nat → Int32) (history : Nat → Int32) (recorded : Int32) (slots : Nat → Int32) (isSaved : Nat → Int32) (pad : Nat → Int32) (padLength : Int32) (opened : Nat → Int32) (pos : Int32) (letter : Int32) (first : Int32) (second : Int32) (x1 : Int32) (sz : Nat) (res : (Nat → Int32)) (h : fX8_wrapAllUnder state x1 = some res) : Met l yX8_wrapAllUnder (wsG yX8_wrapAllUnder cX8_wrapAllUnder 3 none) ({ frames := 3, cells := 0, slots := 0, locals := 68 }) (cP dC dI cyI cyO sz [.ref m0, .int x1] (modelW cyI m0 m1 m2 m3 m4 m5 m6 state history recorded slots isSaved pad padLength opened pos letter first second)) (cV dC dI (modelW cyI m0 m1 m2 m3 m4 m5 m6 res history recorded slots isSaved pad padLength opened pos letter first second) (va_A (modelW cyI m0 m1 m2 m3 m4 m5 m6 state history recorded slots isSaved pad padLength opened pos letter first second) sz)) 0 0 (va_A (modelW cyI m0 m1 m2 m3 m4 m5 m6 state history recorded slots isSaved pad padLength opened pos letter first second) sz) := by
  refine Met.ofW (cc := cX8_wrapAllUnder) (maxL := 3) (ret := none) (by decide) rfl ?_
  intro p e s m args below meth c s₁ B hml hv
  obtain ⟨rfl, hsz, hP, hK, hD0⟩ := hv
  have hx := B.exec
  have hb := B.bytes
  have hr := B.returns
  have hts := atoms_spec (ws := wsG yX8_wrapAllUnder cX8_wrapAllUnder 3 none) B.pre
  have hown : s.vm.findClass RX8 = some m.cls := findClass_of_methodNamed B.named
  have hlocks := B.notSynchronized
  subst hsz
  have hD := hD0.self (sz := s.heap.size)
  generalize hAe : va_A (modelW cyI m0 m1 m2 m3 m4 m5 m6 state history recorded slots isSaved pad padLength opened pos letter first second) s.heap.size = A at hD ⊢
  have hA : ∀ q : Nat, s.heap.size ≤ q → A q := fun q h => by rw [← hAe]; exact Or.inr h
  have hS : va_S A s.heap s.heap [] := va_S.rf
  have kB45 : ∀ (fuel : Nat) (state : Nat → Int32) (y1 : Int32) (y2 : Int32), fX8_wrapAllUnder_b45 fuel state y1 y2 = some res → ∀ (H : Heap) (locs : List Loc), va_P (dC, dI) vwCl (modelW cyI m0 m1 m2 m3 m4 m5 m6 state history recorded slots isSaved pad padLength opened pos letter first second) H → va_D A (modelW cyI m0 m1 m2 m3 m4 m5 m6 state history recorded slots isSaved pad padLength opened pos letter first second) → va_S A s.heap H locs → ∀ ls : Array Slot, lv_has ls 3 [(0, .ref m0), (1, .int y1), (2, .int y2)] → W p l e (headSpec (wsG yX8_wrapAllUnder cX8_wrapAllUnder 3 none) ({ frames := 3, cells := 0, slots := 0, locals := 68 })).room s m (([.ref m0, .int x1] : List Value).toArray) below meth c H locs 0 0 (MQ below (cV dC dI (modelW cyI m0 m1 m2 m3 m4 m5 m6 res history recorded slots isSaved pad padLength opened pos letter first second) A) ([.ref m0, .int x1] : List Value).toArray s 0 0 A) (F0 m 45 ls []) := by
    intro fuel
    induction fuel with
    | zero => intro state y1 y2 h; rw [fX8_wrapAllUnder_b45] at h; cases h
    | succ fuel ih =>
      intro state y1 y2 h H locs hP hD hS ls hl
      rw [fX8_wrapAllUnder_b45] at h
      refine lv_iload_n hx hb dX8_wrapAllUnder_45 rfl (lv_at hl 2 rfl) ?_
      refine lv_aload_n hx hb dX8_wrapAllUnder_46 rfl (lv_at hl 0 rfl) ?_
      refine va_get (D := (dC, dI)) (ci := 8) (v := .ref m1) (C := RX8) (T := TX8) (N := 12) hx hb hts (fun w h9 => gb_mem (lay_X8 w h9)) hown hK.1 hP 0 rfl rfl 0 (by decide) (hts _ (gb_mem fl_X8_7)) (fun _ h9 => h9) rfl dX8_wrapAllUnder_47 ?_
      refine lv_iconst (v := 2) hx hb dX8_wrapAllUnder_50 (by decide) ?_
      obtain ⟨ni1, h⟩ := ifn h
      refine va_iald hx hb hK.1 hP 1 0 rfl rfl ni1 dX8_wrapAllUnder_51 ?_
      refine lv_icmp_ge (tgt := 86) hx hb dX8_wrapAllUnder_52 (by decide) (fun c2 => ?_) (fun c2 => ?_)
      · have h := (if_pos c2).symm.trans h
        obtain rfl := Option.some.inj h
        exact e_v hx hb hr hlocks hP hS dX8_wrapAllUnder_86
      · have h := (if_neg c2).symm.trans h
        refine lv_aload_n hx hb dX8_wrapAllUnder_55 rfl (lv_at hl 0 rfl) ?_
        refine lv_iload_n hx hb dX8_wrapAllUnder_56 rfl (lv_at hl 2 rfl) ?_
        refine lv_iconst (v := 1) hx hb dX8_wrapAllUnder_57 (by decide) ?_
        obtain ⟨q3, e4, h⟩ := ob h
        refine fr_ir (M := (modelW cyI m0 m1 m2 m3 m4 m5 m6 state history recorded slots isSaved pad padLength opened pos letter first second)) (va_runV (As := [.int y2, .int 1]) (rest := []) ⟨hx, hb, hml, hown, hts⟩ (mX8_boxPart l dC dI cyI cyO m0 m1 m2 m3 m4 m5 m6 state history recorded slots isSaved pad padLength opened pos letter first second y2 1 _ q3 e4) (cwV 2 hts (gV ml_X8_51 im_X8_boxPart se_X8_boxPart in_X8 co_X8_boxPart) rfl rfl rfl (by decide +kernel) ⟨Nat.le_of_ble_eq_true rfl, Nat.le_of_ble_eq_true rfl⟩) (cP_V hK hP hD [0, 1, 2, 3, 4, 5, 6] rfl rfl 0 rfl rfl) rfl rfl hl.1 rfl (lv_room (Nat.le_of_ble_eq_true rfl)) dX8_wrapAllUnder_58 ⟨Nat.zero_le _, Nat.zero_le _⟩) hP hD hS hA [0, 1, 2, 3, 4, 5, 6] rfl (fun H locs hP hS => ?_)
        refine lv_iconst (v := 1) hx hb dX8_wrapAllUnder_61 (by decide) ?_
        refine lv_icmp_ne (tgt := 80) hx hb dX8_wrapAllUnder_62 (by decide) (fun c5 => ?_) (fun c5 => ?_)
        · have h := (if_neg c5).symm.trans h
          refine lv_iinc (v := (y2 + 1)) (lv' := [(2, .int (y2 + 1)), (0, .ref m0), (1, .int y1)]) hx hb dX8_wrapAllUnder_80 hl (k := 2) rfl rfl (by decide) rfl (fun ls hl => ?_)
          refine lv_goto (tgt := 45) hx hb dX8_wrapAllUnder_83 (by decide) ?_
          exact ih state y1 (y2 + 1) h _ _ hP hD hS ls (lv_sub hl [1, 2, 0] rfl)
        · have h := (if_pos c5).symm.trans h
          refine lv_aload_n hx hb dX8_wrapAllUnder_65 rfl (lv_at hl 0 rfl) ?_
          refine lv_iload_n hx hb dX8_wrapAllUnder_66 rfl (lv_at hl 2 rfl) ?_
          refine lv_iconst (v := 0) hx hb dX8_wrapAllUnder_67 (by decide) ?_
          obtain ⟨q6, e7, h⟩ := ob h
          refine fr_ir (M := (modelW cyI m0 m1 m2 m3 m4 m5 m6 state history recorded slots isSaved pad padLength opened pos letter first second)) (va_runV (As := [.int y2, .int 0]) (rest := []) ⟨hx, hb, hml, hown, hts⟩ (mX8_boxPart l dC dI cyI cyO m0 m1 m2 m3 m4 m5 m6 state history recorded slots isSaved pad padLength opened pos letter first second y2 0 _ q6 e7) (cwV 2 hts (gV ml_X8_51 im_X8_boxPart se_X8_boxPart in_X8 co_X8_boxPart) rfl rfl rfl (by decide +kernel) ⟨Nat.le_of_ble_eq_true rfl, Nat.le_of_ble_eq_true rfl⟩) (cP_V hK hP hD [0, 1, 2, 3, 4, 5, 6] rfl rfl 0 rfl rfl) rfl rfl hl.1 rfl (lv_room (Nat.le_of_ble_eq_true rfl)) dX8_wrapAllUnder_68 ⟨Nat.zero_le _, Nat.zero_le _⟩) hP hD hS hA [0, 1, 2, 3, 4, 5, 6] rfl (fun H locs hP hS => ?_)
          refine lv_iload_n hx hb dX8_wrapAllUnder_71 rfl (lv_at hl 1 rfl) ?_
          refine lv_icmp_ne (tgt := 80) hx hb dX8_wrapAllUnder_72 (by decide) (fun c8 => ?_) (fun c8 => ?_)
          · have h := (if_neg c8).symm.trans h
            refine lv_iinc (v := (y2 + 1)) (lv' := [(2, .int (y2 + 1)), (0, .ref m0), (1, .int y1)]) hx hb dX8_wrapAllUnder_80 hl (k := 2) rfl rfl (by decide) rfl (fun ls hl => ?_)
            refine lv_goto (tgt := 45) hx hb dX8_wrapAllUnder_83 (by decide) ?_
            exact ih state y1 (y2 + 1) h _ _ hP hD hS ls (lv_sub hl [1, 2, 0] rfl)
          · have h := (if_pos c8).symm.trans h
            refine lv_aload_n hx hb dX8_wrapAllUnder_75 rfl (lv_at hl 0 rfl) ?_
            refine lv_iload_n hx hb dX8_wrapAllUnder_76 rfl (lv_at hl 2 rfl) ?_
            obtain ⟨q9, e10, h⟩ := ob h
            refine fr_v (M := (modelW cyI m0 m1 m2 m3 m4 m5 m6 state history recorded slots isSaved pad padLength opened pos letter first second)) (M' := (modelW cyI m0 m1 m2 m3 m4 m5 m6 q9 history recorded slots isSaved pad padLength opened pos letter first second)) (L' := (modelW cyI m0 m1 m2 m3 m4 m5 m6 q9 history recorded slots isSaved pad padLength opened pos letter first second)) (va_runV (As := [.int y2]) (rest := []) ⟨hx, hb, hml, hown, hts⟩ (mX8_wrapBox l dC dI cyI cyO m0 m1 m2 m3 m4 m5 m6 state history recorded slots isSaved pad padLength opened pos letter first second y2 _ q9 e10) (cwV 1 hts (gV ml_X8_78 im_X8_wrapBox se_X8_wrapBox in_X8 co_X8_wrapBox) rfl rfl rfl (by decide +kernel) ⟨Nat.le_of_ble_eq_true rfl, Nat.le_of_ble_eq_true rfl⟩) (cP_V hK hP hD [0, 1, 2, 3, 4, 5, 6] rfl rfl 0 rfl rfl) rfl rfl hl.1 rfl (lv_room (Nat.le_of_ble_eq_true rfl)) dX8_wrapAllUnder_77 ⟨Nat.zero_le _, Nat.zero_le _⟩) hP hD hS hA [0, 1, 2, 3, 4, 5, 6] rfl [(true, 0), (true, 1), (true, 2), (true, 3), (true, 4), (true, 5), (true, 6)] rfl rfl rfl (fun H locs hP hD hS => ?_)
            refine lv_iinc (v := (y2 + 1)) (lv' := [(2, .int (y2 + 1)), (0, .ref m0), (1, .int y1)]) hx hb dX8_wrapAllUnder_80 hl (k := 2) rfl rfl (by decide) rfl (fun ls hl => ?_)
            refine lv_goto (tgt := 45) hx hb dX8_wrapAllUnder_83 (by decide) ?_
            exact ih q9 y1 (y2 + 1) h _ _ hP hD hS ls (lv_sub hl [1, 2, 0] rfl)
  have kB2 : ∀ (fuel : Nat) (state : Nat → Int32) (y1 : Int32) (y2 : Int32), fX8_wrapAllUnder_b2 fuel state y1 y2 = some res → ∀ (H : Heap) (locs : List Loc), va_P (dC, dI) vwCl (modelW cyI m0 m1 m2 m3 m4 m5 m6 state history recorded slots isSaved pad padLength opened pos letter first second) H → va_D A (modelW cyI m0 m1 m2 m3 m4 m5 m6 state history recorded slots isSaved pad padLength opened pos letter first second) → va_S A s.heap H locs → ∀ ls : Array Slot, lv_has ls 3 [(0, .ref m0), (1, .int y1), (2, .int y2)] → W p l e (headSpec (wsG yX8_wrapAllUnder cX8_wrapAllUnder 3 none) ({ frames := 3, cells := 0, slots := 0, locals := 68 })).room s m (([.ref m0, .int x1] : List Value).toArray) below meth c H locs 0 0 (MQ below (cV dC dI (modelW cyI m0 m1 m2 m3 m4 m5 m6 res history recorded slots isSaved pad padLength opened pos letter first second) A) ([.ref m0, .int x1] : List Value).toArray s 0 0 A) (F0 m 2 ls []) := by
    intro fuel
    induction fuel with
    | zero => intro state y1 y2 h; rw [fX8_wrapAllUnder_b2] at h; cases h
    | succ fuel ih =>
      intro state y1 y2 h H locs hP hD hS ls hl
      rw [fX8_wrapAllUnder_b2] at h
      refine lv_iload_n hx hb dX8_wrapAllUnder_2 rfl (lv_at hl 2 rfl) ?_
      refine lv_aload_n hx hb dX8_wrapAllUnder_3 rfl (lv_at hl 0 rfl) ?_
      refine va_get (D := (dC, dI)) (ci := 8) (v := .ref m1) (C := RX8) (T := TX8) (N := 12) hx hb hts (fun w h9 => gb_mem (lay_X8 w h9)) hown hK.1 hP 0 rfl rfl 0 (by decide) (hts _ (gb_mem fl_X8_7)) (fun _ h9 => h9) rfl dX8_wrapAllUnder_4 ?_
      refine lv_iconst (v := 1) hx hb dX8_wrapAllUnder_7 (by decide) ?_
      obtain ⟨ni11, h⟩ := ifn h
      refine va_iald hx hb hK.1 hP 1 0 rfl rfl ni11 dX8_wrapAllUnder_8 ?_
      refine lv_icmp_ge (tgt := 43) hx hb dX8_wrapAllUnder_9 (by decide) (fun c12 => ?_) (fun c12 => ?_)
      · have h := (if_pos c12).symm.trans h
        refine lv_iconst (v := 0) hx hb dX8_wrapAllUnder_43 (by decide) ?_
        refine lv_istore_n (lv' := [(2, .int 0), (0, .ref m0), (1, .int y1)]) hx hb dX8_wrapAllUnder_44 rfl hl (by decide) rfl (fun ls hl => ?_)
        exact kB45 6000 state y1 0 h _ _ hP hD hS ls (lv_sub hl [1, 2, 0] rfl)
      · have h := (if_neg c12).symm.trans h
        refine lv_aload_n hx hb dX8_wrapAllUnder_12 rfl (lv_at hl 0 rfl) ?_
        refine lv_iload_n hx hb dX8_wrapAllUnder_13 rfl (lv_at hl 2 rfl) ?_
        refine lv_iconst (v := 1) hx hb dX8_wrapAllUnder_14 (by decide) ?_
        obtain ⟨q13, e14, h⟩ := ob h
        refine fr_ir (M := (modelW cyI m0 m1 m2 m3 m4 m5 m6 state history recorded slots isSaved pad padLength opened pos letter first second)) (va_runV (As := [.int y2, .int 1]) (rest := []) ⟨hx, hb, hml, hown, hts⟩ (mX8_keyPart l dC dI cyI cyO m0 m1 m2 m3 m4 m5 m6 state history recorded slots isSaved pad padLength opened pos letter first second y2 1 _ q13 e14) (cwV 2 hts (gV ml_X8_44 im_X8_keyPart se_X8_keyPart in_X8 co_X8_keyPart) rfl rfl rfl (by decide +kernel) ⟨Nat.le_of_ble_eq_true rfl, Nat.le_of_ble_eq_true rfl⟩) (cP_V hK hP hD [0, 1, 2, 3, 4, 5, 6] rfl rfl 0 rfl rfl) rfl rfl hl.1 rfl (lv_room (Nat.le_of_ble_eq_true rfl)) dX8_wrapAllUnder_15 ⟨Nat.zero_le _, Nat.zero_le _⟩) hP hD hS hA [0, 1, 2, 3, 4, 5, 6] rfl (fun H locs hP hS => ?_)
        refine lv_iconst (v := 1) hx hb dX8_wrapAllUnder_18 (by decide) ?_
        refine lv_icmp_ne (tgt := 37) hx hb dX8_wrapAllUnder_19 (by decide) (fun c15 => ?_) (fun c15 => ?_)
        · have h := (if_neg c15).symm.trans h
          refine lv_iinc (v := (y2 + 1)) (lv' := [(2, .int (y2 + 1)), (0, .ref m0), (1, .int y1)]) hx hb dX8_wrapAllUnder_37 hl (k := 2) rfl rfl (by decide) rfl (fun ls hl => ?_)
          refine lv_goto (tgt := 2) hx hb dX8_wrapAllUnder_40 (by decide) ?_
          exact ih state y1 (y2 + 1) h _ _ hP hD hS ls (lv_sub hl [1, 2, 0] rfl)
        · have h := (if_pos c15).symm.trans h
          refine lv_aload_n hx hb dX8_wrapAllUnder_22 rfl (lv_at hl 0 rfl) ?_
          refine lv_iload_n hx hb dX8_wrapAllUnder_23 rfl (lv_at hl 2 rfl) ?_
          refine lv_iconst (v := 0) hx hb dX8_wrapAllUnder_24 (by decide) ?_
          obtain ⟨q16, e17, h⟩ := ob h
          refine fr_ir (M := (modelW cyI m0 m1 m2 m3 m4 m5 m6 state history recorded slots isSaved pad padLength opened pos letter first second)) (va_runV (As := [.int y2, .int 0]) (rest := []) ⟨hx, hb, hml, hown, hts⟩ (mX8_keyPart l dC dI cyI cyO m0 m1 m2 m3 m4 m5 m6 state history recorded slots isSaved pad padLength opened pos letter first second y2 0 _ q16 e17) (cwV 2 hts (gV ml_X8_44 im_X8_keyPart se_X8_keyPart in_X8 co_X8_keyPart) rfl rfl rfl (by decide +kernel) ⟨Nat.le_of_ble_eq_true rfl, Nat.le_of_ble_eq_true rfl⟩) (cP_V hK hP hD [0, 1, 2, 3, 4, 5, 6] rfl rfl 0 rfl rfl) rfl rfl hl.1 rfl (lv_room (Nat.le_of_ble_eq_true rfl)) dX8_wrapAllUnder_25 ⟨Nat.zero_le _, Nat.zero_le _⟩) hP hD hS hA [0, 1, 2, 3, 4, 5, 6] rfl (fun H locs hP hS => ?_)
          refine lv_iload_n hx hb dX8_wrapAllUnder_28 rfl (lv_at hl 1 rfl) ?_
          refine lv_icmp_ne (tgt := 37) hx hb dX8_wrapAllUnder_29 (by decide) (fun c18 => ?_) (fun c18 => ?_)
          · have h := (if_neg c18).symm.trans h
            refine lv_iinc (v := (y2 + 1)) (lv' := [(2, .int (y2 + 1)), (0, .ref m0), (1, .int y1)]) hx hb dX8_wrapAllUnder_37 hl (k := 2) rfl rfl (by decide) rfl (fun ls hl => ?_)
            refine lv_goto (tgt := 2) hx hb dX8_wrapAllUnder_40 (by decide) ?_
            exact ih state y1 (y2 + 1) h _ _ hP hD hS ls (lv_sub hl [1, 2, 0] rfl)
          · have h := (if_pos c18).symm.trans h
            refine lv_aload_n hx hb dX8_wrapAllUnder_32 rfl (lv_at hl 0 rfl) ?_
            refine lv_iload_n hx hb dX8_wrapAllUnder_33 rfl (lv_at hl 2 rfl) ?_
            obtain ⟨q19, e20, h⟩ := ob h
            refine fr_v (M := (modelW cyI m0 m1 m2 m3 m4 m5 m6 state history recorded slots isSaved pad padLength opened pos letter first second)) (M' := (modelW cyI m0 m1 m2 m3 m4 m5 m6 q19 history recorded slots isSaved pad padLength opened pos letter first second)) (L' := (modelW cyI m0 m1 m2 m3 m4 m5 m6 q19 history recorded slots isSaved pad padLength opened pos letter first second)) (va_runV (As := [.int y2]) (rest := []) ⟨hx, hb, hml, hown, hts⟩ (mX8_wrapKey l dC dI cyI cyO m0 m1 m2 m3 m4 m5 m6 state history recorded slots isSaved pad padLength opened pos letter first second y2 _ q19 e20) (cwV 1 hts (gV ml_X8_74 im_X8_wrapKey se_X8_wrapKey in_X8 co_X8_wrapKey) rfl rfl rfl (by decide +kernel) ⟨Nat.le_of_ble_eq_true rfl, Nat.le_of_ble_eq_true rfl⟩) (cP_V hK hP hD [0, 1, 2, 3, 4, 5, 6] rfl rfl 0 rfl rfl) rfl rfl hl.1 rfl (lv_room (Nat.le_of_ble_eq_true rfl)) dX8_wrapAllUnder_34 ⟨Nat.zero_le _, Nat.zero_le _⟩) hP hD hS hA [0, 1, 2, 3, 4, 5, 6] rfl [(true, 0), (true, 1), (true, 2), (true, 3), (true, 4), (true, 5), (true, 6)] rfl rfl rfl (fun H locs hP hD hS => ?_)
            refine lv_iinc (v := (y2 + 1)) (lv' := [(2, .int (y2 + 1)), (0, .ref m0), (1, .int y1)]) hx hb dX8_wrapAllUnder_37 hl (k := 2) rfl rfl (by decide) rfl (fun ls hl => ?_)
            refine lv_goto (tgt := 2) hx hb dX8_wrapAllUnder_40 (by decide) ?_
            exact ih q19 y1 (y2 + 1) h _ _ hP hD hS ls (lv_sub hl [1, 2, 0] rfl)
  have hl := lv_entry ([.ref m0, .int x1]) (n := 3) (Nat.le_of_ble_eq_true rfl)
  rw [lg_entry_eq]
  generalize (lg_sl ([.ref m0, .int x1]) ++ List.replicate (3 - (lg_sl ([.ref m0, .int x1])).length) Slot.unset).toArray = ls at hl ⊢
  have hl : lv_has ls 3 [(0, .ref m0), (1, .int x1)] := hl
  unfold fX8_wrapAllUnder at h
  refine lv_iconst (v := 0) hx hb dX8_wrapAllUnder_0 (by decide) ?_
  refine lv_istore_n (lv' := [(2, .int 0), (0, .ref m0), (1, .int x1)]) hx hb dX8_wrapAllUnder_1 rfl hl (by decide) rfl (fun ls hl => ?_)
  exact kB2 6000 state x1 0 h _ _ hP hD hS ls (lv_sub hl [1, 2, 0] rfl)
