/-! Pad -/

noncomputable def fX3_signFromRight (x0 : Int64) (x2 : Int32) : Int32 :=
  (((((lushr x0 (8 * x2)) &&& 255)).toInt32))
set_option maxHeartbeats 1000000 in
set_option maxRecDepth 100000 in
theorem mX3_signFromRight (l : Launch) (dC : Nat → ClassId) (dI : Nat → Nat → Nat) (cyI cyO : ClassId)   (x0 : Int64) (x2 : Int32) (sz : Nat) (res : Int32) (h : fX3_signFromRight x0 x2 = res) : Met l yX3_signFromRight (wsG yX3_signFromRight cX3_signFromRight 3 (some .int)) ({ frames := 0, cells := 0, slots := 0, locals := 0 }) (cP dC dI cyI cyO sz [.long x0, .int x2] ([] : va_W)) (cI dC dI res ([] : va_W) (va_A ([] : va_W) sz)) 0 0 (va_A ([] : va_W) sz) := by
  refine Met.ofW (cc := cX3_signFromRight) (maxL := 3) (ret := (some .int)) (by decide) rfl ?_
  intro p e s m args below meth c s₁ B hml hv
  obtain ⟨rfl, hsz, hP, hK, hD0⟩ := hv
  have hx := B.exec
  have hb := B.bytes
  have hr := B.returns
  have hts := atoms_spec (ws := wsG yX3_signFromRight cX3_signFromRight 3 (some .int)) B.pre
  have hown : s.vm.findClass RX3 = some m.cls := findClass_of_methodNamed B.named
  have hlocks := B.notSynchronized
  subst hsz
  have hD := hD0.self (sz := s.heap.size)
  generalize hAe : va_A ([] : va_W) s.heap.size = A at hD ⊢
  have hA : ∀ q : Nat, s.heap.size ≤ q → A q := fun q h => by rw [← hAe]; exact Or.inr h
  have hS : va_S A s.heap s.heap [] := va_S.rf
  have hl := lv_entry ([.long x0, .int x2]) (n := 3) (Nat.le_of_ble_eq_true rfl)
  rw [lg_entry_eq]
  generalize (lg_sl ([.long x0, .int x2]) ++ List.replicate (3 - (lg_sl ([.long x0, .int x2])).length) Slot.unset).toArray = ls at hl ⊢
  have hl : lv_has ls 3 [(0, .long x0), (2, .int x2)] := hl
  unfold fX3_signFromRight at h
  refine lv_lload_n hx hb dX3_signFromRight_0 rfl (lv_at hl 0 rfl) ?_
  refine lv_bipush (v := 8) hx hb dX3_signFromRight_1 (by decide) ?_
  refine lv_iload_n hx hb dX3_signFromRight_3 rfl (lv_at hl 1 rfl) ?_
  refine lv_imul hx hb dX3_signFromRight_4 ?_
  refine lv_lushr (v := (lushr x0 (8 * x2))) hx hb dX3_signFromRight_5 rfl ?_
  refine lv_ldc2 (v := 255) hx hb hown (hts _ (gb_mem k_X3_48)) dX3_signFromRight_6 ?_
  refine lv_land hx hb dX3_signFromRight_9 ?_
  refine lv_l2i (v := (((lushr x0 (8 * x2)) &&& 255)).toInt32) hx hb dX3_signFromRight_10 rfl ?_
  obtain rfl := h
  exact e_i hx hb hr hlocks hP hS dX3_signFromRight_11
noncomputable def fX3_charactersIn_b2 : Nat → Int64 → Int32 → Option (Int32)
  | 0, _, _ => none
  | fuel + 1, y0, y2 =>
  (if 8 ≤ y2 then (some 8) else (if (fX3_signFromRight y0 y2) = 0 then (if (lg_cmp (lushr y0 (8 * y2)) 0) = 0 then (some y2) else (some 0)) else (if (fX3_signFromRight y0 y2) < 33 then (some 0) else (if (fX3_signFromRight y0 y2) ≤ 126 then fX3_charactersIn_b2 fuel y0 (y2 + 1) else (some 0)))))

noncomputable def fX3_charactersIn (x0 : Int64) : Option (Int32) :=
  fX3_charactersIn_b2 6000 x0 0
set_option maxHeartbeats 1000000 in
set_option maxRecDepth 100000 in
theorem mX3_charactersIn (l : Launch) (dC : Nat → ClassId) (dI : Nat → Nat → Nat) (cyI cyO : ClassId)   (x0 : Int64) (sz : Nat) (res : Int32) (h : fX3_charactersIn x0 = some res) : Met l yX3_charactersIn (wsG yX3_charactersIn cX3_charactersIn 4 (some .int)) ({ frames := 1, cells := 0, slots := 0, locals := 22 }) (cP dC dI cyI cyO sz [.long x0] ([] : va_W)) (cI dC dI res ([] : va_W) (va_A ([] : va_W) sz)) 0 0 (va_A ([] : va_W) sz) := by
  refine Met.ofW (cc := cX3_charactersIn) (maxL := 4) (ret := (some .int)) (by decide) rfl ?_
  intro p e s m args below meth c s₁ B hml hv
  obtain ⟨rfl, hsz, hP, hK, hD0⟩ := hv
  have hx := B.exec
  have hb := B.bytes
  have hr := B.returns
  have hts := atoms_spec (ws := wsG yX3_charactersIn cX3_charactersIn 4 (some .int)) B.pre
  have hown : s.vm.findClass RX3 = some m.cls := findClass_of_methodNamed B.named
  have hlocks := B.notSynchronized
  subst hsz
  have hD := hD0.self (sz := s.heap.size)
  generalize hAe : va_A ([] : va_W) s.heap.size = A at hD ⊢
  have hA : ∀ q : Nat, s.heap.size ≤ q → A q := fun q h => by rw [← hAe]; exact Or.inr h
  have hS : va_S A s.heap s.heap [] := va_S.rf
  have kB2 : ∀ (fuel : Nat) (y0 : Int64) (y2 : Int32), fX3_charactersIn_b2 fuel y0 y2 = some res → ∀ (H : Heap) (locs : List Loc), va_P (dC, dI) vwCl ([] : va_W) H → va_D A ([] : va_W) → va_S A s.heap H locs → ∀ ls : Array Slot, lv_has ls 4 [(0, .long y0), (2, .int y2)] → W p l e (headSpec (wsG yX3_charactersIn cX3_charactersIn 4 (some .int)) ({ frames := 1, cells := 0, slots := 0, locals := 22 })).room s m (([.long x0] : List Value).toArray) below meth c H locs 0 0 (MQ below (cI dC dI res ([] : va_W) A) ([.long x0] : List Value).toArray s 0 0 A) (F0 m 2 ls []) := by
    intro fuel
    induction fuel with
    | zero => intro y0 y2 h; rw [fX3_charactersIn_b2] at h; cases h
    | succ fuel ih =>
      intro y0 y2 h H locs hP hD hS ls hl
      rw [fX3_charactersIn_b2] at h
      refine lv_iload_n hx hb dX3_charactersIn_2 rfl (lv_at hl 1 rfl) ?_
      refine lv_bipush (v := 8) hx hb dX3_charactersIn_3 (by decide) ?_
      refine lv_icmp_ge (tgt := 55) hx hb dX3_charactersIn_5 (by decide) (fun c1 => ?_) (fun c1 => ?_)
      · have h := (if_pos c1).symm.trans h
        refine lv_bipush (v := 8) hx hb dX3_charactersIn_55 (by decide) ?_
        obtain rfl := Option.some.inj h
        exact e_i hx hb hr hlocks hP hS dX3_charactersIn_57
      · have h := (if_neg c1).symm.trans h
        refine lv_lload_n hx hb dX3_charactersIn_8 rfl (lv_at hl 0 rfl) ?_
        refine lv_iload_n hx hb dX3_charactersIn_9 rfl (lv_at hl 1 rfl) ?_
        refine fr_ir (M := ([] : va_W)) (va_runS (As := [.long y0, .int y2]) (rest := []) ⟨hx, hb, hml, hown, hts⟩ (mX3_signFromRight l dC dI cyI cyO y0 y2 _ (fX3_signFromRight y0 y2) rfl) (va_cwS 2 hts (gS ml_X3_40 st_X3_signFromRight in_X3 co_X3_signFromRight) rfl rfl rfl (by decide +kernel) ⟨Nat.le_of_ble_eq_true rfl, Nat.le_of_ble_eq_true rfl⟩) (cP_S hK hP hD [] rfl rfl) rfl rfl hl.1 rfl (lv_room (Nat.le_of_ble_eq_true rfl)) dX3_charactersIn_10 ⟨Nat.zero_le _, Nat.zero_le _⟩) hP hD hS hA [] rfl (fun H locs hP hS => ?_)
        refine lv_istore_n (lv' := [(3, .int (fX3_signFromRight y0 y2)), (0, .long y0), (2, .int y2)]) hx hb dX3_charactersIn_13 rfl hl (by decide) rfl (fun ls hl => ?_)
        refine lv_iload_n hx hb dX3_charactersIn_14 rfl (lv_at hl 0 rfl) ?_
        refine lv_if_ne (tgt := 35) hx hb dX3_charactersIn_15 (by decide) (fun c2 => ?_) (fun c2 => ?_)
        · have h := (if_neg c2).symm.trans h
          refine lv_iload_n hx hb dX3_charactersIn_35 rfl (lv_at hl 0 rfl) ?_
          refine lv_bipush (v := 33) hx hb dX3_charactersIn_36 (by decide) ?_
          refine lv_icmp_lt (tgt := 47) hx hb dX3_charactersIn_38 (by decide) (fun c3 => ?_) (fun c3 => ?_)
          · have h := (if_pos c3).symm.trans h
            refine lv_iconst (v := 0) hx hb dX3_charactersIn_47 (by decide) ?_
            obtain rfl := Option.some.inj h
            exact e_i hx hb hr hlocks hP hS dX3_charactersIn_48
          · have h := (if_neg c3).symm.trans h
            refine lv_iload_n hx hb dX3_charactersIn_41 rfl (lv_at hl 0 rfl) ?_
            refine lv_bipush (v := 126) hx hb dX3_charactersIn_42 (by decide) ?_
            refine lv_icmp_le (tgt := 49) hx hb dX3_charactersIn_44 (by decide) (fun c4 => ?_) (fun c4 => ?_)
            · have h := (if_pos c4).symm.trans h
              refine lv_iinc (v := (y2 + 1)) (lv' := [(2, .int (y2 + 1)), (3, .int (fX3_signFromRight y0 y2)), (0, .long y0)]) hx hb dX3_charactersIn_49 hl (k := 2) rfl rfl (by decide) rfl (fun ls hl => ?_)
              refine lv_goto (tgt := 2) hx hb dX3_charactersIn_52 (by decide) ?_
              exact ih y0 (y2 + 1) h _ _ hP hD hS ls (lv_sub hl [2, 0] rfl)
            · have h := (if_neg c4).symm.trans h
              refine lv_iconst (v := 0) hx hb dX3_charactersIn_47 (by decide) ?_
              obtain rfl := Option.some.inj h
              exact e_i hx hb hr hlocks hP hS dX3_charactersIn_48
        · have h := (if_pos c2).symm.trans h
          refine lv_lload_n hx hb dX3_charactersIn_18 rfl (lv_at hl 1 rfl) ?_
          refine lv_bipush (v := 8) hx hb dX3_charactersIn_19 (by decide) ?_
          refine lv_iload_n hx hb dX3_charactersIn_21 rfl (lv_at hl 2 rfl) ?_
          refine lv_imul hx hb dX3_charactersIn_22 ?_
          refine lv_lushr (v := (lushr y0 (8 * y2))) hx hb dX3_charactersIn_23 rfl ?_
          refine lv_lconst (v := 0) hx hb dX3_charactersIn_24 (by decide) ?_
          refine W.lcmp hx hb dX3_charactersIn_25 ?_
          refine lv_if_ne (tgt := 33) hx hb dX3_charactersIn_26 (by decide) (fun c5 => ?_) (fun c5 => ?_)
          · have h := (if_neg c5).symm.trans h
            refine lv_iconst (v := 0) hx hb dX3_charactersIn_33 (by decide) ?_
            obtain rfl := Option.some.inj h
            exact e_i hx hb hr hlocks hP hS dX3_charactersIn_34
          · have h := (if_pos c5).symm.trans h
            refine lv_iload_n hx hb dX3_charactersIn_29 rfl (lv_at hl 2 rfl) ?_
            refine lv_goto (tgt := 34) hx hb dX3_charactersIn_30 (by decide) ?_
            obtain rfl := Option.some.inj h
            exact e_i hx hb hr hlocks hP hS dX3_charactersIn_34
  have hl := lv_entry ([.long x0]) (n := 4) (Nat.le_of_ble_eq_true rfl)
  rw [lg_entry_eq]
  generalize (lg_sl ([.long x0]) ++ List.replicate (4 - (lg_sl ([.long x0])).length) Slot.unset).toArray = ls at hl ⊢
  have hl : lv_has ls 4 [(0, .long x0)] := hl
  unfold fX3_charactersIn at h
  refine lv_iconst (v := 0) hx hb dX3_charactersIn_0 (by decide) ?_
  refine lv_istore_n (lv' := [(2, .int 0), (0, .long x0)]) hx hb dX3_charactersIn_1 rfl hl (by decide) rfl (fun ls hl => ?_)
  exact kB2 6000 x0 0 h _ _ hP hD hS ls (lv_sub hl [1, 0] rfl)
noncomputable def fX3_append_b29 : Nat → (Nat → Int32) → Int32 → Int64 → Int32 → Int32 → Option (Int32 × (Nat → Int32) × Int32)
  | 0, _, _, _, _, _ => none
  | fuel + 1, signs, length, y1, y3, y4 =>
  (if y3 ≤ y4 then (some ((length + y3), signs, (length + y3))) else fX3_append_b29 fuel (rSet 60 signs (length + y4) (fX3_signFromRight y1 ((y3 - 1) - y4))) length y1 y3 (y4 + 1))

noncomputable def fX3_append (signs : Nat → Int32) (length : Int32) (x1 : Int64) : Option (Int32 × (Nat → Int32) × Int32) :=
  ((fX3_charactersIn x1).bind fun q2 => (if 0 < q2 then (if (length + q2) ≤ 60 then fX3_append_b29 6000 signs length x1 q2 0 else (some ((-4), signs, length))) else (some ((-2), signs, length))))
set_option maxHeartbeats 1000000 in
set_option maxRecDepth 100000 in
theorem mX3_append (l : Launch) (dC : Nat → ClassId) (dI : Nat → Nat → Nat) (cyI cyO : ClassId) (p0 p1 p2 : Nat) (signs : Nat → Int32) (length : Int32) (next : Int32) (letter : Int32) (target : Int32) (place : Int32) (x1 : Int64) (sz : Nat) (res : Int32 × (Nat → Int32) × Int32) (h : fX3_append signs length x1 = some res) : Met l yX3_append (wsG yX3_append cX3_append 5 (some .int)) ({ frames := 2, cells := 0, slots := 0, locals := 45 }) (cP dC dI cyI cyO sz [.ref p0, .long x1] (padW cyI p0 p1 p2 signs length next letter target place)) (cI dC dI res.1 (padW cyI p0 p1 p2 res.2.1 res.2.2 next letter target place) (va_A (padW cyI p0 p1 p2 signs length next letter target place) sz)) 0 0 (va_A (padW cyI p0 p1 p2 signs length next letter target place) sz) := by
  refine Met.ofW (cc := cX3_append) (maxL := 5) (ret := (some .int)) (by decide) rfl ?_
  intro p e s m args below meth c s₁ B hml hv
  obtain ⟨rfl, hsz, hP, hK, hD0⟩ := hv
  have hx := B.exec
  have hb := B.bytes
  have hr := B.returns
  have hts := atoms_spec (ws := wsG yX3_append cX3_append 5 (some .int)) B.pre
  have hown : s.vm.findClass RX3 = some m.cls := findClass_of_methodNamed B.named
  have hlocks := B.notSynchronized
  subst hsz
  have hD := hD0.self (sz := s.heap.size)
  generalize hAe : va_A (padW cyI p0 p1 p2 signs length next letter target place) s.heap.size = A at hD ⊢
  have hA : ∀ q : Nat, s.heap.size ≤ q → A q := fun q h => by rw [← hAe]; exact Or.inr h
  have hS : va_S A s.heap s.heap [] := va_S.rf
  have kB29 : ∀ (fuel : Nat) (signs : Nat → Int32) (length : Int32) (y1 : Int64) (y3 : Int32) (y4 : Int32), fX3_append_b29 fuel signs length y1 y3 y4 = some res → ∀ (H : Heap) (locs : List Loc), va_P (dC, dI) vwCl (padW cyI p0 p1 p2 signs length next letter target place) H → va_D A (padW cyI p0 p1 p2 signs length next letter target place) → va_S A s.heap H locs → ∀ ls : Array Slot, lv_has ls 5 [(0, .ref p0), (1, .long y1), (3, .int y3), (4, .int y4)] → W p l e (headSpec (wsG yX3_append cX3_append 5 (some .int)) ({ frames := 2, cells := 0, slots := 0, locals := 45 })).room s m (([.ref p0, .long x1] : List Value).toArray) below meth c H locs 0 0 (MQ below (cI dC dI res.1 (padW cyI p0 p1 p2 res.2.1 res.2.2 next letter target place) A) ([.ref p0, .long x1] : List Value).toArray s 0 0 A) (F0 m 29 ls []) := by
    intro fuel
    induction fuel with
    | zero => intro signs length y1 y3 y4 h; rw [fX3_append_b29] at h; cases h
    | succ fuel ih =>
      intro signs length y1 y3 y4 h H locs hP hD hS ls hl
      rw [fX3_append_b29] at h
      refine lv_iload hx hb dX3_append_29 (lv_at hl 3 rfl) ?_
      refine lv_iload_n hx hb dX3_append_31 rfl (lv_at hl 2 rfl) ?_
      refine lv_icmp_ge (tgt := 65) hx hb dX3_append_32 (by decide) (fun c1 => ?_) (fun c1 => ?_)
      · have h := (if_pos c1).symm.trans h
        refine lv_aload_n hx hb dX3_append_65 rfl (lv_at hl 0 rfl) ?_
        refine lv_dup hx hb dX3_append_66 rfl ?_
        refine va_get (D := (dC, dI)) (ci := 3) (v := .int length) (C := RX3) (T := TX3) (N := 6) hx hb hts (fun w h9 => gb_mem (lay_X3 w h9)) hown hK.1 hP 0 rfl rfl 1 (by decide) (hts _ (gb_mem fl_X3_20)) (fun _ h9 => h9) rfl dX3_append_67 ?_
        refine lv_iload_n hx hb dX3_append_70 rfl (lv_at hl 2 rfl) ?_
        refine lv_iadd hx hb dX3_append_71 ?_
        refine va_put (D := (dC, dI)) (ci := 3) (v := .int (length + y3)) (ty := .int) (C := RX3) (T := TX3) (N := 6) hx hb hts (fun w h9 => gb_mem (lay_X3 w h9)) tyX3 tyX3_ok nmX3 hown hK.1 hP hD hS 0 rfl rfl 1 (by decide) (hts _ (gb_mem fl_X3_20)) (fun _ h9 => h9) rfl (by decide +kernel) rfl rfl (Nat.le_of_ble_eq_true rfl) dX3_append_72 (fun H locs hP hD hS => ?_)
        have hP : va_P (dC, dI) vwCl (padW cyI p0 p1 p2 signs (length + y3) next letter target place) H := hP
        have hD : va_D A (padW cyI p0 p1 p2 signs (length + y3) next letter target place) := hD
        refine lv_aload_n hx hb dX3_append_75 rfl (lv_at hl 0 rfl) ?_
        refine va_get (D := (dC, dI)) (ci := 3) (v := .int (length + y3)) (C := RX3) (T := TX3) (N := 6) hx hb hts (fun w h9 => gb_mem (lay_X3 w h9)) hown hK.1 hP 0 rfl rfl 1 (by decide) (hts _ (gb_mem fl_X3_20)) (fun _ h9 => h9) rfl dX3_append_76 ?_
        obtain rfl := Option.some.inj h
        exact e_i hx hb hr hlocks hP hS dX3_append_79
      · have h := (if_neg c1).symm.trans h
        refine lv_aload_n hx hb dX3_append_35 rfl (lv_at hl 0 rfl) ?_
        refine va_get (D := (dC, dI)) (ci := 3) (v := .ref p1) (C := RX3) (T := TX3) (N := 6) hx hb hts (fun w h9 => gb_mem (lay_X3 w h9)) hown hK.1 hP 0 rfl rfl 0 (by decide) (hts _ (gb_mem fl_X3_14)) (fun _ h9 => h9) rfl dX3_append_36 ?_
        refine lv_aload_n hx hb dX3_append_39 rfl (lv_at hl 0 rfl) ?_
        refine va_get (D := (dC, dI)) (ci := 3) (v := .int length) (C := RX3) (T := TX3) (N := 6) hx hb hts (fun w h9 => gb_mem (lay_X3 w h9)) hown hK.1 hP 0 rfl rfl 1 (by decide) (hts _ (gb_mem fl_X3_20)) (fun _ h9 => h9) rfl dX3_append_40 ?_
        refine lv_iload hx hb dX3_append_43 (lv_at hl 3 rfl) ?_
        refine lv_iadd hx hb dX3_append_45 ?_
        refine lv_lload_n hx hb dX3_append_46 rfl (lv_at hl 1 rfl) ?_
        refine lv_iload_n hx hb dX3_append_47 rfl (lv_at hl 2 rfl) ?_
        refine lv_iconst (v := 1) hx hb dX3_append_48 (by decide) ?_
        refine lv_isub hx hb dX3_append_49 ?_
        refine lv_iload hx hb dX3_append_50 (lv_at hl 3 rfl) ?_
        refine lv_isub hx hb dX3_append_52 ?_
        refine fr_ir (M := ([] : va_W)) (va_runS (As := [.long y1, .int ((y3 - 1) - y4)]) (rest := [.int (length + y4), .ref p1]) ⟨hx, hb, hml, hown, hts⟩ (mX3_signFromRight l dC dI cyI cyO y1 ((y3 - 1) - y4) _ (fX3_signFromRight y1 ((y3 - 1) - y4)) rfl) (va_cwS 2 hts (gS ml_X3_40 st_X3_signFromRight in_X3 co_X3_signFromRight) rfl rfl rfl (by decide +kernel) ⟨Nat.le_of_ble_eq_true rfl, Nat.le_of_ble_eq_true rfl⟩) (cP_S hK hP hD [] rfl rfl) rfl rfl hl.1 rfl (lv_room (Nat.le_of_ble_eq_true rfl)) dX3_append_53 ⟨Nat.zero_le _, Nat.zero_le _⟩) hP hD hS hA [] rfl (fun H locs hP hS => ?_)
        refine fr_v (M := (rowW cyI p1 p2 60 signs)) (M' := (rowW cyI p1 p2 60 (rSet 60 signs (length + y4) (fX3_signFromRight y1 ((y3 - 1) - y4))))) (L' := (padW cyI p0 p1 p2 (rSet 60 signs (length + y4) (fX3_signFromRight y1 ((y3 - 1) - y4))) length next letter target place)) (va_runV (As := [.int (length + y4), .int (fX3_signFromRight y1 ((y3 - 1) - y4))]) (rest := []) ⟨hx, hb, hml, hown, hts⟩ (tX4_set l dC dI cyI cyO p1 p2 60 signs (length + y4) (fX3_signFromRight y1 ((y3 - 1) - y4)) _ (rSet 60 signs (length + y4) (fX3_signFromRight y1 ((y3 - 1) - y4))) rfl (by decide)) (cwV 2 hts (gV ml_X3_44 im_X4_set se_X4_set in_X4 co_X4_set) rfl rfl rfl (by decide +kernel) ⟨Nat.le_of_ble_eq_true rfl, Nat.le_of_ble_eq_true rfl⟩) (cP_V hK hP hD [1, 2] rfl rfl 1 rfl rfl) rfl rfl hl.1 rfl (lv_room (Nat.le_of_ble_eq_true rfl)) dX3_append_56 ⟨Nat.zero_le _, Nat.zero_le _⟩) hP hD hS hA [1, 2] rfl [(false, 0), (true, 0), (true, 1)] rfl rfl rfl (fun H locs hP hD hS => ?_)
        refine lv_iinc (v := (y4 + 1)) (lv' := [(4, .int (y4 + 1)), (0, .ref p0), (1, .long y1), (3, .int y3)]) hx hb dX3_append_59 hl (k := 3) rfl rfl (by decide) rfl (fun ls hl => ?_)
        refine lv_goto (tgt := 29) hx hb dX3_append_62 (by decide) ?_
        exact ih (rSet 60 signs (length + y4) (fX3_signFromRight y1 ((y3 - 1) - y4))) length y1 y3 (y4 + 1) h _ _ hP hD hS ls (lv_sub hl [1, 2, 3, 0] rfl)
  have hl := lv_entry ([.ref p0, .long x1]) (n := 5) (Nat.le_of_ble_eq_true rfl)
  rw [lg_entry_eq]
  generalize (lg_sl ([.ref p0, .long x1]) ++ List.replicate (5 - (lg_sl ([.ref p0, .long x1])).length) Slot.unset).toArray = ls at hl ⊢
  have hl : lv_has ls 5 [(0, .ref p0), (1, .long x1)] := hl
  unfold fX3_append at h
  refine lv_lload_n hx hb dX3_append_0 rfl (lv_at hl 1 rfl) ?_
  obtain ⟨q2, e3, h⟩ := ob h
  refine fr_ir (M := ([] : va_W)) (va_runS (As := [.long x1]) (rest := []) ⟨hx, hb, hml, hown, hts⟩ (mX3_charactersIn l dC dI cyI cyO x1 _ q2 e3) (va_cwS 1 hts (gS ml_X3_36 st_X3_charactersIn in_X3 co_X3_charactersIn) rfl rfl rfl (by decide +kernel) ⟨Nat.le_of_ble_eq_true rfl, Nat.le_of_ble_eq_true rfl⟩) (cP_S hK hP hD [] rfl rfl) rfl rfl hl.1 rfl (lv_room (Nat.le_of_ble_eq_true rfl)) dX3_append_1 ⟨Nat.zero_le _, Nat.zero_le _⟩) hP hD hS hA [] rfl (fun H locs hP hS => ?_)
  refine lv_istore_n (lv' := [(3, .int q2), (0, .ref p0), (1, .long x1)]) hx hb dX3_append_4 rfl hl (by decide) rfl (fun ls hl => ?_)
  refine lv_iload_n hx hb dX3_append_5 rfl (lv_at hl 0 rfl) ?_
  refine lv_if_gt (tgt := 12) hx hb dX3_append_6 (by decide) (fun c4 => ?_) (fun c4 => ?_)
  · have h := (if_pos c4).symm.trans h
    refine lv_aload_n hx hb dX3_append_12 rfl (lv_at hl 1 rfl) ?_
    refine va_get (D := (dC, dI)) (ci := 3) (v := .int length) (C := RX3) (T := TX3) (N := 6) hx hb hts (fun w h9 => gb_mem (lay_X3 w h9)) hown hK.1 hP 0 rfl rfl 1 (by decide) (hts _ (gb_mem fl_X3_20)) (fun _ h9 => h9) rfl dX3_append_13 ?_
    refine lv_iload_n hx hb dX3_append_16 rfl (lv_at hl 0 rfl) ?_
    refine lv_iadd hx hb dX3_append_17 ?_
    refine lv_bipush (v := 60) hx hb dX3_append_18 (by decide) ?_
    refine lv_icmp_le (tgt := 26) hx hb dX3_append_20 (by decide) (fun c5 => ?_) (fun c5 => ?_)
    · have h := (if_pos c5).symm.trans h
      refine lv_iconst (v := 0) hx hb dX3_append_26 (by decide) ?_
      refine lv_istore (lv' := [(4, .int 0), (3, .int q2), (0, .ref p0), (1, .long x1)]) hx hb dX3_append_27 hl (by decide) rfl (fun ls hl => ?_)
      exact kB29 6000 signs length x1 q2 0 h _ _ hP hD hS ls (lv_sub hl [2, 3, 1, 0] rfl)
    · have h := (if_neg c5).symm.trans h
      refine lv_bipush (v := (-4)) hx hb dX3_append_23 (by decide) ?_
      obtain rfl := Option.some.inj h
      exact e_i hx hb hr hlocks hP hS dX3_append_25
  · have h := (if_neg c4).symm.trans h
    refine lv_bipush (v := (-2)) hx hb dX3_append_9 (by decide) ?_
    obtain rfl := Option.some.inj h
    exact e_i hx hb hr hlocks hP hS dX3_append_11

noncomputable def fX3_clear (length : Int32) : Option (Int32 × Int32) :=
  (some (length, 0))
set_option maxHeartbeats 1000000 in
set_option maxRecDepth 100000 in
theorem mX3_clear (l : Launch) (dC : Nat → ClassId) (dI : Nat → Nat → Nat) (cyI cyO : ClassId) (p0 p1 p2 : Nat) (signs : Nat → Int32) (length : Int32) (next : Int32) (letter : Int32) (target : Int32) (place : Int32)  (sz : Nat) (res : Int32 × Int32) (h : fX3_clear length = some res) : Met l yX3_clear (wsG yX3_clear cX3_clear 2 (some .int)) ({ frames := 0, cells := 0, slots := 0, locals := 0 }) (cP dC dI cyI cyO sz [.ref p0] (padW cyI p0 p1 p2 signs length next letter target place)) (cI dC dI res.1 (padW cyI p0 p1 p2 signs res.2 next letter target place) (va_A (padW cyI p0 p1 p2 signs length next letter target place) sz)) 0 0 (va_A (padW cyI p0 p1 p2 signs length next letter target place) sz) := by
  refine Met.ofW (cc := cX3_clear) (maxL := 2) (ret := (some .int)) (by decide) rfl ?_
  intro p e s m args below meth c s₁ B hml hv
  obtain ⟨rfl, hsz, hP, hK, hD0⟩ := hv
  have hx := B.exec
  have hb := B.bytes
  have hr := B.returns
  have hts := atoms_spec (ws := wsG yX3_clear cX3_clear 2 (some .int)) B.pre
  have hown : s.vm.findClass RX3 = some m.cls := findClass_of_methodNamed B.named
  have hlocks := B.notSynchronized
  subst hsz
  have hD := hD0.self (sz := s.heap.size)
  generalize hAe : va_A (padW cyI p0 p1 p2 signs length next letter target place) s.heap.size = A at hD ⊢
  have hA : ∀ q : Nat, s.heap.size ≤ q → A q := fun q h => by rw [← hAe]; exact Or.inr h
  have hS : va_S A s.heap s.heap [] := va_S.rf
  have hl := lv_entry ([.ref p0]) (n := 2) (Nat.le_of_ble_eq_true rfl)
  rw [lg_entry_eq]
  generalize (lg_sl ([.ref p0]) ++ List.replicate (2 - (lg_sl ([.ref p0])).length) Slot.unset).toArray = ls at hl ⊢
  have hl : lv_has ls 2 [(0, .ref p0)] := hl
  unfold fX3_clear at h
  refine lv_aload_n hx hb dX3_clear_0 rfl (lv_at hl 0 rfl) ?_
  refine va_get (D := (dC, dI)) (ci := 3) (v := .int length) (C := RX3) (T := TX3) (N := 6) hx hb hts (fun w h9 => gb_mem (lay_X3 w h9)) hown hK.1 hP 0 rfl rfl 1 (by decide) (hts _ (gb_mem fl_X3_20)) (fun _ h9 => h9) rfl dX3_clear_1 ?_
  refine lv_istore_n (lv' := [(1, .int length), (0, .ref p0)]) hx hb dX3_clear_4 rfl hl (by decide) rfl (fun ls hl => ?_)
  refine lv_aload_n hx hb dX3_clear_5 rfl (lv_at hl 1 rfl) ?_
  refine lv_iconst (v := 0) hx hb dX3_clear_6 (by decide) ?_
  refine va_put (D := (dC, dI)) (ci := 3) (v := .int 0) (ty := .int) (C := RX3) (T := TX3) (N := 6) hx hb hts (fun w h9 => gb_mem (lay_X3 w h9)) tyX3 tyX3_ok nmX3 hown hK.1 hP hD hS 0 rfl rfl 1 (by decide) (hts _ (gb_mem fl_X3_20)) (fun _ h9 => h9) rfl (by decide +kernel) rfl rfl (Nat.le_of_ble_eq_true rfl) dX3_clear_7 (fun H locs hP hD hS => ?_)
  have hP : va_P (dC, dI) vwCl (padW cyI p0 p1 p2 signs 0 next letter target place) H := hP
  have hD : va_D A (padW cyI p0 p1 p2 signs 0 next letter target place) := hD
  refine lv_iload_n hx hb dX3_clear_10 rfl (lv_at hl 0 rfl) ?_
  obtain rfl := Option.some.inj h
  exact e_i hx hb hr hlocks hP hS dX3_clear_11

noncomputable def fX3_startReading (next : Int32) : Int32 :=
  (0)
set_option maxHeartbeats 1000000 in
set_option maxRecDepth 100000 in
theorem mX3_startReading (l : Launch) (dC : Nat → ClassId) (dI : Nat → Nat → Nat) (cyI cyO : ClassId) (p0 p1 p2 : Nat) (signs : Nat → Int32) (length : Int32) (next : Int32) (letter : Int32) (target : Int32) (place : Int32)  (sz : Nat) (res : Int32) (h : fX3_startReading next = res) : Met l yX3_startReading (wsG yX3_startReading cX3_startReading 1 none) ({ frames := 0, cells := 0, slots := 0, locals := 0 }) (cP dC dI cyI cyO sz [.ref p0] (padW cyI p0 p1 p2 signs length next letter target place)) (cV dC dI (padW cyI p0 p1 p2 signs length res letter target place) (va_A (padW cyI p0 p1 p2 signs length next letter target place) sz)) 0 0 (va_A (padW cyI p0 p1 p2 signs length next letter target place) sz) := by
  refine Met.ofW (cc := cX3_startReading) (maxL := 1) (ret := none) (by decide) rfl ?_
  intro p e s m args below meth c s₁ B hml hv
  obtain ⟨rfl, hsz, hP, hK, hD0⟩ := hv
  have hx := B.exec
  have hb := B.bytes
  have hr := B.returns
  have hts := atoms_spec (ws := wsG yX3_startReading cX3_startReading 1 none) B.pre
  have hown : s.vm.findClass RX3 = some m.cls := findClass_of_methodNamed B.named
  have hlocks := B.notSynchronized
  subst hsz
  have hD := hD0.self (sz := s.heap.size)
  generalize hAe : va_A (padW cyI p0 p1 p2 signs length next letter target place) s.heap.size = A at hD ⊢
  have hA : ∀ q : Nat, s.heap.size ≤ q → A q := fun q h => by rw [← hAe]; exact Or.inr h
  have hS : va_S A s.heap s.heap [] := va_S.rf
  have hl := lv_entry ([.ref p0]) (n := 1) (Nat.le_of_ble_eq_true rfl)
  rw [lg_entry_eq]
  generalize (lg_sl ([.ref p0]) ++ List.replicate (1 - (lg_sl ([.ref p0])).length) Slot.unset).toArray = ls at hl ⊢
  have hl : lv_has ls 1 [(0, .ref p0)] := hl
  unfold fX3_startReading at h
  refine lv_aload_n hx hb dX3_startReading_0 rfl (lv_at hl 0 rfl) ?_
  refine lv_iconst (v := 0) hx hb dX3_startReading_1 (by decide) ?_
  refine va_put (D := (dC, dI)) (ci := 3) (v := .int 0) (ty := .int) (C := RX3) (T := TX3) (N := 6) hx hb hts (fun w h9 => gb_mem (lay_X3 w h9)) tyX3 tyX3_ok nmX3 hown hK.1 hP hD hS 0 rfl rfl 2 (by decide) (hts _ (gb_mem fl_X3_24)) (fun _ h9 => h9) rfl (by decide +kernel) rfl rfl (Nat.le_of_ble_eq_true rfl) dX3_startReading_2 (fun H locs hP hD hS => ?_)
  have hP : va_P (dC, dI) vwCl (padW cyI p0 p1 p2 signs length 0 letter target place) H := hP
  have hD : va_D A (padW cyI p0 p1 p2 signs length 0 letter target place) := hD
  obtain rfl := h
  exact e_v hx hb hr hlocks hP hS dX3_startReading_5

noncomputable def fX3_hasMore (length : Int32) (next : Int32) : Int32 :=
  (if length ≤ next then (0) else (1))
set_option maxHeartbeats 1000000 in
set_option maxRecDepth 100000 in
theorem mX3_hasMore (l : Launch) (dC : Nat → ClassId) (dI : Nat → Nat → Nat) (cyI cyO : ClassId) (p0 p1 p2 : Nat) (signs : Nat → Int32) (length : Int32) (next : Int32) (letter : Int32) (target : Int32) (place : Int32)  (sz : Nat) (res : Int32) (h : fX3_hasMore length next = res) : Met l yX3_hasMore (wsG yX3_hasMore cX3_hasMore 1 (some .boolean)) ({ frames := 0, cells := 0, slots := 0, locals := 0 }) (cP dC dI cyI cyO sz [.ref p0] (padW cyI p0 p1 p2 signs length next letter target place)) (cI dC dI res (padW cyI p0 p1 p2 signs length next letter target place) (va_A (padW cyI p0 p1 p2 signs length next letter target place) sz)) 0 0 (va_A (padW cyI p0 p1 p2 signs length next letter target place) sz) := by
  refine Met.ofW (cc := cX3_hasMore) (maxL := 1) (ret := (some .boolean)) (by decide) rfl ?_
  intro p e s m args below meth c s₁ B hml hv
  obtain ⟨rfl, hsz, hP, hK, hD0⟩ := hv
  have hx := B.exec
  have hb := B.bytes
  have hr := B.returns
  have hts := atoms_spec (ws := wsG yX3_hasMore cX3_hasMore 1 (some .boolean)) B.pre
  have hown : s.vm.findClass RX3 = some m.cls := findClass_of_methodNamed B.named
  have hlocks := B.notSynchronized
  subst hsz
  have hD := hD0.self (sz := s.heap.size)
  generalize hAe : va_A (padW cyI p0 p1 p2 signs length next letter target place) s.heap.size = A at hD ⊢
  have hA : ∀ q : Nat, s.heap.size ≤ q → A q := fun q h => by rw [← hAe]; exact Or.inr h
  have hS : va_S A s.heap s.heap [] := va_S.rf
  have hl := lv_entry ([.ref p0]) (n := 1) (Nat.le_of_ble_eq_true rfl)
  rw [lg_entry_eq]
  generalize (lg_sl ([.ref p0]) ++ List.replicate (1 - (lg_sl ([.ref p0])).length) Slot.unset).toArray = ls at hl ⊢
  have hl : lv_has ls 1 [(0, .ref p0)] := hl
  unfold fX3_hasMore at h
  refine lv_aload_n hx hb dX3_hasMore_0 rfl (lv_at hl 0 rfl) ?_
  refine va_get (D := (dC, dI)) (ci := 3) (v := .int next) (C := RX3) (T := TX3) (N := 6) hx hb hts (fun w h9 => gb_mem (lay_X3 w h9)) hown hK.1 hP 0 rfl rfl 2 (by decide) (hts _ (gb_mem fl_X3_24)) (fun _ h9 => h9) rfl dX3_hasMore_1 ?_
  refine lv_aload_n hx hb dX3_hasMore_4 rfl (lv_at hl 0 rfl) ?_
  refine va_get (D := (dC, dI)) (ci := 3) (v := .int length) (C := RX3) (T := TX3) (N := 6) hx hb hts (fun w h9 => gb_mem (lay_X3 w h9)) hown hK.1 hP 0 rfl rfl 1 (by decide) (hts _ (gb_mem fl_X3_20)) (fun _ h9 => h9) rfl dX3_hasMore_5 ?_
  refine lv_icmp_ge (tgt := 15) hx hb dX3_hasMore_8 (by decide) (fun c1 => ?_) (fun c1 => ?_)
  · have h := (if_pos c1).symm.trans h
    refine lv_iconst (v := 0) hx hb dX3_hasMore_15 (by decide) ?_
    obtain rfl := h
    exact e_z (v := 0) hx hb hr hlocks rfl hP hS dX3_hasMore_16
  · have h := (if_neg c1).symm.trans h
    refine lv_iconst (v := 1) hx hb dX3_hasMore_11 (by decide) ?_
    refine lv_goto (tgt := 16) hx hb dX3_hasMore_12 (by decide) ?_
    obtain rfl := h
    exact e_z (v := 1) hx hb hr hlocks rfl hP hS dX3_hasMore_16
theorem nb_X3_hasMore (length : Int32) (next : Int32)  : narrow .boolean (.int (fX3_hasMore length next)) = .int (fX3_hasMore length next) := by
  unfold fX3_hasMore
  repeat (first | rfl | split)

noncomputable def fX3_nextSign (signs : Nat → Int32) (length : Int32) (next : Int32) : Int32 :=
  (if (fX3_hasMore length next) = 0 then (0) else ((rAt 60 signs next)))
set_option maxHeartbeats 1000000 in
set_option maxRecDepth 100000 in
theorem mX3_nextSign (l : Launch) (dC : Nat → ClassId) (dI : Nat → Nat → Nat) (cyI cyO : ClassId) (p0 p1 p2 : Nat) (signs : Nat → Int32) (length : Int32) (next : Int32) (letter : Int32) (target : Int32) (place : Int32)  (sz : Nat) (res : Int32) (h : fX3_nextSign signs length next = res) : Met l yX3_nextSign (wsG yX3_nextSign cX3_nextSign 1 (some .int)) ({ frames := 1, cells := 0, slots := 0, locals := 21 }) (cP dC dI cyI cyO sz [.ref p0] (padW cyI p0 p1 p2 signs length next letter target place)) (cI dC dI res (padW cyI p0 p1 p2 signs length next letter target place) (va_A (padW cyI p0 p1 p2 signs length next letter target place) sz)) 0 0 (va_A (padW cyI p0 p1 p2 signs length next letter target place) sz) := by
  refine Met.ofW (cc := cX3_nextSign) (maxL := 1) (ret := (some .int)) (by decide) rfl ?_
  intro p e s m args below meth c s₁ B hml hv
  obtain ⟨rfl, hsz, hP, hK, hD0⟩ := hv
  have hx := B.exec
  have hb := B.bytes
  have hr := B.returns
  have hts := atoms_spec (ws := wsG yX3_nextSign cX3_nextSign 1 (some .int)) B.pre
  have hown : s.vm.findClass RX3 = some m.cls := findClass_of_methodNamed B.named
  have hlocks := B.notSynchronized
  subst hsz
  have hD := hD0.self (sz := s.heap.size)
  generalize hAe : va_A (padW cyI p0 p1 p2 signs length next letter target place) s.heap.size = A at hD ⊢
  have hA : ∀ q : Nat, s.heap.size ≤ q → A q := fun q h => by rw [← hAe]; exact Or.inr h
  have hS : va_S A s.heap s.heap [] := va_S.rf
  have hl := lv_entry ([.ref p0]) (n := 1) (Nat.le_of_ble_eq_true rfl)
  rw [lg_entry_eq]
  generalize (lg_sl ([.ref p0]) ++ List.replicate (1 - (lg_sl ([.ref p0])).length) Slot.unset).toArray = ls at hl ⊢
  have hl : lv_has ls 1 [(0, .ref p0)] := hl
  unfold fX3_nextSign at h
  refine lv_aload_n hx hb dX3_nextSign_0 rfl (lv_at hl 0 rfl) ?_
  refine fr_ir (M := (padW cyI p0 p1 p2 signs length next letter target place)) (va_runV (As := []) (rest := []) ⟨hx, hb, hml, hown, hts⟩ (mX3_hasMore l dC dI cyI cyO p0 p1 p2 signs length next letter target place _ (fX3_hasMore length next) rfl) (cwV 0 hts (gV ml_X3_57 im_X3_hasMore se_X3_hasMore in_X3 co_X3_hasMore) rfl rfl rfl (by decide +kernel) ⟨Nat.le_of_ble_eq_true rfl, Nat.le_of_ble_eq_true rfl⟩) (cP_V hK hP hD [0, 1, 2] rfl rfl 0 rfl rfl) rfl rfl hl.1 rfl (lv_room (Nat.le_of_ble_eq_true rfl)) dX3_nextSign_1 ⟨Nat.zero_le _, Nat.zero_le _⟩) hP hD hS hA [0, 1, 2] rfl (fun H locs hP hS => ?_)
  refine lv_if_eq (tgt := 21) hx hb dX3_nextSign_4 (by decide) (fun c1 => ?_) (fun c1 => ?_)
  · have h := (if_pos c1).symm.trans h
    refine lv_iconst (v := 0) hx hb dX3_nextSign_21 (by decide) ?_
    obtain rfl := h
    exact e_i hx hb hr hlocks hP hS dX3_nextSign_22
  · have h := (if_neg c1).symm.trans h
    refine lv_aload_n hx hb dX3_nextSign_7 rfl (lv_at hl 0 rfl) ?_
    refine va_get (D := (dC, dI)) (ci := 3) (v := .ref p1) (C := RX3) (T := TX3) (N := 6) hx hb hts (fun w h9 => gb_mem (lay_X3 w h9)) hown hK.1 hP 0 rfl rfl 0 (by decide) (hts _ (gb_mem fl_X3_14)) (fun _ h9 => h9) rfl dX3_nextSign_8 ?_
    refine lv_aload_n hx hb dX3_nextSign_11 rfl (lv_at hl 0 rfl) ?_
    refine va_get (D := (dC, dI)) (ci := 3) (v := .int next) (C := RX3) (T := TX3) (N := 6) hx hb hts (fun w h9 => gb_mem (lay_X3 w h9)) hown hK.1 hP 0 rfl rfl 2 (by decide) (hts _ (gb_mem fl_X3_24)) (fun _ h9 => h9) rfl dX3_nextSign_12 ?_
    refine fr_ir (M := (rowW cyI p1 p2 60 signs)) (va_runV (As := [.int next]) (rest := []) ⟨hx, hb, hml, hown, hts⟩ (tX4_at l dC dI cyI cyO p1 p2 60 signs next _ (rAt 60 signs next) rfl (by decide)) (cwV 1 hts (gV ml_X3_84 im_X4_at se_X4_at in_X4 co_X4_at) rfl rfl rfl (by decide +kernel) ⟨Nat.le_of_ble_eq_true rfl, Nat.le_of_ble_eq_true rfl⟩) (cP_V hK hP hD [1, 2] rfl rfl 1 rfl rfl) rfl rfl hl.1 rfl (lv_room (Nat.le_of_ble_eq_true rfl)) dX3_nextSign_15 ⟨Nat.zero_le _, Nat.zero_le _⟩) hP hD hS hA [1, 2] rfl (fun H locs hP hS => ?_)
    refine lv_goto (tgt := 22) hx hb dX3_nextSign_18 (by decide) ?_
    obtain rfl := h
    exact e_i hx hb hr hlocks hP hS dX3_nextSign_22

noncomputable def fX3_skip (signs : Nat → Int32) (length : Int32) (next : Int32) (x1 : Int32) : Option (Int32 × Int32) :=
  (if (fX3_nextSign signs length next) = x1 then (some (1, (next + 1))) else (some (0, next)))
set_option maxHeartbeats 1000000 in
set_option maxRecDepth 100000 in
theorem mX3_skip (l : Launch) (dC : Nat → ClassId) (dI : Nat → Nat → Nat) (cyI cyO : ClassId) (p0 p1 p2 : Nat) (signs : Nat → Int32) (length : Int32) (next : Int32) (letter : Int32) (target : Int32) (place : Int32) (x1 : Int32) (sz : Nat) (res : Int32 × Int32) (h : fX3_skip signs length next x1 = some res) : Met l yX3_skip (wsG yX3_skip cX3_skip 3 (some .boolean)) ({ frames := 2, cells := 0, slots := 0, locals := 41 }) (cP dC dI cyI cyO sz [.ref p0, .int x1] (padW cyI p0 p1 p2 signs length next letter target place)) (cI dC dI res.1 (padW cyI p0 p1 p2 signs length res.2 letter target place) (va_A (padW cyI p0 p1 p2 signs length next letter target place) sz)) 0 0 (va_A (padW cyI p0 p1 p2 signs length next letter target place) sz) := by
  refine Met.ofW (cc := cX3_skip) (maxL := 3) (ret := (some .boolean)) (by decide) rfl ?_
  intro p e s m args below meth c s₁ B hml hv
  obtain ⟨rfl, hsz, hP, hK, hD0⟩ := hv
  have hx := B.exec
  have hb := B.bytes
  have hr := B.returns
  have hts := atoms_spec (ws := wsG yX3_skip cX3_skip 3 (some .boolean)) B.pre
  have hown : s.vm.findClass RX3 = some m.cls := findClass_of_methodNamed B.named
  have hlocks := B.notSynchronized
  subst hsz
  have hD := hD0.self (sz := s.heap.size)
  generalize hAe : va_A (padW cyI p0 p1 p2 signs length next letter target place) s.heap.size = A at hD ⊢
  have hA : ∀ q : Nat, s.heap.size ≤ q → A q := fun q h => by rw [← hAe]; exact Or.inr h
  have hS : va_S A s.heap s.heap [] := va_S.rf
  have hl := lv_entry ([.ref p0, .int x1]) (n := 3) (Nat.le_of_ble_eq_true rfl)
  rw [lg_entry_eq]
  generalize (lg_sl ([.ref p0, .int x1]) ++ List.replicate (3 - (lg_sl ([.ref p0, .int x1])).length) Slot.unset).toArray = ls at hl ⊢
  have hl : lv_has ls 3 [(0, .ref p0), (1, .int x1)] := hl
  unfold fX3_skip at h
  refine lv_aload_n hx hb dX3_skip_0 rfl (lv_at hl 0 rfl) ?_
  refine fr_ir (M := (padW cyI p0 p1 p2 signs length next letter target place)) (va_runV (As := []) (rest := []) ⟨hx, hb, hml, hown, hts⟩ (mX3_nextSign l dC dI cyI cyO p0 p1 p2 signs length next letter target place _ (fX3_nextSign signs length next) rfl) (cwV 0 hts (gV ml_X3_67 im_X3_nextSign se_X3_nextSign in_X3 co_X3_nextSign) rfl rfl rfl (by decide +kernel) ⟨Nat.le_of_ble_eq_true rfl, Nat.le_of_ble_eq_true rfl⟩) (cP_V hK hP hD [0, 1, 2] rfl rfl 0 rfl rfl) rfl rfl hl.1 rfl (lv_room (Nat.le_of_ble_eq_true rfl)) dX3_skip_1 ⟨Nat.zero_le _, Nat.zero_le _⟩) hP hD hS hA [0, 1, 2] rfl (fun H locs hP hS => ?_)
  refine lv_iload_n hx hb dX3_skip_4 rfl (lv_at hl 1 rfl) ?_
  refine lv_icmp_ne (tgt := 12) hx hb dX3_skip_5 (by decide) (fun c1 => ?_) (fun c1 => ?_)
  · have h := (if_neg c1).symm.trans h
    refine lv_iconst (v := 0) hx hb dX3_skip_12 (by decide) ?_
    refine lv_istore_n (lv' := [(2, .int 0), (0, .ref p0), (1, .int x1)]) hx hb dX3_skip_13 rfl hl (by decide) rfl (fun ls hl => ?_)
    refine lv_iload_n hx hb dX3_skip_14 rfl (lv_at hl 0 rfl) ?_
    refine lv_if_eq (tgt := 28) hx hb dX3_skip_15 (by decide) (fun c2 => ?_) (fun c2 => ?_)
    · refine lv_iload_n hx hb dX3_skip_28 rfl (lv_at hl 0 rfl) ?_
      obtain rfl := Option.some.inj h
      exact e_z (v := 0) hx hb hr hlocks rfl hP hS dX3_skip_29
    · exact absurd c2 (by decide)
  · have h := (if_pos c1).symm.trans h
    refine lv_iconst (v := 1) hx hb dX3_skip_8 (by decide) ?_
    refine lv_goto (tgt := 13) hx hb dX3_skip_9 (by decide) ?_
    refine lv_istore_n (lv' := [(2, .int 1), (0, .ref p0), (1, .int x1)]) hx hb dX3_skip_13 rfl hl (by decide) rfl (fun ls hl => ?_)
    refine lv_iload_n hx hb dX3_skip_14 rfl (lv_at hl 0 rfl) ?_
    refine lv_if_eq (tgt := 28) hx hb dX3_skip_15 (by decide) (fun c3 => ?_) (fun c3 => ?_)
    · exact absurd c3 (by decide)
    · refine lv_aload_n hx hb dX3_skip_18 rfl (lv_at hl 1 rfl) ?_
      refine lv_dup hx hb dX3_skip_19 rfl ?_
      refine va_get (D := (dC, dI)) (ci := 3) (v := .int next) (C := RX3) (T := TX3) (N := 6) hx hb hts (fun w h9 => gb_mem (lay_X3 w h9)) hown hK.1 hP 0 rfl rfl 2 (by decide) (hts _ (gb_mem fl_X3_24)) (fun _ h9 => h9) rfl dX3_skip_20 ?_
      refine lv_iconst (v := 1) hx hb dX3_skip_23 (by decide) ?_
      refine lv_iadd hx hb dX3_skip_24 ?_
      refine va_put (D := (dC, dI)) (ci := 3) (v := .int (next + 1)) (ty := .int) (C := RX3) (T := TX3) (N := 6) hx hb hts (fun w h9 => gb_mem (lay_X3 w h9)) tyX3 tyX3_ok nmX3 hown hK.1 hP hD hS 0 rfl rfl 2 (by decide) (hts _ (gb_mem fl_X3_24)) (fun _ h9 => h9) rfl (by decide +kernel) rfl rfl (Nat.le_of_ble_eq_true rfl) dX3_skip_25 (fun H locs hP hD hS => ?_)
      have hP : va_P (dC, dI) vwCl (padW cyI p0 p1 p2 signs length (next + 1) letter target place) H := hP
      have hD : va_D A (padW cyI p0 p1 p2 signs length (next + 1) letter target place) := hD
      refine lv_iload_n hx hb dX3_skip_28 rfl (lv_at hl 0 rfl) ?_
      obtain rfl := Option.some.inj h
      exact e_z (v := 1) hx hb hr hlocks rfl hP hS dX3_skip_29

noncomputable def fX3_isLetter (x0 : Int32) : Int32 :=
  (if x0 = 98 then (1) else (if x0 = 99 then (1) else (if x0 = 107 then (1) else (if x0 = 114 then (1) else (if x0 = 120 then (1) else (if x0 = 121 then (1) else (0)))))))
set_option maxHeartbeats 1000000 in
set_option maxRecDepth 100000 in
theorem mX3_isLetter (l : Launch) (dC : Nat → ClassId) (dI : Nat → Nat → Nat) (cyI cyO : ClassId)   (x0 : Int32) (sz : Nat) (res : Int32) (h : fX3_isLetter x0 = res) : Met l yX3_isLetter (wsG yX3_isLetter cX3_isLetter 1 (some .boolean)) ({ frames := 0, cells := 0, slots := 0, locals := 0 }) (cP dC dI cyI cyO sz [.int x0] ([] : va_W)) (cI dC dI res ([] : va_W) (va_A ([] : va_W) sz)) 0 0 (va_A ([] : va_W) sz) := by
  refine Met.ofW (cc := cX3_isLetter) (maxL := 1) (ret := (some .boolean)) (by decide) rfl ?_
  intro p e s m args below meth c s₁ B hml hv
  obtain ⟨rfl, hsz, hP, hK, hD0⟩ := hv
  have hx := B.exec
  have hb := B.bytes
  have hr := B.returns
  have hts := atoms_spec (ws := wsG yX3_isLetter cX3_isLetter 1 (some .boolean)) B.pre
  have hown : s.vm.findClass RX3 = some m.cls := findClass_of_methodNamed B.named
  have hlocks := B.notSynchronized
  subst hsz
  have hD := hD0.self (sz := s.heap.size)
  generalize hAe : va_A ([] : va_W) s.heap.size = A at hD ⊢
  have hA : ∀ q : Nat, s.heap.size ≤ q → A q := fun q h => by rw [← hAe]; exact Or.inr h
  have hS : va_S A s.heap s.heap [] := va_S.rf
  have hl := lv_entry ([.int x0]) (n := 1) (Nat.le_of_ble_eq_true rfl)
  rw [lg_entry_eq]
  generalize (lg_sl ([.int x0]) ++ List.replicate (1 - (lg_sl ([.int x0])).length) Slot.unset).toArray = ls at hl ⊢
  have hl : lv_has ls 1 [(0, .int x0)] := hl
  unfold fX3_isLetter at h
  refine lv_iload_n hx hb dX3_isLetter_0 rfl (lv_at hl 0 rfl) ?_
  by_cases c1 : x0 = 98
  · have h := (if_pos c1).symm.trans h
    refine lv_lookup (off := 59) (tgt := 60) hx hb dX3_isLetter_1 (by decide) (by rw [c1]; first | done | rfl) (by decide) ?_
    refine lv_iconst (v := 1) hx hb dX3_isLetter_60 (by decide) ?_
    obtain rfl := h
    exact e_z (v := 1) hx hb hr hlocks rfl hP hS dX3_isLetter_61
  · have h := (if_neg c1).symm.trans h
    by_cases c2 : x0 = 99
    · have h := (if_pos c2).symm.trans h
      refine lv_lookup (off := 59) (tgt := 60) hx hb dX3_isLetter_1 (by decide) (by rw [c2]; first | done | rfl) (by decide) ?_
      refine lv_iconst (v := 1) hx hb dX3_isLetter_60 (by decide) ?_
      obtain rfl := h
      exact e_z (v := 1) hx hb hr hlocks rfl hP hS dX3_isLetter_61
    · have h := (if_neg c2).symm.trans h
      by_cases c3 : x0 = 107
      · have h := (if_pos c3).symm.trans h
        refine lv_lookup (off := 59) (tgt := 60) hx hb dX3_isLetter_1 (by decide) (by rw [c3]; first | done | rfl) (by decide) ?_
        refine lv_iconst (v := 1) hx hb dX3_isLetter_60 (by decide) ?_
        obtain rfl := h
        exact e_z (v := 1) hx hb hr hlocks rfl hP hS dX3_isLetter_61
      · have h := (if_neg c3).symm.trans h
        by_cases c4 : x0 = 114
        · have h := (if_pos c4).symm.trans h
          refine lv_lookup (off := 59) (tgt := 60) hx hb dX3_isLetter_1 (by decide) (by rw [c4]; first | done | rfl) (by decide) ?_
          refine lv_iconst (v := 1) hx hb dX3_isLetter_60 (by decide) ?_
          obtain rfl := h
          exact e_z (v := 1) hx hb hr hlocks rfl hP hS dX3_isLetter_61
        · have h := (if_neg c4).symm.trans h
          by_cases c5 : x0 = 120
          · have h := (if_pos c5).symm.trans h
            refine lv_lookup (off := 59) (tgt := 60) hx hb dX3_isLetter_1 (by decide) (by rw [c5]; first | done | rfl) (by decide) ?_
            refine lv_iconst (v := 1) hx hb dX3_isLetter_60 (by decide) ?_
            obtain rfl := h
            exact e_z (v := 1) hx hb hr hlocks rfl hP hS dX3_isLetter_61
          · have h := (if_neg c5).symm.trans h
            by_cases c6 : x0 = 121
            · have h := (if_pos c6).symm.trans h
              refine lv_lookup (off := 59) (tgt := 60) hx hb dX3_isLetter_1 (by decide) (by rw [c6]; first | done | rfl) (by decide) ?_
              refine lv_iconst (v := 1) hx hb dX3_isLetter_60 (by decide) ?_
              obtain rfl := h
              exact e_z (v := 1) hx hb hr hlocks rfl hP hS dX3_isLetter_61
            · have h := (if_neg c6).symm.trans h
              refine lv_lookup (off := 61) (tgt := 62) hx hb dX3_isLetter_1 (by decide) ((lv_osw (a := 98) c1 (by decide)).trans ((lv_osw (a := 99) c2 (by decide)).trans ((lv_osw (a := 107) c3 (by decide)).trans ((lv_osw (a := 114) c4 (by decide)).trans ((lv_osw (a := 120) c5 (by decide)).trans ((lv_osw (a := 121) c6 (by decide)).trans (rfl))))))) (by decide) ?_
              refine lv_iconst (v := 0) hx hb dX3_isLetter_62 (by decide) ?_
              obtain rfl := h
              exact e_z (v := 0) hx hb hr hlocks rfl hP hS dX3_isLetter_63
theorem nb_X3_isLetter  (x0 : Int32) : narrow .boolean (.int (fX3_isLetter x0)) = .int (fX3_isLetter x0) := by
  unfold fX3_isLetter
  repeat (first | rfl | split)

noncomputable def fX3_isDigit (x0 : Int32) (x1 : Int32) : Int32 :=
  (if x0 < 48 then (0) else (if (48 + x1) < x0 then (0) else (1)))
set_option maxHeartbeats 1000000 in
set_option maxRecDepth 100000 in
theorem mX3_isDigit (l : Launch) (dC : Nat → ClassId) (dI : Nat → Nat → Nat) (cyI cyO : ClassId)   (x0 : Int32) (x1 : Int32) (sz : Nat) (res : Int32) (h : fX3_isDigit x0 x1 = res) : Met l yX3_isDigit (wsG yX3_isDigit cX3_isDigit 2 (some .boolean)) ({ frames := 0, cells := 0, slots := 0, locals := 0 }) (cP dC dI cyI cyO sz [.int x0, .int x1] ([] : va_W)) (cI dC dI res ([] : va_W) (va_A ([] : va_W) sz)) 0 0 (va_A ([] : va_W) sz) := by
  refine Met.ofW (cc := cX3_isDigit) (maxL := 2) (ret := (some .boolean)) (by decide) rfl ?_
  intro p e s m args below meth c s₁ B hml hv
  obtain ⟨rfl, hsz, hP, hK, hD0⟩ := hv
  have hx := B.exec
  have hb := B.bytes
  have hr := B.returns
  have hts := atoms_spec (ws := wsG yX3_isDigit cX3_isDigit 2 (some .boolean)) B.pre
  have hown : s.vm.findClass RX3 = some m.cls := findClass_of_methodNamed B.named
  have hlocks := B.notSynchronized
  subst hsz
  have hD := hD0.self (sz := s.heap.size)
  generalize hAe : va_A ([] : va_W) s.heap.size = A at hD ⊢
  have hA : ∀ q : Nat, s.heap.size ≤ q → A q := fun q h => by rw [← hAe]; exact Or.inr h
  have hS : va_S A s.heap s.heap [] := va_S.rf
  have hl := lv_entry ([.int x0, .int x1]) (n := 2) (Nat.le_of_ble_eq_true rfl)
  rw [lg_entry_eq]
  generalize (lg_sl ([.int x0, .int x1]) ++ List.replicate (2 - (lg_sl ([.int x0, .int x1])).length) Slot.unset).toArray = ls at hl ⊢
  have hl : lv_has ls 2 [(0, .int x0), (1, .int x1)] := hl
  unfold fX3_isDigit at h
  refine lv_iload_n hx hb dX3_isDigit_0 rfl (lv_at hl 0 rfl) ?_
  refine lv_bipush (v := 48) hx hb dX3_isDigit_1 (by decide) ?_
  refine lv_icmp_lt (tgt := 18) hx hb dX3_isDigit_3 (by decide) (fun c1 => ?_) (fun c1 => ?_)
  · have h := (if_pos c1).symm.trans h
    refine lv_iconst (v := 0) hx hb dX3_isDigit_18 (by decide) ?_
    obtain rfl := h
    exact e_z (v := 0) hx hb hr hlocks rfl hP hS dX3_isDigit_19
  · have h := (if_neg c1).symm.trans h
    refine lv_iload_n hx hb dX3_isDigit_6 rfl (lv_at hl 0 rfl) ?_
    refine lv_bipush (v := 48) hx hb dX3_isDigit_7 (by decide) ?_
    refine lv_iload_n hx hb dX3_isDigit_9 rfl (lv_at hl 1 rfl) ?_
    refine lv_iadd hx hb dX3_isDigit_10 ?_
    refine lv_icmp_gt (tgt := 18) hx hb dX3_isDigit_11 (by decide) (fun c2 => ?_) (fun c2 => ?_)
    · have h := (if_pos c2).symm.trans h
      refine lv_iconst (v := 0) hx hb dX3_isDigit_18 (by decide) ?_
      obtain rfl := h
      exact e_z (v := 0) hx hb hr hlocks rfl hP hS dX3_isDigit_19
    · have h := (if_neg c2).symm.trans h
      refine lv_iconst (v := 1) hx hb dX3_isDigit_14 (by decide) ?_
      refine lv_goto (tgt := 19) hx hb dX3_isDigit_15 (by decide) ?_
      obtain rfl := h
      exact e_z (v := 1) hx hb hr hlocks rfl hP hS dX3_isDigit_19
theorem nb_X3_isDigit  (x0 : Int32) (x1 : Int32) : narrow .boolean (.int (fX3_isDigit x0 x1)) = .int (fX3_isDigit x0 x1) := by
  unfold fX3_isDigit
  repeat (first | rfl | split)
noncomputable def fX3_readNumber_b21 : Nat → (Nat → Int32) → Int32 → Int32 → Int32 → Int32 → Option (Int32 × Int32 × Int32)
  | 0, _, _, _, _, _ => none
  | fuel + 1, signs, length, next, target, y1 =>
  (if 3 ≤ y1 then (some (1, next, target)) else (if (fX3_isDigit (fX3_nextSign signs length next) 9) = 0 then (some (1, next, target)) else (if 119 < (((10 * target) + (fX3_nextSign signs length next)) - 48) then (some (1, next, target)) else (if y1 ≤ 0 then fX3_readNumber_b21 fuel signs length (next + 1) (((10 * target) + (fX3_nextSign signs length next)) - 48) (y1 + 1) else (if target = 0 then (some (1, next, target)) else fX3_readNumber_b21 fuel signs length (next + 1) (((10 * target) + (fX3_nextSign signs length next)) - 48) (y1 + 1))))))

noncomputable def fX3_readNumber (signs : Nat → Int32) (length : Int32) (next : Int32) (target : Int32) : Option (Int32 × Int32 × Int32) :=
  (if (fX3_isDigit (fX3_nextSign signs length next) 9) = 0 then (some (0, next, target)) else fX3_readNumber_b21 6000 signs length next 0 0)
set_option maxHeartbeats 1000000 in
set_option maxRecDepth 100000 in
theorem mX3_readNumber (l : Launch) (dC : Nat → ClassId) (dI : Nat → Nat → Nat) (cyI cyO : ClassId) (p0 p1 p2 : Nat) (signs : Nat → Int32) (length : Int32) (next : Int32) (letter : Int32) (target : Int32) (place : Int32)  (sz : Nat) (res : Int32 × Int32 × Int32) (h : fX3_readNumber signs length next target = some res) : Met l yX3_readNumber (wsG yX3_readNumber cX3_readNumber 3 (some .boolean)) ({ frames := 2, cells := 0, slots := 0, locals := 41 }) (cP dC dI cyI cyO sz [.ref p0] (padW cyI p0 p1 p2 signs length next letter target place)) (cI dC dI res.1 (padW cyI p0 p1 p2 signs length res.2.1 letter res.2.2 place) (va_A (padW cyI p0 p1 p2 signs length next letter target place) sz)) 0 0 (va_A (padW cyI p0 p1 p2 signs length next letter target place) sz) := by
  refine Met.ofW (cc := cX3_readNumber) (maxL := 3) (ret := (some .boolean)) (by decide) rfl ?_
  intro p e s m args below meth c s₁ B hml hv
  obtain ⟨rfl, hsz, hP, hK, hD0⟩ := hv
  have hx := B.exec
  have hb := B.bytes
  have hr := B.returns
  have hts := atoms_spec (ws := wsG yX3_readNumber cX3_readNumber 3 (some .boolean)) B.pre
  have hown : s.vm.findClass RX3 = some m.cls := findClass_of_methodNamed B.named
  have hlocks := B.notSynchronized
  subst hsz
  have hD := hD0.self (sz := s.heap.size)
  generalize hAe : va_A (padW cyI p0 p1 p2 signs length next letter target place) s.heap.size = A at hD ⊢
  have hA : ∀ q : Nat, s.heap.size ≤ q → A q := fun q h => by rw [← hAe]; exact Or.inr h
  have hS : va_S A s.heap s.heap [] := va_S.rf
  have kB21 : ∀ (fuel : Nat) (signs : Nat → Int32) (length : Int32) (next : Int32) (target : Int32) (y1 : Int32), fX3_readNumber_b21 fuel signs length next target y1 = some res → ∀ (H : Heap) (locs : List Loc), va_P (dC, dI) vwCl (padW cyI p0 p1 p2 signs length next letter target place) H → va_D A (padW cyI p0 p1 p2 signs length next letter target place) → va_S A s.heap H locs → ∀ ls : Array Slot, lv_has ls 3 [(0, .ref p0), (1, .int y1)] → W p l e (headSpec (wsG yX3_readNumber cX3_readNumber 3 (some .boolean)) ({ frames := 2, cells := 0, slots := 0, locals := 41 })).room s m (([.ref p0] : List Value).toArray) below meth c H locs 0 0 (MQ below (cI dC dI res.1 (padW cyI p0 p1 p2 signs length res.2.1 letter res.2.2 place) A) ([.ref p0] : List Value).toArray s 0 0 A) (F0 m 21 ls []) := by
    intro fuel
    induction fuel with
    | zero => intro signs length next target y1 h; rw [fX3_readNumber_b21] at h; cases h
    | succ fuel ih =>
      intro signs length next target y1 h H locs hP hD hS ls hl
      rw [fX3_readNumber_b21] at h
      refine lv_iload_n hx hb dX3_readNumber_21 rfl (lv_at hl 1 rfl) ?_
      refine lv_iconst (v := 3) hx hb dX3_readNumber_22 (by decide) ?_
      refine lv_icmp_ge (tgt := 95) hx hb dX3_readNumber_23 (by decide) (fun c1 => ?_) (fun c1 => ?_)
      · have h := (if_pos c1).symm.trans h
        refine lv_iconst (v := 1) hx hb dX3_readNumber_95 (by decide) ?_
        obtain rfl := Option.some.inj h
        exact e_z (v := 1) hx hb hr hlocks rfl hP hS dX3_readNumber_96
      · have h := (if_neg c1).symm.trans h
        refine lv_aload_n hx hb dX3_readNumber_26 rfl (lv_at hl 0 rfl) ?_
        refine fr_ir (M := (padW cyI p0 p1 p2 signs length next letter target place)) (va_runV (As := []) (rest := []) ⟨hx, hb, hml, hown, hts⟩ (mX3_nextSign l dC dI cyI cyO p0 p1 p2 signs length next letter target place _ (fX3_nextSign signs length next) rfl) (cwV 0 hts (gV ml_X3_67 im_X3_nextSign se_X3_nextSign in_X3 co_X3_nextSign) rfl rfl rfl (by decide +kernel) ⟨Nat.le_of_ble_eq_true rfl, Nat.le_of_ble_eq_true rfl⟩) (cP_V hK hP hD [0, 1, 2] rfl rfl 0 rfl rfl) rfl rfl hl.1 rfl (lv_room (Nat.le_of_ble_eq_true rfl)) dX3_readNumber_27 ⟨Nat.zero_le _, Nat.zero_le _⟩) hP hD hS hA [0, 1, 2] rfl (fun H locs hP hS => ?_)
        refine lv_bipush (v := 9) hx hb dX3_readNumber_30 (by decide) ?_
        refine fr_ir (M := ([] : va_W)) (va_runS (As := [.int (fX3_nextSign signs length next), .int 9]) (rest := []) ⟨hx, hb, hml, hown, hts⟩ (mX3_isDigit l dC dI cyI cyO (fX3_nextSign signs length next) 9 _ (fX3_isDigit (fX3_nextSign signs length next) 9) rfl) (va_cwS 2 hts (gS ml_X3_80 st_X3_isDigit in_X3 co_X3_isDigit) rfl rfl rfl (by decide +kernel) ⟨Nat.le_of_ble_eq_true rfl, Nat.le_of_ble_eq_true rfl⟩) (cP_S hK hP hD [] rfl rfl) rfl rfl hl.1 rfl (lv_room (Nat.le_of_ble_eq_true rfl)) dX3_readNumber_32 ⟨Nat.zero_le _, Nat.zero_le _⟩) hP hD hS hA [] rfl (fun H locs hP hS => ?_)
        refine lv_if_eq (tgt := 95) hx hb dX3_readNumber_35 (by decide) (fun c2 => ?_) (fun c2 => ?_)
        · have h := (if_pos c2).symm.trans h
          refine lv_iconst (v := 1) hx hb dX3_readNumber_95 (by decide) ?_
          obtain rfl := Option.some.inj h
          exact e_z (v := 1) hx hb hr hlocks rfl hP hS dX3_readNumber_96
        · have h := (if_neg c2).symm.trans h
          refine lv_bipush (v := 10) hx hb dX3_readNumber_38 (by decide) ?_
          refine lv_aload_n hx hb dX3_readNumber_40 rfl (lv_at hl 0 rfl) ?_
          refine va_get (D := (dC, dI)) (ci := 3) (v := .int target) (C := RX3) (T := TX3) (N := 6) hx hb hts (fun w h9 => gb_mem (lay_X3 w h9)) hown hK.1 hP 0 rfl rfl 4 (by decide) (hts _ (gb_mem fl_X3_30)) (fun _ h9 => h9) rfl dX3_readNumber_41 ?_
          refine lv_imul hx hb dX3_readNumber_44 ?_
          refine lv_aload_n hx hb dX3_readNumber_45 rfl (lv_at hl 0 rfl) ?_
          refine fr_ir (M := (padW cyI p0 p1 p2 signs length next letter target place)) (va_runV (As := []) (rest := [.int (10 * target)]) ⟨hx, hb, hml, hown, hts⟩ (mX3_nextSign l dC dI cyI cyO p0 p1 p2 signs length next letter target place _ (fX3_nextSign signs length next) rfl) (cwV 0 hts (gV ml_X3_67 im_X3_nextSign se_X3_nextSign in_X3 co_X3_nextSign) rfl rfl rfl (by decide +kernel) ⟨Nat.le_of_ble_eq_true rfl, Nat.le_of_ble_eq_true rfl⟩) (cP_V hK hP hD [0, 1, 2] rfl rfl 0 rfl rfl) rfl rfl hl.1 rfl (lv_room (Nat.le_of_ble_eq_true rfl)) dX3_readNumber_46 ⟨Nat.zero_le _, Nat.zero_le _⟩) hP hD hS hA [0, 1, 2] rfl (fun H locs hP hS => ?_)
          refine lv_iadd hx hb dX3_readNumber_49 ?_
          refine lv_bipush (v := 48) hx hb dX3_readNumber_50 (by decide) ?_
          refine lv_isub hx hb dX3_readNumber_52 ?_
          refine lv_istore_n (lv' := [(2, .int (((10 * target) + (fX3_nextSign signs length next)) - 48)), (0, .ref p0), (1, .int y1)]) hx hb dX3_readNumber_53 rfl hl (by decide) rfl (fun ls hl => ?_)
          refine lv_iload_n hx hb dX3_readNumber_54 rfl (lv_at hl 0 rfl) ?_
          refine lv_bipush (v := 119) hx hb dX3_readNumber_55 (by decide) ?_
          refine lv_icmp_gt (tgt := 95) hx hb dX3_readNumber_57 (by decide) (fun c3 => ?_) (fun c3 => ?_)
          · have h := (if_pos c3).symm.trans h
            refine lv_iconst (v := 1) hx hb dX3_readNumber_95 (by decide) ?_
            obtain rfl := Option.some.inj h
            exact e_z (v := 1) hx hb hr hlocks rfl hP hS dX3_readNumber_96
          · have h := (if_neg c3).symm.trans h
            refine lv_iload_n hx hb dX3_readNumber_60 rfl (lv_at hl 2 rfl) ?_
            refine lv_if_le (tgt := 74) hx hb dX3_readNumber_61 (by decide) (fun c4 => ?_) (fun c4 => ?_)
            · have h := (if_pos c4).symm.trans h
              refine lv_aload_n hx hb dX3_readNumber_74 rfl (lv_at hl 1 rfl) ?_
              refine lv_iload_n hx hb dX3_readNumber_75 rfl (lv_at hl 0 rfl) ?_
              refine va_put (D := (dC, dI)) (ci := 3) (v := .int (((10 * target) + (fX3_nextSign signs length next)) - 48)) (ty := .int) (C := RX3) (T := TX3) (N := 6) hx hb hts (fun w h9 => gb_mem (lay_X3 w h9)) tyX3 tyX3_ok nmX3 hown hK.1 hP hD hS 0 rfl rfl 4 (by decide) (hts _ (gb_mem fl_X3_30)) (fun _ h9 => h9) rfl (by decide +kernel) rfl rfl (Nat.le_of_ble_eq_true rfl) dX3_readNumber_76 (fun H locs hP hD hS => ?_)
              have hP : va_P (dC, dI) vwCl (padW cyI p0 p1 p2 signs length next letter (((10 * target) + (fX3_nextSign signs length next)) - 48) place) H := hP
              have hD : va_D A (padW cyI p0 p1 p2 signs length next letter (((10 * target) + (fX3_nextSign signs length next)) - 48) place) := hD
              refine lv_aload_n hx hb dX3_readNumber_79 rfl (lv_at hl 1 rfl) ?_
              refine lv_dup hx hb dX3_readNumber_80 rfl ?_
              refine va_get (D := (dC, dI)) (ci := 3) (v := .int next) (C := RX3) (T := TX3) (N := 6) hx hb hts (fun w h9 => gb_mem (lay_X3 w h9)) hown hK.1 hP 0 rfl rfl 2 (by decide) (hts _ (gb_mem fl_X3_24)) (fun _ h9 => h9) rfl dX3_readNumber_81 ?_
              refine lv_iconst (v := 1) hx hb dX3_readNumber_84 (by decide) ?_
              refine lv_iadd hx hb dX3_readNumber_85 ?_
              refine va_put (D := (dC, dI)) (ci := 3) (v := .int (next + 1)) (ty := .int) (C := RX3) (T := TX3) (N := 6) hx hb hts (fun w h9 => gb_mem (lay_X3 w h9)) tyX3 tyX3_ok nmX3 hown hK.1 hP hD hS 0 rfl rfl 2 (by decide) (hts _ (gb_mem fl_X3_24)) (fun _ h9 => h9) rfl (by decide +kernel) rfl rfl (Nat.le_of_ble_eq_true rfl) dX3_readNumber_86 (fun H locs hP hD hS => ?_)
              have hP : va_P (dC, dI) vwCl (padW cyI p0 p1 p2 signs length (next + 1) letter (((10 * target) + (fX3_nextSign signs length next)) - 48) place) H := hP
              have hD : va_D A (padW cyI p0 p1 p2 signs length (next + 1) letter (((10 * target) + (fX3_nextSign signs length next)) - 48) place) := hD
              refine lv_iinc (v := (y1 + 1)) (lv' := [(1, .int (y1 + 1)), (2, .int (((10 * target) + (fX3_nextSign signs length next)) - 48)), (0, .ref p0)]) hx hb dX3_readNumber_89 hl (k := 2) rfl rfl (by decide) rfl (fun ls hl => ?_)
              refine lv_goto (tgt := 21) hx hb dX3_readNumber_92 (by decide) ?_
              exact ih signs length (next + 1) (((10 * target) + (fX3_nextSign signs length next)) - 48) (y1 + 1) h _ _ hP hD hS ls (lv_sub hl [2, 0] rfl)
            · have h := (if_neg c4).symm.trans h
              refine lv_aload_n hx hb dX3_readNumber_64 rfl (lv_at hl 1 rfl) ?_
              refine va_get (D := (dC, dI)) (ci := 3) (v := .int target) (C := RX3) (T := TX3) (N := 6) hx hb hts (fun w h9 => gb_mem (lay_X3 w h9)) hown hK.1 hP 0 rfl rfl 4 (by decide) (hts _ (gb_mem fl_X3_30)) (fun _ h9 => h9) rfl dX3_readNumber_65 ?_
              refine lv_if_ne (tgt := 74) hx hb dX3_readNumber_68 (by decide) (fun c5 => ?_) (fun c5 => ?_)
              · have h := (if_neg c5).symm.trans h
                refine lv_aload_n hx hb dX3_readNumber_74 rfl (lv_at hl 1 rfl) ?_
                refine lv_iload_n hx hb dX3_readNumber_75 rfl (lv_at hl 0 rfl) ?_
                refine va_put (D := (dC, dI)) (ci := 3) (v := .int (((10 * target) + (fX3_nextSign signs length next)) - 48)) (ty := .int) (C := RX3) (T := TX3) (N := 6) hx hb hts (fun w h9 => gb_mem (lay_X3 w h9)) tyX3 tyX3_ok nmX3 hown hK.1 hP hD hS 0 rfl rfl 4 (by decide) (hts _ (gb_mem fl_X3_30)) (fun _ h9 => h9) rfl (by decide +kernel) rfl rfl (Nat.le_of_ble_eq_true rfl) dX3_readNumber_76 (fun H locs hP hD hS => ?_)
                have hP : va_P (dC, dI) vwCl (padW cyI p0 p1 p2 signs length next letter (((10 * target) + (fX3_nextSign signs length next)) - 48) place) H := hP
                have hD : va_D A (padW cyI p0 p1 p2 signs length next letter (((10 * target) + (fX3_nextSign signs length next)) - 48) place) := hD
                refine lv_aload_n hx hb dX3_readNumber_79 rfl (lv_at hl 1 rfl) ?_
                refine lv_dup hx hb dX3_readNumber_80 rfl ?_
                refine va_get (D := (dC, dI)) (ci := 3) (v := .int next) (C := RX3) (T := TX3) (N := 6) hx hb hts (fun w h9 => gb_mem (lay_X3 w h9)) hown hK.1 hP 0 rfl rfl 2 (by decide) (hts _ (gb_mem fl_X3_24)) (fun _ h9 => h9) rfl dX3_readNumber_81 ?_
                refine lv_iconst (v := 1) hx hb dX3_readNumber_84 (by decide) ?_
                refine lv_iadd hx hb dX3_readNumber_85 ?_
                refine va_put (D := (dC, dI)) (ci := 3) (v := .int (next + 1)) (ty := .int) (C := RX3) (T := TX3) (N := 6) hx hb hts (fun w h9 => gb_mem (lay_X3 w h9)) tyX3 tyX3_ok nmX3 hown hK.1 hP hD hS 0 rfl rfl 2 (by decide) (hts _ (gb_mem fl_X3_24)) (fun _ h9 => h9) rfl (by decide +kernel) rfl rfl (Nat.le_of_ble_eq_true rfl) dX3_readNumber_86 (fun H locs hP hD hS => ?_)
                have hP : va_P (dC, dI) vwCl (padW cyI p0 p1 p2 signs length (next + 1) letter (((10 * target) + (fX3_nextSign signs length next)) - 48) place) H := hP
                have hD : va_D A (padW cyI p0 p1 p2 signs length (next + 1) letter (((10 * target) + (fX3_nextSign signs length next)) - 48) place) := hD
                refine lv_iinc (v := (y1 + 1)) (lv' := [(1, .int (y1 + 1)), (2, .int (((10 * target) + (fX3_nextSign signs length next)) - 48)), (0, .ref p0)]) hx hb dX3_readNumber_89 hl (k := 2) rfl rfl (by decide) rfl (fun ls hl => ?_)
                refine lv_goto (tgt := 21) hx hb dX3_readNumber_92 (by decide) ?_
                exact ih signs length (next + 1) (((10 * target) + (fX3_nextSign signs length next)) - 48) (y1 + 1) h _ _ hP hD hS ls (lv_sub hl [2, 0] rfl)
              · have h := (if_pos c5).symm.trans h
                refine lv_goto (tgt := 95) hx hb dX3_readNumber_71 (by decide) ?_
                refine lv_iconst (v := 1) hx hb dX3_readNumber_95 (by decide) ?_
                obtain rfl := Option.some.inj h
                exact e_z (v := 1) hx hb hr hlocks rfl hP hS dX3_readNumber_96
  have hl := lv_entry ([.ref p0]) (n := 3) (Nat.le_of_ble_eq_true rfl)
  rw [lg_entry_eq]
  generalize (lg_sl ([.ref p0]) ++ List.replicate (3 - (lg_sl ([.ref p0])).length) Slot.unset).toArray = ls at hl ⊢
  have hl : lv_has ls 3 [(0, .ref p0)] := hl
  unfold fX3_readNumber at h
  refine lv_aload_n hx hb dX3_readNumber_0 rfl (lv_at hl 0 rfl) ?_
  refine fr_ir (M := (padW cyI p0 p1 p2 signs length next letter target place)) (va_runV (As := []) (rest := []) ⟨hx, hb, hml, hown, hts⟩ (mX3_nextSign l dC dI cyI cyO p0 p1 p2 signs length next letter target place _ (fX3_nextSign signs length next) rfl) (cwV 0 hts (gV ml_X3_67 im_X3_nextSign se_X3_nextSign in_X3 co_X3_nextSign) rfl rfl rfl (by decide +kernel) ⟨Nat.le_of_ble_eq_true rfl, Nat.le_of_ble_eq_true rfl⟩) (cP_V hK hP hD [0, 1, 2] rfl rfl 0 rfl rfl) rfl rfl hl.1 rfl (lv_room (Nat.le_of_ble_eq_true rfl)) dX3_readNumber_1 ⟨Nat.zero_le _, Nat.zero_le _⟩) hP hD hS hA [0, 1, 2] rfl (fun H locs hP hS => ?_)
  refine lv_bipush (v := 9) hx hb dX3_readNumber_4 (by decide) ?_
  refine fr_ir (M := ([] : va_W)) (va_runS (As := [.int (fX3_nextSign signs length next), .int 9]) (rest := []) ⟨hx, hb, hml, hown, hts⟩ (mX3_isDigit l dC dI cyI cyO (fX3_nextSign signs length next) 9 _ (fX3_isDigit (fX3_nextSign signs length next) 9) rfl) (va_cwS 2 hts (gS ml_X3_80 st_X3_isDigit in_X3 co_X3_isDigit) rfl rfl rfl (by decide +kernel) ⟨Nat.le_of_ble_eq_true rfl, Nat.le_of_ble_eq_true rfl⟩) (cP_S hK hP hD [] rfl rfl) rfl rfl hl.1 rfl (lv_room (Nat.le_of_ble_eq_true rfl)) dX3_readNumber_6 ⟨Nat.zero_le _, Nat.zero_le _⟩) hP hD hS hA [] rfl (fun H locs hP hS => ?_)
  refine lv_if_ne (tgt := 14) hx hb dX3_readNumber_9 (by decide) (fun c6 => ?_) (fun c6 => ?_)
  · have h := (if_neg c6).symm.trans h
    refine lv_aload_n hx hb dX3_readNumber_14 rfl (lv_at hl 0 rfl) ?_
    refine lv_iconst (v := 0) hx hb dX3_readNumber_15 (by decide) ?_
    refine va_put (D := (dC, dI)) (ci := 3) (v := .int 0) (ty := .int) (C := RX3) (T := TX3) (N := 6) hx hb hts (fun w h9 => gb_mem (lay_X3 w h9)) tyX3 tyX3_ok nmX3 hown hK.1 hP hD hS 0 rfl rfl 4 (by decide) (hts _ (gb_mem fl_X3_30)) (fun _ h9 => h9) rfl (by decide +kernel) rfl rfl (Nat.le_of_ble_eq_true rfl) dX3_readNumber_16 (fun H locs hP hD hS => ?_)
    have hP : va_P (dC, dI) vwCl (padW cyI p0 p1 p2 signs length next letter 0 place) H := hP
    have hD : va_D A (padW cyI p0 p1 p2 signs length next letter 0 place) := hD
    refine lv_iconst (v := 0) hx hb dX3_readNumber_19 (by decide) ?_
    refine lv_istore_n (lv' := [(1, .int 0), (0, .ref p0)]) hx hb dX3_readNumber_20 rfl hl (by decide) rfl (fun ls hl => ?_)
    exact kB21 6000 signs length next 0 0 h _ _ hP hD hS ls (lv_sub hl [1, 0] rfl)
  · have h := (if_pos c6).symm.trans h
    refine lv_iconst (v := 0) hx hb dX3_readNumber_12 (by decide) ?_
    obtain rfl := Option.some.inj h
    exact e_z (v := 0) hx hb hr hlocks rfl hP hS dX3_readNumber_13

noncomputable def fX3_readPlace (signs : Nat → Int32) (length : Int32) (next : Int32) (place : Int32) : Option (Int32 × Int32 × Int32) :=
  (if (fX3_isDigit (fX3_nextSign signs length next) 2) = 0 then (some (0, next, place)) else (some (1, (next + 1), ((fX3_nextSign signs length next) - 48))))
set_option maxHeartbeats 1000000 in
set_option maxRecDepth 100000 in
theorem mX3_readPlace (l : Launch) (dC : Nat → ClassId) (dI : Nat → Nat → Nat) (cyI cyO : ClassId) (p0 p1 p2 : Nat) (signs : Nat → Int32) (length : Int32) (next : Int32) (letter : Int32) (target : Int32) (place : Int32)  (sz : Nat) (res : Int32 × Int32 × Int32) (h : fX3_readPlace signs length next place = some res) : Met l yX3_readPlace (wsG yX3_readPlace cX3_readPlace 1 (some .boolean)) ({ frames := 2, cells := 0, slots := 0, locals := 41 }) (cP dC dI cyI cyO sz [.ref p0] (padW cyI p0 p1 p2 signs length next letter target place)) (cI dC dI res.1 (padW cyI p0 p1 p2 signs length res.2.1 letter target res.2.2) (va_A (padW cyI p0 p1 p2 signs length next letter target place) sz)) 0 0 (va_A (padW cyI p0 p1 p2 signs length next letter target place) sz) := by
  refine Met.ofW (cc := cX3_readPlace) (maxL := 1) (ret := (some .boolean)) (by decide) rfl ?_
  intro p e s m args below meth c s₁ B hml hv
  obtain ⟨rfl, hsz, hP, hK, hD0⟩ := hv
  have hx := B.exec
  have hb := B.bytes
  have hr := B.returns
  have hts := atoms_spec (ws := wsG yX3_readPlace cX3_readPlace 1 (some .boolean)) B.pre
  have hown : s.vm.findClass RX3 = some m.cls := findClass_of_methodNamed B.named
  have hlocks := B.notSynchronized
  subst hsz
  have hD := hD0.self (sz := s.heap.size)
  generalize hAe : va_A (padW cyI p0 p1 p2 signs length next letter target place) s.heap.size = A at hD ⊢
  have hA : ∀ q : Nat, s.heap.size ≤ q → A q := fun q h => by rw [← hAe]; exact Or.inr h
  have hS : va_S A s.heap s.heap [] := va_S.rf
  have hl := lv_entry ([.ref p0]) (n := 1) (Nat.le_of_ble_eq_true rfl)
  rw [lg_entry_eq]
  generalize (lg_sl ([.ref p0]) ++ List.replicate (1 - (lg_sl ([.ref p0])).length) Slot.unset).toArray = ls at hl ⊢
  have hl : lv_has ls 1 [(0, .ref p0)] := hl
  unfold fX3_readPlace at h
  refine lv_aload_n hx hb dX3_readPlace_0 rfl (lv_at hl 0 rfl) ?_
  refine fr_ir (M := (padW cyI p0 p1 p2 signs length next letter target place)) (va_runV (As := []) (rest := []) ⟨hx, hb, hml, hown, hts⟩ (mX3_nextSign l dC dI cyI cyO p0 p1 p2 signs length next letter target place _ (fX3_nextSign signs length next) rfl) (cwV 0 hts (gV ml_X3_67 im_X3_nextSign se_X3_nextSign in_X3 co_X3_nextSign) rfl rfl rfl (by decide +kernel) ⟨Nat.le_of_ble_eq_true rfl, Nat.le_of_ble_eq_true rfl⟩) (cP_V hK hP hD [0, 1, 2] rfl rfl 0 rfl rfl) rfl rfl hl.1 rfl (lv_room (Nat.le_of_ble_eq_true rfl)) dX3_readPlace_1 ⟨Nat.zero_le _, Nat.zero_le _⟩) hP hD hS hA [0, 1, 2] rfl (fun H locs hP hS => ?_)
  refine lv_iconst (v := 2) hx hb dX3_readPlace_4 (by decide) ?_
  refine fr_ir (M := ([] : va_W)) (va_runS (As := [.int (fX3_nextSign signs length next), .int 2]) (rest := []) ⟨hx, hb, hml, hown, hts⟩ (mX3_isDigit l dC dI cyI cyO (fX3_nextSign signs length next) 2 _ (fX3_isDigit (fX3_nextSign signs length next) 2) rfl) (va_cwS 2 hts (gS ml_X3_80 st_X3_isDigit in_X3 co_X3_isDigit) rfl rfl rfl (by decide +kernel) ⟨Nat.le_of_ble_eq_true rfl, Nat.le_of_ble_eq_true rfl⟩) (cP_S hK hP hD [] rfl rfl) rfl rfl hl.1 rfl (lv_room (Nat.le_of_ble_eq_true rfl)) dX3_readPlace_5 ⟨Nat.zero_le _, Nat.zero_le _⟩) hP hD hS hA [] rfl (fun H locs hP hS => ?_)
  refine lv_if_ne (tgt := 13) hx hb dX3_readPlace_8 (by decide) (fun c1 => ?_) (fun c1 => ?_)
  · have h := (if_neg c1).symm.trans h
    refine lv_aload_n hx hb dX3_readPlace_13 rfl (lv_at hl 0 rfl) ?_
    refine lv_aload_n hx hb dX3_readPlace_14 rfl (lv_at hl 0 rfl) ?_
    refine fr_ir (M := (padW cyI p0 p1 p2 signs length next letter target place)) (va_runV (As := []) (rest := [.ref p0]) ⟨hx, hb, hml, hown, hts⟩ (mX3_nextSign l dC dI cyI cyO p0 p1 p2 signs length next letter target place _ (fX3_nextSign signs length next) rfl) (cwV 0 hts (gV ml_X3_67 im_X3_nextSign se_X3_nextSign in_X3 co_X3_nextSign) rfl rfl rfl (by decide +kernel) ⟨Nat.le_of_ble_eq_true rfl, Nat.le_of_ble_eq_true rfl⟩) (cP_V hK hP hD [0, 1, 2] rfl rfl 0 rfl rfl) rfl rfl hl.1 rfl (lv_room (Nat.le_of_ble_eq_true rfl)) dX3_readPlace_15 ⟨Nat.zero_le _, Nat.zero_le _⟩) hP hD hS hA [0, 1, 2] rfl (fun H locs hP hS => ?_)
    refine lv_bipush (v := 48) hx hb dX3_readPlace_18 (by decide) ?_
    refine lv_isub hx hb dX3_readPlace_20 ?_
    refine va_put (D := (dC, dI)) (ci := 3) (v := .int ((fX3_nextSign signs length next) - 48)) (ty := .int) (C := RX3) (T := TX3) (N := 6) hx hb hts (fun w h9 => gb_mem (lay_X3 w h9)) tyX3 tyX3_ok nmX3 hown hK.1 hP hD hS 0 rfl rfl 5 (by decide) (hts _ (gb_mem fl_X3_33)) (fun _ h9 => h9) rfl (by decide +kernel) rfl rfl (Nat.le_of_ble_eq_true rfl) dX3_readPlace_21 (fun H locs hP hD hS => ?_)
    have hP : va_P (dC, dI) vwCl (padW cyI p0 p1 p2 signs length next letter target ((fX3_nextSign signs length next) - 48)) H := hP
    have hD : va_D A (padW cyI p0 p1 p2 signs length next letter target ((fX3_nextSign signs length next) - 48)) := hD
    refine lv_aload_n hx hb dX3_readPlace_24 rfl (lv_at hl 0 rfl) ?_
    refine lv_dup hx hb dX3_readPlace_25 rfl ?_
    refine va_get (D := (dC, dI)) (ci := 3) (v := .int next) (C := RX3) (T := TX3) (N := 6) hx hb hts (fun w h9 => gb_mem (lay_X3 w h9)) hown hK.1 hP 0 rfl rfl 2 (by decide) (hts _ (gb_mem fl_X3_24)) (fun _ h9 => h9) rfl dX3_readPlace_26 ?_
    refine lv_iconst (v := 1) hx hb dX3_readPlace_29 (by decide) ?_
    refine lv_iadd hx hb dX3_readPlace_30 ?_
    refine va_put (D := (dC, dI)) (ci := 3) (v := .int (next + 1)) (ty := .int) (C := RX3) (T := TX3) (N := 6) hx hb hts (fun w h9 => gb_mem (lay_X3 w h9)) tyX3 tyX3_ok nmX3 hown hK.1 hP hD hS 0 rfl rfl 2 (by decide) (hts _ (gb_mem fl_X3_24)) (fun _ h9 => h9) rfl (by decide +kernel) rfl rfl (Nat.le_of_ble_eq_true rfl) dX3_readPlace_31 (fun H locs hP hD hS => ?_)
    have hP : va_P (dC, dI) vwCl (padW cyI p0 p1 p2 signs length (next + 1) letter target ((fX3_nextSign signs length next) - 48)) H := hP
    have hD : va_D A (padW cyI p0 p1 p2 signs length (next + 1) letter target ((fX3_nextSign signs length next) - 48)) := hD
    refine lv_iconst (v := 1) hx hb dX3_readPlace_34 (by decide) ?_
    obtain rfl := Option.some.inj h
    exact e_z (v := 1) hx hb hr hlocks rfl hP hS dX3_readPlace_35
  · have h := (if_pos c1).symm.trans h
    refine lv_iconst (v := 0) hx hb dX3_readPlace_11 (by decide) ?_
    obtain rfl := Option.some.inj h
    exact e_z (v := 0) hx hb hr hlocks rfl hP hS dX3_readPlace_12

noncomputable def fX3_readOrder (signs : Nat → Int32) (length : Int32) (next : Int32) (letter : Int32) (target : Int32) (place : Int32) : Option (Int32 × Int32 × Int32 × Int32 × Int32) :=
  (if (fX3_isLetter (fX3_nextSign signs length next)) = 0 then (some (0, next, (fX3_nextSign signs length next), target, place)) else (if (fX3_nextSign signs length next) = 107 then ((fX3_skip signs length (next + 1) 45).bind fun q13 => (if q13.1 = 0 then ((fX3_readNumber signs length q13.2 (-6)).bind fun q16 => (if q16.1 = 0 then (some (0, q16.2.1, (fX3_nextSign signs length next), q16.2.2, place)) else (if (fX3_nextSign signs length next) = 99 then ((fX3_skip signs length q16.2.1 64).bind fun q20 => (if q20.1 = 0 then (some (0, q20.2, (fX3_nextSign signs length next), q16.2.2, place)) else ((fX3_readPlace signs length q20.2 place).bind fun q23 => (if q23.1 = 0 then (some (0, q23.2.1, (fX3_nextSign signs length next), q16.2.2, q23.2.2)) else (some (1, q23.2.1, (fX3_nextSign signs length next), q16.2.2, q23.2.2)))))) else (some (1, q16.2.1, (fX3_nextSign signs length next), q16.2.2, place))))) else (some (1, q13.2, (fX3_nextSign signs length next), (-6), place)))) else ((fX3_readNumber signs length (next + 1) (-6)).bind fun q3 => (if q3.1 = 0 then (some (0, q3.2.1, (fX3_nextSign signs length next), q3.2.2, place)) else (if (fX3_nextSign signs length next) = 99 then ((fX3_skip signs length q3.2.1 64).bind fun q7 => (if q7.1 = 0 then (some (0, q7.2, (fX3_nextSign signs length next), q3.2.2, place)) else ((fX3_readPlace signs length q7.2 place).bind fun q10 => (if q10.1 = 0 then (some (0, q10.2.1, (fX3_nextSign signs length next), q3.2.2, q10.2.2)) else (some (1, q10.2.1, (fX3_nextSign signs length next), q3.2.2, q10.2.2)))))) else (some (1, q3.2.1, (fX3_nextSign signs length next), q3.2.2, place)))))))
set_option maxHeartbeats 1000000 in
set_option maxRecDepth 100000 in
theorem mX3_readOrder (l : Launch) (dC : Nat → ClassId) (dI : Nat → Nat → Nat) (cyI cyO : ClassId) (p0 p1 p2 : Nat) (signs : Nat → Int32) (length : Int32) (next : Int32) (letter : Int32) (target : Int32) (place : Int32)  (sz : Nat) (res : Int32 × Int32 × Int32 × Int32 × Int32) (h : fX3_readOrder signs length next letter target place = some res) : Met l yX3_readOrder (wsG yX3_readOrder cX3_readOrder 1 (some .boolean)) ({ frames := 3, cells := 0, slots := 0, locals := 63 }) (cP dC dI cyI cyO sz [.ref p0] (padW cyI p0 p1 p2 signs length next letter target place)) (cI dC dI res.1 (padW cyI p0 p1 p2 signs length res.2.1 res.2.2.1 res.2.2.2.1 res.2.2.2.2) (va_A (padW cyI p0 p1 p2 signs length next letter target place) sz)) 0 0 (va_A (padW cyI p0 p1 p2 signs length next letter target place) sz) := by
  refine Met.ofW (cc := cX3_readOrder) (maxL := 1) (ret := (some .boolean)) (by decide) rfl ?_
  intro p e s m args below meth c s₁ B hml hv
  obtain ⟨rfl, hsz, hP, hK, hD0⟩ := hv
  have hx := B.exec
  have hb := B.bytes
  have hr := B.returns
  have hts := atoms_spec (ws := wsG yX3_readOrder cX3_readOrder 1 (some .boolean)) B.pre
  have hown : s.vm.findClass RX3 = some m.cls := findClass_of_methodNamed B.named
  have hlocks := B.notSynchronized
  subst hsz
  have hD := hD0.self (sz := s.heap.size)
  generalize hAe : va_A (padW cyI p0 p1 p2 signs length next letter target place) s.heap.size = A at hD ⊢
  have hA : ∀ q : Nat, s.heap.size ≤ q → A q := fun q h => by rw [← hAe]; exact Or.inr h
  have hS : va_S A s.heap s.heap [] := va_S.rf
  have hl := lv_entry ([.ref p0]) (n := 1) (Nat.le_of_ble_eq_true rfl)
  rw [lg_entry_eq]
  generalize (lg_sl ([.ref p0]) ++ List.replicate (1 - (lg_sl ([.ref p0])).length) Slot.unset).toArray = ls at hl ⊢
  have hl : lv_has ls 1 [(0, .ref p0)] := hl
  unfold fX3_readOrder at h
  refine lv_aload_n hx hb dX3_readOrder_0 rfl (lv_at hl 0 rfl) ?_
  refine lv_aload_n hx hb dX3_readOrder_1 rfl (lv_at hl 0 rfl) ?_
  refine fr_ir (M := (padW cyI p0 p1 p2 signs length next letter target place)) (va_runV (As := []) (rest := [.ref p0]) ⟨hx, hb, hml, hown, hts⟩ (mX3_nextSign l dC dI cyI cyO p0 p1 p2 signs length next letter target place _ (fX3_nextSign signs length next) rfl) (cwV 0 hts (gV ml_X3_67 im_X3_nextSign se_X3_nextSign in_X3 co_X3_nextSign) rfl rfl rfl (by decide +kernel) ⟨Nat.le_of_ble_eq_true rfl, Nat.le_of_ble_eq_true rfl⟩) (cP_V hK hP hD [0, 1, 2] rfl rfl 0 rfl rfl) rfl rfl hl.1 rfl (lv_room (Nat.le_of_ble_eq_true rfl)) dX3_readOrder_2 ⟨Nat.zero_le _, Nat.zero_le _⟩) hP hD hS hA [0, 1, 2] rfl (fun H locs hP hS => ?_)
  refine va_put (D := (dC, dI)) (ci := 3) (v := .int (fX3_nextSign signs length next)) (ty := .int) (C := RX3) (T := TX3) (N := 6) hx hb hts (fun w h9 => gb_mem (lay_X3 w h9)) tyX3 tyX3_ok nmX3 hown hK.1 hP hD hS 0 rfl rfl 3 (by decide) (hts _ (gb_mem fl_X3_27)) (fun _ h9 => h9) rfl (by decide +kernel) rfl rfl (Nat.le_of_ble_eq_true rfl) dX3_readOrder_5 (fun H locs hP hD hS => ?_)
  have hP : va_P (dC, dI) vwCl (padW cyI p0 p1 p2 signs length next (fX3_nextSign signs length next) target place) H := hP
  have hD : va_D A (padW cyI p0 p1 p2 signs length next (fX3_nextSign signs length next) target place) := hD
  refine lv_aload_n hx hb dX3_readOrder_8 rfl (lv_at hl 0 rfl) ?_
  refine va_get (D := (dC, dI)) (ci := 3) (v := .int (fX3_nextSign signs length next)) (C := RX3) (T := TX3) (N := 6) hx hb hts (fun w h9 => gb_mem (lay_X3 w h9)) hown hK.1 hP 0 rfl rfl 3 (by decide) (hts _ (gb_mem fl_X3_27)) (fun _ h9 => h9) rfl dX3_readOrder_9 ?_
  refine fr_ir (M := ([] : va_W)) (va_runS (As := [.int (fX3_nextSign signs length next)]) (rest := []) ⟨hx, hb, hml, hown, hts⟩ (mX3_isLetter l dC dI cyI cyO (fX3_nextSign signs length next) _ (fX3_isLetter (fX3_nextSign signs length next)) rfl) (va_cwS 1 hts (gS ml_X3_71 st_X3_isLetter in_X3 co_X3_isLetter) rfl rfl rfl (by decide +kernel) ⟨Nat.le_of_ble_eq_true rfl, Nat.le_of_ble_eq_true rfl⟩) (cP_S hK hP hD [] rfl rfl) rfl rfl hl.1 rfl (lv_room (Nat.le_of_ble_eq_true rfl)) dX3_readOrder_12 ⟨Nat.zero_le _, Nat.zero_le _⟩) hP hD hS hA [] rfl (fun H locs hP hS => ?_)
  refine lv_if_ne (tgt := 20) hx hb dX3_readOrder_15 (by decide) (fun c1 => ?_) (fun c1 => ?_)
  · have h := (if_neg c1).symm.trans h
    refine lv_aload_n hx hb dX3_readOrder_20 rfl (lv_at hl 0 rfl) ?_
    refine lv_dup hx hb dX3_readOrder_21 rfl ?_
    refine va_get (D := (dC, dI)) (ci := 3) (v := .int next) (C := RX3) (T := TX3) (N := 6) hx hb hts (fun w h9 => gb_mem (lay_X3 w h9)) hown hK.1 hP 0 rfl rfl 2 (by decide) (hts _ (gb_mem fl_X3_24)) (fun _ h9 => h9) rfl dX3_readOrder_22 ?_
    refine lv_iconst (v := 1) hx hb dX3_readOrder_25 (by decide) ?_
    refine lv_iadd hx hb dX3_readOrder_26 ?_
    refine va_put (D := (dC, dI)) (ci := 3) (v := .int (next + 1)) (ty := .int) (C := RX3) (T := TX3) (N := 6) hx hb hts (fun w h9 => gb_mem (lay_X3 w h9)) tyX3 tyX3_ok nmX3 hown hK.1 hP hD hS 0 rfl rfl 2 (by decide) (hts _ (gb_mem fl_X3_24)) (fun _ h9 => h9) rfl (by decide +kernel) rfl rfl (Nat.le_of_ble_eq_true rfl) dX3_readOrder_27 (fun H locs hP hD hS => ?_)
    have hP : va_P (dC, dI) vwCl (padW cyI p0 p1 p2 signs length (next + 1) (fX3_nextSign signs length next) target place) H := hP
    have hD : va_D A (padW cyI p0 p1 p2 signs length (next + 1) (fX3_nextSign signs length next) target place) := hD
    refine lv_aload_n hx hb dX3_readOrder_30 rfl (lv_at hl 0 rfl) ?_
    refine lv_bipush (v := (-6)) hx hb dX3_readOrder_31 (by decide) ?_
    refine va_put (D := (dC, dI)) (ci := 3) (v := .int (-6)) (ty := .int) (C := RX3) (T := TX3) (N := 6) hx hb hts (fun w h9 => gb_mem (lay_X3 w h9)) tyX3 tyX3_ok nmX3 hown hK.1 hP hD hS 0 rfl rfl 4 (by decide) (hts _ (gb_mem fl_X3_30)) (fun _ h9 => h9) rfl (by decide +kernel) rfl rfl (Nat.le_of_ble_eq_true rfl) dX3_readOrder_33 (fun H locs hP hD hS => ?_)
    have hP : va_P (dC, dI) vwCl (padW cyI p0 p1 p2 signs length (next + 1) (fX3_nextSign signs length next) (-6) place) H := hP
    have hD : va_D A (padW cyI p0 p1 p2 signs length (next + 1) (fX3_nextSign signs length next) (-6) place) := hD
    refine lv_aload_n hx hb dX3_readOrder_36 rfl (lv_at hl 0 rfl) ?_
    refine va_get (D := (dC, dI)) (ci := 3) (v := .int (fX3_nextSign signs length next)) (C := RX3) (T := TX3) (N := 6) hx hb hts (fun w h9 => gb_mem (lay_X3 w h9)) hown hK.1 hP 0 rfl rfl 3 (by decide) (hts _ (gb_mem fl_X3_27)) (fun _ h9 => h9) rfl dX3_readOrder_37 ?_
    refine lv_bipush (v := 107) hx hb dX3_readOrder_40 (by decide) ?_
    refine lv_icmp_ne (tgt := 56) hx hb dX3_readOrder_42 (by decide) (fun c2 => ?_) (fun c2 => ?_)
    · have h := (if_neg c2).symm.trans h
      refine lv_aload_n hx hb dX3_readOrder_56 rfl (lv_at hl 0 rfl) ?_
      obtain ⟨q3, e4, h⟩ := ob h
      refine fr_i (M := (padW cyI p0 p1 p2 signs length (next + 1) (fX3_nextSign signs length next) (-6) place)) (M' := (padW cyI p0 p1 p2 signs length q3.2.1 (fX3_nextSign signs length next) q3.2.2 place)) (L' := (padW cyI p0 p1 p2 signs length q3.2.1 (fX3_nextSign signs length next) q3.2.2 place)) (va_runV (As := []) (rest := []) ⟨hx, hb, hml, hown, hts⟩ (mX3_readNumber l dC dI cyI cyO p0 p1 p2 signs length (next + 1) (fX3_nextSign signs length next) (-6) place _ q3 e4) (cwV 0 hts (gV ml_X3_74 im_X3_readNumber se_X3_readNumber in_X3 co_X3_readNumber) rfl rfl rfl (by decide +kernel) ⟨Nat.le_of_ble_eq_true rfl, Nat.le_of_ble_eq_true rfl⟩) (cP_V hK hP hD [0, 1, 2] rfl rfl 0 rfl rfl) rfl rfl hl.1 rfl (lv_room (Nat.le_of_ble_eq_true rfl)) dX3_readOrder_57 ⟨Nat.zero_le _, Nat.zero_le _⟩) hP hD hS hA [0, 1, 2] rfl [(true, 0), (true, 1), (true, 2)] rfl rfl rfl (fun H locs hP hD hS => ?_)
      refine lv_if_eq (tgt := 92) hx hb dX3_readOrder_60 (by decide) (fun c5 => ?_) (fun c5 => ?_)
      · have h := (if_pos c5).symm.trans h
        refine lv_iconst (v := 0) hx hb dX3_readOrder_92 (by decide) ?_
        obtain rfl := Option.some.inj h
        exact e_z (v := 0) hx hb hr hlocks rfl hP hS dX3_readOrder_93
      · have h := (if_neg c5).symm.trans h
        refine lv_aload_n hx hb dX3_readOrder_63 rfl (lv_at hl 0 rfl) ?_
        refine va_get (D := (dC, dI)) (ci := 3) (v := .int (fX3_nextSign signs length next)) (C := RX3) (T := TX3) (N := 6) hx hb hts (fun w h9 => gb_mem (lay_X3 w h9)) hown hK.1 hP 0 rfl rfl 3 (by decide) (hts _ (gb_mem fl_X3_27)) (fun _ h9 => h9) rfl dX3_readOrder_64 ?_
        refine lv_bipush (v := 99) hx hb dX3_readOrder_67 (by decide) ?_
        refine lv_icmp_ne (tgt := 88) hx hb dX3_readOrder_69 (by decide) (fun c6 => ?_) (fun c6 => ?_)
        · have h := (if_neg c6).symm.trans h
          refine lv_iconst (v := 1) hx hb dX3_readOrder_88 (by decide) ?_
          refine lv_goto (tgt := 93) hx hb dX3_readOrder_89 (by decide) ?_
          obtain rfl := Option.some.inj h
          exact e_z (v := 1) hx hb hr hlocks rfl hP hS dX3_readOrder_93
        · have h := (if_pos c6).symm.trans h
          refine lv_aload_n hx hb dX3_readOrder_72 rfl (lv_at hl 0 rfl) ?_
          refine lv_bipush (v := 64) hx hb dX3_readOrder_73 (by decide) ?_
          obtain ⟨q7, e8, h⟩ := ob h
          refine fr_i (M := (padW cyI p0 p1 p2 signs length q3.2.1 (fX3_nextSign signs length next) q3.2.2 place)) (M' := (padW cyI p0 p1 p2 signs length q7.2 (fX3_nextSign signs length next) q3.2.2 place)) (L' := (padW cyI p0 p1 p2 signs length q7.2 (fX3_nextSign signs length next) q3.2.2 place)) (va_runV (As := [.int 64]) (rest := []) ⟨hx, hb, hml, hown, hts⟩ (mX3_skip l dC dI cyI cyO p0 p1 p2 signs length q3.2.1 (fX3_nextSign signs length next) q3.2.2 place 64 _ q7 e8) (cwV 1 hts (gV ml_X3_60 im_X3_skip se_X3_skip in_X3 co_X3_skip) rfl rfl rfl (by decide +kernel) ⟨Nat.le_of_ble_eq_true rfl, Nat.le_of_ble_eq_true rfl⟩) (cP_V hK hP hD [0, 1, 2] rfl rfl 0 rfl rfl) rfl rfl hl.1 rfl (lv_room (Nat.le_of_ble_eq_true rfl)) dX3_readOrder_75 ⟨Nat.zero_le _, Nat.zero_le _⟩) hP hD hS hA [0, 1, 2] rfl [(true, 0), (true, 1), (true, 2)] rfl rfl rfl (fun H locs hP hD hS => ?_)
          refine lv_if_eq (tgt := 92) hx hb dX3_readOrder_78 (by decide) (fun c9 => ?_) (fun c9 => ?_)
          · have h := (if_pos c9).symm.trans h
            refine lv_iconst (v := 0) hx hb dX3_readOrder_92 (by decide) ?_
            obtain rfl := Option.some.inj h
            exact e_z (v := 0) hx hb hr hlocks rfl hP hS dX3_readOrder_93
          · have h := (if_neg c9).symm.trans h
            refine lv_aload_n hx hb dX3_readOrder_81 rfl (lv_at hl 0 rfl) ?_
            obtain ⟨q10, e11, h⟩ := ob h
            refine fr_i (M := (padW cyI p0 p1 p2 signs length q7.2 (fX3_nextSign signs length next) q3.2.2 place)) (M' := (padW cyI p0 p1 p2 signs length q10.2.1 (fX3_nextSign signs length next) q3.2.2 q10.2.2)) (L' := (padW cyI p0 p1 p2 signs length q10.2.1 (fX3_nextSign signs length next) q3.2.2 q10.2.2)) (va_runV (As := []) (rest := []) ⟨hx, hb, hml, hown, hts⟩ (mX3_readPlace l dC dI cyI cyO p0 p1 p2 signs length q7.2 (fX3_nextSign signs length next) q3.2.2 place _ q10 e11) (cwV 0 hts (gV ml_X3_77 im_X3_readPlace se_X3_readPlace in_X3 co_X3_readPlace) rfl rfl rfl (by decide +kernel) ⟨Nat.le_of_ble_eq_true rfl, Nat.le_of_ble_eq_true rfl⟩) (cP_V hK hP hD [0, 1, 2] rfl rfl 0 rfl rfl) rfl rfl hl.1 rfl (lv_room (Nat.le_of_ble_eq_true rfl)) dX3_readOrder_82 ⟨Nat.zero_le _, Nat.zero_le _⟩) hP hD hS hA [0, 1, 2] rfl [(true, 0), (true, 1), (true, 2)] rfl rfl rfl (fun H locs hP hD hS => ?_)
            refine lv_if_eq (tgt := 92) hx hb dX3_readOrder_85 (by decide) (fun c12 => ?_) (fun c12 => ?_)
            · have h := (if_pos c12).symm.trans h
              refine lv_iconst (v := 0) hx hb dX3_readOrder_92 (by decide) ?_
              obtain rfl := Option.some.inj h
              exact e_z (v := 0) hx hb hr hlocks rfl hP hS dX3_readOrder_93
            · have h := (if_neg c12).symm.trans h
              refine lv_iconst (v := 1) hx hb dX3_readOrder_88 (by decide) ?_
              refine lv_goto (tgt := 93) hx hb dX3_readOrder_89 (by decide) ?_
              obtain rfl := Option.some.inj h
              exact e_z (v := 1) hx hb hr hlocks rfl hP hS dX3_readOrder_93
    · have h := (if_pos c2).symm.trans h
      refine lv_aload_n hx hb dX3_readOrder_45 rfl (lv_at hl 0 rfl) ?_
      refine lv_bipush (v := 45) hx hb dX3_readOrder_46 (by decide) ?_
      obtain ⟨q13, e14, h⟩ := ob h
      refine fr_i (M := (padW cyI p0 p1 p2 signs length (next + 1) (fX3_nextSign signs length next) (-6) place)) (M' := (padW cyI p0 p1 p2 signs length q13.2 (fX3_nextSign signs length next) (-6) place)) (L' := (padW cyI p0 p1 p2 signs length q13.2 (fX3_nextSign signs length next) (-6) place)) (va_runV (As := [.int 45]) (rest := []) ⟨hx, hb, hml, hown, hts⟩ (mX3_skip l dC dI cyI cyO p0 p1 p2 signs length (next + 1) (fX3_nextSign signs length next) (-6) place 45 _ q13 e14) (cwV 1 hts (gV ml_X3_60 im_X3_skip se_X3_skip in_X3 co_X3_skip) rfl rfl rfl (by decide +kernel) ⟨Nat.le_of_ble_eq_true rfl, Nat.le_of_ble_eq_true rfl⟩) (cP_V hK hP hD [0, 1, 2] rfl rfl 0 rfl rfl) rfl rfl hl.1 rfl (lv_room (Nat.le_of_ble_eq_true rfl)) dX3_readOrder_48 ⟨Nat.zero_le _, Nat.zero_le _⟩) hP hD hS hA [0, 1, 2] rfl [(true, 0), (true, 1), (true, 2)] rfl rfl rfl (fun H locs hP hD hS => ?_)
      refine lv_if_eq (tgt := 56) hx hb dX3_readOrder_51 (by decide) (fun c15 => ?_) (fun c15 => ?_)
      · have h := (if_pos c15).symm.trans h
        refine lv_aload_n hx hb dX3_readOrder_56 rfl (lv_at hl 0 rfl) ?_
        obtain ⟨q16, e17, h⟩ := ob h
        refine fr_i (M := (padW cyI p0 p1 p2 signs length q13.2 (fX3_nextSign signs length next) (-6) place)) (M' := (padW cyI p0 p1 p2 signs length q16.2.1 (fX3_nextSign signs length next) q16.2.2 place)) (L' := (padW cyI p0 p1 p2 signs length q16.2.1 (fX3_nextSign signs length next) q16.2.2 place)) (va_runV (As := []) (rest := []) ⟨hx, hb, hml, hown, hts⟩ (mX3_readNumber l dC dI cyI cyO p0 p1 p2 signs length q13.2 (fX3_nextSign signs length next) (-6) place _ q16 e17) (cwV 0 hts (gV ml_X3_74 im_X3_readNumber se_X3_readNumber in_X3 co_X3_readNumber) rfl rfl rfl (by decide +kernel) ⟨Nat.le_of_ble_eq_true rfl, Nat.le_of_ble_eq_true rfl⟩) (cP_V hK hP hD [0, 1, 2] rfl rfl 0 rfl rfl) rfl rfl hl.1 rfl (lv_room (Nat.le_of_ble_eq_true rfl)) dX3_readOrder_57 ⟨Nat.zero_le _, Nat.zero_le _⟩) hP hD hS hA [0, 1, 2] rfl [(true, 0), (true, 1), (true, 2)] rfl rfl rfl (fun H locs hP hD hS => ?_)
        refine lv_if_eq (tgt := 92) hx hb dX3_readOrder_60 (by decide) (fun c18 => ?_) (fun c18 => ?_)
        · have h := (if_pos c18).symm.trans h
          refine lv_iconst (v := 0) hx hb dX3_readOrder_92 (by decide) ?_
          obtain rfl := Option.some.inj h
          exact e_z (v := 0) hx hb hr hlocks rfl hP hS dX3_readOrder_93
        · have h := (if_neg c18).symm.trans h
          refine lv_aload_n hx hb dX3_readOrder_63 rfl (lv_at hl 0 rfl) ?_
          refine va_get (D := (dC, dI)) (ci := 3) (v := .int (fX3_nextSign signs length next)) (C := RX3) (T := TX3) (N := 6) hx hb hts (fun w h9 => gb_mem (lay_X3 w h9)) hown hK.1 hP 0 rfl rfl 3 (by decide) (hts _ (gb_mem fl_X3_27)) (fun _ h9 => h9) rfl dX3_readOrder_64 ?_
          refine lv_bipush (v := 99) hx hb dX3_readOrder_67 (by decide) ?_
          refine lv_icmp_ne (tgt := 88) hx hb dX3_readOrder_69 (by decide) (fun c19 => ?_) (fun c19 => ?_)
          · have h := (if_neg c19).symm.trans h
            refine lv_iconst (v := 1) hx hb dX3_readOrder_88 (by decide) ?_
            refine lv_goto (tgt := 93) hx hb dX3_readOrder_89 (by decide) ?_
            obtain rfl := Option.some.inj h
            exact e_z (v := 1) hx hb hr hlocks rfl hP hS dX3_readOrder_93
          · have h := (if_pos c19).symm.trans h
            refine lv_aload_n hx hb dX3_readOrder_72 rfl (lv_at hl 0 rfl) ?_
            refine lv_bipush (v := 64) hx hb dX3_readOrder_73 (by decide) ?_
            obtain ⟨q20, e21, h⟩ := ob h
            refine fr_i (M := (padW cyI p0 p1 p2 signs length q16.2.1 (fX3_nextSign signs length next) q16.2.2 place)) (M' := (padW cyI p0 p1 p2 signs length q20.2 (fX3_nextSign signs length next) q16.2.2 place)) (L' := (padW cyI p0 p1 p2 signs length q20.2 (fX3_nextSign signs length next) q16.2.2 place)) (va_runV (As := [.int 64]) (rest := []) ⟨hx, hb, hml, hown, hts⟩ (mX3_skip l dC dI cyI cyO p0 p1 p2 signs length q16.2.1 (fX3_nextSign signs length next) q16.2.2 place 64 _ q20 e21) (cwV 1 hts (gV ml_X3_60 im_X3_skip se_X3_skip in_X3 co_X3_skip) rfl rfl rfl (by decide +kernel) ⟨Nat.le_of_ble_eq_true rfl, Nat.le_of_ble_eq_true rfl⟩) (cP_V hK hP hD [0, 1, 2] rfl rfl 0 rfl rfl) rfl rfl hl.1 rfl (lv_room (Nat.le_of_ble_eq_true rfl)) dX3_readOrder_75 ⟨Nat.zero_le _, Nat.zero_le _⟩) hP hD hS hA [0, 1, 2] rfl [(true, 0), (true, 1), (true, 2)] rfl rfl rfl (fun H locs hP hD hS => ?_)
            refine lv_if_eq (tgt := 92) hx hb dX3_readOrder_78 (by decide) (fun c22 => ?_) (fun c22 => ?_)
            · have h := (if_pos c22).symm.trans h
              refine lv_iconst (v := 0) hx hb dX3_readOrder_92 (by decide) ?_
              obtain rfl := Option.some.inj h
              exact e_z (v := 0) hx hb hr hlocks rfl hP hS dX3_readOrder_93
            · have h := (if_neg c22).symm.trans h
              refine lv_aload_n hx hb dX3_readOrder_81 rfl (lv_at hl 0 rfl) ?_
              obtain ⟨q23, e24, h⟩ := ob h
              refine fr_i (M := (padW cyI p0 p1 p2 signs length q20.2 (fX3_nextSign signs length next) q16.2.2 place)) (M' := (padW cyI p0 p1 p2 signs length q23.2.1 (fX3_nextSign signs length next) q16.2.2 q23.2.2)) (L' := (padW cyI p0 p1 p2 signs length q23.2.1 (fX3_nextSign signs length next) q16.2.2 q23.2.2)) (va_runV (As := []) (rest := []) ⟨hx, hb, hml, hown, hts⟩ (mX3_readPlace l dC dI cyI cyO p0 p1 p2 signs length q20.2 (fX3_nextSign signs length next) q16.2.2 place _ q23 e24) (cwV 0 hts (gV ml_X3_77 im_X3_readPlace se_X3_readPlace in_X3 co_X3_readPlace) rfl rfl rfl (by decide +kernel) ⟨Nat.le_of_ble_eq_true rfl, Nat.le_of_ble_eq_true rfl⟩) (cP_V hK hP hD [0, 1, 2] rfl rfl 0 rfl rfl) rfl rfl hl.1 rfl (lv_room (Nat.le_of_ble_eq_true rfl)) dX3_readOrder_82 ⟨Nat.zero_le _, Nat.zero_le _⟩) hP hD hS hA [0, 1, 2] rfl [(true, 0), (true, 1), (true, 2)] rfl rfl rfl (fun H locs hP hD hS => ?_)
              refine lv_if_eq (tgt := 92) hx hb dX3_readOrder_85 (by decide) (fun c25 => ?_) (fun c25 => ?_)
              · have h := (if_pos c25).symm.trans h
                refine lv_iconst (v := 0) hx hb dX3_readOrder_92 (by decide) ?_
                obtain rfl := Option.some.inj h
                exact e_z (v := 0) hx hb hr hlocks rfl hP hS dX3_readOrder_93
              · have h := (if_neg c25).symm.trans h
                refine lv_iconst (v := 1) hx hb dX3_readOrder_88 (by decide) ?_
                refine lv_goto (tgt := 93) hx hb dX3_readOrder_89 (by decide) ?_
                obtain rfl := Option.some.inj h
                exact e_z (v := 1) hx hb hr hlocks rfl hP hS dX3_readOrder_93
      · have h := (if_neg c15).symm.trans h
        refine lv_iconst (v := 1) hx hb dX3_readOrder_54 (by decide) ?_
        obtain rfl := Option.some.inj h
        exact e_z (v := 1) hx hb hr hlocks rfl hP hS dX3_readOrder_55
  · have h := (if_pos c1).symm.trans h
    refine lv_iconst (v := 0) hx hb dX3_readOrder_18 (by decide) ?_
    obtain rfl := Option.some.inj h
    exact e_z (v := 0) hx hb hr hlocks rfl hP hS dX3_readOrder_19

noncomputable def fX3_readNext (signs : Nat → Int32) (length : Int32) (next : Int32) (letter : Int32) (target : Int32) (place : Int32) : Option (Int32 × Int32 × Int32 × Int32 × Int32) :=
  (if next = 0 then ((fX3_readOrder signs length next letter target place).bind fun q2 => (if q2.1 = 0 then (some (0, q2.2.1, q2.2.2.1, q2.2.2.2.1, q2.2.2.2.2)) else (some (1, q2.2.1, q2.2.2.1, q2.2.2.2.1, q2.2.2.2.2)))) else ((fX3_skip signs length next 59).bind fun q5 => (if q5.1 = 0 then (some (0, q5.2, letter, target, place)) else ((fX3_readOrder signs length q5.2 letter target place).bind fun q8 => (if q8.1 = 0 then (some (0, q8.2.1, q8.2.2.1, q8.2.2.2.1, q8.2.2.2.2)) else (some (1, q8.2.1, q8.2.2.1, q8.2.2.2.1, q8.2.2.2.2)))))))
set_option maxHeartbeats 1000000 in
set_option maxRecDepth 100000 in
theorem mX3_readNext (l : Launch) (dC : Nat → ClassId) (dI : Nat → Nat → Nat) (cyI cyO : ClassId) (p0 p1 p2 : Nat) (signs : Nat → Int32) (length : Int32) (next : Int32) (letter : Int32) (target : Int32) (place : Int32)  (sz : Nat) (res : Int32 × Int32 × Int32 × Int32 × Int32) (h : fX3_readNext signs length next letter target place = some res) : Met l yX3_readNext (wsG yX3_readNext cX3_readNext 1 (some .boolean)) ({ frames := 4, cells := 0, slots := 0, locals := 83 }) (cP dC dI cyI cyO sz [.ref p0] (padW cyI p0 p1 p2 signs length next letter target place)) (cI dC dI res.1 (padW cyI p0 p1 p2 signs length res.2.1 res.2.2.1 res.2.2.2.1 res.2.2.2.2) (va_A (padW cyI p0 p1 p2 signs length next letter target place) sz)) 0 0 (va_A (padW cyI p0 p1 p2 signs length next letter target place) sz) := by
  refine Met.ofW (cc := cX3_readNext) (maxL := 1) (ret := (some .boolean)) (by decide) rfl ?_
  intro p e s m args below meth c s₁ B hml hv
  obtain ⟨rfl, hsz, hP, hK, hD0⟩ := hv
  have hx := B.exec
  have hb := B.bytes
  have hr := B.returns
  have hts := atoms_spec (ws := wsG yX3_readNext cX3_readNext 1 (some .boolean)) B.pre
  have hown : s.vm.findClass RX3 = some m.cls := findClass_of_methodNamed B.named
  have hlocks := B.notSynchronized
  subst hsz
  have hD := hD0.self (sz := s.heap.size)
  generalize hAe : va_A (padW cyI p0 p1 p2 signs length next letter target place) s.heap.size = A at hD ⊢
  have hA : ∀ q : Nat, s.heap.size ≤ q → A q := fun q h => by rw [← hAe]; exact Or.inr h
  have hS : va_S A s.heap s.heap [] := va_S.rf
  have hl := lv_entry ([.ref p0]) (n := 1) (Nat.le_of_ble_eq_true rfl)
  rw [lg_entry_eq]
  generalize (lg_sl ([.ref p0]) ++ List.replicate (1 - (lg_sl ([.ref p0])).length) Slot.unset).toArray = ls at hl ⊢
  have hl : lv_has ls 1 [(0, .ref p0)] := hl
  unfold fX3_readNext at h
  refine lv_aload_n hx hb dX3_readNext_0 rfl (lv_at hl 0 rfl) ?_
  refine va_get (D := (dC, dI)) (ci := 3) (v := .int next) (C := RX3) (T := TX3) (N := 6) hx hb hts (fun w h9 => gb_mem (lay_X3 w h9)) hown hK.1 hP 0 rfl rfl 2 (by decide) (hts _ (gb_mem fl_X3_24)) (fun _ h9 => h9) rfl dX3_readNext_1 ?_
  refine lv_if_eq (tgt := 16) hx hb dX3_readNext_4 (by decide) (fun c1 => ?_) (fun c1 => ?_)
  · have h := (if_pos c1).symm.trans h
    refine lv_aload_n hx hb dX3_readNext_16 rfl (lv_at hl 0 rfl) ?_
    obtain ⟨q2, e3, h⟩ := ob h
    refine fr_i (M := (padW cyI p0 p1 p2 signs length next letter target place)) (M' := (padW cyI p0 p1 p2 signs length q2.2.1 q2.2.2.1 q2.2.2.2.1 q2.2.2.2.2)) (L' := (padW cyI p0 p1 p2 signs length q2.2.1 q2.2.2.1 q2.2.2.2.1 q2.2.2.2.2)) (va_runV (As := []) (rest := []) ⟨hx, hb, hml, hown, hts⟩ (mX3_readOrder l dC dI cyI cyO p0 p1 p2 signs length next letter target place _ q2 e3) (cwV 0 hts (gV ml_X3_64 im_X3_readOrder se_X3_readOrder in_X3 co_X3_readOrder) rfl rfl rfl (by decide +kernel) ⟨Nat.le_of_ble_eq_true rfl, Nat.le_of_ble_eq_true rfl⟩) (cP_V hK hP hD [0, 1, 2] rfl rfl 0 rfl rfl) rfl rfl hl.1 rfl (lv_room (Nat.le_of_ble_eq_true rfl)) dX3_readNext_17 ⟨Nat.zero_le _, Nat.zero_le _⟩) hP hD hS hA [0, 1, 2] rfl [(true, 0), (true, 1), (true, 2)] rfl rfl rfl (fun H locs hP hD hS => ?_)
    refine lv_if_eq (tgt := 27) hx hb dX3_readNext_20 (by decide) (fun c4 => ?_) (fun c4 => ?_)
    · have h := (if_pos c4).symm.trans h
      refine lv_iconst (v := 0) hx hb dX3_readNext_27 (by decide) ?_
      obtain rfl := Option.some.inj h
      exact e_z (v := 0) hx hb hr hlocks rfl hP hS dX3_readNext_28
    · have h := (if_neg c4).symm.trans h
      refine lv_iconst (v := 1) hx hb dX3_readNext_23 (by decide) ?_
      refine lv_goto (tgt := 28) hx hb dX3_readNext_24 (by decide) ?_
      obtain rfl := Option.some.inj h
      exact e_z (v := 1) hx hb hr hlocks rfl hP hS dX3_readNext_28
  · have h := (if_neg c1).symm.trans h
    refine lv_aload_n hx hb dX3_readNext_7 rfl (lv_at hl 0 rfl) ?_
    refine lv_bipush (v := 59) hx hb dX3_readNext_8 (by decide) ?_
    obtain ⟨q5, e6, h⟩ := ob h
    refine fr_i (M := (padW cyI p0 p1 p2 signs length next letter target place)) (M' := (padW cyI p0 p1 p2 signs length q5.2 letter target place)) (L' := (padW cyI p0 p1 p2 signs length q5.2 letter target place)) (va_runV (As := [.int 59]) (rest := []) ⟨hx, hb, hml, hown, hts⟩ (mX3_skip l dC dI cyI cyO p0 p1 p2 signs length next letter target place 59 _ q5 e6) (cwV 1 hts (gV ml_X3_60 im_X3_skip se_X3_skip in_X3 co_X3_skip) rfl rfl rfl (by decide +kernel) ⟨Nat.le_of_ble_eq_true rfl, Nat.le_of_ble_eq_true rfl⟩) (cP_V hK hP hD [0, 1, 2] rfl rfl 0 rfl rfl) rfl rfl hl.1 rfl (lv_room (Nat.le_of_ble_eq_true rfl)) dX3_readNext_10 ⟨Nat.zero_le _, Nat.zero_le _⟩) hP hD hS hA [0, 1, 2] rfl [(true, 0), (true, 1), (true, 2)] rfl rfl rfl (fun H locs hP hD hS => ?_)
    refine lv_if_eq (tgt := 27) hx hb dX3_readNext_13 (by decide) (fun c7 => ?_) (fun c7 => ?_)
    · have h := (if_pos c7).symm.trans h
      refine lv_iconst (v := 0) hx hb dX3_readNext_27 (by decide) ?_
      obtain rfl := Option.some.inj h
      exact e_z (v := 0) hx hb hr hlocks rfl hP hS dX3_readNext_28
    · have h := (if_neg c7).symm.trans h
      refine lv_aload_n hx hb dX3_readNext_16 rfl (lv_at hl 0 rfl) ?_
      obtain ⟨q8, e9, h⟩ := ob h
      refine fr_i (M := (padW cyI p0 p1 p2 signs length q5.2 letter target place)) (M' := (padW cyI p0 p1 p2 signs length q8.2.1 q8.2.2.1 q8.2.2.2.1 q8.2.2.2.2)) (L' := (padW cyI p0 p1 p2 signs length q8.2.1 q8.2.2.1 q8.2.2.2.1 q8.2.2.2.2)) (va_runV (As := []) (rest := []) ⟨hx, hb, hml, hown, hts⟩ (mX3_readOrder l dC dI cyI cyO p0 p1 p2 signs length q5.2 letter target place _ q8 e9) (cwV 0 hts (gV ml_X3_64 im_X3_readOrder se_X3_readOrder in_X3 co_X3_readOrder) rfl rfl rfl (by decide +kernel) ⟨Nat.le_of_ble_eq_true rfl, Nat.le_of_ble_eq_true rfl⟩) (cP_V hK hP hD [0, 1, 2] rfl rfl 0 rfl rfl) rfl rfl hl.1 rfl (lv_room (Nat.le_of_ble_eq_true rfl)) dX3_readNext_17 ⟨Nat.zero_le _, Nat.zero_le _⟩) hP hD hS hA [0, 1, 2] rfl [(true, 0), (true, 1), (true, 2)] rfl rfl rfl (fun H locs hP hD hS => ?_)
      refine lv_if_eq (tgt := 27) hx hb dX3_readNext_20 (by decide) (fun c10 => ?_) (fun c10 => ?_)
      · have h := (if_pos c10).symm.trans h
        refine lv_iconst (v := 0) hx hb dX3_readNext_27 (by decide) ?_
        obtain rfl := Option.some.inj h
        exact e_z (v := 0) hx hb hr hlocks rfl hP hS dX3_readNext_28
      · have h := (if_neg c10).symm.trans h
        refine lv_iconst (v := 1) hx hb dX3_readNext_23 (by decide) ?_
        refine lv_goto (tgt := 28) hx hb dX3_readNext_24 (by decide) ?_
        obtain rfl := Option.some.inj h
        exact e_z (v := 1) hx hb hr hlocks rfl hP hS dX3_readNext_28
noncomputable def fX3_findFault_b6 : Nat → (Nat → Int32) → Int32 → Int32 → Int32 → Int32 → Int32 → Int32 → Option (Int32 × Int32 × Int32 × Int32 × Int32)
  | 0, _, _, _, _, _, _, _ => none
  | fuel + 1, signs, length, next, letter, target, place, y1 =>
  (if 60 ≤ y1 then (some (next, next, letter, target, place)) else ((fX3_readNext signs length next letter target place).bind fun q2 => (if q2.1 = 0 then (some (q2.2.1, q2.2.1, q2.2.2.1, q2.2.2.2.1, q2.2.2.2.2)) else (if (fX3_hasMore length q2.2.1) = 0 then (some ((-6), q2.2.1, q2.2.2.1, q2.2.2.2.1, q2.2.2.2.2)) else fX3_findFault_b6 fuel signs length q2.2.1 q2.2.2.1 q2.2.2.2.1 q2.2.2.2.2 (y1 + 1)))))

noncomputable def fX3_findFault (signs : Nat → Int32) (length : Int32) (next : Int32) (letter : Int32) (target : Int32) (place : Int32) : Option (Int32 × Int32 × Int32 × Int32 × Int32) :=
  fX3_findFault_b6 6000 signs length (fX3_startReading next) letter target place 0
set_option maxHeartbeats 1000000 in
set_option maxRecDepth 100000 in
theorem mX3_findFault (l : Launch) (dC : Nat → ClassId) (dI : Nat → Nat → Nat) (cyI cyO : ClassId) (p0 p1 p2 : Nat) (signs : Nat → Int32) (length : Int32) (next : Int32) (letter : Int32) (target : Int32) (place : Int32)  (sz : Nat) (res : Int32 × Int32 × Int32 × Int32 × Int32) (h : fX3_findFault signs length next letter target place = some res) : Met l yX3_findFault (wsG yX3_findFault cX3_findFault 2 (some .int)) ({ frames := 5, cells := 0, slots := 0, locals := 103 }) (cP dC dI cyI cyO sz [.ref p0] (padW cyI p0 p1 p2 signs length next letter target place)) (cI dC dI res.1 (padW cyI p0 p1 p2 signs length res.2.1 res.2.2.1 res.2.2.2.1 res.2.2.2.2) (va_A (padW cyI p0 p1 p2 signs length next letter target place) sz)) 0 0 (va_A (padW cyI p0 p1 p2 signs length next letter target place) sz) := by
  refine Met.ofW (cc := cX3_findFault) (maxL := 2) (ret := (some .int)) (by decide) rfl ?_
  intro p e s m args below meth c s₁ B hml hv
  obtain ⟨rfl, hsz, hP, hK, hD0⟩ := hv
  have hx := B.exec
  have hb := B.bytes
  have hr := B.returns
  have hts := atoms_spec (ws := wsG yX3_findFault cX3_findFault 2 (some .int)) B.pre
  have hown : s.vm.findClass RX3 = some m.cls := findClass_of_methodNamed B.named
  have hlocks := B.notSynchronized
  subst hsz
  have hD := hD0.self (sz := s.heap.size)
  generalize hAe : va_A (padW cyI p0 p1 p2 signs length next letter target place) s.heap.size = A at hD ⊢
  have hA : ∀ q : Nat, s.heap.size ≤ q → A q := fun q h => by rw [← hAe]; exact Or.inr h
  have hS : va_S A s.heap s.heap [] := va_S.rf
  have kB6 : ∀ (fuel : Nat) (signs : Nat → Int32) (length : Int32) (next : Int32) (letter : Int32) (target : Int32) (place : Int32) (y1 : Int32), fX3_findFault_b6 fuel signs length next letter target place y1 = some res → ∀ (H : Heap) (locs : List Loc), va_P (dC, dI) vwCl (padW cyI p0 p1 p2 signs length next letter target place) H → va_D A (padW cyI p0 p1 p2 signs length next letter target place) → va_S A s.heap H locs → ∀ ls : Array Slot, lv_has ls 2 [(0, .ref p0), (1, .int y1)] → W p l e (headSpec (wsG yX3_findFault cX3_findFault 2 (some .int)) ({ frames := 5, cells := 0, slots := 0, locals := 103 })).room s m (([.ref p0] : List Value).toArray) below meth c H locs 0 0 (MQ below (cI dC dI res.1 (padW cyI p0 p1 p2 signs length res.2.1 res.2.2.1 res.2.2.2.1 res.2.2.2.2) A) ([.ref p0] : List Value).toArray s 0 0 A) (F0 m 6 ls []) := by
    intro fuel
    induction fuel with
    | zero => intro signs length next letter target place y1 h; rw [fX3_findFault_b6] at h; cases h
    | succ fuel ih =>
      intro signs length next letter target place y1 h H locs hP hD hS ls hl
      rw [fX3_findFault_b6] at h
      refine lv_iload_n hx hb dX3_findFault_6 rfl (lv_at hl 1 rfl) ?_
      refine lv_bipush (v := 60) hx hb dX3_findFault_7 (by decide) ?_
      refine lv_icmp_ge (tgt := 40) hx hb dX3_findFault_9 (by decide) (fun c1 => ?_) (fun c1 => ?_)
      · have h := (if_pos c1).symm.trans h
        refine lv_aload_n hx hb dX3_findFault_40 rfl (lv_at hl 0 rfl) ?_
        refine va_get (D := (dC, dI)) (ci := 3) (v := .int next) (C := RX3) (T := TX3) (N := 6) hx hb hts (fun w h9 => gb_mem (lay_X3 w h9)) hown hK.1 hP 0 rfl rfl 2 (by decide) (hts _ (gb_mem fl_X3_24)) (fun _ h9 => h9) rfl dX3_findFault_41 ?_
        obtain rfl := Option.some.inj h
        exact e_i hx hb hr hlocks hP hS dX3_findFault_44
      · have h := (if_neg c1).symm.trans h
        refine lv_aload_n hx hb dX3_findFault_12 rfl (lv_at hl 0 rfl) ?_
        obtain ⟨q2, e3, h⟩ := ob h
        refine fr_i (M := (padW cyI p0 p1 p2 signs length next letter target place)) (M' := (padW cyI p0 p1 p2 signs length q2.2.1 q2.2.2.1 q2.2.2.2.1 q2.2.2.2.2)) (L' := (padW cyI p0 p1 p2 signs length q2.2.1 q2.2.2.1 q2.2.2.2.1 q2.2.2.2.2)) (va_runV (As := []) (rest := []) ⟨hx, hb, hml, hown, hts⟩ (mX3_readNext l dC dI cyI cyO p0 p1 p2 signs length next letter target place _ q2 e3) (cwV 0 hts (gV ml_X3_53 im_X3_readNext se_X3_readNext in_X3 co_X3_readNext) rfl rfl rfl (by decide +kernel) ⟨Nat.le_of_ble_eq_true rfl, Nat.le_of_ble_eq_true rfl⟩) (cP_V hK hP hD [0, 1, 2] rfl rfl 0 rfl rfl) rfl rfl hl.1 rfl (lv_room (Nat.le_of_ble_eq_true rfl)) dX3_findFault_13 ⟨Nat.zero_le _, Nat.zero_le _⟩) hP hD hS hA [0, 1, 2] rfl [(true, 0), (true, 1), (true, 2)] rfl rfl rfl (fun H locs hP hD hS => ?_)
        refine lv_if_ne (tgt := 24) hx hb dX3_findFault_16 (by decide) (fun c4 => ?_) (fun c4 => ?_)
        · have h := (if_neg c4).symm.trans h
          refine lv_aload_n hx hb dX3_findFault_24 rfl (lv_at hl 0 rfl) ?_
          refine fr_ir (M := (padW cyI p0 p1 p2 signs length q2.2.1 q2.2.2.1 q2.2.2.2.1 q2.2.2.2.2)) (va_runV (As := []) (rest := []) ⟨hx, hb, hml, hown, hts⟩ (mX3_hasMore l dC dI cyI cyO p0 p1 p2 signs length q2.2.1 q2.2.2.1 q2.2.2.2.1 q2.2.2.2.2 _ (fX3_hasMore length q2.2.1) rfl) (cwV 0 hts (gV ml_X3_57 im_X3_hasMore se_X3_hasMore in_X3 co_X3_hasMore) rfl rfl rfl (by decide +kernel) ⟨Nat.le_of_ble_eq_true rfl, Nat.le_of_ble_eq_true rfl⟩) (cP_V hK hP hD [0, 1, 2] rfl rfl 0 rfl rfl) rfl rfl hl.1 rfl (lv_room (Nat.le_of_ble_eq_true rfl)) dX3_findFault_25 ⟨Nat.zero_le _, Nat.zero_le _⟩) hP hD hS hA [0, 1, 2] rfl (fun H locs hP hS => ?_)
          refine lv_if_ne (tgt := 34) hx hb dX3_findFault_28 (by decide) (fun c5 => ?_) (fun c5 => ?_)
          · have h := (if_neg c5).symm.trans h
            refine lv_iinc (v := (y1 + 1)) (lv' := [(1, .int (y1 + 1)), (0, .ref p0)]) hx hb dX3_findFault_34 hl (k := 1) rfl rfl (by decide) rfl (fun ls hl => ?_)
            refine lv_goto (tgt := 6) hx hb dX3_findFault_37 (by decide) ?_
            exact ih signs length q2.2.1 q2.2.2.1 q2.2.2.2.1 q2.2.2.2.2 (y1 + 1) h _ _ hP hD hS ls (lv_sub hl [1, 0] rfl)
          · have h := (if_pos c5).symm.trans h
            refine lv_bipush (v := (-6)) hx hb dX3_findFault_31 (by decide) ?_
            obtain rfl := Option.some.inj h
            exact e_i hx hb hr hlocks hP hS dX3_findFault_33
        · have h := (if_pos c4).symm.trans h
          refine lv_aload_n hx hb dX3_findFault_19 rfl (lv_at hl 0 rfl) ?_
          refine va_get (D := (dC, dI)) (ci := 3) (v := .int q2.2.1) (C := RX3) (T := TX3) (N := 6) hx hb hts (fun w h9 => gb_mem (lay_X3 w h9)) hown hK.1 hP 0 rfl rfl 2 (by decide) (hts _ (gb_mem fl_X3_24)) (fun _ h9 => h9) rfl dX3_findFault_20 ?_
          obtain rfl := Option.some.inj h
          exact e_i hx hb hr hlocks hP hS dX3_findFault_23
  have hl := lv_entry ([.ref p0]) (n := 2) (Nat.le_of_ble_eq_true rfl)
  rw [lg_entry_eq]
  generalize (lg_sl ([.ref p0]) ++ List.replicate (2 - (lg_sl ([.ref p0])).length) Slot.unset).toArray = ls at hl ⊢
  have hl : lv_has ls 2 [(0, .ref p0)] := hl
  unfold fX3_findFault at h
  refine lv_aload_n hx hb dX3_findFault_0 rfl (lv_at hl 0 rfl) ?_
  refine fr_v (M := (padW cyI p0 p1 p2 signs length next letter target place)) (M' := (padW cyI p0 p1 p2 signs length (fX3_startReading next) letter target place)) (L' := (padW cyI p0 p1 p2 signs length (fX3_startReading next) letter target place)) (va_runV (As := []) (rest := []) ⟨hx, hb, hml, hown, hts⟩ (mX3_startReading l dC dI cyI cyO p0 p1 p2 signs length next letter target place _ (fX3_startReading next) rfl) (cwV 0 hts (gV ml_X3_50 im_X3_startReading se_X3_startReading in_X3 co_X3_startReading) rfl rfl rfl (by decide +kernel) ⟨Nat.le_of_ble_eq_true rfl, Nat.le_of_ble_eq_true rfl⟩) (cP_V hK hP hD [0, 1, 2] rfl rfl 0 rfl rfl) rfl rfl hl.1 rfl (lv_room (Nat.le_of_ble_eq_true rfl)) dX3_findFault_1 ⟨Nat.zero_le _, Nat.zero_le _⟩) hP hD hS hA [0, 1, 2] rfl [(true, 0), (true, 1), (true, 2)] rfl rfl rfl (fun H locs hP hD hS => ?_)
  refine lv_iconst (v := 0) hx hb dX3_findFault_4 (by decide) ?_
  refine lv_istore_n (lv' := [(1, .int 0), (0, .ref p0)]) hx hb dX3_findFault_5 rfl hl (by decide) rfl (fun ls hl => ?_)
  exact kB6 6000 signs length (fX3_startReading next) letter target place 0 h _ _ hP hD hS ls (lv_sub hl [1, 0] rfl)
