/-! the reference -/
noncomputable def fX8_wornKeys_b4 : Nat → (Nat → Int32) → Int32 → Int32 → Option (Int32)
  | 0, _, _, _ => none
  | fuel + 1, state, y1, y2 =>
  (if (1 : Int32) < 0 ∨ 844 ≤ (1 : Int32).toNatClampNeg then none else (if (state (1 : Int32).toNatClampNeg) ≤ y2 then (some y1) else ((fX8_keyPart state y2 1).bind fun q3 => (if q3 = 1 then ((fX8_canClose state y2).bind fun q6 => (if q6 = 0 then fX8_wornKeys_b4 fuel state (y1 ||| (1 <<< (y2 &&& 31))) (y2 + 1) else fX8_wornKeys_b4 fuel state (y1 ||| 0) (y2 + 1))) else fX8_wornKeys_b4 fuel state (y1 ||| 0) (y2 + 1)))))

noncomputable def fX8_wornKeys (state : Nat → Int32) : Option (Int32) :=
  fX8_wornKeys_b4 6000 state 0 0
set_option maxHeartbeats 1000000 in
set_option maxRecDepth 100000 in
theorem mX8_wornKeys (l : Launch) (dC : Nat → ClassId) (dI : Nat → Nat → Nat) (cyI cyO : ClassId) (m0 m1 m2 m3 m4 m5 m6 : Nat) (state : Nat → Int32) (history : Nat → Int32) (recorded : Int32) (slots : Nat → Int32) (isSaved : Nat → Int32) (pad : Nat → Int32) (padLength : Int32) (opened : Nat → Int32) (pos : Int32) (letter : Int32) (first : Int32) (second : Int32)  (sz : Nat) (res : Int32) (h : fX8_wornKeys state = some res) : Met l yX8_wornKeys (wsG yX8_wornKeys cX8_wornKeys 3 (some .int)) ({ frames := 2, cells := 0, slots := 0, locals := 43 }) (cP dC dI cyI cyO sz [.ref m0] (modelW cyI m0 m1 m2 m3 m4 m5 m6 state history recorded slots isSaved pad padLength opened pos letter first second)) (cI dC dI res (modelW cyI m0 m1 m2 m3 m4 m5 m6 state history recorded slots isSaved pad padLength opened pos letter first second) (va_A (modelW cyI m0 m1 m2 m3 m4 m5 m6 state history recorded slots isSaved pad padLength opened pos letter first second) sz)) 0 0 (va_A (modelW cyI m0 m1 m2 m3 m4 m5 m6 state history recorded slots isSaved pad padLength opened pos letter first second) sz) := by
  refine Met.ofW (cc := cX8_wornKeys) (maxL := 3) (ret := (some .int)) (by decide) rfl ?_
  intro p e s m args below meth c s₁ B hml hv
  obtain ⟨rfl, hsz, hP, hK, hD0⟩ := hv
  have hx := B.exec
  have hb := B.bytes
  have hr := B.returns
  have hts := atoms_spec (ws := wsG yX8_wornKeys cX8_wornKeys 3 (some .int)) B.pre
  have hown : s.vm.findClass RX8 = some m.cls := findClass_of_methodNamed B.named
  have hlocks := B.notSynchronized
  subst hsz
  have hD := hD0.self (sz := s.heap.size)
  generalize hAe : va_A (modelW cyI m0 m1 m2 m3 m4 m5 m6 state history recorded slots isSaved pad padLength opened pos letter first second) s.heap.size = A at hD ⊢
  have hA : ∀ q : Nat, s.heap.size ≤ q → A q := fun q h => by rw [← hAe]; exact Or.inr h
  have hS : va_S A s.heap s.heap [] := va_S.rf
  have kB4 : ∀ (fuel : Nat) (state : Nat → Int32) (y1 : Int32) (y2 : Int32), fX8_wornKeys_b4 fuel state y1 y2 = some res → ∀ (H : Heap) (locs : List Loc), va_P (dC, dI) vwCl (modelW cyI m0 m1 m2 m3 m4 m5 m6 state history recorded slots isSaved pad padLength opened pos letter first second) H → va_D A (modelW cyI m0 m1 m2 m3 m4 m5 m6 state history recorded slots isSaved pad padLength opened pos letter first second) → va_S A s.heap H locs → ∀ ls : Array Slot, lv_has ls 3 [(0, .ref m0), (1, .int y1), (2, .int y2)] → W p l e (headSpec (wsG yX8_wornKeys cX8_wornKeys 3 (some .int)) ({ frames := 2, cells := 0, slots := 0, locals := 43 })).room s m (([.ref m0] : List Value).toArray) below meth c H locs 0 0 (MQ below (cI dC dI res (modelW cyI m0 m1 m2 m3 m4 m5 m6 state history recorded slots isSaved pad padLength opened pos letter first second) A) ([.ref m0] : List Value).toArray s 0 0 A) (F0 m 4 ls []) := by
    intro fuel
    induction fuel with
    | zero => intro state y1 y2 h; rw [fX8_wornKeys_b4] at h; cases h
    | succ fuel ih =>
      intro state y1 y2 h H locs hP hD hS ls hl
      rw [fX8_wornKeys_b4] at h
      refine lv_iload_n hx hb dX8_wornKeys_4 rfl (lv_at hl 2 rfl) ?_
      refine lv_aload_n hx hb dX8_wornKeys_5 rfl (lv_at hl 0 rfl) ?_
      refine va_get (D := (dC, dI)) (ci := 8) (v := .ref m1) (C := RX8) (T := TX8) (N := 12) hx hb hts (fun w h9 => gb_mem (lay_X8 w h9)) hown hK.1 hP 0 rfl rfl 0 (by decide) (hts _ (gb_mem fl_X8_7)) (fun _ h9 => h9) rfl dX8_wornKeys_6 ?_
      refine lv_iconst (v := 1) hx hb dX8_wornKeys_9 (by decide) ?_
      obtain ⟨ni1, h⟩ := ifn h
      refine va_iald hx hb hK.1 hP 1 0 rfl rfl ni1 dX8_wornKeys_10 ?_
      refine lv_icmp_ge (tgt := 48) hx hb dX8_wornKeys_11 (by decide) (fun c2 => ?_) (fun c2 => ?_)
      · have h := (if_pos c2).symm.trans h
        refine lv_iload_n hx hb dX8_wornKeys_48 rfl (lv_at hl 1 rfl) ?_
        obtain rfl := Option.some.inj h
        exact e_i hx hb hr hlocks hP hS dX8_wornKeys_49
      · have h := (if_neg c2).symm.trans h
        refine lv_iload_n hx hb dX8_wornKeys_14 rfl (lv_at hl 1 rfl) ?_
        refine lv_aload_n hx hb dX8_wornKeys_15 rfl (lv_at hl 0 rfl) ?_
        refine lv_iload_n hx hb dX8_wornKeys_16 rfl (lv_at hl 2 rfl) ?_
        refine lv_iconst (v := 1) hx hb dX8_wornKeys_17 (by decide) ?_
        obtain ⟨q3, e4, h⟩ := ob h
        refine fr_ir (M := (modelW cyI m0 m1 m2 m3 m4 m5 m6 state history recorded slots isSaved pad padLength opened pos letter first second)) (va_runV (As := [.int y2, .int 1]) (rest := [.int y1]) ⟨hx, hb, hml, hown, hts⟩ (mX8_keyPart l dC dI cyI cyO m0 m1 m2 m3 m4 m5 m6 state history recorded slots isSaved pad padLength opened pos letter first second y2 1 _ q3 e4) (cwV 2 hts (gV ml_X8_44 im_X8_keyPart se_X8_keyPart in_X8 co_X8_keyPart) rfl rfl rfl (by decide +kernel) ⟨Nat.le_of_ble_eq_true rfl, Nat.le_of_ble_eq_true rfl⟩) (cP_V hK hP hD [0, 1, 2, 3, 4, 5, 6] rfl rfl 0 rfl rfl) rfl rfl hl.1 rfl (lv_room (Nat.le_of_ble_eq_true rfl)) dX8_wornKeys_18 ⟨Nat.zero_le _, Nat.zero_le _⟩) hP hD hS hA [0, 1, 2, 3, 4, 5, 6] rfl (fun H locs hP hS => ?_)
        refine lv_iconst (v := 1) hx hb dX8_wornKeys_21 (by decide) ?_
        refine lv_icmp_ne (tgt := 39) hx hb dX8_wornKeys_22 (by decide) (fun c5 => ?_) (fun c5 => ?_)
        · have h := (if_neg c5).symm.trans h
          refine lv_iconst (v := 0) hx hb dX8_wornKeys_39 (by decide) ?_
          refine lv_ior hx hb dX8_wornKeys_40 ?_
          refine lv_istore_n (lv' := [(1, .int (y1 ||| 0)), (0, .ref m0), (2, .int y2)]) hx hb dX8_wornKeys_41 rfl hl (by decide) rfl (fun ls hl => ?_)
          refine lv_iinc (v := (y2 + 1)) (lv' := [(2, .int (y2 + 1)), (1, .int (y1 ||| 0)), (0, .ref m0)]) hx hb dX8_wornKeys_42 hl (k := 2) rfl rfl (by decide) rfl (fun ls hl => ?_)
          refine lv_goto (tgt := 4) hx hb dX8_wornKeys_45 (by decide) ?_
          exact ih state (y1 ||| 0) (y2 + 1) h _ _ hP hD hS ls (lv_sub hl [2, 1, 0] rfl)
        · have h := (if_pos c5).symm.trans h
          refine lv_aload_n hx hb dX8_wornKeys_25 rfl (lv_at hl 0 rfl) ?_
          refine lv_iload_n hx hb dX8_wornKeys_26 rfl (lv_at hl 2 rfl) ?_
          obtain ⟨q6, e7, h⟩ := ob h
          refine fr_ir (M := (modelW cyI m0 m1 m2 m3 m4 m5 m6 state history recorded slots isSaved pad padLength opened pos letter first second)) (va_runV (As := [.int y2]) (rest := [.int y1]) ⟨hx, hb, hml, hown, hts⟩ (mX8_canClose l dC dI cyI cyO m0 m1 m2 m3 m4 m5 m6 state history recorded slots isSaved pad padLength opened pos letter first second y2 _ q6 e7) (cwV 1 hts (gV ml_X8_108 im_X8_canClose se_X8_canClose in_X8 co_X8_canClose) rfl rfl rfl (by decide +kernel) ⟨Nat.le_of_ble_eq_true rfl, Nat.le_of_ble_eq_true rfl⟩) (cP_V hK hP hD [0, 1, 2, 3, 4, 5, 6] rfl rfl 0 rfl rfl) rfl rfl hl.1 rfl (lv_room (Nat.le_of_ble_eq_true rfl)) dX8_wornKeys_27 ⟨Nat.zero_le _, Nat.zero_le _⟩) hP hD hS hA [0, 1, 2, 3, 4, 5, 6] rfl (fun H locs hP hS => ?_)
          refine lv_if_ne (tgt := 39) hx hb dX8_wornKeys_30 (by decide) (fun c8 => ?_) (fun c8 => ?_)
          · have h := (if_neg c8).symm.trans h
            refine lv_iconst (v := 0) hx hb dX8_wornKeys_39 (by decide) ?_
            refine lv_ior hx hb dX8_wornKeys_40 ?_
            refine lv_istore_n (lv' := [(1, .int (y1 ||| 0)), (0, .ref m0), (2, .int y2)]) hx hb dX8_wornKeys_41 rfl hl (by decide) rfl (fun ls hl => ?_)
            refine lv_iinc (v := (y2 + 1)) (lv' := [(2, .int (y2 + 1)), (1, .int (y1 ||| 0)), (0, .ref m0)]) hx hb dX8_wornKeys_42 hl (k := 2) rfl rfl (by decide) rfl (fun ls hl => ?_)
            refine lv_goto (tgt := 4) hx hb dX8_wornKeys_45 (by decide) ?_
            exact ih state (y1 ||| 0) (y2 + 1) h _ _ hP hD hS ls (lv_sub hl [2, 1, 0] rfl)
          · have h := (if_pos c8).symm.trans h
            refine lv_iconst (v := 1) hx hb dX8_wornKeys_33 (by decide) ?_
            refine lv_iload_n hx hb dX8_wornKeys_34 rfl (lv_at hl 2 rfl) ?_
            refine lv_ishl hx hb dX8_wornKeys_35 ?_
            refine lv_goto (tgt := 40) hx hb dX8_wornKeys_36 (by decide) ?_
            refine lv_ior hx hb dX8_wornKeys_40 ?_
            refine lv_istore_n (lv' := [(1, .int (y1 ||| (1 <<< (y2 &&& 31)))), (0, .ref m0), (2, .int y2)]) hx hb dX8_wornKeys_41 rfl hl (by decide) rfl (fun ls hl => ?_)
            refine lv_iinc (v := (y2 + 1)) (lv' := [(2, .int (y2 + 1)), (1, .int (y1 ||| (1 <<< (y2 &&& 31)))), (0, .ref m0)]) hx hb dX8_wornKeys_42 hl (k := 2) rfl rfl (by decide) rfl (fun ls hl => ?_)
            refine lv_goto (tgt := 4) hx hb dX8_wornKeys_45 (by decide) ?_
            exact ih state (y1 ||| (1 <<< (y2 &&& 31))) (y2 + 1) h _ _ hP hD hS ls (lv_sub hl [2, 1, 0] rfl)
  have hl := lv_entry ([.ref m0]) (n := 3) (Nat.le_of_ble_eq_true rfl)
  rw [lg_entry_eq]
  generalize (lg_sl ([.ref m0]) ++ List.replicate (3 - (lg_sl ([.ref m0])).length) Slot.unset).toArray = ls at hl ⊢
  have hl : lv_has ls 3 [(0, .ref m0)] := hl
  unfold fX8_wornKeys at h
  refine lv_iconst (v := 0) hx hb dX8_wornKeys_0 (by decide) ?_
  refine lv_istore_n (lv' := [(1, .int 0), (0, .ref m0)]) hx hb dX8_wornKeys_1 rfl hl (by decide) rfl (fun ls hl => ?_)
  refine lv_iconst (v := 0) hx hb dX8_wornKeys_2 (by decide) ?_
  refine lv_istore_n (lv' := [(2, .int 0), (1, .int 0), (0, .ref m0)]) hx hb dX8_wornKeys_3 rfl hl (by decide) rfl (fun ls hl => ?_)
  exact kB4 6000 state 0 0 h _ _ hP hD hS ls (lv_sub hl [2, 1, 0] rfl)

noncomputable def fX8_count (state : Nat → Int32) (recorded : Int32) (padLength : Int32) (opened : Nat → Int32) (x1 : Int32) : Option (Int32 × (Nat → Int32)) :=
  (if x1 = 0 then (if (1 : Int32) < 0 ∨ 844 ≤ (1 : Int32).toNatClampNeg then none else (some ((state (1 : Int32).toNatClampNeg), opened))) else (if x1 = 1 then ((fX8_liveKeys state).bind fun q4 => (some (q4, opened))) else (if x1 = 2 then (if (2 : Int32) < 0 ∨ 844 ≤ (2 : Int32).toNatClampNeg then none else (some ((state (2 : Int32).toNatClampNeg), opened))) else (if x1 = 3 then ((fX8_liveBoxes state).bind fun q9 => (some (q9, opened))) else (if x1 = 4 then (if (3 : Int32) < 0 ∨ 844 ≤ (3 : Int32).toNatClampNeg then none else (some ((state (3 : Int32).toNatClampNeg), opened))) else (if x1 = 5 then ((fX8_inHouse state).bind fun q14 => (some (q14, opened))) else (if x1 = 6 then ((fX8_outside state).bind fun q17 => (some (q17, opened))) else (if x1 = 7 then (if (0 : Int32) < 0 ∨ 844 ≤ (0 : Int32).toNatClampNeg then none else (some ((state (0 : Int32).toNatClampNeg), opened))) else (if x1 = 8 then ((fX8_wornKeys state).bind fun q22 => (some (q22, opened))) else (if x1 = 9 then ((fX8_openWith state opened 0).bind fun q25 => (some (q25.1, q25.2))) else (if x1 = 10 then (some (padLength, opened)) else (if x1 = 11 then (some (recorded, opened)) else (some ((-2), opened))))))))))))))
set_option maxHeartbeats 1000000 in
set_option maxRecDepth 100000 in
theorem mX8_count (l : Launch) (dC : Nat → ClassId) (dI : Nat → Nat → Nat) (cyI cyO : ClassId) (m0 m1 m2 m3 m4 m5 m6 : Nat) (state : Nat → Int32) (history : Nat → Int32) (recorded : Int32) (slots : Nat → Int32) (isSaved : Nat → Int32) (pad : Nat → Int32) (padLength : Int32) (opened : Nat → Int32) (pos : Int32) (letter : Int32) (first : Int32) (second : Int32) (x1 : Int32) (sz : Nat) (res : Int32 × (Nat → Int32)) (h : fX8_count state recorded padLength opened x1 = some res) : Met l yX8_count (wsG yX8_count cX8_count 2 (some .int)) ({ frames := 6, cells := 0, slots := 0, locals := 138 }) (cP dC dI cyI cyO sz [.ref m0, .int x1] (modelW cyI m0 m1 m2 m3 m4 m5 m6 state history recorded slots isSaved pad padLength opened pos letter first second)) (cI dC dI res.1 (modelW cyI m0 m1 m2 m3 m4 m5 m6 state history recorded slots isSaved pad padLength res.2 pos letter first second) (va_A (modelW cyI m0 m1 m2 m3 m4 m5 m6 state history recorded slots isSaved pad padLength opened pos letter first second) sz)) 0 0 (va_A (modelW cyI m0 m1 m2 m3 m4 m5 m6 state history recorded slots isSaved pad padLength opened pos letter first second) sz) := by
  refine Met.ofW (cc := cX8_count) (maxL := 2) (ret := (some .int)) (by decide) rfl ?_
  intro p e s m args below meth c s₁ B hml hv
  obtain ⟨rfl, hsz, hP, hK, hD0⟩ := hv
  have hx := B.exec
  have hb := B.bytes
  have hr := B.returns
  have hts := atoms_spec (ws := wsG yX8_count cX8_count 2 (some .int)) B.pre
  have hown : s.vm.findClass RX8 = some m.cls := findClass_of_methodNamed B.named
  have hlocks := B.notSynchronized
  subst hsz
  have hD := hD0.self (sz := s.heap.size)
  generalize hAe : va_A (modelW cyI m0 m1 m2 m3 m4 m5 m6 state history recorded slots isSaved pad padLength opened pos letter first second) s.heap.size = A at hD ⊢
  have hA : ∀ q : Nat, s.heap.size ≤ q → A q := fun q h => by rw [← hAe]; exact Or.inr h
  have hS : va_S A s.heap s.heap [] := va_S.rf
  have hl := lv_entry ([.ref m0, .int x1]) (n := 2) (Nat.le_of_ble_eq_true rfl)
  rw [lg_entry_eq]
  generalize (lg_sl ([.ref m0, .int x1]) ++ List.replicate (2 - (lg_sl ([.ref m0, .int x1])).length) Slot.unset).toArray = ls at hl ⊢
  have hl : lv_has ls 2 [(0, .ref m0), (1, .int x1)] := hl
  unfold fX8_count at h
  refine lv_iload_n hx hb dX8_count_0 rfl (lv_at hl 1 rfl) ?_
  by_cases c1 : x1 = 0
  · have h := (if_pos c1).symm.trans h
    refine lv_tableIn (off := 63) (tgt := 64) hx hb dX8_count_1 (by rw [c1]; decide) (by rw [c1]; decide) (by rw [c1]; first | done | rfl) (by decide) ?_
    refine lv_aload_n hx hb dX8_count_64 rfl (lv_at hl 0 rfl) ?_
    refine va_get (D := (dC, dI)) (ci := 8) (v := .ref m1) (C := RX8) (T := TX8) (N := 12) hx hb hts (fun w h9 => gb_mem (lay_X8 w h9)) hown hK.1 hP 0 rfl rfl 0 (by decide) (hts _ (gb_mem fl_X8_7)) (fun _ h9 => h9) rfl dX8_count_65 ?_
    refine lv_iconst (v := 1) hx hb dX8_count_68 (by decide) ?_
    obtain ⟨ni2, h⟩ := ifn h
    refine va_iald hx hb hK.1 hP 1 0 rfl rfl ni2 dX8_count_69 ?_
    obtain rfl := Option.some.inj h
    exact e_i hx hb hr hlocks hP hS dX8_count_70
  · have h := (if_neg c1).symm.trans h
    by_cases c3 : x1 = 1
    · have h := (if_pos c3).symm.trans h
      refine lv_tableIn (off := 70) (tgt := 71) hx hb dX8_count_1 (by rw [c3]; decide) (by rw [c3]; decide) (by rw [c3]; first | done | rfl) (by decide) ?_
      refine lv_aload_n hx hb dX8_count_71 rfl (lv_at hl 0 rfl) ?_
      obtain ⟨q4, e5, h⟩ := ob h
      refine fr_ir (M := (modelW cyI m0 m1 m2 m3 m4 m5 m6 state history recorded slots isSaved pad padLength opened pos letter first second)) (va_runV (As := []) (rest := []) ⟨hx, hb, hml, hown, hts⟩ (mX8_liveKeys l dC dI cyI cyO m0 m1 m2 m3 m4 m5 m6 state history recorded slots isSaved pad padLength opened pos letter first second _ q4 e5) (cwV 0 hts (gV ml_X8_189 im_X8_liveKeys se_X8_liveKeys in_X8 co_X8_liveKeys) rfl rfl rfl (by decide +kernel) ⟨Nat.le_of_ble_eq_true rfl, Nat.le_of_ble_eq_true rfl⟩) (cP_V hK hP hD [0, 1, 2, 3, 4, 5, 6] rfl rfl 0 rfl rfl) rfl rfl hl.1 rfl (lv_room (Nat.le_of_ble_eq_true rfl)) dX8_count_72 ⟨Nat.zero_le _, Nat.zero_le _⟩) hP hD hS hA [0, 1, 2, 3, 4, 5, 6] rfl (fun H locs hP hS => ?_)
      obtain rfl := Option.some.inj h
      exact e_i hx hb hr hlocks hP hS dX8_count_75
    · have h := (if_neg c3).symm.trans h
      by_cases c6 : x1 = 2
      · have h := (if_pos c6).symm.trans h
        refine lv_tableIn (off := 75) (tgt := 76) hx hb dX8_count_1 (by rw [c6]; decide) (by rw [c6]; decide) (by rw [c6]; first | done | rfl) (by decide) ?_
        refine lv_aload_n hx hb dX8_count_76 rfl (lv_at hl 0 rfl) ?_
        refine va_get (D := (dC, dI)) (ci := 8) (v := .ref m1) (C := RX8) (T := TX8) (N := 12) hx hb hts (fun w h9 => gb_mem (lay_X8 w h9)) hown hK.1 hP 0 rfl rfl 0 (by decide) (hts _ (gb_mem fl_X8_7)) (fun _ h9 => h9) rfl dX8_count_77 ?_
        refine lv_iconst (v := 2) hx hb dX8_count_80 (by decide) ?_
        obtain ⟨ni7, h⟩ := ifn h
        refine va_iald hx hb hK.1 hP 1 0 rfl rfl ni7 dX8_count_81 ?_
        obtain rfl := Option.some.inj h
        exact e_i hx hb hr hlocks hP hS dX8_count_82
      · have h := (if_neg c6).symm.trans h
        by_cases c8 : x1 = 3
        · have h := (if_pos c8).symm.trans h
          refine lv_tableIn (off := 82) (tgt := 83) hx hb dX8_count_1 (by rw [c8]; decide) (by rw [c8]; decide) (by rw [c8]; first | done | rfl) (by decide) ?_
          refine lv_aload_n hx hb dX8_count_83 rfl (lv_at hl 0 rfl) ?_
          obtain ⟨q9, e10, h⟩ := ob h
          refine fr_ir (M := (modelW cyI m0 m1 m2 m3 m4 m5 m6 state history recorded slots isSaved pad padLength opened pos letter first second)) (va_runV (As := []) (rest := []) ⟨hx, hb, hml, hown, hts⟩ (mX8_liveBoxes l dC dI cyI cyO m0 m1 m2 m3 m4 m5 m6 state history recorded slots isSaved pad padLength opened pos letter first second _ q9 e10) (cwV 0 hts (gV ml_X8_192 im_X8_liveBoxes se_X8_liveBoxes in_X8 co_X8_liveBoxes) rfl rfl rfl (by decide +kernel) ⟨Nat.le_of_ble_eq_true rfl, Nat.le_of_ble_eq_true rfl⟩) (cP_V hK hP hD [0, 1, 2, 3, 4, 5, 6] rfl rfl 0 rfl rfl) rfl rfl hl.1 rfl (lv_room (Nat.le_of_ble_eq_true rfl)) dX8_count_84 ⟨Nat.zero_le _, Nat.zero_le _⟩) hP hD hS hA [0, 1, 2, 3, 4, 5, 6] rfl (fun H locs hP hS => ?_)
          obtain rfl := Option.some.inj h
          exact e_i hx hb hr hlocks hP hS dX8_count_87
        · have h := (if_neg c8).symm.trans h
          by_cases c11 : x1 = 4
          · have h := (if_pos c11).symm.trans h
            refine lv_tableIn (off := 87) (tgt := 88) hx hb dX8_count_1 (by rw [c11]; decide) (by rw [c11]; decide) (by rw [c11]; first | done | rfl) (by decide) ?_
            refine lv_aload_n hx hb dX8_count_88 rfl (lv_at hl 0 rfl) ?_
            refine va_get (D := (dC, dI)) (ci := 8) (v := .ref m1) (C := RX8) (T := TX8) (N := 12) hx hb hts (fun w h9 => gb_mem (lay_X8 w h9)) hown hK.1 hP 0 rfl rfl 0 (by decide) (hts _ (gb_mem fl_X8_7)) (fun _ h9 => h9) rfl dX8_count_89 ?_
            refine lv_iconst (v := 3) hx hb dX8_count_92 (by decide) ?_
            obtain ⟨ni12, h⟩ := ifn h
            refine va_iald hx hb hK.1 hP 1 0 rfl rfl ni12 dX8_count_93 ?_
            obtain rfl := Option.some.inj h
            exact e_i hx hb hr hlocks hP hS dX8_count_94
          · have h := (if_neg c11).symm.trans h
            by_cases c13 : x1 = 5
            · have h := (if_pos c13).symm.trans h
              refine lv_tableIn (off := 94) (tgt := 95) hx hb dX8_count_1 (by rw [c13]; decide) (by rw [c13]; decide) (by rw [c13]; first | done | rfl) (by decide) ?_
              refine lv_aload_n hx hb dX8_count_95 rfl (lv_at hl 0 rfl) ?_
              obtain ⟨q14, e15, h⟩ := ob h
              refine fr_ir (M := (modelW cyI m0 m1 m2 m3 m4 m5 m6 state history recorded slots isSaved pad padLength opened pos letter first second)) (va_runV (As := []) (rest := []) ⟨hx, hb, hml, hown, hts⟩ (mX8_inHouse l dC dI cyI cyO m0 m1 m2 m3 m4 m5 m6 state history recorded slots isSaved pad padLength opened pos letter first second _ q14 e15) (cwV 0 hts (gV ml_X8_195 im_X8_inHouse se_X8_inHouse in_X8 co_X8_inHouse) rfl rfl rfl (by decide +kernel) ⟨Nat.le_of_ble_eq_true rfl, Nat.le_of_ble_eq_true rfl⟩) (cP_V hK hP hD [0, 1, 2, 3, 4, 5, 6] rfl rfl 0 rfl rfl) rfl rfl hl.1 rfl (lv_room (Nat.le_of_ble_eq_true rfl)) dX8_count_96 ⟨Nat.zero_le _, Nat.zero_le _⟩) hP hD hS hA [0, 1, 2, 3, 4, 5, 6] rfl (fun H locs hP hS => ?_)
              obtain rfl := Option.some.inj h
              exact e_i hx hb hr hlocks hP hS dX8_count_99
            · have h := (if_neg c13).symm.trans h
              by_cases c16 : x1 = 6
              · have h := (if_pos c16).symm.trans h
                refine lv_tableIn (off := 99) (tgt := 100) hx hb dX8_count_1 (by rw [c16]; decide) (by rw [c16]; decide) (by rw [c16]; first | done | rfl) (by decide) ?_
                refine lv_aload_n hx hb dX8_count_100 rfl (lv_at hl 0 rfl) ?_
                obtain ⟨q17, e18, h⟩ := ob h
                refine fr_ir (M := (modelW cyI m0 m1 m2 m3 m4 m5 m6 state history recorded slots isSaved pad padLength opened pos letter first second)) (va_runV (As := []) (rest := []) ⟨hx, hb, hml, hown, hts⟩ (mX8_outside l dC dI cyI cyO m0 m1 m2 m3 m4 m5 m6 state history recorded slots isSaved pad padLength opened pos letter first second _ q17 e18) (cwV 0 hts (gV ml_X8_198 im_X8_outside se_X8_outside in_X8 co_X8_outside) rfl rfl rfl (by decide +kernel) ⟨Nat.le_of_ble_eq_true rfl, Nat.le_of_ble_eq_true rfl⟩) (cP_V hK hP hD [0, 1, 2, 3, 4, 5, 6] rfl rfl 0 rfl rfl) rfl rfl hl.1 rfl (lv_room (Nat.le_of_ble_eq_true rfl)) dX8_count_101 ⟨Nat.zero_le _, Nat.zero_le _⟩) hP hD hS hA [0, 1, 2, 3, 4, 5, 6] rfl (fun H locs hP hS => ?_)
                obtain rfl := Option.some.inj h
                exact e_i hx hb hr hlocks hP hS dX8_count_104
              · have h := (if_neg c16).symm.trans h
                by_cases c19 : x1 = 7
                · have h := (if_pos c19).symm.trans h
                  refine lv_tableIn (off := 104) (tgt := 105) hx hb dX8_count_1 (by rw [c19]; decide) (by rw [c19]; decide) (by rw [c19]; first | done | rfl) (by decide) ?_
                  refine lv_aload_n hx hb dX8_count_105 rfl (lv_at hl 0 rfl) ?_
                  refine va_get (D := (dC, dI)) (ci := 8) (v := .ref m1) (C := RX8) (T := TX8) (N := 12) hx hb hts (fun w h9 => gb_mem (lay_X8 w h9)) hown hK.1 hP 0 rfl rfl 0 (by decide) (hts _ (gb_mem fl_X8_7)) (fun _ h9 => h9) rfl dX8_count_106 ?_
                  refine lv_iconst (v := 0) hx hb dX8_count_109 (by decide) ?_
                  obtain ⟨ni20, h⟩ := ifn h
                  refine va_iald hx hb hK.1 hP 1 0 rfl rfl ni20 dX8_count_110 ?_
                  obtain rfl := Option.some.inj h
                  exact e_i hx hb hr hlocks hP hS dX8_count_111
                · have h := (if_neg c19).symm.trans h
                  by_cases c21 : x1 = 8
                  · have h := (if_pos c21).symm.trans h
                    refine lv_tableIn (off := 111) (tgt := 112) hx hb dX8_count_1 (by rw [c21]; decide) (by rw [c21]; decide) (by rw [c21]; first | done | rfl) (by decide) ?_
                    refine lv_aload_n hx hb dX8_count_112 rfl (lv_at hl 0 rfl) ?_
                    obtain ⟨q22, e23, h⟩ := ob h
                    refine fr_ir (M := (modelW cyI m0 m1 m2 m3 m4 m5 m6 state history recorded slots isSaved pad padLength opened pos letter first second)) (va_runV (As := []) (rest := []) ⟨hx, hb, hml, hown, hts⟩ (mX8_wornKeys l dC dI cyI cyO m0 m1 m2 m3 m4 m5 m6 state history recorded slots isSaved pad padLength opened pos letter first second _ q22 e23) (cwV 0 hts (gV ml_X8_201 im_X8_wornKeys se_X8_wornKeys in_X8 co_X8_wornKeys) rfl rfl rfl (by decide +kernel) ⟨Nat.le_of_ble_eq_true rfl, Nat.le_of_ble_eq_true rfl⟩) (cP_V hK hP hD [0, 1, 2, 3, 4, 5, 6] rfl rfl 0 rfl rfl) rfl rfl hl.1 rfl (lv_room (Nat.le_of_ble_eq_true rfl)) dX8_count_113 ⟨Nat.zero_le _, Nat.zero_le _⟩) hP hD hS hA [0, 1, 2, 3, 4, 5, 6] rfl (fun H locs hP hS => ?_)
                    obtain rfl := Option.some.inj h
                    exact e_i hx hb hr hlocks hP hS dX8_count_116
                  · have h := (if_neg c21).symm.trans h
                    by_cases c24 : x1 = 9
                    · have h := (if_pos c24).symm.trans h
                      refine lv_tableIn (off := 116) (tgt := 117) hx hb dX8_count_1 (by rw [c24]; decide) (by rw [c24]; decide) (by rw [c24]; first | done | rfl) (by decide) ?_
                      refine lv_aload_n hx hb dX8_count_117 rfl (lv_at hl 0 rfl) ?_
                      refine lv_iconst (v := 0) hx hb dX8_count_118 (by decide) ?_
                      obtain ⟨q25, e26, h⟩ := ob h
                      refine fr_i (M := (modelW cyI m0 m1 m2 m3 m4 m5 m6 state history recorded slots isSaved pad padLength opened pos letter first second)) (M' := (modelW cyI m0 m1 m2 m3 m4 m5 m6 state history recorded slots isSaved pad padLength q25.2 pos letter first second)) (L' := (modelW cyI m0 m1 m2 m3 m4 m5 m6 state history recorded slots isSaved pad padLength q25.2 pos letter first second)) (va_runV (As := [.int 0]) (rest := []) ⟨hx, hb, hml, hown, hts⟩ (mX8_openWith l dC dI cyI cyO m0 m1 m2 m3 m4 m5 m6 state history recorded slots isSaved pad padLength opened pos letter first second 0 _ q25 e26) (cwV 1 hts (gV ml_X8_186 im_X8_openWith se_X8_openWith in_X8 co_X8_openWith) rfl rfl rfl (by decide +kernel) ⟨Nat.le_of_ble_eq_true rfl, Nat.le_of_ble_eq_true rfl⟩) (cP_V hK hP hD [0, 1, 2, 3, 4, 5, 6] rfl rfl 0 rfl rfl) rfl rfl hl.1 rfl (lv_room (Nat.le_of_ble_eq_true rfl)) dX8_count_119 ⟨Nat.zero_le _, Nat.zero_le _⟩) hP hD hS hA [0, 1, 2, 3, 4, 5, 6] rfl [(true, 0), (true, 1), (true, 2), (true, 3), (true, 4), (true, 5), (true, 6)] rfl rfl rfl (fun H locs hP hD hS => ?_)
                      obtain rfl := Option.some.inj h
                      exact e_i hx hb hr hlocks hP hS dX8_count_122
                    · have h := (if_neg c24).symm.trans h
                      by_cases c27 : x1 = 10
                      · have h := (if_pos c27).symm.trans h
                        refine lv_tableIn (off := 122) (tgt := 123) hx hb dX8_count_1 (by rw [c27]; decide) (by rw [c27]; decide) (by rw [c27]; first | done | rfl) (by decide) ?_
                        refine lv_aload_n hx hb dX8_count_123 rfl (lv_at hl 0 rfl) ?_
                        refine va_get (D := (dC, dI)) (ci := 8) (v := .int padLength) (C := RX8) (T := TX8) (N := 12) hx hb hts (fun w h9 => gb_mem (lay_X8 w h9)) hown hK.1 hP 0 rfl rfl 6 (by decide) (hts _ (gb_mem fl_X8_204)) (fun _ h9 => h9) rfl dX8_count_124 ?_
                        obtain rfl := Option.some.inj h
                        exact e_i hx hb hr hlocks hP hS dX8_count_127
                      · have h := (if_neg c27).symm.trans h
                        by_cases c28 : x1 = 11
                        · have h := (if_pos c28).symm.trans h
                          refine lv_tableIn (off := 127) (tgt := 128) hx hb dX8_count_1 (by rw [c28]; decide) (by rw [c28]; decide) (by rw [c28]; first | done | rfl) (by decide) ?_
                          refine lv_aload_n hx hb dX8_count_128 rfl (lv_at hl 0 rfl) ?_
                          refine va_get (D := (dC, dI)) (ci := 8) (v := .int recorded) (C := RX8) (T := TX8) (N := 12) hx hb hts (fun w h9 => gb_mem (lay_X8 w h9)) hown hK.1 hP 0 rfl rfl 2 (by decide) (hts _ (gb_mem fl_X8_28)) (fun _ h9 => h9) rfl dX8_count_129 ?_
                          obtain rfl := Option.some.inj h
                          exact e_i hx hb hr hlocks hP hS dX8_count_132
                        · have h := (if_neg c28).symm.trans h
                          refine lv_tableOut (tgt := 133) hx hb dX8_count_1 (by have := lv_neT (a := 0) c1 rfl; have := lv_neT (a := 1) c3 rfl; have := lv_neT (a := 2) c6 rfl; have := lv_neT (a := 3) c8 rfl; have := lv_neT (a := 4) c11 rfl; have := lv_neT (a := 5) c13 rfl; have := lv_neT (a := 6) c16 rfl; have := lv_neT (a := 7) c19 rfl; have := lv_neT (a := 8) c21 rfl; have := lv_neT (a := 9) c24 rfl; have := lv_neT (a := 10) c27 rfl; have := lv_neT (a := 11) c28 rfl; omega) (by decide) ?_
                          refine lv_bipush (v := (-2)) hx hb dX8_count_133 (by decide) ?_
                          obtain rfl := Option.some.inj h
                          exact e_i hx hb hr hlocks hP hS dX8_count_135

noncomputable def fX8_canOpen (state : Nat → Int32) (opened : Nat → Int32) (x1 : Int32) (x2 : Int32) : Option (Int32 × (Nat → Int32)) :=
  ((fX8_isBox state x1).bind fun q1 => (if q1 = 0 then ((fX8_isBox state x1).bind fun q4 => (if q4 = 0 then (some ((-1), opened)) else (some ((-2), opened)))) else (if (fX8_within x2 0 7) = 0 then ((fX8_isBox state x1).bind fun q10 => (if q10 = 0 then (some ((-1), opened)) else (some ((-2), opened)))) else ((fX8_openWith state opened x2).bind fun q8 => (some (((q8.1 >>> (x1 &&& 31)) &&& 1), q8.2))))))
set_option maxHeartbeats 1000000 in
set_option maxRecDepth 100000 in
theorem mX8_canOpen (l : Launch) (dC : Nat → ClassId) (dI : Nat → Nat → Nat) (cyI cyO : ClassId) (m0 m1 m2 m3 m4 m5 m6 : Nat) (state : Nat → Int32) (history : Nat → Int32) (recorded : Int32) (slots : Nat → Int32) (isSaved : Nat → Int32) (pad : Nat → Int32) (padLength : Int32) (opened : Nat → Int32) (pos : Int32) (letter : Int32) (first : Int32) (second : Int32) (x1 : Int32) (x2 : Int32) (sz : Nat) (res : Int32 × (Nat → Int32)) (h : fX8_canOpen state opened x1 x2 = some res) : Met l yX8_canOpen (wsG yX8_canOpen cX8_canOpen 3 (some .int)) ({ frames := 6, cells := 0, slots := 0, locals := 138 }) (cP dC dI cyI cyO sz [.ref m0, .int x1, .int x2] (modelW cyI m0 m1 m2 m3 m4 m5 m6 state history recorded slots isSaved pad padLength opened pos letter first second)) (cI dC dI res.1 (modelW cyI m0 m1 m2 m3 m4 m5 m6 state history recorded slots isSaved pad padLength res.2 pos letter first second) (va_A (modelW cyI m0 m1 m2 m3 m4 m5 m6 state history recorded slots isSaved pad padLength opened pos letter first second) sz)) 0 0 (va_A (modelW cyI m0 m1 m2 m3 m4 m5 m6 state history recorded slots isSaved pad padLength opened pos letter first second) sz) := by
  refine Met.ofW (cc := cX8_canOpen) (maxL := 3) (ret := (some .int)) (by decide) rfl ?_
  intro p e s m args below meth c s₁ B hml hv
  obtain ⟨rfl, hsz, hP, hK, hD0⟩ := hv
  have hx := B.exec
  have hb := B.bytes
  have hr := B.returns
  have hts := atoms_spec (ws := wsG yX8_canOpen cX8_canOpen 3 (some .int)) B.pre
  have hown : s.vm.findClass RX8 = some m.cls := findClass_of_methodNamed B.named
  have hlocks := B.notSynchronized
  subst hsz
  have hD := hD0.self (sz := s.heap.size)
  generalize hAe : va_A (modelW cyI m0 m1 m2 m3 m4 m5 m6 state history recorded slots isSaved pad padLength opened pos letter first second) s.heap.size = A at hD ⊢
  have hA : ∀ q : Nat, s.heap.size ≤ q → A q := fun q h => by rw [← hAe]; exact Or.inr h
  have hS : va_S A s.heap s.heap [] := va_S.rf
  have hl := lv_entry ([.ref m0, .int x1, .int x2]) (n := 3) (Nat.le_of_ble_eq_true rfl)
  rw [lg_entry_eq]
  generalize (lg_sl ([.ref m0, .int x1, .int x2]) ++ List.replicate (3 - (lg_sl ([.ref m0, .int x1, .int x2])).length) Slot.unset).toArray = ls at hl ⊢
  have hl : lv_has ls 3 [(0, .ref m0), (1, .int x1), (2, .int x2)] := hl
  unfold fX8_canOpen at h
  refine lv_aload_n hx hb dX8_canOpen_0 rfl (lv_at hl 0 rfl) ?_
  refine lv_iload_n hx hb dX8_canOpen_1 rfl (lv_at hl 1 rfl) ?_
  obtain ⟨q1, e2, h⟩ := ob h
  refine fr_ir (M := (modelW cyI m0 m1 m2 m3 m4 m5 m6 state history recorded slots isSaved pad padLength opened pos letter first second)) (va_runV (As := [.int x1]) (rest := []) ⟨hx, hb, hml, hown, hts⟩ (mX8_isBox l dC dI cyI cyO m0 m1 m2 m3 m4 m5 m6 state history recorded slots isSaved pad padLength opened pos letter first second x1 _ q1 e2) (cwV 1 hts (gV ml_X8_48 im_X8_isBox se_X8_isBox in_X8 co_X8_isBox) rfl rfl rfl (by decide +kernel) ⟨Nat.le_of_ble_eq_true rfl, Nat.le_of_ble_eq_true rfl⟩) (cP_V hK hP hD [0, 1, 2, 3, 4, 5, 6] rfl rfl 0 rfl rfl) rfl rfl hl.1 rfl (lv_room (Nat.le_of_ble_eq_true rfl)) dX8_canOpen_2 ⟨Nat.zero_le _, Nat.zero_le _⟩) hP hD hS hA [0, 1, 2, 3, 4, 5, 6] rfl (fun H locs hP hS => ?_)
  refine lv_if_eq (tgt := 18) hx hb dX8_canOpen_5 (by decide) (fun c3 => ?_) (fun c3 => ?_)
  · have h := (if_pos c3).symm.trans h
    refine lv_aload_n hx hb dX8_canOpen_18 rfl (lv_at hl 0 rfl) ?_
    refine lv_iload_n hx hb dX8_canOpen_19 rfl (lv_at hl 1 rfl) ?_
    obtain ⟨q4, e5, h⟩ := ob h
    refine fr_ir (M := (modelW cyI m0 m1 m2 m3 m4 m5 m6 state history recorded slots isSaved pad padLength opened pos letter first second)) (va_runV (As := [.int x1]) (rest := []) ⟨hx, hb, hml, hown, hts⟩ (mX8_isBox l dC dI cyI cyO m0 m1 m2 m3 m4 m5 m6 state history recorded slots isSaved pad padLength opened pos letter first second x1 _ q4 e5) (cwV 1 hts (gV ml_X8_48 im_X8_isBox se_X8_isBox in_X8 co_X8_isBox) rfl rfl rfl (by decide +kernel) ⟨Nat.le_of_ble_eq_true rfl, Nat.le_of_ble_eq_true rfl⟩) (cP_V hK hP hD [0, 1, 2, 3, 4, 5, 6] rfl rfl 0 rfl rfl) rfl rfl hl.1 rfl (lv_room (Nat.le_of_ble_eq_true rfl)) dX8_canOpen_20 ⟨Nat.zero_le _, Nat.zero_le _⟩) hP hD hS hA [0, 1, 2, 3, 4, 5, 6] rfl (fun H locs hP hS => ?_)
    refine lv_if_eq (tgt := 31) hx hb dX8_canOpen_23 (by decide) (fun c6 => ?_) (fun c6 => ?_)
    · have h := (if_pos c6).symm.trans h
      refine lv_iconst (v := (-1)) hx hb dX8_canOpen_31 (by decide) ?_
      obtain rfl := Option.some.inj h
      exact e_i hx hb hr hlocks hP hS dX8_canOpen_32
    · have h := (if_neg c6).symm.trans h
      refine lv_bipush (v := (-2)) hx hb dX8_canOpen_26 (by decide) ?_
      refine lv_goto (tgt := 32) hx hb dX8_canOpen_28 (by decide) ?_
      obtain rfl := Option.some.inj h
      exact e_i hx hb hr hlocks hP hS dX8_canOpen_32
  · have h := (if_neg c3).symm.trans h
    refine lv_iload_n hx hb dX8_canOpen_8 rfl (lv_at hl 2 rfl) ?_
    refine lv_iconst (v := 0) hx hb dX8_canOpen_9 (by decide) ?_
    refine lv_bipush (v := 7) hx hb dX8_canOpen_10 (by decide) ?_
    refine fr_ir (M := ([] : va_W)) (va_runS (As := [.int x2, .int 0, .int 7]) (rest := []) ⟨hx, hb, hml, hown, hts⟩ (mX8_within l dC dI cyI cyO x2 0 7 _ (fX8_within x2 0 7) rfl) (va_cwS 3 hts (gS ml_X8_36 st_X8_within in_X8 co_X8_within) rfl rfl rfl (by decide +kernel) ⟨Nat.le_of_ble_eq_true rfl, Nat.le_of_ble_eq_true rfl⟩) (cP_S hK hP hD [] rfl rfl) rfl rfl hl.1 rfl (lv_room (Nat.le_of_ble_eq_true rfl)) dX8_canOpen_12 ⟨Nat.zero_le _, Nat.zero_le _⟩) hP hD hS hA [] rfl (fun H locs hP hS => ?_)
    refine lv_if_ne (tgt := 33) hx hb dX8_canOpen_15 (by decide) (fun c7 => ?_) (fun c7 => ?_)
    · have h := (if_neg c7).symm.trans h
      refine lv_aload_n hx hb dX8_canOpen_33 rfl (lv_at hl 0 rfl) ?_
      refine lv_iload_n hx hb dX8_canOpen_34 rfl (lv_at hl 2 rfl) ?_
      obtain ⟨q8, e9, h⟩ := ob h
      refine fr_i (M := (modelW cyI m0 m1 m2 m3 m4 m5 m6 state history recorded slots isSaved pad padLength opened pos letter first second)) (M' := (modelW cyI m0 m1 m2 m3 m4 m5 m6 state history recorded slots isSaved pad padLength q8.2 pos letter first second)) (L' := (modelW cyI m0 m1 m2 m3 m4 m5 m6 state history recorded slots isSaved pad padLength q8.2 pos letter first second)) (va_runV (As := [.int x2]) (rest := []) ⟨hx, hb, hml, hown, hts⟩ (mX8_openWith l dC dI cyI cyO m0 m1 m2 m3 m4 m5 m6 state history recorded slots isSaved pad padLength opened pos letter first second x2 _ q8 e9) (cwV 1 hts (gV ml_X8_186 im_X8_openWith se_X8_openWith in_X8 co_X8_openWith) rfl rfl rfl (by decide +kernel) ⟨Nat.le_of_ble_eq_true rfl, Nat.le_of_ble_eq_true rfl⟩) (cP_V hK hP hD [0, 1, 2, 3, 4, 5, 6] rfl rfl 0 rfl rfl) rfl rfl hl.1 rfl (lv_room (Nat.le_of_ble_eq_true rfl)) dX8_canOpen_35 ⟨Nat.zero_le _, Nat.zero_le _⟩) hP hD hS hA [0, 1, 2, 3, 4, 5, 6] rfl [(true, 0), (true, 1), (true, 2), (true, 3), (true, 4), (true, 5), (true, 6)] rfl rfl rfl (fun H locs hP hD hS => ?_)
      refine lv_iload_n hx hb dX8_canOpen_38 rfl (lv_at hl 1 rfl) ?_
      refine lv_ishr hx hb dX8_canOpen_39 ?_
      refine lv_iconst (v := 1) hx hb dX8_canOpen_40 (by decide) ?_
      refine lv_iand hx hb dX8_canOpen_41 ?_
      obtain rfl := Option.some.inj h
      exact e_i hx hb hr hlocks hP hS dX8_canOpen_42
    · have h := (if_pos c7).symm.trans h
      refine lv_aload_n hx hb dX8_canOpen_18 rfl (lv_at hl 0 rfl) ?_
      refine lv_iload_n hx hb dX8_canOpen_19 rfl (lv_at hl 1 rfl) ?_
      obtain ⟨q10, e11, h⟩ := ob h
      refine fr_ir (M := (modelW cyI m0 m1 m2 m3 m4 m5 m6 state history recorded slots isSaved pad padLength opened pos letter first second)) (va_runV (As := [.int x1]) (rest := []) ⟨hx, hb, hml, hown, hts⟩ (mX8_isBox l dC dI cyI cyO m0 m1 m2 m3 m4 m5 m6 state history recorded slots isSaved pad padLength opened pos letter first second x1 _ q10 e11) (cwV 1 hts (gV ml_X8_48 im_X8_isBox se_X8_isBox in_X8 co_X8_isBox) rfl rfl rfl (by decide +kernel) ⟨Nat.le_of_ble_eq_true rfl, Nat.le_of_ble_eq_true rfl⟩) (cP_V hK hP hD [0, 1, 2, 3, 4, 5, 6] rfl rfl 0 rfl rfl) rfl rfl hl.1 rfl (lv_room (Nat.le_of_ble_eq_true rfl)) dX8_canOpen_20 ⟨Nat.zero_le _, Nat.zero_le _⟩) hP hD hS hA [0, 1, 2, 3, 4, 5, 6] rfl (fun H locs hP hS => ?_)
      refine lv_if_eq (tgt := 31) hx hb dX8_canOpen_23 (by decide) (fun c12 => ?_) (fun c12 => ?_)
      · have h := (if_pos c12).symm.trans h
        refine lv_iconst (v := (-1)) hx hb dX8_canOpen_31 (by decide) ?_
        obtain rfl := Option.some.inj h
        exact e_i hx hb hr hlocks hP hS dX8_canOpen_32
      · have h := (if_neg c12).symm.trans h
        refine lv_bipush (v := (-2)) hx hb dX8_canOpen_26 (by decide) ?_
        refine lv_goto (tgt := 32) hx hb dX8_canOpen_28 (by decide) ?_
        obtain rfl := Option.some.inj h
        exact e_i hx hb hr hlocks hP hS dX8_canOpen_32

noncomputable def fX8_canHave (state : Nat → Int32) (opened : Nat → Int32) (x1 : Int32) (x2 : Int32) (x3 : Int32) : Option (Int32 × (Nat → Int32)) :=
  ((fX8_isKey state x1).bind fun q1 => (if q1 = 0 then ((fX8_isKey state x1).bind fun q4 => (if q4 = 0 then (some ((-1), opened)) else (some ((-2), opened)))) else (if x2 < 0 then ((fX8_isKey state x1).bind fun q8 => (if q8 = 0 then (some ((-1), opened)) else (some ((-2), opened)))) else (if (fX8_within x3 0 7) = 0 then ((fX8_isKey state x1).bind fun q17 => (if q17 = 0 then (some ((-1), opened)) else (some ((-2), opened)))) else ((fX8_open state opened x3 (-6) 0).bind fun q12 => ((fX8_isHad state q12 x1 x2 (-6) 0).bind fun q14 => (if q14 = 0 then (some (0, q12)) else (some (1, q12)))))))))
set_option maxHeartbeats 1000000 in
set_option maxRecDepth 100000 in
theorem mX8_canHave (l : Launch) (dC : Nat → ClassId) (dI : Nat → Nat → Nat) (cyI cyO : ClassId) (m0 m1 m2 m3 m4 m5 m6 : Nat) (state : Nat → Int32) (history : Nat → Int32) (recorded : Int32) (slots : Nat → Int32) (isSaved : Nat → Int32) (pad : Nat → Int32) (padLength : Int32) (opened : Nat → Int32) (pos : Int32) (letter : Int32) (first : Int32) (second : Int32) (x1 : Int32) (x2 : Int32) (x3 : Int32) (sz : Nat) (res : Int32 × (Nat → Int32)) (h : fX8_canHave state opened x1 x2 x3 = some res) : Met l yX8_canHave (wsG yX8_canHave cX8_canHave 4 (some .int)) ({ frames := 5, cells := 0, slots := 0, locals := 117 }) (cP dC dI cyI cyO sz [.ref m0, .int x1, .int x2, .int x3] (modelW cyI m0 m1 m2 m3 m4 m5 m6 state history recorded slots isSaved pad padLength opened pos letter first second)) (cI dC dI res.1 (modelW cyI m0 m1 m2 m3 m4 m5 m6 state history recorded slots isSaved pad padLength res.2 pos letter first second) (va_A (modelW cyI m0 m1 m2 m3 m4 m5 m6 state history recorded slots isSaved pad padLength opened pos letter first second) sz)) 0 0 (va_A (modelW cyI m0 m1 m2 m3 m4 m5 m6 state history recorded slots isSaved pad padLength opened pos letter first second) sz) := by
  refine Met.ofW (cc := cX8_canHave) (maxL := 4) (ret := (some .int)) (by decide) rfl ?_
  intro p e s m args below meth c s₁ B hml hv
  obtain ⟨rfl, hsz, hP, hK, hD0⟩ := hv
  have hx := B.exec
  have hb := B.bytes
  have hr := B.returns
  have hts := atoms_spec (ws := wsG yX8_canHave cX8_canHave 4 (some .int)) B.pre
  have hown : s.vm.findClass RX8 = some m.cls := findClass_of_methodNamed B.named
  have hlocks := B.notSynchronized
  subst hsz
  have hD := hD0.self (sz := s.heap.size)
  generalize hAe : va_A (modelW cyI m0 m1 m2 m3 m4 m5 m6 state history recorded slots isSaved pad padLength opened pos letter first second) s.heap.size = A at hD ⊢
  have hA : ∀ q : Nat, s.heap.size ≤ q → A q := fun q h => by rw [← hAe]; exact Or.inr h
  have hS : va_S A s.heap s.heap [] := va_S.rf
  have hl := lv_entry ([.ref m0, .int x1, .int x2, .int x3]) (n := 4) (Nat.le_of_ble_eq_true rfl)
  rw [lg_entry_eq]
  generalize (lg_sl ([.ref m0, .int x1, .int x2, .int x3]) ++ List.replicate (4 - (lg_sl ([.ref m0, .int x1, .int x2, .int x3])).length) Slot.unset).toArray = ls at hl ⊢
  have hl : lv_has ls 4 [(0, .ref m0), (1, .int x1), (2, .int x2), (3, .int x3)] := hl
  unfold fX8_canHave at h
  refine lv_aload_n hx hb dX8_canHave_0 rfl (lv_at hl 0 rfl) ?_
  refine lv_iload_n hx hb dX8_canHave_1 rfl (lv_at hl 1 rfl) ?_
  obtain ⟨q1, e2, h⟩ := ob h
  refine fr_ir (M := (modelW cyI m0 m1 m2 m3 m4 m5 m6 state history recorded slots isSaved pad padLength opened pos letter first second)) (va_runV (As := [.int x1]) (rest := []) ⟨hx, hb, hml, hown, hts⟩ (mX8_isKey l dC dI cyI cyO m0 m1 m2 m3 m4 m5 m6 state history recorded slots isSaved pad padLength opened pos letter first second x1 _ q1 e2) (cwV 1 hts (gV ml_X8_40 im_X8_isKey se_X8_isKey in_X8 co_X8_isKey) rfl rfl rfl (by decide +kernel) ⟨Nat.le_of_ble_eq_true rfl, Nat.le_of_ble_eq_true rfl⟩) (cP_V hK hP hD [0, 1, 2, 3, 4, 5, 6] rfl rfl 0 rfl rfl) rfl rfl hl.1 rfl (lv_room (Nat.le_of_ble_eq_true rfl)) dX8_canHave_2 ⟨Nat.zero_le _, Nat.zero_le _⟩) hP hD hS hA [0, 1, 2, 3, 4, 5, 6] rfl (fun H locs hP hS => ?_)
  refine lv_if_eq (tgt := 22) hx hb dX8_canHave_5 (by decide) (fun c3 => ?_) (fun c3 => ?_)
  · have h := (if_pos c3).symm.trans h
    refine lv_aload_n hx hb dX8_canHave_22 rfl (lv_at hl 0 rfl) ?_
    refine lv_iload_n hx hb dX8_canHave_23 rfl (lv_at hl 1 rfl) ?_
    obtain ⟨q4, e5, h⟩ := ob h
    refine fr_ir (M := (modelW cyI m0 m1 m2 m3 m4 m5 m6 state history recorded slots isSaved pad padLength opened pos letter first second)) (va_runV (As := [.int x1]) (rest := []) ⟨hx, hb, hml, hown, hts⟩ (mX8_isKey l dC dI cyI cyO m0 m1 m2 m3 m4 m5 m6 state history recorded slots isSaved pad padLength opened pos letter first second x1 _ q4 e5) (cwV 1 hts (gV ml_X8_40 im_X8_isKey se_X8_isKey in_X8 co_X8_isKey) rfl rfl rfl (by decide +kernel) ⟨Nat.le_of_ble_eq_true rfl, Nat.le_of_ble_eq_true rfl⟩) (cP_V hK hP hD [0, 1, 2, 3, 4, 5, 6] rfl rfl 0 rfl rfl) rfl rfl hl.1 rfl (lv_room (Nat.le_of_ble_eq_true rfl)) dX8_canHave_24 ⟨Nat.zero_le _, Nat.zero_le _⟩) hP hD hS hA [0, 1, 2, 3, 4, 5, 6] rfl (fun H locs hP hS => ?_)
    refine lv_if_eq (tgt := 35) hx hb dX8_canHave_27 (by decide) (fun c6 => ?_) (fun c6 => ?_)
    · have h := (if_pos c6).symm.trans h
      refine lv_iconst (v := (-1)) hx hb dX8_canHave_35 (by decide) ?_
      obtain rfl := Option.some.inj h
      exact e_i hx hb hr hlocks hP hS dX8_canHave_36
    · have h := (if_neg c6).symm.trans h
      refine lv_bipush (v := (-2)) hx hb dX8_canHave_30 (by decide) ?_
      refine lv_goto (tgt := 36) hx hb dX8_canHave_32 (by decide) ?_
      obtain rfl := Option.some.inj h
      exact e_i hx hb hr hlocks hP hS dX8_canHave_36
  · have h := (if_neg c3).symm.trans h
    refine lv_iload_n hx hb dX8_canHave_8 rfl (lv_at hl 2 rfl) ?_
    refine lv_if_lt (tgt := 22) hx hb dX8_canHave_9 (by decide) (fun c7 => ?_) (fun c7 => ?_)
    · have h := (if_pos c7).symm.trans h
      refine lv_aload_n hx hb dX8_canHave_22 rfl (lv_at hl 0 rfl) ?_
      refine lv_iload_n hx hb dX8_canHave_23 rfl (lv_at hl 1 rfl) ?_
      obtain ⟨q8, e9, h⟩ := ob h
      refine fr_ir (M := (modelW cyI m0 m1 m2 m3 m4 m5 m6 state history recorded slots isSaved pad padLength opened pos letter first second)) (va_runV (As := [.int x1]) (rest := []) ⟨hx, hb, hml, hown, hts⟩ (mX8_isKey l dC dI cyI cyO m0 m1 m2 m3 m4 m5 m6 state history recorded slots isSaved pad padLength opened pos letter first second x1 _ q8 e9) (cwV 1 hts (gV ml_X8_40 im_X8_isKey se_X8_isKey in_X8 co_X8_isKey) rfl rfl rfl (by decide +kernel) ⟨Nat.le_of_ble_eq_true rfl, Nat.le_of_ble_eq_true rfl⟩) (cP_V hK hP hD [0, 1, 2, 3, 4, 5, 6] rfl rfl 0 rfl rfl) rfl rfl hl.1 rfl (lv_room (Nat.le_of_ble_eq_true rfl)) dX8_canHave_24 ⟨Nat.zero_le _, Nat.zero_le _⟩) hP hD hS hA [0, 1, 2, 3, 4, 5, 6] rfl (fun H locs hP hS => ?_)
      refine lv_if_eq (tgt := 35) hx hb dX8_canHave_27 (by decide) (fun c10 => ?_) (fun c10 => ?_)
      · have h := (if_pos c10).symm.trans h
        refine lv_iconst (v := (-1)) hx hb dX8_canHave_35 (by decide) ?_
        obtain rfl := Option.some.inj h
        exact e_i hx hb hr hlocks hP hS dX8_canHave_36
      · have h := (if_neg c10).symm.trans h
        refine lv_bipush (v := (-2)) hx hb dX8_canHave_30 (by decide) ?_
        refine lv_goto (tgt := 36) hx hb dX8_canHave_32 (by decide) ?_
        obtain rfl := Option.some.inj h
        exact e_i hx hb hr hlocks hP hS dX8_canHave_36
    · have h := (if_neg c7).symm.trans h
      refine lv_iload_n hx hb dX8_canHave_12 rfl (lv_at hl 3 rfl) ?_
      refine lv_iconst (v := 0) hx hb dX8_canHave_13 (by decide) ?_
      refine lv_bipush (v := 7) hx hb dX8_canHave_14 (by decide) ?_
      refine fr_ir (M := ([] : va_W)) (va_runS (As := [.int x3, .int 0, .int 7]) (rest := []) ⟨hx, hb, hml, hown, hts⟩ (mX8_within l dC dI cyI cyO x3 0 7 _ (fX8_within x3 0 7) rfl) (va_cwS 3 hts (gS ml_X8_36 st_X8_within in_X8 co_X8_within) rfl rfl rfl (by decide +kernel) ⟨Nat.le_of_ble_eq_true rfl, Nat.le_of_ble_eq_true rfl⟩) (cP_S hK hP hD [] rfl rfl) rfl rfl hl.1 rfl (lv_room (Nat.le_of_ble_eq_true rfl)) dX8_canHave_16 ⟨Nat.zero_le _, Nat.zero_le _⟩) hP hD hS hA [] rfl (fun H locs hP hS => ?_)
      refine lv_if_ne (tgt := 37) hx hb dX8_canHave_19 (by decide) (fun c11 => ?_) (fun c11 => ?_)
      · have h := (if_neg c11).symm.trans h
        refine lv_aload_n hx hb dX8_canHave_37 rfl (lv_at hl 0 rfl) ?_
        refine lv_iload_n hx hb dX8_canHave_38 rfl (lv_at hl 3 rfl) ?_
        refine lv_bipush (v := (-6)) hx hb dX8_canHave_39 (by decide) ?_
        refine lv_iconst (v := 0) hx hb dX8_canHave_41 (by decide) ?_
        obtain ⟨q12, e13, h⟩ := ob h
        refine fr_v (M := (modelW cyI m0 m1 m2 m3 m4 m5 m6 state history recorded slots isSaved pad padLength opened pos letter first second)) (M' := (modelW cyI m0 m1 m2 m3 m4 m5 m6 state history recorded slots isSaved pad padLength q12 pos letter first second)) (L' := (modelW cyI m0 m1 m2 m3 m4 m5 m6 state history recorded slots isSaved pad padLength q12 pos letter first second)) (va_runV (As := [.int x3, .int (-6), .int 0]) (rest := []) ⟨hx, hb, hml, hown, hts⟩ (mX8_open l dC dI cyI cyO m0 m1 m2 m3 m4 m5 m6 state history recorded slots isSaved pad padLength opened pos letter first second x3 (-6) 0 _ q12 e13) (cwV 3 hts (gV ml_X8_95 im_X8_open se_X8_open in_X8 co_X8_open) rfl rfl rfl (by decide +kernel) ⟨Nat.le_of_ble_eq_true rfl, Nat.le_of_ble_eq_true rfl⟩) (cP_V hK hP hD [0, 1, 2, 3, 4, 5, 6] rfl rfl 0 rfl rfl) rfl rfl hl.1 rfl (lv_room (Nat.le_of_ble_eq_true rfl)) dX8_canHave_42 ⟨Nat.zero_le _, Nat.zero_le _⟩) hP hD hS hA [0, 1, 2, 3, 4, 5, 6] rfl [(true, 0), (true, 1), (true, 2), (true, 3), (true, 4), (true, 5), (true, 6)] rfl rfl rfl (fun H locs hP hD hS => ?_)
        refine lv_aload_n hx hb dX8_canHave_45 rfl (lv_at hl 0 rfl) ?_
        refine lv_iload_n hx hb dX8_canHave_46 rfl (lv_at hl 1 rfl) ?_
        refine lv_iload_n hx hb dX8_canHave_47 rfl (lv_at hl 2 rfl) ?_
        refine lv_bipush (v := (-6)) hx hb dX8_canHave_48 (by decide) ?_
        refine lv_iconst (v := 0) hx hb dX8_canHave_50 (by decide) ?_
        obtain ⟨q14, e15, h⟩ := ob h
        refine fr_ir (M := (modelW cyI m0 m1 m2 m3 m4 m5 m6 state history recorded slots isSaved pad padLength q12 pos letter first second)) (va_runV (As := [.int x1, .int x2, .int (-6), .int 0]) (rest := []) ⟨hx, hb, hml, hown, hts⟩ (mX8_isHad l dC dI cyI cyO m0 m1 m2 m3 m4 m5 m6 state history recorded slots isSaved pad padLength q12 pos letter first second x1 x2 (-6) 0 _ q14 e15) (cwV 4 hts (gV ml_X8_91 im_X8_isHad se_X8_isHad in_X8 co_X8_isHad) rfl rfl rfl (by decide +kernel) ⟨Nat.le_of_ble_eq_true rfl, Nat.le_of_ble_eq_true rfl⟩) (cP_V hK hP hD [0, 1, 2, 3, 4, 5, 6] rfl rfl 0 rfl rfl) rfl rfl hl.1 rfl (lv_room (Nat.le_of_ble_eq_true rfl)) dX8_canHave_51 ⟨Nat.zero_le _, Nat.zero_le _⟩) hP hD hS hA [0, 1, 2, 3, 4, 5, 6] rfl (fun H locs hP hS => ?_)
        refine lv_if_eq (tgt := 61) hx hb dX8_canHave_54 (by decide) (fun c16 => ?_) (fun c16 => ?_)
        · have h := (if_pos c16).symm.trans h
          refine lv_iconst (v := 0) hx hb dX8_canHave_61 (by decide) ?_
          obtain rfl := Option.some.inj h
          exact e_i hx hb hr hlocks hP hS dX8_canHave_62
        · have h := (if_neg c16).symm.trans h
          refine lv_iconst (v := 1) hx hb dX8_canHave_57 (by decide) ?_
          refine lv_goto (tgt := 62) hx hb dX8_canHave_58 (by decide) ?_
          obtain rfl := Option.some.inj h
          exact e_i hx hb hr hlocks hP hS dX8_canHave_62
      · have h := (if_pos c11).symm.trans h
        refine lv_aload_n hx hb dX8_canHave_22 rfl (lv_at hl 0 rfl) ?_
        refine lv_iload_n hx hb dX8_canHave_23 rfl (lv_at hl 1 rfl) ?_
        obtain ⟨q17, e18, h⟩ := ob h
        refine fr_ir (M := (modelW cyI m0 m1 m2 m3 m4 m5 m6 state history recorded slots isSaved pad padLength opened pos letter first second)) (va_runV (As := [.int x1]) (rest := []) ⟨hx, hb, hml, hown, hts⟩ (mX8_isKey l dC dI cyI cyO m0 m1 m2 m3 m4 m5 m6 state history recorded slots isSaved pad padLength opened pos letter first second x1 _ q17 e18) (cwV 1 hts (gV ml_X8_40 im_X8_isKey se_X8_isKey in_X8 co_X8_isKey) rfl rfl rfl (by decide +kernel) ⟨Nat.le_of_ble_eq_true rfl, Nat.le_of_ble_eq_true rfl⟩) (cP_V hK hP hD [0, 1, 2, 3, 4, 5, 6] rfl rfl 0 rfl rfl) rfl rfl hl.1 rfl (lv_room (Nat.le_of_ble_eq_true rfl)) dX8_canHave_24 ⟨Nat.zero_le _, Nat.zero_le _⟩) hP hD hS hA [0, 1, 2, 3, 4, 5, 6] rfl (fun H locs hP hS => ?_)
        refine lv_if_eq (tgt := 35) hx hb dX8_canHave_27 (by decide) (fun c19 => ?_) (fun c19 => ?_)
        · have h := (if_pos c19).symm.trans h
          refine lv_iconst (v := (-1)) hx hb dX8_canHave_35 (by decide) ?_
          obtain rfl := Option.some.inj h
          exact e_i hx hb hr hlocks hP hS dX8_canHave_36
        · have h := (if_neg c19).symm.trans h
          refine lv_bipush (v := (-2)) hx hb dX8_canHave_30 (by decide) ?_
          refine lv_goto (tgt := 36) hx hb dX8_canHave_32 (by decide) ?_
          obtain rfl := Option.some.inj h
          exact e_i hx hb hr hlocks hP hS dX8_canHave_36
noncomputable def fX8_houseWrap_b6 : Nat → (Nat → Int32) → Int32 → Int32 → Int32 → Int32 → Option (Int32)
  | 0, _, _, _, _, _ => none
  | fuel + 1, state, y1, y2, y3, y4 =>
  (if (3 : Int32) < 0 ∨ 844 ≤ (3 : Int32).toNatClampNeg then none else (if (state (3 : Int32).toNatClampNeg) ≤ y4 then (some y3) else ((fX8_wrapPart state y4 4).bind fun q3 => (if q3 = 1 then ((fX8_wrapPart state y4 0).bind fun q6 => (if q6 = y1 then ((fX8_wrapPart state y4 1).bind fun q9 => (if q9 = y2 then fX8_houseWrap_b6 fuel state y1 y2 y4 (y4 + 1) else fX8_houseWrap_b6 fuel state y1 y2 y3 (y4 + 1))) else fX8_houseWrap_b6 fuel state y1 y2 y3 (y4 + 1))) else fX8_houseWrap_b6 fuel state y1 y2 y3 (y4 + 1)))))

noncomputable def fX8_houseWrap (state : Nat → Int32) (x1 : Int32) (x2 : Int32) : Option (Int32) :=
  fX8_houseWrap_b6 6000 state x1 x2 (-6) 0
set_option maxHeartbeats 1000000 in
set_option maxRecDepth 100000 in
theorem mX8_houseWrap (l : Launch) (dC : Nat → ClassId) (dI : Nat → Nat → Nat) (cyI cyO : ClassId) (m0 m1 m2 m3 m4 m5 m6 : Nat) (state : Nat → Int32) (history : Nat → Int32) (recorded : Int32) (slots : Nat → Int32) (isSaved : Nat → Int32) (pad : Nat → Int32) (padLength : Int32) (opened : Nat → Int32) (pos : Int32) (letter : Int32) (first : Int32) (second : Int32) (x1 : Int32) (x2 : Int32) (sz : Nat) (res : Int32) (h : fX8_houseWrap state x1 x2 = some res) : Met l yX8_houseWrap (wsG yX8_houseWrap cX8_houseWrap 5 (some .int)) ({ frames := 1, cells := 0, slots := 0, locals := 22 }) (cP dC dI cyI cyO sz [.ref m0, .int x1, .int x2] (modelW cyI m0 m1 m2 m3 m4 m5 m6 state history recorded slots isSaved pad padLength opened pos letter first second)) (cI dC dI res (modelW cyI m0 m1 m2 m3 m4 m5 m6 state history recorded slots isSaved pad padLength opened pos letter first second) (va_A (modelW cyI m0 m1 m2 m3 m4 m5 m6 state history recorded slots isSaved pad padLength opened pos letter first second) sz)) 0 0 (va_A (modelW cyI m0 m1 m2 m3 m4 m5 m6 state history recorded slots isSaved pad padLength opened pos letter first second) sz) := by
  refine Met.ofW (cc := cX8_houseWrap) (maxL := 5) (ret := (some .int)) (by decide) rfl ?_
  intro p e s m args below meth c s₁ B hml hv
  obtain ⟨rfl, hsz, hP, hK, hD0⟩ := hv
  have hx := B.exec
  have hb := B.bytes
  have hr := B.returns
  have hts := atoms_spec (ws := wsG yX8_houseWrap cX8_houseWrap 5 (some .int)) B.pre
  have hown : s.vm.findClass RX8 = some m.cls := findClass_of_methodNamed B.named
  have hlocks := B.notSynchronized
  subst hsz
  have hD := hD0.self (sz := s.heap.size)
  generalize hAe : va_A (modelW cyI m0 m1 m2 m3 m4 m5 m6 state history recorded slots isSaved pad padLength opened pos letter first second) s.heap.size = A at hD ⊢
  have hA : ∀ q : Nat, s.heap.size ≤ q → A q := fun q h => by rw [← hAe]; exact Or.inr h
  have hS : va_S A s.heap s.heap [] := va_S.rf
  have kB6 : ∀ (fuel : Nat) (state : Nat → Int32) (y1 : Int32) (y2 : Int32) (y3 : Int32) (y4 : Int32), fX8_houseWrap_b6 fuel state y1 y2 y3 y4 = some res → ∀ (H : Heap) (locs : List Loc), va_P (dC, dI) vwCl (modelW cyI m0 m1 m2 m3 m4 m5 m6 state history recorded slots isSaved pad padLength opened pos letter first second) H → va_D A (modelW cyI m0 m1 m2 m3 m4 m5 m6 state history recorded slots isSaved pad padLength opened pos letter first second) → va_S A s.heap H locs → ∀ ls : Array Slot, lv_has ls 5 [(0, .ref m0), (1, .int y1), (2, .int y2), (3, .int y3), (4, .int y4)] → W p l e (headSpec (wsG yX8_houseWrap cX8_houseWrap 5 (some .int)) ({ frames := 1, cells := 0, slots := 0, locals := 22 })).room s m (([.ref m0, .int x1, .int x2] : List Value).toArray) below meth c H locs 0 0 (MQ below (cI dC dI res (modelW cyI m0 m1 m2 m3 m4 m5 m6 state history recorded slots isSaved pad padLength opened pos letter first second) A) ([.ref m0, .int x1, .int x2] : List Value).toArray s 0 0 A) (F0 m 6 ls []) := by
    intro fuel
    induction fuel with
    | zero => intro state y1 y2 y3 y4 h; rw [fX8_houseWrap_b6] at h; cases h
    | succ fuel ih =>
      intro state y1 y2 y3 y4 h H locs hP hD hS ls hl
      rw [fX8_houseWrap_b6] at h
      refine lv_iload hx hb dX8_houseWrap_6 (lv_at hl 4 rfl) ?_
      refine lv_aload_n hx hb dX8_houseWrap_8 rfl (lv_at hl 0 rfl) ?_
      refine va_get (D := (dC, dI)) (ci := 8) (v := .ref m1) (C := RX8) (T := TX8) (N := 12) hx hb hts (fun w h9 => gb_mem (lay_X8 w h9)) hown hK.1 hP 0 rfl rfl 0 (by decide) (hts _ (gb_mem fl_X8_7)) (fun _ h9 => h9) rfl dX8_houseWrap_9 ?_
      refine lv_iconst (v := 3) hx hb dX8_houseWrap_12 (by decide) ?_
      obtain ⟨ni1, h⟩ := ifn h
      refine va_iald hx hb hK.1 hP 1 0 rfl rfl ni1 dX8_houseWrap_13 ?_
      refine lv_icmp_ge (tgt := 63) hx hb dX8_houseWrap_14 (by decide) (fun c2 => ?_) (fun c2 => ?_)
      · have h := (if_pos c2).symm.trans h
        refine lv_iload_n hx hb dX8_houseWrap_63 rfl (lv_at hl 3 rfl) ?_
        obtain rfl := Option.some.inj h
        exact e_i hx hb hr hlocks hP hS dX8_houseWrap_64
      · have h := (if_neg c2).symm.trans h
        refine lv_aload_n hx hb dX8_houseWrap_17 rfl (lv_at hl 0 rfl) ?_
        refine lv_iload hx hb dX8_houseWrap_18 (lv_at hl 4 rfl) ?_
        refine lv_iconst (v := 4) hx hb dX8_houseWrap_20 (by decide) ?_
        obtain ⟨q3, e4, h⟩ := ob h
        refine fr_ir (M := (modelW cyI m0 m1 m2 m3 m4 m5 m6 state history recorded slots isSaved pad padLength opened pos letter first second)) (va_runV (As := [.int y4, .int 4]) (rest := []) ⟨hx, hb, hml, hown, hts⟩ (mX8_wrapPart l dC dI cyI cyO m0 m1 m2 m3 m4 m5 m6 state history recorded slots isSaved pad padLength opened pos letter first second y4 4 _ q3 e4) (cwV 2 hts (gV ml_X8_81 im_X8_wrapPart se_X8_wrapPart in_X8 co_X8_wrapPart) rfl rfl rfl (by decide +kernel) ⟨Nat.le_of_ble_eq_true rfl, Nat.le_of_ble_eq_true rfl⟩) (cP_V hK hP hD [0, 1, 2, 3, 4, 5, 6] rfl rfl 0 rfl rfl) rfl rfl hl.1 rfl (lv_room (Nat.le_of_ble_eq_true rfl)) dX8_houseWrap_21 ⟨Nat.zero_le _, Nat.zero_le _⟩) hP hD hS hA [0, 1, 2, 3, 4, 5, 6] rfl (fun H locs hP hS => ?_)
        refine lv_iconst (v := 1) hx hb dX8_houseWrap_24 (by decide) ?_
        refine lv_icmp_ne (tgt := 55) hx hb dX8_houseWrap_25 (by decide) (fun c5 => ?_) (fun c5 => ?_)
        · have h := (if_neg c5).symm.trans h
          refine lv_iload_n hx hb dX8_houseWrap_55 rfl (lv_at hl 3 rfl) ?_
          refine lv_istore_n (lv' := [(3, .int y3), (0, .ref m0), (1, .int y1), (2, .int y2), (4, .int y4)]) hx hb dX8_houseWrap_56 rfl hl (by decide) rfl (fun ls hl => ?_)
          refine lv_iinc (v := (y4 + 1)) (lv' := [(4, .int (y4 + 1)), (3, .int y3), (0, .ref m0), (1, .int y1), (2, .int y2)]) hx hb dX8_houseWrap_57 hl (k := 4) rfl rfl (by decide) rfl (fun ls hl => ?_)
          refine lv_goto (tgt := 6) hx hb dX8_houseWrap_60 (by decide) ?_
          exact ih state y1 y2 y3 (y4 + 1) h _ _ hP hD hS ls (lv_sub hl [2, 3, 4, 1, 0] rfl)
        · have h := (if_pos c5).symm.trans h
          refine lv_aload_n hx hb dX8_houseWrap_28 rfl (lv_at hl 0 rfl) ?_
          refine lv_iload hx hb dX8_houseWrap_29 (lv_at hl 4 rfl) ?_
          refine lv_iconst (v := 0) hx hb dX8_houseWrap_31 (by decide) ?_
          obtain ⟨q6, e7, h⟩ := ob h
          refine fr_ir (M := (modelW cyI m0 m1 m2 m3 m4 m5 m6 state history recorded slots isSaved pad padLength opened pos letter first second)) (va_runV (As := [.int y4, .int 0]) (rest := []) ⟨hx, hb, hml, hown, hts⟩ (mX8_wrapPart l dC dI cyI cyO m0 m1 m2 m3 m4 m5 m6 state history recorded slots isSaved pad padLength opened pos letter first second y4 0 _ q6 e7) (cwV 2 hts (gV ml_X8_81 im_X8_wrapPart se_X8_wrapPart in_X8 co_X8_wrapPart) rfl rfl rfl (by decide +kernel) ⟨Nat.le_of_ble_eq_true rfl, Nat.le_of_ble_eq_true rfl⟩) (cP_V hK hP hD [0, 1, 2, 3, 4, 5, 6] rfl rfl 0 rfl rfl) rfl rfl hl.1 rfl (lv_room (Nat.le_of_ble_eq_true rfl)) dX8_houseWrap_32 ⟨Nat.zero_le _, Nat.zero_le _⟩) hP hD hS hA [0, 1, 2, 3, 4, 5, 6] rfl (fun H locs hP hS => ?_)
          refine lv_iload_n hx hb dX8_houseWrap_35 rfl (lv_at hl 1 rfl) ?_
          refine lv_icmp_ne (tgt := 55) hx hb dX8_houseWrap_36 (by decide) (fun c8 => ?_) (fun c8 => ?_)
          · have h := (if_neg c8).symm.trans h
            refine lv_iload_n hx hb dX8_houseWrap_55 rfl (lv_at hl 3 rfl) ?_
            refine lv_istore_n (lv' := [(3, .int y3), (0, .ref m0), (1, .int y1), (2, .int y2), (4, .int y4)]) hx hb dX8_houseWrap_56 rfl hl (by decide) rfl (fun ls hl => ?_)
            refine lv_iinc (v := (y4 + 1)) (lv' := [(4, .int (y4 + 1)), (3, .int y3), (0, .ref m0), (1, .int y1), (2, .int y2)]) hx hb dX8_houseWrap_57 hl (k := 4) rfl rfl (by decide) rfl (fun ls hl => ?_)
            refine lv_goto (tgt := 6) hx hb dX8_houseWrap_60 (by decide) ?_
            exact ih state y1 y2 y3 (y4 + 1) h _ _ hP hD hS ls (lv_sub hl [2, 3, 4, 1, 0] rfl)
          · have h := (if_pos c8).symm.trans h
            refine lv_aload_n hx hb dX8_houseWrap_39 rfl (lv_at hl 0 rfl) ?_
            refine lv_iload hx hb dX8_houseWrap_40 (lv_at hl 4 rfl) ?_
            refine lv_iconst (v := 1) hx hb dX8_houseWrap_42 (by decide) ?_
            obtain ⟨q9, e10, h⟩ := ob h
            refine fr_ir (M := (modelW cyI m0 m1 m2 m3 m4 m5 m6 state history recorded slots isSaved pad padLength opened pos letter first second)) (va_runV (As := [.int y4, .int 1]) (rest := []) ⟨hx, hb, hml, hown, hts⟩ (mX8_wrapPart l dC dI cyI cyO m0 m1 m2 m3 m4 m5 m6 state history recorded slots isSaved pad padLength opened pos letter first second y4 1 _ q9 e10) (cwV 2 hts (gV ml_X8_81 im_X8_wrapPart se_X8_wrapPart in_X8 co_X8_wrapPart) rfl rfl rfl (by decide +kernel) ⟨Nat.le_of_ble_eq_true rfl, Nat.le_of_ble_eq_true rfl⟩) (cP_V hK hP hD [0, 1, 2, 3, 4, 5, 6] rfl rfl 0 rfl rfl) rfl rfl hl.1 rfl (lv_room (Nat.le_of_ble_eq_true rfl)) dX8_houseWrap_43 ⟨Nat.zero_le _, Nat.zero_le _⟩) hP hD hS hA [0, 1, 2, 3, 4, 5, 6] rfl (fun H locs hP hS => ?_)
            refine lv_iload_n hx hb dX8_houseWrap_46 rfl (lv_at hl 2 rfl) ?_
            refine lv_icmp_ne (tgt := 55) hx hb dX8_houseWrap_47 (by decide) (fun c11 => ?_) (fun c11 => ?_)
            · have h := (if_neg c11).symm.trans h
              refine lv_iload_n hx hb dX8_houseWrap_55 rfl (lv_at hl 3 rfl) ?_
              refine lv_istore_n (lv' := [(3, .int y3), (0, .ref m0), (1, .int y1), (2, .int y2), (4, .int y4)]) hx hb dX8_houseWrap_56 rfl hl (by decide) rfl (fun ls hl => ?_)
              refine lv_iinc (v := (y4 + 1)) (lv' := [(4, .int (y4 + 1)), (3, .int y3), (0, .ref m0), (1, .int y1), (2, .int y2)]) hx hb dX8_houseWrap_57 hl (k := 4) rfl rfl (by decide) rfl (fun ls hl => ?_)
              refine lv_goto (tgt := 6) hx hb dX8_houseWrap_60 (by decide) ?_
              exact ih state y1 y2 y3 (y4 + 1) h _ _ hP hD hS ls (lv_sub hl [2, 3, 4, 1, 0] rfl)
            · have h := (if_pos c11).symm.trans h
              refine lv_iload hx hb dX8_houseWrap_50 (lv_at hl 4 rfl) ?_
              refine lv_goto (tgt := 56) hx hb dX8_houseWrap_52 (by decide) ?_
              refine lv_istore_n (lv' := [(3, .int y4), (0, .ref m0), (1, .int y1), (2, .int y2), (4, .int y4)]) hx hb dX8_houseWrap_56 rfl hl (by decide) rfl (fun ls hl => ?_)
              refine lv_iinc (v := (y4 + 1)) (lv' := [(4, .int (y4 + 1)), (3, .int y4), (0, .ref m0), (1, .int y1), (2, .int y2)]) hx hb dX8_houseWrap_57 hl (k := 4) rfl rfl (by decide) rfl (fun ls hl => ?_)
              refine lv_goto (tgt := 6) hx hb dX8_houseWrap_60 (by decide) ?_
              exact ih state y1 y2 y4 (y4 + 1) h _ _ hP hD hS ls (lv_sub hl [2, 3, 4, 1, 0] rfl)
  have hl := lv_entry ([.ref m0, .int x1, .int x2]) (n := 5) (Nat.le_of_ble_eq_true rfl)
  rw [lg_entry_eq]
  generalize (lg_sl ([.ref m0, .int x1, .int x2]) ++ List.replicate (5 - (lg_sl ([.ref m0, .int x1, .int x2])).length) Slot.unset).toArray = ls at hl ⊢
  have hl : lv_has ls 5 [(0, .ref m0), (1, .int x1), (2, .int x2)] := hl
  unfold fX8_houseWrap at h
  refine lv_bipush (v := (-6)) hx hb dX8_houseWrap_0 (by decide) ?_
  refine lv_istore_n (lv' := [(3, .int (-6)), (0, .ref m0), (1, .int x1), (2, .int x2)]) hx hb dX8_houseWrap_2 rfl hl (by decide) rfl (fun ls hl => ?_)
  refine lv_iconst (v := 0) hx hb dX8_houseWrap_3 (by decide) ?_
  refine lv_istore (lv' := [(4, .int 0), (3, .int (-6)), (0, .ref m0), (1, .int x1), (2, .int x2)]) hx hb dX8_houseWrap_4 hl (by decide) rfl (fun ls hl => ?_)
  exact kB6 6000 state x1 x2 (-6) 0 h _ _ hP hD hS ls (lv_sub hl [2, 3, 4, 1, 0] rfl)

noncomputable def fX8_way (state : Nat → Int32) (x1 : Int32) (x2 : Int32) : Option (Int32) :=
  ((fX8_isLiveBox state x1).bind fun q1 => (if q1 = 0 then ((fX8_isLiveBox state x1).bind fun q4 => (if q4 = 0 then (some (-1)) else (some (-2)))) else (if 0 ≤ x2 then ((fX8_boxPart state x1 0).bind fun q8 => ((fX8_above state q8).bind fun q10 => (if x2 ≤ q10 then (if x2 = q10 then (if x2 = q10 then ((fX8_houseWrap state (-6) x1).bind fun q28 => (some q28)) else ((fX8_keyPart state (-6) 2).bind fun q24 => ((fX8_houseWrap state (-6) q24).bind fun q26 => (some q26)))) else ((fX8_higher state q8 ((q10 - 1) - x2)).bind fun q14 => (if x2 = q10 then ((fX8_houseWrap state q14 x1).bind fun q21 => (some q21)) else ((fX8_keyPart state q14 2).bind fun q17 => ((fX8_houseWrap state q14 q17).bind fun q19 => (some q19)))))) else (some (-6))))) else ((fX8_isLiveBox state x1).bind fun q30 => (if q30 = 0 then (some (-1)) else (some (-2)))))))
set_option maxHeartbeats 1000000 in
set_option maxRecDepth 100000 in
theorem mX8_way (l : Launch) (dC : Nat → ClassId) (dI : Nat → Nat → Nat) (cyI cyO : ClassId) (m0 m1 m2 m3 m4 m5 m6 : Nat) (state : Nat → Int32) (history : Nat → Int32) (recorded : Int32) (slots : Nat → Int32) (isSaved : Nat → Int32) (pad : Nat → Int32) (padLength : Int32) (opened : Nat → Int32) (pos : Int32) (letter : Int32) (first : Int32) (second : Int32) (x1 : Int32) (x2 : Int32) (sz : Nat) (res : Int32) (h : fX8_way state x1 x2 = some res) : Met l yX8_way (wsG yX8_way cX8_way 6 (some .int)) ({ frames := 3, cells := 0, slots := 0, locals := 64 }) (cP dC dI cyI cyO sz [.ref m0, .int x1, .int x2] (modelW cyI m0 m1 m2 m3 m4 m5 m6 state history recorded slots isSaved pad padLength opened pos letter first second)) (cI dC dI res (modelW cyI m0 m1 m2 m3 m4 m5 m6 state history recorded slots isSaved pad padLength opened pos letter first second) (va_A (modelW cyI m0 m1 m2 m3 m4 m5 m6 state history recorded slots isSaved pad padLength opened pos letter first second) sz)) 0 0 (va_A (modelW cyI m0 m1 m2 m3 m4 m5 m6 state history recorded slots isSaved pad padLength opened pos letter first second) sz) := by
  refine Met.ofW (cc := cX8_way) (maxL := 6) (ret := (some .int)) (by decide) rfl ?_
  intro p e s m args below meth c s₁ B hml hv
  obtain ⟨rfl, hsz, hP, hK, hD0⟩ := hv
  have hx := B.exec
  have hb := B.bytes
  have hr := B.returns
  have hts := atoms_spec (ws := wsG yX8_way cX8_way 6 (some .int)) B.pre
  have hown : s.vm.findClass RX8 = some m.cls := findClass_of_methodNamed B.named
  have hlocks := B.notSynchronized
  subst hsz
  have hD := hD0.self (sz := s.heap.size)
  generalize hAe : va_A (modelW cyI m0 m1 m2 m3 m4 m5 m6 state history recorded slots isSaved pad padLength opened pos letter first second) s.heap.size = A at hD ⊢
  have hA : ∀ q : Nat, s.heap.size ≤ q → A q := fun q h => by rw [← hAe]; exact Or.inr h
  have hS : va_S A s.heap s.heap [] := va_S.rf
  have hl := lv_entry ([.ref m0, .int x1, .int x2]) (n := 6) (Nat.le_of_ble_eq_true rfl)
  rw [lg_entry_eq]
  generalize (lg_sl ([.ref m0, .int x1, .int x2]) ++ List.replicate (6 - (lg_sl ([.ref m0, .int x1, .int x2])).length) Slot.unset).toArray = ls at hl ⊢
  have hl : lv_has ls 6 [(0, .ref m0), (1, .int x1), (2, .int x2)] := hl
  unfold fX8_way at h
  refine lv_aload_n hx hb dX8_way_0 rfl (lv_at hl 0 rfl) ?_
  refine lv_iload_n hx hb dX8_way_1 rfl (lv_at hl 1 rfl) ?_
  obtain ⟨q1, e2, h⟩ := ob h
  refine fr_ir (M := (modelW cyI m0 m1 m2 m3 m4 m5 m6 state history recorded slots isSaved pad padLength opened pos letter first second)) (va_runV (As := [.int x1]) (rest := []) ⟨hx, hb, hml, hown, hts⟩ (mX8_isLiveBox l dC dI cyI cyO m0 m1 m2 m3 m4 m5 m6 state history recorded slots isSaved pad padLength opened pos letter first second x1 _ q1 e2) (cwV 1 hts (gV ml_X8_177 im_X8_isLiveBox se_X8_isLiveBox in_X8 co_X8_isLiveBox) rfl rfl rfl (by decide +kernel) ⟨Nat.le_of_ble_eq_true rfl, Nat.le_of_ble_eq_true rfl⟩) (cP_V hK hP hD [0, 1, 2, 3, 4, 5, 6] rfl rfl 0 rfl rfl) rfl rfl hl.1 rfl (lv_room (Nat.le_of_ble_eq_true rfl)) dX8_way_2 ⟨Nat.zero_le _, Nat.zero_le _⟩) hP hD hS hA [0, 1, 2, 3, 4, 5, 6] rfl (fun H locs hP hS => ?_)
  refine lv_if_eq (tgt := 12) hx hb dX8_way_5 (by decide) (fun c3 => ?_) (fun c3 => ?_)
  · have h := (if_pos c3).symm.trans h
    refine lv_aload_n hx hb dX8_way_12 rfl (lv_at hl 0 rfl) ?_
    refine lv_iload_n hx hb dX8_way_13 rfl (lv_at hl 1 rfl) ?_
    obtain ⟨q4, e5, h⟩ := ob h
    refine fr_ir (M := (modelW cyI m0 m1 m2 m3 m4 m5 m6 state history recorded slots isSaved pad padLength opened pos letter first second)) (va_runV (As := [.int x1]) (rest := []) ⟨hx, hb, hml, hown, hts⟩ (mX8_isLiveBox l dC dI cyI cyO m0 m1 m2 m3 m4 m5 m6 state history recorded slots isSaved pad padLength opened pos letter first second x1 _ q4 e5) (cwV 1 hts (gV ml_X8_177 im_X8_isLiveBox se_X8_isLiveBox in_X8 co_X8_isLiveBox) rfl rfl rfl (by decide +kernel) ⟨Nat.le_of_ble_eq_true rfl, Nat.le_of_ble_eq_true rfl⟩) (cP_V hK hP hD [0, 1, 2, 3, 4, 5, 6] rfl rfl 0 rfl rfl) rfl rfl hl.1 rfl (lv_room (Nat.le_of_ble_eq_true rfl)) dX8_way_14 ⟨Nat.zero_le _, Nat.zero_le _⟩) hP hD hS hA [0, 1, 2, 3, 4, 5, 6] rfl (fun H locs hP hS => ?_)
    refine lv_if_eq (tgt := 25) hx hb dX8_way_17 (by decide) (fun c6 => ?_) (fun c6 => ?_)
    · have h := (if_pos c6).symm.trans h
      refine lv_iconst (v := (-1)) hx hb dX8_way_25 (by decide) ?_
      obtain rfl := Option.some.inj h
      exact e_i hx hb hr hlocks hP hS dX8_way_26
    · have h := (if_neg c6).symm.trans h
      refine lv_bipush (v := (-2)) hx hb dX8_way_20 (by decide) ?_
      refine lv_goto (tgt := 26) hx hb dX8_way_22 (by decide) ?_
      obtain rfl := Option.some.inj h
      exact e_i hx hb hr hlocks hP hS dX8_way_26
  · have h := (if_neg c3).symm.trans h
    refine lv_iload_n hx hb dX8_way_8 rfl (lv_at hl 2 rfl) ?_
    refine lv_if_ge (tgt := 27) hx hb dX8_way_9 (by decide) (fun c7 => ?_) (fun c7 => ?_)
    · have h := (if_pos c7).symm.trans h
      refine lv_aload_n hx hb dX8_way_27 rfl (lv_at hl 0 rfl) ?_
      refine lv_iload_n hx hb dX8_way_28 rfl (lv_at hl 1 rfl) ?_
      refine lv_iconst (v := 0) hx hb dX8_way_29 (by decide) ?_
      obtain ⟨q8, e9, h⟩ := ob h
      refine fr_ir (M := (modelW cyI m0 m1 m2 m3 m4 m5 m6 state history recorded slots isSaved pad padLength opened pos letter first second)) (va_runV (As := [.int x1, .int 0]) (rest := []) ⟨hx, hb, hml, hown, hts⟩ (mX8_boxPart l dC dI cyI cyO m0 m1 m2 m3 m4 m5 m6 state history recorded slots isSaved pad padLength opened pos letter first second x1 0 _ q8 e9) (cwV 2 hts (gV ml_X8_51 im_X8_boxPart se_X8_boxPart in_X8 co_X8_boxPart) rfl rfl rfl (by decide +kernel) ⟨Nat.le_of_ble_eq_true rfl, Nat.le_of_ble_eq_true rfl⟩) (cP_V hK hP hD [0, 1, 2, 3, 4, 5, 6] rfl rfl 0 rfl rfl) rfl rfl hl.1 rfl (lv_room (Nat.le_of_ble_eq_true rfl)) dX8_way_30 ⟨Nat.zero_le _, Nat.zero_le _⟩) hP hD hS hA [0, 1, 2, 3, 4, 5, 6] rfl (fun H locs hP hS => ?_)
      refine lv_istore_n (lv' := [(3, .int q8), (0, .ref m0), (1, .int x1), (2, .int x2)]) hx hb dX8_way_33 rfl hl (by decide) rfl (fun ls hl => ?_)
      refine lv_aload_n hx hb dX8_way_34 rfl (lv_at hl 1 rfl) ?_
      refine lv_iload_n hx hb dX8_way_35 rfl (lv_at hl 0 rfl) ?_
      obtain ⟨q10, e11, h⟩ := ob h
      refine fr_ir (M := (modelW cyI m0 m1 m2 m3 m4 m5 m6 state history recorded slots isSaved pad padLength opened pos letter first second)) (va_runV (As := [.int q8]) (rest := []) ⟨hx, hb, hml, hown, hts⟩ (mX8_above l dC dI cyI cyO m0 m1 m2 m3 m4 m5 m6 state history recorded slots isSaved pad padLength opened pos letter first second q8 _ q10 e11) (cwV 1 hts (gV ml_X8_156 im_X8_above se_X8_above in_X8 co_X8_above) rfl rfl rfl (by decide +kernel) ⟨Nat.le_of_ble_eq_true rfl, Nat.le_of_ble_eq_true rfl⟩) (cP_V hK hP hD [0, 1, 2, 3, 4, 5, 6] rfl rfl 0 rfl rfl) rfl rfl hl.1 rfl (lv_room (Nat.le_of_ble_eq_true rfl)) dX8_way_36 ⟨Nat.zero_le _, Nat.zero_le _⟩) hP hD hS hA [0, 1, 2, 3, 4, 5, 6] rfl (fun H locs hP hS => ?_)
      refine lv_istore (lv' := [(4, .int q10), (3, .int q8), (0, .ref m0), (1, .int x1), (2, .int x2)]) hx hb dX8_way_39 hl (by decide) rfl (fun ls hl => ?_)
      refine lv_iload_n hx hb dX8_way_41 rfl (lv_at hl 4 rfl) ?_
      refine lv_iload hx hb dX8_way_42 (lv_at hl 0 rfl) ?_
      refine lv_icmp_le (tgt := 50) hx hb dX8_way_44 (by decide) (fun c12 => ?_) (fun c12 => ?_)
      · have h := (if_pos c12).symm.trans h
        refine lv_iload_n hx hb dX8_way_50 rfl (lv_at hl 4 rfl) ?_
        refine lv_iload hx hb dX8_way_51 (lv_at hl 0 rfl) ?_
        refine lv_icmp_ne (tgt := 61) hx hb dX8_way_53 (by decide) (fun c13 => ?_) (fun c13 => ?_)
        · have h := (if_neg c13).symm.trans h
          refine lv_aload_n hx hb dX8_way_61 rfl (lv_at hl 2 rfl) ?_
          refine lv_iload_n hx hb dX8_way_62 rfl (lv_at hl 1 rfl) ?_
          refine lv_iload hx hb dX8_way_63 (lv_at hl 0 rfl) ?_
          refine lv_iconst (v := 1) hx hb dX8_way_65 (by decide) ?_
          refine lv_isub hx hb dX8_way_66 ?_
          refine lv_iload_n hx hb dX8_way_67 rfl (lv_at hl 4 rfl) ?_
          refine lv_isub hx hb dX8_way_68 ?_
          obtain ⟨q14, e15, h⟩ := ob h
          refine fr_ir (M := (modelW cyI m0 m1 m2 m3 m4 m5 m6 state history recorded slots isSaved pad padLength opened pos letter first second)) (va_runV (As := [.int q8, .int ((q10 - 1) - x2)]) (rest := []) ⟨hx, hb, hml, hown, hts⟩ (mX8_higher l dC dI cyI cyO m0 m1 m2 m3 m4 m5 m6 state history recorded slots isSaved pad padLength opened pos letter first second q8 ((q10 - 1) - x2) _ q14 e15) (cwV 2 hts (gV ml_X8_159 im_X8_higher se_X8_higher in_X8 co_X8_higher) rfl rfl rfl (by decide +kernel) ⟨Nat.le_of_ble_eq_true rfl, Nat.le_of_ble_eq_true rfl⟩) (cP_V hK hP hD [0, 1, 2, 3, 4, 5, 6] rfl rfl 0 rfl rfl) rfl rfl hl.1 rfl (lv_room (Nat.le_of_ble_eq_true rfl)) dX8_way_69 ⟨Nat.zero_le _, Nat.zero_le _⟩) hP hD hS hA [0, 1, 2, 3, 4, 5, 6] rfl (fun H locs hP hS => ?_)
          refine lv_istore (lv' := [(5, .int q14), (4, .int q10), (3, .int q8), (0, .ref m0), (1, .int x1), (2, .int x2)]) hx hb dX8_way_72 hl (by decide) rfl (fun ls hl => ?_)
          refine lv_aload_n hx hb dX8_way_74 rfl (lv_at hl 3 rfl) ?_
          refine lv_iload hx hb dX8_way_75 (lv_at hl 0 rfl) ?_
          refine lv_iload_n hx hb dX8_way_77 rfl (lv_at hl 5 rfl) ?_
          refine lv_iload hx hb dX8_way_78 (lv_at hl 1 rfl) ?_
          refine lv_icmp_ne (tgt := 87) hx hb dX8_way_80 (by decide) (fun c16 => ?_) (fun c16 => ?_)
          · have h := (if_neg c16).symm.trans h
            refine lv_aload_n hx hb dX8_way_87 rfl (lv_at hl 3 rfl) ?_
            refine lv_iload hx hb dX8_way_88 (lv_at hl 0 rfl) ?_
            refine lv_iconst (v := 2) hx hb dX8_way_90 (by decide) ?_
            obtain ⟨q17, e18, h⟩ := ob h
            refine fr_ir (M := (modelW cyI m0 m1 m2 m3 m4 m5 m6 state history recorded slots isSaved pad padLength opened pos letter first second)) (va_runV (As := [.int q14, .int 2]) (rest := [.int q14, .ref m0]) ⟨hx, hb, hml, hown, hts⟩ (mX8_keyPart l dC dI cyI cyO m0 m1 m2 m3 m4 m5 m6 state history recorded slots isSaved pad padLength opened pos letter first second q14 2 _ q17 e18) (cwV 2 hts (gV ml_X8_44 im_X8_keyPart se_X8_keyPart in_X8 co_X8_keyPart) rfl rfl rfl (by decide +kernel) ⟨Nat.le_of_ble_eq_true rfl, Nat.le_of_ble_eq_true rfl⟩) (cP_V hK hP hD [0, 1, 2, 3, 4, 5, 6] rfl rfl 0 rfl rfl) rfl rfl hl.1 rfl (lv_room (Nat.le_of_ble_eq_true rfl)) dX8_way_91 ⟨Nat.zero_le _, Nat.zero_le _⟩) hP hD hS hA [0, 1, 2, 3, 4, 5, 6] rfl (fun H locs hP hS => ?_)
            obtain ⟨q19, e20, h⟩ := ob h
            refine fr_ir (M := (modelW cyI m0 m1 m2 m3 m4 m5 m6 state history recorded slots isSaved pad padLength opened pos letter first second)) (va_runV (As := [.int q14, .int q17]) (rest := []) ⟨hx, hb, hml, hown, hts⟩ (mX8_houseWrap l dC dI cyI cyO m0 m1 m2 m3 m4 m5 m6 state history recorded slots isSaved pad padLength opened pos letter first second q14 q17 _ q19 e20) (cwV 2 hts (gV ml_X8_207 im_X8_houseWrap se_X8_houseWrap in_X8 co_X8_houseWrap) rfl rfl rfl (by decide +kernel) ⟨Nat.le_of_ble_eq_true rfl, Nat.le_of_ble_eq_true rfl⟩) (cP_V hK hP hD [0, 1, 2, 3, 4, 5, 6] rfl rfl 0 rfl rfl) rfl rfl hl.1 rfl (lv_room (Nat.le_of_ble_eq_true rfl)) dX8_way_94 ⟨Nat.zero_le _, Nat.zero_le _⟩) hP hD hS hA [0, 1, 2, 3, 4, 5, 6] rfl (fun H locs hP hS => ?_)
            obtain rfl := Option.some.inj h
            exact e_i hx hb hr hlocks hP hS dX8_way_97
          · have h := (if_pos c16).symm.trans h
            refine lv_iload_n hx hb dX8_way_83 rfl (lv_at hl 4 rfl) ?_
            refine lv_goto (tgt := 94) hx hb dX8_way_84 (by decide) ?_
            obtain ⟨q21, e22, h⟩ := ob h
            refine fr_ir (M := (modelW cyI m0 m1 m2 m3 m4 m5 m6 state history recorded slots isSaved pad padLength opened pos letter first second)) (va_runV (As := [.int q14, .int x1]) (rest := []) ⟨hx, hb, hml, hown, hts⟩ (mX8_houseWrap l dC dI cyI cyO m0 m1 m2 m3 m4 m5 m6 state history recorded slots isSaved pad padLength opened pos letter first second q14 x1 _ q21 e22) (cwV 2 hts (gV ml_X8_207 im_X8_houseWrap se_X8_houseWrap in_X8 co_X8_houseWrap) rfl rfl rfl (by decide +kernel) ⟨Nat.le_of_ble_eq_true rfl, Nat.le_of_ble_eq_true rfl⟩) (cP_V hK hP hD [0, 1, 2, 3, 4, 5, 6] rfl rfl 0 rfl rfl) rfl rfl hl.1 rfl (lv_room (Nat.le_of_ble_eq_true rfl)) dX8_way_94 ⟨Nat.zero_le _, Nat.zero_le _⟩) hP hD hS hA [0, 1, 2, 3, 4, 5, 6] rfl (fun H locs hP hS => ?_)
            obtain rfl := Option.some.inj h
            exact e_i hx hb hr hlocks hP hS dX8_way_97
        · have h := (if_pos c13).symm.trans h
          refine lv_bipush (v := (-6)) hx hb dX8_way_56 (by decide) ?_
          refine lv_goto (tgt := 72) hx hb dX8_way_58 (by decide) ?_
          refine lv_istore (lv' := [(5, .int (-6)), (4, .int q10), (3, .int q8), (0, .ref m0), (1, .int x1), (2, .int x2)]) hx hb dX8_way_72 hl (by decide) rfl (fun ls hl => ?_)
          refine lv_aload_n hx hb dX8_way_74 rfl (lv_at hl 3 rfl) ?_
          refine lv_iload hx hb dX8_way_75 (lv_at hl 0 rfl) ?_
          refine lv_iload_n hx hb dX8_way_77 rfl (lv_at hl 5 rfl) ?_
          refine lv_iload hx hb dX8_way_78 (lv_at hl 1 rfl) ?_
          refine lv_icmp_ne (tgt := 87) hx hb dX8_way_80 (by decide) (fun c23 => ?_) (fun c23 => ?_)
          · have h := (if_neg c23).symm.trans h
            refine lv_aload_n hx hb dX8_way_87 rfl (lv_at hl 3 rfl) ?_
            refine lv_iload hx hb dX8_way_88 (lv_at hl 0 rfl) ?_
            refine lv_iconst (v := 2) hx hb dX8_way_90 (by decide) ?_
            obtain ⟨q24, e25, h⟩ := ob h
            refine fr_ir (M := (modelW cyI m0 m1 m2 m3 m4 m5 m6 state history recorded slots isSaved pad padLength opened pos letter first second)) (va_runV (As := [.int (-6), .int 2]) (rest := [.int (-6), .ref m0]) ⟨hx, hb, hml, hown, hts⟩ (mX8_keyPart l dC dI cyI cyO m0 m1 m2 m3 m4 m5 m6 state history recorded slots isSaved pad padLength opened pos letter first second (-6) 2 _ q24 e25) (cwV 2 hts (gV ml_X8_44 im_X8_keyPart se_X8_keyPart in_X8 co_X8_keyPart) rfl rfl rfl (by decide +kernel) ⟨Nat.le_of_ble_eq_true rfl, Nat.le_of_ble_eq_true rfl⟩) (cP_V hK hP hD [0, 1, 2, 3, 4, 5, 6] rfl rfl 0 rfl rfl) rfl rfl hl.1 rfl (lv_room (Nat.le_of_ble_eq_true rfl)) dX8_way_91 ⟨Nat.zero_le _, Nat.zero_le _⟩) hP hD hS hA [0, 1, 2, 3, 4, 5, 6] rfl (fun H locs hP hS => ?_)
            obtain ⟨q26, e27, h⟩ := ob h
            refine fr_ir (M := (modelW cyI m0 m1 m2 m3 m4 m5 m6 state history recorded slots isSaved pad padLength opened pos letter first second)) (va_runV (As := [.int (-6), .int q24]) (rest := []) ⟨hx, hb, hml, hown, hts⟩ (mX8_houseWrap l dC dI cyI cyO m0 m1 m2 m3 m4 m5 m6 state history recorded slots isSaved pad padLength opened pos letter first second (-6) q24 _ q26 e27) (cwV 2 hts (gV ml_X8_207 im_X8_houseWrap se_X8_houseWrap in_X8 co_X8_houseWrap) rfl rfl rfl (by decide +kernel) ⟨Nat.le_of_ble_eq_true rfl, Nat.le_of_ble_eq_true rfl⟩) (cP_V hK hP hD [0, 1, 2, 3, 4, 5, 6] rfl rfl 0 rfl rfl) rfl rfl hl.1 rfl (lv_room (Nat.le_of_ble_eq_true rfl)) dX8_way_94 ⟨Nat.zero_le _, Nat.zero_le _⟩) hP hD hS hA [0, 1, 2, 3, 4, 5, 6] rfl (fun H locs hP hS => ?_)
            obtain rfl := Option.some.inj h
            exact e_i hx hb hr hlocks hP hS dX8_way_97
          · have h := (if_pos c23).symm.trans h
            refine lv_iload_n hx hb dX8_way_83 rfl (lv_at hl 4 rfl) ?_
            refine lv_goto (tgt := 94) hx hb dX8_way_84 (by decide) ?_
            obtain ⟨q28, e29, h⟩ := ob h
            refine fr_ir (M := (modelW cyI m0 m1 m2 m3 m4 m5 m6 state history recorded slots isSaved pad padLength opened pos letter first second)) (va_runV (As := [.int (-6), .int x1]) (rest := []) ⟨hx, hb, hml, hown, hts⟩ (mX8_houseWrap l dC dI cyI cyO m0 m1 m2 m3 m4 m5 m6 state history recorded slots isSaved pad padLength opened pos letter first second (-6) x1 _ q28 e29) (cwV 2 hts (gV ml_X8_207 im_X8_houseWrap se_X8_houseWrap in_X8 co_X8_houseWrap) rfl rfl rfl (by decide +kernel) ⟨Nat.le_of_ble_eq_true rfl, Nat.le_of_ble_eq_true rfl⟩) (cP_V hK hP hD [0, 1, 2, 3, 4, 5, 6] rfl rfl 0 rfl rfl) rfl rfl hl.1 rfl (lv_room (Nat.le_of_ble_eq_true rfl)) dX8_way_94 ⟨Nat.zero_le _, Nat.zero_le _⟩) hP hD hS hA [0, 1, 2, 3, 4, 5, 6] rfl (fun H locs hP hS => ?_)
            obtain rfl := Option.some.inj h
            exact e_i hx hb hr hlocks hP hS dX8_way_97
      · have h := (if_neg c12).symm.trans h
        refine lv_bipush (v := (-6)) hx hb dX8_way_47 (by decide) ?_
        obtain rfl := Option.some.inj h
        exact e_i hx hb hr hlocks hP hS dX8_way_49
    · have h := (if_neg c7).symm.trans h
      refine lv_aload_n hx hb dX8_way_12 rfl (lv_at hl 0 rfl) ?_
      refine lv_iload_n hx hb dX8_way_13 rfl (lv_at hl 1 rfl) ?_
      obtain ⟨q30, e31, h⟩ := ob h
      refine fr_ir (M := (modelW cyI m0 m1 m2 m3 m4 m5 m6 state history recorded slots isSaved pad padLength opened pos letter first second)) (va_runV (As := [.int x1]) (rest := []) ⟨hx, hb, hml, hown, hts⟩ (mX8_isLiveBox l dC dI cyI cyO m0 m1 m2 m3 m4 m5 m6 state history recorded slots isSaved pad padLength opened pos letter first second x1 _ q30 e31) (cwV 1 hts (gV ml_X8_177 im_X8_isLiveBox se_X8_isLiveBox in_X8 co_X8_isLiveBox) rfl rfl rfl (by decide +kernel) ⟨Nat.le_of_ble_eq_true rfl, Nat.le_of_ble_eq_true rfl⟩) (cP_V hK hP hD [0, 1, 2, 3, 4, 5, 6] rfl rfl 0 rfl rfl) rfl rfl hl.1 rfl (lv_room (Nat.le_of_ble_eq_true rfl)) dX8_way_14 ⟨Nat.zero_le _, Nat.zero_le _⟩) hP hD hS hA [0, 1, 2, 3, 4, 5, 6] rfl (fun H locs hP hS => ?_)
      refine lv_if_eq (tgt := 25) hx hb dX8_way_17 (by decide) (fun c32 => ?_) (fun c32 => ?_)
      · have h := (if_pos c32).symm.trans h
        refine lv_iconst (v := (-1)) hx hb dX8_way_25 (by decide) ?_
        obtain rfl := Option.some.inj h
        exact e_i hx hb hr hlocks hP hS dX8_way_26
      · have h := (if_neg c32).symm.trans h
        refine lv_bipush (v := (-2)) hx hb dX8_way_20 (by decide) ?_
        refine lv_goto (tgt := 26) hx hb dX8_way_22 (by decide) ?_
        obtain rfl := Option.some.inj h
        exact e_i hx hb hr hlocks hP hS dX8_way_26

noncomputable def fX8_leaks (state : Nat → Int32) (opened : Nat → Int32) (x1 : Int32) (x2 : Int32) (x3 : Int32) : Option (Int32 × (Nat → Int32)) :=
  ((fX8_isKey state x1).bind fun q1 => (if q1 = 0 then (some ((-1), opened)) else ((fX8_isRoot state x1).bind fun q4 => (if q4 = 0 then (some ((-1), opened)) else (if x2 < 0 then (some ((-2), opened)) else (if (fX8_within x3 0 7) = 0 then (some ((-2), opened)) else ((fX8_open state opened x3 x1 x2).bind fun q9 => ((fX8_openBoxes state q9).bind fun q11 => (some (q11, q9))))))))))
set_option maxHeartbeats 1000000 in
set_option maxRecDepth 100000 in
theorem mX8_leaks (l : Launch) (dC : Nat → ClassId) (dI : Nat → Nat → Nat) (cyI cyO : ClassId) (m0 m1 m2 m3 m4 m5 m6 : Nat) (state : Nat → Int32) (history : Nat → Int32) (recorded : Int32) (slots : Nat → Int32) (isSaved : Nat → Int32) (pad : Nat → Int32) (padLength : Int32) (opened : Nat → Int32) (pos : Int32) (letter : Int32) (first : Int32) (second : Int32) (x1 : Int32) (x2 : Int32) (x3 : Int32) (sz : Nat) (res : Int32 × (Nat → Int32)) (h : fX8_leaks state opened x1 x2 x3 = some res) : Met l yX8_leaks (wsG yX8_leaks cX8_leaks 4 (some .int)) ({ frames := 5, cells := 0, slots := 0, locals := 117 }) (cP dC dI cyI cyO sz [.ref m0, .int x1, .int x2, .int x3] (modelW cyI m0 m1 m2 m3 m4 m5 m6 state history recorded slots isSaved pad padLength opened pos letter first second)) (cI dC dI res.1 (modelW cyI m0 m1 m2 m3 m4 m5 m6 state history recorded slots isSaved pad padLength res.2 pos letter first second) (va_A (modelW cyI m0 m1 m2 m3 m4 m5 m6 state history recorded slots isSaved pad padLength opened pos letter first second) sz)) 0 0 (va_A (modelW cyI m0 m1 m2 m3 m4 m5 m6 state history recorded slots isSaved pad padLength opened pos letter first second) sz) := by
  refine Met.ofW (cc := cX8_leaks) (maxL := 4) (ret := (some .int)) (by decide) rfl ?_
  intro p e s m args below meth c s₁ B hml hv
  obtain ⟨rfl, hsz, hP, hK, hD0⟩ := hv
  have hx := B.exec
  have hb := B.bytes
  have hr := B.returns
  have hts := atoms_spec (ws := wsG yX8_leaks cX8_leaks 4 (some .int)) B.pre
  have hown : s.vm.findClass RX8 = some m.cls := findClass_of_methodNamed B.named
  have hlocks := B.notSynchronized
  subst hsz
  have hD := hD0.self (sz := s.heap.size)
  generalize hAe : va_A (modelW cyI m0 m1 m2 m3 m4 m5 m6 state history recorded slots isSaved pad padLength opened pos letter first second) s.heap.size = A at hD ⊢
  have hA : ∀ q : Nat, s.heap.size ≤ q → A q := fun q h => by rw [← hAe]; exact Or.inr h
  have hS : va_S A s.heap s.heap [] := va_S.rf
  have hl := lv_entry ([.ref m0, .int x1, .int x2, .int x3]) (n := 4) (Nat.le_of_ble_eq_true rfl)
  rw [lg_entry_eq]
  generalize (lg_sl ([.ref m0, .int x1, .int x2, .int x3]) ++ List.replicate (4 - (lg_sl ([.ref m0, .int x1, .int x2, .int x3])).length) Slot.unset).toArray = ls at hl ⊢
  have hl : lv_has ls 4 [(0, .ref m0), (1, .int x1), (2, .int x2), (3, .int x3)] := hl
  unfold fX8_leaks at h
  refine lv_aload_n hx hb dX8_leaks_0 rfl (lv_at hl 0 rfl) ?_
  refine lv_iload_n hx hb dX8_leaks_1 rfl (lv_at hl 1 rfl) ?_
  obtain ⟨q1, e2, h⟩ := ob h
  refine fr_ir (M := (modelW cyI m0 m1 m2 m3 m4 m5 m6 state history recorded slots isSaved pad padLength opened pos letter first second)) (va_runV (As := [.int x1]) (rest := []) ⟨hx, hb, hml, hown, hts⟩ (mX8_isKey l dC dI cyI cyO m0 m1 m2 m3 m4 m5 m6 state history recorded slots isSaved pad padLength opened pos letter first second x1 _ q1 e2) (cwV 1 hts (gV ml_X8_40 im_X8_isKey se_X8_isKey in_X8 co_X8_isKey) rfl rfl rfl (by decide +kernel) ⟨Nat.le_of_ble_eq_true rfl, Nat.le_of_ble_eq_true rfl⟩) (cP_V hK hP hD [0, 1, 2, 3, 4, 5, 6] rfl rfl 0 rfl rfl) rfl rfl hl.1 rfl (lv_room (Nat.le_of_ble_eq_true rfl)) dX8_leaks_2 ⟨Nat.zero_le _, Nat.zero_le _⟩) hP hD hS hA [0, 1, 2, 3, 4, 5, 6] rfl (fun H locs hP hS => ?_)
  refine lv_if_eq (tgt := 16) hx hb dX8_leaks_5 (by decide) (fun c3 => ?_) (fun c3 => ?_)
  · have h := (if_pos c3).symm.trans h
    refine lv_iconst (v := (-1)) hx hb dX8_leaks_16 (by decide) ?_
    obtain rfl := Option.some.inj h
    exact e_i hx hb hr hlocks hP hS dX8_leaks_17
  · have h := (if_neg c3).symm.trans h
    refine lv_aload_n hx hb dX8_leaks_8 rfl (lv_at hl 0 rfl) ?_
    refine lv_iload_n hx hb dX8_leaks_9 rfl (lv_at hl 1 rfl) ?_
    obtain ⟨q4, e5, h⟩ := ob h
    refine fr_ir (M := (modelW cyI m0 m1 m2 m3 m4 m5 m6 state history recorded slots isSaved pad padLength opened pos letter first second)) (va_runV (As := [.int x1]) (rest := []) ⟨hx, hb, hml, hown, hts⟩ (mX8_isRoot l dC dI cyI cyO m0 m1 m2 m3 m4 m5 m6 state history recorded slots isSaved pad padLength opened pos letter first second x1 _ q4 e5) (cwV 1 hts (gV ml_X8_84 im_X8_isRoot se_X8_isRoot in_X8 co_X8_isRoot) rfl rfl rfl (by decide +kernel) ⟨Nat.le_of_ble_eq_true rfl, Nat.le_of_ble_eq_true rfl⟩) (cP_V hK hP hD [0, 1, 2, 3, 4, 5, 6] rfl rfl 0 rfl rfl) rfl rfl hl.1 rfl (lv_room (Nat.le_of_ble_eq_true rfl)) dX8_leaks_10 ⟨Nat.zero_le _, Nat.zero_le _⟩) hP hD hS hA [0, 1, 2, 3, 4, 5, 6] rfl (fun H locs hP hS => ?_)
    refine lv_if_ne (tgt := 18) hx hb dX8_leaks_13 (by decide) (fun c6 => ?_) (fun c6 => ?_)
    · have h := (if_neg c6).symm.trans h
      refine lv_iload_n hx hb dX8_leaks_18 rfl (lv_at hl 2 rfl) ?_
      refine lv_if_lt (tgt := 32) hx hb dX8_leaks_19 (by decide) (fun c7 => ?_) (fun c7 => ?_)
      · have h := (if_pos c7).symm.trans h
        refine lv_bipush (v := (-2)) hx hb dX8_leaks_32 (by decide) ?_
        obtain rfl := Option.some.inj h
        exact e_i hx hb hr hlocks hP hS dX8_leaks_34
      · have h := (if_neg c7).symm.trans h
        refine lv_iload_n hx hb dX8_leaks_22 rfl (lv_at hl 3 rfl) ?_
        refine lv_iconst (v := 0) hx hb dX8_leaks_23 (by decide) ?_
        refine lv_bipush (v := 7) hx hb dX8_leaks_24 (by decide) ?_
        refine fr_ir (M := ([] : va_W)) (va_runS (As := [.int x3, .int 0, .int 7]) (rest := []) ⟨hx, hb, hml, hown, hts⟩ (mX8_within l dC dI cyI cyO x3 0 7 _ (fX8_within x3 0 7) rfl) (va_cwS 3 hts (gS ml_X8_36 st_X8_within in_X8 co_X8_within) rfl rfl rfl (by decide +kernel) ⟨Nat.le_of_ble_eq_true rfl, Nat.le_of_ble_eq_true rfl⟩) (cP_S hK hP hD [] rfl rfl) rfl rfl hl.1 rfl (lv_room (Nat.le_of_ble_eq_true rfl)) dX8_leaks_26 ⟨Nat.zero_le _, Nat.zero_le _⟩) hP hD hS hA [] rfl (fun H locs hP hS => ?_)
        refine lv_if_ne (tgt := 35) hx hb dX8_leaks_29 (by decide) (fun c8 => ?_) (fun c8 => ?_)
        · have h := (if_neg c8).symm.trans h
          refine lv_aload_n hx hb dX8_leaks_35 rfl (lv_at hl 0 rfl) ?_
          refine lv_iload_n hx hb dX8_leaks_36 rfl (lv_at hl 3 rfl) ?_
          refine lv_iload_n hx hb dX8_leaks_37 rfl (lv_at hl 1 rfl) ?_
          refine lv_iload_n hx hb dX8_leaks_38 rfl (lv_at hl 2 rfl) ?_
          obtain ⟨q9, e10, h⟩ := ob h
          refine fr_v (M := (modelW cyI m0 m1 m2 m3 m4 m5 m6 state history recorded slots isSaved pad padLength opened pos letter first second)) (M' := (modelW cyI m0 m1 m2 m3 m4 m5 m6 state history recorded slots isSaved pad padLength q9 pos letter first second)) (L' := (modelW cyI m0 m1 m2 m3 m4 m5 m6 state history recorded slots isSaved pad padLength q9 pos letter first second)) (va_runV (As := [.int x3, .int x1, .int x2]) (rest := []) ⟨hx, hb, hml, hown, hts⟩ (mX8_open l dC dI cyI cyO m0 m1 m2 m3 m4 m5 m6 state history recorded slots isSaved pad padLength opened pos letter first second x3 x1 x2 _ q9 e10) (cwV 3 hts (gV ml_X8_95 im_X8_open se_X8_open in_X8 co_X8_open) rfl rfl rfl (by decide +kernel) ⟨Nat.le_of_ble_eq_true rfl, Nat.le_of_ble_eq_true rfl⟩) (cP_V hK hP hD [0, 1, 2, 3, 4, 5, 6] rfl rfl 0 rfl rfl) rfl rfl hl.1 rfl (lv_room (Nat.le_of_ble_eq_true rfl)) dX8_leaks_39 ⟨Nat.zero_le _, Nat.zero_le _⟩) hP hD hS hA [0, 1, 2, 3, 4, 5, 6] rfl [(true, 0), (true, 1), (true, 2), (true, 3), (true, 4), (true, 5), (true, 6)] rfl rfl rfl (fun H locs hP hD hS => ?_)
          refine lv_aload_n hx hb dX8_leaks_42 rfl (lv_at hl 0 rfl) ?_
          obtain ⟨q11, e12, h⟩ := ob h
          refine fr_ir (M := (modelW cyI m0 m1 m2 m3 m4 m5 m6 state history recorded slots isSaved pad padLength q9 pos letter first second)) (va_runV (As := []) (rest := []) ⟨hx, hb, hml, hown, hts⟩ (mX8_openBoxes l dC dI cyI cyO m0 m1 m2 m3 m4 m5 m6 state history recorded slots isSaved pad padLength q9 pos letter first second _ q11 e12) (cwV 0 hts (gV ml_X8_98 im_X8_openBoxes se_X8_openBoxes in_X8 co_X8_openBoxes) rfl rfl rfl (by decide +kernel) ⟨Nat.le_of_ble_eq_true rfl, Nat.le_of_ble_eq_true rfl⟩) (cP_V hK hP hD [0, 1, 2, 3, 4, 5, 6] rfl rfl 0 rfl rfl) rfl rfl hl.1 rfl (lv_room (Nat.le_of_ble_eq_true rfl)) dX8_leaks_43 ⟨Nat.zero_le _, Nat.zero_le _⟩) hP hD hS hA [0, 1, 2, 3, 4, 5, 6] rfl (fun H locs hP hS => ?_)
          obtain rfl := Option.some.inj h
          exact e_i hx hb hr hlocks hP hS dX8_leaks_46
        · have h := (if_pos c8).symm.trans h
          refine lv_bipush (v := (-2)) hx hb dX8_leaks_32 (by decide) ?_
          obtain rfl := Option.some.inj h
          exact e_i hx hb hr hlocks hP hS dX8_leaks_34
    · have h := (if_pos c6).symm.trans h
      refine lv_iconst (v := (-1)) hx hb dX8_leaks_16 (by decide) ?_
      obtain rfl := Option.some.inj h
      exact e_i hx hb hr hlocks hP hS dX8_leaks_17
noncomputable def fX8_lostBy_b14 : Nat → (Nat → Int32) → Int32 → Int32 → Int32 → Option (Int32)
  | 0, _, _, _, _ => none
  | fuel + 1, state, y1, y2, y3 =>
  (if (2 : Int32) < 0 ∨ 844 ≤ (2 : Int32).toNatClampNeg then none else (if (state (2 : Int32).toNatClampNeg) ≤ y3 then (some y2) else ((fX8_boxPart state y3 1).bind fun q3 => (if q3 = 1 then ((fX8_boxPart state y3 0).bind fun q6 => ((fX8_isUnder state q6 y1).bind fun q8 => (if q8 = 0 then fX8_lostBy_b14 fuel state y1 (y2 ||| 0) (y3 + 1) else fX8_lostBy_b14 fuel state y1 (y2 ||| (1 <<< (y3 &&& 31))) (y3 + 1)))) else fX8_lostBy_b14 fuel state y1 (y2 ||| 0) (y3 + 1)))))

noncomputable def fX8_lostBy (state : Nat → Int32) (x1 : Int32) : Option (Int32) :=
  ((fX8_isLiveKey state x1).bind fun q11 => (if q11 = 0 then (some (-1)) else fX8_lostBy_b14 6000 state x1 0 0))
set_option maxHeartbeats 1000000 in
set_option maxRecDepth 100000 in
theorem mX8_lostBy (l : Launch) (dC : Nat → ClassId) (dI : Nat → Nat → Nat) (cyI cyO : ClassId) (m0 m1 m2 m3 m4 m5 m6 : Nat) (state : Nat → Int32) (history : Nat → Int32) (recorded : Int32) (slots : Nat → Int32) (isSaved : Nat → Int32) (pad : Nat → Int32) (padLength : Int32) (opened : Nat → Int32) (pos : Int32) (letter : Int32) (first : Int32) (second : Int32) (x1 : Int32) (sz : Nat) (res : Int32) (h : fX8_lostBy state x1 = some res) : Met l yX8_lostBy (wsG yX8_lostBy cX8_lostBy 4 (some .int)) ({ frames := 3, cells := 0, slots := 0, locals := 64 }) (cP dC dI cyI cyO sz [.ref m0, .int x1] (modelW cyI m0 m1 m2 m3 m4 m5 m6 state history recorded slots isSaved pad padLength opened pos letter first second)) (cI dC dI res (modelW cyI m0 m1 m2 m3 m4 m5 m6 state history recorded slots isSaved pad padLength opened pos letter first second) (va_A (modelW cyI m0 m1 m2 m3 m4 m5 m6 state history recorded slots isSaved pad padLength opened pos letter first second) sz)) 0 0 (va_A (modelW cyI m0 m1 m2 m3 m4 m5 m6 state history recorded slots isSaved pad padLength opened pos letter first second) sz) := by
  refine Met.ofW (cc := cX8_lostBy) (maxL := 4) (ret := (some .int)) (by decide) rfl ?_
  intro p e s m args below meth c s₁ B hml hv
  obtain ⟨rfl, hsz, hP, hK, hD0⟩ := hv
  have hx := B.exec
  have hb := B.bytes
  have hr := B.returns
  have hts := atoms_spec (ws := wsG yX8_lostBy cX8_lostBy 4 (some .int)) B.pre
  have hown : s.vm.findClass RX8 = some m.cls := findClass_of_methodNamed B.named
  have hlocks := B.notSynchronized
  subst hsz
  have hD := hD0.self (sz := s.heap.size)
  generalize hAe : va_A (modelW cyI m0 m1 m2 m3 m4 m5 m6 state history recorded slots isSaved pad padLength opened pos letter first second) s.heap.size = A at hD ⊢
  have hA : ∀ q : Nat, s.heap.size ≤ q → A q := fun q h => by rw [← hAe]; exact Or.inr h
  have hS : va_S A s.heap s.heap [] := va_S.rf
  have kB14 : ∀ (fuel : Nat) (state : Nat → Int32) (y1 : Int32) (y2 : Int32) (y3 : Int32), fX8_lostBy_b14 fuel state y1 y2 y3 = some res → ∀ (H : Heap) (locs : List Loc), va_P (dC, dI) vwCl (modelW cyI m0 m1 m2 m3 m4 m5 m6 state history recorded slots isSaved pad padLength opened pos letter first second) H → va_D A (modelW cyI m0 m1 m2 m3 m4 m5 m6 state history recorded slots isSaved pad padLength opened pos letter first second) → va_S A s.heap H locs → ∀ ls : Array Slot, lv_has ls 4 [(0, .ref m0), (1, .int y1), (2, .int y2), (3, .int y3)] → W p l e (headSpec (wsG yX8_lostBy cX8_lostBy 4 (some .int)) ({ frames := 3, cells := 0, slots := 0, locals := 64 })).room s m (([.ref m0, .int x1] : List Value).toArray) below meth c H locs 0 0 (MQ below (cI dC dI res (modelW cyI m0 m1 m2 m3 m4 m5 m6 state history recorded slots isSaved pad padLength opened pos letter first second) A) ([.ref m0, .int x1] : List Value).toArray s 0 0 A) (F0 m 14 ls []) := by
    intro fuel
    induction fuel with
    | zero => intro state y1 y2 y3 h; rw [fX8_lostBy_b14] at h; cases h
    | succ fuel ih =>
      intro state y1 y2 y3 h H locs hP hD hS ls hl
      rw [fX8_lostBy_b14] at h
      refine lv_iload_n hx hb dX8_lostBy_14 rfl (lv_at hl 3 rfl) ?_
      refine lv_aload_n hx hb dX8_lostBy_15 rfl (lv_at hl 0 rfl) ?_
      refine va_get (D := (dC, dI)) (ci := 8) (v := .ref m1) (C := RX8) (T := TX8) (N := 12) hx hb hts (fun w h9 => gb_mem (lay_X8 w h9)) hown hK.1 hP 0 rfl rfl 0 (by decide) (hts _ (gb_mem fl_X8_7)) (fun _ h9 => h9) rfl dX8_lostBy_16 ?_
      refine lv_iconst (v := 2) hx hb dX8_lostBy_19 (by decide) ?_
      obtain ⟨ni1, h⟩ := ifn h
      refine va_iald hx hb hK.1 hP 1 0 rfl rfl ni1 dX8_lostBy_20 ?_
      refine lv_icmp_ge (tgt := 64) hx hb dX8_lostBy_21 (by decide) (fun c2 => ?_) (fun c2 => ?_)
      · have h := (if_pos c2).symm.trans h
        refine lv_iload_n hx hb dX8_lostBy_64 rfl (lv_at hl 2 rfl) ?_
        obtain rfl := Option.some.inj h
        exact e_i hx hb hr hlocks hP hS dX8_lostBy_65
      · have h := (if_neg c2).symm.trans h
        refine lv_iload_n hx hb dX8_lostBy_24 rfl (lv_at hl 2 rfl) ?_
        refine lv_aload_n hx hb dX8_lostBy_25 rfl (lv_at hl 0 rfl) ?_
        refine lv_iload_n hx hb dX8_lostBy_26 rfl (lv_at hl 3 rfl) ?_
        refine lv_iconst (v := 1) hx hb dX8_lostBy_27 (by decide) ?_
        obtain ⟨q3, e4, h⟩ := ob h
        refine fr_ir (M := (modelW cyI m0 m1 m2 m3 m4 m5 m6 state history recorded slots isSaved pad padLength opened pos letter first second)) (va_runV (As := [.int y3, .int 1]) (rest := [.int y2]) ⟨hx, hb, hml, hown, hts⟩ (mX8_boxPart l dC dI cyI cyO m0 m1 m2 m3 m4 m5 m6 state history recorded slots isSaved pad padLength opened pos letter first second y3 1 _ q3 e4) (cwV 2 hts (gV ml_X8_51 im_X8_boxPart se_X8_boxPart in_X8 co_X8_boxPart) rfl rfl rfl (by decide +kernel) ⟨Nat.le_of_ble_eq_true rfl, Nat.le_of_ble_eq_true rfl⟩) (cP_V hK hP hD [0, 1, 2, 3, 4, 5, 6] rfl rfl 0 rfl rfl) rfl rfl hl.1 rfl (lv_room (Nat.le_of_ble_eq_true rfl)) dX8_lostBy_28 ⟨Nat.zero_le _, Nat.zero_le _⟩) hP hD hS hA [0, 1, 2, 3, 4, 5, 6] rfl (fun H locs hP hS => ?_)
        refine lv_iconst (v := 1) hx hb dX8_lostBy_31 (by decide) ?_
        refine lv_icmp_ne (tgt := 55) hx hb dX8_lostBy_32 (by decide) (fun c5 => ?_) (fun c5 => ?_)
        · have h := (if_neg c5).symm.trans h
          refine lv_iconst (v := 0) hx hb dX8_lostBy_55 (by decide) ?_
          refine lv_ior hx hb dX8_lostBy_56 ?_
          refine lv_istore_n (lv' := [(2, .int (y2 ||| 0)), (0, .ref m0), (1, .int y1), (3, .int y3)]) hx hb dX8_lostBy_57 rfl hl (by decide) rfl (fun ls hl => ?_)
          refine lv_iinc (v := (y3 + 1)) (lv' := [(3, .int (y3 + 1)), (2, .int (y2 ||| 0)), (0, .ref m0), (1, .int y1)]) hx hb dX8_lostBy_58 hl (k := 3) rfl rfl (by decide) rfl (fun ls hl => ?_)
          refine lv_goto (tgt := 14) hx hb dX8_lostBy_61 (by decide) ?_
          exact ih state y1 (y2 ||| 0) (y3 + 1) h _ _ hP hD hS ls (lv_sub hl [2, 3, 1, 0] rfl)
        · have h := (if_pos c5).symm.trans h
          refine lv_aload_n hx hb dX8_lostBy_35 rfl (lv_at hl 0 rfl) ?_
          refine lv_aload_n hx hb dX8_lostBy_36 rfl (lv_at hl 0 rfl) ?_
          refine lv_iload_n hx hb dX8_lostBy_37 rfl (lv_at hl 3 rfl) ?_
          refine lv_iconst (v := 0) hx hb dX8_lostBy_38 (by decide) ?_
          obtain ⟨q6, e7, h⟩ := ob h
          refine fr_ir (M := (modelW cyI m0 m1 m2 m3 m4 m5 m6 state history recorded slots isSaved pad padLength opened pos letter first second)) (va_runV (As := [.int y3, .int 0]) (rest := [.ref m0, .int y2]) ⟨hx, hb, hml, hown, hts⟩ (mX8_boxPart l dC dI cyI cyO m0 m1 m2 m3 m4 m5 m6 state history recorded slots isSaved pad padLength opened pos letter first second y3 0 _ q6 e7) (cwV 2 hts (gV ml_X8_51 im_X8_boxPart se_X8_boxPart in_X8 co_X8_boxPart) rfl rfl rfl (by decide +kernel) ⟨Nat.le_of_ble_eq_true rfl, Nat.le_of_ble_eq_true rfl⟩) (cP_V hK hP hD [0, 1, 2, 3, 4, 5, 6] rfl rfl 0 rfl rfl) rfl rfl hl.1 rfl (lv_room (Nat.le_of_ble_eq_true rfl)) dX8_lostBy_39 ⟨Nat.zero_le _, Nat.zero_le _⟩) hP hD hS hA [0, 1, 2, 3, 4, 5, 6] rfl (fun H locs hP hS => ?_)
          refine lv_iload_n hx hb dX8_lostBy_42 rfl (lv_at hl 1 rfl) ?_
          obtain ⟨q8, e9, h⟩ := ob h
          refine fr_ir (M := (modelW cyI m0 m1 m2 m3 m4 m5 m6 state history recorded slots isSaved pad padLength opened pos letter first second)) (va_runV (As := [.int q6, .int y1]) (rest := [.int y2]) ⟨hx, hb, hml, hown, hts⟩ (mX8_isUnder l dC dI cyI cyO m0 m1 m2 m3 m4 m5 m6 state history recorded slots isSaved pad padLength opened pos letter first second q6 y1 _ q8 e9) (cwV 2 hts (gV ml_X8_165 im_X8_isUnder se_X8_isUnder in_X8 co_X8_isUnder) rfl rfl rfl (by decide +kernel) ⟨Nat.le_of_ble_eq_true rfl, Nat.le_of_ble_eq_true rfl⟩) (cP_V hK hP hD [0, 1, 2, 3, 4, 5, 6] rfl rfl 0 rfl rfl) rfl rfl hl.1 rfl (lv_room (Nat.le_of_ble_eq_true rfl)) dX8_lostBy_43 ⟨Nat.zero_le _, Nat.zero_le _⟩) hP hD hS hA [0, 1, 2, 3, 4, 5, 6] rfl (fun H locs hP hS => ?_)
          refine lv_if_eq (tgt := 55) hx hb dX8_lostBy_46 (by decide) (fun c10 => ?_) (fun c10 => ?_)
          · have h := (if_pos c10).symm.trans h
            refine lv_iconst (v := 0) hx hb dX8_lostBy_55 (by decide) ?_
            refine lv_ior hx hb dX8_lostBy_56 ?_
            refine lv_istore_n (lv' := [(2, .int (y2 ||| 0)), (0, .ref m0), (1, .int y1), (3, .int y3)]) hx hb dX8_lostBy_57 rfl hl (by decide) rfl (fun ls hl => ?_)
            refine lv_iinc (v := (y3 + 1)) (lv' := [(3, .int (y3 + 1)), (2, .int (y2 ||| 0)), (0, .ref m0), (1, .int y1)]) hx hb dX8_lostBy_58 hl (k := 3) rfl rfl (by decide) rfl (fun ls hl => ?_)
            refine lv_goto (tgt := 14) hx hb dX8_lostBy_61 (by decide) ?_
            exact ih state y1 (y2 ||| 0) (y3 + 1) h _ _ hP hD hS ls (lv_sub hl [2, 3, 1, 0] rfl)
          · have h := (if_neg c10).symm.trans h
            refine lv_iconst (v := 1) hx hb dX8_lostBy_49 (by decide) ?_
            refine lv_iload_n hx hb dX8_lostBy_50 rfl (lv_at hl 3 rfl) ?_
            refine lv_ishl hx hb dX8_lostBy_51 ?_
            refine lv_goto (tgt := 56) hx hb dX8_lostBy_52 (by decide) ?_
            refine lv_ior hx hb dX8_lostBy_56 ?_
            refine lv_istore_n (lv' := [(2, .int (y2 ||| (1 <<< (y3 &&& 31)))), (0, .ref m0), (1, .int y1), (3, .int y3)]) hx hb dX8_lostBy_57 rfl hl (by decide) rfl (fun ls hl => ?_)
            refine lv_iinc (v := (y3 + 1)) (lv' := [(3, .int (y3 + 1)), (2, .int (y2 ||| (1 <<< (y3 &&& 31)))), (0, .ref m0), (1, .int y1)]) hx hb dX8_lostBy_58 hl (k := 3) rfl rfl (by decide) rfl (fun ls hl => ?_)
            refine lv_goto (tgt := 14) hx hb dX8_lostBy_61 (by decide) ?_
            exact ih state y1 (y2 ||| (1 <<< (y3 &&& 31))) (y3 + 1) h _ _ hP hD hS ls (lv_sub hl [2, 3, 1, 0] rfl)
  have hl := lv_entry ([.ref m0, .int x1]) (n := 4) (Nat.le_of_ble_eq_true rfl)
  rw [lg_entry_eq]
  generalize (lg_sl ([.ref m0, .int x1]) ++ List.replicate (4 - (lg_sl ([.ref m0, .int x1])).length) Slot.unset).toArray = ls at hl ⊢
  have hl : lv_has ls 4 [(0, .ref m0), (1, .int x1)] := hl
  unfold fX8_lostBy at h
  refine lv_aload_n hx hb dX8_lostBy_0 rfl (lv_at hl 0 rfl) ?_
  refine lv_iload_n hx hb dX8_lostBy_1 rfl (lv_at hl 1 rfl) ?_
  obtain ⟨q11, e12, h⟩ := ob h
  refine fr_ir (M := (modelW cyI m0 m1 m2 m3 m4 m5 m6 state history recorded slots isSaved pad padLength opened pos letter first second)) (va_runV (As := [.int x1]) (rest := []) ⟨hx, hb, hml, hown, hts⟩ (mX8_isLiveKey l dC dI cyI cyO m0 m1 m2 m3 m4 m5 m6 state history recorded slots isSaved pad padLength opened pos letter first second x1 _ q11 e12) (cwV 1 hts (gV ml_X8_105 im_X8_isLiveKey se_X8_isLiveKey in_X8 co_X8_isLiveKey) rfl rfl rfl (by decide +kernel) ⟨Nat.le_of_ble_eq_true rfl, Nat.le_of_ble_eq_true rfl⟩) (cP_V hK hP hD [0, 1, 2, 3, 4, 5, 6] rfl rfl 0 rfl rfl) rfl rfl hl.1 rfl (lv_room (Nat.le_of_ble_eq_true rfl)) dX8_lostBy_2 ⟨Nat.zero_le _, Nat.zero_le _⟩) hP hD hS hA [0, 1, 2, 3, 4, 5, 6] rfl (fun H locs hP hS => ?_)
  refine lv_if_ne (tgt := 10) hx hb dX8_lostBy_5 (by decide) (fun c13 => ?_) (fun c13 => ?_)
  · have h := (if_neg c13).symm.trans h
    refine lv_iconst (v := 0) hx hb dX8_lostBy_10 (by decide) ?_
    refine lv_istore_n (lv' := [(2, .int 0), (0, .ref m0), (1, .int x1)]) hx hb dX8_lostBy_11 rfl hl (by decide) rfl (fun ls hl => ?_)
    refine lv_iconst (v := 0) hx hb dX8_lostBy_12 (by decide) ?_
    refine lv_istore_n (lv' := [(3, .int 0), (2, .int 0), (0, .ref m0), (1, .int x1)]) hx hb dX8_lostBy_13 rfl hl (by decide) rfl (fun ls hl => ?_)
    exact kB14 6000 state x1 0 0 h _ _ hP hD hS ls (lv_sub hl [2, 3, 1, 0] rfl)
  · have h := (if_pos c13).symm.trans h
    refine lv_iconst (v := (-1)) hx hb dX8_lostBy_8 (by decide) ?_
    obtain rfl := Option.some.inj h
    exact e_i hx hb hr hlocks hP hS dX8_lostBy_9

noncomputable def fX8_throwingMakes (state : Nat → Int32) (x1 : Int32) (x2 : Int32) : Option (Int32) :=
  (if (fX8_within x1 0 1) = 0 then (some (-2)) else (if x1 = 0 then ((fX8_isLiveKey state x2).bind fun q15 => (if q15 = 0 then (some (-1)) else (if x1 = 0 then ((fX8_keyPart state x2 0).bind fun q23 => ((fX8_throwMakes state q23).bind fun q25 => (some q25))) else ((fX8_boxPart state x2 0).bind fun q19 => ((fX8_throwMakes state q19).bind fun q21 => (some q21)))))) else ((fX8_isLiveBox state x2).bind fun q3 => (if q3 = 0 then (some (-1)) else (if x1 = 0 then ((fX8_keyPart state x2 0).bind fun q11 => ((fX8_throwMakes state q11).bind fun q13 => (some q13))) else ((fX8_boxPart state x2 0).bind fun q7 => ((fX8_throwMakes state q7).bind fun q9 => (some q9))))))))
set_option maxHeartbeats 1000000 in
set_option maxRecDepth 100000 in
theorem mX8_throwingMakes (l : Launch) (dC : Nat → ClassId) (dI : Nat → Nat → Nat) (cyI cyO : ClassId) (m0 m1 m2 m3 m4 m5 m6 : Nat) (state : Nat → Int32) (history : Nat → Int32) (recorded : Int32) (slots : Nat → Int32) (isSaved : Nat → Int32) (pad : Nat → Int32) (padLength : Int32) (opened : Nat → Int32) (pos : Int32) (letter : Int32) (first : Int32) (second : Int32) (x1 : Int32) (x2 : Int32) (sz : Nat) (res : Int32) (h : fX8_throwingMakes state x1 x2 = some res) : Met l yX8_throwingMakes (wsG yX8_throwingMakes cX8_throwingMakes 3 (some .int)) ({ frames := 4, cells := 0, slots := 0, locals := 91 }) (cP dC dI cyI cyO sz [.ref m0, .int x1, .int x2] (modelW cyI m0 m1 m2 m3 m4 m5 m6 state history recorded slots isSaved pad padLength opened pos letter first second)) (cI dC dI res (modelW cyI m0 m1 m2 m3 m4 m5 m6 state history recorded slots isSaved pad padLength opened pos letter first second) (va_A (modelW cyI m0 m1 m2 m3 m4 m5 m6 state history recorded slots isSaved pad padLength opened pos letter first second) sz)) 0 0 (va_A (modelW cyI m0 m1 m2 m3 m4 m5 m6 state history recorded slots isSaved pad padLength opened pos letter first second) sz) := by
  refine Met.ofW (cc := cX8_throwingMakes) (maxL := 3) (ret := (some .int)) (by decide) rfl ?_
  intro p e s m args below meth c s₁ B hml hv
  obtain ⟨rfl, hsz, hP, hK, hD0⟩ := hv
  have hx := B.exec
  have hb := B.bytes
  have hr := B.returns
  have hts := atoms_spec (ws := wsG yX8_throwingMakes cX8_throwingMakes 3 (some .int)) B.pre
  have hown : s.vm.findClass RX8 = some m.cls := findClass_of_methodNamed B.named
  have hlocks := B.notSynchronized
  subst hsz
  have hD := hD0.self (sz := s.heap.size)
  generalize hAe : va_A (modelW cyI m0 m1 m2 m3 m4 m5 m6 state history recorded slots isSaved pad padLength opened pos letter first second) s.heap.size = A at hD ⊢
  have hA : ∀ q : Nat, s.heap.size ≤ q → A q := fun q h => by rw [← hAe]; exact Or.inr h
  have hS : va_S A s.heap s.heap [] := va_S.rf
  have hl := lv_entry ([.ref m0, .int x1, .int x2]) (n := 3) (Nat.le_of_ble_eq_true rfl)
  rw [lg_entry_eq]
  generalize (lg_sl ([.ref m0, .int x1, .int x2]) ++ List.replicate (3 - (lg_sl ([.ref m0, .int x1, .int x2])).length) Slot.unset).toArray = ls at hl ⊢
  have hl : lv_has ls 3 [(0, .ref m0), (1, .int x1), (2, .int x2)] := hl
  unfold fX8_throwingMakes at h
  refine lv_iload_n hx hb dX8_throwingMakes_0 rfl (lv_at hl 1 rfl) ?_
  refine lv_iconst (v := 0) hx hb dX8_throwingMakes_1 (by decide) ?_
  refine lv_iconst (v := 1) hx hb dX8_throwingMakes_2 (by decide) ?_
  refine fr_ir (M := ([] : va_W)) (va_runS (As := [.int x1, .int 0, .int 1]) (rest := []) ⟨hx, hb, hml, hown, hts⟩ (mX8_within l dC dI cyI cyO x1 0 1 _ (fX8_within x1 0 1) rfl) (va_cwS 3 hts (gS ml_X8_36 st_X8_within in_X8 co_X8_within) rfl rfl rfl (by decide +kernel) ⟨Nat.le_of_ble_eq_true rfl, Nat.le_of_ble_eq_true rfl⟩) (cP_S hK hP hD [] rfl rfl) rfl rfl hl.1 rfl (lv_room (Nat.le_of_ble_eq_true rfl)) dX8_throwingMakes_3 ⟨Nat.zero_le _, Nat.zero_le _⟩) hP hD hS hA [] rfl (fun H locs hP hS => ?_)
  refine lv_if_ne (tgt := 12) hx hb dX8_throwingMakes_6 (by decide) (fun c1 => ?_) (fun c1 => ?_)
  · have h := (if_neg c1).symm.trans h
    refine lv_iload_n hx hb dX8_throwingMakes_12 rfl (lv_at hl 1 rfl) ?_
    refine lv_if_ne (tgt := 27) hx hb dX8_throwingMakes_13 (by decide) (fun c2 => ?_) (fun c2 => ?_)
    · have h := (if_neg c2).symm.trans h
      refine lv_aload_n hx hb dX8_throwingMakes_27 rfl (lv_at hl 0 rfl) ?_
      refine lv_iload_n hx hb dX8_throwingMakes_28 rfl (lv_at hl 2 rfl) ?_
      obtain ⟨q3, e4, h⟩ := ob h
      refine fr_ir (M := (modelW cyI m0 m1 m2 m3 m4 m5 m6 state history recorded slots isSaved pad padLength opened pos letter first second)) (va_runV (As := [.int x2]) (rest := []) ⟨hx, hb, hml, hown, hts⟩ (mX8_isLiveBox l dC dI cyI cyO m0 m1 m2 m3 m4 m5 m6 state history recorded slots isSaved pad padLength opened pos letter first second x2 _ q3 e4) (cwV 1 hts (gV ml_X8_177 im_X8_isLiveBox se_X8_isLiveBox in_X8 co_X8_isLiveBox) rfl rfl rfl (by decide +kernel) ⟨Nat.le_of_ble_eq_true rfl, Nat.le_of_ble_eq_true rfl⟩) (cP_V hK hP hD [0, 1, 2, 3, 4, 5, 6] rfl rfl 0 rfl rfl) rfl rfl hl.1 rfl (lv_room (Nat.le_of_ble_eq_true rfl)) dX8_throwingMakes_29 ⟨Nat.zero_le _, Nat.zero_le _⟩) hP hD hS hA [0, 1, 2, 3, 4, 5, 6] rfl (fun H locs hP hS => ?_)
      refine lv_if_ne (tgt := 37) hx hb dX8_throwingMakes_32 (by decide) (fun c5 => ?_) (fun c5 => ?_)
      · have h := (if_neg c5).symm.trans h
        refine lv_aload_n hx hb dX8_throwingMakes_37 rfl (lv_at hl 0 rfl) ?_
        refine lv_iload_n hx hb dX8_throwingMakes_38 rfl (lv_at hl 1 rfl) ?_
        refine lv_if_ne (tgt := 51) hx hb dX8_throwingMakes_39 (by decide) (fun c6 => ?_) (fun c6 => ?_)
        · have h := (if_neg c6).symm.trans h
          refine lv_aload_n hx hb dX8_throwingMakes_51 rfl (lv_at hl 0 rfl) ?_
          refine lv_iload_n hx hb dX8_throwingMakes_52 rfl (lv_at hl 2 rfl) ?_
          refine lv_iconst (v := 0) hx hb dX8_throwingMakes_53 (by decide) ?_
          obtain ⟨q7, e8, h⟩ := ob h
          refine fr_ir (M := (modelW cyI m0 m1 m2 m3 m4 m5 m6 state history recorded slots isSaved pad padLength opened pos letter first second)) (va_runV (As := [.int x2, .int 0]) (rest := [.ref m0]) ⟨hx, hb, hml, hown, hts⟩ (mX8_boxPart l dC dI cyI cyO m0 m1 m2 m3 m4 m5 m6 state history recorded slots isSaved pad padLength opened pos letter first second x2 0 _ q7 e8) (cwV 2 hts (gV ml_X8_51 im_X8_boxPart se_X8_boxPart in_X8 co_X8_boxPart) rfl rfl rfl (by decide +kernel) ⟨Nat.le_of_ble_eq_true rfl, Nat.le_of_ble_eq_true rfl⟩) (cP_V hK hP hD [0, 1, 2, 3, 4, 5, 6] rfl rfl 0 rfl rfl) rfl rfl hl.1 rfl (lv_room (Nat.le_of_ble_eq_true rfl)) dX8_throwingMakes_54 ⟨Nat.zero_le _, Nat.zero_le _⟩) hP hD hS hA [0, 1, 2, 3, 4, 5, 6] rfl (fun H locs hP hS => ?_)
          obtain ⟨q9, e10, h⟩ := ob h
          refine fr_ir (M := (modelW cyI m0 m1 m2 m3 m4 m5 m6 state history recorded slots isSaved pad padLength opened pos letter first second)) (va_runV (As := [.int q7]) (rest := []) ⟨hx, hb, hml, hown, hts⟩ (mX8_throwMakes l dC dI cyI cyO m0 m1 m2 m3 m4 m5 m6 state history recorded slots isSaved pad padLength opened pos letter first second q7 _ q9 e10) (cwV 1 hts (gV ml_X8_153 im_X8_throwMakes se_X8_throwMakes in_X8 co_X8_throwMakes) rfl rfl rfl (by decide +kernel) ⟨Nat.le_of_ble_eq_true rfl, Nat.le_of_ble_eq_true rfl⟩) (cP_V hK hP hD [0, 1, 2, 3, 4, 5, 6] rfl rfl 0 rfl rfl) rfl rfl hl.1 rfl (lv_room (Nat.le_of_ble_eq_true rfl)) dX8_throwingMakes_57 ⟨Nat.zero_le _, Nat.zero_le _⟩) hP hD hS hA [0, 1, 2, 3, 4, 5, 6] rfl (fun H locs hP hS => ?_)
          obtain rfl := Option.some.inj h
          exact e_i hx hb hr hlocks hP hS dX8_throwingMakes_60
        · have h := (if_pos c6).symm.trans h
          refine lv_aload_n hx hb dX8_throwingMakes_42 rfl (lv_at hl 0 rfl) ?_
          refine lv_iload_n hx hb dX8_throwingMakes_43 rfl (lv_at hl 2 rfl) ?_
          refine lv_iconst (v := 0) hx hb dX8_throwingMakes_44 (by decide) ?_
          obtain ⟨q11, e12, h⟩ := ob h
          refine fr_ir (M := (modelW cyI m0 m1 m2 m3 m4 m5 m6 state history recorded slots isSaved pad padLength opened pos letter first second)) (va_runV (As := [.int x2, .int 0]) (rest := [.ref m0]) ⟨hx, hb, hml, hown, hts⟩ (mX8_keyPart l dC dI cyI cyO m0 m1 m2 m3 m4 m5 m6 state history recorded slots isSaved pad padLength opened pos letter first second x2 0 _ q11 e12) (cwV 2 hts (gV ml_X8_44 im_X8_keyPart se_X8_keyPart in_X8 co_X8_keyPart) rfl rfl rfl (by decide +kernel) ⟨Nat.le_of_ble_eq_true rfl, Nat.le_of_ble_eq_true rfl⟩) (cP_V hK hP hD [0, 1, 2, 3, 4, 5, 6] rfl rfl 0 rfl rfl) rfl rfl hl.1 rfl (lv_room (Nat.le_of_ble_eq_true rfl)) dX8_throwingMakes_45 ⟨Nat.zero_le _, Nat.zero_le _⟩) hP hD hS hA [0, 1, 2, 3, 4, 5, 6] rfl (fun H locs hP hS => ?_)
          refine lv_goto (tgt := 57) hx hb dX8_throwingMakes_48 (by decide) ?_
          obtain ⟨q13, e14, h⟩ := ob h
          refine fr_ir (M := (modelW cyI m0 m1 m2 m3 m4 m5 m6 state history recorded slots isSaved pad padLength opened pos letter first second)) (va_runV (As := [.int q11]) (rest := []) ⟨hx, hb, hml, hown, hts⟩ (mX8_throwMakes l dC dI cyI cyO m0 m1 m2 m3 m4 m5 m6 state history recorded slots isSaved pad padLength opened pos letter first second q11 _ q13 e14) (cwV 1 hts (gV ml_X8_153 im_X8_throwMakes se_X8_throwMakes in_X8 co_X8_throwMakes) rfl rfl rfl (by decide +kernel) ⟨Nat.le_of_ble_eq_true rfl, Nat.le_of_ble_eq_true rfl⟩) (cP_V hK hP hD [0, 1, 2, 3, 4, 5, 6] rfl rfl 0 rfl rfl) rfl rfl hl.1 rfl (lv_room (Nat.le_of_ble_eq_true rfl)) dX8_throwingMakes_57 ⟨Nat.zero_le _, Nat.zero_le _⟩) hP hD hS hA [0, 1, 2, 3, 4, 5, 6] rfl (fun H locs hP hS => ?_)
          obtain rfl := Option.some.inj h
          exact e_i hx hb hr hlocks hP hS dX8_throwingMakes_60
      · have h := (if_pos c5).symm.trans h
        refine lv_iconst (v := (-1)) hx hb dX8_throwingMakes_35 (by decide) ?_
        obtain rfl := Option.some.inj h
        exact e_i hx hb hr hlocks hP hS dX8_throwingMakes_36
    · have h := (if_pos c2).symm.trans h
      refine lv_aload_n hx hb dX8_throwingMakes_16 rfl (lv_at hl 0 rfl) ?_
      refine lv_iload_n hx hb dX8_throwingMakes_17 rfl (lv_at hl 2 rfl) ?_
      obtain ⟨q15, e16, h⟩ := ob h
      refine fr_ir (M := (modelW cyI m0 m1 m2 m3 m4 m5 m6 state history recorded slots isSaved pad padLength opened pos letter first second)) (va_runV (As := [.int x2]) (rest := []) ⟨hx, hb, hml, hown, hts⟩ (mX8_isLiveKey l dC dI cyI cyO m0 m1 m2 m3 m4 m5 m6 state history recorded slots isSaved pad padLength opened pos letter first second x2 _ q15 e16) (cwV 1 hts (gV ml_X8_105 im_X8_isLiveKey se_X8_isLiveKey in_X8 co_X8_isLiveKey) rfl rfl rfl (by decide +kernel) ⟨Nat.le_of_ble_eq_true rfl, Nat.le_of_ble_eq_true rfl⟩) (cP_V hK hP hD [0, 1, 2, 3, 4, 5, 6] rfl rfl 0 rfl rfl) rfl rfl hl.1 rfl (lv_room (Nat.le_of_ble_eq_true rfl)) dX8_throwingMakes_18 ⟨Nat.zero_le _, Nat.zero_le _⟩) hP hD hS hA [0, 1, 2, 3, 4, 5, 6] rfl (fun H locs hP hS => ?_)
      refine lv_if_ne (tgt := 37) hx hb dX8_throwingMakes_21 (by decide) (fun c17 => ?_) (fun c17 => ?_)
      · have h := (if_neg c17).symm.trans h
        refine lv_aload_n hx hb dX8_throwingMakes_37 rfl (lv_at hl 0 rfl) ?_
        refine lv_iload_n hx hb dX8_throwingMakes_38 rfl (lv_at hl 1 rfl) ?_
        refine lv_if_ne (tgt := 51) hx hb dX8_throwingMakes_39 (by decide) (fun c18 => ?_) (fun c18 => ?_)
        · have h := (if_neg c18).symm.trans h
          refine lv_aload_n hx hb dX8_throwingMakes_51 rfl (lv_at hl 0 rfl) ?_
          refine lv_iload_n hx hb dX8_throwingMakes_52 rfl (lv_at hl 2 rfl) ?_
          refine lv_iconst (v := 0) hx hb dX8_throwingMakes_53 (by decide) ?_
          obtain ⟨q19, e20, h⟩ := ob h
          refine fr_ir (M := (modelW cyI m0 m1 m2 m3 m4 m5 m6 state history recorded slots isSaved pad padLength opened pos letter first second)) (va_runV (As := [.int x2, .int 0]) (rest := [.ref m0]) ⟨hx, hb, hml, hown, hts⟩ (mX8_boxPart l dC dI cyI cyO m0 m1 m2 m3 m4 m5 m6 state history recorded slots isSaved pad padLength opened pos letter first second x2 0 _ q19 e20) (cwV 2 hts (gV ml_X8_51 im_X8_boxPart se_X8_boxPart in_X8 co_X8_boxPart) rfl rfl rfl (by decide +kernel) ⟨Nat.le_of_ble_eq_true rfl, Nat.le_of_ble_eq_true rfl⟩) (cP_V hK hP hD [0, 1, 2, 3, 4, 5, 6] rfl rfl 0 rfl rfl) rfl rfl hl.1 rfl (lv_room (Nat.le_of_ble_eq_true rfl)) dX8_throwingMakes_54 ⟨Nat.zero_le _, Nat.zero_le _⟩) hP hD hS hA [0, 1, 2, 3, 4, 5, 6] rfl (fun H locs hP hS => ?_)
          obtain ⟨q21, e22, h⟩ := ob h
          refine fr_ir (M := (modelW cyI m0 m1 m2 m3 m4 m5 m6 state history recorded slots isSaved pad padLength opened pos letter first second)) (va_runV (As := [.int q19]) (rest := []) ⟨hx, hb, hml, hown, hts⟩ (mX8_throwMakes l dC dI cyI cyO m0 m1 m2 m3 m4 m5 m6 state history recorded slots isSaved pad padLength opened pos letter first second q19 _ q21 e22) (cwV 1 hts (gV ml_X8_153 im_X8_throwMakes se_X8_throwMakes in_X8 co_X8_throwMakes) rfl rfl rfl (by decide +kernel) ⟨Nat.le_of_ble_eq_true rfl, Nat.le_of_ble_eq_true rfl⟩) (cP_V hK hP hD [0, 1, 2, 3, 4, 5, 6] rfl rfl 0 rfl rfl) rfl rfl hl.1 rfl (lv_room (Nat.le_of_ble_eq_true rfl)) dX8_throwingMakes_57 ⟨Nat.zero_le _, Nat.zero_le _⟩) hP hD hS hA [0, 1, 2, 3, 4, 5, 6] rfl (fun H locs hP hS => ?_)
          obtain rfl := Option.some.inj h
          exact e_i hx hb hr hlocks hP hS dX8_throwingMakes_60
        · have h := (if_pos c18).symm.trans h
          refine lv_aload_n hx hb dX8_throwingMakes_42 rfl (lv_at hl 0 rfl) ?_
          refine lv_iload_n hx hb dX8_throwingMakes_43 rfl (lv_at hl 2 rfl) ?_
          refine lv_iconst (v := 0) hx hb dX8_throwingMakes_44 (by decide) ?_
          obtain ⟨q23, e24, h⟩ := ob h
          refine fr_ir (M := (modelW cyI m0 m1 m2 m3 m4 m5 m6 state history recorded slots isSaved pad padLength opened pos letter first second)) (va_runV (As := [.int x2, .int 0]) (rest := [.ref m0]) ⟨hx, hb, hml, hown, hts⟩ (mX8_keyPart l dC dI cyI cyO m0 m1 m2 m3 m4 m5 m6 state history recorded slots isSaved pad padLength opened pos letter first second x2 0 _ q23 e24) (cwV 2 hts (gV ml_X8_44 im_X8_keyPart se_X8_keyPart in_X8 co_X8_keyPart) rfl rfl rfl (by decide +kernel) ⟨Nat.le_of_ble_eq_true rfl, Nat.le_of_ble_eq_true rfl⟩) (cP_V hK hP hD [0, 1, 2, 3, 4, 5, 6] rfl rfl 0 rfl rfl) rfl rfl hl.1 rfl (lv_room (Nat.le_of_ble_eq_true rfl)) dX8_throwingMakes_45 ⟨Nat.zero_le _, Nat.zero_le _⟩) hP hD hS hA [0, 1, 2, 3, 4, 5, 6] rfl (fun H locs hP hS => ?_)
          refine lv_goto (tgt := 57) hx hb dX8_throwingMakes_48 (by decide) ?_
          obtain ⟨q25, e26, h⟩ := ob h
          refine fr_ir (M := (modelW cyI m0 m1 m2 m3 m4 m5 m6 state history recorded slots isSaved pad padLength opened pos letter first second)) (va_runV (As := [.int q23]) (rest := []) ⟨hx, hb, hml, hown, hts⟩ (mX8_throwMakes l dC dI cyI cyO m0 m1 m2 m3 m4 m5 m6 state history recorded slots isSaved pad padLength opened pos letter first second q23 _ q25 e26) (cwV 1 hts (gV ml_X8_153 im_X8_throwMakes se_X8_throwMakes in_X8 co_X8_throwMakes) rfl rfl rfl (by decide +kernel) ⟨Nat.le_of_ble_eq_true rfl, Nat.le_of_ble_eq_true rfl⟩) (cP_V hK hP hD [0, 1, 2, 3, 4, 5, 6] rfl rfl 0 rfl rfl) rfl rfl hl.1 rfl (lv_room (Nat.le_of_ble_eq_true rfl)) dX8_throwingMakes_57 ⟨Nat.zero_le _, Nat.zero_le _⟩) hP hD hS hA [0, 1, 2, 3, 4, 5, 6] rfl (fun H locs hP hS => ?_)
          obtain rfl := Option.some.inj h
          exact e_i hx hb hr hlocks hP hS dX8_throwingMakes_60
      · have h := (if_pos c17).symm.trans h
        refine lv_goto (tgt := 35) hx hb dX8_throwingMakes_24 (by decide) ?_
        refine lv_iconst (v := (-1)) hx hb dX8_throwingMakes_35 (by decide) ?_
        obtain rfl := Option.some.inj h
        exact e_i hx hb hr hlocks hP hS dX8_throwingMakes_36
  · have h := (if_pos c1).symm.trans h
    refine lv_bipush (v := (-2)) hx hb dX8_throwingMakes_9 (by decide) ?_
    obtain rfl := Option.some.inj h
    exact e_i hx hb hr hlocks hP hS dX8_throwingMakes_11

noncomputable def fX8_leftOf (state : Nat → Int32) (x1 : Int32) : Option (Int32) :=
  (if (0 : Int32) < 0 ∨ 844 ≤ (0 : Int32).toNatClampNeg then none else ((fX8_keyPart state x1 3).bind fun q2 => (if ((state (0 : Int32).toNatClampNeg) - q2) ≤ 0 then (some 0) else (some ((state (0 : Int32).toNatClampNeg) - q2)))))
set_option maxHeartbeats 1000000 in
set_option maxRecDepth 100000 in
theorem mX8_leftOf (l : Launch) (dC : Nat → ClassId) (dI : Nat → Nat → Nat) (cyI cyO : ClassId) (m0 m1 m2 m3 m4 m5 m6 : Nat) (state : Nat → Int32) (history : Nat → Int32) (recorded : Int32) (slots : Nat → Int32) (isSaved : Nat → Int32) (pad : Nat → Int32) (padLength : Int32) (opened : Nat → Int32) (pos : Int32) (letter : Int32) (first : Int32) (second : Int32) (x1 : Int32) (sz : Nat) (res : Int32) (h : fX8_leftOf state x1 = some res) : Met l yX8_leftOf (wsG yX8_leftOf cX8_leftOf 3 (some .int)) ({ frames := 1, cells := 0, slots := 0, locals := 22 }) (cP dC dI cyI cyO sz [.ref m0, .int x1] (modelW cyI m0 m1 m2 m3 m4 m5 m6 state history recorded slots isSaved pad padLength opened pos letter first second)) (cI dC dI res (modelW cyI m0 m1 m2 m3 m4 m5 m6 state history recorded slots isSaved pad padLength opened pos letter first second) (va_A (modelW cyI m0 m1 m2 m3 m4 m5 m6 state history recorded slots isSaved pad padLength opened pos letter first second) sz)) 0 0 (va_A (modelW cyI m0 m1 m2 m3 m4 m5 m6 state history recorded slots isSaved pad padLength opened pos letter first second) sz) := by
  refine Met.ofW (cc := cX8_leftOf) (maxL := 3) (ret := (some .int)) (by decide) rfl ?_
  intro p e s m args below meth c s₁ B hml hv
  obtain ⟨rfl, hsz, hP, hK, hD0⟩ := hv
  have hx := B.exec
  have hb := B.bytes
  have hr := B.returns
  have hts := atoms_spec (ws := wsG yX8_leftOf cX8_leftOf 3 (some .int)) B.pre
  have hown : s.vm.findClass RX8 = some m.cls := findClass_of_methodNamed B.named
  have hlocks := B.notSynchronized
  subst hsz
  have hD := hD0.self (sz := s.heap.size)
  generalize hAe : va_A (modelW cyI m0 m1 m2 m3 m4 m5 m6 state history recorded slots isSaved pad padLength opened pos letter first second) s.heap.size = A at hD ⊢
  have hA : ∀ q : Nat, s.heap.size ≤ q → A q := fun q h => by rw [← hAe]; exact Or.inr h
  have hS : va_S A s.heap s.heap [] := va_S.rf
  have hl := lv_entry ([.ref m0, .int x1]) (n := 3) (Nat.le_of_ble_eq_true rfl)
  rw [lg_entry_eq]
  generalize (lg_sl ([.ref m0, .int x1]) ++ List.replicate (3 - (lg_sl ([.ref m0, .int x1])).length) Slot.unset).toArray = ls at hl ⊢
  have hl : lv_has ls 3 [(0, .ref m0), (1, .int x1)] := hl
  unfold fX8_leftOf at h
  refine lv_aload_n hx hb dX8_leftOf_0 rfl (lv_at hl 0 rfl) ?_
  refine va_get (D := (dC, dI)) (ci := 8) (v := .ref m1) (C := RX8) (T := TX8) (N := 12) hx hb hts (fun w h9 => gb_mem (lay_X8 w h9)) hown hK.1 hP 0 rfl rfl 0 (by decide) (hts _ (gb_mem fl_X8_7)) (fun _ h9 => h9) rfl dX8_leftOf_1 ?_
  refine lv_iconst (v := 0) hx hb dX8_leftOf_4 (by decide) ?_
  obtain ⟨ni1, h⟩ := ifn h
  refine va_iald hx hb hK.1 hP 1 0 rfl rfl ni1 dX8_leftOf_5 ?_
  refine lv_aload_n hx hb dX8_leftOf_6 rfl (lv_at hl 0 rfl) ?_
  refine lv_iload_n hx hb dX8_leftOf_7 rfl (lv_at hl 1 rfl) ?_
  refine lv_iconst (v := 3) hx hb dX8_leftOf_8 (by decide) ?_
  obtain ⟨q2, e3, h⟩ := ob h
  refine fr_ir (M := (modelW cyI m0 m1 m2 m3 m4 m5 m6 state history recorded slots isSaved pad padLength opened pos letter first second)) (va_runV (As := [.int x1, .int 3]) (rest := [.int (state (0 : Int32).toNatClampNeg)]) ⟨hx, hb, hml, hown, hts⟩ (mX8_keyPart l dC dI cyI cyO m0 m1 m2 m3 m4 m5 m6 state history recorded slots isSaved pad padLength opened pos letter first second x1 3 _ q2 e3) (cwV 2 hts (gV ml_X8_44 im_X8_keyPart se_X8_keyPart in_X8 co_X8_keyPart) rfl rfl rfl (by decide +kernel) ⟨Nat.le_of_ble_eq_true rfl, Nat.le_of_ble_eq_true rfl⟩) (cP_V hK hP hD [0, 1, 2, 3, 4, 5, 6] rfl rfl 0 rfl rfl) rfl rfl hl.1 rfl (lv_room (Nat.le_of_ble_eq_true rfl)) dX8_leftOf_9 ⟨Nat.zero_le _, Nat.zero_le _⟩) hP hD hS hA [0, 1, 2, 3, 4, 5, 6] rfl (fun H locs hP hS => ?_)
  refine lv_isub hx hb dX8_leftOf_12 ?_
  refine lv_istore_n (lv' := [(2, .int ((state (0 : Int32).toNatClampNeg) - q2)), (0, .ref m0), (1, .int x1)]) hx hb dX8_leftOf_13 rfl hl (by decide) rfl (fun ls hl => ?_)
  refine lv_iload_n hx hb dX8_leftOf_14 rfl (lv_at hl 0 rfl) ?_
  refine lv_if_le (tgt := 22) hx hb dX8_leftOf_15 (by decide) (fun c4 => ?_) (fun c4 => ?_)
  · have h := (if_pos c4).symm.trans h
    refine lv_iconst (v := 0) hx hb dX8_leftOf_22 (by decide) ?_
    obtain rfl := Option.some.inj h
    exact e_i hx hb hr hlocks hP hS dX8_leftOf_23
  · have h := (if_neg c4).symm.trans h
    refine lv_iload_n hx hb dX8_leftOf_18 rfl (lv_at hl 0 rfl) ?_
    refine lv_goto (tgt := 23) hx hb dX8_leftOf_19 (by decide) ?_
    obtain rfl := Option.some.inj h
    exact e_i hx hb hr hlocks hP hS dX8_leftOf_23
noncomputable def fX8_mostWorn_b17 : Nat → (Nat → Int32) → Int32 → Int32 → Int32 → Option (Int32)
  | 0, _, _, _, _ => none
  | fuel + 1, state, y1, y2, y3 =>
  (if (1 : Int32) < 0 ∨ 844 ≤ (1 : Int32).toNatClampNeg then none else (if (state (1 : Int32).toNatClampNeg) ≤ y3 then (if y2 = (-6) then (some y2) else (if y1 = 0 then (some y2) else ((fX8_leftOf state y2).bind fun q5 => (some q5)))) else ((fX8_keyPart state y3 1).bind fun q7 => (if q7 = 1 then (if y2 = (-6) then fX8_mostWorn_b17 fuel state y1 y3 (y3 + 1) else ((fX8_leftOf state y3).bind fun q11 => ((fX8_leftOf state y2).bind fun q13 => (if q13 ≤ q11 then fX8_mostWorn_b17 fuel state y1 y2 (y3 + 1) else fX8_mostWorn_b17 fuel state y1 y3 (y3 + 1))))) else fX8_mostWorn_b17 fuel state y1 y2 (y3 + 1)))))

noncomputable def fX8_mostWorn (state : Nat → Int32) (x1 : Int32) : Option (Int32) :=
  (if (fX8_within x1 0 1) = 0 then (some (-2)) else fX8_mostWorn_b17 6000 state x1 (-6) 0)
set_option maxHeartbeats 1000000 in
set_option maxRecDepth 100000 in
theorem mX8_mostWorn (l : Launch) (dC : Nat → ClassId) (dI : Nat → Nat → Nat) (cyI cyO : ClassId) (m0 m1 m2 m3 m4 m5 m6 : Nat) (state : Nat → Int32) (history : Nat → Int32) (recorded : Int32) (slots : Nat → Int32) (isSaved : Nat → Int32) (pad : Nat → Int32) (padLength : Int32) (opened : Nat → Int32) (pos : Int32) (letter : Int32) (first : Int32) (second : Int32) (x1 : Int32) (sz : Nat) (res : Int32) (h : fX8_mostWorn state x1 = some res) : Met l yX8_mostWorn (wsG yX8_mostWorn cX8_mostWorn 4 (some .int)) ({ frames := 2, cells := 0, slots := 0, locals := 44 }) (cP dC dI cyI cyO sz [.ref m0, .int x1] (modelW cyI m0 m1 m2 m3 m4 m5 m6 state history recorded slots isSaved pad padLength opened pos letter first second)) (cI dC dI res (modelW cyI m0 m1 m2 m3 m4 m5 m6 state history recorded slots isSaved pad padLength opened pos letter first second) (va_A (modelW cyI m0 m1 m2 m3 m4 m5 m6 state history recorded slots isSaved pad padLength opened pos letter first second) sz)) 0 0 (va_A (modelW cyI m0 m1 m2 m3 m4 m5 m6 state history recorded slots isSaved pad padLength opened pos letter first second) sz) := by
  refine Met.ofW (cc := cX8_mostWorn) (maxL := 4) (ret := (some .int)) (by decide) rfl ?_
  intro p e s m args below meth c s₁ B hml hv
  obtain ⟨rfl, hsz, hP, hK, hD0⟩ := hv
  have hx := B.exec
  have hb := B.bytes
  have hr := B.returns
  have hts := atoms_spec (ws := wsG yX8_mostWorn cX8_mostWorn 4 (some .int)) B.pre
  have hown : s.vm.findClass RX8 = some m.cls := findClass_of_methodNamed B.named
  have hlocks := B.notSynchronized
  subst hsz
  have hD := hD0.self (sz := s.heap.size)
  generalize hAe : va_A (modelW cyI m0 m1 m2 m3 m4 m5 m6 state history recorded slots isSaved pad padLength opened pos letter first second) s.heap.size = A at hD ⊢
  have hA : ∀ q : Nat, s.heap.size ≤ q → A q := fun q h => by rw [← hAe]; exact Or.inr h
  have hS : va_S A s.heap s.heap [] := va_S.rf
  have kB17 : ∀ (fuel : Nat) (state : Nat → Int32) (y1 : Int32) (y2 : Int32) (y3 : Int32), fX8_mostWorn_b17 fuel state y1 y2 y3 = some res → ∀ (H : Heap) (locs : List Loc), va_P (dC, dI) vwCl (modelW cyI m0 m1 m2 m3 m4 m5 m6 state history recorded slots isSaved pad padLength opened pos letter first second) H → va_D A (modelW cyI m0 m1 m2 m3 m4 m5 m6 state history recorded slots isSaved pad padLength opened pos letter first second) → va_S A s.heap H locs → ∀ ls : Array Slot, lv_has ls 4 [(0, .ref m0), (1, .int y1), (2, .int y2), (3, .int y3)] → W p l e (headSpec (wsG yX8_mostWorn cX8_mostWorn 4 (some .int)) ({ frames := 2, cells := 0, slots := 0, locals := 44 })).room s m (([.ref m0, .int x1] : List Value).toArray) below meth c H locs 0 0 (MQ below (cI dC dI res (modelW cyI m0 m1 m2 m3 m4 m5 m6 state history recorded slots isSaved pad padLength opened pos letter first second) A) ([.ref m0, .int x1] : List Value).toArray s 0 0 A) (F0 m 17 ls []) := by
    intro fuel
    induction fuel with
    | zero => intro state y1 y2 y3 h; rw [fX8_mostWorn_b17] at h; cases h
    | succ fuel ih =>
      intro state y1 y2 y3 h H locs hP hD hS ls hl
      rw [fX8_mostWorn_b17] at h
      refine lv_iload_n hx hb dX8_mostWorn_17 rfl (lv_at hl 3 rfl) ?_
      refine lv_aload_n hx hb dX8_mostWorn_18 rfl (lv_at hl 0 rfl) ?_
      refine va_get (D := (dC, dI)) (ci := 8) (v := .ref m1) (C := RX8) (T := TX8) (N := 12) hx hb hts (fun w h9 => gb_mem (lay_X8 w h9)) hown hK.1 hP 0 rfl rfl 0 (by decide) (hts _ (gb_mem fl_X8_7)) (fun _ h9 => h9) rfl dX8_mostWorn_19 ?_
      refine lv_iconst (v := 1) hx hb dX8_mostWorn_22 (by decide) ?_
      obtain ⟨ni1, h⟩ := ifn h
      refine va_iald hx hb hK.1 hP 1 0 rfl rfl ni1 dX8_mostWorn_23 ?_
      refine lv_icmp_ge (tgt := 68) hx hb dX8_mostWorn_24 (by decide) (fun c2 => ?_) (fun c2 => ?_)
      · have h := (if_pos c2).symm.trans h
        refine lv_iload_n hx hb dX8_mostWorn_68 rfl (lv_at hl 2 rfl) ?_
        refine lv_bipush (v := (-6)) hx hb dX8_mostWorn_69 (by decide) ?_
        refine lv_icmp_eq (tgt := 78) hx hb dX8_mostWorn_71 (by decide) (fun c3 => ?_) (fun c3 => ?_)
        · have h := (if_pos c3).symm.trans h
          refine lv_iload_n hx hb dX8_mostWorn_78 rfl (lv_at hl 2 rfl) ?_
          refine lv_goto (tgt := 87) hx hb dX8_mostWorn_79 (by decide) ?_
          obtain rfl := Option.some.inj h
          exact e_i hx hb hr hlocks hP hS dX8_mostWorn_87
        · have h := (if_neg c3).symm.trans h
          refine lv_iload_n hx hb dX8_mostWorn_74 rfl (lv_at hl 1 rfl) ?_
          refine lv_if_ne (tgt := 82) hx hb dX8_mostWorn_75 (by decide) (fun c4 => ?_) (fun c4 => ?_)
          · have h := (if_neg c4).symm.trans h
            refine lv_aload_n hx hb dX8_mostWorn_82 rfl (lv_at hl 0 rfl) ?_
            refine lv_iload_n hx hb dX8_mostWorn_83 rfl (lv_at hl 2 rfl) ?_
            obtain ⟨q5, e6, h⟩ := ob h
            refine fr_ir (M := (modelW cyI m0 m1 m2 m3 m4 m5 m6 state history recorded slots isSaved pad padLength opened pos letter first second)) (va_runV (As := [.int y2]) (rest := []) ⟨hx, hb, hml, hown, hts⟩ (mX8_leftOf l dC dI cyI cyO m0 m1 m2 m3 m4 m5 m6 state history recorded slots isSaved pad padLength opened pos letter first second y2 _ q5 e6) (cwV 1 hts (gV ml_X8_210 im_X8_leftOf se_X8_leftOf in_X8 co_X8_leftOf) rfl rfl rfl (by decide +kernel) ⟨Nat.le_of_ble_eq_true rfl, Nat.le_of_ble_eq_true rfl⟩) (cP_V hK hP hD [0, 1, 2, 3, 4, 5, 6] rfl rfl 0 rfl rfl) rfl rfl hl.1 rfl (lv_room (Nat.le_of_ble_eq_true rfl)) dX8_mostWorn_84 ⟨Nat.zero_le _, Nat.zero_le _⟩) hP hD hS hA [0, 1, 2, 3, 4, 5, 6] rfl (fun H locs hP hS => ?_)
            obtain rfl := Option.some.inj h
            exact e_i hx hb hr hlocks hP hS dX8_mostWorn_87
          · have h := (if_pos c4).symm.trans h
            refine lv_iload_n hx hb dX8_mostWorn_78 rfl (lv_at hl 2 rfl) ?_
            refine lv_goto (tgt := 87) hx hb dX8_mostWorn_79 (by decide) ?_
            obtain rfl := Option.some.inj h
            exact e_i hx hb hr hlocks hP hS dX8_mostWorn_87
      · have h := (if_neg c2).symm.trans h
        refine lv_aload_n hx hb dX8_mostWorn_27 rfl (lv_at hl 0 rfl) ?_
        refine lv_iload_n hx hb dX8_mostWorn_28 rfl (lv_at hl 3 rfl) ?_
        refine lv_iconst (v := 1) hx hb dX8_mostWorn_29 (by decide) ?_
        obtain ⟨q7, e8, h⟩ := ob h
        refine fr_ir (M := (modelW cyI m0 m1 m2 m3 m4 m5 m6 state history recorded slots isSaved pad padLength opened pos letter first second)) (va_runV (As := [.int y3, .int 1]) (rest := []) ⟨hx, hb, hml, hown, hts⟩ (mX8_keyPart l dC dI cyI cyO m0 m1 m2 m3 m4 m5 m6 state history recorded slots isSaved pad padLength opened pos letter first second y3 1 _ q7 e8) (cwV 2 hts (gV ml_X8_44 im_X8_keyPart se_X8_keyPart in_X8 co_X8_keyPart) rfl rfl rfl (by decide +kernel) ⟨Nat.le_of_ble_eq_true rfl, Nat.le_of_ble_eq_true rfl⟩) (cP_V hK hP hD [0, 1, 2, 3, 4, 5, 6] rfl rfl 0 rfl rfl) rfl rfl hl.1 rfl (lv_room (Nat.le_of_ble_eq_true rfl)) dX8_mostWorn_30 ⟨Nat.zero_le _, Nat.zero_le _⟩) hP hD hS hA [0, 1, 2, 3, 4, 5, 6] rfl (fun H locs hP hS => ?_)
        refine lv_iconst (v := 1) hx hb dX8_mostWorn_33 (by decide) ?_
        refine lv_icmp_ne (tgt := 60) hx hb dX8_mostWorn_34 (by decide) (fun c9 => ?_) (fun c9 => ?_)
        · have h := (if_neg c9).symm.trans h
          refine lv_iload_n hx hb dX8_mostWorn_60 rfl (lv_at hl 2 rfl) ?_
          refine lv_istore_n (lv' := [(2, .int y2), (0, .ref m0), (1, .int y1), (3, .int y3)]) hx hb dX8_mostWorn_61 rfl hl (by decide) rfl (fun ls hl => ?_)
          refine lv_iinc (v := (y3 + 1)) (lv' := [(3, .int (y3 + 1)), (2, .int y2), (0, .ref m0), (1, .int y1)]) hx hb dX8_mostWorn_62 hl (k := 3) rfl rfl (by decide) rfl (fun ls hl => ?_)
          refine lv_goto (tgt := 17) hx hb dX8_mostWorn_65 (by decide) ?_
          exact ih state y1 y2 (y3 + 1) h _ _ hP hD hS ls (lv_sub hl [2, 3, 1, 0] rfl)
        · have h := (if_pos c9).symm.trans h
          refine lv_iload_n hx hb dX8_mostWorn_37 rfl (lv_at hl 2 rfl) ?_
          refine lv_bipush (v := (-6)) hx hb dX8_mostWorn_38 (by decide) ?_
          refine lv_icmp_eq (tgt := 56) hx hb dX8_mostWorn_40 (by decide) (fun c10 => ?_) (fun c10 => ?_)
          · have h := (if_pos c10).symm.trans h
            refine lv_iload_n hx hb dX8_mostWorn_56 rfl (lv_at hl 3 rfl) ?_
            refine lv_goto (tgt := 61) hx hb dX8_mostWorn_57 (by decide) ?_
            refine lv_istore_n (lv' := [(2, .int y3), (0, .ref m0), (1, .int y1), (3, .int y3)]) hx hb dX8_mostWorn_61 rfl hl (by decide) rfl (fun ls hl => ?_)
            refine lv_iinc (v := (y3 + 1)) (lv' := [(3, .int (y3 + 1)), (2, .int y3), (0, .ref m0), (1, .int y1)]) hx hb dX8_mostWorn_62 hl (k := 3) rfl rfl (by decide) rfl (fun ls hl => ?_)
            refine lv_goto (tgt := 17) hx hb dX8_mostWorn_65 (by decide) ?_
            exact ih state y1 y3 (y3 + 1) h _ _ hP hD hS ls (lv_sub hl [2, 3, 1, 0] rfl)
          · have h := (if_neg c10).symm.trans h
            refine lv_aload_n hx hb dX8_mostWorn_43 rfl (lv_at hl 0 rfl) ?_
            refine lv_iload_n hx hb dX8_mostWorn_44 rfl (lv_at hl 3 rfl) ?_
            obtain ⟨q11, e12, h⟩ := ob h
            refine fr_ir (M := (modelW cyI m0 m1 m2 m3 m4 m5 m6 state history recorded slots isSaved pad padLength opened pos letter first second)) (va_runV (As := [.int y3]) (rest := []) ⟨hx, hb, hml, hown, hts⟩ (mX8_leftOf l dC dI cyI cyO m0 m1 m2 m3 m4 m5 m6 state history recorded slots isSaved pad padLength opened pos letter first second y3 _ q11 e12) (cwV 1 hts (gV ml_X8_210 im_X8_leftOf se_X8_leftOf in_X8 co_X8_leftOf) rfl rfl rfl (by decide +kernel) ⟨Nat.le_of_ble_eq_true rfl, Nat.le_of_ble_eq_true rfl⟩) (cP_V hK hP hD [0, 1, 2, 3, 4, 5, 6] rfl rfl 0 rfl rfl) rfl rfl hl.1 rfl (lv_room (Nat.le_of_ble_eq_true rfl)) dX8_mostWorn_45 ⟨Nat.zero_le _, Nat.zero_le _⟩) hP hD hS hA [0, 1, 2, 3, 4, 5, 6] rfl (fun H locs hP hS => ?_)
            refine lv_aload_n hx hb dX8_mostWorn_48 rfl (lv_at hl 0 rfl) ?_
            refine lv_iload_n hx hb dX8_mostWorn_49 rfl (lv_at hl 2 rfl) ?_
            obtain ⟨q13, e14, h⟩ := ob h
            refine fr_ir (M := (modelW cyI m0 m1 m2 m3 m4 m5 m6 state history recorded slots isSaved pad padLength opened pos letter first second)) (va_runV (As := [.int y2]) (rest := [.int q11]) ⟨hx, hb, hml, hown, hts⟩ (mX8_leftOf l dC dI cyI cyO m0 m1 m2 m3 m4 m5 m6 state history recorded slots isSaved pad padLength opened pos letter first second y2 _ q13 e14) (cwV 1 hts (gV ml_X8_210 im_X8_leftOf se_X8_leftOf in_X8 co_X8_leftOf) rfl rfl rfl (by decide +kernel) ⟨Nat.le_of_ble_eq_true rfl, Nat.le_of_ble_eq_true rfl⟩) (cP_V hK hP hD [0, 1, 2, 3, 4, 5, 6] rfl rfl 0 rfl rfl) rfl rfl hl.1 rfl (lv_room (Nat.le_of_ble_eq_true rfl)) dX8_mostWorn_50 ⟨Nat.zero_le _, Nat.zero_le _⟩) hP hD hS hA [0, 1, 2, 3, 4, 5, 6] rfl (fun H locs hP hS => ?_)
            refine lv_icmp_ge (tgt := 60) hx hb dX8_mostWorn_53 (by decide) (fun c15 => ?_) (fun c15 => ?_)
            · have h := (if_pos c15).symm.trans h
              refine lv_iload_n hx hb dX8_mostWorn_60 rfl (lv_at hl 2 rfl) ?_
              refine lv_istore_n (lv' := [(2, .int y2), (0, .ref m0), (1, .int y1), (3, .int y3)]) hx hb dX8_mostWorn_61 rfl hl (by decide) rfl (fun ls hl => ?_)
              refine lv_iinc (v := (y3 + 1)) (lv' := [(3, .int (y3 + 1)), (2, .int y2), (0, .ref m0), (1, .int y1)]) hx hb dX8_mostWorn_62 hl (k := 3) rfl rfl (by decide) rfl (fun ls hl => ?_)
              refine lv_goto (tgt := 17) hx hb dX8_mostWorn_65 (by decide) ?_
              exact ih state y1 y2 (y3 + 1) h _ _ hP hD hS ls (lv_sub hl [2, 3, 1, 0] rfl)
            · have h := (if_neg c15).symm.trans h
              refine lv_iload_n hx hb dX8_mostWorn_56 rfl (lv_at hl 3 rfl) ?_
              refine lv_goto (tgt := 61) hx hb dX8_mostWorn_57 (by decide) ?_
              refine lv_istore_n (lv' := [(2, .int y3), (0, .ref m0), (1, .int y1), (3, .int y3)]) hx hb dX8_mostWorn_61 rfl hl (by decide) rfl (fun ls hl => ?_)
              refine lv_iinc (v := (y3 + 1)) (lv' := [(3, .int (y3 + 1)), (2, .int y3), (0, .ref m0), (1, .int y1)]) hx hb dX8_mostWorn_62 hl (k := 3) rfl rfl (by decide) rfl (fun ls hl => ?_)
              refine lv_goto (tgt := 17) hx hb dX8_mostWorn_65 (by decide) ?_
              exact ih state y1 y3 (y3 + 1) h _ _ hP hD hS ls (lv_sub hl [2, 3, 1, 0] rfl)
  have hl := lv_entry ([.ref m0, .int x1]) (n := 4) (Nat.le_of_ble_eq_true rfl)
  rw [lg_entry_eq]
  generalize (lg_sl ([.ref m0, .int x1]) ++ List.replicate (4 - (lg_sl ([.ref m0, .int x1])).length) Slot.unset).toArray = ls at hl ⊢
  have hl : lv_has ls 4 [(0, .ref m0), (1, .int x1)] := hl
  unfold fX8_mostWorn at h
  refine lv_iload_n hx hb dX8_mostWorn_0 rfl (lv_at hl 1 rfl) ?_
  refine lv_iconst (v := 0) hx hb dX8_mostWorn_1 (by decide) ?_
  refine lv_iconst (v := 1) hx hb dX8_mostWorn_2 (by decide) ?_
  refine fr_ir (M := ([] : va_W)) (va_runS (As := [.int x1, .int 0, .int 1]) (rest := []) ⟨hx, hb, hml, hown, hts⟩ (mX8_within l dC dI cyI cyO x1 0 1 _ (fX8_within x1 0 1) rfl) (va_cwS 3 hts (gS ml_X8_36 st_X8_within in_X8 co_X8_within) rfl rfl rfl (by decide +kernel) ⟨Nat.le_of_ble_eq_true rfl, Nat.le_of_ble_eq_true rfl⟩) (cP_S hK hP hD [] rfl rfl) rfl rfl hl.1 rfl (lv_room (Nat.le_of_ble_eq_true rfl)) dX8_mostWorn_3 ⟨Nat.zero_le _, Nat.zero_le _⟩) hP hD hS hA [] rfl (fun H locs hP hS => ?_)
  refine lv_if_ne (tgt := 12) hx hb dX8_mostWorn_6 (by decide) (fun c16 => ?_) (fun c16 => ?_)
  · have h := (if_neg c16).symm.trans h
    refine lv_bipush (v := (-6)) hx hb dX8_mostWorn_12 (by decide) ?_
    refine lv_istore_n (lv' := [(2, .int (-6)), (0, .ref m0), (1, .int x1)]) hx hb dX8_mostWorn_14 rfl hl (by decide) rfl (fun ls hl => ?_)
    refine lv_iconst (v := 0) hx hb dX8_mostWorn_15 (by decide) ?_
    refine lv_istore_n (lv' := [(3, .int 0), (2, .int (-6)), (0, .ref m0), (1, .int x1)]) hx hb dX8_mostWorn_16 rfl hl (by decide) rfl (fun ls hl => ?_)
    exact kB17 6000 state x1 (-6) 0 h _ _ hP hD hS ls (lv_sub hl [2, 3, 1, 0] rfl)
  · have h := (if_pos c16).symm.trans h
    refine lv_bipush (v := (-2)) hx hb dX8_mostWorn_9 (by decide) ?_
    obtain rfl := Option.some.inj h
    exact e_i hx hb hr hlocks hP hS dX8_mostWorn_11
noncomputable def fX8_put_b105 : Nat → (Nat → Int32) → Int32 → Int64 → Int32 → Option (Int32 × (Nat → Int32) × Int32)
  | 0, _, _, _, _ => none
  | fuel + 1, pad, padLength, y1, y7 =>
  (if y7 < 0 then (some (padLength, pad, padLength)) else (if padLength < 0 ∨ 60 ≤ padLength.toNatClampNeg then none else fX8_put_b105 fuel (upd pad padLength.toNatClampNeg ((((lushr y1 (8 * y7)) &&& 255)).toInt32)) (padLength + 1) y1 (y7 + (-1))))

noncomputable def fX8_put_b8 : Nat → (Nat → Int32) → Int32 → Int64 → Int32 → Int64 → Int32 → Option (Int32 × (Nat → Int32) × Int32)
  | 0, _, _, _, _, _, _ => none
  | fuel + 1, pad, padLength, y1, y3, y4, y6 =>
  (if 8 ≤ y3 then (if y3 = 0 then (some ((-2), pad, padLength)) else (if y6 = 0 then (some ((-2), pad, padLength)) else (if (lg_cmp y4 0) = 0 then (if (padLength + y3) ≤ 60 then fX8_put_b105 6000 pad padLength y1 (y3 - 1) else (some ((-4), pad, padLength))) else (some ((-2), pad, padLength))))) else (if (lg_cmp (y4 &&& 255) 0) = 0 then (if y3 = 0 then (some ((-2), pad, padLength)) else (if y6 = 0 then (some ((-2), pad, padLength)) else (if (lg_cmp y4 0) = 0 then (if (padLength + y3) ≤ 60 then fX8_put_b105 6000 pad padLength y1 (y3 - 1) else (some ((-4), pad, padLength))) else (some ((-2), pad, padLength))))) else (if y6 = 0 then fX8_put_b8 fuel pad padLength y1 (y3 + 1) (lushr y4 8) 0 else (if (fX8_within (((y4 &&& 255)).toInt32) 33 126) = 0 then fX8_put_b8 fuel pad padLength y1 (y3 + 1) (lushr y4 8) 0 else fX8_put_b8 fuel pad padLength y1 (y3 + 1) (lushr y4 8) 1))))

noncomputable def fX8_put (pad : Nat → Int32) (padLength : Int32) (x1 : Int64) : Option (Int32 × (Nat → Int32) × Int32) :=
  fX8_put_b8 6000 pad padLength x1 0 x1 1
set_option maxHeartbeats 1000000 in
set_option maxRecDepth 100000 in
theorem mX8_put (l : Launch) (dC : Nat → ClassId) (dI : Nat → Nat → Nat) (cyI cyO : ClassId) (m0 m1 m2 m3 m4 m5 m6 : Nat) (state : Nat → Int32) (history : Nat → Int32) (recorded : Int32) (slots : Nat → Int32) (isSaved : Nat → Int32) (pad : Nat → Int32) (padLength : Int32) (opened : Nat → Int32) (pos : Int32) (letter : Int32) (first : Int32) (second : Int32) (x1 : Int64) (sz : Nat) (res : Int32 × (Nat → Int32) × Int32) (h : fX8_put pad padLength x1 = some res) : Met l yX8_put (wsG yX8_put cX8_put 8 (some .int)) ({ frames := 1, cells := 0, slots := 0, locals := 22 }) (cP dC dI cyI cyO sz [.ref m0, .long x1] (modelW cyI m0 m1 m2 m3 m4 m5 m6 state history recorded slots isSaved pad padLength opened pos letter first second)) (cI dC dI res.1 (modelW cyI m0 m1 m2 m3 m4 m5 m6 state history recorded slots isSaved res.2.1 res.2.2 opened pos letter first second) (va_A (modelW cyI m0 m1 m2 m3 m4 m5 m6 state history recorded slots isSaved pad padLength opened pos letter first second) sz)) 0 0 (va_A (modelW cyI m0 m1 m2 m3 m4 m5 m6 state history recorded slots isSaved pad padLength opened pos letter first second) sz) := by
  refine Met.ofW (cc := cX8_put) (maxL := 8) (ret := (some .int)) (by decide) rfl ?_
  intro p e s m args below meth c s₁ B hml hv
  obtain ⟨rfl, hsz, hP, hK, hD0⟩ := hv
  have hx := B.exec
  have hb := B.bytes
  have hr := B.returns
  have hts := atoms_spec (ws := wsG yX8_put cX8_put 8 (some .int)) B.pre
  have hown : s.vm.findClass RX8 = some m.cls := findClass_of_methodNamed B.named
  have hlocks := B.notSynchronized
  subst hsz
  have hD := hD0.self (sz := s.heap.size)
  generalize hAe : va_A (modelW cyI m0 m1 m2 m3 m4 m5 m6 state history recorded slots isSaved pad padLength opened pos letter first second) s.heap.size = A at hD ⊢
  have hA : ∀ q : Nat, s.heap.size ≤ q → A q := fun q h => by rw [← hAe]; exact Or.inr h
  have hS : va_S A s.heap s.heap [] := va_S.rf
  have kB105 : ∀ (fuel : Nat) (pad : Nat → Int32) (padLength : Int32) (y1 : Int64) (y7 : Int32), fX8_put_b105 fuel pad padLength y1 y7 = some res → ∀ (H : Heap) (locs : List Loc), va_P (dC, dI) vwCl (modelW cyI m0 m1 m2 m3 m4 m5 m6 state history recorded slots isSaved pad padLength opened pos letter first second) H → va_D A (modelW cyI m0 m1 m2 m3 m4 m5 m6 state history recorded slots isSaved pad padLength opened pos letter first second) → va_S A s.heap H locs → ∀ ls : Array Slot, lv_has ls 8 [(0, .ref m0), (1, .long y1), (7, .int y7)] → W p l e (headSpec (wsG yX8_put cX8_put 8 (some .int)) ({ frames := 1, cells := 0, slots := 0, locals := 22 })).room s m (([.ref m0, .long x1] : List Value).toArray) below meth c H locs 0 0 (MQ below (cI dC dI res.1 (modelW cyI m0 m1 m2 m3 m4 m5 m6 state history recorded slots isSaved res.2.1 res.2.2 opened pos letter first second) A) ([.ref m0, .long x1] : List Value).toArray s 0 0 A) (F0 m 105 ls []) := by
    intro fuel
    induction fuel with
    | zero => intro pad padLength y1 y7 h; rw [fX8_put_b105] at h; cases h
    | succ fuel ih =>
      intro pad padLength y1 y7 h H locs hP hD hS ls hl
      rw [fX8_put_b105] at h
      refine lv_iload hx hb dX8_put_105 (lv_at hl 2 rfl) ?_
      refine lv_if_lt (tgt := 147) hx hb dX8_put_107 (by decide) (fun c1 => ?_) (fun c1 => ?_)
      · have h := (if_pos c1).symm.trans h
        refine lv_aload_n hx hb dX8_put_147 rfl (lv_at hl 0 rfl) ?_
        refine va_get (D := (dC, dI)) (ci := 8) (v := .int padLength) (C := RX8) (T := TX8) (N := 12) hx hb hts (fun w h9 => gb_mem (lay_X8 w h9)) hown hK.1 hP 0 rfl rfl 6 (by decide) (hts _ (gb_mem fl_X8_204)) (fun _ h9 => h9) rfl dX8_put_148 ?_
        obtain rfl := Option.some.inj h
        exact e_i hx hb hr hlocks hP hS dX8_put_151
      · have h := (if_neg c1).symm.trans h
        refine lv_aload_n hx hb dX8_put_110 rfl (lv_at hl 0 rfl) ?_
        refine va_get (D := (dC, dI)) (ci := 8) (v := .ref m5) (C := RX8) (T := TX8) (N := 12) hx hb hts (fun w h9 => gb_mem (lay_X8 w h9)) hown hK.1 hP 0 rfl rfl 5 (by decide) (hts _ (gb_mem fl_X8_22)) (fun _ h9 => h9) rfl dX8_put_111 ?_
        refine lv_aload_n hx hb dX8_put_114 rfl (lv_at hl 0 rfl) ?_
        refine va_get (D := (dC, dI)) (ci := 8) (v := .int padLength) (C := RX8) (T := TX8) (N := 12) hx hb hts (fun w h9 => gb_mem (lay_X8 w h9)) hown hK.1 hP 0 rfl rfl 6 (by decide) (hts _ (gb_mem fl_X8_204)) (fun _ h9 => h9) rfl dX8_put_115 ?_
        refine lv_lload_n hx hb dX8_put_118 rfl (lv_at hl 1 rfl) ?_
        refine lv_bipush (v := 8) hx hb dX8_put_119 (by decide) ?_
        refine lv_iload hx hb dX8_put_121 (lv_at hl 2 rfl) ?_
        refine lv_imul hx hb dX8_put_123 ?_
        refine lv_lushr (v := (lushr y1 (8 * y7))) hx hb dX8_put_124 rfl ?_
        refine lv_ldc2 (v := 255) hx hb hown (hts _ (gb_mem k_X8_213)) dX8_put_125 ?_
        refine lv_land hx hb dX8_put_128 ?_
        refine lv_l2i (v := (((lushr y1 (8 * y7)) &&& 255)).toInt32) hx hb dX8_put_129 rfl ?_
        obtain ⟨ni2, h⟩ := ifn h
        refine va_iast hx hb hK.1 hP hD hS 5 0 rfl rfl ni2 dX8_put_130 (fun H locs hP hD hS => ?_)
        have hP : va_P (dC, dI) vwCl (modelW cyI m0 m1 m2 m3 m4 m5 m6 state history recorded slots isSaved (upd pad padLength.toNatClampNeg ((((lushr y1 (8 * y7)) &&& 255)).toInt32)) padLength opened pos letter first second) H := hP
        have hD : va_D A (modelW cyI m0 m1 m2 m3 m4 m5 m6 state history recorded slots isSaved (upd pad padLength.toNatClampNeg ((((lushr y1 (8 * y7)) &&& 255)).toInt32)) padLength opened pos letter first second) := hD
        refine lv_aload_n hx hb dX8_put_131 rfl (lv_at hl 0 rfl) ?_
        refine lv_dup hx hb dX8_put_132 rfl ?_
        refine va_get (D := (dC, dI)) (ci := 8) (v := .int padLength) (C := RX8) (T := TX8) (N := 12) hx hb hts (fun w h9 => gb_mem (lay_X8 w h9)) hown hK.1 hP 0 rfl rfl 6 (by decide) (hts _ (gb_mem fl_X8_204)) (fun _ h9 => h9) rfl dX8_put_133 ?_
        refine lv_iconst (v := 1) hx hb dX8_put_136 (by decide) ?_
        refine lv_iadd hx hb dX8_put_137 ?_
        refine va_put (D := (dC, dI)) (ci := 8) (v := .int (padLength + 1)) (ty := .int) (C := RX8) (T := TX8) (N := 12) hx hb hts (fun w h9 => gb_mem (lay_X8 w h9)) tyX8 tyX8_ok nmX8 hown hK.1 hP hD hS 0 rfl rfl 6 (by decide) (hts _ (gb_mem fl_X8_204)) (fun _ h9 => h9) rfl (by decide +kernel) rfl rfl (Nat.le_of_ble_eq_true rfl) dX8_put_138 (fun H locs hP hD hS => ?_)
        have hP : va_P (dC, dI) vwCl (modelW cyI m0 m1 m2 m3 m4 m5 m6 state history recorded slots isSaved (upd pad padLength.toNatClampNeg ((((lushr y1 (8 * y7)) &&& 255)).toInt32)) (padLength + 1) opened pos letter first second) H := hP
        have hD : va_D A (modelW cyI m0 m1 m2 m3 m4 m5 m6 state history recorded slots isSaved (upd pad padLength.toNatClampNeg ((((lushr y1 (8 * y7)) &&& 255)).toInt32)) (padLength + 1) opened pos letter first second) := hD
        refine lv_iinc (v := (y7 + (-1))) (lv' := [(7, .int (y7 + (-1))), (0, .ref m0), (1, .long y1)]) hx hb dX8_put_141 hl (k := 2) rfl rfl (by decide) rfl (fun ls hl => ?_)
        refine lv_goto (tgt := 105) hx hb dX8_put_144 (by decide) ?_
        exact ih (upd pad padLength.toNatClampNeg ((((lushr y1 (8 * y7)) &&& 255)).toInt32)) (padLength + 1) y1 (y7 + (-1)) h _ _ hP hD hS ls (lv_sub hl [1, 2, 0] rfl)
  have kB8 : ∀ (fuel : Nat) (pad : Nat → Int32) (padLength : Int32) (y1 : Int64) (y3 : Int32) (y4 : Int64) (y6 : Int32), fX8_put_b8 fuel pad padLength y1 y3 y4 y6 = some res → ∀ (H : Heap) (locs : List Loc), va_P (dC, dI) vwCl (modelW cyI m0 m1 m2 m3 m4 m5 m6 state history recorded slots isSaved pad padLength opened pos letter first second) H → va_D A (modelW cyI m0 m1 m2 m3 m4 m5 m6 state history recorded slots isSaved pad padLength opened pos letter first second) → va_S A s.heap H locs → ∀ ls : Array Slot, lv_has ls 8 [(0, .ref m0), (1, .long y1), (3, .int y3), (4, .long y4), (6, .int y6)] → W p l e (headSpec (wsG yX8_put cX8_put 8 (some .int)) ({ frames := 1, cells := 0, slots := 0, locals := 22 })).room s m (([.ref m0, .long x1] : List Value).toArray) below meth c H locs 0 0 (MQ below (cI dC dI res.1 (modelW cyI m0 m1 m2 m3 m4 m5 m6 state history recorded slots isSaved res.2.1 res.2.2 opened pos letter first second) A) ([.ref m0, .long x1] : List Value).toArray s 0 0 A) (F0 m 8 ls []) := by
    intro fuel
    induction fuel with
    | zero => intro pad padLength y1 y3 y4 y6 h; rw [fX8_put_b8] at h; cases h
    | succ fuel ih =>
      intro pad padLength y1 y3 y4 y6 h H locs hP hD hS ls hl
      rw [fX8_put_b8] at h
      refine lv_iload_n hx hb dX8_put_8 rfl (lv_at hl 2 rfl) ?_
      refine lv_bipush (v := 8) hx hb dX8_put_9 (by decide) ?_
      refine lv_icmp_ge (tgt := 67) hx hb dX8_put_11 (by decide) (fun c3 => ?_) (fun c3 => ?_)
      · have h := (if_pos c3).symm.trans h
        refine lv_iload_n hx hb dX8_put_67 rfl (lv_at hl 2 rfl) ?_
        refine lv_if_eq (tgt := 83) hx hb dX8_put_68 (by decide) (fun c4 => ?_) (fun c4 => ?_)
        · have h := (if_pos c4).symm.trans h
          refine lv_bipush (v := (-2)) hx hb dX8_put_83 (by decide) ?_
          obtain rfl := Option.some.inj h
          exact e_i hx hb hr hlocks hP hS dX8_put_85
        · have h := (if_neg c4).symm.trans h
          refine lv_iload hx hb dX8_put_71 (lv_at hl 4 rfl) ?_
          refine lv_if_eq (tgt := 83) hx hb dX8_put_73 (by decide) (fun c5 => ?_) (fun c5 => ?_)
          · have h := (if_pos c5).symm.trans h
            refine lv_bipush (v := (-2)) hx hb dX8_put_83 (by decide) ?_
            obtain rfl := Option.some.inj h
            exact e_i hx hb hr hlocks hP hS dX8_put_85
          · have h := (if_neg c5).symm.trans h
            refine lv_lload hx hb dX8_put_76 (lv_at hl 3 rfl) ?_
            refine lv_lconst (v := 0) hx hb dX8_put_78 (by decide) ?_
            refine W.lcmp hx hb dX8_put_79 ?_
            refine lv_if_eq (tgt := 86) hx hb dX8_put_80 (by decide) (fun c6 => ?_) (fun c6 => ?_)
            · have h := (if_pos c6).symm.trans h
              refine lv_aload_n hx hb dX8_put_86 rfl (lv_at hl 0 rfl) ?_
              refine va_get (D := (dC, dI)) (ci := 8) (v := .int padLength) (C := RX8) (T := TX8) (N := 12) hx hb hts (fun w h9 => gb_mem (lay_X8 w h9)) hown hK.1 hP 0 rfl rfl 6 (by decide) (hts _ (gb_mem fl_X8_204)) (fun _ h9 => h9) rfl dX8_put_87 ?_
              refine lv_iload_n hx hb dX8_put_90 rfl (lv_at hl 2 rfl) ?_
              refine lv_iadd hx hb dX8_put_91 ?_
              refine lv_bipush (v := 60) hx hb dX8_put_92 (by decide) ?_
              refine lv_icmp_le (tgt := 100) hx hb dX8_put_94 (by decide) (fun c7 => ?_) (fun c7 => ?_)
              · have h := (if_pos c7).symm.trans h
                refine lv_iload_n hx hb dX8_put_100 rfl (lv_at hl 2 rfl) ?_
                refine lv_iconst (v := 1) hx hb dX8_put_101 (by decide) ?_
                refine lv_isub hx hb dX8_put_102 ?_
                refine lv_istore (lv' := [(7, .int (y3 - 1)), (0, .ref m0), (1, .long y1), (3, .int y3), (4, .long y4), (6, .int y6)]) hx hb dX8_put_103 hl (by decide) rfl (fun ls hl => ?_)
                exact kB105 6000 pad padLength y1 (y3 - 1) h _ _ hP hD hS ls (lv_sub hl [1, 2, 0] rfl)
              · have h := (if_neg c7).symm.trans h
                refine lv_bipush (v := (-4)) hx hb dX8_put_97 (by decide) ?_
                obtain rfl := Option.some.inj h
                exact e_i hx hb hr hlocks hP hS dX8_put_99
            · have h := (if_neg c6).symm.trans h
              refine lv_bipush (v := (-2)) hx hb dX8_put_83 (by decide) ?_
              obtain rfl := Option.some.inj h
              exact e_i hx hb hr hlocks hP hS dX8_put_85
      · have h := (if_neg c3).symm.trans h
        refine lv_lload hx hb dX8_put_14 (lv_at hl 3 rfl) ?_
        refine lv_ldc2 (v := 255) hx hb hown (hts _ (gb_mem k_X8_213)) dX8_put_16 ?_
        refine lv_land hx hb dX8_put_19 ?_
        refine lv_lconst (v := 0) hx hb dX8_put_20 (by decide) ?_
        refine W.lcmp hx hb dX8_put_21 ?_
        refine lv_if_eq (tgt := 67) hx hb dX8_put_22 (by decide) (fun c8 => ?_) (fun c8 => ?_)
        · have h := (if_pos c8).symm.trans h
          refine lv_iload_n hx hb dX8_put_67 rfl (lv_at hl 2 rfl) ?_
          refine lv_if_eq (tgt := 83) hx hb dX8_put_68 (by decide) (fun c9 => ?_) (fun c9 => ?_)
          · have h := (if_pos c9).symm.trans h
            refine lv_bipush (v := (-2)) hx hb dX8_put_83 (by decide) ?_
            obtain rfl := Option.some.inj h
            exact e_i hx hb hr hlocks hP hS dX8_put_85
          · have h := (if_neg c9).symm.trans h
            refine lv_iload hx hb dX8_put_71 (lv_at hl 4 rfl) ?_
            refine lv_if_eq (tgt := 83) hx hb dX8_put_73 (by decide) (fun c10 => ?_) (fun c10 => ?_)
            · have h := (if_pos c10).symm.trans h
              refine lv_bipush (v := (-2)) hx hb dX8_put_83 (by decide) ?_
              obtain rfl := Option.some.inj h
              exact e_i hx hb hr hlocks hP hS dX8_put_85
            · have h := (if_neg c10).symm.trans h
              refine lv_lload hx hb dX8_put_76 (lv_at hl 3 rfl) ?_
              refine lv_lconst (v := 0) hx hb dX8_put_78 (by decide) ?_
              refine W.lcmp hx hb dX8_put_79 ?_
              refine lv_if_eq (tgt := 86) hx hb dX8_put_80 (by decide) (fun c11 => ?_) (fun c11 => ?_)
              · have h := (if_pos c11).symm.trans h
                refine lv_aload_n hx hb dX8_put_86 rfl (lv_at hl 0 rfl) ?_
                refine va_get (D := (dC, dI)) (ci := 8) (v := .int padLength) (C := RX8) (T := TX8) (N := 12) hx hb hts (fun w h9 => gb_mem (lay_X8 w h9)) hown hK.1 hP 0 rfl rfl 6 (by decide) (hts _ (gb_mem fl_X8_204)) (fun _ h9 => h9) rfl dX8_put_87 ?_
                refine lv_iload_n hx hb dX8_put_90 rfl (lv_at hl 2 rfl) ?_
                refine lv_iadd hx hb dX8_put_91 ?_
                refine lv_bipush (v := 60) hx hb dX8_put_92 (by decide) ?_
                refine lv_icmp_le (tgt := 100) hx hb dX8_put_94 (by decide) (fun c12 => ?_) (fun c12 => ?_)
                · have h := (if_pos c12).symm.trans h
                  refine lv_iload_n hx hb dX8_put_100 rfl (lv_at hl 2 rfl) ?_
                  refine lv_iconst (v := 1) hx hb dX8_put_101 (by decide) ?_
                  refine lv_isub hx hb dX8_put_102 ?_
                  refine lv_istore (lv' := [(7, .int (y3 - 1)), (0, .ref m0), (1, .long y1), (3, .int y3), (4, .long y4), (6, .int y6)]) hx hb dX8_put_103 hl (by decide) rfl (fun ls hl => ?_)
                  exact kB105 6000 pad padLength y1 (y3 - 1) h _ _ hP hD hS ls (lv_sub hl [1, 2, 0] rfl)
                · have h := (if_neg c12).symm.trans h
                  refine lv_bipush (v := (-4)) hx hb dX8_put_97 (by decide) ?_
                  obtain rfl := Option.some.inj h
                  exact e_i hx hb hr hlocks hP hS dX8_put_99
              · have h := (if_neg c11).symm.trans h
                refine lv_bipush (v := (-2)) hx hb dX8_put_83 (by decide) ?_
                obtain rfl := Option.some.inj h
                exact e_i hx hb hr hlocks hP hS dX8_put_85
        · have h := (if_neg c8).symm.trans h
          refine lv_iload hx hb dX8_put_25 (lv_at hl 4 rfl) ?_
          refine lv_if_eq (tgt := 51) hx hb dX8_put_27 (by decide) (fun c13 => ?_) (fun c13 => ?_)
          · have h := (if_pos c13).symm.trans h
            refine lv_iconst (v := 0) hx hb dX8_put_51 (by decide) ?_
            refine lv_istore (lv' := [(6, .int 0), (0, .ref m0), (1, .long y1), (3, .int y3), (4, .long y4)]) hx hb dX8_put_52 hl (by decide) rfl (fun ls hl => ?_)
            refine lv_lload hx hb dX8_put_54 (lv_at hl 4 rfl) ?_
            refine lv_bipush (v := 8) hx hb dX8_put_56 (by decide) ?_
            refine lv_lushr (v := (lushr y4 8)) hx hb dX8_put_58 rfl ?_
            refine lv_lstore (lv' := [(4, .long (lushr y4 8)), (6, .int 0), (0, .ref m0), (1, .long y1), (3, .int y3)]) hx hb dX8_put_59 hl (by decide) rfl (fun ls hl => ?_)
            refine lv_iinc (v := (y3 + 1)) (lv' := [(3, .int (y3 + 1)), (4, .long (lushr y4 8)), (6, .int 0), (0, .ref m0), (1, .long y1)]) hx hb dX8_put_61 hl (k := 4) rfl rfl (by decide) rfl (fun ls hl => ?_)
            refine lv_goto (tgt := 8) hx hb dX8_put_64 (by decide) ?_
            exact ih pad padLength y1 (y3 + 1) (lushr y4 8) 0 h _ _ hP hD hS ls (lv_sub hl [3, 4, 0, 1, 2] rfl)
          · have h := (if_neg c13).symm.trans h
            refine lv_lload hx hb dX8_put_30 (lv_at hl 3 rfl) ?_
            refine lv_ldc2 (v := 255) hx hb hown (hts _ (gb_mem k_X8_213)) dX8_put_32 ?_
            refine lv_land hx hb dX8_put_35 ?_
            refine lv_l2i (v := ((y4 &&& 255)).toInt32) hx hb dX8_put_36 rfl ?_
            refine lv_bipush (v := 33) hx hb dX8_put_37 (by decide) ?_
            refine lv_bipush (v := 126) hx hb dX8_put_39 (by decide) ?_
            refine fr_ir (M := ([] : va_W)) (va_runS (As := [.int (((y4 &&& 255)).toInt32), .int 33, .int 126]) (rest := []) ⟨hx, hb, hml, hown, hts⟩ (mX8_within l dC dI cyI cyO (((y4 &&& 255)).toInt32) 33 126 _ (fX8_within (((y4 &&& 255)).toInt32) 33 126) rfl) (va_cwS 3 hts (gS ml_X8_36 st_X8_within in_X8 co_X8_within) rfl rfl rfl (by decide +kernel) ⟨Nat.le_of_ble_eq_true rfl, Nat.le_of_ble_eq_true rfl⟩) (cP_S hK hP hD [] rfl rfl) rfl rfl hl.1 rfl (lv_room (Nat.le_of_ble_eq_true rfl)) dX8_put_41 ⟨Nat.zero_le _, Nat.zero_le _⟩) hP hD hS hA [] rfl (fun H locs hP hS => ?_)
            refine lv_if_eq (tgt := 51) hx hb dX8_put_44 (by decide) (fun c14 => ?_) (fun c14 => ?_)
            · have h := (if_pos c14).symm.trans h
              refine lv_iconst (v := 0) hx hb dX8_put_51 (by decide) ?_
              refine lv_istore (lv' := [(6, .int 0), (0, .ref m0), (1, .long y1), (3, .int y3), (4, .long y4)]) hx hb dX8_put_52 hl (by decide) rfl (fun ls hl => ?_)
              refine lv_lload hx hb dX8_put_54 (lv_at hl 4 rfl) ?_
              refine lv_bipush (v := 8) hx hb dX8_put_56 (by decide) ?_
              refine lv_lushr (v := (lushr y4 8)) hx hb dX8_put_58 rfl ?_
              refine lv_lstore (lv' := [(4, .long (lushr y4 8)), (6, .int 0), (0, .ref m0), (1, .long y1), (3, .int y3)]) hx hb dX8_put_59 hl (by decide) rfl (fun ls hl => ?_)
              refine lv_iinc (v := (y3 + 1)) (lv' := [(3, .int (y3 + 1)), (4, .long (lushr y4 8)), (6, .int 0), (0, .ref m0), (1, .long y1)]) hx hb dX8_put_61 hl (k := 4) rfl rfl (by decide) rfl (fun ls hl => ?_)
              refine lv_goto (tgt := 8) hx hb dX8_put_64 (by decide) ?_
              exact ih pad padLength y1 (y3 + 1) (lushr y4 8) 0 h _ _ hP hD hS ls (lv_sub hl [3, 4, 0, 1, 2] rfl)
            · have h := (if_neg c14).symm.trans h
              refine lv_iconst (v := 1) hx hb dX8_put_47 (by decide) ?_
              refine lv_goto (tgt := 52) hx hb dX8_put_48 (by decide) ?_
              refine lv_istore (lv' := [(6, .int 1), (0, .ref m0), (1, .long y1), (3, .int y3), (4, .long y4)]) hx hb dX8_put_52 hl (by decide) rfl (fun ls hl => ?_)
              refine lv_lload hx hb dX8_put_54 (lv_at hl 4 rfl) ?_
              refine lv_bipush (v := 8) hx hb dX8_put_56 (by decide) ?_
              refine lv_lushr (v := (lushr y4 8)) hx hb dX8_put_58 rfl ?_
              refine lv_lstore (lv' := [(4, .long (lushr y4 8)), (6, .int 1), (0, .ref m0), (1, .long y1), (3, .int y3)]) hx hb dX8_put_59 hl (by decide) rfl (fun ls hl => ?_)
              refine lv_iinc (v := (y3 + 1)) (lv' := [(3, .int (y3 + 1)), (4, .long (lushr y4 8)), (6, .int 1), (0, .ref m0), (1, .long y1)]) hx hb dX8_put_61 hl (k := 4) rfl rfl (by decide) rfl (fun ls hl => ?_)
              refine lv_goto (tgt := 8) hx hb dX8_put_64 (by decide) ?_
              exact ih pad padLength y1 (y3 + 1) (lushr y4 8) 1 h _ _ hP hD hS ls (lv_sub hl [3, 4, 0, 1, 2] rfl)
  have hl := lv_entry ([.ref m0, .long x1]) (n := 8) (Nat.le_of_ble_eq_true rfl)
  rw [lg_entry_eq]
  generalize (lg_sl ([.ref m0, .long x1]) ++ List.replicate (8 - (lg_sl ([.ref m0, .long x1])).length) Slot.unset).toArray = ls at hl ⊢
  have hl : lv_has ls 8 [(0, .ref m0), (1, .long x1)] := hl
  unfold fX8_put at h
  refine lv_iconst (v := 0) hx hb dX8_put_0 (by decide) ?_
  refine lv_istore_n (lv' := [(3, .int 0), (0, .ref m0), (1, .long x1)]) hx hb dX8_put_1 rfl hl (by decide) rfl (fun ls hl => ?_)
  refine lv_lload_n hx hb dX8_put_2 rfl (lv_at hl 2 rfl) ?_
  refine lv_lstore (lv' := [(4, .long x1), (3, .int 0), (0, .ref m0), (1, .long x1)]) hx hb dX8_put_3 hl (by decide) rfl (fun ls hl => ?_)
  refine lv_iconst (v := 1) hx hb dX8_put_5 (by decide) ?_
  refine lv_istore (lv' := [(6, .int 1), (4, .long x1), (3, .int 0), (0, .ref m0), (1, .long x1)]) hx hb dX8_put_6 hl (by decide) rfl (fun ls hl => ?_)
  exact kB8 6000 pad padLength x1 0 x1 1 h _ _ hP hD hS ls (lv_sub hl [3, 4, 2, 1, 0] rfl)

noncomputable def fX8_wipe (padLength : Int32) : Option (Int32 × Int32) :=
  (some (padLength, 0))
set_option maxHeartbeats 1000000 in
set_option maxRecDepth 100000 in
theorem mX8_wipe (l : Launch) (dC : Nat → ClassId) (dI : Nat → Nat → Nat) (cyI cyO : ClassId) (m0 m1 m2 m3 m4 m5 m6 : Nat) (state : Nat → Int32) (history : Nat → Int32) (recorded : Int32) (slots : Nat → Int32) (isSaved : Nat → Int32) (pad : Nat → Int32) (padLength : Int32) (opened : Nat → Int32) (pos : Int32) (letter : Int32) (first : Int32) (second : Int32)  (sz : Nat) (res : Int32 × Int32) (h : fX8_wipe padLength = some res) : Met l yX8_wipe (wsG yX8_wipe cX8_wipe 2 (some .int)) ({ frames := 0, cells := 0, slots := 0, locals := 0 }) (cP dC dI cyI cyO sz [.ref m0] (modelW cyI m0 m1 m2 m3 m4 m5 m6 state history recorded slots isSaved pad padLength opened pos letter first second)) (cI dC dI res.1 (modelW cyI m0 m1 m2 m3 m4 m5 m6 state history recorded slots isSaved pad res.2 opened pos letter first second) (va_A (modelW cyI m0 m1 m2 m3 m4 m5 m6 state history recorded slots isSaved pad padLength opened pos letter first second) sz)) 0 0 (va_A (modelW cyI m0 m1 m2 m3 m4 m5 m6 state history recorded slots isSaved pad padLength opened pos letter first second) sz) := by
  refine Met.ofW (cc := cX8_wipe) (maxL := 2) (ret := (some .int)) (by decide) rfl ?_
  intro p e s m args below meth c s₁ B hml hv
  obtain ⟨rfl, hsz, hP, hK, hD0⟩ := hv
  have hx := B.exec
  have hb := B.bytes
  have hr := B.returns
  have hts := atoms_spec (ws := wsG yX8_wipe cX8_wipe 2 (some .int)) B.pre
  have hown : s.vm.findClass RX8 = some m.cls := findClass_of_methodNamed B.named
  have hlocks := B.notSynchronized
  subst hsz
  have hD := hD0.self (sz := s.heap.size)
  generalize hAe : va_A (modelW cyI m0 m1 m2 m3 m4 m5 m6 state history recorded slots isSaved pad padLength opened pos letter first second) s.heap.size = A at hD ⊢
  have hA : ∀ q : Nat, s.heap.size ≤ q → A q := fun q h => by rw [← hAe]; exact Or.inr h
  have hS : va_S A s.heap s.heap [] := va_S.rf
  have hl := lv_entry ([.ref m0]) (n := 2) (Nat.le_of_ble_eq_true rfl)
  rw [lg_entry_eq]
  generalize (lg_sl ([.ref m0]) ++ List.replicate (2 - (lg_sl ([.ref m0])).length) Slot.unset).toArray = ls at hl ⊢
  have hl : lv_has ls 2 [(0, .ref m0)] := hl
  unfold fX8_wipe at h
  refine lv_aload_n hx hb dX8_wipe_0 rfl (lv_at hl 0 rfl) ?_
  refine va_get (D := (dC, dI)) (ci := 8) (v := .int padLength) (C := RX8) (T := TX8) (N := 12) hx hb hts (fun w h9 => gb_mem (lay_X8 w h9)) hown hK.1 hP 0 rfl rfl 6 (by decide) (hts _ (gb_mem fl_X8_204)) (fun _ h9 => h9) rfl dX8_wipe_1 ?_
  refine lv_istore_n (lv' := [(1, .int padLength), (0, .ref m0)]) hx hb dX8_wipe_4 rfl hl (by decide) rfl (fun ls hl => ?_)
  refine lv_aload_n hx hb dX8_wipe_5 rfl (lv_at hl 1 rfl) ?_
  refine lv_iconst (v := 0) hx hb dX8_wipe_6 (by decide) ?_
  refine va_put (D := (dC, dI)) (ci := 8) (v := .int 0) (ty := .int) (C := RX8) (T := TX8) (N := 12) hx hb hts (fun w h9 => gb_mem (lay_X8 w h9)) tyX8 tyX8_ok nmX8 hown hK.1 hP hD hS 0 rfl rfl 6 (by decide) (hts _ (gb_mem fl_X8_204)) (fun _ h9 => h9) rfl (by decide +kernel) rfl rfl (Nat.le_of_ble_eq_true rfl) dX8_wipe_7 (fun H locs hP hD hS => ?_)
  have hP : va_P (dC, dI) vwCl (modelW cyI m0 m1 m2 m3 m4 m5 m6 state history recorded slots isSaved pad 0 opened pos letter first second) H := hP
  have hD : va_D A (modelW cyI m0 m1 m2 m3 m4 m5 m6 state history recorded slots isSaved pad 0 opened pos letter first second) := hD
  refine lv_iload_n hx hb dX8_wipe_10 rfl (lv_at hl 0 rfl) ?_
  obtain rfl := Option.some.inj h
  exact e_i hx hb hr hlocks hP hS dX8_wipe_11

noncomputable def fX8_character (pad : Nat → Int32) (padLength : Int32) (x1 : Int32) : Option (Int32) :=
  (if padLength ≤ x1 then (some (-1)) else (if x1 < 0 ∨ 60 ≤ x1.toNatClampNeg then none else (some (pad x1.toNatClampNeg))))
set_option maxHeartbeats 1000000 in
set_option maxRecDepth 100000 in
theorem mX8_character (l : Launch) (dC : Nat → ClassId) (dI : Nat → Nat → Nat) (cyI cyO : ClassId) (m0 m1 m2 m3 m4 m5 m6 : Nat) (state : Nat → Int32) (history : Nat → Int32) (recorded : Int32) (slots : Nat → Int32) (isSaved : Nat → Int32) (pad : Nat → Int32) (padLength : Int32) (opened : Nat → Int32) (pos : Int32) (letter : Int32) (first : Int32) (second : Int32) (x1 : Int32) (sz : Nat) (res : Int32) (h : fX8_character pad padLength x1 = some res) : Met l yX8_character (wsG yX8_character cX8_character 2 (some .int)) ({ frames := 0, cells := 0, slots := 0, locals := 0 }) (cP dC dI cyI cyO sz [.ref m0, .int x1] (modelW cyI m0 m1 m2 m3 m4 m5 m6 state history recorded slots isSaved pad padLength opened pos letter first second)) (cI dC dI res (modelW cyI m0 m1 m2 m3 m4 m5 m6 state history recorded slots isSaved pad padLength opened pos letter first second) (va_A (modelW cyI m0 m1 m2 m3 m4 m5 m6 state history recorded slots isSaved pad padLength opened pos letter first second) sz)) 0 0 (va_A (modelW cyI m0 m1 m2 m3 m4 m5 m6 state history recorded slots isSaved pad padLength opened pos letter first second) sz) := by
  refine Met.ofW (cc := cX8_character) (maxL := 2) (ret := (some .int)) (by decide) rfl ?_
  intro p e s m args below meth c s₁ B hml hv
  obtain ⟨rfl, hsz, hP, hK, hD0⟩ := hv
  have hx := B.exec
  have hb := B.bytes
  have hr := B.returns
  have hts := atoms_spec (ws := wsG yX8_character cX8_character 2 (some .int)) B.pre
  have hown : s.vm.findClass RX8 = some m.cls := findClass_of_methodNamed B.named
  have hlocks := B.notSynchronized
  subst hsz
  have hD := hD0.self (sz := s.heap.size)
  generalize hAe : va_A (modelW cyI m0 m1 m2 m3 m4 m5 m6 state history recorded slots isSaved pad padLength opened pos letter first second) s.heap.size = A at hD ⊢
  have hA : ∀ q : Nat, s.heap.size ≤ q → A q := fun q h => by rw [← hAe]; exact Or.inr h
  have hS : va_S A s.heap s.heap [] := va_S.rf
  have hl := lv_entry ([.ref m0, .int x1]) (n := 2) (Nat.le_of_ble_eq_true rfl)
  rw [lg_entry_eq]
  generalize (lg_sl ([.ref m0, .int x1]) ++ List.replicate (2 - (lg_sl ([.ref m0, .int x1])).length) Slot.unset).toArray = ls at hl ⊢
  have hl : lv_has ls 2 [(0, .ref m0), (1, .int x1)] := hl
  unfold fX8_character at h
  refine lv_iload_n hx hb dX8_character_0 rfl (lv_at hl 1 rfl) ?_
  refine lv_aload_n hx hb dX8_character_1 rfl (lv_at hl 0 rfl) ?_
  refine va_get (D := (dC, dI)) (ci := 8) (v := .int padLength) (C := RX8) (T := TX8) (N := 12) hx hb hts (fun w h9 => gb_mem (lay_X8 w h9)) hown hK.1 hP 0 rfl rfl 6 (by decide) (hts _ (gb_mem fl_X8_204)) (fun _ h9 => h9) rfl dX8_character_2 ?_
  refine lv_icmp_ge (tgt := 17) hx hb dX8_character_5 (by decide) (fun c1 => ?_) (fun c1 => ?_)
  · have h := (if_pos c1).symm.trans h
    refine lv_iconst (v := (-1)) hx hb dX8_character_17 (by decide) ?_
    obtain rfl := Option.some.inj h
    exact e_i hx hb hr hlocks hP hS dX8_character_18
  · have h := (if_neg c1).symm.trans h
    refine lv_aload_n hx hb dX8_character_8 rfl (lv_at hl 0 rfl) ?_
    refine va_get (D := (dC, dI)) (ci := 8) (v := .ref m5) (C := RX8) (T := TX8) (N := 12) hx hb hts (fun w h9 => gb_mem (lay_X8 w h9)) hown hK.1 hP 0 rfl rfl 5 (by decide) (hts _ (gb_mem fl_X8_22)) (fun _ h9 => h9) rfl dX8_character_9 ?_
    refine lv_iload_n hx hb dX8_character_12 rfl (lv_at hl 1 rfl) ?_
    obtain ⟨ni2, h⟩ := ifn h
    refine va_iald hx hb hK.1 hP 5 0 rfl rfl ni2 dX8_character_13 ?_
    refine lv_goto (tgt := 18) hx hb dX8_character_14 (by decide) ?_
    obtain rfl := Option.some.inj h
    exact e_i hx hb hr hlocks hP hS dX8_character_18

noncomputable def fX8_takes (pad : Nat → Int32) (padLength : Int32) (pos : Int32) (x1 : Int32) : Option (Int32 × Int32) :=
  ((fX8_character pad padLength pos).bind fun q1 => (if q1 = x1 then (some (1, (pos + 1))) else (some (0, (pos + 0)))))
set_option maxHeartbeats 1000000 in
set_option maxRecDepth 100000 in
theorem mX8_takes (l : Launch) (dC : Nat → ClassId) (dI : Nat → Nat → Nat) (cyI cyO : ClassId) (m0 m1 m2 m3 m4 m5 m6 : Nat) (state : Nat → Int32) (history : Nat → Int32) (recorded : Int32) (slots : Nat → Int32) (isSaved : Nat → Int32) (pad : Nat → Int32) (padLength : Int32) (opened : Nat → Int32) (pos : Int32) (letter : Int32) (first : Int32) (second : Int32) (x1 : Int32) (sz : Nat) (res : Int32 × Int32) (h : fX8_takes pad padLength pos x1 = some res) : Met l yX8_takes (wsG yX8_takes cX8_takes 3 (some .boolean)) ({ frames := 1, cells := 0, slots := 0, locals := 21 }) (cP dC dI cyI cyO sz [.ref m0, .int x1] (modelW cyI m0 m1 m2 m3 m4 m5 m6 state history recorded slots isSaved pad padLength opened pos letter first second)) (cI dC dI res.1 (modelW cyI m0 m1 m2 m3 m4 m5 m6 state history recorded slots isSaved pad padLength opened res.2 letter first second) (va_A (modelW cyI m0 m1 m2 m3 m4 m5 m6 state history recorded slots isSaved pad padLength opened pos letter first second) sz)) 0 0 (va_A (modelW cyI m0 m1 m2 m3 m4 m5 m6 state history recorded slots isSaved pad padLength opened pos letter first second) sz) := by
  refine Met.ofW (cc := cX8_takes) (maxL := 3) (ret := (some .boolean)) (by decide) rfl ?_
  intro p e s m args below meth c s₁ B hml hv
  obtain ⟨rfl, hsz, hP, hK, hD0⟩ := hv
  have hx := B.exec
  have hb := B.bytes
  have hr := B.returns
  have hts := atoms_spec (ws := wsG yX8_takes cX8_takes 3 (some .boolean)) B.pre
  have hown : s.vm.findClass RX8 = some m.cls := findClass_of_methodNamed B.named
  have hlocks := B.notSynchronized
  subst hsz
  have hD := hD0.self (sz := s.heap.size)
  generalize hAe : va_A (modelW cyI m0 m1 m2 m3 m4 m5 m6 state history recorded slots isSaved pad padLength opened pos letter first second) s.heap.size = A at hD ⊢
  have hA : ∀ q : Nat, s.heap.size ≤ q → A q := fun q h => by rw [← hAe]; exact Or.inr h
  have hS : va_S A s.heap s.heap [] := va_S.rf
  have hl := lv_entry ([.ref m0, .int x1]) (n := 3) (Nat.le_of_ble_eq_true rfl)
  rw [lg_entry_eq]
  generalize (lg_sl ([.ref m0, .int x1]) ++ List.replicate (3 - (lg_sl ([.ref m0, .int x1])).length) Slot.unset).toArray = ls at hl ⊢
  have hl : lv_has ls 3 [(0, .ref m0), (1, .int x1)] := hl
  unfold fX8_takes at h
  refine lv_aload_n hx hb dX8_takes_0 rfl (lv_at hl 0 rfl) ?_
  refine lv_aload_n hx hb dX8_takes_1 rfl (lv_at hl 0 rfl) ?_
  refine va_get (D := (dC, dI)) (ci := 8) (v := .int pos) (C := RX8) (T := TX8) (N := 12) hx hb hts (fun w h9 => gb_mem (lay_X8 w h9)) hown hK.1 hP 0 rfl rfl 8 (by decide) (hts _ (gb_mem fl_X8_215)) (fun _ h9 => h9) rfl dX8_takes_2 ?_
  obtain ⟨q1, e2, h⟩ := ob h
  refine fr_ir (M := (modelW cyI m0 m1 m2 m3 m4 m5 m6 state history recorded slots isSaved pad padLength opened pos letter first second)) (va_runV (As := [.int pos]) (rest := []) ⟨hx, hb, hml, hown, hts⟩ (mX8_character l dC dI cyI cyO m0 m1 m2 m3 m4 m5 m6 state history recorded slots isSaved pad padLength opened pos letter first second pos _ q1 e2) (cwV 1 hts (gV ml_X8_218 im_X8_character se_X8_character in_X8 co_X8_character) rfl rfl rfl (by decide +kernel) ⟨Nat.le_of_ble_eq_true rfl, Nat.le_of_ble_eq_true rfl⟩) (cP_V hK hP hD [0, 1, 2, 3, 4, 5, 6] rfl rfl 0 rfl rfl) rfl rfl hl.1 rfl (lv_room (Nat.le_of_ble_eq_true rfl)) dX8_takes_5 ⟨Nat.zero_le _, Nat.zero_le _⟩) hP hD hS hA [0, 1, 2, 3, 4, 5, 6] rfl (fun H locs hP hS => ?_)
  refine lv_iload_n hx hb dX8_takes_8 rfl (lv_at hl 1 rfl) ?_
  refine lv_icmp_ne (tgt := 16) hx hb dX8_takes_9 (by decide) (fun c3 => ?_) (fun c3 => ?_)
  · have h := (if_neg c3).symm.trans h
    refine lv_iconst (v := 0) hx hb dX8_takes_16 (by decide) ?_
    refine lv_istore_n (lv' := [(2, .int 0), (0, .ref m0), (1, .int x1)]) hx hb dX8_takes_17 rfl hl (by decide) rfl (fun ls hl => ?_)
    refine lv_aload_n hx hb dX8_takes_18 rfl (lv_at hl 1 rfl) ?_
    refine lv_dup hx hb dX8_takes_19 rfl ?_
    refine va_get (D := (dC, dI)) (ci := 8) (v := .int pos) (C := RX8) (T := TX8) (N := 12) hx hb hts (fun w h9 => gb_mem (lay_X8 w h9)) hown hK.1 hP 0 rfl rfl 8 (by decide) (hts _ (gb_mem fl_X8_215)) (fun _ h9 => h9) rfl dX8_takes_20 ?_
    refine lv_iload_n hx hb dX8_takes_23 rfl (lv_at hl 0 rfl) ?_
    refine lv_if_eq (tgt := 31) hx hb dX8_takes_24 (by decide) (fun c4 => ?_) (fun c4 => ?_)
    · refine lv_iconst (v := 0) hx hb dX8_takes_31 (by decide) ?_
      refine lv_iadd hx hb dX8_takes_32 ?_
      refine va_put (D := (dC, dI)) (ci := 8) (v := .int (pos + 0)) (ty := .int) (C := RX8) (T := TX8) (N := 12) hx hb hts (fun w h9 => gb_mem (lay_X8 w h9)) tyX8 tyX8_ok nmX8 hown hK.1 hP hD hS 0 rfl rfl 8 (by decide) (hts _ (gb_mem fl_X8_215)) (fun _ h9 => h9) rfl (by decide +kernel) rfl rfl (Nat.le_of_ble_eq_true rfl) dX8_takes_33 (fun H locs hP hD hS => ?_)
      have hP : va_P (dC, dI) vwCl (modelW cyI m0 m1 m2 m3 m4 m5 m6 state history recorded slots isSaved pad padLength opened (pos + 0) letter first second) H := hP
      have hD : va_D A (modelW cyI m0 m1 m2 m3 m4 m5 m6 state history recorded slots isSaved pad padLength opened (pos + 0) letter first second) := hD
      refine lv_iload_n hx hb dX8_takes_36 rfl (lv_at hl 0 rfl) ?_
      obtain rfl := Option.some.inj h
      exact e_z (v := 0) hx hb hr hlocks rfl hP hS dX8_takes_37
    · exact absurd c4 (by decide)
  · have h := (if_pos c3).symm.trans h
    refine lv_iconst (v := 1) hx hb dX8_takes_12 (by decide) ?_
    refine lv_goto (tgt := 17) hx hb dX8_takes_13 (by decide) ?_
    refine lv_istore_n (lv' := [(2, .int 1), (0, .ref m0), (1, .int x1)]) hx hb dX8_takes_17 rfl hl (by decide) rfl (fun ls hl => ?_)
    refine lv_aload_n hx hb dX8_takes_18 rfl (lv_at hl 1 rfl) ?_
    refine lv_dup hx hb dX8_takes_19 rfl ?_
    refine va_get (D := (dC, dI)) (ci := 8) (v := .int pos) (C := RX8) (T := TX8) (N := 12) hx hb hts (fun w h9 => gb_mem (lay_X8 w h9)) hown hK.1 hP 0 rfl rfl 8 (by decide) (hts _ (gb_mem fl_X8_215)) (fun _ h9 => h9) rfl dX8_takes_20 ?_
    refine lv_iload_n hx hb dX8_takes_23 rfl (lv_at hl 0 rfl) ?_
    refine lv_if_eq (tgt := 31) hx hb dX8_takes_24 (by decide) (fun c5 => ?_) (fun c5 => ?_)
    · exact absurd c5 (by decide)
    · refine lv_iconst (v := 1) hx hb dX8_takes_27 (by decide) ?_
      refine lv_goto (tgt := 32) hx hb dX8_takes_28 (by decide) ?_
      refine lv_iadd hx hb dX8_takes_32 ?_
      refine va_put (D := (dC, dI)) (ci := 8) (v := .int (pos + 1)) (ty := .int) (C := RX8) (T := TX8) (N := 12) hx hb hts (fun w h9 => gb_mem (lay_X8 w h9)) tyX8 tyX8_ok nmX8 hown hK.1 hP hD hS 0 rfl rfl 8 (by decide) (hts _ (gb_mem fl_X8_215)) (fun _ h9 => h9) rfl (by decide +kernel) rfl rfl (Nat.le_of_ble_eq_true rfl) dX8_takes_33 (fun H locs hP hD hS => ?_)
      have hP : va_P (dC, dI) vwCl (modelW cyI m0 m1 m2 m3 m4 m5 m6 state history recorded slots isSaved pad padLength opened (pos + 1) letter first second) H := hP
      have hD : va_D A (modelW cyI m0 m1 m2 m3 m4 m5 m6 state history recorded slots isSaved pad padLength opened (pos + 1) letter first second) := hD
      refine lv_iload_n hx hb dX8_takes_36 rfl (lv_at hl 0 rfl) ?_
      obtain rfl := Option.some.inj h
      exact e_z (v := 1) hx hb hr hlocks rfl hP hS dX8_takes_37
