/-! save, restore -/
def slF (sad : Nat → Nat → Nat) (on : Nat → Bool) : Nat → Option Nat := fun k => if on k = true then some (sad k 0) else none
def slR (cy : ClassId) (sad : Nat → Nat → Nat) (on : Nat → Bool) (sv : Nat → HV) : va_W := (if on 0 = true then houseV cy (sad 0) (sv 0) else []) ++ (if on 1 = true then houseV cy (sad 1) (sv 1) else [])
def slO (cy : ClassId) (sad : Nat → Nat → Nat) (on : Nat → Bool) (sv : Nat → HV) (k : Nat) : va_W := if on (1 - k) = true then houseV cy (sad (1 - k)) (sv (1 - k)) else []
theorem sl_split {cy : ClassId} {sad : Nat → Nat → Nat} {on : Nat → Bool} {sv : Nat → HV} {k : Nat} (hk : k < 2) : (slR cy sad on sv).Perm ((if on k = true then houseV cy (sad k) (sv k) else []) ++ slO cy sad on sv k) := by
  rcases (show k = 0 ∨ k = 1 by omega) with rfl | rfl
  · exact List.Perm.refl _
  · exact List.perm_append_comm
theorem sl_up {cy : ClassId} {sad : Nat → Nat → Nat} {on : Nat → Bool} {sv : Nat → HV} {k : Nat} {ad : Nat → Nat} {q : HV} (hk : k < 2) : (slR cy (va_up sad k ad) (va_up on k true) (va_up sv k q)).Perm (houseV cy ad q ++ slO cy sad on sv k) := by
  rcases (show k = 0 ∨ k = 1 by omega) with rfl | rfl
  · exact List.Perm.refl _
  · exact List.perm_append_comm
theorem slF_up {sad : Nat → Nat → Nat} {on : Nat → Bool} {k : Nat} {ad : Nat → Nat} : slF (va_up sad k ad) (va_up on k true) = va_up (slF sad on) k (some (ad 0)) := by
  funext j
  by_cases hj : j = k
  · subst hj; simp [slF, va_up]
  · simp [slF, va_up, hj]
theorem perm_a {X V T Hs F1 : va_W} (h : X.Perm (Hs ++ F1)) : ((X ++ V) ++ T).Perm ((V ++ Hs) ++ (F1 ++ T)) := by
  refine ((h.append_right V).append_right T).trans ?_
  refine (List.Perm.append_right T List.perm_append_comm).trans ?_
  have e : V ++ (Hs ++ F1) ++ T = (V ++ Hs) ++ (F1 ++ T) := by simp only [List.append_assoc]
  rw [e]
theorem perm_b {X V Y O : va_W} : ((X ++ V) ++ (Y ++ O)).Perm (X ++ (Y ++ (V ++ O))) := by
  have e : (X ++ V) ++ (Y ++ O) = X ++ ((V ++ Y) ++ O) := by simp only [List.append_assoc]
  have e2 : X ++ (Y ++ (V ++ O)) = X ++ ((Y ++ V) ++ O) := by simp only [List.append_assoc]
  rw [e, e2]
  exact List.Perm.append_left _ (List.Perm.append_right _ List.perm_append_comm)
abbrev cIS (dC : Nat → ClassId) (dI : Nat → Nat → Nat) (S : Type) (r : Int32) (M : S → va_W) (A : Nat → Prop) : Array Value → State → Outcome → State → Prop :=
  va_Qi (S := S) (fun r' _ => r' = r) (fun u t => va_P (dC, dI) vwCl (M u) t.heap ∧ va_D A (M u)) A
theorem e_iS {p : Program} {l : Launch} {e : Env} {R : Room} {s : State} {m : MethodId} {args : Array Value} {below : List Frame} {meth : Method} {c : Code} {H : Heap} {locs : List Loc} {cells slots pc : Nat} {ls : Array Slot} {dC : Nat → ClassId} {dI : Nat → Nat → Nat} {cc : ByteArray} {A : Nat → Prop} {v : Int32} {S : Type} {M : S → va_W} (u : S) (hx : p.tables.exec = Jvm.exec) (hb : c.code = cc) (hr : meth.sig.returnType = some .int) (hlocks : meth.locks = false) (hP : va_P (dC, dI) vwCl (M u) H) (hD : va_D A (M u)) (hS : va_S A s.heap H locs) (hdg : decode cc pc = .ok (.ireturn, 1)) : W p l e R s m args below meth c H locs cells slots (MQ below (cIS dC dI S v M A) args s cells slots A) (F0 m pc ls [.int v]) :=
  W.iret hx hb hr (fun t ht hW => ⟨⟨v, u, rfl, rfl, by subst ht; exact hP, hD⟩, hS.F ht⟩) hS.2.2 hdg hlocks
noncomputable def fX7_save (mostWear : Int32) (keys : Int32) (boxes : Int32) (liveKeys : Int32) (liveBoxes : Int32) (parents : Nat → Int32) (makes : Nat → Int32) (wears : Nat → Int32) (keysOfBoxes : Nat → Int32) (number : Int32) (heldKeys : Nat → Int32) (heldWhats : Nat → Int32) (closers : Nat → Int32) (closerMakes : Nat → Int32) (stands : Nat → Int32) (on : Nat → Bool) (sv : Nat → HV) (x1 : Int32) : Option (Int32 × (Nat → Bool) × (Nat → HV)) :=
  if x1 < 0 then some ((-2), on, sv) else if x1 < nI 2 then (fX1_become ((if on x1.toNatClampNeg = true then sv x1.toNatClampNeg else hv0).1) ((if on x1.toNatClampNeg = true then sv x1.toNatClampNeg else hv0).2.1) ((if on x1.toNatClampNeg = true then sv x1.toNatClampNeg else hv0).2.2.1) ((if on x1.toNatClampNeg = true then sv x1.toNatClampNeg else hv0).2.2.2.1) ((if on x1.toNatClampNeg = true then sv x1.toNatClampNeg else hv0).2.2.2.2.1) ((if on x1.toNatClampNeg = true then sv x1.toNatClampNeg else hv0).2.2.2.2.2.1) ((if on x1.toNatClampNeg = true then sv x1.toNatClampNeg else hv0).2.2.2.2.2.2.1) ((if on x1.toNatClampNeg = true then sv x1.toNatClampNeg else hv0).2.2.2.2.2.2.2.1) ((if on x1.toNatClampNeg = true then sv x1.toNatClampNeg else hv0).2.2.2.2.2.2.2.2.1) ((if on x1.toNatClampNeg = true then sv x1.toNatClampNeg else hv0).2.2.2.2.2.2.2.2.2.1) ((if on x1.toNatClampNeg = true then sv x1.toNatClampNeg else hv0).2.2.2.2.2.2.2.2.2.2.1) ((if on x1.toNatClampNeg = true then sv x1.toNatClampNeg else hv0).2.2.2.2.2.2.2.2.2.2.2.1) ((if on x1.toNatClampNeg = true then sv x1.toNatClampNeg else hv0).2.2.2.2.2.2.2.2.2.2.2.2.1) ((if on x1.toNatClampNeg = true then sv x1.toNatClampNeg else hv0).2.2.2.2.2.2.2.2.2.2.2.2.2.1) ((if on x1.toNatClampNeg = true then sv x1.toNatClampNeg else hv0).2.2.2.2.2.2.2.2.2.2.2.2.2.2) mostWear keys boxes liveKeys liveBoxes parents makes wears keysOfBoxes number heldKeys heldWhats closers closerMakes stands).bind fun q => some (keys, va_up on x1.toNatClampNeg true, va_up sv x1.toNatClampNeg q) else some ((-2), on, sv)
set_option maxHeartbeats 2000000 in
set_option maxRecDepth 100000 in
theorem mX7_save (l : Launch) (dC : Nat → ClassId) (dI : Nat → Nat → Nat) (cyI cyO : ClassId) (g0 h0 t0 t1 t2 t3 t4 t5 t6 t7 t8 w0 w1 w2 w3 w4 w5 w6 w7 w8 w9 w10 o0 o1 o2 o3 o4 p0 p1 p2 j0 j1 s0 : Nat) (had : Nat → Nat → Nat) (mostWear : Int32) (keys : Int32) (boxes : Int32) (liveKeys : Int32) (liveBoxes : Int32) (parents : Nat → Int32) (makes : Nat → Int32) (wears : Nat → Int32) (keysOfBoxes : Nat → Int32) (number : Int32) (heldKeys : Nat → Int32) (heldWhats : Nat → Int32) (closers : Nat → Int32) (closerMakes : Nat → Int32) (stands : Nat → Int32) (startMakes : Nat → Int32) (opened : Nat → Int32) (signs : Nat → Int32) (length : Int32) (next : Int32) (letter : Int32) (target : Int32) (place : Int32) (spare : Int32) (kept : Int32) (hv : Nat → HV) (sad : Nat → Nat → Nat) (on : Nat → Bool) (sv : Nat → HV) (x1 : Int32) (sz : Nat) (res : Int32 × (Nat → Bool) × (Nat → HV)) (h : fX7_save mostWear keys boxes liveKeys liveBoxes parents makes wears keysOfBoxes number heldKeys heldWhats closers closerMakes stands on sv x1 = some res) : Met l yX7_save (wsG yX7_save cX7_save 3 (some .int)) ({ frames := 5, cells := 21, slots := 706, locals := 103 }) (cP dC dI cyI cyO sz [.ref g0, .int x1] ((mainW cyI cyO g0 h0 t0 t1 t2 t3 t4 t5 t6 t7 t8 w0 w1 w2 w3 w4 w5 w6 w7 w8 w9 w10 o0 o1 o2 o3 o4 p0 p1 p2 j0 j1 s0 had mostWear keys boxes liveKeys liveBoxes parents makes wears keysOfBoxes number heldKeys heldWhats closers closerMakes stands startMakes opened signs length next letter target place spare kept (slF sad on)) ++ (hvW cyI had hv ++ slR cyI sad on sv))) (cIS dC dI (Nat → Nat → Nat) res.1 (fun sad2 => (mainW cyI cyO g0 h0 t0 t1 t2 t3 t4 t5 t6 t7 t8 w0 w1 w2 w3 w4 w5 w6 w7 w8 w9 w10 o0 o1 o2 o3 o4 p0 p1 p2 j0 j1 s0 had mostWear keys boxes liveKeys liveBoxes parents makes wears keysOfBoxes number heldKeys heldWhats closers closerMakes stands startMakes opened signs length next letter target place spare kept (slF sad2 res.2.1)) ++ (hvW cyI had hv ++ slR cyI sad2 (res.2.1) (res.2.2))) (va_A ((mainW cyI cyO g0 h0 t0 t1 t2 t3 t4 t5 t6 t7 t8 w0 w1 w2 w3 w4 w5 w6 w7 w8 w9 w10 o0 o1 o2 o3 o4 p0 p1 p2 j0 j1 s0 had mostWear keys boxes liveKeys liveBoxes parents makes wears keysOfBoxes number heldKeys heldWhats closers closerMakes stands startMakes opened signs length next letter target place spare kept (slF sad on)) ++ (hvW cyI had hv ++ slR cyI sad on sv)) sz)) 21 706 (va_A ((mainW cyI cyO g0 h0 t0 t1 t2 t3 t4 t5 t6 t7 t8 w0 w1 w2 w3 w4 w5 w6 w7 w8 w9 w10 o0 o1 o2 o3 o4 p0 p1 p2 j0 j1 s0 had mostWear keys boxes liveKeys liveBoxes parents makes wears keysOfBoxes number heldKeys heldWhats closers closerMakes stands startMakes opened signs length next letter target place spare kept (slF sad on)) ++ (hvW cyI had hv ++ slR cyI sad on sv)) sz) := by
  refine Met.ofW (cc := cX7_save) (maxL := 3) (ret := (some .int)) (by decide) rfl ?_
  intro p e s m args below meth c s₁ B hml hv0
  obtain ⟨rfl, hsz, hP, hK, hD0⟩ := hv0
  have hx := B.exec
  have hb := B.bytes
  have hr := B.returns
  have hts := atoms_spec (ws := wsG yX7_save cX7_save 3 (some .int)) B.pre
  have hown : s.vm.findClass RX7 = some m.cls := findClass_of_methodNamed B.named
  have hlocks := B.notSynchronized
  subst hsz
  have hD := hD0.self (sz := s.heap.size)
  generalize hAe : va_A ((mainW cyI cyO g0 h0 t0 t1 t2 t3 t4 t5 t6 t7 t8 w0 w1 w2 w3 w4 w5 w6 w7 w8 w9 w10 o0 o1 o2 o3 o4 p0 p1 p2 j0 j1 s0 had mostWear keys boxes liveKeys liveBoxes parents makes wears keysOfBoxes number heldKeys heldWhats closers closerMakes stands startMakes opened signs length next letter target place spare kept (slF sad on)) ++ (hvW cyI had hv ++ slR cyI sad on sv)) s.heap.size = A at hD ⊢
  have hA : ∀ q : Nat, s.heap.size ≤ q → A q := fun q h => by rw [← hAe]; exact Or.inr h
  have hS : va_S A s.heap s.heap [] := va_S.rf
  have hl := lv_entry ([.ref g0, .int x1]) (n := 3) (Nat.le_of_ble_eq_true rfl)
  rw [lg_entry_eq]
  generalize (lg_sl ([.ref g0, .int x1]) ++ List.replicate (3 - (lg_sl ([.ref g0, .int x1])).length) Slot.unset).toArray = ls at hl ⊢
  have hl : lv_has ls 3 [(0, .ref g0), (1, .int x1)] := hl
  unfold fX7_save at h
  refine lv_iload_n hx hb dX7_save_0 rfl (lv_at hl 1 rfl) ?_
  refine lv_if_lt (tgt := 13) hx hb dX7_save_1 (by decide) (fun c1 => ?_) (fun c1 => ?_)
  · have h := (if_pos c1).symm.trans h
    obtain rfl := Option.some.inj h
    refine lv_bipush (v := (-2)) hx hb dX7_save_13 (by decide) ?_
    refine W.widen (k := 21) (n := 706) (Nat.zero_le _) (Nat.zero_le _) ?_
    exact e_iS sad hx hb hr hlocks hP hD hS dX7_save_15
  have h := (if_neg c1).symm.trans h
  refine lv_iload_n hx hb dX7_save_4 rfl (lv_at hl 1 rfl) ?_
  refine lv_aload_n hx hb dX7_save_5 rfl (lv_at hl 0 rfl) ?_
  refine va_get (D := (dC, dI)) (ci := 7) (v := .ref s0) (C := RX7) (T := TX7) (N := 5) hx hb hts (fun w h9 => gb_mem (lay_X7 w h9)) hown hK.1 hP 0 rfl rfl 4 (by decide) (hts _ (gb_mem fl_X7_37)) (fun _ h9 => h9) rfl dX7_save_6 ?_
  refine va_alen (v := nI 2) hx hb hK.1 hP 32 1 rfl rfl rfl dX7_save_9 ?_
  refine lv_icmp_lt (tgt := 16) hx hb dX7_save_10 (by decide) (fun c2 => ?_) (fun c2 => ?_)
  case refine_2 =>
    have h := (if_neg c2).symm.trans h
    obtain rfl := Option.some.inj h
    refine lv_bipush (v := (-2)) hx hb dX7_save_13 (by decide) ?_
    refine W.widen (k := 21) (n := 706) (Nat.zero_le _) (Nat.zero_le _) ?_
    exact e_iS sad hx hb hr hlocks hP hD hS dX7_save_15
  have h := (if_pos c2).symm.trans h
  obtain ⟨q, e1, h⟩ := ob h
  obtain rfl := Option.some.inj h
  have hk : x1.toNatClampNeg < 2 := by
    obtain ⟨j, hj, rfl⟩ := nI_of c1
    rw [nI_ltI hj (by omega)] at c2
    rw [nI_clamp hj]; exact c2
  have hin : vp_in x1 2 := fun z => z.elim c1 (fun z => by omega)
  have J : ∀ (ad : Nat → Nat) (v : HV) (H : Heap) (locs : List Loc), fX1_become (v.1) (v.2.1) (v.2.2.1) (v.2.2.2.1) (v.2.2.2.2.1) (v.2.2.2.2.2.1) (v.2.2.2.2.2.2.1) (v.2.2.2.2.2.2.2.1) (v.2.2.2.2.2.2.2.2.1) (v.2.2.2.2.2.2.2.2.2.1) (v.2.2.2.2.2.2.2.2.2.2.1) (v.2.2.2.2.2.2.2.2.2.2.2.1) (v.2.2.2.2.2.2.2.2.2.2.2.2.1) (v.2.2.2.2.2.2.2.2.2.2.2.2.2.1) (v.2.2.2.2.2.2.2.2.2.2.2.2.2.2) mostWear keys boxes liveKeys liveBoxes parents makes wears keysOfBoxes number heldKeys heldWhats closers closerMakes stands = some q → va_P (dC, dI) vwCl (((mainW cyI cyO g0 h0 t0 t1 t2 t3 t4 t5 t6 t7 t8 w0 w1 w2 w3 w4 w5 w6 w7 w8 w9 w10 o0 o1 o2 o3 o4 p0 p1 p2 j0 j1 s0 had mostWear keys boxes liveKeys liveBoxes parents makes wears keysOfBoxes number heldKeys heldWhats closers closerMakes stands startMakes opened signs length next letter target place spare kept (va_up (slF sad on) x1.toNatClampNeg (some (ad 0)))) ++ houseV cyI ad v) ++ (hvW cyI had hv ++ slO cyI sad on sv x1.toNatClampNeg)) H → va_D A (((mainW cyI cyO g0 h0 t0 t1 t2 t3 t4 t5 t6 t7 t8 w0 w1 w2 w3 w4 w5 w6 w7 w8 w9 w10 o0 o1 o2 o3 o4 p0 p1 p2 j0 j1 s0 had mostWear keys boxes liveKeys liveBoxes parents makes wears keysOfBoxes number heldKeys heldWhats closers closerMakes stands startMakes opened signs length next letter target place spare kept (va_up (slF sad on) x1.toNatClampNeg (some (ad 0)))) ++ houseV cyI ad v) ++ (hvW cyI had hv ++ slO cyI sad on sv x1.toNatClampNeg)) → va_S A s.heap H locs → ∀ ls : Array Slot, lv_has ls 3 [(2, .ref (ad 0)), (0, .ref g0), (1, .int x1)] → W p l e (headSpec (wsG yX7_save cX7_save 3 (some .int)) ({ frames := 5, cells := 21, slots := 706, locals := 103 })).room s m (([.ref g0, .int x1] : List Value).toArray) below meth c H locs 21 706 (MQ below (cIS dC dI (Nat → Nat → Nat) keys (fun sad2 => (mainW cyI cyO g0 h0 t0 t1 t2 t3 t4 t5 t6 t7 t8 w0 w1 w2 w3 w4 w5 w6 w7 w8 w9 w10 o0 o1 o2 o3 o4 p0 p1 p2 j0 j1 s0 had mostWear keys boxes liveKeys liveBoxes parents makes wears keysOfBoxes number heldKeys heldWhats closers closerMakes stands startMakes opened signs length next letter target place spare kept (slF sad2 (va_up on x1.toNatClampNeg true))) ++ (hvW cyI had hv ++ slR cyI sad2 (va_up on x1.toNatClampNeg true) (va_up sv x1.toNatClampNeg q))) A) (([.ref g0, .int x1] : List Value).toArray) s 21 706 A) (F0 m 42 ls []) := by
    intro ad v H locs e1 hP hD hS ls hl
    have hSp : (mainW cyI cyO g0 h0 t0 t1 t2 t3 t4 t5 t6 t7 t8 w0 w1 w2 w3 w4 w5 w6 w7 w8 w9 w10 o0 o1 o2 o3 o4 p0 p1 p2 j0 j1 s0 had mostWear keys boxes liveKeys liveBoxes parents makes wears keysOfBoxes number heldKeys heldWhats closers closerMakes stands startMakes opened signs length next letter target place spare kept (va_up (slF sad on) x1.toNatClampNeg (some (ad 0)))).Perm ((houseW cyI h0 t0 t1 t2 t3 t4 t5 t6 t7 t8 w0 w1 w2 w3 w4 w5 w6 w7 w8 w9 w10 mostWear keys boxes liveKeys liveBoxes parents makes wears keysOfBoxes number heldKeys heldWhats closers closerMakes stands) ++ ([(g0, .inr (7, [.ref h0, .ref o0, .ref p0, .ref j0, .ref s0])), (o0, .inr (2, [.ref o1, .ref o3])), (o1, .inr (4, [.ref o2])), (o2, .inl (cyI, (20, .inl startMakes))), (o3, .inr (4, [.ref o4])), (o4, .inl (cyI, (120, .inl opened))), (p0, .inr (3, [.ref p1, .int length, .int next, .int letter, .int target, .int place])), (p1, .inr (4, [.ref p2])), (p2, .inl (cyI, (60, .inl signs))), (j0, .inr (0, [.ref j1, .int spare, .int kept])), (j1, .inl (cyO, (7, .inr (.inr (.inr (.inr (fun i => if i < 7 then some (had i 0) else none))))))), (s0, .inl (cyO, (2, .inr (.inr (.inr (.inr (va_up (slF sad on) x1.toNatClampNeg (some (ad 0)))))))))] : va_W)) := split_of [1, 2, 3, 4, 5, 6, 7, 8, 9, 10, 11, 12, 13, 14, 15, 16, 17, 18, 19, 20, 21] [0, 22, 23, 24, 25, 26, 27, 28, 29, 30, 31, 32] rfl rfl (show ([1, 2, 3, 4, 5, 6, 7, 8, 9, 10, 11, 12, 13, 14, 15, 16, 17, 18, 19, 20, 21] ++ [0, 22, 23, 24, 25, 26, 27, 28, 29, 30, 31, 32]).Perm (List.range 33) by decide)
    refine lv_aload_n hx hb dX7_save_42 rfl (lv_at hl 0 rfl) ?_
    refine lv_aload_n hx hb dX7_save_43 rfl (lv_at hl 1 rfl) ?_
    refine va_get (D := (dC, dI)) (ci := 7) (v := .ref h0) (C := RX7) (T := TX7) (N := 5) hx hb hts (fun w h9 => gb_mem (lay_X7 w h9)) hown hK.1 hP 0 rfl rfl 0 (by decide) (hts _ (gb_mem fl_X7_10)) (fun _ h9 => h9) rfl dX7_save_44 ?_
    refine fr_vG (M := houseV cyI ad v ++ (houseW cyI h0 t0 t1 t2 t3 t4 t5 t6 t7 t8 w0 w1 w2 w3 w4 w5 w6 w7 w8 w9 w10 mostWear keys boxes liveKeys liveBoxes parents makes wears keysOfBoxes number heldKeys heldWhats closers closerMakes stands)) (M' := houseV cyI ad q ++ (houseW cyI h0 t0 t1 t2 t3 t4 t5 t6 t7 t8 w0 w1 w2 w3 w4 w5 w6 w7 w8 w9 w10 mostWear keys boxes liveKeys liveBoxes parents makes wears keysOfBoxes number heldKeys heldWhats closers closerMakes stands)) (F := ([(g0, .inr (7, [.ref h0, .ref o0, .ref p0, .ref j0, .ref s0])), (o0, .inr (2, [.ref o1, .ref o3])), (o1, .inr (4, [.ref o2])), (o2, .inl (cyI, (20, .inl startMakes))), (o3, .inr (4, [.ref o4])), (o4, .inl (cyI, (120, .inl opened))), (p0, .inr (3, [.ref p1, .int length, .int next, .int letter, .int target, .int place])), (p1, .inr (4, [.ref p2])), (p2, .inl (cyI, (60, .inl signs))), (j0, .inr (0, [.ref j1, .int spare, .int kept])), (j1, .inl (cyO, (7, .inr (.inr (.inr (.inr (fun i => if i < 7 then some (had i 0) else none))))))), (s0, .inl (cyO, (2, .inr (.inr (.inr (.inr (va_up (slF sad on) x1.toNatClampNeg (some (ad 0)))))))))] : va_W) ++ (hvW cyI had hv ++ slO cyI sad on sv x1.toNatClampNeg)) (L' := ((mainW cyI cyO g0 h0 t0 t1 t2 t3 t4 t5 t6 t7 t8 w0 w1 w2 w3 w4 w5 w6 w7 w8 w9 w10 o0 o1 o2 o3 o4 p0 p1 p2 j0 j1 s0 had mostWear keys boxes liveKeys liveBoxes parents makes wears keysOfBoxes number heldKeys heldWhats closers closerMakes stands startMakes opened signs length next letter target place spare kept (va_up (slF sad on) x1.toNatClampNeg (some (ad 0)))) ++ houseV cyI ad q) ++ (hvW cyI had hv ++ slO cyI sad on sv x1.toNatClampNeg)) (va_runV (As := [.ref h0]) (rest := []) ⟨hx, hb, hml, hown, hts⟩ (mX1_become l dC dI cyI cyO (ad 0) (ad 1) (ad 2) (ad 3) (ad 4) (ad 5) (ad 6) (ad 7) (ad 8) (ad 9) (ad 10) (ad 11) (ad 12) (ad 13) (ad 14) (ad 15) (ad 16) (ad 17) (ad 18) (ad 19) (ad 20) h0 t0 t1 t2 t3 t4 t5 t6 t7 t8 w0 w1 w2 w3 w4 w5 w6 w7 w8 w9 w10 (v.1) (v.2.1) (v.2.2.1) (v.2.2.2.1) (v.2.2.2.2.1) (v.2.2.2.2.2.1) (v.2.2.2.2.2.2.1) (v.2.2.2.2.2.2.2.1) (v.2.2.2.2.2.2.2.2.1) (v.2.2.2.2.2.2.2.2.2.1) (v.2.2.2.2.2.2.2.2.2.2.1) (v.2.2.2.2.2.2.2.2.2.2.2.1) (v.2.2.2.2.2.2.2.2.2.2.2.2.1) (v.2.2.2.2.2.2.2.2.2.2.2.2.2.1) (v.2.2.2.2.2.2.2.2.2.2.2.2.2.2) mostWear keys boxes liveKeys liveBoxes parents makes wears keysOfBoxes number heldKeys heldWhats closers closerMakes stands _ q e1) (cwV 1 hts (gV ml_X7_250 im_X1_become se_X1_become in_X1 co_X1_become) rfl rfl rfl (by decide +kernel) ⟨Nat.le_of_ble_eq_true rfl, Nat.le_of_ble_eq_true rfl⟩) (cP_VG hK hP hD (perm_a hSp) 0 rfl rfl) rfl rfl hl.1 rfl (lv_room (Nat.le_of_ble_eq_true rfl)) dX7_save_47 ⟨Nat.le_refl _, Nat.le_refl _⟩) hP hD hS hA (perm_a hSp) (perm_a hSp) rfl (fun H locs hP hD hS => ?_)
    refine lv_aload_n hx hb dX7_save_50 rfl (lv_at hl 1 rfl) ?_
    refine va_get (D := (dC, dI)) (ci := 7) (v := .ref h0) (C := RX7) (T := TX7) (N := 5) hx hb hts (fun w h9 => gb_mem (lay_X7 w h9)) hown hK.1 hP 0 rfl rfl 0 (by decide) (hts _ (gb_mem fl_X7_10)) (fun _ h9 => h9) rfl dX7_save_51 ?_
    refine va_getN (D := (dC, dI)) (ci := 1) (v := .ref t0) (C := RX1) (T := TX1) (N := 2) hx hb hts (fun w h9 => gb_mem (lay_X1 w h9)) hown hK.1 hP 1 rfl rfl 0 (by decide) (va_Nw.use rfl (hK.2 _ nl_X7_68)) (fun _ h9 => h9) rfl dX7_save_54 ?_
    refine va_getN (D := (dC, dI)) (ci := 5) (v := .int keys) (C := RX5) (T := TX5) (N := 9) hx hb hts (fun w h9 => gb_mem (lay_X5 w h9)) hown hK.1 hP 2 rfl rfl 1 (by decide) (va_Nw.use rfl (hK.2 _ nl_X7_155)) (fun _ h9 => h9) rfl dX7_save_57 ?_
    have hpm : (((mainW cyI cyO g0 h0 t0 t1 t2 t3 t4 t5 t6 t7 t8 w0 w1 w2 w3 w4 w5 w6 w7 w8 w9 w10 o0 o1 o2 o3 o4 p0 p1 p2 j0 j1 s0 had mostWear keys boxes liveKeys liveBoxes parents makes wears keysOfBoxes number heldKeys heldWhats closers closerMakes stands startMakes opened signs length next letter target place spare kept (va_up (slF sad on) x1.toNatClampNeg (some (ad 0)))) ++ houseV cyI ad q) ++ (hvW cyI had hv ++ slO cyI sad on sv x1.toNatClampNeg)).Perm ((mainW cyI cyO g0 h0 t0 t1 t2 t3 t4 t5 t6 t7 t8 w0 w1 w2 w3 w4 w5 w6 w7 w8 w9 w10 o0 o1 o2 o3 o4 p0 p1 p2 j0 j1 s0 had mostWear keys boxes liveKeys liveBoxes parents makes wears keysOfBoxes number heldKeys heldWhats closers closerMakes stands startMakes opened signs length next letter target place spare kept (slF (va_up sad x1.toNatClampNeg ad) (va_up on x1.toNatClampNeg true))) ++ (hvW cyI had hv ++ slR cyI (va_up sad x1.toNatClampNeg ad) (va_up on x1.toNatClampNeg true) (va_up sv x1.toNatClampNeg q))) := by
      rw [slF_up]
      exact perm_b.trans (List.Perm.append_left _ (List.Perm.append_left _ (sl_up hk).symm))
    exact e_iS (va_up sad x1.toNatClampNeg ad) hx hb hr hlocks (va_P_perm hpm hP) (va_D_perm hpm hD) hS dX7_save_60
  refine lv_aload_n hx hb dX7_save_16 rfl (lv_at hl 0 rfl) ?_
  refine va_get (D := (dC, dI)) (ci := 7) (v := .ref s0) (C := RX7) (T := TX7) (N := 5) hx hb hts (fun w h9 => gb_mem (lay_X7 w h9)) hown hK.1 hP 0 rfl rfl 4 (by decide) (hts _ (gb_mem fl_X7_37)) (fun _ h9 => h9) rfl dX7_save_17 ?_
  refine lv_iload_n hx hb dX7_save_20 rfl (lv_at hl 1 rfl) ?_
  refine va_aldq (C := "HangingKeys$House") hx hb hK.1 hP 32 1 rfl rfl hin dX7_save_21 ?_
  by_cases hon : on x1.toNatClampNeg = true
  · have hf : slF sad on x1.toNatClampNeg = some (sad x1.toNatClampNeg 0) := if_pos hon
    rw [hf]
    have hvk : (if on x1.toNatClampNeg = true then sv x1.toNatClampNeg else hv0) = sv x1.toNatClampNeg := if_pos hon
    rw [hvk] at e1
    show W p l e _ s m (([.ref g0, .int x1] : List Value).toArray) below meth c _ _ 0 0 _ (F0 m 22 ls [.ref (sad x1.toNatClampNeg 0)])
    refine lv_astore_n (lv' := [(2, .ref (sad x1.toNatClampNeg 0)), (0, .ref g0), (1, .int x1)]) hx hb dX7_save_22 rfl hl (by decide) rfl (fun ls hl => ?_)
    refine lv_aload_n hx hb dX7_save_23 rfl (lv_at hl 0 rfl) ?_
    refine lv_ifnonnull (tgt := 42) hx hb dX7_save_24 (by decide) ?_
    refine W.widen (k := 21) (n := 706) (Nat.zero_le _) (Nat.zero_le _) ?_
    have hsl : va_up (slF sad on) x1.toNatClampNeg (some (sad x1.toNatClampNeg 0)) = slF sad on := by
      funext j
      by_cases hj : j = x1.toNatClampNeg
      · subst hj; simp [va_up, hf]
      · simp [va_up, hj]
    have hpm : ((mainW cyI cyO g0 h0 t0 t1 t2 t3 t4 t5 t6 t7 t8 w0 w1 w2 w3 w4 w5 w6 w7 w8 w9 w10 o0 o1 o2 o3 o4 p0 p1 p2 j0 j1 s0 had mostWear keys boxes liveKeys liveBoxes parents makes wears keysOfBoxes number heldKeys heldWhats closers closerMakes stands startMakes opened signs length next letter target place spare kept (slF sad on)) ++ (hvW cyI had hv ++ slR cyI sad on sv)).Perm (((mainW cyI cyO g0 h0 t0 t1 t2 t3 t4 t5 t6 t7 t8 w0 w1 w2 w3 w4 w5 w6 w7 w8 w9 w10 o0 o1 o2 o3 o4 p0 p1 p2 j0 j1 s0 had mostWear keys boxes liveKeys liveBoxes parents makes wears keysOfBoxes number heldKeys heldWhats closers closerMakes stands startMakes opened signs length next letter target place spare kept (slF sad on)) ++ houseV cyI (sad x1.toNatClampNeg) (sv x1.toNatClampNeg)) ++ (hvW cyI had hv ++ slO cyI sad on sv x1.toNatClampNeg)) := by
      have h3 := sl_split (cy := cyI) (sad := sad) (on := on) (sv := sv) hk
      rw [if_pos hon] at h3
      exact (List.Perm.append_left _ (List.Perm.append_left _ h3)).trans perm_b.symm
    have hP := va_P_perm hpm hP
    have hD := va_D_perm hpm hD
    have J2 := J (sad x1.toNatClampNeg) (sv x1.toNatClampNeg)
    rw [hsl] at J2
    exact J2 _ _ e1 hP hD hS ls hl
  · have hf : slF sad on x1.toNatClampNeg = none := if_neg hon
    rw [hf]
    have hvk : (if on x1.toNatClampNeg = true then sv x1.toNatClampNeg else hv0) = hv0 := if_neg hon
    rw [hvk] at e1
    show W p l e _ s m (([.ref g0, .int x1] : List Value).toArray) below meth c _ _ 0 0 _ (F0 m 22 ls [.null])
    refine lv_astore_nN (lv' := [(2, .null), (0, .ref g0), (1, .int x1)]) hx hb dX7_save_22 rfl hl (by decide) rfl (fun ls hl => ?_)
    refine lv_aload_nN hx hb dX7_save_23 rfl (lv_at hl 0 rfl) ?_
    refine lv_ifnonnullN hx hb dX7_save_24 ?_
    refine va_new (ci := 1) (fs := [.null, .null]) (C := RX1) (T := TX1) (N := 2) hx hb hts (fun w h9 => gb_mem (lay_X1 w h9)) tyX1 tyX1_ok hown (hts _ (gb_mem cl_X7_7)) (hts _ (gb_mem ia_X1)) (hts _ (gb_mem in_X1)) hK.1 hP hD hS hA rfl (fun j hj => by rcases (show j = 0 ∨ j = 1 by omega) with rfl | rfl <;> rfl) (Nat.le_of_ble_eq_true rfl) (Nat.le_of_ble_eq_true rfl) dX7_save_27 (fun qh H hP hD hS => ?_)
    refine lv_dup hx hb dX7_save_30 rfl ?_
    have h3 := sl_split (cy := cyI) (sad := sad) (on := on) (sv := sv) hk
    rw [if_neg hon] at h3
    refine fr_cG (M := [(qh, .inr (1, [.null, .null]))]) (F := ((mainW cyI cyO g0 h0 t0 t1 t2 t3 t4 t5 t6 t7 t8 w0 w1 w2 w3 w4 w5 w6 w7 w8 w9 w10 o0 o1 o2 o3 o4 p0 p1 p2 j0 j1 s0 had mostWear keys boxes liveKeys liveBoxes parents makes wears keysOfBoxes number heldKeys heldWhats closers closerMakes stands startMakes opened signs length next letter target place spare kept (slF sad on)) ++ (hvW cyI had hv ++ slR cyI sad on sv))) (L' := fun u => (((mainW cyI cyO g0 h0 t0 t1 t2 t3 t4 t5 t6 t7 t8 w0 w1 w2 w3 w4 w5 w6 w7 w8 w9 w10 o0 o1 o2 o3 o4 p0 p1 p2 j0 j1 s0 had mostWear keys boxes liveKeys liveBoxes parents makes wears keysOfBoxes number heldKeys heldWhats closers closerMakes stands startMakes opened signs length next letter target place spare kept (slF sad on)) ++ houseV cyI u hv0) ++ (hvW cyI had hv ++ slO cyI sad on sv x1.toNatClampNeg))) (va_runIN (host := "HangingKeys") (As := []) (rest := [.ref qh]) ⟨hx, hb, hml, hown, hts⟩ (mX1_init l dC dI cyI cyO qh _) ⟨va_cnB 0 hts (gW co_X1_init) rfl rfl rfl (hK.2 _ nl_X7_9) (hts _ (gb_mem in_X1)) (by decide +kernel) ⟨Nat.le_of_ble_eq_true rfl, Nat.le_of_ble_eq_true rfl⟩, rfl, hts _ (gb_mem im_X1_init)⟩ (cP_SG hK hP hD List.perm_append_comm) rfl rfl hl.1 rfl (lv_room (Nat.le_of_ble_eq_true rfl)) dX7_save_31 ⟨Nat.le_of_ble_eq_true rfl, Nat.le_of_ble_eq_true rfl⟩) hP hD hS hA List.perm_append_comm (fun u => ?_) (fun u H locs hw hP hD hS => ?_)
    · refine (List.Perm.append_right _ List.perm_append_comm).trans ?_
      rw [List.append_assoc]
      exact List.Perm.append_left _ (List.Perm.append_left _ (List.Perm.append_left _ h3.symm))
    · refine W.widen (k := 21) (n := 706) (Nat.le_of_ble_eq_true rfl) (Nat.le_of_ble_eq_true rfl) ?_
      refine lv_astore_n (lv' := [(2, .ref qh), (0, .ref g0), (1, .int x1)]) hx hb dX7_save_34 rfl hl (by decide) rfl (fun ls hl => ?_)
      refine lv_aload_n hx hb dX7_save_35 rfl (lv_at hl 1 rfl) ?_
      refine va_get (D := (dC, dI)) (ci := 7) (v := .ref s0) (C := RX7) (T := TX7) (N := 5) hx hb hts (fun w h9 => gb_mem (lay_X7 w h9)) hown hK.1 hP 0 rfl rfl 4 (by decide) (hts _ (gb_mem fl_X7_37)) (fun _ h9 => h9) rfl dX7_save_36 ?_
      refine lv_iload_n hx hb dX7_save_39 rfl (lv_at hl 2 rfl) ?_
      refine lv_aload_n hx hb dX7_save_40 rfl (lv_at hl 0 rfl) ?_
      refine va_astq (r := (RX1, TX1, 2)) (vs := [.ref (u 1), .ref (u 10)]) hx hb hK.1 hP hD hS 32 1 33 1 rfl rfl (by rw [← hw]; rfl) rfl hin dX7_save_41 (fun H locs hP hD hS => ?_)
      have hP : va_P (dC, dI) vwCl (((mainW cyI cyO g0 h0 t0 t1 t2 t3 t4 t5 t6 t7 t8 w0 w1 w2 w3 w4 w5 w6 w7 w8 w9 w10 o0 o1 o2 o3 o4 p0 p1 p2 j0 j1 s0 had mostWear keys boxes liveKeys liveBoxes parents makes wears keysOfBoxes number heldKeys heldWhats closers closerMakes stands startMakes opened signs length next letter target place spare kept (va_up (slF sad on) x1.toNatClampNeg (some qh))) ++ houseV cyI u hv0) ++ (hvW cyI had hv ++ slO cyI sad on sv x1.toNatClampNeg)) H := hP
      have hD : va_D A (((mainW cyI cyO g0 h0 t0 t1 t2 t3 t4 t5 t6 t7 t8 w0 w1 w2 w3 w4 w5 w6 w7 w8 w9 w10 o0 o1 o2 o3 o4 p0 p1 p2 j0 j1 s0 had mostWear keys boxes liveKeys liveBoxes parents makes wears keysOfBoxes number heldKeys heldWhats closers closerMakes stands startMakes opened signs length next letter target place spare kept (va_up (slF sad on) x1.toNatClampNeg (some qh))) ++ houseV cyI u hv0) ++ (hvW cyI had hv ++ slO cyI sad on sv x1.toNatClampNeg)) := hD
      have J2 := J u hv0
      rw [hw] at J2
      exact J2 _ _ e1 hP hD hS ls hl
