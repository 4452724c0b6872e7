/-! constructors -/
theorem cyI_of {dC : Nat → ClassId} {dI : Nat → Nat → Nat} {cyI cyO cyL cA : ClassId} {s : State} (h : va_K (dC, dI) vwCl (Kt cyI cyO cyL ++ [(cA, .int)]) s) : cyI = cA := by
  have h1 : s.vm.findClass ("[" ++ (FieldType.int).toString) = some cA := (h.2 3 (cA, .int) rfl).2
  have h2 : s.vm.findClass ("[" ++ (FieldType.int).toString) = some cyI := (h.2 0 (cyI, .int) rfl).2
  rw [h1] at h2
  exact (Option.some.inj h2).symm
/-- the end of a constructor: its new world, by the addresses u -/
abbrev cC (dC : Nat → ClassId) (dI : Nat → Nat → Nat) (S : Type) (post : S → Prop) (M : S → va_W) (A : Nat → Prop) : Array Value → State → Outcome → State → Prop :=
  va_Qv (S := S) post (fun u t => va_P (dC, dI) vwCl (M u) t.heap ∧ va_D A (M u)) A
section FRC
variable {p : Program} {l : Launch} {e : Env} {R : Room} {s : State} {m : MethodId} {args : Array Value} {below : List Frame} {meth : Method} {c : Code} {H : Heap} {locs : List Loc} {cells slots : Nat} {Q : State → Prop}
variable {pc : Nat} {ls : Array Slot} {rest st0 : List Value} {a : Array Value} {A0 : Nat → Prop} {H0 : Heap} {dC : Nat → ClassId} {dI : Nat → Nat → Nat} {L M wr : va_W} {mc ms : Nat}
theorem fr_c {S : Type} {post : S → Prop} {M' : S → va_W} (hr : va_Run p l e R s m args below meth c H locs cells slots mc ms (F0 m pc ls st0) rest (cC dC dI S post M' (va_A M H.size) a) (va_A M H.size)) (hP : va_P (dC, dI) vwCl L H) (hD : va_D A0 L) (hS : va_S A0 H0 H locs) (hA : ∀ q, H0.size ≤ q → A0 q) (isC isR : List Nat) (hC : isC.map (fun i => L[i]?) = M.map some) (hR : isR.map (fun i => L[i]?) = wr.map some) (hn : va_nd isR = true) (hdis : ∀ i ∈ isR, i ∉ isC)
    (kk : ∀ (u : S) (H1 : Heap) (locs1 : List Loc), post u → va_P (dC, dI) vwCl (wr ++ M' u) H1 → va_D A0 (wr ++ M' u) → va_S A0 H0 H1 locs1 → W p l e R s m args below meth c H1 locs1 (cells + mc) (slots + ms) Q (F0 m (pc + 3) ls rest)) : W p l e R s m args below meth c H locs cells slots Q (F0 m pc ls st0) := by
  have hF := va_free hD hS hA isC hC
  refine va_callv hr hS (fun q _ h => hF q h) hF (fun u t H1 locs1 ht hvm hw hB hz hk hS1 => ?_)
  subst ht
  obtain ⟨h1, h2⟩ := va_join hP hD isC isR hC hR hn hdis hk hF hB.1 hB.2
  exact kk u _ _ hw h1 h2 hS1
theorem e_c {cc : ByteArray} {A : Nat → Prop} {S : Type} {post : S → Prop} {M' : S → va_W} (u : S) (hx : p.tables.exec = Jvm.exec) (hb : c.code = cc) (hr : meth.sig.returnType = none) (hlocks : meth.locks = false) (hu : post u) (hP : va_P (dC, dI) vwCl (M' u) H) (hD : va_D A (M' u)) (hS : va_S A s.heap H locs) (hdg : decode cc pc = .ok (.return_, 1)) : W p l e R s m args below meth c H locs cells slots (MQ below (cC dC dI S post M' A) args s cells slots A) (F0 m pc ls []) :=
  W.vret hx hb hr (fun t ht hW => ⟨⟨u, rfl, hu, by subst ht; exact hP, hD⟩, hS.F ht⟩) hS.2.2 hdg hlocks
end FRC
set_option maxHeartbeats 1000000 in
set_option maxRecDepth 100000 in
theorem mX4_init (l : Launch) (dC : Nat → ClassId) (dI : Nat → Nat → Nat) (cyI cyO cyL : ClassId) (r0 : Nat) (n : Nat) (x1 : Int32) (hx1 : x1 = nI n) (hsm : n < 100000) (sz : Nat) : Met l yX4_init (wsG yX4_init cX4_init 2 none) ({ frames := 1, cells := 1, slots := n, locals := 21 }) (cP dC dI cyI cyO cyL sz [.ref r0, .int x1] ([(r0, .inr (4, [.null]))] : va_W)) (cC dC dI Nat (fun _ => True) (fun a => rowW cyI r0 a n (fun _ => 0)) (va_A ([(r0, .inr (4, [.null]))] : va_W) sz)) 1 n (va_A ([(r0, .inr (4, [.null]))] : va_W) sz) := by
  refine Met.ofW (cc := cX4_init) (maxL := 2) (ret := none) (by decide) rfl ?_
  intro p e s m args below meth c s₁ B hml hv0
  obtain ⟨rfl, hsz, hP, hK, hD0⟩ := hv0
  have hx := B.exec
  have hb := B.bytes
  have hr := B.returns
  have hts := atoms_spec (ws := wsG yX4_init cX4_init 2 none) B.pre
  have hown : s.vm.findClass RX4 = some m.cls := findClass_of_methodNamed B.named
  have hlocks := B.notSynchronized
  subst hsz
  have hD := hD0.self (sz := s.heap.size)
  generalize hAe : va_A ([(r0, .inr (4, [.null]))] : va_W) s.heap.size = A at hD ⊢
  have hA : ∀ q : Nat, s.heap.size ≤ q → A q := fun q h => by rw [← hAe]; exact Or.inr h
  have hS : va_S A s.heap s.heap [] := va_S.rf
  have hl := lv_entry ([.ref r0, .int x1]) (n := 2) (Nat.le_of_ble_eq_true rfl)
  rw [lg_entry_eq]
  generalize (lg_sl ([.ref r0, .int x1]) ++ List.replicate (2 - (lg_sl ([.ref r0, .int x1])).length) Slot.unset).toArray = ls at hl ⊢
  have hl : lv_has ls 2 [(0, .ref r0), (1, .int x1)] := hl
  have hin : meth.name = "<init>" := (name_of_methodNamed B.named B.method).1
  have hmx : (if x1 < 0 then (0 : Int32) else x1) = nI n := by rw [hx1]; exact if_neg (nI_pos (by omega))
  have hnn : ¬ nI n < 0 := nI_pos (by omega)
  have hnc : (nI n).toNatClampNeg = n := nI_clamp (by omega)
  have hnb : n * componentBytes .int ≤ 536870912 := by show n * 4 ≤ _; omega
  refine lv_aload_n hx hb dX4_init_0 rfl (lv_at hl 0 rfl) ?_
  refine W.objInit hx hb hown (hts _ (gb_mem ml_X4_1)) (hts _ (gb_mem im_objInit)) (hts _ (gb_mem co_objInit)) rfl (by rw [hml]; exact hl.1) rfl dX4_init_1 (Nat.le_of_ble_eq_true rfl) (Nat.le_of_ble_eq_true rfl) ?_
  refine W.eq (g2 := F0 m 4 ls []) rfl ?_
  refine lv_aload_n hx hb dX4_init_4 rfl (lv_at hl 0 rfl) ?_
  refine lv_iload_n hx hb dX4_init_5 rfl (lv_at hl 1 rfl) ?_
  refine lv_iconst (v := 0) hx hb dX4_init_6 (by decide) ?_
  refine va_mmax hx hb (by rw [hml]; exact hl.1.symm) hown (hts _ (gb_mem ml_X4_7)) (hts _ (gb_mem st_J9_max_7cf53)) (hts _ (gb_mem in_J9)) (hts _ (gb_mem co_J9_max_7cf53)) (Nat.le_of_ble_eq_true rfl) (Nat.le_of_ble_eq_true rfl) (Nat.zero_le _) (Nat.zero_le _) dX4_init_7 ?_
  rw [hmx]
  refine va_newa (atype := .int) (a0 := (n, .inl (fun _ => 0))) hx hb (hts _ (gb_mem ac_int)) rfl hK.1 hP hD hS hA (fun _ => rfl) hnn hnc hnb (Nat.le_of_ble_eq_true rfl) (by show 0 + n ≤ n; omega) dX4_init_10 (fun q1 cA H hK1 hP hD hS => ?_)
  obtain rfl := cyI_of hK1
  have hP : va_P (dC, dI) vwCl ([(r0, .inr (4, [.null])), (q1, .inl (cyI, (n, .inl (fun _ => 0))))] : va_W) H := hP
  have hD : va_D A ([(r0, .inr (4, [.null])), (q1, .inl (cyI, (n, .inl (fun _ => 0))))] : va_W) := hD
  refine W.widen (k := 1) (n := n) (Nat.le_of_ble_eq_true rfl) (by omega) ?_
  refine va_putF (D := (dC, dI)) (ci := 4) (v := .ref q1) (ty := (.array .int)) (C := RX4) (T := TX4) (N := 1) hx hb hts (fun w h9 => gb_mem (lay_X4 w h9)) tyX4 tyX4_ok nmX4 hown hK.1 hP hD hS 0 rfl rfl 0 (by decide) (hts _ (gb_mem fl_X4_13)) (fun _ h9 => h9) rfl hin rfl (by decide +kernel) rfl rfl (Nat.le_of_ble_eq_true rfl) dX4_init_12 (fun H locs hP hD hS => ?_)
  have hP : va_P (dC, dI) vwCl ([(r0, .inr (4, [.ref q1])), (q1, .inl (cyI, (n, .inl (fun _ => 0))))] : va_W) H := hP
  have hD : va_D A ([(r0, .inr (4, [.ref q1])), (q1, .inl (cyI, (n, .inl (fun _ => 0))))] : va_W) := hD
  exact e_c q1 hx hb hr hlocks trivial hP hD hS dX4_init_15
set_option maxHeartbeats 1000000 in
set_option maxRecDepth 100000 in
theorem mX5_init (l : Launch) (dC : Nat → ClassId) (dI : Nat → Nat → Nat) (cyI cyO cyL : ClassId) (t0 : Nat) (sz : Nat) : Met l yX5_init (wsG yX5_init cX5_init 1 none) ({ frames := 2, cells := 8, slots := 84, locals := 42 }) (cP dC dI cyI cyO cyL sz [.ref t0] ([(t0, .inr (5, [.int 0, .int 0, .int 0, .int 0, .int 0, .null, .null, .null, .null]))] : va_W)) (cC dC dI (Nat → Nat) (fun ad => ad 0 = t0) (fun ad => treeW cyI (ad 0) (ad 1) (ad 2) (ad 3) (ad 4) (ad 5) (ad 6) (ad 7) (ad 8) 8 0 0 0 0 (fun _ => 0) (fun _ => 0) (fun _ => 0) (fun _ => 0)) (va_A ([(t0, .inr (5, [.int 0, .int 0, .int 0, .int 0, .int 0, .null, .null, .null, .null]))] : va_W) sz)) 8 84 (va_A ([(t0, .inr (5, [.int 0, .int 0, .int 0, .int 0, .int 0, .null, .null, .null, .null]))] : va_W) sz) := by
  refine Met.ofW (cc := cX5_init) (maxL := 1) (ret := none) (by decide) rfl ?_
  intro p e s m args below meth c s₁ B hml hv0
  obtain ⟨rfl, hsz, hP, hK, hD0⟩ := hv0
  have hx := B.exec
  have hb := B.bytes
  have hr := B.returns
  have hts := atoms_spec (ws := wsG yX5_init cX5_init 1 none) B.pre
  have hown : s.vm.findClass RX5 = some m.cls := findClass_of_methodNamed B.named
  have hlocks := B.notSynchronized
  subst hsz
  have hD := hD0.self (sz := s.heap.size)
  generalize hAe : va_A ([(t0, .inr (5, [.int 0, .int 0, .int 0, .int 0, .int 0, .null, .null, .null, .null]))] : va_W) s.heap.size = A at hD ⊢
  have hA : ∀ q : Nat, s.heap.size ≤ q → A q := fun q h => by rw [← hAe]; exact Or.inr h
  have hS : va_S A s.heap s.heap [] := va_S.rf
  have hl := lv_entry ([.ref t0]) (n := 1) (Nat.le_of_ble_eq_true rfl)
  rw [lg_entry_eq]
  generalize (lg_sl ([.ref t0]) ++ List.replicate (1 - (lg_sl ([.ref t0])).length) Slot.unset).toArray = ls at hl ⊢
  have hl : lv_has ls 1 [(0, .ref t0)] := hl
  have hin : meth.name = "<init>" := (name_of_methodNamed B.named B.method).1
  refine lv_aload_n hx hb dX5_init_0 rfl (lv_at hl 0 rfl) ?_
  refine W.objInit hx hb hown (hts _ (gb_mem ml_X5_3)) (hts _ (gb_mem im_objInit)) (hts _ (gb_mem co_objInit)) rfl (by rw [hml]; exact hl.1) rfl dX5_init_1 (Nat.le_of_ble_eq_true rfl) (Nat.le_of_ble_eq_true rfl) ?_
  refine W.eq (g2 := F0 m 4 ls []) rfl ?_
  refine lv_aload_n hx hb dX5_init_4 rfl (lv_at hl 0 rfl) ?_
  refine lv_bipush (v := 8) hx hb dX5_init_5 (by decide) ?_
  refine va_put (D := (dC, dI)) (ci := 5) (v := .int 8) (ty := .int) (C := RX5) (T := TX5) (N := 9) hx hb hts (fun w h9 => gb_mem (lay_X5 w h9)) tyX5 tyX5_ok nmX5 hown hK.1 hP hD hS 0 rfl rfl 0 (by decide) (hts _ (gb_mem fl_X5_9)) (fun _ h9 => h9) rfl (by decide +kernel) rfl rfl (Nat.le_of_ble_eq_true rfl) dX5_init_7 (fun H locs hP hD hS => ?_)
  have hP : va_P (dC, dI) vwCl ([(t0, .inr (5, [.int 8, .int 0, .int 0, .int 0, .int 0, .null, .null, .null, .null]))] : va_W) H := hP
  have hD : va_D A ([(t0, .inr (5, [.int 8, .int 0, .int 0, .int 0, .int 0, .null, .null, .null, .null]))] : va_W) := hD
  refine lv_aload_n hx hb dX5_init_10 rfl (lv_at hl 0 rfl) ?_
  refine lv_iconst (v := 0) hx hb dX5_init_11 (by decide) ?_
  refine va_put (D := (dC, dI)) (ci := 5) (v := .int 0) (ty := .int) (C := RX5) (T := TX5) (N := 9) hx hb hts (fun w h9 => gb_mem (lay_X5 w h9)) tyX5 tyX5_ok nmX5 hown hK.1 hP hD hS 0 rfl rfl 1 (by decide) (hts _ (gb_mem fl_X5_15)) (fun _ h9 => h9) rfl (by decide +kernel) rfl rfl (Nat.le_of_ble_eq_true rfl) dX5_init_12 (fun H locs hP hD hS => ?_)
  have hP : va_P (dC, dI) vwCl ([(t0, .inr (5, [.int 8, .int 0, .int 0, .int 0, .int 0, .null, .null, .null, .null]))] : va_W) H := hP
  have hD : va_D A ([(t0, .inr (5, [.int 8, .int 0, .int 0, .int 0, .int 0, .null, .null, .null, .null]))] : va_W) := hD
  refine lv_aload_n hx hb dX5_init_15 rfl (lv_at hl 0 rfl) ?_
  refine lv_iconst (v := 0) hx hb dX5_init_16 (by decide) ?_
  refine va_put (D := (dC, dI)) (ci := 5) (v := .int 0) (ty := .int) (C := RX5) (T := TX5) (N := 9) hx hb hts (fun w h9 => gb_mem (lay_X5 w h9)) tyX5 tyX5_ok nmX5 hown hK.1 hP hD hS 0 rfl rfl 2 (by decide) (hts _ (gb_mem fl_X5_18)) (fun _ h9 => h9) rfl (by decide +kernel) rfl rfl (Nat.le_of_ble_eq_true rfl) dX5_init_17 (fun H locs hP hD hS => ?_)
  have hP : va_P (dC, dI) vwCl ([(t0, .inr (5, [.int 8, .int 0, .int 0, .int 0, .int 0, .null, .null, .null, .null]))] : va_W) H := hP
  have hD : va_D A ([(t0, .inr (5, [.int 8, .int 0, .int 0, .int 0, .int 0, .null, .null, .null, .null]))] : va_W) := hD
  refine lv_aload_n hx hb dX5_init_20 rfl (lv_at hl 0 rfl) ?_
  refine lv_iconst (v := 0) hx hb dX5_init_21 (by decide) ?_
  refine va_put (D := (dC, dI)) (ci := 5) (v := .int 0) (ty := .int) (C := RX5) (T := TX5) (N := 9) hx hb hts (fun w h9 => gb_mem (lay_X5 w h9)) tyX5 tyX5_ok nmX5 hown hK.1 hP hD hS 0 rfl rfl 3 (by decide) (hts _ (gb_mem fl_X5_21)) (fun _ h9 => h9) rfl (by decide +kernel) rfl rfl (Nat.le_of_ble_eq_true rfl) dX5_init_22 (fun H locs hP hD hS => ?_)
  have hP : va_P (dC, dI) vwCl ([(t0, .inr (5, [.int 8, .int 0, .int 0, .int 0, .int 0, .null, .null, .null, .null]))] : va_W) H := hP
  have hD : va_D A ([(t0, .inr (5, [.int 8, .int 0, .int 0, .int 0, .int 0, .null, .null, .null, .null]))] : va_W) := hD
  refine lv_aload_n hx hb dX5_init_25 rfl (lv_at hl 0 rfl) ?_
  refine lv_iconst (v := 0) hx hb dX5_init_26 (by decide) ?_
  refine va_put (D := (dC, dI)) (ci := 5) (v := .int 0) (ty := .int) (C := RX5) (T := TX5) (N := 9) hx hb hts (fun w h9 => gb_mem (lay_X5 w h9)) tyX5 tyX5_ok nmX5 hown hK.1 hP hD hS 0 rfl rfl 4 (by decide) (hts _ (gb_mem fl_X5_24)) (fun _ h9 => h9) rfl (by decide +kernel) rfl rfl (Nat.le_of_ble_eq_true rfl) dX5_init_27 (fun H locs hP hD hS => ?_)
  have hP : va_P (dC, dI) vwCl ([(t0, .inr (5, [.int 8, .int 0, .int 0, .int 0, .int 0, .null, .null, .null, .null]))] : va_W) H := hP
  have hD : va_D A ([(t0, .inr (5, [.int 8, .int 0, .int 0, .int 0, .int 0, .null, .null, .null, .null]))] : va_W) := hD
  refine lv_aload_n hx hb dX5_init_30 rfl (lv_at hl 0 rfl) ?_
  refine va_new (ci := 4) (fs := [.null]) (C := RX4) (T := TX4) (N := 1) hx hb hts (fun w h9 => gb_mem (lay_X4 w h9)) tyX4 tyX4_ok hown (hts _ (gb_mem cl_X5_27)) (hts _ (gb_mem ia_X4)) (hts _ (gb_mem in_X4)) hK.1 hP hD hS hA rfl (fun j hj => by rcases (show j = 0 by omega) with rfl <;> rfl) (Nat.le_of_ble_eq_true rfl) (Nat.le_of_ble_eq_true rfl) dX5_init_31 (fun q1 H hP hD hS => ?_)
  have hP : va_P (dC, dI) vwCl ([(t0, .inr (5, [.int 8, .int 0, .int 0, .int 0, .int 0, .null, .null, .null, .null])), (q1, .inr (4, [.null]))] : va_W) H := hP
  have hD : va_D A ([(t0, .inr (5, [.int 8, .int 0, .int 0, .int 0, .int 0, .null, .null, .null, .null])), (q1, .inr (4, [.null]))] : va_W) := hD
  refine W.widen (k := 1) (n := 1) (Nat.le_of_ble_eq_true rfl) (Nat.le_of_ble_eq_true rfl) ?_
  refine lv_dup hx hb dX5_init_34 rfl ?_
  refine lv_bipush (v := 20) hx hb dX5_init_35 (by decide) ?_
  refine fr_c (M := [(q1, .inr (4, [.null]))]) (wr := [(t0, .inr (5, [.int 8, .int 0, .int 0, .int 0, .int 0, .null, .null, .null, .null]))]) (va_runI (As := [.int 20]) (rest := [.ref q1, .ref t0]) ⟨hx, hb, hml, hown, hts⟩ (mX4_init l dC dI cyI cyO cyL q1 20 (nI 20) rfl (by decide) _) (cwI 1 hts (gW co_X4_init) rfl rfl rfl (hts _ (gb_mem in_X4)) (hts _ (gb_mem ml_X5_29)) (hts _ (gb_mem im_X4_init)) rfl (by decide +kernel) ⟨Nat.le_of_ble_eq_true rfl, Nat.le_of_ble_eq_true rfl⟩) (cP_S hK hP hD [1] rfl rfl) rfl rfl hl.1 rfl (lv_room (Nat.le_of_ble_eq_true rfl)) dX5_init_37 ⟨Nat.le_of_ble_eq_true rfl, Nat.le_of_ble_eq_true rfl⟩) hP hD hS hA [1] [0] rfl rfl rfl (by decide) (fun u H locs hw hP hD hS => ?_)
  obtain ⟨u2, rfl⟩ : ∃ z, z = u := ⟨_, rfl⟩
  try dsimp only at hw
  have hwu2 := hw
  have hP : va_P (dC, dI) vwCl ([(t0, .inr (5, [.int 8, .int 0, .int 0, .int 0, .int 0, .null, .null, .null, .null])), (q1, .inr (4, [.ref u2])), (u2, .inl (cyI, (20, .inl (fun _ => 0))))] : va_W) H := hP
  have hD : va_D A ([(t0, .inr (5, [.int 8, .int 0, .int 0, .int 0, .int 0, .null, .null, .null, .null])), (q1, .inr (4, [.ref u2])), (u2, .inl (cyI, (20, .inl (fun _ => 0))))] : va_W) := hD
  refine W.widen (k := 2) (n := 21) (Nat.le_of_ble_eq_true rfl) (Nat.le_of_ble_eq_true rfl) ?_
  refine va_putF (D := (dC, dI)) (ci := 5) (v := .ref q1) (ty := (.object "HangingKeys$Row")) (C := RX5) (T := TX5) (N := 9) hx hb hts (fun w h9 => gb_mem (lay_X5 w h9)) tyX5 tyX5_ok nmX5 hown hK.1 hP hD hS 0 rfl rfl 5 (by decide) (hts _ (gb_mem fl_X5_32)) (fun _ h9 => h9) rfl hin rfl (by decide +kernel) rfl rfl (Nat.le_of_ble_eq_true rfl) dX5_init_40 (fun H locs hP hD hS => ?_)
  have hP : va_P (dC, dI) vwCl ([(t0, .inr (5, [.int 8, .int 0, .int 0, .int 0, .int 0, .ref q1, .null, .null, .null])), (q1, .inr (4, [.ref u2])), (u2, .inl (cyI, (20, .inl (fun _ => 0))))] : va_W) H := hP
  have hD : va_D A ([(t0, .inr (5, [.int 8, .int 0, .int 0, .int 0, .int 0, .ref q1, .null, .null, .null])), (q1, .inr (4, [.ref u2])), (u2, .inl (cyI, (20, .inl (fun _ => 0))))] : va_W) := hD
  refine lv_aload_n hx hb dX5_init_43 rfl (lv_at hl 0 rfl) ?_
  refine va_new (ci := 4) (fs := [.null]) (C := RX4) (T := TX4) (N := 1) hx hb hts (fun w h9 => gb_mem (lay_X4 w h9)) tyX4 tyX4_ok hown (hts _ (gb_mem cl_X5_27)) (hts _ (gb_mem ia_X4)) (hts _ (gb_mem in_X4)) hK.1 hP hD hS hA rfl (fun j hj => by rcases (show j = 0 by omega) with rfl <;> rfl) (Nat.le_of_ble_eq_true rfl) (Nat.le_of_ble_eq_true rfl) dX5_init_44 (fun q3 H hP hD hS => ?_)
  have hP : va_P (dC, dI) vwCl ([(t0, .inr (5, [.int 8, .int 0, .int 0, .int 0, .int 0, .ref q1, .null, .null, .null])), (q1, .inr (4, [.ref u2])), (u2, .inl (cyI, (20, .inl (fun _ => 0)))), (q3, .inr (4, [.null]))] : va_W) H := hP
  have hD : va_D A ([(t0, .inr (5, [.int 8, .int 0, .int 0, .int 0, .int 0, .ref q1, .null, .null, .null])), (q1, .inr (4, [.ref u2])), (u2, .inl (cyI, (20, .inl (fun _ => 0)))), (q3, .inr (4, [.null]))] : va_W) := hD
  refine W.widen (k := 3) (n := 22) (Nat.le_of_ble_eq_true rfl) (Nat.le_of_ble_eq_true rfl) ?_
  refine lv_dup hx hb dX5_init_47 rfl ?_
  refine lv_bipush (v := 20) hx hb dX5_init_48 (by decide) ?_
  refine fr_c (M := [(q3, .inr (4, [.null]))]) (wr := [(t0, .inr (5, [.int 8, .int 0, .int 0, .int 0, .int 0, .ref q1, .null, .null, .null])), (q1, .inr (4, [.ref u2])), (u2, .inl (cyI, (20, .inl (fun _ => 0))))]) (va_runI (As := [.int 20]) (rest := [.ref q3, .ref t0]) ⟨hx, hb, hml, hown, hts⟩ (mX4_init l dC dI cyI cyO cyL q3 20 (nI 20) rfl (by decide) _) (cwI 1 hts (gW co_X4_init) rfl rfl rfl (hts _ (gb_mem in_X4)) (hts _ (gb_mem ml_X5_29)) (hts _ (gb_mem im_X4_init)) rfl (by decide +kernel) ⟨Nat.le_of_ble_eq_true rfl, Nat.le_of_ble_eq_true rfl⟩) (cP_S hK hP hD [3] rfl rfl) rfl rfl hl.1 rfl (lv_room (Nat.le_of_ble_eq_true rfl)) dX5_init_50 ⟨Nat.le_of_ble_eq_true rfl, Nat.le_of_ble_eq_true rfl⟩) hP hD hS hA [3] [0, 1, 2] rfl rfl rfl (by decide) (fun u H locs hw hP hD hS => ?_)
  obtain ⟨u4, rfl⟩ : ∃ z, z = u := ⟨_, rfl⟩
  try dsimp only at hw
  have hwu4 := hw
  have hP : va_P (dC, dI) vwCl ([(t0, .inr (5, [.int 8, .int 0, .int 0, .int 0, .int 0, .ref q1, .null, .null, .null])), (q1, .inr (4, [.ref u2])), (u2, .inl (cyI, (20, .inl (fun _ => 0)))), (q3, .inr (4, [.ref u4])), (u4, .inl (cyI, (20, .inl (fun _ => 0))))] : va_W) H := hP
  have hD : va_D A ([(t0, .inr (5, [.int 8, .int 0, .int 0, .int 0, .int 0, .ref q1, .null, .null, .null])), (q1, .inr (4, [.ref u2])), (u2, .inl (cyI, (20, .inl (fun _ => 0)))), (q3, .inr (4, [.ref u4])), (u4, .inl (cyI, (20, .inl (fun _ => 0))))] : va_W) := hD
  refine W.widen (k := 4) (n := 42) (Nat.le_of_ble_eq_true rfl) (Nat.le_of_ble_eq_true rfl) ?_
  refine va_putF (D := (dC, dI)) (ci := 5) (v := .ref q3) (ty := (.object "HangingKeys$Row")) (C := RX5) (T := TX5) (N := 9) hx hb hts (fun w h9 => gb_mem (lay_X5 w h9)) tyX5 tyX5_ok nmX5 hown hK.1 hP hD hS 0 rfl rfl 6 (by decide) (hts _ (gb_mem fl_X5_36)) (fun _ h9 => h9) rfl hin rfl (by decide +kernel) rfl rfl (Nat.le_of_ble_eq_true rfl) dX5_init_53 (fun H locs hP hD hS => ?_)
  have hP : va_P (dC, dI) vwCl ([(t0, .inr (5, [.int 8, .int 0, .int 0, .int 0, .int 0, .ref q1, .ref q3, .null, .null])), (q1, .inr (4, [.ref u2])), (u2, .inl (cyI, (20, .inl (fun _ => 0)))), (q3, .inr (4, [.ref u4])), (u4, .inl (cyI, (20, .inl (fun _ => 0))))] : va_W) H := hP
  have hD : va_D A ([(t0, .inr (5, [.int 8, .int 0, .int 0, .int 0, .int 0, .ref q1, .ref q3, .null, .null])), (q1, .inr (4, [.ref u2])), (u2, .inl (cyI, (20, .inl (fun _ => 0)))), (q3, .inr (4, [.ref u4])), (u4, .inl (cyI, (20, .inl (fun _ => 0))))] : va_W) := hD
  refine lv_aload_n hx hb dX5_init_56 rfl (lv_at hl 0 rfl) ?_
  refine va_new (ci := 4) (fs := [.null]) (C := RX4) (T := TX4) (N := 1) hx hb hts (fun w h9 => gb_mem (lay_X4 w h9)) tyX4 tyX4_ok hown (hts _ (gb_mem cl_X5_27)) (hts _ (gb_mem ia_X4)) (hts _ (gb_mem in_X4)) hK.1 hP hD hS hA rfl (fun j hj => by rcases (show j = 0 by omega) with rfl <;> rfl) (Nat.le_of_ble_eq_true rfl) (Nat.le_of_ble_eq_true rfl) dX5_init_57 (fun q5 H hP hD hS => ?_)
  have hP : va_P (dC, dI) vwCl ([(t0, .inr (5, [.int 8, .int 0, .int 0, .int 0, .int 0, .ref q1, .ref q3, .null, .null])), (q1, .inr (4, [.ref u2])), (u2, .inl (cyI, (20, .inl (fun _ => 0)))), (q3, .inr (4, [.ref u4])), (u4, .inl (cyI, (20, .inl (fun _ => 0)))), (q5, .inr (4, [.null]))] : va_W) H := hP
  have hD : va_D A ([(t0, .inr (5, [.int 8, .int 0, .int 0, .int 0, .int 0, .ref q1, .ref q3, .null, .null])), (q1, .inr (4, [.ref u2])), (u2, .inl (cyI, (20, .inl (fun _ => 0)))), (q3, .inr (4, [.ref u4])), (u4, .inl (cyI, (20, .inl (fun _ => 0)))), (q5, .inr (4, [.null]))] : va_W) := hD
  refine W.widen (k := 5) (n := 43) (Nat.le_of_ble_eq_true rfl) (Nat.le_of_ble_eq_true rfl) ?_
  refine lv_dup hx hb dX5_init_60 rfl ?_
  refine lv_bipush (v := 20) hx hb dX5_init_61 (by decide) ?_
  refine fr_c (M := [(q5, .inr (4, [.null]))]) (wr := [(t0, .inr (5, [.int 8, .int 0, .int 0, .int 0, .int 0, .ref q1, .ref q3, .null, .null])), (q1, .inr (4, [.ref u2])), (u2, .inl (cyI, (20, .inl (fun _ => 0)))), (q3, .inr (4, [.ref u4])), (u4, .inl (cyI, (20, .inl (fun _ => 0))))]) (va_runI (As := [.int 20]) (rest := [.ref q5, .ref t0]) ⟨hx, hb, hml, hown, hts⟩ (mX4_init l dC dI cyI cyO cyL q5 20 (nI 20) rfl (by decide) _) (cwI 1 hts (gW co_X4_init) rfl rfl rfl (hts _ (gb_mem in_X4)) (hts _ (gb_mem ml_X5_29)) (hts _ (gb_mem im_X4_init)) rfl (by decide +kernel) ⟨Nat.le_of_ble_eq_true rfl, Nat.le_of_ble_eq_true rfl⟩) (cP_S hK hP hD [5] rfl rfl) rfl rfl hl.1 rfl (lv_room (Nat.le_of_ble_eq_true rfl)) dX5_init_63 ⟨Nat.le_of_ble_eq_true rfl, Nat.le_of_ble_eq_true rfl⟩) hP hD hS hA [5] [0, 1, 2, 3, 4] rfl rfl rfl (by decide) (fun u H locs hw hP hD hS => ?_)
  obtain ⟨u6, rfl⟩ : ∃ z, z = u := ⟨_, rfl⟩
  try dsimp only at hw
  have hwu6 := hw
  have hP : va_P (dC, dI) vwCl ([(t0, .inr (5, [.int 8, .int 0, .int 0, .int 0, .int 0, .ref q1, .ref q3, .null, .null])), (q1, .inr (4, [.ref u2])), (u2, .inl (cyI, (20, .inl (fun _ => 0)))), (q3, .inr (4, [.ref u4])), (u4, .inl (cyI, (20, .inl (fun _ => 0)))), (q5, .inr (4, [.ref u6])), (u6, .inl (cyI, (20, .inl (fun _ => 0))))] : va_W) H := hP
  have hD : va_D A ([(t0, .inr (5, [.int 8, .int 0, .int 0, .int 0, .int 0, .ref q1, .ref q3, .null, .null])), (q1, .inr (4, [.ref u2])), (u2, .inl (cyI, (20, .inl (fun _ => 0)))), (q3, .inr (4, [.ref u4])), (u4, .inl (cyI, (20, .inl (fun _ => 0)))), (q5, .inr (4, [.ref u6])), (u6, .inl (cyI, (20, .inl (fun _ => 0))))] : va_W) := hD
  refine W.widen (k := 6) (n := 63) (Nat.le_of_ble_eq_true rfl) (Nat.le_of_ble_eq_true rfl) ?_
  refine va_putF (D := (dC, dI)) (ci := 5) (v := .ref q5) (ty := (.object "HangingKeys$Row")) (C := RX5) (T := TX5) (N := 9) hx hb hts (fun w h9 => gb_mem (lay_X5 w h9)) tyX5 tyX5_ok nmX5 hown hK.1 hP hD hS 0 rfl rfl 7 (by decide) (hts _ (gb_mem fl_X5_39)) (fun _ h9 => h9) rfl hin rfl (by decide +kernel) rfl rfl (Nat.le_of_ble_eq_true rfl) dX5_init_66 (fun H locs hP hD hS => ?_)
  have hP : va_P (dC, dI) vwCl ([(t0, .inr (5, [.int 8, .int 0, .int 0, .int 0, .int 0, .ref q1, .ref q3, .ref q5, .null])), (q1, .inr (4, [.ref u2])), (u2, .inl (cyI, (20, .inl (fun _ => 0)))), (q3, .inr (4, [.ref u4])), (u4, .inl (cyI, (20, .inl (fun _ => 0)))), (q5, .inr (4, [.ref u6])), (u6, .inl (cyI, (20, .inl (fun _ => 0))))] : va_W) H := hP
  have hD : va_D A ([(t0, .inr (5, [.int 8, .int 0, .int 0, .int 0, .int 0, .ref q1, .ref q3, .ref q5, .null])), (q1, .inr (4, [.ref u2])), (u2, .inl (cyI, (20, .inl (fun _ => 0)))), (q3, .inr (4, [.ref u4])), (u4, .inl (cyI, (20, .inl (fun _ => 0)))), (q5, .inr (4, [.ref u6])), (u6, .inl (cyI, (20, .inl (fun _ => 0))))] : va_W) := hD
  refine lv_aload_n hx hb dX5_init_69 rfl (lv_at hl 0 rfl) ?_
  refine va_new (ci := 4) (fs := [.null]) (C := RX4) (T := TX4) (N := 1) hx hb hts (fun w h9 => gb_mem (lay_X4 w h9)) tyX4 tyX4_ok hown (hts _ (gb_mem cl_X5_27)) (hts _ (gb_mem ia_X4)) (hts _ (gb_mem in_X4)) hK.1 hP hD hS hA rfl (fun j hj => by rcases (show j = 0 by omega) with rfl <;> rfl) (Nat.le_of_ble_eq_true rfl) (Nat.le_of_ble_eq_true rfl) dX5_init_70 (fun q7 H hP hD hS => ?_)
  have hP : va_P (dC, dI) vwCl ([(t0, .inr (5, [.int 8, .int 0, .int 0, .int 0, .int 0, .ref q1, .ref q3, .ref q5, .null])), (q1, .inr (4, [.ref u2])), (u2, .inl (cyI, (20, .inl (fun _ => 0)))), (q3, .inr (4, [.ref u4])), (u4, .inl (cyI, (20, .inl (fun _ => 0)))), (q5, .inr (4, [.ref u6])), (u6, .inl (cyI, (20, .inl (fun _ => 0)))), (q7, .inr (4, [.null]))] : va_W) H := hP
  have hD : va_D A ([(t0, .inr (5, [.int 8, .int 0, .int 0, .int 0, .int 0, .ref q1, .ref q3, .ref q5, .null])), (q1, .inr (4, [.ref u2])), (u2, .inl (cyI, (20, .inl (fun _ => 0)))), (q3, .inr (4, [.ref u4])), (u4, .inl (cyI, (20, .inl (fun _ => 0)))), (q5, .inr (4, [.ref u6])), (u6, .inl (cyI, (20, .inl (fun _ => 0)))), (q7, .inr (4, [.null]))] : va_W) := hD
  refine W.widen (k := 7) (n := 64) (Nat.le_of_ble_eq_true rfl) (Nat.le_of_ble_eq_true rfl) ?_
  refine lv_dup hx hb dX5_init_73 rfl ?_
  refine lv_bipush (v := 20) hx hb dX5_init_74 (by decide) ?_
  refine fr_c (M := [(q7, .inr (4, [.null]))]) (wr := [(t0, .inr (5, [.int 8, .int 0, .int 0, .int 0, .int 0, .ref q1, .ref q3, .ref q5, .null])), (q1, .inr (4, [.ref u2])), (u2, .inl (cyI, (20, .inl (fun _ => 0)))), (q3, .inr (4, [.ref u4])), (u4, .inl (cyI, (20, .inl (fun _ => 0)))), (q5, .inr (4, [.ref u6])), (u6, .inl (cyI, (20, .inl (fun _ => 0))))]) (va_runI (As := [.int 20]) (rest := [.ref q7, .ref t0]) ⟨hx, hb, hml, hown, hts⟩ (mX4_init l dC dI cyI cyO cyL q7 20 (nI 20) rfl (by decide) _) (cwI 1 hts (gW co_X4_init) rfl rfl rfl (hts _ (gb_mem in_X4)) (hts _ (gb_mem ml_X5_29)) (hts _ (gb_mem im_X4_init)) rfl (by decide +kernel) ⟨Nat.le_of_ble_eq_true rfl, Nat.le_of_ble_eq_true rfl⟩) (cP_S hK hP hD [7] rfl rfl) rfl rfl hl.1 rfl (lv_room (Nat.le_of_ble_eq_true rfl)) dX5_init_76 ⟨Nat.le_of_ble_eq_true rfl, Nat.le_of_ble_eq_true rfl⟩) hP hD hS hA [7] [0, 1, 2, 3, 4, 5, 6] rfl rfl rfl (by decide) (fun u H locs hw hP hD hS => ?_)
  obtain ⟨u8, rfl⟩ : ∃ z, z = u := ⟨_, rfl⟩
  try dsimp only at hw
  have hwu8 := hw
  have hP : va_P (dC, dI) vwCl ([(t0, .inr (5, [.int 8, .int 0, .int 0, .int 0, .int 0, .ref q1, .ref q3, .ref q5, .null])), (q1, .inr (4, [.ref u2])), (u2, .inl (cyI, (20, .inl (fun _ => 0)))), (q3, .inr (4, [.ref u4])), (u4, .inl (cyI, (20, .inl (fun _ => 0)))), (q5, .inr (4, [.ref u6])), (u6, .inl (cyI, (20, .inl (fun _ => 0)))), (q7, .inr (4, [.ref u8])), (u8, .inl (cyI, (20, .inl (fun _ => 0))))] : va_W) H := hP
  have hD : va_D A ([(t0, .inr (5, [.int 8, .int 0, .int 0, .int 0, .int 0, .ref q1, .ref q3, .ref q5, .null])), (q1, .inr (4, [.ref u2])), (u2, .inl (cyI, (20, .inl (fun _ => 0)))), (q3, .inr (4, [.ref u4])), (u4, .inl (cyI, (20, .inl (fun _ => 0)))), (q5, .inr (4, [.ref u6])), (u6, .inl (cyI, (20, .inl (fun _ => 0)))), (q7, .inr (4, [.ref u8])), (u8, .inl (cyI, (20, .inl (fun _ => 0))))] : va_W) := hD
  refine W.widen (k := 8) (n := 84) (Nat.le_of_ble_eq_true rfl) (Nat.le_of_ble_eq_true rfl) ?_
  refine va_putF (D := (dC, dI)) (ci := 5) (v := .ref q7) (ty := (.object "HangingKeys$Row")) (C := RX5) (T := TX5) (N := 9) hx hb hts (fun w h9 => gb_mem (lay_X5 w h9)) tyX5 tyX5_ok nmX5 hown hK.1 hP hD hS 0 rfl rfl 8 (by decide) (hts _ (gb_mem fl_X5_42)) (fun _ h9 => h9) rfl hin rfl (by decide +kernel) rfl rfl (Nat.le_of_ble_eq_true rfl) dX5_init_79 (fun H locs hP hD hS => ?_)
  have hP : va_P (dC, dI) vwCl ([(t0, .inr (5, [.int 8, .int 0, .int 0, .int 0, .int 0, .ref q1, .ref q3, .ref q5, .ref q7])), (q1, .inr (4, [.ref u2])), (u2, .inl (cyI, (20, .inl (fun _ => 0)))), (q3, .inr (4, [.ref u4])), (u4, .inl (cyI, (20, .inl (fun _ => 0)))), (q5, .inr (4, [.ref u6])), (u6, .inl (cyI, (20, .inl (fun _ => 0)))), (q7, .inr (4, [.ref u8])), (u8, .inl (cyI, (20, .inl (fun _ => 0))))] : va_W) H := hP
  have hD : va_D A ([(t0, .inr (5, [.int 8, .int 0, .int 0, .int 0, .int 0, .ref q1, .ref q3, .ref q5, .ref q7])), (q1, .inr (4, [.ref u2])), (u2, .inl (cyI, (20, .inl (fun _ => 0)))), (q3, .inr (4, [.ref u4])), (u4, .inl (cyI, (20, .inl (fun _ => 0)))), (q5, .inr (4, [.ref u6])), (u6, .inl (cyI, (20, .inl (fun _ => 0)))), (q7, .inr (4, [.ref u8])), (u8, .inl (cyI, (20, .inl (fun _ => 0))))] : va_W) := hD
  exact e_c (fun i => match i with | 0 => t0 | 1 => q1 | 2 => u2 | 3 => q3 | 4 => u4 | 5 => q5 | 6 => u6 | 7 => q7 | _ => u8) hx hb hr hlocks rfl hP hD hS dX5_init_82
set_option maxHeartbeats 1000000 in
set_option maxRecDepth 100000 in
theorem mX6_init (l : Launch) (dC : Nat → ClassId) (dI : Nat → Nat → Nat) (cyI cyO cyL : ClassId) (w0 : Nat) (sz : Nat) : Met l yX6_init (wsG yX6_init cX6_init 1 none) ({ frames := 2, cells := 10, slots := 605, locals := 42 }) (cP dC dI cyI cyO cyL sz [.ref w0] ([(w0, .inr (6, [.int 0, .null, .null, .null, .null, .null]))] : va_W)) (cC dC dI (Nat → Nat) (fun ad => ad 0 = w0) (fun ad => wrapsW cyI (ad 0) (ad 1) (ad 2) (ad 3) (ad 4) (ad 5) (ad 6) (ad 7) (ad 8) (ad 9) (ad 10) 0 (fun _ => 0) (fun _ => 0) (fun _ => 0) (fun _ => 0) (fun _ => 0)) (va_A ([(w0, .inr (6, [.int 0, .null, .null, .null, .null, .null]))] : va_W) sz)) 10 605 (va_A ([(w0, .inr (6, [.int 0, .null, .null, .null, .null, .null]))] : va_W) sz) := by
  refine Met.ofW (cc := cX6_init) (maxL := 1) (ret := none) (by decide) rfl ?_
  intro p e s m args below meth c s₁ B hml hv0
  obtain ⟨rfl, hsz, hP, hK, hD0⟩ := hv0
  have hx := B.exec
  have hb := B.bytes
  have hr := B.returns
  have hts := atoms_spec (ws := wsG yX6_init cX6_init 1 none) B.pre
  have hown : s.vm.findClass RX6 = some m.cls := findClass_of_methodNamed B.named
  have hlocks := B.notSynchronized
  subst hsz
  have hD := hD0.self (sz := s.heap.size)
  generalize hAe : va_A ([(w0, .inr (6, [.int 0, .null, .null, .null, .null, .null]))] : va_W) s.heap.size = A at hD ⊢
  have hA : ∀ q : Nat, s.heap.size ≤ q → A q := fun q h => by rw [← hAe]; exact Or.inr h
  have hS : va_S A s.heap s.heap [] := va_S.rf
  have hl := lv_entry ([.ref w0]) (n := 1) (Nat.le_of_ble_eq_true rfl)
  rw [lg_entry_eq]
  generalize (lg_sl ([.ref w0]) ++ List.replicate (1 - (lg_sl ([.ref w0])).length) Slot.unset).toArray = ls at hl ⊢
  have hl : lv_has ls 1 [(0, .ref w0)] := hl
  have hin : meth.name = "<init>" := (name_of_methodNamed B.named B.method).1
  refine lv_aload_n hx hb dX6_init_0 rfl (lv_at hl 0 rfl) ?_
  refine W.objInit hx hb hown (hts _ (gb_mem ml_X6_3)) (hts _ (gb_mem im_objInit)) (hts _ (gb_mem co_objInit)) rfl (by rw [hml]; exact hl.1) rfl dX6_init_1 (Nat.le_of_ble_eq_true rfl) (Nat.le_of_ble_eq_true rfl) ?_
  refine W.eq (g2 := F0 m 4 ls []) rfl ?_
  refine lv_aload_n hx hb dX6_init_4 rfl (lv_at hl 0 rfl) ?_
  refine lv_iconst (v := 0) hx hb dX6_init_5 (by decide) ?_
  refine va_put (D := (dC, dI)) (ci := 6) (v := .int 0) (ty := .int) (C := RX6) (T := TX6) (N := 6) hx hb hts (fun w h9 => gb_mem (lay_X6 w h9)) tyX6 tyX6_ok nmX6 hown hK.1 hP hD hS 0 rfl rfl 0 (by decide) (hts _ (gb_mem fl_X6_9)) (fun _ h9 => h9) rfl (by decide +kernel) rfl rfl (Nat.le_of_ble_eq_true rfl) dX6_init_6 (fun H locs hP hD hS => ?_)
  have hP : va_P (dC, dI) vwCl ([(w0, .inr (6, [.int 0, .null, .null, .null, .null, .null]))] : va_W) H := hP
  have hD : va_D A ([(w0, .inr (6, [.int 0, .null, .null, .null, .null, .null]))] : va_W) := hD
  refine lv_aload_n hx hb dX6_init_9 rfl (lv_at hl 0 rfl) ?_
  refine va_new (ci := 4) (fs := [.null]) (C := RX4) (T := TX4) (N := 1) hx hb hts (fun w h9 => gb_mem (lay_X4 w h9)) tyX4 tyX4_ok hown (hts _ (gb_mem cl_X6_15)) (hts _ (gb_mem ia_X4)) (hts _ (gb_mem in_X4)) hK.1 hP hD hS hA rfl (fun j hj => by rcases (show j = 0 by omega) with rfl <;> rfl) (Nat.le_of_ble_eq_true rfl) (Nat.le_of_ble_eq_true rfl) dX6_init_10 (fun q1 H hP hD hS => ?_)
  have hP : va_P (dC, dI) vwCl ([(w0, .inr (6, [.int 0, .null, .null, .null, .null, .null])), (q1, .inr (4, [.null]))] : va_W) H := hP
  have hD : va_D A ([(w0, .inr (6, [.int 0, .null, .null, .null, .null, .null])), (q1, .inr (4, [.null]))] : va_W) := hD
  refine W.widen (k := 1) (n := 1) (Nat.le_of_ble_eq_true rfl) (Nat.le_of_ble_eq_true rfl) ?_
  refine lv_dup hx hb dX6_init_13 rfl ?_
  refine lv_bipush (v := 120) hx hb dX6_init_14 (by decide) ?_
  refine fr_c (M := [(q1, .inr (4, [.null]))]) (wr := [(w0, .inr (6, [.int 0, .null, .null, .null, .null, .null]))]) (va_runI (As := [.int 120]) (rest := [.ref q1, .ref w0]) ⟨hx, hb, hml, hown, hts⟩ (mX4_init l dC dI cyI cyO cyL q1 120 (nI 120) rfl (by decide) _) (cwI 1 hts (gW co_X4_init) rfl rfl rfl (hts _ (gb_mem in_X4)) (hts _ (gb_mem ml_X6_17)) (hts _ (gb_mem im_X4_init)) rfl (by decide +kernel) ⟨Nat.le_of_ble_eq_true rfl, Nat.le_of_ble_eq_true rfl⟩) (cP_S hK hP hD [1] rfl rfl) rfl rfl hl.1 rfl (lv_room (Nat.le_of_ble_eq_true rfl)) dX6_init_16 ⟨Nat.le_of_ble_eq_true rfl, Nat.le_of_ble_eq_true rfl⟩) hP hD hS hA [1] [0] rfl rfl rfl (by decide) (fun u H locs hw hP hD hS => ?_)
  obtain ⟨u2, rfl⟩ : ∃ z, z = u := ⟨_, rfl⟩
  try dsimp only at hw
  have hwu2 := hw
  have hP : va_P (dC, dI) vwCl ([(w0, .inr (6, [.int 0, .null, .null, .null, .null, .null])), (q1, .inr (4, [.ref u2])), (u2, .inl (cyI, (120, .inl (fun _ => 0))))] : va_W) H := hP
  have hD : va_D A ([(w0, .inr (6, [.int 0, .null, .null, .null, .null, .null])), (q1, .inr (4, [.ref u2])), (u2, .inl (cyI, (120, .inl (fun _ => 0))))] : va_W) := hD
  refine W.widen (k := 2) (n := 121) (Nat.le_of_ble_eq_true rfl) (Nat.le_of_ble_eq_true rfl) ?_
  refine va_putF (D := (dC, dI)) (ci := 6) (v := .ref q1) (ty := (.object "HangingKeys$Row")) (C := RX6) (T := TX6) (N := 6) hx hb hts (fun w h9 => gb_mem (lay_X6 w h9)) tyX6 tyX6_ok nmX6 hown hK.1 hP hD hS 0 rfl rfl 1 (by decide) (hts _ (gb_mem fl_X6_20)) (fun _ h9 => h9) rfl hin rfl (by decide +kernel) rfl rfl (Nat.le_of_ble_eq_true rfl) dX6_init_19 (fun H locs hP hD hS => ?_)
  have hP : va_P (dC, dI) vwCl ([(w0, .inr (6, [.int 0, .ref q1, .null, .null, .null, .null])), (q1, .inr (4, [.ref u2])), (u2, .inl (cyI, (120, .inl (fun _ => 0))))] : va_W) H := hP
  have hD : va_D A ([(w0, .inr (6, [.int 0, .ref q1, .null, .null, .null, .null])), (q1, .inr (4, [.ref u2])), (u2, .inl (cyI, (120, .inl (fun _ => 0))))] : va_W) := hD
  refine lv_aload_n hx hb dX6_init_22 rfl (lv_at hl 0 rfl) ?_
  refine va_new (ci := 4) (fs := [.null]) (C := RX4) (T := TX4) (N := 1) hx hb hts (fun w h9 => gb_mem (lay_X4 w h9)) tyX4 tyX4_ok hown (hts _ (gb_mem cl_X6_15)) (hts _ (gb_mem ia_X4)) (hts _ (gb_mem in_X4)) hK.1 hP hD hS hA rfl (fun j hj => by rcases (show j = 0 by omega) with rfl <;> rfl) (Nat.le_of_ble_eq_true rfl) (Nat.le_of_ble_eq_true rfl) dX6_init_23 (fun q3 H hP hD hS => ?_)
  have hP : va_P (dC, dI) vwCl ([(w0, .inr (6, [.int 0, .ref q1, .null, .null, .null, .null])), (q1, .inr (4, [.ref u2])), (u2, .inl (cyI, (120, .inl (fun _ => 0)))), (q3, .inr (4, [.null]))] : va_W) H := hP
  have hD : va_D A ([(w0, .inr (6, [.int 0, .ref q1, .null, .null, .null, .null])), (q1, .inr (4, [.ref u2])), (u2, .inl (cyI, (120, .inl (fun _ => 0)))), (q3, .inr (4, [.null]))] : va_W) := hD
  refine W.widen (k := 3) (n := 122) (Nat.le_of_ble_eq_true rfl) (Nat.le_of_ble_eq_true rfl) ?_
  refine lv_dup hx hb dX6_init_26 rfl ?_
  refine lv_bipush (v := 120) hx hb dX6_init_27 (by decide) ?_
  refine fr_c (M := [(q3, .inr (4, [.null]))]) (wr := [(w0, .inr (6, [.int 0, .ref q1, .null, .null, .null, .null])), (q1, .inr (4, [.ref u2])), (u2, .inl (cyI, (120, .inl (fun _ => 0))))]) (va_runI (As := [.int 120]) (rest := [.ref q3, .ref w0]) ⟨hx, hb, hml, hown, hts⟩ (mX4_init l dC dI cyI cyO cyL q3 120 (nI 120) rfl (by decide) _) (cwI 1 hts (gW co_X4_init) rfl rfl rfl (hts _ (gb_mem in_X4)) (hts _ (gb_mem ml_X6_17)) (hts _ (gb_mem im_X4_init)) rfl (by decide +kernel) ⟨Nat.le_of_ble_eq_true rfl, Nat.le_of_ble_eq_true rfl⟩) (cP_S hK hP hD [3] rfl rfl) rfl rfl hl.1 rfl (lv_room (Nat.le_of_ble_eq_true rfl)) dX6_init_29 ⟨Nat.le_of_ble_eq_true rfl, Nat.le_of_ble_eq_true rfl⟩) hP hD hS hA [3] [0, 1, 2] rfl rfl rfl (by decide) (fun u H locs hw hP hD hS => ?_)
  obtain ⟨u4, rfl⟩ : ∃ z, z = u := ⟨_, rfl⟩
  try dsimp only at hw
  have hwu4 := hw
  have hP : va_P (dC, dI) vwCl ([(w0, .inr (6, [.int 0, .ref q1, .null, .null, .null, .null])), (q1, .inr (4, [.ref u2])), (u2, .inl (cyI, (120, .inl (fun _ => 0)))), (q3, .inr (4, [.ref u4])), (u4, .inl (cyI, (120, .inl (fun _ => 0))))] : va_W) H := hP
  have hD : va_D A ([(w0, .inr (6, [.int 0, .ref q1, .null, .null, .null, .null])), (q1, .inr (4, [.ref u2])), (u2, .inl (cyI, (120, .inl (fun _ => 0)))), (q3, .inr (4, [.ref u4])), (u4, .inl (cyI, (120, .inl (fun _ => 0))))] : va_W) := hD
  refine W.widen (k := 4) (n := 242) (Nat.le_of_ble_eq_true rfl) (Nat.le_of_ble_eq_true rfl) ?_
  refine va_putF (D := (dC, dI)) (ci := 6) (v := .ref q3) (ty := (.object "HangingKeys$Row")) (C := RX6) (T := TX6) (N := 6) hx hb hts (fun w h9 => gb_mem (lay_X6 w h9)) tyX6 tyX6_ok nmX6 hown hK.1 hP hD hS 0 rfl rfl 2 (by decide) (hts _ (gb_mem fl_X6_24)) (fun _ h9 => h9) rfl hin rfl (by decide +kernel) rfl rfl (Nat.le_of_ble_eq_true rfl) dX6_init_32 (fun H locs hP hD hS => ?_)
  have hP : va_P (dC, dI) vwCl ([(w0, .inr (6, [.int 0, .ref q1, .ref q3, .null, .null, .null])), (q1, .inr (4, [.ref u2])), (u2, .inl (cyI, (120, .inl (fun _ => 0)))), (q3, .inr (4, [.ref u4])), (u4, .inl (cyI, (120, .inl (fun _ => 0))))] : va_W) H := hP
  have hD : va_D A ([(w0, .inr (6, [.int 0, .ref q1, .ref q3, .null, .null, .null])), (q1, .inr (4, [.ref u2])), (u2, .inl (cyI, (120, .inl (fun _ => 0)))), (q3, .inr (4, [.ref u4])), (u4, .inl (cyI, (120, .inl (fun _ => 0))))] : va_W) := hD
  refine lv_aload_n hx hb dX6_init_35 rfl (lv_at hl 0 rfl) ?_
  refine va_new (ci := 4) (fs := [.null]) (C := RX4) (T := TX4) (N := 1) hx hb hts (fun w h9 => gb_mem (lay_X4 w h9)) tyX4 tyX4_ok hown (hts _ (gb_mem cl_X6_15)) (hts _ (gb_mem ia_X4)) (hts _ (gb_mem in_X4)) hK.1 hP hD hS hA rfl (fun j hj => by rcases (show j = 0 by omega) with rfl <;> rfl) (Nat.le_of_ble_eq_true rfl) (Nat.le_of_ble_eq_true rfl) dX6_init_36 (fun q5 H hP hD hS => ?_)
  have hP : va_P (dC, dI) vwCl ([(w0, .inr (6, [.int 0, .ref q1, .ref q3, .null, .null, .null])), (q1, .inr (4, [.ref u2])), (u2, .inl (cyI, (120, .inl (fun _ => 0)))), (q3, .inr (4, [.ref u4])), (u4, .inl (cyI, (120, .inl (fun _ => 0)))), (q5, .inr (4, [.null]))] : va_W) H := hP
  have hD : va_D A ([(w0, .inr (6, [.int 0, .ref q1, .ref q3, .null, .null, .null])), (q1, .inr (4, [.ref u2])), (u2, .inl (cyI, (120, .inl (fun _ => 0)))), (q3, .inr (4, [.ref u4])), (u4, .inl (cyI, (120, .inl (fun _ => 0)))), (q5, .inr (4, [.null]))] : va_W) := hD
  refine W.widen (k := 5) (n := 243) (Nat.le_of_ble_eq_true rfl) (Nat.le_of_ble_eq_true rfl) ?_
  refine lv_dup hx hb dX6_init_39 rfl ?_
  refine lv_bipush (v := 120) hx hb dX6_init_40 (by decide) ?_
  refine fr_c (M := [(q5, .inr (4, [.null]))]) (wr := [(w0, .inr (6, [.int 0, .ref q1, .ref q3, .null, .null, .null])), (q1, .inr (4, [.ref u2])), (u2, .inl (cyI, (120, .inl (fun _ => 0)))), (q3, .inr (4, [.ref u4])), (u4, .inl (cyI, (120, .inl (fun _ => 0))))]) (va_runI (As := [.int 120]) (rest := [.ref q5, .ref w0]) ⟨hx, hb, hml, hown, hts⟩ (mX4_init l dC dI cyI cyO cyL q5 120 (nI 120) rfl (by decide) _) (cwI 1 hts (gW co_X4_init) rfl rfl rfl (hts _ (gb_mem in_X4)) (hts _ (gb_mem ml_X6_17)) (hts _ (gb_mem im_X4_init)) rfl (by decide +kernel) ⟨Nat.le_of_ble_eq_true rfl, Nat.le_of_ble_eq_true rfl⟩) (cP_S hK hP hD [5] rfl rfl) rfl rfl hl.1 rfl (lv_room (Nat.le_of_ble_eq_true rfl)) dX6_init_42 ⟨Nat.le_of_ble_eq_true rfl, Nat.le_of_ble_eq_true rfl⟩) hP hD hS hA [5] [0, 1, 2, 3, 4] rfl rfl rfl (by decide) (fun u H locs hw hP hD hS => ?_)
  obtain ⟨u6, rfl⟩ : ∃ z, z = u := ⟨_, rfl⟩
  try dsimp only at hw
  have hwu6 := hw
  have hP : va_P (dC, dI) vwCl ([(w0, .inr (6, [.int 0, .ref q1, .ref q3, .null, .null, .null])), (q1, .inr (4, [.ref u2])), (u2, .inl (cyI, (120, .inl (fun _ => 0)))), (q3, .inr (4, [.ref u4])), (u4, .inl (cyI, (120, .inl (fun _ => 0)))), (q5, .inr (4, [.ref u6])), (u6, .inl (cyI, (120, .inl (fun _ => 0))))] : va_W) H := hP
  have hD : va_D A ([(w0, .inr (6, [.int 0, .ref q1, .ref q3, .null, .null, .null])), (q1, .inr (4, [.ref u2])), (u2, .inl (cyI, (120, .inl (fun _ => 0)))), (q3, .inr (4, [.ref u4])), (u4, .inl (cyI, (120, .inl (fun _ => 0)))), (q5, .inr (4, [.ref u6])), (u6, .inl (cyI, (120, .inl (fun _ => 0))))] : va_W) := hD
  refine W.widen (k := 6) (n := 363) (Nat.le_of_ble_eq_true rfl) (Nat.le_of_ble_eq_true rfl) ?_
  refine va_putF (D := (dC, dI)) (ci := 6) (v := .ref q5) (ty := (.object "HangingKeys$Row")) (C := RX6) (T := TX6) (N := 6) hx hb hts (fun w h9 => gb_mem (lay_X6 w h9)) tyX6 tyX6_ok nmX6 hown hK.1 hP hD hS 0 rfl rfl 3 (by decide) (hts _ (gb_mem fl_X6_27)) (fun _ h9 => h9) rfl hin rfl (by decide +kernel) rfl rfl (Nat.le_of_ble_eq_true rfl) dX6_init_45 (fun H locs hP hD hS => ?_)
  have hP : va_P (dC, dI) vwCl ([(w0, .inr (6, [.int 0, .ref q1, .ref q3, .ref q5, .null, .null])), (q1, .inr (4, [.ref u2])), (u2, .inl (cyI, (120, .inl (fun _ => 0)))), (q3, .inr (4, [.ref u4])), (u4, .inl (cyI, (120, .inl (fun _ => 0)))), (q5, .inr (4, [.ref u6])), (u6, .inl (cyI, (120, .inl (fun _ => 0))))] : va_W) H := hP
  have hD : va_D A ([(w0, .inr (6, [.int 0, .ref q1, .ref q3, .ref q5, .null, .null])), (q1, .inr (4, [.ref u2])), (u2, .inl (cyI, (120, .inl (fun _ => 0)))), (q3, .inr (4, [.ref u4])), (u4, .inl (cyI, (120, .inl (fun _ => 0)))), (q5, .inr (4, [.ref u6])), (u6, .inl (cyI, (120, .inl (fun _ => 0))))] : va_W) := hD
  refine lv_aload_n hx hb dX6_init_48 rfl (lv_at hl 0 rfl) ?_
  refine va_new (ci := 4) (fs := [.null]) (C := RX4) (T := TX4) (N := 1) hx hb hts (fun w h9 => gb_mem (lay_X4 w h9)) tyX4 tyX4_ok hown (hts _ (gb_mem cl_X6_15)) (hts _ (gb_mem ia_X4)) (hts _ (gb_mem in_X4)) hK.1 hP hD hS hA rfl (fun j hj => by rcases (show j = 0 by omega) with rfl <;> rfl) (Nat.le_of_ble_eq_true rfl) (Nat.le_of_ble_eq_true rfl) dX6_init_49 (fun q7 H hP hD hS => ?_)
  have hP : va_P (dC, dI) vwCl ([(w0, .inr (6, [.int 0, .ref q1, .ref q3, .ref q5, .null, .null])), (q1, .inr (4, [.ref u2])), (u2, .inl (cyI, (120, .inl (fun _ => 0)))), (q3, .inr (4, [.ref u4])), (u4, .inl (cyI, (120, .inl (fun _ => 0)))), (q5, .inr (4, [.ref u6])), (u6, .inl (cyI, (120, .inl (fun _ => 0)))), (q7, .inr (4, [.null]))] : va_W) H := hP
  have hD : va_D A ([(w0, .inr (6, [.int 0, .ref q1, .ref q3, .ref q5, .null, .null])), (q1, .inr (4, [.ref u2])), (u2, .inl (cyI, (120, .inl (fun _ => 0)))), (q3, .inr (4, [.ref u4])), (u4, .inl (cyI, (120, .inl (fun _ => 0)))), (q5, .inr (4, [.ref u6])), (u6, .inl (cyI, (120, .inl (fun _ => 0)))), (q7, .inr (4, [.null]))] : va_W) := hD
  refine W.widen (k := 7) (n := 364) (Nat.le_of_ble_eq_true rfl) (Nat.le_of_ble_eq_true rfl) ?_
  refine lv_dup hx hb dX6_init_52 rfl ?_
  refine lv_bipush (v := 120) hx hb dX6_init_53 (by decide) ?_
  refine fr_c (M := [(q7, .inr (4, [.null]))]) (wr := [(w0, .inr (6, [.int 0, .ref q1, .ref q3, .ref q5, .null, .null])), (q1, .inr (4, [.ref u2])), (u2, .inl (cyI, (120, .inl (fun _ => 0)))), (q3, .inr (4, [.ref u4])), (u4, .inl (cyI, (120, .inl (fun _ => 0)))), (q5, .inr (4, [.ref u6])), (u6, .inl (cyI, (120, .inl (fun _ => 0))))]) (va_runI (As := [.int 120]) (rest := [.ref q7, .ref w0]) ⟨hx, hb, hml, hown, hts⟩ (mX4_init l dC dI cyI cyO cyL q7 120 (nI 120) rfl (by decide) _) (cwI 1 hts (gW co_X4_init) rfl rfl rfl (hts _ (gb_mem in_X4)) (hts _ (gb_mem ml_X6_17)) (hts _ (gb_mem im_X4_init)) rfl (by decide +kernel) ⟨Nat.le_of_ble_eq_true rfl, Nat.le_of_ble_eq_true rfl⟩) (cP_S hK hP hD [7] rfl rfl) rfl rfl hl.1 rfl (lv_room (Nat.le_of_ble_eq_true rfl)) dX6_init_55 ⟨Nat.le_of_ble_eq_true rfl, Nat.le_of_ble_eq_true rfl⟩) hP hD hS hA [7] [0, 1, 2, 3, 4, 5, 6] rfl rfl rfl (by decide) (fun u H locs hw hP hD hS => ?_)
  obtain ⟨u8, rfl⟩ : ∃ z, z = u := ⟨_, rfl⟩
  try dsimp only at hw
  have hwu8 := hw
  have hP : va_P (dC, dI) vwCl ([(w0, .inr (6, [.int 0, .ref q1, .ref q3, .ref q5, .null, .null])), (q1, .inr (4, [.ref u2])), (u2, .inl (cyI, (120, .inl (fun _ => 0)))), (q3, .inr (4, [.ref u4])), (u4, .inl (cyI, (120, .inl (fun _ => 0)))), (q5, .inr (4, [.ref u6])), (u6, .inl (cyI, (120, .inl (fun _ => 0)))), (q7, .inr (4, [.ref u8])), (u8, .inl (cyI, (120, .inl (fun _ => 0))))] : va_W) H := hP
  have hD : va_D A ([(w0, .inr (6, [.int 0, .ref q1, .ref q3, .ref q5, .null, .null])), (q1, .inr (4, [.ref u2])), (u2, .inl (cyI, (120, .inl (fun _ => 0)))), (q3, .inr (4, [.ref u4])), (u4, .inl (cyI, (120, .inl (fun _ => 0)))), (q5, .inr (4, [.ref u6])), (u6, .inl (cyI, (120, .inl (fun _ => 0)))), (q7, .inr (4, [.ref u8])), (u8, .inl (cyI, (120, .inl (fun _ => 0))))] : va_W) := hD
  refine W.widen (k := 8) (n := 484) (Nat.le_of_ble_eq_true rfl) (Nat.le_of_ble_eq_true rfl) ?_
  refine va_putF (D := (dC, dI)) (ci := 6) (v := .ref q7) (ty := (.object "HangingKeys$Row")) (C := RX6) (T := TX6) (N := 6) hx hb hts (fun w h9 => gb_mem (lay_X6 w h9)) tyX6 tyX6_ok nmX6 hown hK.1 hP hD hS 0 rfl rfl 4 (by decide) (hts _ (gb_mem fl_X6_30)) (fun _ h9 => h9) rfl hin rfl (by decide +kernel) rfl rfl (Nat.le_of_ble_eq_true rfl) dX6_init_58 (fun H locs hP hD hS => ?_)
  have hP : va_P (dC, dI) vwCl ([(w0, .inr (6, [.int 0, .ref q1, .ref q3, .ref q5, .ref q7, .null])), (q1, .inr (4, [.ref u2])), (u2, .inl (cyI, (120, .inl (fun _ => 0)))), (q3, .inr (4, [.ref u4])), (u4, .inl (cyI, (120, .inl (fun _ => 0)))), (q5, .inr (4, [.ref u6])), (u6, .inl (cyI, (120, .inl (fun _ => 0)))), (q7, .inr (4, [.ref u8])), (u8, .inl (cyI, (120, .inl (fun _ => 0))))] : va_W) H := hP
  have hD : va_D A ([(w0, .inr (6, [.int 0, .ref q1, .ref q3, .ref q5, .ref q7, .null])), (q1, .inr (4, [.ref u2])), (u2, .inl (cyI, (120, .inl (fun _ => 0)))), (q3, .inr (4, [.ref u4])), (u4, .inl (cyI, (120, .inl (fun _ => 0)))), (q5, .inr (4, [.ref u6])), (u6, .inl (cyI, (120, .inl (fun _ => 0)))), (q7, .inr (4, [.ref u8])), (u8, .inl (cyI, (120, .inl (fun _ => 0))))] : va_W) := hD
  refine lv_aload_n hx hb dX6_init_61 rfl (lv_at hl 0 rfl) ?_
  refine va_new (ci := 4) (fs := [.null]) (C := RX4) (T := TX4) (N := 1) hx hb hts (fun w h9 => gb_mem (lay_X4 w h9)) tyX4 tyX4_ok hown (hts _ (gb_mem cl_X6_15)) (hts _ (gb_mem ia_X4)) (hts _ (gb_mem in_X4)) hK.1 hP hD hS hA rfl (fun j hj => by rcases (show j = 0 by omega) with rfl <;> rfl) (Nat.le_of_ble_eq_true rfl) (Nat.le_of_ble_eq_true rfl) dX6_init_62 (fun q9 H hP hD hS => ?_)
  have hP : va_P (dC, dI) vwCl ([(w0, .inr (6, [.int 0, .ref q1, .ref q3, .ref q5, .ref q7, .null])), (q1, .inr (4, [.ref u2])), (u2, .inl (cyI, (120, .inl (fun _ => 0)))), (q3, .inr (4, [.ref u4])), (u4, .inl (cyI, (120, .inl (fun _ => 0)))), (q5, .inr (4, [.ref u6])), (u6, .inl (cyI, (120, .inl (fun _ => 0)))), (q7, .inr (4, [.ref u8])), (u8, .inl (cyI, (120, .inl (fun _ => 0)))), (q9, .inr (4, [.null]))] : va_W) H := hP
  have hD : va_D A ([(w0, .inr (6, [.int 0, .ref q1, .ref q3, .ref q5, .ref q7, .null])), (q1, .inr (4, [.ref u2])), (u2, .inl (cyI, (120, .inl (fun _ => 0)))), (q3, .inr (4, [.ref u4])), (u4, .inl (cyI, (120, .inl (fun _ => 0)))), (q5, .inr (4, [.ref u6])), (u6, .inl (cyI, (120, .inl (fun _ => 0)))), (q7, .inr (4, [.ref u8])), (u8, .inl (cyI, (120, .inl (fun _ => 0)))), (q9, .inr (4, [.null]))] : va_W) := hD
  refine W.widen (k := 9) (n := 485) (Nat.le_of_ble_eq_true rfl) (Nat.le_of_ble_eq_true rfl) ?_
  refine lv_dup hx hb dX6_init_65 rfl ?_
  refine lv_bipush (v := 120) hx hb dX6_init_66 (by decide) ?_
  refine fr_c (M := [(q9, .inr (4, [.null]))]) (wr := [(w0, .inr (6, [.int 0, .ref q1, .ref q3, .ref q5, .ref q7, .null])), (q1, .inr (4, [.ref u2])), (u2, .inl (cyI, (120, .inl (fun _ => 0)))), (q3, .inr (4, [.ref u4])), (u4, .inl (cyI, (120, .inl (fun _ => 0)))), (q5, .inr (4, [.ref u6])), (u6, .inl (cyI, (120, .inl (fun _ => 0)))), (q7, .inr (4, [.ref u8])), (u8, .inl (cyI, (120, .inl (fun _ => 0))))]) (va_runI (As := [.int 120]) (rest := [.ref q9, .ref w0]) ⟨hx, hb, hml, hown, hts⟩ (mX4_init l dC dI cyI cyO cyL q9 120 (nI 120) rfl (by decide) _) (cwI 1 hts (gW co_X4_init) rfl rfl rfl (hts _ (gb_mem in_X4)) (hts _ (gb_mem ml_X6_17)) (hts _ (gb_mem im_X4_init)) rfl (by decide +kernel) ⟨Nat.le_of_ble_eq_true rfl, Nat.le_of_ble_eq_true rfl⟩) (cP_S hK hP hD [9] rfl rfl) rfl rfl hl.1 rfl (lv_room (Nat.le_of_ble_eq_true rfl)) dX6_init_68 ⟨Nat.le_of_ble_eq_true rfl, Nat.le_of_ble_eq_true rfl⟩) hP hD hS hA [9] [0, 1, 2, 3, 4, 5, 6, 7, 8] rfl rfl rfl (by decide) (fun u H locs hw hP hD hS => ?_)
  obtain ⟨u10, rfl⟩ : ∃ z, z = u := ⟨_, rfl⟩
  try dsimp only at hw
  have hwu10 := hw
  have hP : va_P (dC, dI) vwCl ([(w0, .inr (6, [.int 0, .ref q1, .ref q3, .ref q5, .ref q7, .null])), (q1, .inr (4, [.ref u2])), (u2, .inl (cyI, (120, .inl (fun _ => 0)))), (q3, .inr (4, [.ref u4])), (u4, .inl (cyI, (120, .inl (fun _ => 0)))), (q5, .inr (4, [.ref u6])), (u6, .inl (cyI, (120, .inl (fun _ => 0)))), (q7, .inr (4, [.ref u8])), (u8, .inl (cyI, (120, .inl (fun _ => 0)))), (q9, .inr (4, [.ref u10])), (u10, .inl (cyI, (120, .inl (fun _ => 0))))] : va_W) H := hP
  have hD : va_D A ([(w0, .inr (6, [.int 0, .ref q1, .ref q3, .ref q5, .ref q7, .null])), (q1, .inr (4, [.ref u2])), (u2, .inl (cyI, (120, .inl (fun _ => 0)))), (q3, .inr (4, [.ref u4])), (u4, .inl (cyI, (120, .inl (fun _ => 0)))), (q5, .inr (4, [.ref u6])), (u6, .inl (cyI, (120, .inl (fun _ => 0)))), (q7, .inr (4, [.ref u8])), (u8, .inl (cyI, (120, .inl (fun _ => 0)))), (q9, .inr (4, [.ref u10])), (u10, .inl (cyI, (120, .inl (fun _ => 0))))] : va_W) := hD
  refine W.widen (k := 10) (n := 605) (Nat.le_of_ble_eq_true rfl) (Nat.le_of_ble_eq_true rfl) ?_
  refine va_putF (D := (dC, dI)) (ci := 6) (v := .ref q9) (ty := (.object "HangingKeys$Row")) (C := RX6) (T := TX6) (N := 6) hx hb hts (fun w h9 => gb_mem (lay_X6 w h9)) tyX6 tyX6_ok nmX6 hown hK.1 hP hD hS 0 rfl rfl 5 (by decide) (hts _ (gb_mem fl_X6_33)) (fun _ h9 => h9) rfl hin rfl (by decide +kernel) rfl rfl (Nat.le_of_ble_eq_true rfl) dX6_init_71 (fun H locs hP hD hS => ?_)
  have hP : va_P (dC, dI) vwCl ([(w0, .inr (6, [.int 0, .ref q1, .ref q3, .ref q5, .ref q7, .ref q9])), (q1, .inr (4, [.ref u2])), (u2, .inl (cyI, (120, .inl (fun _ => 0)))), (q3, .inr (4, [.ref u4])), (u4, .inl (cyI, (120, .inl (fun _ => 0)))), (q5, .inr (4, [.ref u6])), (u6, .inl (cyI, (120, .inl (fun _ => 0)))), (q7, .inr (4, [.ref u8])), (u8, .inl (cyI, (120, .inl (fun _ => 0)))), (q9, .inr (4, [.ref u10])), (u10, .inl (cyI, (120, .inl (fun _ => 0))))] : va_W) H := hP
  have hD : va_D A ([(w0, .inr (6, [.int 0, .ref q1, .ref q3, .ref q5, .ref q7, .ref q9])), (q1, .inr (4, [.ref u2])), (u2, .inl (cyI, (120, .inl (fun _ => 0)))), (q3, .inr (4, [.ref u4])), (u4, .inl (cyI, (120, .inl (fun _ => 0)))), (q5, .inr (4, [.ref u6])), (u6, .inl (cyI, (120, .inl (fun _ => 0)))), (q7, .inr (4, [.ref u8])), (u8, .inl (cyI, (120, .inl (fun _ => 0)))), (q9, .inr (4, [.ref u10])), (u10, .inl (cyI, (120, .inl (fun _ => 0))))] : va_W) := hD
  exact e_c (fun i => match i with | 0 => w0 | 1 => q1 | 2 => u2 | 3 => q3 | 4 => u4 | 5 => q5 | 6 => u6 | 7 => q7 | 8 => u8 | 9 => q9 | _ => u10) hx hb hr hlocks rfl hP hD hS dX6_init_74
set_option maxHeartbeats 1000000 in
set_option maxRecDepth 100000 in
theorem mX2_init (l : Launch) (dC : Nat → ClassId) (dI : Nat → Nat → Nat) (cyI cyO cyL : ClassId) (o0 : Nat) (sz : Nat) : Met l yX2_init (wsG yX2_init cX2_init 1 none) ({ frames := 2, cells := 4, slots := 142, locals := 42 }) (cP dC dI cyI cyO cyL sz [.ref o0] ([(o0, .inr (2, [.null, .null]))] : va_W)) (cC dC dI (Nat → Nat) (fun ad => ad 0 = o0) (fun ad => openW cyI (ad 0) (ad 1) (ad 2) (ad 3) (ad 4) (fun _ => 0) (fun _ => 0)) (va_A ([(o0, .inr (2, [.null, .null]))] : va_W) sz)) 4 142 (va_A ([(o0, .inr (2, [.null, .null]))] : va_W) sz) := by
  refine Met.ofW (cc := cX2_init) (maxL := 1) (ret := none) (by decide) rfl ?_
  intro p e s m args below meth c s₁ B hml hv0
  obtain ⟨rfl, hsz, hP, hK, hD0⟩ := hv0
  have hx := B.exec
  have hb := B.bytes
  have hr := B.returns
  have hts := atoms_spec (ws := wsG yX2_init cX2_init 1 none) B.pre
  have hown : s.vm.findClass RX2 = some m.cls := findClass_of_methodNamed B.named
  have hlocks := B.notSynchronized
  subst hsz
  have hD := hD0.self (sz := s.heap.size)
  generalize hAe : va_A ([(o0, .inr (2, [.null, .null]))] : va_W) s.heap.size = A at hD ⊢
  have hA : ∀ q : Nat, s.heap.size ≤ q → A q := fun q h => by rw [← hAe]; exact Or.inr h
  have hS : va_S A s.heap s.heap [] := va_S.rf
  have hl := lv_entry ([.ref o0]) (n := 1) (Nat.le_of_ble_eq_true rfl)
  rw [lg_entry_eq]
  generalize (lg_sl ([.ref o0]) ++ List.replicate (1 - (lg_sl ([.ref o0])).length) Slot.unset).toArray = ls at hl ⊢
  have hl : lv_has ls 1 [(0, .ref o0)] := hl
  have hin : meth.name = "<init>" := (name_of_methodNamed B.named B.method).1
  refine lv_aload_n hx hb dX2_init_0 rfl (lv_at hl 0 rfl) ?_
  refine W.objInit hx hb hown (hts _ (gb_mem ml_X2_3)) (hts _ (gb_mem im_objInit)) (hts _ (gb_mem co_objInit)) rfl (by rw [hml]; exact hl.1) rfl dX2_init_1 (Nat.le_of_ble_eq_true rfl) (Nat.le_of_ble_eq_true rfl) ?_
  refine W.eq (g2 := F0 m 4 ls []) rfl ?_
  refine lv_aload_n hx hb dX2_init_4 rfl (lv_at hl 0 rfl) ?_
  refine va_new (ci := 4) (fs := [.null]) (C := RX4) (T := TX4) (N := 1) hx hb hts (fun w h9 => gb_mem (lay_X4 w h9)) tyX4 tyX4_ok hown (hts _ (gb_mem cl_X2_9)) (hts _ (gb_mem ia_X4)) (hts _ (gb_mem in_X4)) hK.1 hP hD hS hA rfl (fun j hj => by rcases (show j = 0 by omega) with rfl <;> rfl) (Nat.le_of_ble_eq_true rfl) (Nat.le_of_ble_eq_true rfl) dX2_init_5 (fun q1 H hP hD hS => ?_)
  have hP : va_P (dC, dI) vwCl ([(o0, .inr (2, [.null, .null])), (q1, .inr (4, [.null]))] : va_W) H := hP
  have hD : va_D A ([(o0, .inr (2, [.null, .null])), (q1, .inr (4, [.null]))] : va_W) := hD
  refine W.widen (k := 1) (n := 1) (Nat.le_of_ble_eq_true rfl) (Nat.le_of_ble_eq_true rfl) ?_
  refine lv_dup hx hb dX2_init_8 rfl ?_
  refine lv_bipush (v := 20) hx hb dX2_init_9 (by decide) ?_
  refine fr_c (M := [(q1, .inr (4, [.null]))]) (wr := [(o0, .inr (2, [.null, .null]))]) (va_runI (As := [.int 20]) (rest := [.ref q1, .ref o0]) ⟨hx, hb, hml, hown, hts⟩ (mX4_init l dC dI cyI cyO cyL q1 20 (nI 20) rfl (by decide) _) (cwI 1 hts (gW co_X4_init) rfl rfl rfl (hts _ (gb_mem in_X4)) (hts _ (gb_mem ml_X2_11)) (hts _ (gb_mem im_X4_init)) rfl (by decide +kernel) ⟨Nat.le_of_ble_eq_true rfl, Nat.le_of_ble_eq_true rfl⟩) (cP_S hK hP hD [1] rfl rfl) rfl rfl hl.1 rfl (lv_room (Nat.le_of_ble_eq_true rfl)) dX2_init_11 ⟨Nat.le_of_ble_eq_true rfl, Nat.le_of_ble_eq_true rfl⟩) hP hD hS hA [1] [0] rfl rfl rfl (by decide) (fun u H locs hw hP hD hS => ?_)
  obtain ⟨u2, rfl⟩ : ∃ z, z = u := ⟨_, rfl⟩
  try dsimp only at hw
  have hwu2 := hw
  have hP : va_P (dC, dI) vwCl ([(o0, .inr (2, [.null, .null])), (q1, .inr (4, [.ref u2])), (u2, .inl (cyI, (20, .inl (fun _ => 0))))] : va_W) H := hP
  have hD : va_D A ([(o0, .inr (2, [.null, .null])), (q1, .inr (4, [.ref u2])), (u2, .inl (cyI, (20, .inl (fun _ => 0))))] : va_W) := hD
  refine W.widen (k := 2) (n := 21) (Nat.le_of_ble_eq_true rfl) (Nat.le_of_ble_eq_true rfl) ?_
  refine va_putF (D := (dC, dI)) (ci := 2) (v := .ref q1) (ty := (.object "HangingKeys$Row")) (C := RX2) (T := TX2) (N := 2) hx hb hts (fun w h9 => gb_mem (lay_X2 w h9)) tyX2 tyX2_ok nmX2 hown hK.1 hP hD hS 0 rfl rfl 0 (by decide) (hts _ (gb_mem fl_X2_14)) (fun _ h9 => h9) rfl hin rfl (by decide +kernel) rfl rfl (Nat.le_of_ble_eq_true rfl) dX2_init_14 (fun H locs hP hD hS => ?_)
  have hP : va_P (dC, dI) vwCl ([(o0, .inr (2, [.ref q1, .null])), (q1, .inr (4, [.ref u2])), (u2, .inl (cyI, (20, .inl (fun _ => 0))))] : va_W) H := hP
  have hD : va_D A ([(o0, .inr (2, [.ref q1, .null])), (q1, .inr (4, [.ref u2])), (u2, .inl (cyI, (20, .inl (fun _ => 0))))] : va_W) := hD
  refine lv_aload_n hx hb dX2_init_17 rfl (lv_at hl 0 rfl) ?_
  refine va_new (ci := 4) (fs := [.null]) (C := RX4) (T := TX4) (N := 1) hx hb hts (fun w h9 => gb_mem (lay_X4 w h9)) tyX4 tyX4_ok hown (hts _ (gb_mem cl_X2_9)) (hts _ (gb_mem ia_X4)) (hts _ (gb_mem in_X4)) hK.1 hP hD hS hA rfl (fun j hj => by rcases (show j = 0 by omega) with rfl <;> rfl) (Nat.le_of_ble_eq_true rfl) (Nat.le_of_ble_eq_true rfl) dX2_init_18 (fun q3 H hP hD hS => ?_)
  have hP : va_P (dC, dI) vwCl ([(o0, .inr (2, [.ref q1, .null])), (q1, .inr (4, [.ref u2])), (u2, .inl (cyI, (20, .inl (fun _ => 0)))), (q3, .inr (4, [.null]))] : va_W) H := hP
  have hD : va_D A ([(o0, .inr (2, [.ref q1, .null])), (q1, .inr (4, [.ref u2])), (u2, .inl (cyI, (20, .inl (fun _ => 0)))), (q3, .inr (4, [.null]))] : va_W) := hD
  refine W.widen (k := 3) (n := 22) (Nat.le_of_ble_eq_true rfl) (Nat.le_of_ble_eq_true rfl) ?_
  refine lv_dup hx hb dX2_init_21 rfl ?_
  refine lv_bipush (v := 120) hx hb dX2_init_22 (by decide) ?_
  refine fr_c (M := [(q3, .inr (4, [.null]))]) (wr := [(o0, .inr (2, [.ref q1, .null])), (q1, .inr (4, [.ref u2])), (u2, .inl (cyI, (20, .inl (fun _ => 0))))]) (va_runI (As := [.int 120]) (rest := [.ref q3, .ref o0]) ⟨hx, hb, hml, hown, hts⟩ (mX4_init l dC dI cyI cyO cyL q3 120 (nI 120) rfl (by decide) _) (cwI 1 hts (gW co_X4_init) rfl rfl rfl (hts _ (gb_mem in_X4)) (hts _ (gb_mem ml_X2_11)) (hts _ (gb_mem im_X4_init)) rfl (by decide +kernel) ⟨Nat.le_of_ble_eq_true rfl, Nat.le_of_ble_eq_true rfl⟩) (cP_S hK hP hD [3] rfl rfl) rfl rfl hl.1 rfl (lv_room (Nat.le_of_ble_eq_true rfl)) dX2_init_24 ⟨Nat.le_of_ble_eq_true rfl, Nat.le_of_ble_eq_true rfl⟩) hP hD hS hA [3] [0, 1, 2] rfl rfl rfl (by decide) (fun u H locs hw hP hD hS => ?_)
  obtain ⟨u4, rfl⟩ : ∃ z, z = u := ⟨_, rfl⟩
  try dsimp only at hw
  have hwu4 := hw
  have hP : va_P (dC, dI) vwCl ([(o0, .inr (2, [.ref q1, .null])), (q1, .inr (4, [.ref u2])), (u2, .inl (cyI, (20, .inl (fun _ => 0)))), (q3, .inr (4, [.ref u4])), (u4, .inl (cyI, (120, .inl (fun _ => 0))))] : va_W) H := hP
  have hD : va_D A ([(o0, .inr (2, [.ref q1, .null])), (q1, .inr (4, [.ref u2])), (u2, .inl (cyI, (20, .inl (fun _ => 0)))), (q3, .inr (4, [.ref u4])), (u4, .inl (cyI, (120, .inl (fun _ => 0))))] : va_W) := hD
  refine W.widen (k := 4) (n := 142) (Nat.le_of_ble_eq_true rfl) (Nat.le_of_ble_eq_true rfl) ?_
  refine va_putF (D := (dC, dI)) (ci := 2) (v := .ref q3) (ty := (.object "HangingKeys$Row")) (C := RX2) (T := TX2) (N := 2) hx hb hts (fun w h9 => gb_mem (lay_X2 w h9)) tyX2 tyX2_ok nmX2 hown hK.1 hP hD hS 0 rfl rfl 1 (by decide) (hts _ (gb_mem fl_X2_20)) (fun _ h9 => h9) rfl hin rfl (by decide +kernel) rfl rfl (Nat.le_of_ble_eq_true rfl) dX2_init_27 (fun H locs hP hD hS => ?_)
  have hP : va_P (dC, dI) vwCl ([(o0, .inr (2, [.ref q1, .ref q3])), (q1, .inr (4, [.ref u2])), (u2, .inl (cyI, (20, .inl (fun _ => 0)))), (q3, .inr (4, [.ref u4])), (u4, .inl (cyI, (120, .inl (fun _ => 0))))] : va_W) H := hP
  have hD : va_D A ([(o0, .inr (2, [.ref q1, .ref q3])), (q1, .inr (4, [.ref u2])), (u2, .inl (cyI, (20, .inl (fun _ => 0)))), (q3, .inr (4, [.ref u4])), (u4, .inl (cyI, (120, .inl (fun _ => 0))))] : va_W) := hD
  exact e_c (fun i => match i with | 0 => o0 | 1 => q1 | 2 => u2 | 3 => q3 | _ => u4) hx hb hr hlocks rfl hP hD hS dX2_init_30
set_option maxHeartbeats 1000000 in
set_option maxRecDepth 100000 in
theorem mX3_init (l : Launch) (dC : Nat → ClassId) (dI : Nat → Nat → Nat) (cyI cyO cyL : ClassId) (p0 : Nat) (sz : Nat) : Met l yX3_init (wsG yX3_init cX3_init 1 none) ({ frames := 2, cells := 2, slots := 61, locals := 42 }) (cP dC dI cyI cyO cyL sz [.ref p0] ([(p0, .inr (3, [.null, .int 0, .int 0, .int 0, .int 0, .int 0]))] : va_W)) (cC dC dI (Nat → Nat) (fun ad => ad 0 = p0) (fun ad => padW cyI (ad 0) (ad 1) (ad 2) (fun _ => 0) 0 0 0 0 0) (va_A ([(p0, .inr (3, [.null, .int 0, .int 0, .int 0, .int 0, .int 0]))] : va_W) sz)) 2 61 (va_A ([(p0, .inr (3, [.null, .int 0, .int 0, .int 0, .int 0, .int 0]))] : va_W) sz) := by
  refine Met.ofW (cc := cX3_init) (maxL := 1) (ret := none) (by decide) rfl ?_
  intro p e s m args below meth c s₁ B hml hv0
  obtain ⟨rfl, hsz, hP, hK, hD0⟩ := hv0
  have hx := B.exec
  have hb := B.bytes
  have hr := B.returns
  have hts := atoms_spec (ws := wsG yX3_init cX3_init 1 none) B.pre
  have hown : s.vm.findClass RX3 = some m.cls := findClass_of_methodNamed B.named
  have hlocks := B.notSynchronized
  subst hsz
  have hD := hD0.self (sz := s.heap.size)
  generalize hAe : va_A ([(p0, .inr (3, [.null, .int 0, .int 0, .int 0, .int 0, .int 0]))] : va_W) s.heap.size = A at hD ⊢
  have hA : ∀ q : Nat, s.heap.size ≤ q → A q := fun q h => by rw [← hAe]; exact Or.inr h
  have hS : va_S A s.heap s.heap [] := va_S.rf
  have hl := lv_entry ([.ref p0]) (n := 1) (Nat.le_of_ble_eq_true rfl)
  rw [lg_entry_eq]
  generalize (lg_sl ([.ref p0]) ++ List.replicate (1 - (lg_sl ([.ref p0])).length) Slot.unset).toArray = ls at hl ⊢
  have hl : lv_has ls 1 [(0, .ref p0)] := hl
  have hin : meth.name = "<init>" := (name_of_methodNamed B.named B.method).1
  refine lv_aload_n hx hb dX3_init_0 rfl (lv_at hl 0 rfl) ?_
  refine W.objInit hx hb hown (hts _ (gb_mem ml_X3_3)) (hts _ (gb_mem im_objInit)) (hts _ (gb_mem co_objInit)) rfl (by rw [hml]; exact hl.1) rfl dX3_init_1 (Nat.le_of_ble_eq_true rfl) (Nat.le_of_ble_eq_true rfl) ?_
  refine W.eq (g2 := F0 m 4 ls []) rfl ?_
  refine lv_aload_n hx hb dX3_init_4 rfl (lv_at hl 0 rfl) ?_
  refine va_new (ci := 4) (fs := [.null]) (C := RX4) (T := TX4) (N := 1) hx hb hts (fun w h9 => gb_mem (lay_X4 w h9)) tyX4 tyX4_ok hown (hts _ (gb_mem cl_X3_9)) (hts _ (gb_mem ia_X4)) (hts _ (gb_mem in_X4)) hK.1 hP hD hS hA rfl (fun j hj => by rcases (show j = 0 by omega) with rfl <;> rfl) (Nat.le_of_ble_eq_true rfl) (Nat.le_of_ble_eq_true rfl) dX3_init_5 (fun q1 H hP hD hS => ?_)
  have hP : va_P (dC, dI) vwCl ([(p0, .inr (3, [.null, .int 0, .int 0, .int 0, .int 0, .int 0])), (q1, .inr (4, [.null]))] : va_W) H := hP
  have hD : va_D A ([(p0, .inr (3, [.null, .int 0, .int 0, .int 0, .int 0, .int 0])), (q1, .inr (4, [.null]))] : va_W) := hD
  refine W.widen (k := 1) (n := 1) (Nat.le_of_ble_eq_true rfl) (Nat.le_of_ble_eq_true rfl) ?_
  refine lv_dup hx hb dX3_init_8 rfl ?_
  refine lv_bipush (v := 60) hx hb dX3_init_9 (by decide) ?_
  refine fr_c (M := [(q1, .inr (4, [.null]))]) (wr := [(p0, .inr (3, [.null, .int 0, .int 0, .int 0, .int 0, .int 0]))]) (va_runI (As := [.int 60]) (rest := [.ref q1, .ref p0]) ⟨hx, hb, hml, hown, hts⟩ (mX4_init l dC dI cyI cyO cyL q1 60 (nI 60) rfl (by decide) _) (cwI 1 hts (gW co_X4_init) rfl rfl rfl (hts _ (gb_mem in_X4)) (hts _ (gb_mem ml_X3_11)) (hts _ (gb_mem im_X4_init)) rfl (by decide +kernel) ⟨Nat.le_of_ble_eq_true rfl, Nat.le_of_ble_eq_true rfl⟩) (cP_S hK hP hD [1] rfl rfl) rfl rfl hl.1 rfl (lv_room (Nat.le_of_ble_eq_true rfl)) dX3_init_11 ⟨Nat.le_of_ble_eq_true rfl, Nat.le_of_ble_eq_true rfl⟩) hP hD hS hA [1] [0] rfl rfl rfl (by decide) (fun u H locs hw hP hD hS => ?_)
  obtain ⟨u2, rfl⟩ : ∃ z, z = u := ⟨_, rfl⟩
  try dsimp only at hw
  have hwu2 := hw
  have hP : va_P (dC, dI) vwCl ([(p0, .inr (3, [.null, .int 0, .int 0, .int 0, .int 0, .int 0])), (q1, .inr (4, [.ref u2])), (u2, .inl (cyI, (60, .inl (fun _ => 0))))] : va_W) H := hP
  have hD : va_D A ([(p0, .inr (3, [.null, .int 0, .int 0, .int 0, .int 0, .int 0])), (q1, .inr (4, [.ref u2])), (u2, .inl (cyI, (60, .inl (fun _ => 0))))] : va_W) := hD
  refine W.widen (k := 2) (n := 61) (Nat.le_of_ble_eq_true rfl) (Nat.le_of_ble_eq_true rfl) ?_
  refine va_putF (D := (dC, dI)) (ci := 3) (v := .ref q1) (ty := (.object "HangingKeys$Row")) (C := RX3) (T := TX3) (N := 6) hx hb hts (fun w h9 => gb_mem (lay_X3 w h9)) tyX3 tyX3_ok nmX3 hown hK.1 hP hD hS 0 rfl rfl 0 (by decide) (hts _ (gb_mem fl_X3_14)) (fun _ h9 => h9) rfl hin rfl (by decide +kernel) rfl rfl (Nat.le_of_ble_eq_true rfl) dX3_init_14 (fun H locs hP hD hS => ?_)
  have hP : va_P (dC, dI) vwCl ([(p0, .inr (3, [.ref q1, .int 0, .int 0, .int 0, .int 0, .int 0])), (q1, .inr (4, [.ref u2])), (u2, .inl (cyI, (60, .inl (fun _ => 0))))] : va_W) H := hP
  have hD : va_D A ([(p0, .inr (3, [.ref q1, .int 0, .int 0, .int 0, .int 0, .int 0])), (q1, .inr (4, [.ref u2])), (u2, .inl (cyI, (60, .inl (fun _ => 0))))] : va_W) := hD
  refine lv_aload_n hx hb dX3_init_17 rfl (lv_at hl 0 rfl) ?_
  refine lv_iconst (v := 0) hx hb dX3_init_18 (by decide) ?_
  refine va_put (D := (dC, dI)) (ci := 3) (v := .int 0) (ty := .int) (C := RX3) (T := TX3) (N := 6) hx hb hts (fun w h9 => gb_mem (lay_X3 w h9)) tyX3 tyX3_ok nmX3 hown hK.1 hP hD hS 0 rfl rfl 1 (by decide) (hts _ (gb_mem fl_X3_20)) (fun _ h9 => h9) rfl (by decide +kernel) rfl rfl (Nat.le_of_ble_eq_true rfl) dX3_init_19 (fun H locs hP hD hS => ?_)
  have hP : va_P (dC, dI) vwCl ([(p0, .inr (3, [.ref q1, .int 0, .int 0, .int 0, .int 0, .int 0])), (q1, .inr (4, [.ref u2])), (u2, .inl (cyI, (60, .inl (fun _ => 0))))] : va_W) H := hP
  have hD : va_D A ([(p0, .inr (3, [.ref q1, .int 0, .int 0, .int 0, .int 0, .int 0])), (q1, .inr (4, [.ref u2])), (u2, .inl (cyI, (60, .inl (fun _ => 0))))] : va_W) := hD
  refine lv_aload_n hx hb dX3_init_22 rfl (lv_at hl 0 rfl) ?_
  refine lv_iconst (v := 0) hx hb dX3_init_23 (by decide) ?_
  refine va_put (D := (dC, dI)) (ci := 3) (v := .int 0) (ty := .int) (C := RX3) (T := TX3) (N := 6) hx hb hts (fun w h9 => gb_mem (lay_X3 w h9)) tyX3 tyX3_ok nmX3 hown hK.1 hP hD hS 0 rfl rfl 2 (by decide) (hts _ (gb_mem fl_X3_24)) (fun _ h9 => h9) rfl (by decide +kernel) rfl rfl (Nat.le_of_ble_eq_true rfl) dX3_init_24 (fun H locs hP hD hS => ?_)
  have hP : va_P (dC, dI) vwCl ([(p0, .inr (3, [.ref q1, .int 0, .int 0, .int 0, .int 0, .int 0])), (q1, .inr (4, [.ref u2])), (u2, .inl (cyI, (60, .inl (fun _ => 0))))] : va_W) H := hP
  have hD : va_D A ([(p0, .inr (3, [.ref q1, .int 0, .int 0, .int 0, .int 0, .int 0])), (q1, .inr (4, [.ref u2])), (u2, .inl (cyI, (60, .inl (fun _ => 0))))] : va_W) := hD
  refine lv_aload_n hx hb dX3_init_27 rfl (lv_at hl 0 rfl) ?_
  refine lv_iconst (v := 0) hx hb dX3_init_28 (by decide) ?_
  refine va_put (D := (dC, dI)) (ci := 3) (v := .int 0) (ty := .int) (C := RX3) (T := TX3) (N := 6) hx hb hts (fun w h9 => gb_mem (lay_X3 w h9)) tyX3 tyX3_ok nmX3 hown hK.1 hP hD hS 0 rfl rfl 3 (by decide) (hts _ (gb_mem fl_X3_27)) (fun _ h9 => h9) rfl (by decide +kernel) rfl rfl (Nat.le_of_ble_eq_true rfl) dX3_init_29 (fun H locs hP hD hS => ?_)
  have hP : va_P (dC, dI) vwCl ([(p0, .inr (3, [.ref q1, .int 0, .int 0, .int 0, .int 0, .int 0])), (q1, .inr (4, [.ref u2])), (u2, .inl (cyI, (60, .inl (fun _ => 0))))] : va_W) H := hP
  have hD : va_D A ([(p0, .inr (3, [.ref q1, .int 0, .int 0, .int 0, .int 0, .int 0])), (q1, .inr (4, [.ref u2])), (u2, .inl (cyI, (60, .inl (fun _ => 0))))] : va_W) := hD
  refine lv_aload_n hx hb dX3_init_32 rfl (lv_at hl 0 rfl) ?_
  refine lv_iconst (v := 0) hx hb dX3_init_33 (by decide) ?_
  refine va_put (D := (dC, dI)) (ci := 3) (v := .int 0) (ty := .int) (C := RX3) (T := TX3) (N := 6) hx hb hts (fun w h9 => gb_mem (lay_X3 w h9)) tyX3 tyX3_ok nmX3 hown hK.1 hP hD hS 0 rfl rfl 4 (by decide) (hts _ (gb_mem fl_X3_30)) (fun _ h9 => h9) rfl (by decide +kernel) rfl rfl (Nat.le_of_ble_eq_true rfl) dX3_init_34 (fun H locs hP hD hS => ?_)
  have hP : va_P (dC, dI) vwCl ([(p0, .inr (3, [.ref q1, .int 0, .int 0, .int 0, .int 0, .int 0])), (q1, .inr (4, [.ref u2])), (u2, .inl (cyI, (60, .inl (fun _ => 0))))] : va_W) H := hP
  have hD : va_D A ([(p0, .inr (3, [.ref q1, .int 0, .int 0, .int 0, .int 0, .int 0])), (q1, .inr (4, [.ref u2])), (u2, .inl (cyI, (60, .inl (fun _ => 0))))] : va_W) := hD
  refine lv_aload_n hx hb dX3_init_37 rfl (lv_at hl 0 rfl) ?_
  refine lv_iconst (v := 0) hx hb dX3_init_38 (by decide) ?_
  refine va_put (D := (dC, dI)) (ci := 3) (v := .int 0) (ty := .int) (C := RX3) (T := TX3) (N := 6) hx hb hts (fun w h9 => gb_mem (lay_X3 w h9)) tyX3 tyX3_ok nmX3 hown hK.1 hP hD hS 0 rfl rfl 5 (by decide) (hts _ (gb_mem fl_X3_33)) (fun _ h9 => h9) rfl (by decide +kernel) rfl rfl (Nat.le_of_ble_eq_true rfl) dX3_init_39 (fun H locs hP hD hS => ?_)
  have hP : va_P (dC, dI) vwCl ([(p0, .inr (3, [.ref q1, .int 0, .int 0, .int 0, .int 0, .int 0])), (q1, .inr (4, [.ref u2])), (u2, .inl (cyI, (60, .inl (fun _ => 0))))] : va_W) H := hP
  have hD : va_D A ([(p0, .inr (3, [.ref q1, .int 0, .int 0, .int 0, .int 0, .int 0])), (q1, .inr (4, [.ref u2])), (u2, .inl (cyI, (60, .inl (fun _ => 0))))] : va_W) := hD
  exact e_c (fun i => match i with | 0 => p0 | 1 => q1 | _ => u2) hx hb hr hlocks rfl hP hD hS dX3_init_42
def hv0 : HV := (8, 0, 0, 0, 0, (fun _ => 0), (fun _ => 0), (fun _ => 0), (fun _ => 0), 0, (fun _ => 0), (fun _ => 0), (fun _ => 0), (fun _ => 0), (fun _ => 0))
set_option maxHeartbeats 1000000 in
set_option maxRecDepth 100000 in
theorem mX1_init (l : Launch) (dC : Nat → ClassId) (dI : Nat → Nat → Nat) (cyI cyO cyL : ClassId) (h0 : Nat) (sz : Nat) : Met l yX1_init (wsG yX1_init cX1_init 1 none) ({ frames := 3, cells := 20, slots := 704, locals := 62 }) (cP dC dI cyI cyO cyL sz [.ref h0] ([(h0, .inr (1, [.null, .null]))] : va_W)) (cC dC dI (Nat → Nat) (fun ad => ad 0 = h0) (fun ad => houseV cyI ad hv0) (va_A ([(h0, .inr (1, [.null, .null]))] : va_W) sz)) 20 704 (va_A ([(h0, .inr (1, [.null, .null]))] : va_W) sz) := by
  refine Met.ofW (cc := cX1_init) (maxL := 1) (ret := none) (by decide) rfl ?_
  intro p e s m args below meth c s₁ B hml hv0
  obtain ⟨rfl, hsz, hP, hK, hD0⟩ := hv0
  have hx := B.exec
  have hb := B.bytes
  have hr := B.returns
  have hts := atoms_spec (ws := wsG yX1_init cX1_init 1 none) B.pre
  have hown : s.vm.findClass RX1 = some m.cls := findClass_of_methodNamed B.named
  have hlocks := B.notSynchronized
  subst hsz
  have hD := hD0.self (sz := s.heap.size)
  generalize hAe : va_A ([(h0, .inr (1, [.null, .null]))] : va_W) s.heap.size = A at hD ⊢
  have hA : ∀ q : Nat, s.heap.size ≤ q → A q := fun q h => by rw [← hAe]; exact Or.inr h
  have hS : va_S A s.heap s.heap [] := va_S.rf
  have hl := lv_entry ([.ref h0]) (n := 1) (Nat.le_of_ble_eq_true rfl)
  rw [lg_entry_eq]
  generalize (lg_sl ([.ref h0]) ++ List.replicate (1 - (lg_sl ([.ref h0])).length) Slot.unset).toArray = ls at hl ⊢
  have hl : lv_has ls 1 [(0, .ref h0)] := hl
  have hin : meth.name = "<init>" := (name_of_methodNamed B.named B.method).1
  refine lv_aload_n hx hb dX1_init_0 rfl (lv_at hl 0 rfl) ?_
  refine W.objInit hx hb hown (hts _ (gb_mem ml_X1_3)) (hts _ (gb_mem im_objInit)) (hts _ (gb_mem co_objInit)) rfl (by rw [hml]; exact hl.1) rfl dX1_init_1 (Nat.le_of_ble_eq_true rfl) (Nat.le_of_ble_eq_true rfl) ?_
  refine W.eq (g2 := F0 m 4 ls []) rfl ?_
  refine lv_aload_n hx hb dX1_init_4 rfl (lv_at hl 0 rfl) ?_
  refine va_new (ci := 5) (fs := [.int 0, .int 0, .int 0, .int 0, .int 0, .null, .null, .null, .null]) (C := RX5) (T := TX5) (N := 9) hx hb hts (fun w h9 => gb_mem (lay_X5 w h9)) tyX5 tyX5_ok hown (hts _ (gb_mem cl_X1_9)) (hts _ (gb_mem ia_X5)) (hts _ (gb_mem in_X5)) hK.1 hP hD hS hA rfl (fun j hj => by rcases (show j = 0 ∨ j = 1 ∨ j = 2 ∨ j = 3 ∨ j = 4 ∨ j = 5 ∨ j = 6 ∨ j = 7 ∨ j = 8 by omega) with rfl | rfl | rfl | rfl | rfl | rfl | rfl | rfl | rfl <;> rfl) (Nat.le_of_ble_eq_true rfl) (Nat.le_of_ble_eq_true rfl) dX1_init_5 (fun q1 H hP hD hS => ?_)
  have hP : va_P (dC, dI) vwCl ([(h0, .inr (1, [.null, .null])), (q1, .inr (5, [.int 0, .int 0, .int 0, .int 0, .int 0, .null, .null, .null, .null]))] : va_W) H := hP
  have hD : va_D A ([(h0, .inr (1, [.null, .null])), (q1, .inr (5, [.int 0, .int 0, .int 0, .int 0, .int 0, .null, .null, .null, .null]))] : va_W) := hD
  refine W.widen (k := 1) (n := 9) (Nat.le_of_ble_eq_true rfl) (Nat.le_of_ble_eq_true rfl) ?_
  refine lv_dup hx hb dX1_init_8 rfl ?_
  refine fr_c (M := [(q1, .inr (5, [.int 0, .int 0, .int 0, .int 0, .int 0, .null, .null, .null, .null]))]) (wr := [(h0, .inr (1, [.null, .null]))]) (va_runIN (As := []) (rest := [.ref q1, .ref h0]) ⟨hx, hb, hml, hown, hts⟩ (mX5_init l dC dI cyI cyO cyL q1 _) ⟨va_cnB 0 hts (gW co_X5_init) rfl rfl rfl (hK.2 _ nl_X1_11) (hts _ (gb_mem in_X5)) (by decide +kernel) ⟨Nat.le_of_ble_eq_true rfl, Nat.le_of_ble_eq_true rfl⟩, rfl, hts _ (gb_mem im_X5_init)⟩ (cP_S hK hP hD [1] rfl rfl) rfl rfl hl.1 rfl (lv_room (Nat.le_of_ble_eq_true rfl)) dX1_init_9 ⟨Nat.le_of_ble_eq_true rfl, Nat.le_of_ble_eq_true rfl⟩) hP hD hS hA [1] [0] rfl rfl rfl (by decide) (fun u H locs hw hP hD hS => ?_)
  obtain ⟨u2, rfl⟩ : ∃ z, z = u := ⟨_, rfl⟩
  try dsimp only at hw
  have hwu2 := hw
  rw [hwu2] at hP hD
  have hP : va_P (dC, dI) vwCl ([(h0, .inr (1, [.null, .null])), (q1, .inr (5, [.int 8, .int 0, .int 0, .int 0, .int 0, .ref (u2 1), .ref (u2 3), .ref (u2 5), .ref (u2 7)])), ((u2 1), .inr (4, [.ref (u2 2)])), ((u2 2), .inl (cyI, (20, .inl (fun _ => 0)))), ((u2 3), .inr (4, [.ref (u2 4)])), ((u2 4), .inl (cyI, (20, .inl (fun _ => 0)))), ((u2 5), .inr (4, [.ref (u2 6)])), ((u2 6), .inl (cyI, (20, .inl (fun _ => 0)))), ((u2 7), .inr (4, [.ref (u2 8)])), ((u2 8), .inl (cyI, (20, .inl (fun _ => 0))))] : va_W) H := hP
  have hD : va_D A ([(h0, .inr (1, [.null, .null])), (q1, .inr (5, [.int 8, .int 0, .int 0, .int 0, .int 0, .ref (u2 1), .ref (u2 3), .ref (u2 5), .ref (u2 7)])), ((u2 1), .inr (4, [.ref (u2 2)])), ((u2 2), .inl (cyI, (20, .inl (fun _ => 0)))), ((u2 3), .inr (4, [.ref (u2 4)])), ((u2 4), .inl (cyI, (20, .inl (fun _ => 0)))), ((u2 5), .inr (4, [.ref (u2 6)])), ((u2 6), .inl (cyI, (20, .inl (fun _ => 0)))), ((u2 7), .inr (4, [.ref (u2 8)])), ((u2 8), .inl (cyI, (20, .inl (fun _ => 0))))] : va_W) := hD
  refine W.widen (k := 9) (n := 93) (Nat.le_of_ble_eq_true rfl) (Nat.le_of_ble_eq_true rfl) ?_
  refine va_putF (D := (dC, dI)) (ci := 1) (v := .ref q1) (ty := (.object "HangingKeys$Tree")) (C := RX1) (T := TX1) (N := 2) hx hb hts (fun w h9 => gb_mem (lay_X1 w h9)) tyX1 tyX1_ok nmX1 hown hK.1 hP hD hS 0 rfl rfl 0 (by decide) (hts _ (gb_mem fl_X1_12)) (fun _ h9 => h9) rfl hin rfl (by decide +kernel) rfl rfl (Nat.le_of_ble_eq_true rfl) dX1_init_12 (fun H locs hP hD hS => ?_)
  have hP : va_P (dC, dI) vwCl ([(h0, .inr (1, [.ref q1, .null])), (q1, .inr (5, [.int 8, .int 0, .int 0, .int 0, .int 0, .ref (u2 1), .ref (u2 3), .ref (u2 5), .ref (u2 7)])), ((u2 1), .inr (4, [.ref (u2 2)])), ((u2 2), .inl (cyI, (20, .inl (fun _ => 0)))), ((u2 3), .inr (4, [.ref (u2 4)])), ((u2 4), .inl (cyI, (20, .inl (fun _ => 0)))), ((u2 5), .inr (4, [.ref (u2 6)])), ((u2 6), .inl (cyI, (20, .inl (fun _ => 0)))), ((u2 7), .inr (4, [.ref (u2 8)])), ((u2 8), .inl (cyI, (20, .inl (fun _ => 0))))] : va_W) H := hP
  have hD : va_D A ([(h0, .inr (1, [.ref q1, .null])), (q1, .inr (5, [.int 8, .int 0, .int 0, .int 0, .int 0, .ref (u2 1), .ref (u2 3), .ref (u2 5), .ref (u2 7)])), ((u2 1), .inr (4, [.ref (u2 2)])), ((u2 2), .inl (cyI, (20, .inl (fun _ => 0)))), ((u2 3), .inr (4, [.ref (u2 4)])), ((u2 4), .inl (cyI, (20, .inl (fun _ => 0)))), ((u2 5), .inr (4, [.ref (u2 6)])), ((u2 6), .inl (cyI, (20, .inl (fun _ => 0)))), ((u2 7), .inr (4, [.ref (u2 8)])), ((u2 8), .inl (cyI, (20, .inl (fun _ => 0))))] : va_W) := hD
  refine lv_aload_n hx hb dX1_init_15 rfl (lv_at hl 0 rfl) ?_
  refine va_new (ci := 6) (fs := [.int 0, .null, .null, .null, .null, .null]) (C := RX6) (T := TX6) (N := 6) hx hb hts (fun w h9 => gb_mem (lay_X6 w h9)) tyX6 tyX6_ok hown (hts _ (gb_mem cl_X1_18)) (hts _ (gb_mem ia_X6)) (hts _ (gb_mem in_X6)) hK.1 hP hD hS hA rfl (fun j hj => by rcases (show j = 0 ∨ j = 1 ∨ j = 2 ∨ j = 3 ∨ j = 4 ∨ j = 5 by omega) with rfl | rfl | rfl | rfl | rfl | rfl <;> rfl) (Nat.le_of_ble_eq_true rfl) (Nat.le_of_ble_eq_true rfl) dX1_init_16 (fun q3 H hP hD hS => ?_)
  have hP : va_P (dC, dI) vwCl ([(h0, .inr (1, [.ref q1, .null])), (q1, .inr (5, [.int 8, .int 0, .int 0, .int 0, .int 0, .ref (u2 1), .ref (u2 3), .ref (u2 5), .ref (u2 7)])), ((u2 1), .inr (4, [.ref (u2 2)])), ((u2 2), .inl (cyI, (20, .inl (fun _ => 0)))), ((u2 3), .inr (4, [.ref (u2 4)])), ((u2 4), .inl (cyI, (20, .inl (fun _ => 0)))), ((u2 5), .inr (4, [.ref (u2 6)])), ((u2 6), .inl (cyI, (20, .inl (fun _ => 0)))), ((u2 7), .inr (4, [.ref (u2 8)])), ((u2 8), .inl (cyI, (20, .inl (fun _ => 0)))), (q3, .inr (6, [.int 0, .null, .null, .null, .null, .null]))] : va_W) H := hP
  have hD : va_D A ([(h0, .inr (1, [.ref q1, .null])), (q1, .inr (5, [.int 8, .int 0, .int 0, .int 0, .int 0, .ref (u2 1), .ref (u2 3), .ref (u2 5), .ref (u2 7)])), ((u2 1), .inr (4, [.ref (u2 2)])), ((u2 2), .inl (cyI, (20, .inl (fun _ => 0)))), ((u2 3), .inr (4, [.ref (u2 4)])), ((u2 4), .inl (cyI, (20, .inl (fun _ => 0)))), ((u2 5), .inr (4, [.ref (u2 6)])), ((u2 6), .inl (cyI, (20, .inl (fun _ => 0)))), ((u2 7), .inr (4, [.ref (u2 8)])), ((u2 8), .inl (cyI, (20, .inl (fun _ => 0)))), (q3, .inr (6, [.int 0, .null, .null, .null, .null, .null]))] : va_W) := hD
  refine W.widen (k := 10) (n := 99) (Nat.le_of_ble_eq_true rfl) (Nat.le_of_ble_eq_true rfl) ?_
  refine lv_dup hx hb dX1_init_19 rfl ?_
  refine fr_c (M := [(q3, .inr (6, [.int 0, .null, .null, .null, .null, .null]))]) (wr := [(h0, .inr (1, [.ref q1, .null])), (q1, .inr (5, [.int 8, .int 0, .int 0, .int 0, .int 0, .ref (u2 1), .ref (u2 3), .ref (u2 5), .ref (u2 7)])), ((u2 1), .inr (4, [.ref (u2 2)])), ((u2 2), .inl (cyI, (20, .inl (fun _ => 0)))), ((u2 3), .inr (4, [.ref (u2 4)])), ((u2 4), .inl (cyI, (20, .inl (fun _ => 0)))), ((u2 5), .inr (4, [.ref (u2 6)])), ((u2 6), .inl (cyI, (20, .inl (fun _ => 0)))), ((u2 7), .inr (4, [.ref (u2 8)])), ((u2 8), .inl (cyI, (20, .inl (fun _ => 0))))]) (va_runIN (As := []) (rest := [.ref q3, .ref h0]) ⟨hx, hb, hml, hown, hts⟩ (mX6_init l dC dI cyI cyO cyL q3 _) ⟨va_cnB 0 hts (gW co_X6_init) rfl rfl rfl (hK.2 _ nl_X1_20) (hts _ (gb_mem in_X6)) (by decide +kernel) ⟨Nat.le_of_ble_eq_true rfl, Nat.le_of_ble_eq_true rfl⟩, rfl, hts _ (gb_mem im_X6_init)⟩ (cP_S hK hP hD [10] rfl rfl) rfl rfl hl.1 rfl (lv_room (Nat.le_of_ble_eq_true rfl)) dX1_init_20 ⟨Nat.le_of_ble_eq_true rfl, Nat.le_of_ble_eq_true rfl⟩) hP hD hS hA [10] [0, 1, 2, 3, 4, 5, 6, 7, 8, 9] rfl rfl rfl (by decide) (fun u H locs hw hP hD hS => ?_)
  obtain ⟨u4, rfl⟩ : ∃ z, z = u := ⟨_, rfl⟩
  try dsimp only at hw
  have hwu4 := hw
  rw [hwu4] at hP hD
  have hP : va_P (dC, dI) vwCl ([(h0, .inr (1, [.ref q1, .null])), (q1, .inr (5, [.int 8, .int 0, .int 0, .int 0, .int 0, .ref (u2 1), .ref (u2 3), .ref (u2 5), .ref (u2 7)])), ((u2 1), .inr (4, [.ref (u2 2)])), ((u2 2), .inl (cyI, (20, .inl (fun _ => 0)))), ((u2 3), .inr (4, [.ref (u2 4)])), ((u2 4), .inl (cyI, (20, .inl (fun _ => 0)))), ((u2 5), .inr (4, [.ref (u2 6)])), ((u2 6), .inl (cyI, (20, .inl (fun _ => 0)))), ((u2 7), .inr (4, [.ref (u2 8)])), ((u2 8), .inl (cyI, (20, .inl (fun _ => 0)))), (q3, .inr (6, [.int 0, .ref (u4 1), .ref (u4 3), .ref (u4 5), .ref (u4 7), .ref (u4 9)])), ((u4 1), .inr (4, [.ref (u4 2)])), ((u4 2), .inl (cyI, (120, .inl (fun _ => 0)))), ((u4 3), .inr (4, [.ref (u4 4)])), ((u4 4), .inl (cyI, (120, .inl (fun _ => 0)))), ((u4 5), .inr (4, [.ref (u4 6)])), ((u4 6), .inl (cyI, (120, .inl (fun _ => 0)))), ((u4 7), .inr (4, [.ref (u4 8)])), ((u4 8), .inl (cyI, (120, .inl (fun _ => 0)))), ((u4 9), .inr (4, [.ref (u4 10)])), ((u4 10), .inl (cyI, (120, .inl (fun _ => 0))))] : va_W) H := hP
  have hD : va_D A ([(h0, .inr (1, [.ref q1, .null])), (q1, .inr (5, [.int 8, .int 0, .int 0, .int 0, .int 0, .ref (u2 1), .ref (u2 3), .ref (u2 5), .ref (u2 7)])), ((u2 1), .inr (4, [.ref (u2 2)])), ((u2 2), .inl (cyI, (20, .inl (fun _ => 0)))), ((u2 3), .inr (4, [.ref (u2 4)])), ((u2 4), .inl (cyI, (20, .inl (fun _ => 0)))), ((u2 5), .inr (4, [.ref (u2 6)])), ((u2 6), .inl (cyI, (20, .inl (fun _ => 0)))), ((u2 7), .inr (4, [.ref (u2 8)])), ((u2 8), .inl (cyI, (20, .inl (fun _ => 0)))), (q3, .inr (6, [.int 0, .ref (u4 1), .ref (u4 3), .ref (u4 5), .ref (u4 7), .ref (u4 9)])), ((u4 1), .inr (4, [.ref (u4 2)])), ((u4 2), .inl (cyI, (120, .inl (fun _ => 0)))), ((u4 3), .inr (4, [.ref (u4 4)])), ((u4 4), .inl (cyI, (120, .inl (fun _ => 0)))), ((u4 5), .inr (4, [.ref (u4 6)])), ((u4 6), .inl (cyI, (120, .inl (fun _ => 0)))), ((u4 7), .inr (4, [.ref (u4 8)])), ((u4 8), .inl (cyI, (120, .inl (fun _ => 0)))), ((u4 9), .inr (4, [.ref (u4 10)])), ((u4 10), .inl (cyI, (120, .inl (fun _ => 0))))] : va_W) := hD
  refine W.widen (k := 20) (n := 704) (Nat.le_of_ble_eq_true rfl) (Nat.le_of_ble_eq_true rfl) ?_
  refine va_putF (D := (dC, dI)) (ci := 1) (v := .ref q3) (ty := (.object "HangingKeys$Wraps")) (C := RX1) (T := TX1) (N := 2) hx hb hts (fun w h9 => gb_mem (lay_X1 w h9)) tyX1 tyX1_ok nmX1 hown hK.1 hP hD hS 0 rfl rfl 1 (by decide) (hts _ (gb_mem fl_X1_21)) (fun _ h9 => h9) rfl hin rfl (by decide +kernel) rfl rfl (Nat.le_of_ble_eq_true rfl) dX1_init_23 (fun H locs hP hD hS => ?_)
  have hP : va_P (dC, dI) vwCl ([(h0, .inr (1, [.ref q1, .ref q3])), (q1, .inr (5, [.int 8, .int 0, .int 0, .int 0, .int 0, .ref (u2 1), .ref (u2 3), .ref (u2 5), .ref (u2 7)])), ((u2 1), .inr (4, [.ref (u2 2)])), ((u2 2), .inl (cyI, (20, .inl (fun _ => 0)))), ((u2 3), .inr (4, [.ref (u2 4)])), ((u2 4), .inl (cyI, (20, .inl (fun _ => 0)))), ((u2 5), .inr (4, [.ref (u2 6)])), ((u2 6), .inl (cyI, (20, .inl (fun _ => 0)))), ((u2 7), .inr (4, [.ref (u2 8)])), ((u2 8), .inl (cyI, (20, .inl (fun _ => 0)))), (q3, .inr (6, [.int 0, .ref (u4 1), .ref (u4 3), .ref (u4 5), .ref (u4 7), .ref (u4 9)])), ((u4 1), .inr (4, [.ref (u4 2)])), ((u4 2), .inl (cyI, (120, .inl (fun _ => 0)))), ((u4 3), .inr (4, [.ref (u4 4)])), ((u4 4), .inl (cyI, (120, .inl (fun _ => 0)))), ((u4 5), .inr (4, [.ref (u4 6)])), ((u4 6), .inl (cyI, (120, .inl (fun _ => 0)))), ((u4 7), .inr (4, [.ref (u4 8)])), ((u4 8), .inl (cyI, (120, .inl (fun _ => 0)))), ((u4 9), .inr (4, [.ref (u4 10)])), ((u4 10), .inl (cyI, (120, .inl (fun _ => 0))))] : va_W) H := hP
  have hD : va_D A ([(h0, .inr (1, [.ref q1, .ref q3])), (q1, .inr (5, [.int 8, .int 0, .int 0, .int 0, .int 0, .ref (u2 1), .ref (u2 3), .ref (u2 5), .ref (u2 7)])), ((u2 1), .inr (4, [.ref (u2 2)])), ((u2 2), .inl (cyI, (20, .inl (fun _ => 0)))), ((u2 3), .inr (4, [.ref (u2 4)])), ((u2 4), .inl (cyI, (20, .inl (fun _ => 0)))), ((u2 5), .inr (4, [.ref (u2 6)])), ((u2 6), .inl (cyI, (20, .inl (fun _ => 0)))), ((u2 7), .inr (4, [.ref (u2 8)])), ((u2 8), .inl (cyI, (20, .inl (fun _ => 0)))), (q3, .inr (6, [.int 0, .ref (u4 1), .ref (u4 3), .ref (u4 5), .ref (u4 7), .ref (u4 9)])), ((u4 1), .inr (4, [.ref (u4 2)])), ((u4 2), .inl (cyI, (120, .inl (fun _ => 0)))), ((u4 3), .inr (4, [.ref (u4 4)])), ((u4 4), .inl (cyI, (120, .inl (fun _ => 0)))), ((u4 5), .inr (4, [.ref (u4 6)])), ((u4 6), .inl (cyI, (120, .inl (fun _ => 0)))), ((u4 7), .inr (4, [.ref (u4 8)])), ((u4 8), .inl (cyI, (120, .inl (fun _ => 0)))), ((u4 9), .inr (4, [.ref (u4 10)])), ((u4 10), .inl (cyI, (120, .inl (fun _ => 0))))] : va_W) := hD
  exact e_c (fun i => match i with | 0 => h0 | 1 => q1 | 2 => (u2 1) | 3 => (u2 2) | 4 => (u2 3) | 5 => (u2 4) | 6 => (u2 5) | 7 => (u2 6) | 8 => (u2 7) | 9 => (u2 8) | 10 => q3 | 11 => (u4 1) | 12 => (u4 2) | 13 => (u4 3) | 14 => (u4 4) | 15 => (u4 5) | 16 => (u4 6) | 17 => (u4 7) | 18 => (u4 8) | 19 => (u4 9) | _ => (u4 10)) hx hb hr hlocks rfl hP hD hS dX1_init_26
