/-! the two larger constructors -/
def cPA (dC : Nat → ClassId) (dI : Nat → Nat → Nat) (cyI cyO cyL : ClassId) (sz : Nat) (av : List Value) (M : va_W) : Array Value → State → Prop :=
  va_Pc av (fun U => U.heap.size = sz ∧ va_P (dC, dI) vwCl M U.heap ∧ KK dC dI cyI cyO cyL U ∧ va_D (fun _ => True) M ∧ va_AO "HangingKeys$House" U)
theorem cPA_S {dC : Nat → ClassId} {dI : Nat → Nat → Nat} {cyI cyO cyL : ClassId} {s : State} {H : Heap} {L M F : va_W} {A : Nat → Prop} {As : List Value} (hK : KK dC dI cyI cyO cyL s) (hO : va_AO "HangingKeys$House" s) (hP : va_P (dC, dI) vwCl L H) (hD : va_D A L) (hL : L.Perm (M ++ F)) : PreS s H (cPA dC dI cyI cyO cyL H.size As M) As := by
  refine ⟨fun a U g mk q => ?_, fun U hU hW => ⟨rfl, by rw [hU], by rw [hU]; exact va_P_left (va_P_perm hL hP), hK.warm hW, (va_D_left (va_D_perm hL hD)).weaken (fun _ _ _ _ => trivial), va_AO.moved hW.alike hO⟩⟩
  obtain ⟨q0, q1, qP, qK, qD, qO⟩ := q
  exact ⟨q0, q1, qP, ⟨va_K.moved (u := U) (U := U.calling g mk a) (Vm.Alike.refl U.vm) qK.1, NW.same (u := U) (U := U.calling g mk a) rfl qK.2⟩, qD, va_AO.moved (u := U) (U := U.calling g mk a) (Vm.Alike.refl U.vm) qO⟩
theorem cP_SG {dC : Nat → ClassId} {dI : Nat → Nat → Nat} {cyI cyO cyL : ClassId} {s : State} {H : Heap} {L M F : va_W} {A : Nat → Prop} {As : List Value} (hK : KK dC dI cyI cyO cyL s) (hP : va_P (dC, dI) vwCl L H) (hD : va_D A L) (hL : L.Perm (M ++ F)) : PreS s H (cP dC dI cyI cyO cyL H.size As M) As :=
  ⟨cP_blind, fun U hU hW => ⟨rfl, by rw [hU], by rw [hU]; exact va_P_left (va_P_perm hL hP), hK.warm hW, (va_D_left (va_D_perm hL hD)).weaken (fun _ _ _ _ => trivial)⟩⟩
theorem cyO_of {dC : Nat → ClassId} {dI : Nat → Nat → Nat} {cyI cyO cyL cA : ClassId} {s : State} (h : va_K (dC, dI) vwCl (Kt cyI cyO cyL ++ [(cA, .object "HangingKeys$House")]) s) : cyO = cA := by
  obtain ⟨k1, c1, -, -, -, h1⟩ := (h.2 3 (cA, .object "HangingKeys$House") rfl).2
  obtain ⟨k2, c2, -, -, -, h2⟩ := (h.2 1 (cyO, .object "HangingKeys$House") rfl).2
  rw [h1] at h2
  exact (Option.some.inj h2).symm
section FRCG
variable {p : Program} {l : Launch} {e : Env} {R : Room} {s : State} {m : MethodId} {args : Array Value} {below : List Frame} {meth : Method} {c : Code} {H : Heap} {locs : List Loc} {cells slots : Nat} {Q : State → Prop}
variable {pc : Nat} {ls : Array Slot} {rest st0 : List Value} {a : Array Value} {A0 : Nat → Prop} {H0 : Heap} {dC : Nat → ClassId} {dI : Nat → Nat → Nat} {L M F : va_W} {mc ms : Nat}
/-- a constructor's call, up to the order of the cells -/
theorem fr_cG {S : Type} {post : S → Prop} {M' L' : S → va_W} (hr : va_Run p l e R s m args below meth c H locs cells slots mc ms (F0 m pc ls st0) rest (cC dC dI S post M' (va_A M H.size) a) (va_A M H.size)) (hP : va_P (dC, dI) vwCl L H) (hD : va_D A0 L) (hS : va_S A0 H0 H locs) (hA : ∀ q, H0.size ≤ q → A0 q) (hL : L.Perm (M ++ F)) (hL' : ∀ u, (L' u).Perm (M' u ++ F))
    (kk : ∀ (u : S) (H1 : Heap) (locs1 : List Loc), post u → va_P (dC, dI) vwCl (L' u) H1 → va_D A0 (L' u) → va_S A0 H0 H1 locs1 → W p l e R s m args below meth c H1 locs1 (cells + mc) (slots + ms) Q (F0 m (pc + 3) ls rest)) : W p l e R s m args below meth c H locs cells slots Q (F0 m pc ls st0) := by
  have hF := free_G hD hS hA hL
  have hP2 := va_P_perm hL hP
  have hD2 := va_D_perm hL hD
  refine va_callv hr hS (fun q _ h => hF q h) hF (fun u t H1 locs1 ht hvm hw hB hz hk hS1 => ?_)
  subst ht
  have hFlt : ∀ q ∈ F, q.1 < H.size ∧ ¬ va_A M H.size q.1 := by
    intro q hq
    have h1 := (va_P_iff.mp hP2 q (List.mem_append_right _ hq)).lt
    refine ⟨h1, fun hA => ?_⟩
    rcases hA with ⟨k, e, hke⟩ | hA
    · exact va_D_apart hD2 _ (List.mem_of_getElem? hke) q hq rfl
    · omega
  refine kk u _ _ hw (va_P_perm (hL' u).symm (va_P_iff.mpr fun q hq => ?_)) (va_D_perm (hL' u).symm (va_D_iff.mpr ⟨?_, fun q hq => ?_⟩)) hS1
  · rcases List.mem_append.mp hq with hq | hq
    · exact va_P_iff.mp hB.1 q hq
    · exact (va_P_iff.mp hP2 q (List.mem_append_right _ hq)).kept (hk q.1 (hFlt q hq).1 (hFlt q hq).2)
  · rw [List.map_append]
    have h1 := (va_D_iff.mp hD2).1
    rw [List.map_append] at h1
    refine List.nodup_append.mpr ⟨(va_D_iff.mp hB.2).1, (List.nodup_append.mp h1).2.1, ?_⟩
    intro x hx y hy hxy
    obtain ⟨q, hq, rfl⟩ := List.mem_map.mp hx
    obtain ⟨r, hr2, rfl⟩ := List.mem_map.mp hy
    exact (hFlt r hr2).2 (hxy ▸ (va_D_iff.mp hB.2).2 q hq)
  · rcases List.mem_append.mp hq with hq | hq
    · exact hF _ ((va_D_iff.mp hB.2).2 q hq)
    · exact (va_D_iff.mp hD2).2 q (List.mem_append_right _ hq)
end FRCG
set_option maxHeartbeats 1000000 in
set_option maxRecDepth 100000 in
theorem mX0_init (l : Launch) (dC : Nat → ClassId) (dI : Nat → Nat → Nat) (cyI cyO cyL : ClassId) (j0 : Nat) (sz : Nat) : Met l yX0_init (wsG yX0_init cX0_init 2 none) ({ frames := 4, cells := 148, slots := 4949, locals := 82 }) (cPA dC dI cyI cyO cyL sz [.ref j0] ([(j0, .inr (0, [.null, .int 0, .int 0]))] : va_W)) (cC dC dI ((Nat → Nat → Nat) × Nat) (fun _ => True) (fun u => histW cyO j0 u.2 u.1 0 0 ++ hvW cyI u.1 (fun _ => hv0)) (va_A ([(j0, .inr (0, [.null, .int 0, .int 0]))] : va_W) sz)) 148 4949 (va_A ([(j0, .inr (0, [.null, .int 0, .int 0]))] : va_W) sz) := by
  refine Met.ofW (cc := cX0_init) (maxL := 2) (ret := none) (by decide) rfl ?_
  intro p e s m args below meth c s₁ B hml hv0
  obtain ⟨rfl, hsz, hP, hK, hD0, hO⟩ := hv0
  have hx := B.exec
  have hb := B.bytes
  have hr := B.returns
  have hts := atoms_spec (ws := wsG yX0_init cX0_init 2 none) B.pre
  have hown : s.vm.findClass RX0 = some m.cls := findClass_of_methodNamed B.named
  have hlocks := B.notSynchronized
  subst hsz
  have hD := hD0.self (sz := s.heap.size)
  generalize hAe : va_A ([(j0, .inr (0, [.null, .int 0, .int 0]))] : va_W) s.heap.size = A at hD ⊢
  have hA : ∀ q : Nat, s.heap.size ≤ q → A q := fun q h => by rw [← hAe]; exact Or.inr h
  have hS : va_S A s.heap s.heap [] := va_S.rf
  have hl := lv_entry ([.ref j0]) (n := 2) (Nat.le_of_ble_eq_true rfl)
  rw [lg_entry_eq]
  generalize (lg_sl ([.ref j0]) ++ List.replicate (2 - (lg_sl ([.ref j0])).length) Slot.unset).toArray = ls at hl ⊢
  have hl : lv_has ls 2 [(0, .ref j0)] := hl
  have hin : meth.name = "<init>" := (name_of_methodNamed B.named B.method).1
  have hP : va_P (dC, dI) vwCl ([(j0, .inr (0, [.null, .int 0, .int 0]))] : va_W) s.heap := hP
  refine lv_aload_n hx hb dX0_init_0 rfl (lv_at hl 0 rfl) ?_
  refine W.objInit hx hb hown (hts _ (gb_mem ml_X0_3)) (hts _ (gb_mem im_objInit)) (hts _ (gb_mem co_objInit)) rfl (by rw [hml]; exact hl.1) rfl dX0_init_1 (Nat.le_of_ble_eq_true rfl) (Nat.le_of_ble_eq_true rfl) ?_
  refine W.eq (g2 := F0 m 4 ls []) rfl ?_
  refine lv_aload_n hx hb dX0_init_4 rfl (lv_at hl 0 rfl) ?_
  refine lv_bipush (v := 7) hx hb dX0_init_5 (by decide) ?_
  refine va_newq (N' := 7) hx hb hown (hts _ (gb_mem cl_X0_9)) hO hK.1 hP hD hS hA (by decide) (by decide) (Nat.le_of_ble_eq_true rfl) (Nat.le_of_ble_eq_true rfl) (Nat.le_of_ble_eq_true rfl) dX0_init_7 (fun j1 cA H hK1 hP hD hS => ?_)
  obtain rfl := cyO_of hK1
  have hP : va_P (dC, dI) vwCl ([(j0, .inr (0, [.null, .int 0, .int 0])), (j1, .inl (cyO, (7, .inr (.inr (.inr (.inr (fun _ => none)))))))] : va_W) H := hP
  have hD : va_D A ([(j0, .inr (0, [.null, .int 0, .int 0])), (j1, .inl (cyO, (7, .inr (.inr (.inr (.inr (fun _ => none)))))))] : va_W) := hD
  refine va_putF (D := (dC, dI)) (ci := 0) (v := .ref j1) (ty := .array (.object "HangingKeys$House")) (C := RX0) (T := TX0) (N := 3) hx hb hts (fun w h9 => gb_mem (lay_X0 w h9)) tyX0 tyX0_ok nmX0 hown hK.1 hP hD hS 0 rfl rfl 0 (by decide) (hts _ (gb_mem fl_X0_11)) (fun _ h9 => h9) rfl hin rfl (by decide +kernel) rfl rfl (Nat.le_of_ble_eq_true rfl) dX0_init_10 (fun H locs hP hD hS => ?_)
  have hP : va_P (dC, dI) vwCl ([(j0, .inr (0, [.ref j1, .int 0, .int 0])), (j1, .inl (cyO, (7, .inr (.inr (.inr (.inr (fun _ => none)))))))] : va_W) H := hP
  have hD : va_D A ([(j0, .inr (0, [.ref j1, .int 0, .int 0])), (j1, .inl (cyO, (7, .inr (.inr (.inr (.inr (fun _ => none)))))))] : va_W) := hD
  refine lv_aload_n hx hb dX0_init_13 rfl (lv_at hl 0 rfl) ?_
  refine lv_iconst (v := 0) hx hb dX0_init_14 (by decide) ?_
  refine va_put (D := (dC, dI)) (ci := 0) (v := .int 0) (ty := .int) (C := RX0) (T := TX0) (N := 3) hx hb hts (fun w h9 => gb_mem (lay_X0 w h9)) tyX0 tyX0_ok nmX0 hown hK.1 hP hD hS 0 rfl rfl 1 (by decide) (hts _ (gb_mem fl_X0_17)) (fun _ h9 => h9) rfl (by decide +kernel) rfl rfl (Nat.le_of_ble_eq_true rfl) dX0_init_15 (fun H locs hP hD hS => ?_)
  have hP : va_P (dC, dI) vwCl ([(j0, .inr (0, [.ref j1, .int 0, .int 0])), (j1, .inl (cyO, (7, .inr (.inr (.inr (.inr (fun _ => none)))))))] : va_W) H := hP
  have hD : va_D A ([(j0, .inr (0, [.ref j1, .int 0, .int 0])), (j1, .inl (cyO, (7, .inr (.inr (.inr (.inr (fun _ => none)))))))] : va_W) := hD
  refine lv_aload_n hx hb dX0_init_18 rfl (lv_at hl 0 rfl) ?_
  refine lv_iconst (v := 0) hx hb dX0_init_19 (by decide) ?_
  refine va_put (D := (dC, dI)) (ci := 0) (v := .int 0) (ty := .int) (C := RX0) (T := TX0) (N := 3) hx hb hts (fun w h9 => gb_mem (lay_X0 w h9)) tyX0 tyX0_ok nmX0 hown hK.1 hP hD hS 0 rfl rfl 2 (by decide) (hts _ (gb_mem fl_X0_21)) (fun _ h9 => h9) rfl (by decide +kernel) rfl rfl (Nat.le_of_ble_eq_true rfl) dX0_init_20 (fun H locs hP hD hS => ?_)
  have hP : va_P (dC, dI) vwCl ([(j0, .inr (0, [.ref j1, .int 0, .int 0])), (j1, .inl (cyO, (7, .inr (.inr (.inr (.inr (fun _ => none)))))))] : va_W) H := hP
  have hD : va_D A ([(j0, .inr (0, [.ref j1, .int 0, .int 0])), (j1, .inl (cyO, (7, .inr (.inr (.inr (.inr (fun _ => none)))))))] : va_W) := hD
  refine lv_iconst (v := 0) hx hb dX0_init_23 (by decide) ?_
  refine lv_istore_n (lv' := [(1, .int 0), (0, .ref j0)]) hx hb dX0_init_24 rfl hl (by decide) rfl (fun ls hl => ?_)
  have LOOP : ∀ (n i : Nat), i ≤ 7 → 7 < i + n → ∀ (had : Nat → Nat → Nat) (H : Heap) (locs : List Loc), va_P (dC, dI) vwCl (([(j0, .inr (0, [.ref j1, .int 0, .int 0])), (j1, .inl (cyO, (7, .inr (.inr (.inr (.inr (fun j => if j < i then some (had j 0) else none)))))))] : va_W) ++ ((List.range i).flatMap (fun k => houseV cyI (had k) hv0))) H → va_D A (([(j0, .inr (0, [.ref j1, .int 0, .int 0])), (j1, .inl (cyO, (7, .inr (.inr (.inr (.inr (fun j => if j < i then some (had j 0) else none)))))))] : va_W) ++ ((List.range i).flatMap (fun k => houseV cyI (had k) hv0))) → va_S A s.heap H locs → ∀ ls : Array Slot, lv_has ls 2 [(1, .int (nI i)), (0, .ref j0)] → W p l e (headSpec (wsG yX0_init cX0_init 2 none) ({ frames := 4, cells := 148, slots := 4949, locals := 82 })).room s m (([.ref j0] : List Value).toArray) below meth c H locs (1 + 21 * i) (7 + 706 * i) (MQ below (cC dC dI ((Nat → Nat → Nat) × Nat) (fun _ => True) (fun u => histW cyO j0 u.2 u.1 0 0 ++ hvW cyI u.1 (fun _ => hv0)) A) (([.ref j0] : List Value).toArray) s 148 4949 A) (F0 m 25 ls []) := by
    intro n
    induction n with
    | zero => intro i h1 h2; omega
    | succ n ih =>
      intro i h1 h2 had H locs hP hD hS ls hl
      refine lv_iload_n hx hb dX0_init_25 rfl (lv_at hl 0 rfl) ?_
      refine lv_aload_n hx hb dX0_init_26 rfl (lv_at hl 1 rfl) ?_
      refine va_get (D := (dC, dI)) (ci := 0) (v := .ref j1) (C := RX0) (T := TX0) (N := 3) hx hb hts (fun w h9 => gb_mem (lay_X0 w h9)) hown hK.1 hP 0 rfl rfl 0 (by decide) (hts _ (gb_mem fl_X0_11)) (fun _ h9 => h9) rfl dX0_init_27 ?_
      refine va_alen (v := nI 7) hx hb hK.1 hP 1 1 rfl rfl rfl dX0_init_30 ?_
      refine lv_icmp_ge (tgt := 53) hx hb dX0_init_31 (by decide) (fun c1 => ?_) (fun c1 => ?_)
      · have hi7 : i = 7 := by
          rw [nI_leI (by omega) (by omega)] at c1
          omega
        subst hi7
        exact e_c (had, j1) hx hb hr hlocks trivial hP hD hS dX0_init_53
      · have hi : i < 7 := by
          rcases Nat.lt_or_ge i 7 with h | h
          · exact h
          · exact absurd (nI_le h (by omega)) c1
        refine lv_aload_n hx hb dX0_init_34 rfl (lv_at hl 1 rfl) ?_
        refine va_get (D := (dC, dI)) (ci := 0) (v := .ref j1) (C := RX0) (T := TX0) (N := 3) hx hb hts (fun w h9 => gb_mem (lay_X0 w h9)) hown hK.1 hP 0 rfl rfl 0 (by decide) (hts _ (gb_mem fl_X0_11)) (fun _ h9 => h9) rfl dX0_init_35 ?_
        refine lv_iload_n hx hb dX0_init_38 rfl (lv_at hl 0 rfl) ?_
        refine va_new (ci := 1) (fs := [.null, .null]) (C := RX1) (T := TX1) (N := 2) hx hb hts (fun w h9 => gb_mem (lay_X1 w h9)) tyX1 tyX1_ok hown (hts _ (gb_mem cl_X0_9)) (hts _ (gb_mem ia_X1)) (hts _ (gb_mem in_X1)) hK.1 hP hD hS hA rfl (fun j hj => by rcases (show j = 0 ∨ j = 1 by omega) with rfl | rfl <;> rfl) (by show 1 + 21 * i + 1 ≤ 148; omega) (by show 7 + 706 * i + 2 ≤ 4949; omega) dX0_init_39 (fun q H hP hD hS => ?_)
        refine lv_dup hx hb dX0_init_42 rfl ?_
        refine fr_cG (M := [(q, .inr (1, [.null, .null]))]) (F := (([(j0, .inr (0, [.ref j1, .int 0, .int 0])), (j1, .inl (cyO, (7, .inr (.inr (.inr (.inr (fun j => if j < i then some (had j 0) else none)))))))] : va_W) ++ ((List.range i).flatMap (fun k => houseV cyI (had k) hv0)))) (L' := fun u => (([(j0, .inr (0, [.ref j1, .int 0, .int 0])), (j1, .inl (cyO, (7, .inr (.inr (.inr (.inr (fun j => if j < i then some (had j 0) else none)))))))] : va_W) ++ houseV cyI u hv0) ++ ((List.range i).flatMap (fun k => houseV cyI (had k) hv0))) (va_runIN (host := "HangingKeys") (As := []) (rest := [.ref q, .int (nI i), .ref j1]) ⟨hx, hb, hml, hown, hts⟩ (mX1_init l dC dI cyI cyO cyL q _) ⟨va_cnB 0 hts (gW co_X1_init) rfl rfl rfl (hK.2 _ nl_X0_24) (hts _ (gb_mem in_X1)) (by decide +kernel) ⟨Nat.le_of_ble_eq_true rfl, Nat.le_of_ble_eq_true rfl⟩, rfl, hts _ (gb_mem im_X1_init)⟩ (cP_SG hK hP hD List.perm_append_comm) rfl rfl hl.1 rfl (lv_room (Nat.le_of_ble_eq_true rfl)) dX0_init_43 ⟨by show 1 + 21 * i + 1 + 20 ≤ 148; omega, by show 7 + 706 * i + 2 + 704 ≤ 4949; omega⟩) hP hD hS hA List.perm_append_comm (fun u => ?_) (fun u H locs hw hP hD hS => ?_)
        · rw [List.append_assoc]
          refine List.perm_append_comm.trans ?_
          rw [List.append_assoc]
          exact List.Perm.append_left _ List.perm_append_comm
        · refine va_astq (r := (RX1, TX1, 2)) (vs := [.ref (u 1), .ref (u 10)]) hx hb hK.1 hP hD hS 1 1 2 1 rfl rfl (by rw [← hw]; rfl) rfl (nI_in hi (by omega)) dX0_init_46 (fun H locs hP hD hS => ?_)
          refine lv_iinc (v := nI i + 1) (lv' := [(1, .int (nI i + 1)), (0, .ref j0)]) hx hb dX0_init_47 hl (k := 0) rfl rfl (by decide) rfl (fun ls hl => ?_)
          refine lv_goto (tgt := 25) hx hb dX0_init_50 (by decide) ?_
          have hfun : va_up (fun j => if j < i then some (had j 0) else none) (nI i).toNatClampNeg (some q) = (fun j => if j < i + 1 then some (va_up had i u j 0) else none) := by
            funext j
            rw [nI_clamp (by omega)]
            by_cases hj : j = i
            · subst hj
              simp [va_up, hw]
            · have : (j < i + 1) ↔ (j < i) := by omega
              simp [va_up, hj, this]
          have hflat : ((List.range (i + 1)).flatMap (fun k => houseV cyI (va_up had i u k) hv0)) = ((List.range i).flatMap (fun k => houseV cyI (had k) hv0)) ++ houseV cyI u hv0 := by
            rw [List.range_succ, List.flatMap_append]
            congr 1
            · rw [List.flatMap_def, List.flatMap_def]
              congr 1
              refine List.map_congr_left (fun k hk => ?_)
              have : k ≠ i := by have := List.mem_range.mp hk; omega
              simp [va_up, this]
            · simp [va_up]
          have hperm : ((([(j0, .inr (0, [.ref j1, .int 0, .int 0])), (j1, .inl (cyO, (7, .inr (.inr (.inr (.inr (va_up (fun j => if j < i then some (had j 0) else none) (nI i).toNatClampNeg (some q))))))))] : va_W) ++ houseV cyI u hv0) ++ ((List.range i).flatMap (fun k => houseV cyI (had k) hv0))).Perm (([(j0, .inr (0, [.ref j1, .int 0, .int 0])), (j1, .inl (cyO, (7, .inr (.inr (.inr (.inr (fun j => if j < i + 1 then some (va_up had i u j 0) else none)))))))] : va_W) ++ ((List.range (i + 1)).flatMap (fun k => houseV cyI (va_up had i u k) hv0))) := by
            rw [hflat, hfun, List.append_assoc]
            exact List.Perm.append_left _ List.perm_append_comm
          have hP := va_P_perm hperm hP
          have hD := va_D_perm hperm hD
          rw [nI_1] at hl
          have e1 : 1 + 21 * i + 1 + 20 = 1 + 21 * (i + 1) := by omega
          have e2 : 7 + 706 * i + 2 + 704 = 7 + 706 * (i + 1) := by omega
          rw [e1, e2]
          exact ih (i + 1) (by omega) (by omega) (va_up had i u) _ _ hP hD hS ls hl
  have hP0 : ([(j0, .inr (0, [.ref j1, .int 0, .int 0])), (j1, .inl (cyO, (7, .inr (.inr (.inr (.inr (fun _ => none)))))))] : va_W) = ([(j0, .inr (0, [.ref j1, .int 0, .int 0])), (j1, .inl (cyO, (7, .inr (.inr (.inr (.inr (fun j => if j < 0 then some ((fun _ _ => 0 : Nat → Nat → Nat) j 0) else none)))))))] : va_W) ++ ((List.range 0).flatMap (fun k => houseV cyI (fun _ => 0) hv0)) := by
    simp
  rw [hP0] at hP hD
  exact LOOP 8 0 (by omega) (by omega) (fun _ _ => 0) _ _ hP hD hS ls hl
