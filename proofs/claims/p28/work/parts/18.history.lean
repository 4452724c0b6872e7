/-! calls beside a tail; the history -/
section FRK
variable {p : Program} {l : Launch} {e : Env} {R : Room} {s : State} {m : MethodId} {args : Array Value} {below : List Frame} {meth : Method} {c : Code} {H : Heap} {locs : List Loc} {cells slots : Nat} {Q : State → Prop}
variable {pc : Nat} {ls : Array Slot} {rest st0 : List Value} {a : Array Value} {A0 : Nat → Prop} {H0 : Heap} {dC : Nat → ClassId} {dI : Nat → Nat → Nat} {L1 L2 M M' M1 M2 T T2 RR F L L' : va_W}
theorem join_T {D : va_G} {cl : List vw_C} {H1 : Heap} (hP : va_P D cl (L1 ++ (T ++ RR)) H) (hD : va_D A0 (L1 ++ (T ++ RR))) (is : List Nat) (hC : is.map (fun i => L1[i]?) = M1.map some) (src : List (Bool × Nat)) (hL : L2.map some = src.map (pick L1 M2)) (ha : src.all (apart is) = true)
    (hk : ∀ q : Nat, q < H.size → ¬ va_A (M1 ++ T) H.size q → H1[q]? = H[q]?) (hP1 : va_P D cl (M2 ++ T2) H1) : va_P D cl (L2 ++ (T2 ++ RR)) H1 := by
  have inL1 : ∀ q ∈ M1, q ∈ L1 := fun q hq => by
    obtain ⟨k, hk⟩ := List.getElem?_of_mem hq
    obtain ⟨j, -, h4⟩ := va_at_places hC hk
    exact List.mem_of_getElem? h4
  have hap := va_D_apart hD
  have hDR : va_D A0 (T ++ RR) := va_D_left (va_D_perm List.perm_append_comm hD)
  have hap2 := va_D_apart hDR
  refine va_P_iff.mpr fun q hq => ?_
  rcases List.mem_append.mp hq with hq | hq
  · obtain ⟨k, hkq⟩ := List.getElem?_of_mem hq
    rcases pick_get hL ha hkq with ⟨j, hj⟩ | ⟨i, h1, h2⟩
    · exact va_P_iff.mp (va_P_left hP1) q (List.mem_of_getElem? hj)
    · have hat := va_P_iff.mp hP q (List.mem_append_left _ (List.mem_of_getElem? h1))
      refine hat.kept (hk q.1 hat.lt ?_)
      intro hA
      rcases hA with ⟨k, e, hke⟩ | hA
      · rcases List.mem_append.mp (List.mem_of_getElem? hke) with hm | hm
        · obtain ⟨k2, hk2⟩ := List.getElem?_of_mem hm
          obtain ⟨j, h3, h4⟩ := va_at_places hC hk2
          have hij := (va_D_left hD).1 i j q (q.1, e) h1 h4 rfl
          subst hij
          exact h2 (List.mem_of_getElem? h3)
        · exact hap q (List.mem_of_getElem? h1) _ (List.mem_append_left _ hm) rfl
      · have := hat.lt; omega
  · rcases List.mem_append.mp hq with hq | hq
    · exact va_P_iff.mp (va_P_right hP1) q hq
    · have hat := va_P_iff.mp hP q (List.mem_append_right _ (List.mem_append_right _ hq))
      refine hat.kept (hk q.1 hat.lt ?_)
      intro hA
      rcases hA with ⟨k, e, hke⟩ | hA
      · rcases List.mem_append.mp (List.mem_of_getElem? hke) with hm | hm
        · exact hap _ (inL1 _ hm) q (List.mem_append_right _ hq) rfl
        · exact hap2 _ hm q hq rfl
      · have := hat.lt; omega
theorem ads_T {A : Nat → Prop} (hD : va_D A (L1 ++ (T ++ RR))) (h1 : L2.map (·.1) = L1.map (·.1)) (h2 : T2.map (·.1) = T.map (·.1)) : va_D A (L2 ++ (T2 ++ RR)) :=
  va_D_ads (by rw [List.map_append, List.map_append, List.map_append, List.map_append, h1, h2]) hD
theorem free_T (hD : va_D A0 (L1 ++ (T ++ RR))) (hS : va_S A0 H0 H locs) (hA : ∀ q, H0.size ≤ q → A0 q) (is : List Nat) (hC : is.map (fun i => L1[i]?) = M1.map some) : ∀ q, va_A (M1 ++ T) H.size q → A0 q := by
  intro q hq
  rcases hq with ⟨k, e, hke⟩ | hq
  · rcases List.mem_append.mp (List.mem_of_getElem? hke) with hm | hm
    · obtain ⟨k2, hk2⟩ := List.getElem?_of_mem hm
      obtain ⟨j, -, h4⟩ := va_at_places hC hk2
      exact (va_D_iff.mp hD).2 (q, e) (List.mem_append_left _ (List.mem_of_getElem? h4))
    · exact (va_D_iff.mp hD).2 (q, e) (List.mem_append_right _ (List.mem_append_left _ hm))
  · exact hA q (Nat.le_trans hS.1 hq)
theorem cP_VT {cyI cyO cyL : ClassId} {A : Nat → Prop} {As : List Value} {C : String} {TT : u_T} {N b ci : Nat} {fs : List Value} (hK : KK dC dI cyI cyO cyL s) (hP : va_P (dC, dI) vwCl (L1 ++ (T ++ RR)) H) (hD : va_D A (L1 ++ (T ++ RR))) (is : List Nat) (hn : va_nd is = true) (hC : is.map (fun i => L1[i]?) = M1.map some) (q0 : Nat) (he : L1[q0]? = some (b, .inr (ci, fs))) (hc : vwCl[ci]? = some (C, TT, N)) : PreV s H C b (cP dC dI cyI cyO cyL H.size (.ref b :: As) (M1 ++ T)) As := by
  have hPM : va_P (dC, dI) vwCl (M1 ++ T) H := va_P_iff.mpr fun q hq => by
    rcases List.mem_append.mp hq with hm | hm
    · exact va_P_iff.mp (va_P_places (va_P_left hP) is hC) q hm
    · exact va_P_iff.mp hP q (List.mem_append_right _ (List.mem_append_left _ hm))
  have hDM : va_D A (M1 ++ T) := by
    have h1 := (va_D_left hD).sub is hn hC
    have hDR : va_D A (T ++ RR) := va_D_left (va_D_perm List.perm_append_comm hD)
    refine va_D.app h1 (va_D_left hDR) (fun i j x y hx hy => ?_)
    obtain ⟨j2, -, h4⟩ := va_at_places hC hx
    exact va_D_apart hD x (List.mem_of_getElem? h4) y (List.mem_append_left _ (List.mem_of_getElem? hy))
  exact ⟨cP_blind, va_recv hK.1 (va_P_left hP) hc he, fun U hU hW => ⟨rfl, by rw [hU], by rw [hU]; exact hPM, hK.warm hW, hDM.weaken (fun _ _ _ _ => trivial)⟩⟩
theorem fr_vT (hr : va_Run p l e R s m args below meth c H locs cells slots 0 0 (F0 m pc ls st0) rest (cV dC dI (M2 ++ T2) (va_A (M1 ++ T) H.size) a) (va_A (M1 ++ T) H.size)) (hP : va_P (dC, dI) vwCl (L1 ++ (T ++ RR)) H) (hD : va_D A0 (L1 ++ (T ++ RR))) (hS : va_S A0 H0 H locs) (hA : ∀ q, H0.size ≤ q → A0 q) (is : List Nat) (hC : is.map (fun i => L1[i]?) = M1.map some) (src : List (Bool × Nat)) (hL : L2.map some = src.map (pick L1 M2)) (ha : src.all (apart is) = true) (hadr : L2.map (·.1) = L1.map (·.1)) (hadT : T2.map (·.1) = T.map (·.1))
    (kk : ∀ (H1 : Heap) (locs1 : List Loc), va_P (dC, dI) vwCl (L2 ++ (T2 ++ RR)) H1 → va_D A0 (L2 ++ (T2 ++ RR)) → va_S A0 H0 H1 locs1 → W p l e R s m args below meth c H1 locs1 cells slots Q (F0 m (pc + 3) ls rest)) : W p l e R s m args below meth c H locs cells slots Q (F0 m pc ls st0) := by
  have hF := free_T hD hS hA is hC
  refine va_callv hr hS (fun q _ h => hF q h) hF (fun u t H1 locs1 ht hvm hw hB hz hk hS1 => ?_)
  subst ht
  exact kk _ _ (join_T hP hD is hC src hL ha hk hB) (ads_T hD hadr hadT) hS1
theorem fr_iT {r : Int32} (hr : va_Run p l e R s m args below meth c H locs cells slots 0 0 (F0 m pc ls st0) rest (cI dC dI r (M2 ++ T2) (va_A (M1 ++ T) H.size) a) (va_A (M1 ++ T) H.size)) (hP : va_P (dC, dI) vwCl (L1 ++ (T ++ RR)) H) (hD : va_D A0 (L1 ++ (T ++ RR))) (hS : va_S A0 H0 H locs) (hA : ∀ q, H0.size ≤ q → A0 q) (is : List Nat) (hC : is.map (fun i => L1[i]?) = M1.map some) (src : List (Bool × Nat)) (hL : L2.map some = src.map (pick L1 M2)) (ha : src.all (apart is) = true) (hadr : L2.map (·.1) = L1.map (·.1)) (hadT : T2.map (·.1) = T.map (·.1))
    (kk : ∀ (H1 : Heap) (locs1 : List Loc), va_P (dC, dI) vwCl (L2 ++ (T2 ++ RR)) H1 → va_D A0 (L2 ++ (T2 ++ RR)) → va_S A0 H0 H1 locs1 → W p l e R s m args below meth c H1 locs1 cells slots Q (F0 m (pc + 3) ls (.int r :: rest))) : W p l e R s m args below meth c H locs cells slots Q (F0 m pc ls st0) := by
  have hF := free_T hD hS hA is hC
  refine va_calli hr hS (fun q _ h => hF q h) hF (fun r1 u t H1 locs1 ht hvm hw hB hz hk hS1 => ?_)
  subst hw
  subst ht
  exact kk _ _ (join_T hP hD is hC src hL ha hk hB) (ads_T hD hadr hadT) hS1
theorem fr_vK (hr : va_Run p l e R s m args below meth c H locs cells slots 0 0 (F0 m pc ls st0) rest (cV dC dI M' (va_A M H.size) a) (va_A M H.size)) (hP : va_P (dC, dI) vwCl (L1 ++ RR) H) (hD : va_D A0 (L1 ++ RR)) (hS : va_S A0 H0 H locs) (hA : ∀ q, H0.size ≤ q → A0 q) (is : List Nat) (hC : is.map (fun i => L1[i]?) = M.map some) (src : List (Bool × Nat)) (hL : L2.map some = src.map (pick L1 M')) (ha : src.all (apart is) = true) (hadr : L2.map (·.1) = L1.map (·.1))
    (kk : ∀ (H1 : Heap) (locs1 : List Loc), va_P (dC, dI) vwCl (L2 ++ RR) H1 → va_D A0 (L2 ++ RR) → va_S A0 H0 H1 locs1 → W p l e R s m args below meth c H1 locs1 cells slots Q (F0 m (pc + 3) ls rest)) : W p l e R s m args below meth c H locs cells slots Q (F0 m pc ls st0) := by
  have h1 : M ++ ([] : va_W) = M := List.append_nil M
  have h2 : M' ++ ([] : va_W) = M' := List.append_nil M'
  rw [← h1, ← h2] at hr
  exact fr_vT (T := []) (T2 := []) (RR := RR) hr hP hD hS hA is hC src hL ha hadr rfl kk
theorem fr_iK {r : Int32} (hr : va_Run p l e R s m args below meth c H locs cells slots 0 0 (F0 m pc ls st0) rest (cI dC dI r M' (va_A M H.size) a) (va_A M H.size)) (hP : va_P (dC, dI) vwCl (L1 ++ RR) H) (hD : va_D A0 (L1 ++ RR)) (hS : va_S A0 H0 H locs) (hA : ∀ q, H0.size ≤ q → A0 q) (is : List Nat) (hC : is.map (fun i => L1[i]?) = M.map some) (src : List (Bool × Nat)) (hL : L2.map some = src.map (pick L1 M')) (ha : src.all (apart is) = true) (hadr : L2.map (·.1) = L1.map (·.1))
    (kk : ∀ (H1 : Heap) (locs1 : List Loc), va_P (dC, dI) vwCl (L2 ++ RR) H1 → va_D A0 (L2 ++ RR) → va_S A0 H0 H1 locs1 → W p l e R s m args below meth c H1 locs1 cells slots Q (F0 m (pc + 3) ls (.int r :: rest))) : W p l e R s m args below meth c H locs cells slots Q (F0 m pc ls st0) := by
  have h1 : M ++ ([] : va_W) = M := List.append_nil M
  have h2 : M' ++ ([] : va_W) = M' := List.append_nil M'
  rw [← h1, ← h2] at hr
  exact fr_iT (T := []) (T2 := []) (RR := RR) hr hP hD hS hA is hC src hL ha hadr rfl kk
theorem fr_rG {r : Nat} (hr : va_Run p l e R s m args below meth c H locs cells slots 0 0 (F0 m pc ls st0) rest (cQ dC dI (some r) M' (va_A M H.size) a) (va_A M H.size)) (hP : va_P (dC, dI) vwCl L H) (hD : va_D A0 L) (hS : va_S A0 H0 H locs) (hA : ∀ q, H0.size ≤ q → A0 q) (hL : L.Perm (M ++ F)) (hL' : L'.Perm (M' ++ F)) (hadr : M'.map (·.1) = M.map (·.1))
    (kk : ∀ (H1 : Heap) (locs1 : List Loc), va_P (dC, dI) vwCl L' H1 → va_D A0 L' → va_S A0 H0 H1 locs1 → W p l e R s m args below meth c H1 locs1 cells slots Q (F0 m (pc + 3) ls (.ref r :: rest))) : W p l e R s m args below meth c H locs cells slots Q (F0 m pc ls st0) := fr_qG hr hP hD hS hA hL hL' hadr kk
end FRK
theorem hvW_ads {cy : ClassId} {had : Nat → Nat → Nat} {hv hv' : Nat → HV} : (hvW cy had hv').map (·.1) = (hvW cy had hv).map (·.1) := by
  simp only [hvW, List.map_flatMap]
  rfl
def histW (cyO : ClassId) (j0 j1 : Nat) (had : Nat → Nat → Nat) (spare kept : Int32) : va_W := [(j0, .inr (0, [.ref j1, .int spare, .int kept])), (j1, .inl (cyO, (7, .inr (.inr (.inr (.inr (fun i => if i < 7 then some (had i 0) else none)))))))]
def mainW (cy cyO : ClassId) (g0 h0 t0 t1 t2 t3 t4 t5 t6 t7 t8 w0 w1 w2 w3 w4 w5 w6 w7 w8 w9 w10 o0 o1 o2 o3 o4 p0 p1 p2 j0 j1 s0 : Nat) (had : Nat → Nat → Nat) (mostWear : Int32) (keys : Int32) (boxes : Int32) (liveKeys : Int32) (liveBoxes : Int32) (parents : Nat → Int32) (makes : Nat → Int32) (wears : Nat → Int32) (keysOfBoxes : Nat → Int32) (number : Int32) (heldKeys : Nat → Int32) (heldWhats : Nat → Int32) (closers : Nat → Int32) (closerMakes : Nat → Int32) (stands : Nat → Int32) (startMakes : Nat → Int32) (opened : Nat → Int32) (signs : Nat → Int32) (length : Int32) (next : Int32) (letter : Int32) (target : Int32) (place : Int32) (spare : Int32) (kept : Int32) (sl : Nat → Option Nat) : va_W := [(g0, .inr (7, [.ref h0, .ref o0, .ref p0, .ref j0, .ref s0])), (h0, .inr (1, [.ref t0, .ref w0])), (t0, .inr (5, [.int mostWear, .int keys, .int boxes, .int liveKeys, .int liveBoxes, .ref t1, .ref t3, .ref t5, .ref t7])), (t1, .inr (4, [.ref t2])), (t2, .inl (cy, (20, .inl parents))), (t3, .inr (4, [.ref t4])), (t4, .inl (cy, (20, .inl makes))), (t5, .inr (4, [.ref t6])), (t6, .inl (cy, (20, .inl wears))), (t7, .inr (4, [.ref t8])), (t8, .inl (cy, (20, .inl keysOfBoxes))), (w0, .inr (6, [.int number, .ref w1, .ref w3, .ref w5, .ref w7, .ref w9])), (w1, .inr (4, [.ref w2])), (w2, .inl (cy, (120, .inl heldKeys))), (w3, .inr (4, [.ref w4])), (w4, .inl (cy, (120, .inl heldWhats))), (w5, .inr (4, [.ref w6])), (w6, .inl (cy, (120, .inl closers))), (w7, .inr (4, [.ref w8])), (w8, .inl (cy, (120, .inl closerMakes))), (w9, .inr (4, [.ref w10])), (w10, .inl (cy, (120, .inl stands))), (o0, .inr (2, [.ref o1, .ref o3])), (o1, .inr (4, [.ref o2])), (o2, .inl (cy, (20, .inl startMakes))), (o3, .inr (4, [.ref o4])), (o4, .inl (cy, (120, .inl opened))), (p0, .inr (3, [.ref p1, .int length, .int next, .int letter, .int target, .int place])), (p1, .inr (4, [.ref p2])), (p2, .inl (cy, (60, .inl signs))), (j0, .inr (0, [.ref j1, .int spare, .int kept])), (j1, .inl (cyO, (7, .inr (.inr (.inr (.inr (fun i => if i < 7 then some (had i 0) else none))))))), (s0, .inl (cyO, (2, .inr (.inr (.inr (.inr sl))))))]

noncomputable def fX0_settle (spare : Int32) (kept : Int32) (x1 : Int32) : Option (Int32 × Int32 × Int32) :=
  (if x1 < 0 then (some (x1, spare, kept)) else (if spare < 6 then (some (x1, (spare + 1), (if 6 < (kept + 1) then 6 else (kept + 1)))) else (some (x1, 0, (if 6 < (kept + 1) then 6 else (kept + 1))))))
set_option maxHeartbeats 1000000 in
set_option maxRecDepth 100000 in
theorem mX0_settle (l : Launch) (dC : Nat → ClassId) (dI : Nat → Nat → Nat) (cyI cyO cyL : ClassId) (j0 j1 : Nat) (had : Nat → Nat → Nat) (spare : Int32) (kept : Int32) (x1 : Int32) (sz : Nat) (res : Int32 × Int32 × Int32) (h : fX0_settle spare kept x1 = some res) : Met l yX0_settle (wsG yX0_settle cX0_settle 2 (some .int)) ({ frames := 1, cells := 0, slots := 0, locals := 21 }) (cP dC dI cyI cyO cyL sz [.ref j0, .int x1] (histW cyO j0 j1 had spare kept)) (cI dC dI res.1 (histW cyO j0 j1 had res.2.1 res.2.2) (va_A (histW cyO j0 j1 had spare kept) sz)) 0 0 (va_A (histW cyO j0 j1 had spare kept) sz) := by
  refine Met.ofW (cc := cX0_settle) (maxL := 2) (ret := (some .int)) (by decide) rfl ?_
  intro p e s m args below meth c s₁ B hml hv
  obtain ⟨rfl, hsz, hP, hK, hD0⟩ := hv
  have hx := B.exec
  have hb := B.bytes
  have hr := B.returns
  have hts := atoms_spec (ws := wsG yX0_settle cX0_settle 2 (some .int)) B.pre
  have hown : s.vm.findClass RX0 = some m.cls := findClass_of_methodNamed B.named
  have hlocks := B.notSynchronized
  subst hsz
  have hD := hD0.self (sz := s.heap.size)
  generalize hAe : va_A (histW cyO j0 j1 had spare kept) s.heap.size = A at hD ⊢
  have hA : ∀ q : Nat, s.heap.size ≤ q → A q := fun q h => by rw [← hAe]; exact Or.inr h
  have hS : va_S A s.heap s.heap [] := va_S.rf
  have hl := lv_entry ([.ref j0, .int x1]) (n := 2) (Nat.le_of_ble_eq_true rfl)
  rw [lg_entry_eq]
  generalize (lg_sl ([.ref j0, .int x1]) ++ List.replicate (2 - (lg_sl ([.ref j0, .int x1])).length) Slot.unset).toArray = ls at hl ⊢
  have hl : lv_has ls 2 [(0, .ref j0), (1, .int x1)] := hl
  unfold fX0_settle at h
  refine lv_iload_n hx hb dX0_settle_0 rfl (lv_at hl 1 rfl) ?_
  refine lv_if_lt (tgt := 42) hx hb dX0_settle_1 (by decide) (fun c1 => ?_) (fun c1 => ?_)
  · have h := (if_pos c1).symm.trans h
    refine lv_iload_n hx hb dX0_settle_42 rfl (lv_at hl 1 rfl) ?_
    obtain rfl := Option.some.inj h
    exact e_i hx hb hr hlocks hP hS dX0_settle_43
  · have h := (if_neg c1).symm.trans h
    refine lv_aload_n hx hb dX0_settle_4 rfl (lv_at hl 0 rfl) ?_
    refine lv_aload_n hx hb dX0_settle_5 rfl (lv_at hl 0 rfl) ?_
    refine va_get (D := (dC, dI)) (ci := 0) (v := .int spare) (C := RX0) (T := TX0) (N := 3) hx hb hts (fun w h9 => gb_mem (lay_X0 w h9)) hown hK.1 hP 0 rfl rfl 1 (by decide) (hts _ (gb_mem fl_X0_17)) (fun _ h9 => h9) rfl dX0_settle_6 ?_
    refine lv_bipush (v := 6) hx hb dX0_settle_9 (by decide) ?_
    refine lv_icmp_lt (tgt := 18) hx hb dX0_settle_11 (by decide) (fun c2 => ?_) (fun c2 => ?_)
    · have h := (if_pos c2).symm.trans h
      refine lv_aload_n hx hb dX0_settle_18 rfl (lv_at hl 0 rfl) ?_
      refine va_get (D := (dC, dI)) (ci := 0) (v := .int spare) (C := RX0) (T := TX0) (N := 3) hx hb hts (fun w h9 => gb_mem (lay_X0 w h9)) hown hK.1 hP 0 rfl rfl 1 (by decide) (hts _ (gb_mem fl_X0_17)) (fun _ h9 => h9) rfl dX0_settle_19 ?_
      refine lv_iconst (v := 1) hx hb dX0_settle_22 (by decide) ?_
      refine lv_iadd hx hb dX0_settle_23 ?_
      refine va_put (D := (dC, dI)) (ci := 0) (v := .int (spare + 1)) (ty := .int) (C := RX0) (T := TX0) (N := 3) hx hb hts (fun w h9 => gb_mem (lay_X0 w h9)) tyX0 tyX0_ok nmX0 hown hK.1 hP hD hS 0 rfl rfl 1 (by decide) (hts _ (gb_mem fl_X0_17)) (fun _ h9 => h9) rfl (by decide +kernel) rfl rfl (Nat.le_of_ble_eq_true rfl) dX0_settle_24 (fun H locs hP hD hS => ?_)
      have hP : va_P (dC, dI) vwCl (histW cyO j0 j1 had (spare + 1) kept) H := hP
      have hD : va_D A (histW cyO j0 j1 had (spare + 1) kept) := hD
      refine lv_aload_n hx hb dX0_settle_27 rfl (lv_at hl 0 rfl) ?_
      refine lv_aload_n hx hb dX0_settle_28 rfl (lv_at hl 0 rfl) ?_
      refine va_get (D := (dC, dI)) (ci := 0) (v := .int kept) (C := RX0) (T := TX0) (N := 3) hx hb hts (fun w h9 => gb_mem (lay_X0 w h9)) hown hK.1 hP 0 rfl rfl 2 (by decide) (hts _ (gb_mem fl_X0_21)) (fun _ h9 => h9) rfl dX0_settle_29 ?_
      refine lv_iconst (v := 1) hx hb dX0_settle_32 (by decide) ?_
      refine lv_iadd hx hb dX0_settle_33 ?_
      refine lv_bipush (v := 6) hx hb dX0_settle_34 (by decide) ?_
      refine va_mmin hx hb (by rw [hml]; exact hl.1.symm) hown (hts _ (gb_mem ml_X0_33)) (hts _ (gb_mem st_J9_min_7cf53)) (hts _ (gb_mem in_J9)) (hts _ (gb_mem co_J9_min_7cf53)) (Nat.le_of_ble_eq_true rfl) (Nat.le_of_ble_eq_true rfl) (Nat.zero_le _) (Nat.zero_le _) dX0_settle_36 ?_
      refine va_put (D := (dC, dI)) (ci := 0) (v := .int (if 6 < (kept + 1) then 6 else (kept + 1))) (ty := .int) (C := RX0) (T := TX0) (N := 3) hx hb hts (fun w h9 => gb_mem (lay_X0 w h9)) tyX0 tyX0_ok nmX0 hown hK.1 hP hD hS 0 rfl rfl 2 (by decide) (hts _ (gb_mem fl_X0_21)) (fun _ h9 => h9) rfl (by decide +kernel) rfl rfl (Nat.le_of_ble_eq_true rfl) dX0_settle_39 (fun H locs hP hD hS => ?_)
      have hP : va_P (dC, dI) vwCl (histW cyO j0 j1 had (spare + 1) (if 6 < (kept + 1) then 6 else (kept + 1))) H := hP
      have hD : va_D A (histW cyO j0 j1 had (spare + 1) (if 6 < (kept + 1) then 6 else (kept + 1))) := hD
      refine lv_iload_n hx hb dX0_settle_42 rfl (lv_at hl 1 rfl) ?_
      obtain rfl := Option.some.inj h
      exact e_i hx hb hr hlocks hP hS dX0_settle_43
    · have h := (if_neg c2).symm.trans h
      refine lv_iconst (v := 0) hx hb dX0_settle_14 (by decide) ?_
      refine lv_goto (tgt := 24) hx hb dX0_settle_15 (by decide) ?_
      refine va_put (D := (dC, dI)) (ci := 0) (v := .int 0) (ty := .int) (C := RX0) (T := TX0) (N := 3) hx hb hts (fun w h9 => gb_mem (lay_X0 w h9)) tyX0 tyX0_ok nmX0 hown hK.1 hP hD hS 0 rfl rfl 1 (by decide) (hts _ (gb_mem fl_X0_17)) (fun _ h9 => h9) rfl (by decide +kernel) rfl rfl (Nat.le_of_ble_eq_true rfl) dX0_settle_24 (fun H locs hP hD hS => ?_)
      have hP : va_P (dC, dI) vwCl (histW cyO j0 j1 had 0 kept) H := hP
      have hD : va_D A (histW cyO j0 j1 had 0 kept) := hD
      refine lv_aload_n hx hb dX0_settle_27 rfl (lv_at hl 0 rfl) ?_
      refine lv_aload_n hx hb dX0_settle_28 rfl (lv_at hl 0 rfl) ?_
      refine va_get (D := (dC, dI)) (ci := 0) (v := .int kept) (C := RX0) (T := TX0) (N := 3) hx hb hts (fun w h9 => gb_mem (lay_X0 w h9)) hown hK.1 hP 0 rfl rfl 2 (by decide) (hts _ (gb_mem fl_X0_21)) (fun _ h9 => h9) rfl dX0_settle_29 ?_
      refine lv_iconst (v := 1) hx hb dX0_settle_32 (by decide) ?_
      refine lv_iadd hx hb dX0_settle_33 ?_
      refine lv_bipush (v := 6) hx hb dX0_settle_34 (by decide) ?_
      refine va_mmin hx hb (by rw [hml]; exact hl.1.symm) hown (hts _ (gb_mem ml_X0_33)) (hts _ (gb_mem st_J9_min_7cf53)) (hts _ (gb_mem in_J9)) (hts _ (gb_mem co_J9_min_7cf53)) (Nat.le_of_ble_eq_true rfl) (Nat.le_of_ble_eq_true rfl) (Nat.zero_le _) (Nat.zero_le _) dX0_settle_36 ?_
      refine va_put (D := (dC, dI)) (ci := 0) (v := .int (if 6 < (kept + 1) then 6 else (kept + 1))) (ty := .int) (C := RX0) (T := TX0) (N := 3) hx hb hts (fun w h9 => gb_mem (lay_X0 w h9)) tyX0 tyX0_ok nmX0 hown hK.1 hP hD hS 0 rfl rfl 2 (by decide) (hts _ (gb_mem fl_X0_21)) (fun _ h9 => h9) rfl (by decide +kernel) rfl rfl (Nat.le_of_ble_eq_true rfl) dX0_settle_39 (fun H locs hP hD hS => ?_)
      have hP : va_P (dC, dI) vwCl (histW cyO j0 j1 had 0 (if 6 < (kept + 1) then 6 else (kept + 1))) H := hP
      have hD : va_D A (histW cyO j0 j1 had 0 (if 6 < (kept + 1) then 6 else (kept + 1))) := hD
      refine lv_iload_n hx hb dX0_settle_42 rfl (lv_at hl 1 rfl) ?_
      obtain rfl := Option.some.inj h
      exact e_i hx hb hr hlocks hP hS dX0_settle_43
set_option maxHeartbeats 1000000 in
theorem mX0_stateAt (l : Launch) (dC : Nat → ClassId) (dI : Nat → Nat → Nat) (cyI cyO cyL : ClassId) (j0 j1 : Nat) (had : Nat → Nat → Nat) (spare kept x1 : Int32) (sz : Nat) (hn : ¬ (x1 < 0 ∨ 7 ≤ x1.toNatClampNeg)) : Met l yX0_stateAt (wsG yX0_stateAt cX0_stateAt 2 (some (.object "HangingKeys$House"))) ({ frames := 0, cells := 0, slots := 0, locals := 0 }) (cP dC dI cyI cyO cyL sz [.ref j0, .int x1] (histW cyO j0 j1 had spare kept)) (cQ dC dI (some (had x1.toNatClampNeg 0)) (histW cyO j0 j1 had spare kept) (va_A (histW cyO j0 j1 had spare kept) sz)) 0 0 (va_A (histW cyO j0 j1 had spare kept) sz) := by
  refine Met.ofW (cc := cX0_stateAt) (maxL := 2) (ret := (some (.object "HangingKeys$House"))) (by decide) rfl ?_
  intro p e s m args below meth c s₁ B hml hv0
  obtain ⟨rfl, hsz, hP, hK, hD0⟩ := hv0
  have hx := B.exec
  have hb := B.bytes
  have hr := B.returns
  have hts := atoms_spec (ws := wsG yX0_stateAt cX0_stateAt 2 (some (.object "HangingKeys$House"))) B.pre
  have hown : s.vm.findClass RX0 = some m.cls := findClass_of_methodNamed B.named
  have hlocks := B.notSynchronized
  subst hsz
  have hD := hD0.self (sz := s.heap.size)
  generalize hAe : va_A (histW cyO j0 j1 had spare kept) s.heap.size = A at hD ⊢
  have hA : ∀ q : Nat, s.heap.size ≤ q → A q := fun q h => by rw [← hAe]; exact Or.inr h
  have hS : va_S A s.heap s.heap [] := va_S.rf
  have hl := lv_entry ([.ref j0, .int x1]) (n := 2) (Nat.le_of_ble_eq_true rfl)
  rw [lg_entry_eq]
  generalize (lg_sl ([.ref j0, .int x1]) ++ List.replicate (2 - (lg_sl ([.ref j0, .int x1])).length) Slot.unset).toArray = ls at hl ⊢
  have hl : lv_has ls 2 [(0, .ref j0), (1, .int x1)] := hl
  have hge : ¬ nI 7 ≤ x1 := by
    intro h
    obtain ⟨j, hj, rfl⟩ := nI_of (fun q => hn (Or.inl q))
    rw [nI_leI (by omega) hj] at h
    exact hn (Or.inr (by rw [nI_clamp hj]; exact h))
  refine lv_iload_n hx hb dX0_stateAt_0 rfl (lv_at hl 1 rfl) ?_
  refine lv_if_lt (tgt := 22) hx hb dX0_stateAt_1 (by decide) (fun c1 => absurd (Or.inl c1) hn) (fun c1 => ?_)
  refine lv_iload_n hx hb dX0_stateAt_4 rfl (lv_at hl 1 rfl) ?_
  refine lv_aload_n hx hb dX0_stateAt_5 rfl (lv_at hl 0 rfl) ?_
  refine va_get (D := (dC, dI)) (ci := 0) (v := .ref j1) (C := RX0) (T := TX0) (N := 3) hx hb hts (fun w h9 => gb_mem (lay_X0 w h9)) hown hK.1 hP 0 rfl rfl 0 (by decide) (hts _ (gb_mem fl_X0_11)) (fun _ h9 => h9) rfl dX0_stateAt_6 ?_
  refine va_alen (v := nI 7) hx hb hK.1 hP 1 1 rfl rfl rfl dX0_stateAt_9 ?_
  refine lv_icmp_ge (tgt := 22) hx hb dX0_stateAt_10 (by decide) (fun c2 => absurd c2 hge) (fun c2 => ?_)
  refine lv_aload_n hx hb dX0_stateAt_13 rfl (lv_at hl 0 rfl) ?_
  refine va_get (D := (dC, dI)) (ci := 0) (v := .ref j1) (C := RX0) (T := TX0) (N := 3) hx hb hts (fun w h9 => gb_mem (lay_X0 w h9)) hown hK.1 hP 0 rfl rfl 0 (by decide) (hts _ (gb_mem fl_X0_11)) (fun _ h9 => h9) rfl dX0_stateAt_14 ?_
  refine lv_iload_n hx hb dX0_stateAt_17 rfl (lv_at hl 1 rfl) ?_
  have hf : (if x1.toNatClampNeg < 7 then some (had x1.toNatClampNeg 0) else none) = some (had x1.toNatClampNeg 0) := if_pos (by omega)
  refine va_aldq (C := "HangingKeys$House") hx hb hK.1 hP 1 1 rfl rfl hn dX0_stateAt_18 ?_
  rw [hf]
  refine lv_goto (tgt := 23) hx hb dX0_stateAt_19 (by decide) ?_
  exact e_q hx hb hr hlocks hP hS dX0_stateAt_23
noncomputable def fX0_noteBefore (mostWear : Int32) (keys : Int32) (boxes : Int32) (liveKeys : Int32) (liveBoxes : Int32) (parents : Nat → Int32) (makes : Nat → Int32) (wears : Nat → Int32) (keysOfBoxes : Nat → Int32) (number : Int32) (heldKeys : Nat → Int32) (heldWhats : Nat → Int32) (closers : Nat → Int32) (closerMakes : Nat → Int32) (stands : Nat → Int32) (spare : Int32) (hv : Nat → HV) : Option (Nat → HV) :=
  if spare < 0 ∨ 7 ≤ spare.toNatClampNeg then none else (fX1_become ((hv spare.toNatClampNeg).1) ((hv spare.toNatClampNeg).2.1) ((hv spare.toNatClampNeg).2.2.1) ((hv spare.toNatClampNeg).2.2.2.1) ((hv spare.toNatClampNeg).2.2.2.2.1) ((hv spare.toNatClampNeg).2.2.2.2.2.1) ((hv spare.toNatClampNeg).2.2.2.2.2.2.1) ((hv spare.toNatClampNeg).2.2.2.2.2.2.2.1) ((hv spare.toNatClampNeg).2.2.2.2.2.2.2.2.1) ((hv spare.toNatClampNeg).2.2.2.2.2.2.2.2.2.1) ((hv spare.toNatClampNeg).2.2.2.2.2.2.2.2.2.2.1) ((hv spare.toNatClampNeg).2.2.2.2.2.2.2.2.2.2.2.1) ((hv spare.toNatClampNeg).2.2.2.2.2.2.2.2.2.2.2.2.1) ((hv spare.toNatClampNeg).2.2.2.2.2.2.2.2.2.2.2.2.2.1) ((hv spare.toNatClampNeg).2.2.2.2.2.2.2.2.2.2.2.2.2.2) mostWear keys boxes liveKeys liveBoxes parents makes wears keysOfBoxes number heldKeys heldWhats closers closerMakes stands).bind fun q => some (va_up hv spare.toNatClampNeg q)
set_option maxHeartbeats 1000000 in
theorem mX0_noteBefore (l : Launch) (dC : Nat → ClassId) (dI : Nat → Nat → Nat) (cyI cyO cyL : ClassId) (h0 t0 t1 t2 t3 t4 t5 t6 t7 t8 w0 w1 w2 w3 w4 w5 w6 w7 w8 w9 w10 j0 j1 : Nat) (had : Nat → Nat → Nat) (mostWear : Int32) (keys : Int32) (boxes : Int32) (liveKeys : Int32) (liveBoxes : Int32) (parents : Nat → Int32) (makes : Nat → Int32) (wears : Nat → Int32) (keysOfBoxes : Nat → Int32) (number : Int32) (heldKeys : Nat → Int32) (heldWhats : Nat → Int32) (closers : Nat → Int32) (closerMakes : Nat → Int32) (stands : Nat → Int32) (spare kept : Int32) (hv : Nat → HV) (sz : Nat) (res : Nat → HV) (h : fX0_noteBefore mostWear keys boxes liveKeys liveBoxes parents makes wears keysOfBoxes number heldKeys heldWhats closers closerMakes stands spare hv = some res) : Met l yX0_noteBefore (wsG yX0_noteBefore cX0_noteBefore 3 none) ({ frames := 4, cells := 0, slots := 0, locals := 103 }) (cP dC dI cyI cyO cyL sz [.ref j0, .ref h0] (((houseW cyI h0 t0 t1 t2 t3 t4 t5 t6 t7 t8 w0 w1 w2 w3 w4 w5 w6 w7 w8 w9 w10 mostWear keys boxes liveKeys liveBoxes parents makes wears keysOfBoxes number heldKeys heldWhats closers closerMakes stands) ++ (histW cyO j0 j1 had spare kept)) ++ hvW cyI had hv)) (cV dC dI (((houseW cyI h0 t0 t1 t2 t3 t4 t5 t6 t7 t8 w0 w1 w2 w3 w4 w5 w6 w7 w8 w9 w10 mostWear keys boxes liveKeys liveBoxes parents makes wears keysOfBoxes number heldKeys heldWhats closers closerMakes stands) ++ (histW cyO j0 j1 had spare kept)) ++ hvW cyI had res) (va_A (((houseW cyI h0 t0 t1 t2 t3 t4 t5 t6 t7 t8 w0 w1 w2 w3 w4 w5 w6 w7 w8 w9 w10 mostWear keys boxes liveKeys liveBoxes parents makes wears keysOfBoxes number heldKeys heldWhats closers closerMakes stands) ++ (histW cyO j0 j1 had spare kept)) ++ hvW cyI had hv) sz)) 0 0 (va_A (((houseW cyI h0 t0 t1 t2 t3 t4 t5 t6 t7 t8 w0 w1 w2 w3 w4 w5 w6 w7 w8 w9 w10 mostWear keys boxes liveKeys liveBoxes parents makes wears keysOfBoxes number heldKeys heldWhats closers closerMakes stands) ++ (histW cyO j0 j1 had spare kept)) ++ hvW cyI had hv) sz) := by
  unfold fX0_noteBefore at h
  obtain ⟨hn, h⟩ := ifn h
  obtain ⟨q, e1, h⟩ := ob h
  obtain rfl := Option.some.inj h
  have hk : spare.toNatClampNeg < 7 := by omega
  refine Met.ofW (cc := cX0_noteBefore) (maxL := 3) (ret := none) (by decide) rfl ?_
  intro p e s m args below meth c s₁ B hml hv0
  obtain ⟨rfl, hsz, hP, hK, hD0⟩ := hv0
  have hx := B.exec
  have hb := B.bytes
  have hr := B.returns
  have hts := atoms_spec (ws := wsG yX0_noteBefore cX0_noteBefore 3 none) B.pre
  have hown : s.vm.findClass RX0 = some m.cls := findClass_of_methodNamed B.named
  have hlocks := B.notSynchronized
  subst hsz
  have hD := hD0.self (sz := s.heap.size)
  generalize hAe : va_A (((houseW cyI h0 t0 t1 t2 t3 t4 t5 t6 t7 t8 w0 w1 w2 w3 w4 w5 w6 w7 w8 w9 w10 mostWear keys boxes liveKeys liveBoxes parents makes wears keysOfBoxes number heldKeys heldWhats closers closerMakes stands) ++ (histW cyO j0 j1 had spare kept)) ++ hvW cyI had hv) s.heap.size = A at hD ⊢
  have hA : ∀ q : Nat, s.heap.size ≤ q → A q := fun q h => by rw [← hAe]; exact Or.inr h
  have hS : va_S A s.heap s.heap [] := va_S.rf
  have hl := lv_entry ([.ref j0, .ref h0]) (n := 3) (Nat.le_of_ble_eq_true rfl)
  rw [lg_entry_eq]
  generalize (lg_sl ([.ref j0, .ref h0]) ++ List.replicate (3 - (lg_sl ([.ref j0, .ref h0])).length) Slot.unset).toArray = ls at hl ⊢
  have hl : lv_has ls 3 [(0, .ref j0), (1, .ref h0)] := hl
  refine lv_aload_n hx hb dX0_noteBefore_0 rfl (lv_at hl 0 rfl) ?_
  refine lv_aload_n hx hb dX0_noteBefore_1 rfl (lv_at hl 0 rfl) ?_
  refine va_get (D := (dC, dI)) (ci := 0) (v := .int spare) (C := RX0) (T := TX0) (N := 3) hx hb hts (fun w h9 => gb_mem (lay_X0 w h9)) hown hK.1 hP 21 rfl rfl 1 (by decide) (hts _ (gb_mem fl_X0_17)) (fun _ h9 => h9) rfl dX0_noteBefore_2 ?_
  have hL0 : (((houseW cyI h0 t0 t1 t2 t3 t4 t5 t6 t7 t8 w0 w1 w2 w3 w4 w5 w6 w7 w8 w9 w10 mostWear keys boxes liveKeys liveBoxes parents makes wears keysOfBoxes number heldKeys heldWhats closers closerMakes stands) ++ (histW cyO j0 j1 had spare kept)) ++ hvW cyI had hv).Perm ((histW cyO j0 j1 had spare kept) ++ ((houseW cyI h0 t0 t1 t2 t3 t4 t5 t6 t7 t8 w0 w1 w2 w3 w4 w5 w6 w7 w8 w9 w10 mostWear keys boxes liveKeys liveBoxes parents makes wears keysOfBoxes number heldKeys heldWhats closers closerMakes stands) ++ hvW cyI had hv)) := by
    rw [← List.append_assoc]
    exact List.Perm.append_right _ List.perm_append_comm
  refine fr_rG (M := (histW cyO j0 j1 had spare kept)) (M' := (histW cyO j0 j1 had spare kept)) (F := (houseW cyI h0 t0 t1 t2 t3 t4 t5 t6 t7 t8 w0 w1 w2 w3 w4 w5 w6 w7 w8 w9 w10 mostWear keys boxes liveKeys liveBoxes parents makes wears keysOfBoxes number heldKeys heldWhats closers closerMakes stands) ++ hvW cyI had hv) (L' := ((houseW cyI h0 t0 t1 t2 t3 t4 t5 t6 t7 t8 w0 w1 w2 w3 w4 w5 w6 w7 w8 w9 w10 mostWear keys boxes liveKeys liveBoxes parents makes wears keysOfBoxes number heldKeys heldWhats closers closerMakes stands) ++ (histW cyO j0 j1 had spare kept)) ++ hvW cyI had hv) (va_runV (As := [.int spare]) (rest := []) ⟨hx, hb, hml, hown, hts⟩ (mX0_stateAt l dC dI cyI cyO cyL j0 j1 had spare kept spare _ hn) (cwV 1 hts (gV ml_X0_25 im_X0_stateAt se_X0_stateAt in_X0 co_X0_stateAt) rfl rfl rfl (by decide +kernel) ⟨Nat.le_of_ble_eq_true rfl, Nat.le_of_ble_eq_true rfl⟩) (cP_VG hK hP hD hL0 0 rfl rfl) rfl rfl hl.1 rfl (lv_room (Nat.le_of_ble_eq_true rfl)) dX0_noteBefore_5 ⟨Nat.zero_le _, Nat.zero_le _⟩) hP hD hS hA hL0 hL0 rfl (fun H locs hP hD hS => ?_)
  refine lv_astore_n (lv' := [(2, .ref (had spare.toNatClampNeg 0)), (0, .ref j0), (1, .ref h0)]) hx hb dX0_noteBefore_8 rfl hl (by decide) rfl (fun ls hl => ?_)
  refine lv_aload_n hx hb dX0_noteBefore_9 rfl (lv_at hl 0 rfl) ?_
  refine lv_ifnull hx hb dX0_noteBefore_10 ?_
  refine lv_aload_n hx hb dX0_noteBefore_13 rfl (lv_at hl 0 rfl) ?_
  refine lv_aload_n hx hb dX0_noteBefore_14 rfl (lv_at hl 2 rfl) ?_
  have hL1 : (((houseW cyI h0 t0 t1 t2 t3 t4 t5 t6 t7 t8 w0 w1 w2 w3 w4 w5 w6 w7 w8 w9 w10 mostWear keys boxes liveKeys liveBoxes parents makes wears keysOfBoxes number heldKeys heldWhats closers closerMakes stands) ++ (histW cyO j0 j1 had spare kept)) ++ hvW cyI had hv).Perm ((houseV cyI (had spare.toNatClampNeg) (hv spare.toNatClampNeg) ++ (houseW cyI h0 t0 t1 t2 t3 t4 t5 t6 t7 t8 w0 w1 w2 w3 w4 w5 w6 w7 w8 w9 w10 mostWear keys boxes liveKeys liveBoxes parents makes wears keysOfBoxes number heldKeys heldWhats closers closerMakes stands)) ++ ((histW cyO j0 j1 had spare kept) ++ hvR cyI had hv spare.toNatClampNeg)) := by
    refine (List.Perm.append_left _ (hv_perm hk)).trans ?_
    exact (List.Perm.append_right _ List.perm_append_comm).trans perm4
  have hL2 : (((houseW cyI h0 t0 t1 t2 t3 t4 t5 t6 t7 t8 w0 w1 w2 w3 w4 w5 w6 w7 w8 w9 w10 mostWear keys boxes liveKeys liveBoxes parents makes wears keysOfBoxes number heldKeys heldWhats closers closerMakes stands) ++ (histW cyO j0 j1 had spare kept)) ++ hvW cyI had (va_up hv spare.toNatClampNeg q)).Perm ((houseV cyI (had spare.toNatClampNeg) q ++ (houseW cyI h0 t0 t1 t2 t3 t4 t5 t6 t7 t8 w0 w1 w2 w3 w4 w5 w6 w7 w8 w9 w10 mostWear keys boxes liveKeys liveBoxes parents makes wears keysOfBoxes number heldKeys heldWhats closers closerMakes stands)) ++ ((histW cyO j0 j1 had spare kept) ++ hvR cyI had hv spare.toNatClampNeg)) := by
    refine (List.Perm.append_left _ (hv_perm_up hk)).trans ?_
    exact (List.Perm.append_right _ List.perm_append_comm).trans perm4
  refine fr_vG (M := houseV cyI (had spare.toNatClampNeg) (hv spare.toNatClampNeg) ++ (houseW cyI h0 t0 t1 t2 t3 t4 t5 t6 t7 t8 w0 w1 w2 w3 w4 w5 w6 w7 w8 w9 w10 mostWear keys boxes liveKeys liveBoxes parents makes wears keysOfBoxes number heldKeys heldWhats closers closerMakes stands)) (M' := houseV cyI (had spare.toNatClampNeg) q ++ (houseW cyI h0 t0 t1 t2 t3 t4 t5 t6 t7 t8 w0 w1 w2 w3 w4 w5 w6 w7 w8 w9 w10 mostWear keys boxes liveKeys liveBoxes parents makes wears keysOfBoxes number heldKeys heldWhats closers closerMakes stands)) (L' := ((houseW cyI h0 t0 t1 t2 t3 t4 t5 t6 t7 t8 w0 w1 w2 w3 w4 w5 w6 w7 w8 w9 w10 mostWear keys boxes liveKeys liveBoxes parents makes wears keysOfBoxes number heldKeys heldWhats closers closerMakes stands) ++ (histW cyO j0 j1 had spare kept)) ++ hvW cyI had (va_up hv spare.toNatClampNeg q)) (va_runV (As := [.ref h0]) (rest := []) ⟨hx, hb, hml, hown, hts⟩ (mX1_become l dC dI cyI cyO cyL (had spare.toNatClampNeg 0) (had spare.toNatClampNeg 1) (had spare.toNatClampNeg 2) (had spare.toNatClampNeg 3) (had spare.toNatClampNeg 4) (had spare.toNatClampNeg 5) (had spare.toNatClampNeg 6) (had spare.toNatClampNeg 7) (had spare.toNatClampNeg 8) (had spare.toNatClampNeg 9) (had spare.toNatClampNeg 10) (had spare.toNatClampNeg 11) (had spare.toNatClampNeg 12) (had spare.toNatClampNeg 13) (had spare.toNatClampNeg 14) (had spare.toNatClampNeg 15) (had spare.toNatClampNeg 16) (had spare.toNatClampNeg 17) (had spare.toNatClampNeg 18) (had spare.toNatClampNeg 19) (had spare.toNatClampNeg 20) h0 t0 t1 t2 t3 t4 t5 t6 t7 t8 w0 w1 w2 w3 w4 w5 w6 w7 w8 w9 w10 ((hv spare.toNatClampNeg).1) ((hv spare.toNatClampNeg).2.1) ((hv spare.toNatClampNeg).2.2.1) ((hv spare.toNatClampNeg).2.2.2.1) ((hv spare.toNatClampNeg).2.2.2.2.1) ((hv spare.toNatClampNeg).2.2.2.2.2.1) ((hv spare.toNatClampNeg).2.2.2.2.2.2.1) ((hv spare.toNatClampNeg).2.2.2.2.2.2.2.1) ((hv spare.toNatClampNeg).2.2.2.2.2.2.2.2.1) ((hv spare.toNatClampNeg).2.2.2.2.2.2.2.2.2.1) ((hv spare.toNatClampNeg).2.2.2.2.2.2.2.2.2.2.1) ((hv spare.toNatClampNeg).2.2.2.2.2.2.2.2.2.2.2.1) ((hv spare.toNatClampNeg).2.2.2.2.2.2.2.2.2.2.2.2.1) ((hv spare.toNatClampNeg).2.2.2.2.2.2.2.2.2.2.2.2.2.1) ((hv spare.toNatClampNeg).2.2.2.2.2.2.2.2.2.2.2.2.2.2) mostWear keys boxes liveKeys liveBoxes parents makes wears keysOfBoxes number heldKeys heldWhats closers closerMakes stands _ q e1) (cwV 1 hts (gV ml_X0_29 im_X1_become se_X1_become in_X1 co_X1_become) rfl rfl rfl (by decide +kernel) ⟨Nat.le_of_ble_eq_true rfl, Nat.le_of_ble_eq_true rfl⟩) (cP_VG hK hP hD hL1 0 rfl rfl) rfl rfl hl.1 rfl (lv_room (Nat.le_of_ble_eq_true rfl)) dX0_noteBefore_15 ⟨Nat.zero_le _, Nat.zero_le _⟩) hP hD hS hA hL1 hL2 rfl (fun H locs hP hD hS => ?_)
  exact e_v hx hb hr hlocks hP hS dX0_noteBefore_18
