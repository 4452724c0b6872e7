/-! the law: words at its own level; a cell of the script -/
theorem gWL {y : MethodName} {b : ByteArray} {n : Nat} {r : Option FieldType} (hc : Cond.code y b n r ∈ GB) : GoodIn lw_tbl (wsG y b n r) := by
  intro w hw
  rcases List.mem_cons.mp hw with rfl | hw
  · exact ⟨gb_tbl hc, gb_good hc⟩
  · exact ⟨gb_tbl hw, gb_good hw⟩
theorem gVL {own : String} {idx : Nat} {C : String} {y : MethodName} {b : ByteArray} {n : Nat} {r : Option FieldType} (h1 : Cond.methodLink own idx y ∈ GB) (h2 : Cond.instanceMethod y ∈ GB) (h3 : Cond.selects C y y ∈ GB) (h4 : Cond.initialized C ∈ GB) (hc : Cond.code y b n r ∈ GB) : GoodIn lw_tbl (wsV own idx C y (wsG y b n r)) := by
  intro w hw
  rcases List.mem_append.mp hw with hw | hw
  · simp only [List.mem_cons, List.not_mem_nil, or_false] at hw
    rcases hw with rfl | rfl | rfl | rfl
    · exact ⟨gb_tbl h1, gb_good h1⟩
    · exact ⟨gb_tbl h2, gb_good h2⟩
    · exact ⟨gb_tbl h3, gb_good h3⟩
    · exact ⟨gb_tbl h4, gb_good h4⟩
  · exact gWL hc w hw
theorem gSL {own : String} {idx : Nat} {y : MethodName} {b : ByteArray} {n : Nat} {r : Option FieldType} (h1 : Cond.methodLink own idx y ∈ GB) (h2 : Cond.static y ∈ GB) (h4 : Cond.initialized y.cls ∈ GB) (hc : Cond.code y b n r ∈ GB) : GoodIn lw_tbl (va_wsS own idx y (wsG y b n r)) := by
  intro w hw
  rcases List.mem_append.mp hw with hw | hw
  · simp only [List.mem_cons, List.not_mem_nil, or_false] at hw
    rcases hw with rfl | rfl | rfl
    · exact ⟨gb_tbl h1, gb_good h1⟩
    · exact ⟨gb_tbl h2, gb_good h2⟩
    · exact ⟨gb_tbl h4, gb_good h4⟩
  · exact gWL hc w hw
def cellP (b L : Nat) (xs : Nat → Int32) (sz : Nat) (av : List Value) : Array Value → State → Prop := va_Pc av (fun U => U.heap.size = sz ∧ va_X b L xs U U.heap ∧ b < U.heap.size)
abbrev cellQ (r : Int32) (A : Nat → Prop) : Array Value → State → Outcome → State → Prop := va_Qi (S := Unit) (fun r' _ => r' = r) (fun _ _ => True) A
theorem cell_blind {b L : Nat} {xs : Nat → Int32} {sz : Nat} {av : List Value} : FrameBlind (cellP b L xs sz av) := by
  intro a U g mk q
  obtain ⟨q0, q1, qX, qb⟩ := q
  exact ⟨q0, q1, va_X.moved (u := U) (U := U.calling g mk a) (Vm.Alike.refl U.vm) qX, qb⟩
theorem cell_pre {b L : Nat} {xs : Nat → Int32} {s : State} {H : Heap} {locs : List Loc} {A : Nat → Prop} {As : List Value} (hX : va_X b L xs s s.heap) (hbl : b < s.heap.size) (hbA : ¬ A b) (hS : va_S A s.heap H locs) : PreS s H (cellP b L xs H.size As) As :=
  ⟨cell_blind, fun U hU hW => ⟨rfl, by rw [hU], by rw [hU]; exact va_X.moved hW.alike (hX.kept (hS.2.1 b hbl hbA)), by rw [hU]; exact Nat.lt_of_lt_of_le hbl hS.1⟩⟩
section FRCELL
variable {p : Program} {l : Launch} {e : Env} {R : Room} {s : State} {m : MethodId} {args : Array Value} {below : List Frame} {meth : Method} {c : Code} {H : Heap} {locs : List Loc} {cells slots : Nat} {Q : State → Prop}
variable {pc : Nat} {ls : Array Slot} {rest st0 : List Value} {a : Array Value} {A0 : Nat → Prop} {H0 : Heap} {dC : Nat → ClassId} {dI : Nat → Nat → Nat} {W0 : va_W}
theorem fr_cell {r : Int32} (hP : va_P (dC, dI) vwCl W0 H) (hD : va_D A0 W0) (hS : va_S A0 H0 H locs) (hA : ∀ q, H0.size ≤ q → A0 q) (hr : va_Run p l e R s m args below meth c H locs cells slots 0 0 (F0 m pc ls st0) rest (cellQ r (va_A [] H.size) a) (va_A [] H.size))
    (kk : ∀ (H1 : Heap) (locs1 : List Loc), va_P (dC, dI) vwCl W0 H1 → va_D A0 W0 → va_S A0 H0 H1 locs1 → W p l e R s m args below meth c H1 locs1 cells slots Q (F0 m (pc + 3) ls (.int r :: rest))) : W p l e R s m args below meth c H locs cells slots Q (F0 m pc ls st0) := by
  have hF : ∀ q, va_A [] H.size q → A0 q := fun q h => h.elim (fun ⟨k, e, hke⟩ => by simp at hke) (fun h => hA q (Nat.le_trans hS.1 h))
  refine va_calli hr hS (fun q _ h => hF q h) hF (fun r1 u t H1 locs1 ht hvm hw hB hz hk hS1 => ?_)
  subst hw
  subst ht
  refine kk _ _ (va_P_iff.mpr fun q hq => ?_) hD hS1
  have h1 := va_P_iff.mp hP q hq
  refine h1.kept (hk q.1 h1.lt ?_)
  intro hA
  rcases hA with ⟨k, e, hke⟩ | hA
  · simp at hke
  · have := h1.lt; omega
end FRCELL
noncomputable def fL_cell (L : Nat) (xs : Nat → Int32) (x1 : Int32) : Option Int32 := if Int32.ofNat L ≤ x1 then some (919782101 * (x1 + 1) + 439050061) else if x1 < 0 ∨ L ≤ x1.toNatClampNeg then none else some (xs x1.toNatClampNeg)
set_option maxHeartbeats 1000000 in
theorem mL_cell (l : Launch) (b L : Nat) (xs : Nat → Int32) (x1 res : Int32) (h : fL_cell L xs x1 = some res) (sz : Nat) : Met l yL_cell (wsG yL_cell cL_cell 2 (some .int)) ({ frames := 0, cells := 0, slots := 0, locals := 0 }) (cellP b L xs sz [.ref b, .int x1]) (cellQ res (va_A [] sz)) 0 0 (va_A [] sz) := by
  refine Met.ofW (cc := cL_cell) (maxL := 2) (ret := (some .int)) (by decide) rfl ?_
  intro p e s m args below meth c s₁ B hml hv0
  obtain ⟨rfl, hsz, hX, hbl⟩ := hv0
  have hx := B.exec
  have hb := B.bytes
  have hr := B.returns
  have hts := atoms_spec (ws := wsG yL_cell cL_cell 2 (some .int)) B.pre
  have hown : s.vm.findClass RL = some m.cls := findClass_of_methodNamed B.named
  have hlocks := B.notSynchronized
  subst hsz
  have hbA : ¬ va_A [] s.heap.size b := fun q => q.elim (fun ⟨k, e, hke⟩ => by simp at hke) (fun q => by omega)
  generalize hAe : va_A ([] : va_W) s.heap.size = A at hbA ⊢
  have hS : va_S A s.heap s.heap [] := va_S.rf
  have hl := lv_entry ([.ref b, .int x1]) (n := 2) (Nat.le_of_ble_eq_true rfl)
  rw [lg_entry_eq]
  generalize (lg_sl ([.ref b, .int x1]) ++ List.replicate (2 - (lg_sl ([.ref b, .int x1])).length) Slot.unset).toArray = ls at hl ⊢
  have hl : lv_has ls 2 [(0, .ref b), (1, .int x1)] := hl
  unfold fL_cell at h
  refine lv_iload_n hx hb dL_cell_0 rfl (lv_at hl 1 rfl) ?_
  refine lv_aload_n hx hb dL_cell_1 rfl (lv_at hl 0 rfl) ?_
  refine va_slen hx hb hX hbl hbA hS dL_cell_2 ?_
  refine lv_icmp_ge (tgt := 12) hx hb dL_cell_3 (by decide) (fun c1 => ?_) (fun c1 => ?_)
  · have h := (if_pos c1).symm.trans h
    obtain rfl := Option.some.inj h
    refine lv_ldc (v := 919782101) hx hb hown (hts _ (gb_mem k_L_7)) dL_cell_12 ?_
    refine lv_iload_n hx hb dL_cell_14 rfl (lv_at hl 1 rfl) ?_
    refine lv_iconst (v := 1) hx hb dL_cell_15 (by decide) ?_
    refine lv_iadd hx hb dL_cell_16 ?_
    refine lv_imul hx hb dL_cell_17 ?_
    refine lv_ldc (v := 439050061) hx hb hown (hts _ (gb_mem k_L_8)) dL_cell_18 ?_
    refine lv_iadd hx hb dL_cell_20 ?_
    exact W.iret hx hb hr (fun t ht hW => ⟨⟨_, (), rfl, rfl, trivial⟩, hS.F ht⟩) hS.2.2 dL_cell_21 hlocks
  · have h := (if_neg c1).symm.trans h
    obtain ⟨hn, h⟩ := ifn h
    obtain rfl := Option.some.inj h
    refine lv_aload_n hx hb dL_cell_6 rfl (lv_at hl 0 rfl) ?_
    refine lv_iload_n hx hb dL_cell_7 rfl (lv_at hl 1 rfl) ?_
    refine va_sld hx hb hX hbl hbA hS hn dL_cell_8 ?_
    refine lv_goto (tgt := 21) hx hb dL_cell_9 (by decide) ?_
    exact W.iret hx hb hr (fun t ht hW => ⟨⟨_, (), rfl, rfl, trivial⟩, hS.F ht⟩) hS.2.2 dL_cell_21 hlocks
