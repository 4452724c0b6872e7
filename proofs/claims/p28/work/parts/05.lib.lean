/-! the frame of all contracts: a world is a list of cells; a call takes some places of it and gives them back -/
def isNest : Cond → Bool
  | .fieldLinkNest _ _ _ _ _ _ => true
  | .methodLinkNest _ _ _ _ => true
  | _ => false
/-- the links to nest mates hold -/
def NW (U : State) : Prop := ∀ w ∈ nestL, va_Nw w U
theorem nest_isNest {w : Cond} (hw : w ∈ nestL) : isNest w = true := List.all_eq_true.mp (show nestL.all isNest = true from rfl) w hw
theorem isNest_tables {w : Cond} (h : isNest w = true) : w.onTables = true := by
  cases w <;> first | rfl | exact (Bool.false_ne_true h).elim
theorem NW.same {u U : State} (h : u.vm = U.vm) (hN : NW u) : NW U := fun w hw => va_Nw.same (isNest_tables (nest_isNest hw)) h (hN w hw)
theorem NW.warm {s U : State} (hW : s.WarmedH U.vm) (h : NW s) : NW U := by
  intro w hw
  have hz := h w hw
  have hn := nest_isNest hw
  cases w <;> first | exact va_Nw.warmF hW hz | exact va_Nw.warmM hW hz | exact (Bool.false_ne_true hn).elim
abbrev Kt (cyI cyO cyL : ClassId) : List (ClassId × FieldType) := [(cyI, .int), (cyO, .object "HangingKeys$House"), (cyL, .long)]
def KK (dC : Nat → ClassId) (dI : Nat → Nat → Nat) (cyI cyO cyL : ClassId) (U : State) : Prop := va_K (dC, dI) vwCl (Kt cyI cyO cyL) U ∧ NW U
theorem KK.warm {dC : Nat → ClassId} {dI : Nat → Nat → Nat} {cyI cyO cyL : ClassId} {s U : State} (hW : s.WarmedH U.vm) (h : KK dC dI cyI cyO cyL s) : KK dC dI cyI cyO cyL U := ⟨va_K.moved hW.alike h.1, NW.warm hW h.2⟩
/-- a contract's start: the arguments, the heap's size, the world, the classes -/
def cP (dC : Nat → ClassId) (dI : Nat → Nat → Nat) (cyI cyO cyL : ClassId) (sz : Nat) (av : List Value) (M : va_W) : Array Value → State → Prop :=
  va_Pc av (fun U => U.heap.size = sz ∧ va_P (dC, dI) vwCl M U.heap ∧ KK dC dI cyI cyO cyL U ∧ va_D (fun _ => True) M)
/-- ends: an int, nothing, a reference -/
abbrev cI (dC : Nat → ClassId) (dI : Nat → Nat → Nat) (r : Int32) (M : va_W) (A : Nat → Prop) : Array Value → State → Outcome → State → Prop :=
  va_Qi (S := Unit) (fun r' _ => r' = r) (fun _ t => va_P (dC, dI) vwCl M t.heap) A
abbrev cV (dC : Nat → ClassId) (dI : Nat → Nat → Nat) (M : va_W) (A : Nat → Prop) : Array Value → State → Outcome → State → Prop :=
  va_Qv (S := Unit) (fun _ => True) (fun _ t => va_P (dC, dI) vwCl M t.heap) A
abbrev cQ (dC : Nat → ClassId) (dI : Nat → Nat → Nat) (r : Option Nat) (M : va_W) (A : Nat → Prop) : Array Value → State → Outcome → State → Prop :=
  va_Qq (S := Unit) (fun r' _ => r' = r) (fun _ t => va_P (dC, dI) vwCl M t.heap) A
theorem cP_blind {dC : Nat → ClassId} {dI : Nat → Nat → Nat} {cyI cyO cyL : ClassId} {sz : Nat} {av : List Value} {M : va_W} : FrameBlind (cP dC dI cyI cyO cyL sz av M) := by
  intro a U g mk q
  obtain ⟨q0, q1, qP, qK, qD⟩ := q
  exact ⟨q0, q1, qP, ⟨va_K.moved (u := U) (U := U.calling g mk a) (Vm.Alike.refl U.vm) qK.1, NW.same (u := U) (U := U.calling g mk a) rfl qK.2⟩, qD⟩
theorem va_P_places {D : va_G} {cl : List vw_C} {L M : va_W} {H : Heap} (hP : va_P D cl L H) (is : List Nat) (hC : is.map (fun i => L[i]?) = M.map some) : va_P D cl M H := by
  intro k q hq
  have h1 : (is.map (fun i => L[i]?))[k]? = some (some q) := by rw [hC, List.getElem?_map, hq]; rfl
  rw [List.getElem?_map] at h1
  cases hi : is[k]? with
  | none => rw [hi] at h1; cases h1
  | some i => rw [hi] at h1; exact hP i q (Option.some.inj h1)
theorem va_at_places {L M : va_W} {is : List Nat} (hC : is.map (fun i => L[i]?) = M.map some) {k : Nat} {q : Nat × va_E} (hq : M[k]? = some q) : ∃ i, is[k]? = some i ∧ L[i]? = some q := by
  have h1 : (is.map (fun i => L[i]?))[k]? = some (some q) := by rw [hC, List.getElem?_map, hq]; rfl
  rw [List.getElem?_map] at h1
  cases hi : is[k]? with
  | none => rw [hi] at h1; cases h1
  | some i => rw [hi] at h1; exact ⟨i, rfl, Option.some.inj h1⟩
theorem cP_S {dC : Nat → ClassId} {dI : Nat → Nat → Nat} {cyI cyO cyL : ClassId} {s : State} {H : Heap} {L M : va_W} {A : Nat → Prop} {As : List Value} (hK : KK dC dI cyI cyO cyL s) (hP : va_P (dC, dI) vwCl L H) (hD : va_D A L) (is : List Nat) (hn : va_nd is = true) (hC : is.map (fun i => L[i]?) = M.map some) : PreS s H (cP dC dI cyI cyO cyL H.size As M) As :=
  ⟨cP_blind, fun U hU hW => ⟨rfl, by rw [hU], by rw [hU]; exact va_P_places hP is hC, hK.warm hW, (hD.sub is hn hC).weaken (fun _ _ _ _ => trivial)⟩⟩
theorem cP_V {dC : Nat → ClassId} {dI : Nat → Nat → Nat} {cyI cyO cyL : ClassId} {s : State} {H : Heap} {L M : va_W} {A : Nat → Prop} {As : List Value} {C : String} {T : u_T} {N b ci : Nat} {fs : List Value} (hK : KK dC dI cyI cyO cyL s) (hP : va_P (dC, dI) vwCl L H) (hD : va_D A L) (is : List Nat) (hn : va_nd is = true) (hC : is.map (fun i => L[i]?) = M.map some) (q0 : Nat) (he : L[q0]? = some (b, .inr (ci, fs))) (hc : vwCl[ci]? = some (C, T, N)) : PreV s H C b (cP dC dI cyI cyO cyL H.size (.ref b :: As) M) As :=
  ⟨cP_blind, va_recv hK.1 hP hc he, fun U hU hW => ⟨rfl, by rw [hU], by rw [hU]; exact va_P_places hP is hC, hK.warm hW, (hD.sub is hn hC).weaken (fun _ _ _ _ => trivial)⟩⟩
/-- a world's cells taken from two: (false, i) is the place i of L, (true, j) the place j of M' -/
def pick (L M' : va_W) (q : Bool × Nat) : Option (Nat × va_E) := match q with
  | (false, i) => L[i]?
  | (true, j) => M'[j]?
def apart (is : List Nat) (q : Bool × Nat) : Bool := match q with
  | (false, i) => !(is.contains i)
  | (true, _) => true
theorem pick_get {L M' L' : va_W} {is : List Nat} {src : List (Bool × Nat)} (h : L'.map some = src.map (pick L M')) (ha : src.all (apart is) = true) {k : Nat} {q : Nat × va_E} (hq : L'[k]? = some q) : (∃ j : Nat, M'[j]? = some q) ∨ ∃ i : Nat, L[i]? = some q ∧ i ∉ is := by
  have h1 : (src.map (pick L M'))[k]? = some (some q) := by rw [← h, List.getElem?_map, hq]; rfl
  rw [List.getElem?_map] at h1
  cases hs : src[k]? with
  | none => rw [hs] at h1; cases h1
  | some z =>
    rw [hs] at h1
    have h2 : pick L M' z = some q := Option.some.inj h1
    have h3 := List.all_eq_true.mp ha z (List.mem_of_getElem? hs)
    obtain ⟨b, i⟩ := z
    cases b with
    | true => exact Or.inl ⟨i, h2⟩
    | false =>
      refine Or.inr ⟨i, h2, fun hm => ?_⟩
      have h4 : (!(is.contains i)) = true := h3
      rw [List.contains_iff_mem.mpr hm] at h4
      cases h4
theorem va_D_ads {A : Nat → Prop} {L L' : va_W} (h : L'.map (·.1) = L.map (·.1)) (hD : va_D A L) : va_D A L' := by
  have key : ∀ (i : Nat) (q : Nat × va_E), L'[i]? = some q → ∃ p, L[i]? = some p ∧ p.1 = q.1 := by
    intro i q hq
    have h1 : (L'.map (·.1))[i]? = some q.1 := by rw [List.getElem?_map, hq]; rfl
    rw [h, List.getElem?_map] at h1
    cases hp : L[i]? with
    | none => rw [hp] at h1; cases h1
    | some p => rw [hp] at h1; exact ⟨p, rfl, Option.some.inj h1⟩
  refine ⟨fun i j p q hp hq hpq => ?_, fun k q hq => ?_⟩
  · obtain ⟨p', h1, h2⟩ := key i p hp
    obtain ⟨q', h3, h4⟩ := key j q hq
    exact hD.1 i j p' q' h1 h3 (by rw [h2, h4, hpq])
  · obtain ⟨p', h1, h2⟩ := key k q hq
    rw [← h2]
    exact hD.2 k p' h1
theorem join_put {A0 : Nat → Prop} {D : va_G} {cl : List vw_C} {L M M' L' : va_W} {H H1 : Heap} (hP : va_P D cl L H) (hD : va_D A0 L) (is : List Nat) (hC : is.map (fun i => L[i]?) = M.map some) (src : List (Bool × Nat)) (hL : L'.map some = src.map (pick L M')) (ha : src.all (apart is) = true)
    (hk : ∀ q : Nat, q < H.size → ¬ va_A M H.size q → H1[q]? = H[q]?) (hP1 : va_P D cl M' H1) : va_P D cl L' H1 := by
  intro k q hq
  rcases pick_get hL ha hq with ⟨j, hj⟩ | ⟨i, h1, h2⟩
  · exact hP1 j q hj
  · have hlt := (hP i q h1).lt
    refine (hP i q h1).kept (hk q.1 hlt ?_)
    intro hA
    rcases hA with ⟨k, e, hke⟩ | hA
    · obtain ⟨j, h3, h4⟩ := va_at_places hC hke
      have hij := hD.1 i j q (q.1, e) h1 h4 rfl
      subst hij
      exact h2 (List.mem_of_getElem? h3)
    · omega
theorem free_put {A0 : Nat → Prop} {L M : va_W} {H0 H : Heap} {locs : List Loc} (hD : va_D A0 L) (hS : va_S A0 H0 H locs) (hA : ∀ q, H0.size ≤ q → A0 q) (is : List Nat) (hC : is.map (fun i => L[i]?) = M.map some) : ∀ q, va_A M H.size q → A0 q := va_free hD hS hA is hC
section FR
variable {p : Program} {l : Launch} {e : Env} {R : Room} {s : State} {m : MethodId} {args : Array Value} {below : List Frame} {meth : Method} {c : Code} {H : Heap} {locs : List Loc} {cells slots : Nat} {Q : State → Prop}
variable {pc : Nat} {ls : Array Slot} {rest st0 : List Value} {a : Array Value} {A0 : Nat → Prop} {H0 : Heap} {dC : Nat → ClassId} {dI : Nat → Nat → Nat} {L M M' L' : va_W}
/-- behind a call that answers an int; its world was the places is of L -/
theorem fr_i {r : Int32} (hr : va_Run p l e R s m args below meth c H locs cells slots 0 0 (F0 m pc ls st0) rest (cI dC dI r M' (va_A M H.size) a) (va_A M H.size)) (hP : va_P (dC, dI) vwCl L H) (hD : va_D A0 L) (hS : va_S A0 H0 H locs) (hA : ∀ q, H0.size ≤ q → A0 q) (is : List Nat) (hC : is.map (fun i => L[i]?) = M.map some) (src : List (Bool × Nat)) (hL : L'.map some = src.map (pick L M')) (ha : src.all (apart is) = true) (hadr : L'.map (·.1) = L.map (·.1))
    (kk : ∀ (H1 : Heap) (locs1 : List Loc), va_P (dC, dI) vwCl L' H1 → va_D A0 L' → va_S A0 H0 H1 locs1 → W p l e R s m args below meth c H1 locs1 cells slots Q (F0 m (pc + 3) ls (.int r :: rest))) : W p l e R s m args below meth c H locs cells slots Q (F0 m pc ls st0) := by
  have hF := free_put hD hS hA is hC
  refine va_calli hr hS (fun q _ h => hF q h) hF (fun r1 u t H1 locs1 ht hvm hw hB hz hk hS1 => ?_)
  subst hw
  subst ht
  exact kk _ _ (join_put hP hD is hC src hL ha hk hB) (va_D_ads hadr hD) hS1
theorem fr_v (hr : va_Run p l e R s m args below meth c H locs cells slots 0 0 (F0 m pc ls st0) rest (cV dC dI M' (va_A M H.size) a) (va_A M H.size)) (hP : va_P (dC, dI) vwCl L H) (hD : va_D A0 L) (hS : va_S A0 H0 H locs) (hA : ∀ q, H0.size ≤ q → A0 q) (is : List Nat) (hC : is.map (fun i => L[i]?) = M.map some) (src : List (Bool × Nat)) (hL : L'.map some = src.map (pick L M')) (ha : src.all (apart is) = true) (hadr : L'.map (·.1) = L.map (·.1))
    (kk : ∀ (H1 : Heap) (locs1 : List Loc), va_P (dC, dI) vwCl L' H1 → va_D A0 L' → va_S A0 H0 H1 locs1 → W p l e R s m args below meth c H1 locs1 cells slots Q (F0 m (pc + 3) ls rest)) : W p l e R s m args below meth c H locs cells slots Q (F0 m pc ls st0) := by
  have hF := free_put hD hS hA is hC
  refine va_callv hr hS (fun q _ h => hF q h) hF (fun u t H1 locs1 ht hvm hw hB hz hk hS1 => ?_)
  subst ht
  exact kk _ _ (join_put hP hD is hC src hL ha hk hB) (va_D_ads hadr hD) hS1
theorem join_ro {A0 : Nat → Prop} {D : va_G} {cl : List vw_C} {L M : va_W} {H H1 : Heap} (hP : va_P D cl L H) (hD : va_D A0 L) (is : List Nat) (hC : is.map (fun i => L[i]?) = M.map some)
    (hk : ∀ q : Nat, q < H.size → ¬ va_A M H.size q → H1[q]? = H[q]?) (hP1 : va_P D cl M H1) : va_P D cl L H1 := by
  intro i q hq
  by_cases h : ∃ (k : Nat) (e : va_E), M[k]? = some (q.1, e)
  · obtain ⟨k, e, hke⟩ := h
    obtain ⟨j, h3, h4⟩ := va_at_places hC hke
    have hij := hD.1 i j q (q.1, e) hq h4 rfl
    subst hij
    rw [hq] at h4
    have h5 := hP1 k _ hke
    rw [← Option.some.inj h4] at h5
    exact h5
  · have hlt := (hP i q hq).lt
    exact (hP i q hq).kept (hk q.1 hlt (fun hA => hA.elim h (fun hA => by omega)))
/-- the same, of a callee that writes nothing -/
theorem fr_ir {r : Int32} (hr : va_Run p l e R s m args below meth c H locs cells slots 0 0 (F0 m pc ls st0) rest (cI dC dI r M (va_A M H.size) a) (va_A M H.size)) (hP : va_P (dC, dI) vwCl L H) (hD : va_D A0 L) (hS : va_S A0 H0 H locs) (hA : ∀ q, H0.size ≤ q → A0 q) (is : List Nat) (hC : is.map (fun i => L[i]?) = M.map some)
    (kk : ∀ (H1 : Heap) (locs1 : List Loc), va_P (dC, dI) vwCl L H1 → va_S A0 H0 H1 locs1 → W p l e R s m args below meth c H1 locs1 cells slots Q (F0 m (pc + 3) ls (.int r :: rest))) : W p l e R s m args below meth c H locs cells slots Q (F0 m pc ls st0) := by
  have hF := free_put hD hS hA is hC
  refine va_calli hr hS (fun q _ h => hF q h) hF (fun r1 u t H1 locs1 ht hvm hw hB hz hk hS1 => ?_)
  subst hw
  subst ht
  exact kk _ _ (join_ro hP hD is hC hk hB) hS1
/-- ends -/
theorem e_i {cc : ByteArray} {A : Nat → Prop} {v : Int32} (hx : p.tables.exec = Jvm.exec) (hb : c.code = cc) (hr : meth.sig.returnType = some .int) (hlocks : meth.locks = false) (hP : va_P (dC, dI) vwCl M H) (hS : va_S A s.heap H locs) (hdg : decode cc pc = .ok (.ireturn, 1)) : W p l e R s m args below meth c H locs cells slots (MQ below (cI dC dI v M A) args s cells slots A) (F0 m pc ls [.int v]) :=
  W.iret hx hb hr (fun t ht hW => ⟨⟨v, (), rfl, rfl, by subst ht; exact hP⟩, hS.F ht⟩) hS.2.2 hdg hlocks
theorem e_z {cc : ByteArray} {A : Nat → Prop} {v : Int32} (hx : p.tables.exec = Jvm.exec) (hb : c.code = cc) (hr : meth.sig.returnType = some .boolean) (hlocks : meth.locks = false) (hn : narrow .boolean (.int v) = .int v) (hP : va_P (dC, dI) vwCl M H) (hS : va_S A s.heap H locs) (hdg : decode cc pc = .ok (.ireturn, 1)) : W p l e R s m args below meth c H locs cells slots (MQ below (cI dC dI v M A) args s cells slots A) (F0 m pc ls [.int v]) :=
  W.zret hx hb hr hn (fun t ht hW => ⟨⟨v, (), rfl, rfl, by subst ht; exact hP⟩, hS.F ht⟩) hS.2.2 hdg hlocks
theorem e_v {cc : ByteArray} {A : Nat → Prop} (hx : p.tables.exec = Jvm.exec) (hb : c.code = cc) (hr : meth.sig.returnType = none) (hlocks : meth.locks = false) (hP : va_P (dC, dI) vwCl M H) (hS : va_S A s.heap H locs) (hdg : decode cc pc = .ok (.return_, 1)) : W p l e R s m args below meth c H locs cells slots (MQ below (cV dC dI M A) args s cells slots A) (F0 m pc ls []) :=
  W.vret hx hb hr (fun t ht hW => ⟨⟨(), rfl, trivial, by subst ht; exact hP⟩, hS.F ht⟩) hS.2.2 hdg hlocks
end FR
-- the words of a method: its code, and all that a call hands on
noncomputable abbrev wsG (y : MethodName) (b : ByteArray) (n : Nat) (r : Option FieldType) : List Cond := Cond.code y b n r :: GB
theorem gb_mem {c0 w : Cond} (h : w ∈ GB) : w ∈ c0 :: GB := List.mem_cons_of_mem _ h
theorem goodGB {c0 : Cond} : ∀ w ∈ GB, w ∈ c0 :: GB ∧ ((w.onTables && w.keeps) = true ∨ ∃ ty, w = .arrayClass ty) := fun _ h => ⟨gb_mem h, gb_good h⟩
/-- a callee's words among a caller's -/
theorem gW {c0 : Cond} {y : MethodName} {b : ByteArray} {n : Nat} {r : Option FieldType} (hc : Cond.code y b n r ∈ GB) : GoodIn (c0 :: GB) (wsG y b n r) := by
  intro w hw
  rcases List.mem_cons.mp hw with rfl | hw
  · exact goodGB _ hc
  · exact goodGB _ hw
theorem gV {c0 : Cond} {own : String} {idx : Nat} {C : String} {y : MethodName} {b : ByteArray} {n : Nat} {r : Option FieldType} (h1 : Cond.methodLink own idx y ∈ GB) (h2 : Cond.instanceMethod y ∈ GB) (h3 : Cond.selects C y y ∈ GB) (h4 : Cond.initialized C ∈ GB) (hc : Cond.code y b n r ∈ GB) : GoodIn (c0 :: GB) (wsV own idx C y (wsG y b n r)) := by
  intro w hw
  rcases List.mem_append.mp hw with hw | hw
  · simp only [List.mem_cons, List.not_mem_nil, or_false] at hw
    rcases hw with rfl | rfl | rfl | rfl
    · exact goodGB _ h1
    · exact goodGB _ h2
    · exact goodGB _ h3
    · exact goodGB _ h4
  · exact gW hc w hw
theorem gS {c0 : Cond} {own : String} {idx : Nat} {y : MethodName} {b : ByteArray} {n : Nat} {r : Option FieldType} (h1 : Cond.methodLink own idx y ∈ GB) (h2 : Cond.static y ∈ GB) (h4 : Cond.initialized y.cls ∈ GB) (hc : Cond.code y b n r ∈ GB) : GoodIn (c0 :: GB) (va_wsS own idx y (wsG y b n r)) := by
  intro w hw
  rcases List.mem_append.mp hw with hw | hw
  · simp only [List.mem_cons, List.not_mem_nil, or_false] at hw
    rcases hw with rfl | rfl | rfl
    · exact goodGB _ h1
    · exact goodGB _ h2
    · exact goodGB _ h4
  · exact gW hc w hw
theorem ob {α β : Type} {o : Option α} {f : α → Option β} {r : β} (h : o.bind f = some r) : ∃ a, o = some a ∧ f a = some r := by
  cases o with
  | none => cases h
  | some a => exact ⟨a, rfl, h⟩
theorem ifn {c : Prop} [d : Decidable c] {β : Type} {E : Option β} {r : β} (h : (if c then none else E) = some r) : ¬ c ∧ E = some r := by
  by_cases hc : c
  · rw [if_pos hc] at h; cases h
  · rw [if_neg hc] at h; exact ⟨hc, h⟩
