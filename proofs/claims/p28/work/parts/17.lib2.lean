/-! worlds up to the order of their cells; a tail that a call leaves alone, or changes -/
theorem va_P_iff {D : va_G} {cl : List vw_C} {L : va_W} {H : Heap} : va_P D cl L H ↔ ∀ q ∈ L, va_at D cl q H :=
  ⟨fun h q hq => by obtain ⟨k, hk⟩ := List.getElem?_of_mem hq; exact h k q hk, fun h k q hk => h q (List.mem_of_getElem? hk)⟩
theorem va_P_perm {D : va_G} {cl : List vw_C} {L L' : va_W} {H : Heap} (h : L.Perm L') (hP : va_P D cl L H) : va_P D cl L' H := va_P_iff.mpr fun q hq => va_P_iff.mp hP q (h.mem_iff.mpr hq)
theorem va_P_left {D : va_G} {cl : List vw_C} {L R : va_W} {H : Heap} (hP : va_P D cl (L ++ R) H) : va_P D cl L H := va_P_iff.mpr fun q hq => va_P_iff.mp hP q (List.mem_append_left _ hq)
theorem va_P_right {D : va_G} {cl : List vw_C} {L R : va_W} {H : Heap} (hP : va_P D cl (L ++ R) H) : va_P D cl R H := va_P_iff.mpr fun q hq => va_P_iff.mp hP q (List.mem_append_right _ hq)
theorem va_D_iff {A : Nat → Prop} {L : va_W} : va_D A L ↔ (L.map (·.1)).Nodup ∧ ∀ q ∈ L, A q.1 := by
  constructor
  · intro h
    refine ⟨?_, fun q hq => by obtain ⟨k, hk⟩ := List.getElem?_of_mem hq; exact h.2 k q hk⟩
    rw [List.Nodup, List.pairwise_iff_getElem]
    intro i j hi hj hij he
    rw [List.length_map] at hi hj
    rw [List.getElem_map, List.getElem_map] at he
    have := h.1 i j L[i] L[j] (List.getElem?_eq_getElem hi) (List.getElem?_eq_getElem hj) he
    omega
  · intro h
    refine ⟨fun i j p q hp hq he => ?_, fun k q hk => h.2 q (List.mem_of_getElem? hk)⟩
    obtain ⟨hi, rfl⟩ := List.getElem?_eq_some_iff.mp hp
    obtain ⟨hj, rfl⟩ := List.getElem?_eq_some_iff.mp hq
    have h1 := h.1
    rw [List.Nodup, List.pairwise_iff_getElem] at h1
    rcases Nat.lt_trichotomy i j with hij | hij | hij
    · exact absurd (by rw [List.getElem_map, List.getElem_map]; exact he) (h1 i j (by rw [List.length_map]; exact hi) (by rw [List.length_map]; exact hj) hij)
    · exact hij
    · exact absurd (by rw [List.getElem_map, List.getElem_map]; exact he.symm) (h1 j i (by rw [List.length_map]; exact hj) (by rw [List.length_map]; exact hi) hij)
theorem va_D_perm {A : Nat → Prop} {L L' : va_W} (h : L.Perm L') (hD : va_D A L) : va_D A L' :=
  va_D_iff.mpr ⟨(h.map (·.1)).nodup_iff.mp (va_D_iff.mp hD).1, fun q hq => (va_D_iff.mp hD).2 q (h.mem_iff.mpr hq)⟩
theorem va_D_left {A : Nat → Prop} {L R : va_W} (hD : va_D A (L ++ R)) : va_D A L := by
  have h := va_D_iff.mp hD
  rw [List.map_append] at h
  exact va_D_iff.mpr ⟨(List.nodup_append.mp h.1).1, fun q hq => h.2 q (List.mem_append_left _ hq)⟩
theorem va_D_apart {A : Nat → Prop} {L R : va_W} (hD : va_D A (L ++ R)) : ∀ p ∈ L, ∀ q ∈ R, p.1 ≠ q.1 := by
  have h := va_D_iff.mp hD
  rw [List.map_append] at h
  intro p hp q hq
  exact (List.nodup_append.mp h.1).2.2 p.1 (List.mem_map_of_mem hp) q.1 (List.mem_map_of_mem hq)
/-- what a callee's world M and the rest F come to -/
theorem join_G {A0 : Nat → Prop} {D : va_G} {cl : List vw_C} {L M M' L' F : va_W} {H H1 : Heap} (hP : va_P D cl L H) (hD : va_D A0 L) (hL : L.Perm (M ++ F)) (hL' : L'.Perm (M' ++ F)) (hadr : M'.map (·.1) = M.map (·.1))
    (hk : ∀ q : Nat, q < H.size → ¬ va_A M H.size q → H1[q]? = H[q]?) (hP1 : va_P D cl M' H1) : va_P D cl L' H1 ∧ va_D A0 L' := by
  have hP2 := va_P_perm hL hP
  have hD2 := va_D_perm hL hD
  constructor
  · refine va_P_perm hL'.symm (va_P_iff.mpr fun q hq => ?_)
    rcases List.mem_append.mp hq with hq | hq
    · exact va_P_iff.mp hP1 q hq
    · have h1 := va_P_iff.mp hP2 q (List.mem_append_right _ hq)
      refine h1.kept (hk q.1 h1.lt ?_)
      intro hA
      rcases hA with ⟨k, e, hke⟩ | hA
      · exact va_D_apart hD2 _ (List.mem_of_getElem? hke) q hq rfl
      · have := h1.lt; omega
  · refine va_D_perm hL'.symm (va_D_ads (L := M ++ F) ?_ hD2)
    rw [List.map_append, List.map_append, hadr]
theorem free_G {A0 : Nat → Prop} {L M F : va_W} {H0 H : Heap} {locs : List Loc} (hD : va_D A0 L) (hS : va_S A0 H0 H locs) (hA : ∀ q, H0.size ≤ q → A0 q) (hL : L.Perm (M ++ F)) : ∀ q, va_A M H.size q → A0 q := by
  intro q hq
  rcases hq with ⟨k, e, hke⟩ | hq
  · exact (va_D_iff.mp hD).2 (q, e) (hL.mem_iff.mpr (List.mem_append_left _ (List.mem_of_getElem? hke)))
  · exact hA q (Nat.le_trans hS.1 hq)
theorem cP_VG {dC : Nat → ClassId} {dI : Nat → Nat → Nat} {cyI cyO cyL : ClassId} {s : State} {H : Heap} {L M F : va_W} {A : Nat → Prop} {As : List Value} {C : String} {T : u_T} {N b ci : Nat} {fs : List Value} (hK : KK dC dI cyI cyO cyL s) (hP : va_P (dC, dI) vwCl L H) (hD : va_D A L) (hL : L.Perm (M ++ F)) (q0 : Nat) (he : M[q0]? = some (b, .inr (ci, fs))) (hc : vwCl[ci]? = some (C, T, N)) : PreV s H C b (cP dC dI cyI cyO cyL H.size (.ref b :: As) M) As :=
  have hP2 := va_P_left (va_P_perm hL hP)
  ⟨cP_blind, va_recv hK.1 hP2 hc he, fun U hU hW => ⟨rfl, by rw [hU], by rw [hU]; exact hP2, hK.warm hW, (va_D_left (va_D_perm hL hD)).weaken (fun _ _ _ _ => trivial)⟩⟩
section FRG
variable {p : Program} {l : Launch} {e : Env} {R : Room} {s : State} {m : MethodId} {args : Array Value} {below : List Frame} {meth : Method} {c : Code} {H : Heap} {locs : List Loc} {cells slots : Nat} {Q : State → Prop}
variable {pc : Nat} {ls : Array Slot} {rest st0 : List Value} {a : Array Value} {A0 : Nat → Prop} {H0 : Heap} {dC : Nat → ClassId} {dI : Nat → Nat → Nat} {L M M' L' F : va_W}
theorem fr_iG {r : Int32} (hr : va_Run p l e R s m args below meth c H locs cells slots 0 0 (F0 m pc ls st0) rest (cI dC dI r M' (va_A M H.size) a) (va_A M H.size)) (hP : va_P (dC, dI) vwCl L H) (hD : va_D A0 L) (hS : va_S A0 H0 H locs) (hA : ∀ q, H0.size ≤ q → A0 q) (hL : L.Perm (M ++ F)) (hL' : L'.Perm (M' ++ F)) (hadr : M'.map (·.1) = M.map (·.1))
    (kk : ∀ (H1 : Heap) (locs1 : List Loc), va_P (dC, dI) vwCl L' H1 → va_D A0 L' → va_S A0 H0 H1 locs1 → W p l e R s m args below meth c H1 locs1 cells slots Q (F0 m (pc + 3) ls (.int r :: rest))) : W p l e R s m args below meth c H locs cells slots Q (F0 m pc ls st0) := by
  have hF := free_G hD hS hA hL
  refine va_calli hr hS (fun q _ h => hF q h) hF (fun r1 u t H1 locs1 ht hvm hw hB hz hk hS1 => ?_)
  subst hw
  subst ht
  obtain ⟨h1, h2⟩ := join_G hP hD hL hL' hadr hk hB
  exact kk _ _ h1 h2 hS1
theorem fr_vG (hr : va_Run p l e R s m args below meth c H locs cells slots 0 0 (F0 m pc ls st0) rest (cV dC dI M' (va_A M H.size) a) (va_A M H.size)) (hP : va_P (dC, dI) vwCl L H) (hD : va_D A0 L) (hS : va_S A0 H0 H locs) (hA : ∀ q, H0.size ≤ q → A0 q) (hL : L.Perm (M ++ F)) (hL' : L'.Perm (M' ++ F)) (hadr : M'.map (·.1) = M.map (·.1))
    (kk : ∀ (H1 : Heap) (locs1 : List Loc), va_P (dC, dI) vwCl L' H1 → va_D A0 L' → va_S A0 H0 H1 locs1 → W p l e R s m args below meth c H1 locs1 cells slots Q (F0 m (pc + 3) ls rest)) : W p l e R s m args below meth c H locs cells slots Q (F0 m pc ls st0) := by
  have hF := free_G hD hS hA hL
  refine va_callv hr hS (fun q _ h => hF q h) hF (fun u t H1 locs1 ht hvm hw hB hz hk hS1 => ?_)
  subst ht
  obtain ⟨h1, h2⟩ := join_G hP hD hL hL' hadr hk hB
  exact kk _ _ h1 h2 hS1
theorem fr_qG {r : Option Nat} (hr : va_Run p l e R s m args below meth c H locs cells slots 0 0 (F0 m pc ls st0) rest (cQ dC dI r M' (va_A M H.size) a) (va_A M H.size)) (hP : va_P (dC, dI) vwCl L H) (hD : va_D A0 L) (hS : va_S A0 H0 H locs) (hA : ∀ q, H0.size ≤ q → A0 q) (hL : L.Perm (M ++ F)) (hL' : L'.Perm (M' ++ F)) (hadr : M'.map (·.1) = M.map (·.1))
    (kk : ∀ (H1 : Heap) (locs1 : List Loc), va_P (dC, dI) vwCl L' H1 → va_D A0 L' → va_S A0 H0 H1 locs1 → W p l e R s m args below meth c H1 locs1 cells slots Q (F0 m (pc + 3) ls (va_rf r :: rest))) : W p l e R s m args below meth c H locs cells slots Q (F0 m pc ls st0) := by
  have hF := free_G hD hS hA hL
  refine va_callq hr hS (fun q _ h => hF q h) hF (fun r1 u t H1 locs1 ht hvm hw hB hz hk hS1 => ?_)
  subst hw
  subst ht
  obtain ⟨h1, h2⟩ := join_G hP hD hL hL' hadr hk hB
  exact kk _ _ h1 h2 hS1
theorem e_q {cc : ByteArray} {A : Nat → Prop} {r : Option Nat} (hx : p.tables.exec = Jvm.exec) (hb : c.code = cc) (hr : meth.sig.returnType = some (.object "HangingKeys$House")) (hlocks : meth.locks = false) (hP : va_P (dC, dI) vwCl M H) (hS : va_S A s.heap H locs) (hdg : decode cc pc = .ok (.areturn, 1)) : W p l e R s m args below meth c H locs cells slots (MQ below (cQ dC dI r M A) args s cells slots A) (F0 m pc ls [va_rf r]) :=
  W.aret hx hb hr (Or.inl ⟨_, rfl⟩) (va_rf_or r) (fun t ht hW => ⟨⟨r, (), rfl, rfl, by subst ht; exact hP⟩, hS.F ht⟩) hS.2.2 hdg hlocks
end FRG
/-- a part of the front's places, beside the rest: the split that a call wants -/
theorem split_of {L1 M F : va_W} (is js : List Nat) (hC : is.map (fun i => L1[i]?) = M.map some) (hF : js.map (fun i => L1[i]?) = F.map some) (hp : (is ++ js).Perm (List.range L1.length)) : L1.Perm (M ++ F) := by
  have h1 : ((is ++ js).map (fun i => L1[i]?)).Perm ((List.range L1.length).map (fun i => L1[i]?)) := hp.map _
  have h2 : (List.range L1.length).map (fun i => L1[i]?) = L1.map some := by
    apply List.ext_getElem?
    intro i
    rw [List.getElem?_map, List.getElem?_map]
    by_cases h : i < L1.length
    · rw [List.getElem?_range h, List.getElem?_eq_getElem h]; simp [h]
    · rw [List.getElem?_eq_none (by rw [List.length_range]; omega), List.getElem?_eq_none (by omega)]; rfl
  rw [h2, List.map_append, hC, hF, ← List.map_append] at h1
  have h3 := (h1.filterMap id)
  rw [List.filterMap_map, List.filterMap_map] at h3
  have h4 : ∀ x : va_W, List.filterMap (id ∘ some) x = x := fun x => by induction x with
    | nil => rfl
    | cons a x ih => rw [List.filterMap_cons]; simp [ih]
  rw [h4, h4] at h3
  exact h3.symm
/-- the houses of the history -/
abbrev HV : Type := Int32 × Int32 × Int32 × Int32 × Int32 × (Nat → Int32) × (Nat → Int32) × (Nat → Int32) × (Nat → Int32) × Int32 × (Nat → Int32) × (Nat → Int32) × (Nat → Int32) × (Nat → Int32) × (Nat → Int32)
def houseV (cy : ClassId) (ad : Nat → Nat) (v : HV) : va_W := houseW cy (ad 0) (ad 1) (ad 2) (ad 3) (ad 4) (ad 5) (ad 6) (ad 7) (ad 8) (ad 9) (ad 10) (ad 11) (ad 12) (ad 13) (ad 14) (ad 15) (ad 16) (ad 17) (ad 18) (ad 19) (ad 20) v.1 v.2.1 v.2.2.1 v.2.2.2.1 v.2.2.2.2.1 v.2.2.2.2.2.1 v.2.2.2.2.2.2.1 v.2.2.2.2.2.2.2.1 v.2.2.2.2.2.2.2.2.1 v.2.2.2.2.2.2.2.2.2.1 v.2.2.2.2.2.2.2.2.2.2.1 v.2.2.2.2.2.2.2.2.2.2.2.1 v.2.2.2.2.2.2.2.2.2.2.2.2.1 v.2.2.2.2.2.2.2.2.2.2.2.2.2.1 v.2.2.2.2.2.2.2.2.2.2.2.2.2.2
def hvW (cy : ClassId) (had : Nat → Nat → Nat) (hv : Nat → HV) : va_W := (List.range 7).flatMap (fun i => houseV cy (had i) (hv i))
def hvR (cy : ClassId) (had : Nat → Nat → Nat) (hv : Nat → HV) (k : Nat) : va_W := ((List.range 7).erase k).flatMap (fun i => houseV cy (had i) (hv i))
theorem hv_perm {cy : ClassId} {had : Nat → Nat → Nat} {hv : Nat → HV} {k : Nat} (hk : k < 7) : (hvW cy had hv).Perm (houseV cy (had k) (hv k) ++ hvR cy had hv k) :=
  (List.perm_cons_erase (List.mem_range.mpr hk)).flatMap_right _
theorem hvR_up {cy : ClassId} {had : Nat → Nat → Nat} {hv : Nat → HV} {k : Nat} {v : HV} : hvR cy had (va_up hv k v) k = hvR cy had hv k := by
  have h : ∀ (l : List Nat), k ∉ l → l.flatMap (fun i => houseV cy (had i) (va_up hv k v i)) = l.flatMap (fun i => houseV cy (had i) (hv i)) := by
    intro l
    induction l with
    | nil => intro _; rfl
    | cons a l ih =>
      intro ha
      rw [List.flatMap_cons, List.flatMap_cons, ih (fun h => ha (List.mem_cons_of_mem _ h))]
      have hak : a ≠ k := fun h => ha (h ▸ List.mem_cons_self)
      simp [va_up, hak]
  exact h _ (fun hm => (List.Nodup.mem_erase_iff List.nodup_range).mp hm |>.1 rfl)
theorem hv_perm_up {cy : ClassId} {had : Nat → Nat → Nat} {hv : Nat → HV} {k : Nat} {v : HV} (hk : k < 7) : (hvW cy had (va_up hv k v)).Perm (houseV cy (had k) v ++ hvR cy had hv k) := by
  have h := hv_perm (cy := cy) (had := had) (hv := va_up hv k v) hk
  rw [hvR_up] at h
  have h2 : va_up hv k v k = v := by simp [va_up]
  rw [h2] at h
  exact h
theorem perm4 {a b c d : va_W} : ((a ++ b) ++ (c ++ d)).Perm ((c ++ b) ++ (a ++ d)) := by
  have h1 : ((a ++ b) ++ c).Perm ((c ++ b) ++ a) := by
    refine List.perm_append_comm.trans ?_
    rw [List.append_assoc]
    exact List.Perm.append_left c List.perm_append_comm
  rw [← List.append_assoc, ← List.append_assoc]
  exact h1.append_right d
