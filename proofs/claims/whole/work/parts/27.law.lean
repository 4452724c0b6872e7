/-! the law -/
theorem gVL {own : String} {idx : Nat} {C : String} {y : MethodName} {b : ByteArray} {n : Nat} {r : Option FieldType} (h1 : Cond.methodLink own idx y ∈ GB) (h2 : Cond.instanceMethod y ∈ GB) (h3 : Cond.selects C y y ∈ GB) (h4 : Cond.initialized C ∈ GB) (hc : Cond.code y b n r ∈ GB) : GoodIn lw_tbl (wsV own idx C y (wsG y b n r)) := by
  intro w hw
  rcases List.mem_append.mp hw with hw | hw
  · simp only [List.mem_cons, List.not_mem_nil, or_false] at hw
    rcases hw with rfl | rfl | rfl | rfl
    · exact ⟨gb_tbl h1, gb_good h1⟩
    · exact ⟨gb_tbl h2, gb_good h2⟩
    · exact ⟨gb_tbl h3, gb_good h3⟩
    · exact ⟨gb_tbl h4, gb_good h4⟩
  · rcases List.mem_cons.mp hw with rfl | hw
    · exact ⟨gb_tbl hc, gb_good hc⟩
    · exact ⟨gb_tbl hw, gb_good hw⟩
theorem gWL {y : MethodName} {b : ByteArray} {n : Nat} {r : Option FieldType} (hc : Cond.code y b n r ∈ GB) : GoodIn lw_tbl (wsG y b n r) := by
  intro w hw
  rcases List.mem_cons.mp hw with rfl | hw
  · exact ⟨gb_tbl hc, gb_good hc⟩
  · exact ⟨gb_tbl hw, gb_good hw⟩
section FRS
variable {p : Program} {l : Launch} {e : Env} {R : Room} {s : State} {m : MethodId} {args : Array Value} {below : List Frame} {meth : Method} {c : Code} {H : Heap} {locs : List Loc} {cells slots : Nat} {Q : State → Prop}
variable {pc : Nat} {ls : Array Slot} {rest st0 : List Value} {a : Array Value} {A0 : Nat → Prop} {H0 : Heap} {dC : Nat → ClassId} {dI : Nat → Nat → Nat} {L M F : va_W} {mc ms : Nat}
theorem fr_iSG {S : Type} {r : Int32} {M' L' : S → va_W} (hr : va_Run p l e R s m args below meth c H locs cells slots mc ms (F0 m pc ls st0) rest (cIS dC dI S r M' (va_A M H.size) a) (va_A M H.size)) (hP : va_P (dC, dI) vwCl L H) (hD : va_D A0 L) (hS : va_S A0 H0 H locs) (hA : ∀ q, H0.size ≤ q → A0 q) (hL : L.Perm (M ++ F)) (hL' : ∀ u, (L' u).Perm (M' u ++ F))
    (kk : ∀ (u : S) (H1 : Heap) (locs1 : List Loc), va_P (dC, dI) vwCl (L' u) H1 → va_D A0 (L' u) → va_S A0 H0 H1 locs1 → W p l e R s m args below meth c H1 locs1 (cells + mc) (slots + ms) Q (F0 m (pc + 3) ls (.int r :: rest))) : W p l e R s m args below meth c H locs cells slots Q (F0 m pc ls st0) := by
  have hF := free_G hD hS hA hL
  have hP2 := va_P_perm hL hP
  have hD2 := va_D_perm hL hD
  refine va_calli hr hS (fun q _ h => hF q h) hF (fun r1 u t H1 locs1 ht hvm hw hB hz hk hS1 => ?_)
  subst hw
  subst ht
  have hFlt : ∀ q ∈ F, q.1 < H.size ∧ ¬ va_A M H.size q.1 := by
    intro q hq
    have h1 := (va_P_iff.mp hP2 q (List.mem_append_right _ hq)).lt
    refine ⟨h1, fun hA => ?_⟩
    rcases hA with ⟨k, e, hke⟩ | hA
    · exact va_D_apart hD2 _ (List.mem_of_getElem? hke) q hq rfl
    · omega
  refine kk u _ _ (va_P_perm (hL' u).symm (va_P_iff.mpr fun q hq => ?_)) (va_D_perm (hL' u).symm (va_D_iff.mpr ⟨?_, fun q hq => ?_⟩)) hS1
  · rcases List.mem_append.mp hq with hq | hq
    · exact va_P_iff.mp hB.1 q hq
    · exact (va_P_iff.mp hP2 q (List.mem_append_right _ hq)).kept (hk q.1 (hFlt q hq).1 (hFlt q hq).2)
  · rw [List.map_append]
    have h1 := (va_D_iff.mp hD2).1
    rw [List.map_append] at h1
    refine List.nodup_append.mpr ⟨(va_D_iff.mp hB.2).1, (List.nodup_append.mp h1).2.1, ?_⟩
    intro x hx y hy hxy
    obtain ⟨q, hq, rfl⟩ := List.mem_map.mp hx
    obtain ⟨r, hr2, rfl⟩ := List.mem_map.mp hy
    exact (hFlt r hr2).2 (hxy ▸ (va_D_iff.mp hB.2).2 q hq)
  · rcases List.mem_append.mp hq with hq | hq
    · exact hF _ ((va_D_iff.mp hB.2).2 q hq)
    · exact (va_D_iff.mp hD2).2 q (List.mem_append_right _ hq)
end FRS
theorem law_at {L k d : Nat} (hL : L ≤ 2048) (h : 4 * k + 4 ≤ L) (hd : d < 4) : vp_in (nI (4 * k) + nI d) L := by
  rw [nI_add]
  exact vp_in_nI (by omega) (by omega)
set_option maxHeartbeats 4000000 in
set_option maxRecDepth 100000 in
/-- the law's loop, at its head with 4 k ints read -/
theorem law_loop (Inv : Nat → CS → RS → Prop) (hst : StepOK Inv) {p : Program} {l : Launch} {e : Env} {s : State} {m : MethodId} {below : List Frame} {meth : Method} {c : Code} {dC : Nat → ClassId} {dI : Nat → Nat → Nat} {cyI cyO : ClassId} {b L : Nat} {xs : Nat → Int32} (hL : L ≤ 2048) (C0 : lw_At p s m meth c b L xs) (hK : KK dC dI cyI cyO s) (ad am : Nat → Nat) (had : Nat → Nat → Nat) :
    ∀ (n k : Nat), 4 * k ≤ L → L < 4 * k + 4 * n → ∀ (cc0 : CS) (r0 : RS) (sad : Nat → Nat → Nat) (H : Heap) (locs : List Loc), Inv k cc0 r0 → va_P (dC, dI) vwCl (mainC cyI cyO ad had sad cc0 ++ modelC cyI am r0) H → va_D (fun q : Nat => s.heap.size ≤ q) (mainC cyI cyO ad had sad cc0 ++ modelC cyI am r0) → va_S (fun q : Nat => s.heap.size ≤ q) s.heap H locs → ∀ ls : Array Slot, lv_has ls 4 [(3, .int (nI (4 * k))), (0, .ref b), (1, .ref (ad 0)), (2, .ref (am 0))] → W p l e room_1 s m #[Value.ref b] below meth c H locs (187 + 21 * k) (13666 + 706 * k) (lw_Z below #[Value.ref b] s) (F0 m 18 ls []) := by
  obtain ⟨hx, hb, hr, hml, hown, hts, hX, hbl, hlocks, hgv⟩ := C0
  have hA : ∀ q : Nat, s.heap.size ≤ q → (fun q : Nat => s.heap.size ≤ q) q := fun _ h => h
  have hbA : ¬ (fun q : Nat => s.heap.size ≤ q) b := Nat.not_le.mpr hbl
  intro n
  induction n with
  | zero => intro k h1 h2; omega
  | succ n ih =>
    intro k hk1 hk2 cc0 r0 sad H locs hI hP hD hS ls hl
    refine lv_iload_n hx hb dL_law_18 rfl (lv_at hl 0 rfl) ?_
    refine lv_aload_n hx hb dL_law_19 rfl (lv_at hl 1 rfl) ?_
    refine va_slen hx hb hX hbl hbA hS dL_law_20 ?_
    refine lv_iconst (v := 4) hx hb dL_law_21 (by decide) ?_
    refine lv_isub hx hb dL_law_22 ?_
    have hlt : (nI L - 4 < nI (4 * k)) ↔ L < 4 * k + 4 := by
      have e4 : (4 : Int32) = nI 4 := rfl
      rw [Int32.lt_iff_toInt_lt, e4, pk_sub_toInt (by omega) (by omega), nI_toInt (by omega)]
      omega
    refine lv_icmp_gt (tgt := 829) hx hb dL_law_23 (by decide) (fun c1 => ?_) (fun c1 => ?_)
    · refine lv_iconst (v := 1) hx hb dL_law_829 (by decide) ?_
      refine va_forget (fun q hq => hS.2.2 q hq) ?_
      refine W.widen (k := 600000) (n := 7302250) (by omega) (by omega) ?_
      exact lw_ret hx hb hr hlocks dL_law_830
    have hle : 4 * k + 4 ≤ L := by
      rcases Nat.lt_or_ge L (4 * k + 4) with h | h
      · exact absurd (hlt.mpr h) c1
      · exact h
    have hi0 : vp_in (nI (4 * k)) L := vp_in_nI (by omega) (by omega)
    have hi1 : vp_in (nI (4 * k) + 1) L := law_at (d := 1) hL hle (by omega)
    have hi2 : vp_in (nI (4 * k) + 2) L := law_at (d := 2) hL hle (by omega)
    have hi3 : vp_in (nI (4 * k) + 3) L := law_at (d := 3) hL hle (by omega)
    have K : ∀ (c1 : CS) (r1 : RS) (sad : Nat → Nat → Nat) (H : Heap) (locs : List Loc), Inv (k + 1) c1 r1 → va_P (dC, dI) vwCl (mainC cyI cyO ad had sad c1 ++ modelC cyI am r1) H → va_D (fun q : Nat => s.heap.size ≤ q) (mainC cyI cyO ad had sad c1 ++ modelC cyI am r1) → va_S (fun q : Nat => s.heap.size ≤ q) s.heap H locs → ∀ ls : Array Slot, lv_has ls 4 [(3, .int (nI (4 * k))), (0, .ref b), (1, .ref (ad 0)), (2, .ref (am 0))] → W p l e room_1 s m #[Value.ref b] below meth c H locs (187 + 21 * (k + 1)) (13666 + 706 * (k + 1)) (lw_Z below #[Value.ref b] s) (F0 m 823 ls []) := by
      intro c1 r1 sad H locs hI hP hD hS ls hl
      refine lv_iinc (v := nI (4 * k) + 4) (lv' := [(3, .int (nI (4 * k) + 4)), (0, .ref b), (1, .ref (ad 0)), (2, .ref (am 0))]) hx hb dL_law_823 hl (k := 0) rfl rfl (by decide) rfl (fun ls hl => ?_)
      refine lv_goto (tgt := 18) hx hb dL_law_826 (by decide) ?_
      have e4 : nI (4 * k) + 4 = nI (4 * (k + 1)) := by
        show nI (4 * k) + nI 4 = _
        rw [nI_add]
        congr 1
      rw [e4] at hl
      exact ih (k + 1) (by omega) (by omega) c1 r1 sad _ _ hI hP hD hS ls hl
    refine lv_aload_n hx hb dL_law_26 rfl (lv_at hl 1 rfl) ?_
    refine lv_iload_n hx hb dL_law_27 rfl (lv_at hl 0 rfl) ?_
    refine va_sld hx hb hX hbl hbA hS hi0 dL_law_28 ?_
    refine lv_bipush (v := 31) hx hb dL_law_29 (by decide) ?_
    refine lv_iand hx hb dL_law_31 ?_
    generalize hop : (xs (nI (4 * k)).toNatClampNeg &&& 31) = op
    by_cases z0 : op = 0
    · refine lv_tableIn (off := 116) (tgt := 148) hx hb dL_law_32 (by rw [z0]; decide) (by rw [z0]; decide) (by rw [z0]; first | done | rfl) (by decide) ?_
      refine lv_aload_n hx hb dL_law_148 rfl (lv_at hl 2 rfl) ?_
      refine lv_aload_n hx hb dL_law_149 rfl (lv_at hl 1 rfl) ?_
      refine lv_iload_n hx hb dL_law_150 rfl (lv_at hl 0 rfl) ?_
      refine lv_iconst (v := 1) hx hb dL_law_151 (by decide) ?_
      refine lv_iadd hx hb dL_law_152 ?_
      refine va_sld hx hb hX hbl hbA hS hi1 dL_law_153 ?_
      obtain ⟨v, c1, r1, e1, e2, hI1⟩ := (hst k cc0 r0 (by omega) hI).2.1 (xs ((nI (4 * k)) + 1).toNatClampNeg)
      refine fr_iG (M := mainC cyI cyO ad had sad cc0) (M' := mainC cyI cyO ad had sad c1) (L' := mainC cyI cyO ad had sad c1 ++ modelC cyI am r0) (F := modelC cyI am r0) (va_runV (As := [.int (xs ((nI (4 * k)) + 1).toNatClampNeg)]) (rest := []) ⟨hx, hb, hml, hown, hts⟩ (uX7_wear l dC dI cyI cyO ad had sad cc0 c1 (xs ((nI (4 * k)) + 1).toNatClampNeg) v e1 _) (cwV 1 hts (gVL ml_L_13 im_X7_wear se_X7_wear in_X7 co_X7_wear) rfl rfl rfl (by decide +kernel) ⟨Nat.le_of_ble_eq_true rfl, Nat.le_of_ble_eq_true rfl⟩) (cP_VG hK hP hD (List.Perm.refl _) 0 rfl rfl) rfl rfl hl.1 rfl (lv_room (Nat.le_of_ble_eq_true rfl)) dL_law_154 ⟨by show 187 + 21 * k + 0 ≤ 600000; omega, by show 13666 + 706 * k + 0 ≤ 7302250; omega⟩) hP hD hS hA (List.Perm.refl _) (List.Perm.refl _) (mainC_ads (oX7_wear e1)) (fun H locs hP hD hS => ?_)
      refine lv_aload_n hx hb dL_law_157 rfl (lv_at hl 3 rfl) ?_
      refine lv_aload_n hx hb dL_law_158 rfl (lv_at hl 1 rfl) ?_
      refine lv_iload_n hx hb dL_law_159 rfl (lv_at hl 0 rfl) ?_
      refine lv_iconst (v := 1) hx hb dL_law_160 (by decide) ?_
      refine lv_iadd hx hb dL_law_161 ?_
      refine va_sld hx hb hX hbl hbA hS hi1 dL_law_162 ?_
      refine fr_iG (M := modelC cyI am r0) (M' := modelC cyI am r1) (L' := mainC cyI cyO ad had sad c1 ++ modelC cyI am r1) (F := mainC cyI cyO ad had sad c1) (va_runV (As := [.int (xs ((nI (4 * k)) + 1).toNatClampNeg)]) (rest := [.int v]) ⟨hx, hb, hml, hown, hts⟩ (uX8_wear l dC dI cyI cyO am r0 r1 (xs ((nI (4 * k)) + 1).toNatClampNeg) v e2 _) (cwV 1 hts (gVL ml_L_17 im_X8_wear se_X8_wear in_X8 co_X8_wear) rfl rfl rfl (by decide +kernel) ⟨Nat.le_of_ble_eq_true rfl, Nat.le_of_ble_eq_true rfl⟩) (cP_VG hK hP hD List.perm_append_comm 0 rfl rfl) rfl rfl hl.1 rfl (lv_room (Nat.le_of_ble_eq_true rfl)) dL_law_163 ⟨by show 187 + 21 * k + 0 ≤ 600000; omega, by show 13666 + 706 * k + 0 ≤ 7302250; omega⟩) hP hD hS hA List.perm_append_comm List.perm_append_comm rfl (fun H locs hP hD hS => ?_)
      refine lv_icmp_eq (tgt := 823) hx hb dL_law_166 (by decide) (fun _ => ?_) (fun z => absurd rfl z)
      refine W.widen (k := 187 + 21 * (k + 1)) (n := 13666 + 706 * (k + 1)) (by omega) (by omega) ?_
      exact K c1 r1 sad _ _ hI1 hP hD hS ls hl
    by_cases z1 : op = 1
    · refine lv_tableIn (off := 139) (tgt := 171) hx hb dL_law_32 (by rw [z1]; decide) (by rw [z1]; decide) (by rw [z1]; first | done | rfl) (by decide) ?_
      refine lv_aload_n hx hb dL_law_171 rfl (lv_at hl 2 rfl) ?_
      refine lv_aload_n hx hb dL_law_172 rfl (lv_at hl 1 rfl) ?_
      refine lv_iload_n hx hb dL_law_173 rfl (lv_at hl 0 rfl) ?_
      refine lv_iconst (v := 1) hx hb dL_law_174 (by decide) ?_
      refine lv_iadd hx hb dL_law_175 ?_
      refine va_sld hx hb hX hbl hbA hS hi1 dL_law_176 ?_
      obtain ⟨v, c1, r1, e1, e2, hI1⟩ := (hst k cc0 r0 (by omega) hI).2.2.1 (xs ((nI (4 * k)) + 1).toNatClampNeg)
      refine fr_iG (M := mainC cyI cyO ad had sad cc0) (M' := mainC cyI cyO ad had sad c1) (L' := mainC cyI cyO ad had sad c1 ++ modelC cyI am r0) (F := modelC cyI am r0) (va_runV (As := [.int (xs ((nI (4 * k)) + 1).toNatClampNeg)]) (rest := []) ⟨hx, hb, hml, hown, hts⟩ (uX7_key l dC dI cyI cyO ad had sad cc0 c1 (xs ((nI (4 * k)) + 1).toNatClampNeg) v e1 _) (cwV 1 hts (gVL ml_L_18 im_X7_key se_X7_key in_X7 co_X7_key) rfl rfl rfl (by decide +kernel) ⟨Nat.le_of_ble_eq_true rfl, Nat.le_of_ble_eq_true rfl⟩) (cP_VG hK hP hD (List.Perm.refl _) 0 rfl rfl) rfl rfl hl.1 rfl (lv_room (Nat.le_of_ble_eq_true rfl)) dL_law_177 ⟨by show 187 + 21 * k + 0 ≤ 600000; omega, by show 13666 + 706 * k + 0 ≤ 7302250; omega⟩) hP hD hS hA (List.Perm.refl _) (List.Perm.refl _) (mainC_ads (oX7_key e1)) (fun H locs hP hD hS => ?_)
      refine lv_aload_n hx hb dL_law_180 rfl (lv_at hl 3 rfl) ?_
      refine lv_aload_n hx hb dL_law_181 rfl (lv_at hl 1 rfl) ?_
      refine lv_iload_n hx hb dL_law_182 rfl (lv_at hl 0 rfl) ?_
      refine lv_iconst (v := 1) hx hb dL_law_183 (by decide) ?_
      refine lv_iadd hx hb dL_law_184 ?_
      refine va_sld hx hb hX hbl hbA hS hi1 dL_law_185 ?_
      refine fr_iG (M := modelC cyI am r0) (M' := modelC cyI am r1) (L' := mainC cyI cyO ad had sad c1 ++ modelC cyI am r1) (F := mainC cyI cyO ad had sad c1) (va_runV (As := [.int (xs ((nI (4 * k)) + 1).toNatClampNeg)]) (rest := [.int v]) ⟨hx, hb, hml, hown, hts⟩ (uX8_key l dC dI cyI cyO am r0 r1 (xs ((nI (4 * k)) + 1).toNatClampNeg) v e2 _) (cwV 1 hts (gVL ml_L_21 im_X8_key se_X8_key in_X8 co_X8_key) rfl rfl rfl (by decide +kernel) ⟨Nat.le_of_ble_eq_true rfl, Nat.le_of_ble_eq_true rfl⟩) (cP_VG hK hP hD List.perm_append_comm 0 rfl rfl) rfl rfl hl.1 rfl (lv_room (Nat.le_of_ble_eq_true rfl)) dL_law_186 ⟨by show 187 + 21 * k + 0 ≤ 600000; omega, by show 13666 + 706 * k + 0 ≤ 7302250; omega⟩) hP hD hS hA List.perm_append_comm List.perm_append_comm rfl (fun H locs hP hD hS => ?_)
      refine lv_icmp_eq (tgt := 823) hx hb dL_law_189 (by decide) (fun _ => ?_) (fun z => absurd rfl z)
      refine W.widen (k := 187 + 21 * (k + 1)) (n := 13666 + 706 * (k + 1)) (by omega) (by omega) ?_
      exact K c1 r1 sad _ _ hI1 hP hD hS ls hl
    by_cases z2 : op = 2
    · refine lv_tableIn (off := 162) (tgt := 194) hx hb dL_law_32 (by rw [z2]; decide) (by rw [z2]; decide) (by rw [z2]; first | done | rfl) (by decide) ?_
      refine lv_aload_n hx hb dL_law_194 rfl (lv_at hl 2 rfl) ?_
      refine lv_aload_n hx hb dL_law_195 rfl (lv_at hl 1 rfl) ?_
      refine lv_iload_n hx hb dL_law_196 rfl (lv_at hl 0 rfl) ?_
      refine lv_iconst (v := 1) hx hb dL_law_197 (by decide) ?_
      refine lv_iadd hx hb dL_law_198 ?_
      refine va_sld hx hb hX hbl hbA hS hi1 dL_law_199 ?_
      obtain ⟨v, c1, r1, e1, e2, hI1⟩ := (hst k cc0 r0 (by omega) hI).2.2.2.1 (xs ((nI (4 * k)) + 1).toNatClampNeg)
      refine fr_iG (M := mainC cyI cyO ad had sad cc0) (M' := mainC cyI cyO ad had sad c1) (L' := mainC cyI cyO ad had sad c1 ++ modelC cyI am r0) (F := modelC cyI am r0) (va_runV (As := [.int (xs ((nI (4 * k)) + 1).toNatClampNeg)]) (rest := []) ⟨hx, hb, hml, hown, hts⟩ (uX7_box l dC dI cyI cyO ad had sad cc0 c1 (xs ((nI (4 * k)) + 1).toNatClampNeg) v e1 _) (cwV 1 hts (gVL ml_L_22 im_X7_box se_X7_box in_X7 co_X7_box) rfl rfl rfl (by decide +kernel) ⟨Nat.le_of_ble_eq_true rfl, Nat.le_of_ble_eq_true rfl⟩) (cP_VG hK hP hD (List.Perm.refl _) 0 rfl rfl) rfl rfl hl.1 rfl (lv_room (Nat.le_of_ble_eq_true rfl)) dL_law_200 ⟨by show 187 + 21 * k + 0 ≤ 600000; omega, by show 13666 + 706 * k + 0 ≤ 7302250; omega⟩) hP hD hS hA (List.Perm.refl _) (List.Perm.refl _) (mainC_ads (oX7_box e1)) (fun H locs hP hD hS => ?_)
      refine lv_aload_n hx hb dL_law_203 rfl (lv_at hl 3 rfl) ?_
      refine lv_aload_n hx hb dL_law_204 rfl (lv_at hl 1 rfl) ?_
      refine lv_iload_n hx hb dL_law_205 rfl (lv_at hl 0 rfl) ?_
      refine lv_iconst (v := 1) hx hb dL_law_206 (by decide) ?_
      refine lv_iadd hx hb dL_law_207 ?_
      refine va_sld hx hb hX hbl hbA hS hi1 dL_law_208 ?_
      refine fr_iG (M := modelC cyI am r0) (M' := modelC cyI am r1) (L' := mainC cyI cyO ad had sad c1 ++ modelC cyI am r1) (F := mainC cyI cyO ad had sad c1) (va_runV (As := [.int (xs ((nI (4 * k)) + 1).toNatClampNeg)]) (rest := [.int v]) ⟨hx, hb, hml, hown, hts⟩ (uX8_box l dC dI cyI cyO am r0 r1 (xs ((nI (4 * k)) + 1).toNatClampNeg) v e2 _) (cwV 1 hts (gVL ml_L_25 im_X8_box se_X8_box in_X8 co_X8_box) rfl rfl rfl (by decide +kernel) ⟨Nat.le_of_ble_eq_true rfl, Nat.le_of_ble_eq_true rfl⟩) (cP_VG hK hP hD List.perm_append_comm 0 rfl rfl) rfl rfl hl.1 rfl (lv_room (Nat.le_of_ble_eq_true rfl)) dL_law_209 ⟨by show 187 + 21 * k + 0 ≤ 600000; omega, by show 13666 + 706 * k + 0 ≤ 7302250; omega⟩) hP hD hS hA List.perm_append_comm List.perm_append_comm rfl (fun H locs hP hD hS => ?_)
      refine lv_icmp_eq (tgt := 823) hx hb dL_law_212 (by decide) (fun _ => ?_) (fun z => absurd rfl z)
      refine W.widen (k := 187 + 21 * (k + 1)) (n := 13666 + 706 * (k + 1)) (by omega) (by omega) ?_
      exact K c1 r1 sad _ _ hI1 hP hD hS ls hl
    by_cases z3 : op = 3
    · refine lv_tableIn (off := 185) (tgt := 217) hx hb dL_law_32 (by rw [z3]; decide) (by rw [z3]; decide) (by rw [z3]; first | done | rfl) (by decide) ?_
      refine lv_aload_n hx hb dL_law_217 rfl (lv_at hl 2 rfl) ?_
      refine lv_aload_n hx hb dL_law_218 rfl (lv_at hl 1 rfl) ?_
      refine lv_iload_n hx hb dL_law_219 rfl (lv_at hl 0 rfl) ?_
      refine lv_iconst (v := 1) hx hb dL_law_220 (by decide) ?_
      refine lv_iadd hx hb dL_law_221 ?_
      refine va_sld hx hb hX hbl hbA hS hi1 dL_law_222 ?_
      refine lv_aload_n hx hb dL_law_223 rfl (lv_at hl 1 rfl) ?_
      refine lv_iload_n hx hb dL_law_224 rfl (lv_at hl 0 rfl) ?_
      refine lv_iconst (v := 2) hx hb dL_law_225 (by decide) ?_
      refine lv_iadd hx hb dL_law_226 ?_
      refine va_sld hx hb hX hbl hbA hS hi2 dL_law_227 ?_
      obtain ⟨v, c1, r1, e1, e2, hI1⟩ := (hst k cc0 r0 (by omega) hI).2.2.2.2.1 (xs ((nI (4 * k)) + 1).toNatClampNeg) (xs ((nI (4 * k)) + 2).toNatClampNeg)
      refine fr_iG (M := mainC cyI cyO ad had sad cc0) (M' := mainC cyI cyO ad had sad c1) (L' := mainC cyI cyO ad had sad c1 ++ modelC cyI am r0) (F := modelC cyI am r0) (va_runV (As := [.int (xs ((nI (4 * k)) + 1).toNatClampNeg), .int (xs ((nI (4 * k)) + 2).toNatClampNeg)]) (rest := []) ⟨hx, hb, hml, hown, hts⟩ (uX7_copy l dC dI cyI cyO ad had sad cc0 c1 (xs ((nI (4 * k)) + 1).toNatClampNeg) (xs ((nI (4 * k)) + 2).toNatClampNeg) v e1 _) (cwV 2 hts (gVL ml_L_26 im_X7_copy se_X7_copy in_X7 co_X7_copy) rfl rfl rfl (by decide +kernel) ⟨Nat.le_of_ble_eq_true rfl, Nat.le_of_ble_eq_true rfl⟩) (cP_VG hK hP hD (List.Perm.refl _) 0 rfl rfl) rfl rfl hl.1 rfl (lv_room (Nat.le_of_ble_eq_true rfl)) dL_law_228 ⟨by show 187 + 21 * k + 0 ≤ 600000; omega, by show 13666 + 706 * k + 0 ≤ 7302250; omega⟩) hP hD hS hA (List.Perm.refl _) (List.Perm.refl _) (mainC_ads (oX7_copy e1)) (fun H locs hP hD hS => ?_)
      refine lv_aload_n hx hb dL_law_231 rfl (lv_at hl 3 rfl) ?_
      refine lv_aload_n hx hb dL_law_232 rfl (lv_at hl 1 rfl) ?_
      refine lv_iload_n hx hb dL_law_233 rfl (lv_at hl 0 rfl) ?_
      refine lv_iconst (v := 1) hx hb dL_law_234 (by decide) ?_
      refine lv_iadd hx hb dL_law_235 ?_
      refine va_sld hx hb hX hbl hbA hS hi1 dL_law_236 ?_
      refine lv_aload_n hx hb dL_law_237 rfl (lv_at hl 1 rfl) ?_
      refine lv_iload_n hx hb dL_law_238 rfl (lv_at hl 0 rfl) ?_
      refine lv_iconst (v := 2) hx hb dL_law_239 (by decide) ?_
      refine lv_iadd hx hb dL_law_240 ?_
      refine va_sld hx hb hX hbl hbA hS hi2 dL_law_241 ?_
      refine fr_iG (M := modelC cyI am r0) (M' := modelC cyI am r1) (L' := mainC cyI cyO ad had sad c1 ++ modelC cyI am r1) (F := mainC cyI cyO ad had sad c1) (va_runV (As := [.int (xs ((nI (4 * k)) + 1).toNatClampNeg), .int (xs ((nI (4 * k)) + 2).toNatClampNeg)]) (rest := [.int v]) ⟨hx, hb, hml, hown, hts⟩ (uX8_copy l dC dI cyI cyO am r0 r1 (xs ((nI (4 * k)) + 1).toNatClampNeg) (xs ((nI (4 * k)) + 2).toNatClampNeg) v e2 _) (cwV 2 hts (gVL ml_L_30 im_X8_copy se_X8_copy in_X8 co_X8_copy) rfl rfl rfl (by decide +kernel) ⟨Nat.le_of_ble_eq_true rfl, Nat.le_of_ble_eq_true rfl⟩) (cP_VG hK hP hD List.perm_append_comm 0 rfl rfl) rfl rfl hl.1 rfl (lv_room (Nat.le_of_ble_eq_true rfl)) dL_law_242 ⟨by show 187 + 21 * k + 0 ≤ 600000; omega, by show 13666 + 706 * k + 0 ≤ 7302250; omega⟩) hP hD hS hA List.perm_append_comm List.perm_append_comm rfl (fun H locs hP hD hS => ?_)
      refine lv_icmp_eq (tgt := 823) hx hb dL_law_245 (by decide) (fun _ => ?_) (fun z => absurd rfl z)
      refine W.widen (k := 187 + 21 * (k + 1)) (n := 13666 + 706 * (k + 1)) (by omega) (by omega) ?_
      exact K c1 r1 sad _ _ hI1 hP hD hS ls hl
    by_cases z4 : op = 4
    · refine lv_tableIn (off := 218) (tgt := 250) hx hb dL_law_32 (by rw [z4]; decide) (by rw [z4]; decide) (by rw [z4]; first | done | rfl) (by decide) ?_
      refine lv_aload_n hx hb dL_law_250 rfl (lv_at hl 2 rfl) ?_
      refine lv_aload_n hx hb dL_law_251 rfl (lv_at hl 1 rfl) ?_
      refine lv_iload_n hx hb dL_law_252 rfl (lv_at hl 0 rfl) ?_
      refine lv_iconst (v := 1) hx hb dL_law_253 (by decide) ?_
      refine lv_iadd hx hb dL_law_254 ?_
      refine va_sld hx hb hX hbl hbA hS hi1 dL_law_255 ?_
      obtain ⟨v, c1, r1, e1, e2, hI1⟩ := (hst k cc0 r0 (by omega) hI).2.2.2.2.2.1 (xs ((nI (4 * k)) + 1).toNatClampNeg)
      refine fr_iG (M := mainC cyI cyO ad had sad cc0) (M' := mainC cyI cyO ad had sad c1) (L' := mainC cyI cyO ad had sad c1 ++ modelC cyI am r0) (F := modelC cyI am r0) (va_runV (As := [.int (xs ((nI (4 * k)) + 1).toNatClampNeg)]) (rest := []) ⟨hx, hb, hml, hown, hts⟩ (uX7_renew l dC dI cyI cyO ad had sad cc0 c1 (xs ((nI (4 * k)) + 1).toNatClampNeg) v e1 _) (cwV 1 hts (gVL ml_L_31 im_X7_renew se_X7_renew in_X7 co_X7_renew) rfl rfl rfl (by decide +kernel) ⟨Nat.le_of_ble_eq_true rfl, Nat.le_of_ble_eq_true rfl⟩) (cP_VG hK hP hD (List.Perm.refl _) 0 rfl rfl) rfl rfl hl.1 rfl (lv_room (Nat.le_of_ble_eq_true rfl)) dL_law_256 ⟨by show 187 + 21 * k + 0 ≤ 600000; omega, by show 13666 + 706 * k + 0 ≤ 7302250; omega⟩) hP hD hS hA (List.Perm.refl _) (List.Perm.refl _) (mainC_ads (oX7_renew e1)) (fun H locs hP hD hS => ?_)
      refine lv_aload_n hx hb dL_law_259 rfl (lv_at hl 3 rfl) ?_
      refine lv_aload_n hx hb dL_law_260 rfl (lv_at hl 1 rfl) ?_
      refine lv_iload_n hx hb dL_law_261 rfl (lv_at hl 0 rfl) ?_
      refine lv_iconst (v := 1) hx hb dL_law_262 (by decide) ?_
      refine lv_iadd hx hb dL_law_263 ?_
      refine va_sld hx hb hX hbl hbA hS hi1 dL_law_264 ?_
      refine fr_iG (M := modelC cyI am r0) (M' := modelC cyI am r1) (L' := mainC cyI cyO ad had sad c1 ++ modelC cyI am r1) (F := mainC cyI cyO ad had sad c1) (va_runV (As := [.int (xs ((nI (4 * k)) + 1).toNatClampNeg)]) (rest := [.int v]) ⟨hx, hb, hml, hown, hts⟩ (uX8_renew l dC dI cyI cyO am r0 r1 (xs ((nI (4 * k)) + 1).toNatClampNeg) v e2 _) (cwV 1 hts (gVL ml_L_34 im_X8_renew se_X8_renew in_X8 co_X8_renew) rfl rfl rfl (by decide +kernel) ⟨Nat.le_of_ble_eq_true rfl, Nat.le_of_ble_eq_true rfl⟩) (cP_VG hK hP hD List.perm_append_comm 0 rfl rfl) rfl rfl hl.1 rfl (lv_room (Nat.le_of_ble_eq_true rfl)) dL_law_265 ⟨by show 187 + 21 * k + 0 ≤ 600000; omega, by show 13666 + 706 * k + 0 ≤ 7302250; omega⟩) hP hD hS hA List.perm_append_comm List.perm_append_comm rfl (fun H locs hP hD hS => ?_)
      refine lv_icmp_eq (tgt := 823) hx hb dL_law_268 (by decide) (fun _ => ?_) (fun z => absurd rfl z)
      refine W.widen (k := 187 + 21 * (k + 1)) (n := 13666 + 706 * (k + 1)) (by omega) (by omega) ?_
      exact K c1 r1 sad _ _ hI1 hP hD hS ls hl
    by_cases z5 : op = 5
    · refine lv_tableIn (off := 241) (tgt := 273) hx hb dL_law_32 (by rw [z5]; decide) (by rw [z5]; decide) (by rw [z5]; first | done | rfl) (by decide) ?_
      refine lv_aload_n hx hb dL_law_273 rfl (lv_at hl 2 rfl) ?_
      refine lv_aload_n hx hb dL_law_274 rfl (lv_at hl 1 rfl) ?_
      refine lv_iload_n hx hb dL_law_275 rfl (lv_at hl 0 rfl) ?_
      refine lv_iconst (v := 1) hx hb dL_law_276 (by decide) ?_
      refine lv_iadd hx hb dL_law_277 ?_
      refine va_sld hx hb hX hbl hbA hS hi1 dL_law_278 ?_
      obtain ⟨v, c1, r1, e1, e2, hI1⟩ := (hst k cc0 r0 (by omega) hI).2.2.2.2.2.2.1 (xs ((nI (4 * k)) + 1).toNatClampNeg)
      refine fr_iG (M := mainC cyI cyO ad had sad cc0) (M' := mainC cyI cyO ad had sad c1) (L' := mainC cyI cyO ad had sad c1 ++ modelC cyI am r0) (F := modelC cyI am r0) (va_runV (As := [.int (xs ((nI (4 * k)) + 1).toNatClampNeg)]) (rest := []) ⟨hx, hb, hml, hown, hts⟩ (uX7_throwKey l dC dI cyI cyO ad had sad cc0 c1 (xs ((nI (4 * k)) + 1).toNatClampNeg) v e1 _) (cwV 1 hts (gVL ml_L_35 im_X7_throwKey se_X7_throwKey in_X7 co_X7_throwKey) rfl rfl rfl (by decide +kernel) ⟨Nat.le_of_ble_eq_true rfl, Nat.le_of_ble_eq_true rfl⟩) (cP_VG hK hP hD (List.Perm.refl _) 0 rfl rfl) rfl rfl hl.1 rfl (lv_room (Nat.le_of_ble_eq_true rfl)) dL_law_279 ⟨by show 187 + 21 * k + 0 ≤ 600000; omega, by show 13666 + 706 * k + 0 ≤ 7302250; omega⟩) hP hD hS hA (List.Perm.refl _) (List.Perm.refl _) (mainC_ads (oX7_throwKey e1)) (fun H locs hP hD hS => ?_)
      refine lv_aload_n hx hb dL_law_282 rfl (lv_at hl 3 rfl) ?_
      refine lv_aload_n hx hb dL_law_283 rfl (lv_at hl 1 rfl) ?_
      refine lv_iload_n hx hb dL_law_284 rfl (lv_at hl 0 rfl) ?_
      refine lv_iconst (v := 1) hx hb dL_law_285 (by decide) ?_
      refine lv_iadd hx hb dL_law_286 ?_
      refine va_sld hx hb hX hbl hbA hS hi1 dL_law_287 ?_
      refine fr_iG (M := modelC cyI am r0) (M' := modelC cyI am r1) (L' := mainC cyI cyO ad had sad c1 ++ modelC cyI am r1) (F := mainC cyI cyO ad had sad c1) (va_runV (As := [.int (xs ((nI (4 * k)) + 1).toNatClampNeg)]) (rest := [.int v]) ⟨hx, hb, hml, hown, hts⟩ (uX8_throwKey l dC dI cyI cyO am r0 r1 (xs ((nI (4 * k)) + 1).toNatClampNeg) v e2 _) (cwV 1 hts (gVL ml_L_38 im_X8_throwKey se_X8_throwKey in_X8 co_X8_throwKey) rfl rfl rfl (by decide +kernel) ⟨Nat.le_of_ble_eq_true rfl, Nat.le_of_ble_eq_true rfl⟩) (cP_VG hK hP hD List.perm_append_comm 0 rfl rfl) rfl rfl hl.1 rfl (lv_room (Nat.le_of_ble_eq_true rfl)) dL_law_288 ⟨by show 187 + 21 * k + 0 ≤ 600000; omega, by show 13666 + 706 * k + 0 ≤ 7302250; omega⟩) hP hD hS hA List.perm_append_comm List.perm_append_comm rfl (fun H locs hP hD hS => ?_)
      refine lv_icmp_eq (tgt := 823) hx hb dL_law_291 (by decide) (fun _ => ?_) (fun z => absurd rfl z)
      refine W.widen (k := 187 + 21 * (k + 1)) (n := 13666 + 706 * (k + 1)) (by omega) (by omega) ?_
      exact K c1 r1 sad _ _ hI1 hP hD hS ls hl
    by_cases z6 : op = 6
    · refine lv_tableIn (off := 264) (tgt := 296) hx hb dL_law_32 (by rw [z6]; decide) (by rw [z6]; decide) (by rw [z6]; first | done | rfl) (by decide) ?_
      refine lv_aload_n hx hb dL_law_296 rfl (lv_at hl 2 rfl) ?_
      refine lv_aload_n hx hb dL_law_297 rfl (lv_at hl 1 rfl) ?_
      refine lv_iload_n hx hb dL_law_298 rfl (lv_at hl 0 rfl) ?_
      refine lv_iconst (v := 1) hx hb dL_law_299 (by decide) ?_
      refine lv_iadd hx hb dL_law_300 ?_
      refine va_sld hx hb hX hbl hbA hS hi1 dL_law_301 ?_
      obtain ⟨v, c1, r1, e1, e2, hI1⟩ := (hst k cc0 r0 (by omega) hI).2.2.2.2.2.2.2.1 (xs ((nI (4 * k)) + 1).toNatClampNeg)
      refine fr_iG (M := mainC cyI cyO ad had sad cc0) (M' := mainC cyI cyO ad had sad c1) (L' := mainC cyI cyO ad had sad c1 ++ modelC cyI am r0) (F := modelC cyI am r0) (va_runV (As := [.int (xs ((nI (4 * k)) + 1).toNatClampNeg)]) (rest := []) ⟨hx, hb, hml, hown, hts⟩ (uX7_throwBox l dC dI cyI cyO ad had sad cc0 c1 (xs ((nI (4 * k)) + 1).toNatClampNeg) v e1 _) (cwV 1 hts (gVL ml_L_39 im_X7_throwBox se_X7_throwBox in_X7 co_X7_throwBox) rfl rfl rfl (by decide +kernel) ⟨Nat.le_of_ble_eq_true rfl, Nat.le_of_ble_eq_true rfl⟩) (cP_VG hK hP hD (List.Perm.refl _) 0 rfl rfl) rfl rfl hl.1 rfl (lv_room (Nat.le_of_ble_eq_true rfl)) dL_law_302 ⟨by show 187 + 21 * k + 0 ≤ 600000; omega, by show 13666 + 706 * k + 0 ≤ 7302250; omega⟩) hP hD hS hA (List.Perm.refl _) (List.Perm.refl _) (mainC_ads (oX7_throwBox e1)) (fun H locs hP hD hS => ?_)
      refine lv_aload_n hx hb dL_law_305 rfl (lv_at hl 3 rfl) ?_
      refine lv_aload_n hx hb dL_law_306 rfl (lv_at hl 1 rfl) ?_
      refine lv_iload_n hx hb dL_law_307 rfl (lv_at hl 0 rfl) ?_
      refine lv_iconst (v := 1) hx hb dL_law_308 (by decide) ?_
      refine lv_iadd hx hb dL_law_309 ?_
      refine va_sld hx hb hX hbl hbA hS hi1 dL_law_310 ?_
      refine fr_iG (M := modelC cyI am r0) (M' := modelC cyI am r1) (L' := mainC cyI cyO ad had sad c1 ++ modelC cyI am r1) (F := mainC cyI cyO ad had sad c1) (va_runV (As := [.int (xs ((nI (4 * k)) + 1).toNatClampNeg)]) (rest := [.int v]) ⟨hx, hb, hml, hown, hts⟩ (uX8_throwBox l dC dI cyI cyO am r0 r1 (xs ((nI (4 * k)) + 1).toNatClampNeg) v e2 _) (cwV 1 hts (gVL ml_L_42 im_X8_throwBox se_X8_throwBox in_X8 co_X8_throwBox) rfl rfl rfl (by decide +kernel) ⟨Nat.le_of_ble_eq_true rfl, Nat.le_of_ble_eq_true rfl⟩) (cP_VG hK hP hD List.perm_append_comm 0 rfl rfl) rfl rfl hl.1 rfl (lv_room (Nat.le_of_ble_eq_true rfl)) dL_law_311 ⟨by show 187 + 21 * k + 0 ≤ 600000; omega, by show 13666 + 706 * k + 0 ≤ 7302250; omega⟩) hP hD hS hA List.perm_append_comm List.perm_append_comm rfl (fun H locs hP hD hS => ?_)
      refine lv_icmp_eq (tgt := 823) hx hb dL_law_314 (by decide) (fun _ => ?_) (fun z => absurd rfl z)
      refine W.widen (k := 187 + 21 * (k + 1)) (n := 13666 + 706 * (k + 1)) (by omega) (by omega) ?_
      exact K c1 r1 sad _ _ hI1 hP hD hS ls hl
    by_cases z7 : op = 7
    · refine lv_tableIn (off := 287) (tgt := 319) hx hb dL_law_32 (by rw [z7]; decide) (by rw [z7]; decide) (by rw [z7]; first | done | rfl) (by decide) ?_
      refine lv_aload_n hx hb dL_law_319 rfl (lv_at hl 2 rfl) ?_
      refine lv_aload_n hx hb dL_law_320 rfl (lv_at hl 1 rfl) ?_
      refine lv_iload_n hx hb dL_law_321 rfl (lv_at hl 0 rfl) ?_
      refine lv_iconst (v := 1) hx hb dL_law_322 (by decide) ?_
      refine lv_iadd hx hb dL_law_323 ?_
      refine va_sld hx hb hX hbl hbA hS hi1 dL_law_324 ?_
      refine lv_aload_n hx hb dL_law_325 rfl (lv_at hl 1 rfl) ?_
      refine lv_iload_n hx hb dL_law_326 rfl (lv_at hl 0 rfl) ?_
      refine lv_iconst (v := 2) hx hb dL_law_327 (by decide) ?_
      refine lv_iadd hx hb dL_law_328 ?_
      refine va_sld hx hb hX hbl hbA hS hi2 dL_law_329 ?_
      obtain ⟨v, c1, r1, e1, e2, hI1⟩ := (hst k cc0 r0 (by omega) hI).2.2.2.2.2.2.2.2.1 (xs ((nI (4 * k)) + 1).toNatClampNeg) (xs ((nI (4 * k)) + 2).toNatClampNeg)
      refine fr_iG (M := mainC cyI cyO ad had sad cc0) (M' := mainC cyI cyO ad had sad c1) (L' := mainC cyI cyO ad had sad c1 ++ modelC cyI am r0) (F := modelC cyI am r0) (va_runV (As := [.int (xs ((nI (4 * k)) + 1).toNatClampNeg), .int (xs ((nI (4 * k)) + 2).toNatClampNeg)]) (rest := []) ⟨hx, hb, hml, hown, hts⟩ (uX7_ofKey l dC dI cyI cyO ad had sad cc0 c1 (xs ((nI (4 * k)) + 1).toNatClampNeg) (xs ((nI (4 * k)) + 2).toNatClampNeg) v e1 _) (cwV 2 hts (gVL ml_L_43 im_X7_ofKey se_X7_ofKey in_X7 co_X7_ofKey) rfl rfl rfl (by decide +kernel) ⟨Nat.le_of_ble_eq_true rfl, Nat.le_of_ble_eq_true rfl⟩) (cP_VG hK hP hD (List.Perm.refl _) 0 rfl rfl) rfl rfl hl.1 rfl (lv_room (Nat.le_of_ble_eq_true rfl)) dL_law_330 ⟨by show 187 + 21 * k + 0 ≤ 600000; omega, by show 13666 + 706 * k + 0 ≤ 7302250; omega⟩) hP hD hS hA (List.Perm.refl _) (List.Perm.refl _) (mainC_ads (oX7_ofKey e1)) (fun H locs hP hD hS => ?_)
      refine lv_aload_n hx hb dL_law_333 rfl (lv_at hl 3 rfl) ?_
      refine lv_aload_n hx hb dL_law_334 rfl (lv_at hl 1 rfl) ?_
      refine lv_iload_n hx hb dL_law_335 rfl (lv_at hl 0 rfl) ?_
      refine lv_iconst (v := 1) hx hb dL_law_336 (by decide) ?_
      refine lv_iadd hx hb dL_law_337 ?_
      refine va_sld hx hb hX hbl hbA hS hi1 dL_law_338 ?_
      refine lv_aload_n hx hb dL_law_339 rfl (lv_at hl 1 rfl) ?_
      refine lv_iload_n hx hb dL_law_340 rfl (lv_at hl 0 rfl) ?_
      refine lv_iconst (v := 2) hx hb dL_law_341 (by decide) ?_
      refine lv_iadd hx hb dL_law_342 ?_
      refine va_sld hx hb hX hbl hbA hS hi2 dL_law_343 ?_
      refine fr_iG (M := modelC cyI am r0) (M' := modelC cyI am r1) (L' := mainC cyI cyO ad had sad c1 ++ modelC cyI am r1) (F := mainC cyI cyO ad had sad c1) (va_runV (As := [.int (xs ((nI (4 * k)) + 1).toNatClampNeg), .int (xs ((nI (4 * k)) + 2).toNatClampNeg)]) (rest := [.int v]) ⟨hx, hb, hml, hown, hts⟩ (uX8_ofKey l dC dI cyI cyO am r0 r1 (xs ((nI (4 * k)) + 1).toNatClampNeg) (xs ((nI (4 * k)) + 2).toNatClampNeg) v e2 _) (cwV 2 hts (gVL ml_L_46 im_X8_ofKey se_X8_ofKey in_X8 co_X8_ofKey) rfl rfl rfl (by decide +kernel) ⟨Nat.le_of_ble_eq_true rfl, Nat.le_of_ble_eq_true rfl⟩) (cP_VG hK hP hD List.perm_append_comm 0 rfl rfl) rfl rfl hl.1 rfl (lv_room (Nat.le_of_ble_eq_true rfl)) dL_law_344 ⟨by show 187 + 21 * k + 0 ≤ 600000; omega, by show 13666 + 706 * k + 0 ≤ 7302250; omega⟩) hP hD hS hA List.perm_append_comm List.perm_append_comm rfl (fun H locs hP hD hS => ?_)
      refine lv_icmp_eq (tgt := 823) hx hb dL_law_347 (by decide) (fun _ => ?_) (fun z => absurd rfl z)
      refine W.widen (k := 187 + 21 * (k + 1)) (n := 13666 + 706 * (k + 1)) (by omega) (by omega) ?_
      exact K c1 r1 sad _ _ hI1 hP hD hS ls hl
    by_cases z8 : op = 8
    · refine lv_tableIn (off := 320) (tgt := 352) hx hb dL_law_32 (by rw [z8]; decide) (by rw [z8]; decide) (by rw [z8]; first | done | rfl) (by decide) ?_
      refine lv_aload_n hx hb dL_law_352 rfl (lv_at hl 2 rfl) ?_
      refine lv_aload_n hx hb dL_law_353 rfl (lv_at hl 1 rfl) ?_
      refine lv_iload_n hx hb dL_law_354 rfl (lv_at hl 0 rfl) ?_
      refine lv_iconst (v := 1) hx hb dL_law_355 (by decide) ?_
      refine lv_iadd hx hb dL_law_356 ?_
      refine va_sld hx hb hX hbl hbA hS hi1 dL_law_357 ?_
      refine lv_aload_n hx hb dL_law_358 rfl (lv_at hl 1 rfl) ?_
      refine lv_iload_n hx hb dL_law_359 rfl (lv_at hl 0 rfl) ?_
      refine lv_iconst (v := 2) hx hb dL_law_360 (by decide) ?_
      refine lv_iadd hx hb dL_law_361 ?_
      refine va_sld hx hb hX hbl hbA hS hi2 dL_law_362 ?_
      obtain ⟨v, c1, r1, e1, e2, hI1⟩ := (hst k cc0 r0 (by omega) hI).2.2.2.2.2.2.2.2.2.1 (xs ((nI (4 * k)) + 1).toNatClampNeg) (xs ((nI (4 * k)) + 2).toNatClampNeg)
      refine fr_iG (M := mainC cyI cyO ad had sad cc0) (M' := mainC cyI cyO ad had sad c1) (L' := mainC cyI cyO ad had sad c1 ++ modelC cyI am r0) (F := modelC cyI am r0) (va_runV (As := [.int (xs ((nI (4 * k)) + 1).toNatClampNeg), .int (xs ((nI (4 * k)) + 2).toNatClampNeg)]) (rest := []) ⟨hx, hb, hml, hown, hts⟩ (uX7_ofBox l dC dI cyI cyO ad had sad cc0 c1 (xs ((nI (4 * k)) + 1).toNatClampNeg) (xs ((nI (4 * k)) + 2).toNatClampNeg) v e1 _) (cwV 2 hts (gVL ml_L_47 im_X7_ofBox se_X7_ofBox in_X7 co_X7_ofBox) rfl rfl rfl (by decide +kernel) ⟨Nat.le_of_ble_eq_true rfl, Nat.le_of_ble_eq_true rfl⟩) (cP_VG hK hP hD (List.Perm.refl _) 0 rfl rfl) rfl rfl hl.1 rfl (lv_room (Nat.le_of_ble_eq_true rfl)) dL_law_363 ⟨by show 187 + 21 * k + 0 ≤ 600000; omega, by show 13666 + 706 * k + 0 ≤ 7302250; omega⟩) hP hD hS hA (List.Perm.refl _) (List.Perm.refl _) (mainC_ads (oX7_ofBox e1)) (fun H locs hP hD hS => ?_)
      refine lv_aload_n hx hb dL_law_366 rfl (lv_at hl 3 rfl) ?_
      refine lv_aload_n hx hb dL_law_367 rfl (lv_at hl 1 rfl) ?_
      refine lv_iload_n hx hb dL_law_368 rfl (lv_at hl 0 rfl) ?_
      refine lv_iconst (v := 1) hx hb dL_law_369 (by decide) ?_
      refine lv_iadd hx hb dL_law_370 ?_
      refine va_sld hx hb hX hbl hbA hS hi1 dL_law_371 ?_
      refine lv_aload_n hx hb dL_law_372 rfl (lv_at hl 1 rfl) ?_
      refine lv_iload_n hx hb dL_law_373 rfl (lv_at hl 0 rfl) ?_
      refine lv_iconst (v := 2) hx hb dL_law_374 (by decide) ?_
      refine lv_iadd hx hb dL_law_375 ?_
      refine va_sld hx hb hX hbl hbA hS hi2 dL_law_376 ?_
      refine fr_iG (M := modelC cyI am r0) (M' := modelC cyI am r1) (L' := mainC cyI cyO ad had sad c1 ++ modelC cyI am r1) (F := mainC cyI cyO ad had sad c1) (va_runV (As := [.int (xs ((nI (4 * k)) + 1).toNatClampNeg), .int (xs ((nI (4 * k)) + 2).toNatClampNeg)]) (rest := [.int v]) ⟨hx, hb, hml, hown, hts⟩ (uX8_ofBox l dC dI cyI cyO am r0 r1 (xs ((nI (4 * k)) + 1).toNatClampNeg) (xs ((nI (4 * k)) + 2).toNatClampNeg) v e2 _) (cwV 2 hts (gVL ml_L_50 im_X8_ofBox se_X8_ofBox in_X8 co_X8_ofBox) rfl rfl rfl (by decide +kernel) ⟨Nat.le_of_ble_eq_true rfl, Nat.le_of_ble_eq_true rfl⟩) (cP_VG hK hP hD List.perm_append_comm 0 rfl rfl) rfl rfl hl.1 rfl (lv_room (Nat.le_of_ble_eq_true rfl)) dL_law_377 ⟨by show 187 + 21 * k + 0 ≤ 600000; omega, by show 13666 + 706 * k + 0 ≤ 7302250; omega⟩) hP hD hS hA List.perm_append_comm List.perm_append_comm rfl (fun H locs hP hD hS => ?_)
      refine lv_icmp_eq (tgt := 823) hx hb dL_law_380 (by decide) (fun _ => ?_) (fun z => absurd rfl z)
      refine W.widen (k := 187 + 21 * (k + 1)) (n := 13666 + 706 * (k + 1)) (by omega) (by omega) ?_
      exact K c1 r1 sad _ _ hI1 hP hD hS ls hl
    by_cases z9 : op = 9
    · refine lv_tableIn (off := 353) (tgt := 385) hx hb dL_law_32 (by rw [z9]; decide) (by rw [z9]; decide) (by rw [z9]; first | done | rfl) (by decide) ?_
      refine lv_aload_n hx hb dL_law_385 rfl (lv_at hl 2 rfl) ?_
      refine lv_aload_n hx hb dL_law_386 rfl (lv_at hl 1 rfl) ?_
      refine lv_iload_n hx hb dL_law_387 rfl (lv_at hl 0 rfl) ?_
      refine lv_iconst (v := 1) hx hb dL_law_388 (by decide) ?_
      refine lv_iadd hx hb dL_law_389 ?_
      refine va_sld hx hb hX hbl hbA hS hi1 dL_law_390 ?_
      refine lv_aload_n hx hb dL_law_391 rfl (lv_at hl 1 rfl) ?_
      refine lv_iload_n hx hb dL_law_392 rfl (lv_at hl 0 rfl) ?_
      refine lv_iconst (v := 2) hx hb dL_law_393 (by decide) ?_
      refine lv_iadd hx hb dL_law_394 ?_
      refine va_sld hx hb hX hbl hbA hS hi2 dL_law_395 ?_
      obtain ⟨v, c1, r1, e1, e2, hI1⟩ := (hst k cc0 r0 (by omega) hI).2.2.2.2.2.2.2.2.2.2.1 (xs ((nI (4 * k)) + 1).toNatClampNeg) (xs ((nI (4 * k)) + 2).toNatClampNeg)
      refine fr_iG (M := mainC cyI cyO ad had sad cc0) (M' := mainC cyI cyO ad had sad c1) (L' := mainC cyI cyO ad had sad c1 ++ modelC cyI am r0) (F := modelC cyI am r0) (va_runV (As := [.int (xs ((nI (4 * k)) + 1).toNatClampNeg), .int (xs ((nI (4 * k)) + 2).toNatClampNeg)]) (rest := []) ⟨hx, hb, hml, hown, hts⟩ (uX7_wrap l dC dI cyI cyO ad had sad cc0 c1 (xs ((nI (4 * k)) + 1).toNatClampNeg) (xs ((nI (4 * k)) + 2).toNatClampNeg) v e1 _) (cwV 2 hts (gVL ml_L_51 im_X7_wrap se_X7_wrap in_X7 co_X7_wrap) rfl rfl rfl (by decide +kernel) ⟨Nat.le_of_ble_eq_true rfl, Nat.le_of_ble_eq_true rfl⟩) (cP_VG hK hP hD (List.Perm.refl _) 0 rfl rfl) rfl rfl hl.1 rfl (lv_room (Nat.le_of_ble_eq_true rfl)) dL_law_396 ⟨by show 187 + 21 * k + 0 ≤ 600000; omega, by show 13666 + 706 * k + 0 ≤ 7302250; omega⟩) hP hD hS hA (List.Perm.refl _) (List.Perm.refl _) (mainC_ads (oX7_wrap e1)) (fun H locs hP hD hS => ?_)
      refine lv_aload_n hx hb dL_law_399 rfl (lv_at hl 3 rfl) ?_
      refine lv_aload_n hx hb dL_law_400 rfl (lv_at hl 1 rfl) ?_
      refine lv_iload_n hx hb dL_law_401 rfl (lv_at hl 0 rfl) ?_
      refine lv_iconst (v := 1) hx hb dL_law_402 (by decide) ?_
      refine lv_iadd hx hb dL_law_403 ?_
      refine va_sld hx hb hX hbl hbA hS hi1 dL_law_404 ?_
      refine lv_aload_n hx hb dL_law_405 rfl (lv_at hl 1 rfl) ?_
      refine lv_iload_n hx hb dL_law_406 rfl (lv_at hl 0 rfl) ?_
      refine lv_iconst (v := 2) hx hb dL_law_407 (by decide) ?_
      refine lv_iadd hx hb dL_law_408 ?_
      refine va_sld hx hb hX hbl hbA hS hi2 dL_law_409 ?_
      refine fr_iG (M := modelC cyI am r0) (M' := modelC cyI am r1) (L' := mainC cyI cyO ad had sad c1 ++ modelC cyI am r1) (F := mainC cyI cyO ad had sad c1) (va_runV (As := [.int (xs ((nI (4 * k)) + 1).toNatClampNeg), .int (xs ((nI (4 * k)) + 2).toNatClampNeg)]) (rest := [.int v]) ⟨hx, hb, hml, hown, hts⟩ (uX8_wrap l dC dI cyI cyO am r0 r1 (xs ((nI (4 * k)) + 1).toNatClampNeg) (xs ((nI (4 * k)) + 2).toNatClampNeg) v e2 _) (cwV 2 hts (gVL ml_L_54 im_X8_wrap se_X8_wrap in_X8 co_X8_wrap) rfl rfl rfl (by decide +kernel) ⟨Nat.le_of_ble_eq_true rfl, Nat.le_of_ble_eq_true rfl⟩) (cP_VG hK hP hD List.perm_append_comm 0 rfl rfl) rfl rfl hl.1 rfl (lv_room (Nat.le_of_ble_eq_true rfl)) dL_law_410 ⟨by show 187 + 21 * k + 0 ≤ 600000; omega, by show 13666 + 706 * k + 0 ≤ 7302250; omega⟩) hP hD hS hA List.perm_append_comm List.perm_append_comm rfl (fun H locs hP hD hS => ?_)
      refine lv_icmp_eq (tgt := 823) hx hb dL_law_413 (by decide) (fun _ => ?_) (fun z => absurd rfl z)
      refine W.widen (k := 187 + 21 * (k + 1)) (n := 13666 + 706 * (k + 1)) (by omega) (by omega) ?_
      exact K c1 r1 sad _ _ hI1 hP hD hS ls hl
    by_cases z10 : op = 10
    · refine lv_tableIn (off := 386) (tgt := 418) hx hb dL_law_32 (by rw [z10]; decide) (by rw [z10]; decide) (by rw [z10]; first | done | rfl) (by decide) ?_
      refine lv_aload_n hx hb dL_law_418 rfl (lv_at hl 2 rfl) ?_
      refine lv_aload_n hx hb dL_law_419 rfl (lv_at hl 1 rfl) ?_
      refine lv_iload_n hx hb dL_law_420 rfl (lv_at hl 0 rfl) ?_
      refine lv_iconst (v := 1) hx hb dL_law_421 (by decide) ?_
      refine lv_iadd hx hb dL_law_422 ?_
      refine va_sld hx hb hX hbl hbA hS hi1 dL_law_423 ?_
      obtain ⟨v, c1, r1, e1, e2, hI1⟩ := (hst k cc0 r0 (by omega) hI).2.2.2.2.2.2.2.2.2.2.2.1 (xs ((nI (4 * k)) + 1).toNatClampNeg)
      refine fr_iG (M := mainC cyI cyO ad had sad cc0) (M' := mainC cyI cyO ad had sad c1) (L' := mainC cyI cyO ad had sad c1 ++ modelC cyI am r0) (F := modelC cyI am r0) (va_runV (As := [.int (xs ((nI (4 * k)) + 1).toNatClampNeg)]) (rest := []) ⟨hx, hb, hml, hown, hts⟩ (uX7_count l dC dI cyI cyO ad had sad cc0 c1 (xs ((nI (4 * k)) + 1).toNatClampNeg) v e1 _) (cwV 1 hts (gVL ml_L_55 im_X7_count se_X7_count in_X7 co_X7_count) rfl rfl rfl (by decide +kernel) ⟨Nat.le_of_ble_eq_true rfl, Nat.le_of_ble_eq_true rfl⟩) (cP_VG hK hP hD (List.Perm.refl _) 0 rfl rfl) rfl rfl hl.1 rfl (lv_room (Nat.le_of_ble_eq_true rfl)) dL_law_424 ⟨by show 187 + 21 * k + 0 ≤ 600000; omega, by show 13666 + 706 * k + 0 ≤ 7302250; omega⟩) hP hD hS hA (List.Perm.refl _) (List.Perm.refl _) (mainC_ads (oX7_count e1)) (fun H locs hP hD hS => ?_)
      refine lv_aload_n hx hb dL_law_427 rfl (lv_at hl 3 rfl) ?_
      refine lv_aload_n hx hb dL_law_428 rfl (lv_at hl 1 rfl) ?_
      refine lv_iload_n hx hb dL_law_429 rfl (lv_at hl 0 rfl) ?_
      refine lv_iconst (v := 1) hx hb dL_law_430 (by decide) ?_
      refine lv_iadd hx hb dL_law_431 ?_
      refine va_sld hx hb hX hbl hbA hS hi1 dL_law_432 ?_
      refine fr_iG (M := modelC cyI am r0) (M' := modelC cyI am r1) (L' := mainC cyI cyO ad had sad c1 ++ modelC cyI am r1) (F := mainC cyI cyO ad had sad c1) (va_runV (As := [.int (xs ((nI (4 * k)) + 1).toNatClampNeg)]) (rest := [.int v]) ⟨hx, hb, hml, hown, hts⟩ (uX8_count l dC dI cyI cyO am r0 r1 (xs ((nI (4 * k)) + 1).toNatClampNeg) v e2 _) (cwV 1 hts (gVL ml_L_58 im_X8_count se_X8_count in_X8 co_X8_count) rfl rfl rfl (by decide +kernel) ⟨Nat.le_of_ble_eq_true rfl, Nat.le_of_ble_eq_true rfl⟩) (cP_VG hK hP hD List.perm_append_comm 0 rfl rfl) rfl rfl hl.1 rfl (lv_room (Nat.le_of_ble_eq_true rfl)) dL_law_433 ⟨by show 187 + 21 * k + 0 ≤ 600000; omega, by show 13666 + 706 * k + 0 ≤ 7302250; omega⟩) hP hD hS hA List.perm_append_comm List.perm_append_comm rfl (fun H locs hP hD hS => ?_)
      refine lv_icmp_eq (tgt := 823) hx hb dL_law_436 (by decide) (fun _ => ?_) (fun z => absurd rfl z)
      refine W.widen (k := 187 + 21 * (k + 1)) (n := 13666 + 706 * (k + 1)) (by omega) (by omega) ?_
      exact K c1 r1 sad _ _ hI1 hP hD hS ls hl
    by_cases z11 : op = 11
    · refine lv_tableIn (off := 409) (tgt := 441) hx hb dL_law_32 (by rw [z11]; decide) (by rw [z11]; decide) (by rw [z11]; first | done | rfl) (by decide) ?_
      refine lv_aload_n hx hb dL_law_441 rfl (lv_at hl 2 rfl) ?_
      refine lv_aload_n hx hb dL_law_442 rfl (lv_at hl 1 rfl) ?_
      refine lv_iload_n hx hb dL_law_443 rfl (lv_at hl 0 rfl) ?_
      refine lv_iconst (v := 1) hx hb dL_law_444 (by decide) ?_
      refine lv_iadd hx hb dL_law_445 ?_
      refine va_sld hx hb hX hbl hbA hS hi1 dL_law_446 ?_
      refine lv_aload_n hx hb dL_law_447 rfl (lv_at hl 1 rfl) ?_
      refine lv_iload_n hx hb dL_law_448 rfl (lv_at hl 0 rfl) ?_
      refine lv_iconst (v := 2) hx hb dL_law_449 (by decide) ?_
      refine lv_iadd hx hb dL_law_450 ?_
      refine va_sld hx hb hX hbl hbA hS hi2 dL_law_451 ?_
      obtain ⟨v, c1, r1, e1, e2, hI1⟩ := (hst k cc0 r0 (by omega) hI).2.2.2.2.2.2.2.2.2.2.2.2.1 (xs ((nI (4 * k)) + 1).toNatClampNeg) (xs ((nI (4 * k)) + 2).toNatClampNeg)
      refine fr_iG (M := mainC cyI cyO ad had sad cc0) (M' := mainC cyI cyO ad had sad c1) (L' := mainC cyI cyO ad had sad c1 ++ modelC cyI am r0) (F := modelC cyI am r0) (va_runV (As := [.int (xs ((nI (4 * k)) + 1).toNatClampNeg), .int (xs ((nI (4 * k)) + 2).toNatClampNeg)]) (rest := []) ⟨hx, hb, hml, hown, hts⟩ (uX7_canOpen l dC dI cyI cyO ad had sad cc0 c1 (xs ((nI (4 * k)) + 1).toNatClampNeg) (xs ((nI (4 * k)) + 2).toNatClampNeg) v e1 _) (cwV 2 hts (gVL ml_L_59 im_X7_canOpen se_X7_canOpen in_X7 co_X7_canOpen) rfl rfl rfl (by decide +kernel) ⟨Nat.le_of_ble_eq_true rfl, Nat.le_of_ble_eq_true rfl⟩) (cP_VG hK hP hD (List.Perm.refl _) 0 rfl rfl) rfl rfl hl.1 rfl (lv_room (Nat.le_of_ble_eq_true rfl)) dL_law_452 ⟨by show 187 + 21 * k + 0 ≤ 600000; omega, by show 13666 + 706 * k + 0 ≤ 7302250; omega⟩) hP hD hS hA (List.Perm.refl _) (List.Perm.refl _) (mainC_ads (oX7_canOpen e1)) (fun H locs hP hD hS => ?_)
      refine lv_aload_n hx hb dL_law_455 rfl (lv_at hl 3 rfl) ?_
      refine lv_aload_n hx hb dL_law_456 rfl (lv_at hl 1 rfl) ?_
      refine lv_iload_n hx hb dL_law_457 rfl (lv_at hl 0 rfl) ?_
      refine lv_iconst (v := 1) hx hb dL_law_458 (by decide) ?_
      refine lv_iadd hx hb dL_law_459 ?_
      refine va_sld hx hb hX hbl hbA hS hi1 dL_law_460 ?_
      refine lv_aload_n hx hb dL_law_461 rfl (lv_at hl 1 rfl) ?_
      refine lv_iload_n hx hb dL_law_462 rfl (lv_at hl 0 rfl) ?_
      refine lv_iconst (v := 2) hx hb dL_law_463 (by decide) ?_
      refine lv_iadd hx hb dL_law_464 ?_
      refine va_sld hx hb hX hbl hbA hS hi2 dL_law_465 ?_
      refine fr_iG (M := modelC cyI am r0) (M' := modelC cyI am r1) (L' := mainC cyI cyO ad had sad c1 ++ modelC cyI am r1) (F := mainC cyI cyO ad had sad c1) (va_runV (As := [.int (xs ((nI (4 * k)) + 1).toNatClampNeg), .int (xs ((nI (4 * k)) + 2).toNatClampNeg)]) (rest := [.int v]) ⟨hx, hb, hml, hown, hts⟩ (uX8_canOpen l dC dI cyI cyO am r0 r1 (xs ((nI (4 * k)) + 1).toNatClampNeg) (xs ((nI (4 * k)) + 2).toNatClampNeg) v e2 _) (cwV 2 hts (gVL ml_L_62 im_X8_canOpen se_X8_canOpen in_X8 co_X8_canOpen) rfl rfl rfl (by decide +kernel) ⟨Nat.le_of_ble_eq_true rfl, Nat.le_of_ble_eq_true rfl⟩) (cP_VG hK hP hD List.perm_append_comm 0 rfl rfl) rfl rfl hl.1 rfl (lv_room (Nat.le_of_ble_eq_true rfl)) dL_law_466 ⟨by show 187 + 21 * k + 0 ≤ 600000; omega, by show 13666 + 706 * k + 0 ≤ 7302250; omega⟩) hP hD hS hA List.perm_append_comm List.perm_append_comm rfl (fun H locs hP hD hS => ?_)
      refine lv_icmp_eq (tgt := 823) hx hb dL_law_469 (by decide) (fun _ => ?_) (fun z => absurd rfl z)
      refine W.widen (k := 187 + 21 * (k + 1)) (n := 13666 + 706 * (k + 1)) (by omega) (by omega) ?_
      exact K c1 r1 sad _ _ hI1 hP hD hS ls hl
    by_cases z12 : op = 12
    · refine lv_tableIn (off := 442) (tgt := 474) hx hb dL_law_32 (by rw [z12]; decide) (by rw [z12]; decide) (by rw [z12]; first | done | rfl) (by decide) ?_
      refine lv_aload_n hx hb dL_law_474 rfl (lv_at hl 2 rfl) ?_
      refine lv_aload_n hx hb dL_law_475 rfl (lv_at hl 1 rfl) ?_
      refine lv_iload_n hx hb dL_law_476 rfl (lv_at hl 0 rfl) ?_
      refine lv_iconst (v := 1) hx hb dL_law_477 (by decide) ?_
      refine lv_iadd hx hb dL_law_478 ?_
      refine va_sld hx hb hX hbl hbA hS hi1 dL_law_479 ?_
      refine lv_aload_n hx hb dL_law_480 rfl (lv_at hl 1 rfl) ?_
      refine lv_iload_n hx hb dL_law_481 rfl (lv_at hl 0 rfl) ?_
      refine lv_iconst (v := 2) hx hb dL_law_482 (by decide) ?_
      refine lv_iadd hx hb dL_law_483 ?_
      refine va_sld hx hb hX hbl hbA hS hi2 dL_law_484 ?_
      refine lv_aload_n hx hb dL_law_485 rfl (lv_at hl 1 rfl) ?_
      refine lv_iload_n hx hb dL_law_486 rfl (lv_at hl 0 rfl) ?_
      refine lv_iconst (v := 3) hx hb dL_law_487 (by decide) ?_
      refine lv_iadd hx hb dL_law_488 ?_
      refine va_sld hx hb hX hbl hbA hS hi3 dL_law_489 ?_
      obtain ⟨v, c1, r1, e1, e2, hI1⟩ := (hst k cc0 r0 (by omega) hI).2.2.2.2.2.2.2.2.2.2.2.2.2.1 (xs ((nI (4 * k)) + 1).toNatClampNeg) (xs ((nI (4 * k)) + 2).toNatClampNeg) (xs ((nI (4 * k)) + 3).toNatClampNeg)
      refine fr_iG (M := mainC cyI cyO ad had sad cc0) (M' := mainC cyI cyO ad had sad c1) (L' := mainC cyI cyO ad had sad c1 ++ modelC cyI am r0) (F := modelC cyI am r0) (va_runV (As := [.int (xs ((nI (4 * k)) + 1).toNatClampNeg), .int (xs ((nI (4 * k)) + 2).toNatClampNeg), .int (xs ((nI (4 * k)) + 3).toNatClampNeg)]) (rest := []) ⟨hx, hb, hml, hown, hts⟩ (uX7_canHave l dC dI cyI cyO ad had sad cc0 c1 (xs ((nI (4 * k)) + 1).toNatClampNeg) (xs ((nI (4 * k)) + 2).toNatClampNeg) (xs ((nI (4 * k)) + 3).toNatClampNeg) v e1 _) (cwV 3 hts (gVL ml_L_63 im_X7_canHave se_X7_canHave in_X7 co_X7_canHave) rfl rfl rfl (by decide +kernel) ⟨Nat.le_of_ble_eq_true rfl, Nat.le_of_ble_eq_true rfl⟩) (cP_VG hK hP hD (List.Perm.refl _) 0 rfl rfl) rfl rfl hl.1 rfl (lv_room (Nat.le_of_ble_eq_true rfl)) dL_law_490 ⟨by show 187 + 21 * k + 0 ≤ 600000; omega, by show 13666 + 706 * k + 0 ≤ 7302250; omega⟩) hP hD hS hA (List.Perm.refl _) (List.Perm.refl _) (mainC_ads (oX7_canHave e1)) (fun H locs hP hD hS => ?_)
      refine lv_aload_n hx hb dL_law_493 rfl (lv_at hl 3 rfl) ?_
      refine lv_aload_n hx hb dL_law_494 rfl (lv_at hl 1 rfl) ?_
      refine lv_iload_n hx hb dL_law_495 rfl (lv_at hl 0 rfl) ?_
      refine lv_iconst (v := 1) hx hb dL_law_496 (by decide) ?_
      refine lv_iadd hx hb dL_law_497 ?_
      refine va_sld hx hb hX hbl hbA hS hi1 dL_law_498 ?_
      refine lv_aload_n hx hb dL_law_499 rfl (lv_at hl 1 rfl) ?_
      refine lv_iload_n hx hb dL_law_500 rfl (lv_at hl 0 rfl) ?_
      refine lv_iconst (v := 2) hx hb dL_law_501 (by decide) ?_
      refine lv_iadd hx hb dL_law_502 ?_
      refine va_sld hx hb hX hbl hbA hS hi2 dL_law_503 ?_
      refine lv_aload_n hx hb dL_law_504 rfl (lv_at hl 1 rfl) ?_
      refine lv_iload_n hx hb dL_law_505 rfl (lv_at hl 0 rfl) ?_
      refine lv_iconst (v := 3) hx hb dL_law_506 (by decide) ?_
      refine lv_iadd hx hb dL_law_507 ?_
      refine va_sld hx hb hX hbl hbA hS hi3 dL_law_508 ?_
      refine fr_iG (M := modelC cyI am r0) (M' := modelC cyI am r1) (L' := mainC cyI cyO ad had sad c1 ++ modelC cyI am r1) (F := mainC cyI cyO ad had sad c1) (va_runV (As := [.int (xs ((nI (4 * k)) + 1).toNatClampNeg), .int (xs ((nI (4 * k)) + 2).toNatClampNeg), .int (xs ((nI (4 * k)) + 3).toNatClampNeg)]) (rest := [.int v]) ⟨hx, hb, hml, hown, hts⟩ (uX8_canHave l dC dI cyI cyO am r0 r1 (xs ((nI (4 * k)) + 1).toNatClampNeg) (xs ((nI (4 * k)) + 2).toNatClampNeg) (xs ((nI (4 * k)) + 3).toNatClampNeg) v e2 _) (cwV 3 hts (gVL ml_L_67 im_X8_canHave se_X8_canHave in_X8 co_X8_canHave) rfl rfl rfl (by decide +kernel) ⟨Nat.le_of_ble_eq_true rfl, Nat.le_of_ble_eq_true rfl⟩) (cP_VG hK hP hD List.perm_append_comm 0 rfl rfl) rfl rfl hl.1 rfl (lv_room (Nat.le_of_ble_eq_true rfl)) dL_law_509 ⟨by show 187 + 21 * k + 0 ≤ 600000; omega, by show 13666 + 706 * k + 0 ≤ 7302250; omega⟩) hP hD hS hA List.perm_append_comm List.perm_append_comm rfl (fun H locs hP hD hS => ?_)
      refine lv_icmp_eq (tgt := 823) hx hb dL_law_512 (by decide) (fun _ => ?_) (fun z => absurd rfl z)
      refine W.widen (k := 187 + 21 * (k + 1)) (n := 13666 + 706 * (k + 1)) (by omega) (by omega) ?_
      exact K c1 r1 sad _ _ hI1 hP hD hS ls hl
    by_cases z13 : op = 13
    · refine lv_tableIn (off := 485) (tgt := 517) hx hb dL_law_32 (by rw [z13]; decide) (by rw [z13]; decide) (by rw [z13]; first | done | rfl) (by decide) ?_
      refine lv_aload_n hx hb dL_law_517 rfl (lv_at hl 2 rfl) ?_
      refine lv_aload_n hx hb dL_law_518 rfl (lv_at hl 1 rfl) ?_
      refine lv_iload_n hx hb dL_law_519 rfl (lv_at hl 0 rfl) ?_
      refine lv_iconst (v := 1) hx hb dL_law_520 (by decide) ?_
      refine lv_iadd hx hb dL_law_521 ?_
      refine va_sld hx hb hX hbl hbA hS hi1 dL_law_522 ?_
      refine lv_aload_n hx hb dL_law_523 rfl (lv_at hl 1 rfl) ?_
      refine lv_iload_n hx hb dL_law_524 rfl (lv_at hl 0 rfl) ?_
      refine lv_iconst (v := 2) hx hb dL_law_525 (by decide) ?_
      refine lv_iadd hx hb dL_law_526 ?_
      refine va_sld hx hb hX hbl hbA hS hi2 dL_law_527 ?_
      obtain ⟨v, c1, r1, e1, e2, hI1⟩ := (hst k cc0 r0 (by omega) hI).2.2.2.2.2.2.2.2.2.2.2.2.2.2.1 (xs ((nI (4 * k)) + 1).toNatClampNeg) (xs ((nI (4 * k)) + 2).toNatClampNeg)
      refine fr_iG (M := mainC cyI cyO ad had sad cc0) (M' := mainC cyI cyO ad had sad c1) (L' := mainC cyI cyO ad had sad c1 ++ modelC cyI am r0) (F := modelC cyI am r0) (va_runV (As := [.int (xs ((nI (4 * k)) + 1).toNatClampNeg), .int (xs ((nI (4 * k)) + 2).toNatClampNeg)]) (rest := []) ⟨hx, hb, hml, hown, hts⟩ (uX7_way l dC dI cyI cyO ad had sad cc0 c1 (xs ((nI (4 * k)) + 1).toNatClampNeg) (xs ((nI (4 * k)) + 2).toNatClampNeg) v e1 _) (cwV 2 hts (gVL ml_L_68 im_X7_way se_X7_way in_X7 co_X7_way) rfl rfl rfl (by decide +kernel) ⟨Nat.le_of_ble_eq_true rfl, Nat.le_of_ble_eq_true rfl⟩) (cP_VG hK hP hD (List.Perm.refl _) 0 rfl rfl) rfl rfl hl.1 rfl (lv_room (Nat.le_of_ble_eq_true rfl)) dL_law_528 ⟨by show 187 + 21 * k + 0 ≤ 600000; omega, by show 13666 + 706 * k + 0 ≤ 7302250; omega⟩) hP hD hS hA (List.Perm.refl _) (List.Perm.refl _) (mainC_ads (oX7_way e1)) (fun H locs hP hD hS => ?_)
      refine lv_aload_n hx hb dL_law_531 rfl (lv_at hl 3 rfl) ?_
      refine lv_aload_n hx hb dL_law_532 rfl (lv_at hl 1 rfl) ?_
      refine lv_iload_n hx hb dL_law_533 rfl (lv_at hl 0 rfl) ?_
      refine lv_iconst (v := 1) hx hb dL_law_534 (by decide) ?_
      refine lv_iadd hx hb dL_law_535 ?_
      refine va_sld hx hb hX hbl hbA hS hi1 dL_law_536 ?_
      refine lv_aload_n hx hb dL_law_537 rfl (lv_at hl 1 rfl) ?_
      refine lv_iload_n hx hb dL_law_538 rfl (lv_at hl 0 rfl) ?_
      refine lv_iconst (v := 2) hx hb dL_law_539 (by decide) ?_
      refine lv_iadd hx hb dL_law_540 ?_
      refine va_sld hx hb hX hbl hbA hS hi2 dL_law_541 ?_
      refine fr_iG (M := modelC cyI am r0) (M' := modelC cyI am r1) (L' := mainC cyI cyO ad had sad c1 ++ modelC cyI am r1) (F := mainC cyI cyO ad had sad c1) (va_runV (As := [.int (xs ((nI (4 * k)) + 1).toNatClampNeg), .int (xs ((nI (4 * k)) + 2).toNatClampNeg)]) (rest := [.int v]) ⟨hx, hb, hml, hown, hts⟩ (uX8_way l dC dI cyI cyO am r0 r1 (xs ((nI (4 * k)) + 1).toNatClampNeg) (xs ((nI (4 * k)) + 2).toNatClampNeg) v e2 _) (cwV 2 hts (gVL ml_L_71 im_X8_way se_X8_way in_X8 co_X8_way) rfl rfl rfl (by decide +kernel) ⟨Nat.le_of_ble_eq_true rfl, Nat.le_of_ble_eq_true rfl⟩) (cP_VG hK hP hD List.perm_append_comm 0 rfl rfl) rfl rfl hl.1 rfl (lv_room (Nat.le_of_ble_eq_true rfl)) dL_law_542 ⟨by show 187 + 21 * k + 0 ≤ 600000; omega, by show 13666 + 706 * k + 0 ≤ 7302250; omega⟩) hP hD hS hA List.perm_append_comm List.perm_append_comm rfl (fun H locs hP hD hS => ?_)
      refine lv_icmp_eq (tgt := 823) hx hb dL_law_545 (by decide) (fun _ => ?_) (fun z => absurd rfl z)
      refine W.widen (k := 187 + 21 * (k + 1)) (n := 13666 + 706 * (k + 1)) (by omega) (by omega) ?_
      exact K c1 r1 sad _ _ hI1 hP hD hS ls hl
    by_cases z14 : op = 14
    · refine lv_tableIn (off := 518) (tgt := 550) hx hb dL_law_32 (by rw [z14]; decide) (by rw [z14]; decide) (by rw [z14]; first | done | rfl) (by decide) ?_
      refine lv_aload_n hx hb dL_law_550 rfl (lv_at hl 2 rfl) ?_
      refine lv_aload_n hx hb dL_law_551 rfl (lv_at hl 1 rfl) ?_
      refine lv_iload_n hx hb dL_law_552 rfl (lv_at hl 0 rfl) ?_
      refine lv_iconst (v := 1) hx hb dL_law_553 (by decide) ?_
      refine lv_iadd hx hb dL_law_554 ?_
      refine va_sld hx hb hX hbl hbA hS hi1 dL_law_555 ?_
      refine lv_aload_n hx hb dL_law_556 rfl (lv_at hl 1 rfl) ?_
      refine lv_iload_n hx hb dL_law_557 rfl (lv_at hl 0 rfl) ?_
      refine lv_iconst (v := 2) hx hb dL_law_558 (by decide) ?_
      refine lv_iadd hx hb dL_law_559 ?_
      refine va_sld hx hb hX hbl hbA hS hi2 dL_law_560 ?_
      refine lv_aload_n hx hb dL_law_561 rfl (lv_at hl 1 rfl) ?_
      refine lv_iload_n hx hb dL_law_562 rfl (lv_at hl 0 rfl) ?_
      refine lv_iconst (v := 3) hx hb dL_law_563 (by decide) ?_
      refine lv_iadd hx hb dL_law_564 ?_
      refine va_sld hx hb hX hbl hbA hS hi3 dL_law_565 ?_
      obtain ⟨v, c1, r1, e1, e2, hI1⟩ := (hst k cc0 r0 (by omega) hI).2.2.2.2.2.2.2.2.2.2.2.2.2.2.2.1 (xs ((nI (4 * k)) + 1).toNatClampNeg) (xs ((nI (4 * k)) + 2).toNatClampNeg) (xs ((nI (4 * k)) + 3).toNatClampNeg)
      refine fr_iG (M := mainC cyI cyO ad had sad cc0) (M' := mainC cyI cyO ad had sad c1) (L' := mainC cyI cyO ad had sad c1 ++ modelC cyI am r0) (F := modelC cyI am r0) (va_runV (As := [.int (xs ((nI (4 * k)) + 1).toNatClampNeg), .int (xs ((nI (4 * k)) + 2).toNatClampNeg), .int (xs ((nI (4 * k)) + 3).toNatClampNeg)]) (rest := []) ⟨hx, hb, hml, hown, hts⟩ (uX7_leaks l dC dI cyI cyO ad had sad cc0 c1 (xs ((nI (4 * k)) + 1).toNatClampNeg) (xs ((nI (4 * k)) + 2).toNatClampNeg) (xs ((nI (4 * k)) + 3).toNatClampNeg) v e1 _) (cwV 3 hts (gVL ml_L_72 im_X7_leaks se_X7_leaks in_X7 co_X7_leaks) rfl rfl rfl (by decide +kernel) ⟨Nat.le_of_ble_eq_true rfl, Nat.le_of_ble_eq_true rfl⟩) (cP_VG hK hP hD (List.Perm.refl _) 0 rfl rfl) rfl rfl hl.1 rfl (lv_room (Nat.le_of_ble_eq_true rfl)) dL_law_566 ⟨by show 187 + 21 * k + 0 ≤ 600000; omega, by show 13666 + 706 * k + 0 ≤ 7302250; omega⟩) hP hD hS hA (List.Perm.refl _) (List.Perm.refl _) (mainC_ads (oX7_leaks e1)) (fun H locs hP hD hS => ?_)
      refine lv_aload_n hx hb dL_law_569 rfl (lv_at hl 3 rfl) ?_
      refine lv_aload_n hx hb dL_law_570 rfl (lv_at hl 1 rfl) ?_
      refine lv_iload_n hx hb dL_law_571 rfl (lv_at hl 0 rfl) ?_
      refine lv_iconst (v := 1) hx hb dL_law_572 (by decide) ?_
      refine lv_iadd hx hb dL_law_573 ?_
      refine va_sld hx hb hX hbl hbA hS hi1 dL_law_574 ?_
      refine lv_aload_n hx hb dL_law_575 rfl (lv_at hl 1 rfl) ?_
      refine lv_iload_n hx hb dL_law_576 rfl (lv_at hl 0 rfl) ?_
      refine lv_iconst (v := 2) hx hb dL_law_577 (by decide) ?_
      refine lv_iadd hx hb dL_law_578 ?_
      refine va_sld hx hb hX hbl hbA hS hi2 dL_law_579 ?_
      refine lv_aload_n hx hb dL_law_580 rfl (lv_at hl 1 rfl) ?_
      refine lv_iload_n hx hb dL_law_581 rfl (lv_at hl 0 rfl) ?_
      refine lv_iconst (v := 3) hx hb dL_law_582 (by decide) ?_
      refine lv_iadd hx hb dL_law_583 ?_
      refine va_sld hx hb hX hbl hbA hS hi3 dL_law_584 ?_
      refine fr_iG (M := modelC cyI am r0) (M' := modelC cyI am r1) (L' := mainC cyI cyO ad had sad c1 ++ modelC cyI am r1) (F := mainC cyI cyO ad had sad c1) (va_runV (As := [.int (xs ((nI (4 * k)) + 1).toNatClampNeg), .int (xs ((nI (4 * k)) + 2).toNatClampNeg), .int (xs ((nI (4 * k)) + 3).toNatClampNeg)]) (rest := [.int v]) ⟨hx, hb, hml, hown, hts⟩ (uX8_leaks l dC dI cyI cyO am r0 r1 (xs ((nI (4 * k)) + 1).toNatClampNeg) (xs ((nI (4 * k)) + 2).toNatClampNeg) (xs ((nI (4 * k)) + 3).toNatClampNeg) v e2 _) (cwV 3 hts (gVL ml_L_75 im_X8_leaks se_X8_leaks in_X8 co_X8_leaks) rfl rfl rfl (by decide +kernel) ⟨Nat.le_of_ble_eq_true rfl, Nat.le_of_ble_eq_true rfl⟩) (cP_VG hK hP hD List.perm_append_comm 0 rfl rfl) rfl rfl hl.1 rfl (lv_room (Nat.le_of_ble_eq_true rfl)) dL_law_585 ⟨by show 187 + 21 * k + 0 ≤ 600000; omega, by show 13666 + 706 * k + 0 ≤ 7302250; omega⟩) hP hD hS hA List.perm_append_comm List.perm_append_comm rfl (fun H locs hP hD hS => ?_)
      refine lv_icmp_eq (tgt := 823) hx hb dL_law_588 (by decide) (fun _ => ?_) (fun z => absurd rfl z)
      refine W.widen (k := 187 + 21 * (k + 1)) (n := 13666 + 706 * (k + 1)) (by omega) (by omega) ?_
      exact K c1 r1 sad _ _ hI1 hP hD hS ls hl
    by_cases z15 : op = 15
    · refine lv_tableIn (off := 561) (tgt := 593) hx hb dL_law_32 (by rw [z15]; decide) (by rw [z15]; decide) (by rw [z15]; first | done | rfl) (by decide) ?_
      refine lv_aload_n hx hb dL_law_593 rfl (lv_at hl 2 rfl) ?_
      refine lv_aload_n hx hb dL_law_594 rfl (lv_at hl 1 rfl) ?_
      refine lv_iload_n hx hb dL_law_595 rfl (lv_at hl 0 rfl) ?_
      refine lv_iconst (v := 1) hx hb dL_law_596 (by decide) ?_
      refine lv_iadd hx hb dL_law_597 ?_
      refine va_sld hx hb hX hbl hbA hS hi1 dL_law_598 ?_
      obtain ⟨v, c1, r1, e1, e2, hI1⟩ := (hst k cc0 r0 (by omega) hI).2.2.2.2.2.2.2.2.2.2.2.2.2.2.2.2.1 (xs ((nI (4 * k)) + 1).toNatClampNeg)
      refine fr_iG (M := mainC cyI cyO ad had sad cc0) (M' := mainC cyI cyO ad had sad c1) (L' := mainC cyI cyO ad had sad c1 ++ modelC cyI am r0) (F := modelC cyI am r0) (va_runV (As := [.int (xs ((nI (4 * k)) + 1).toNatClampNeg)]) (rest := []) ⟨hx, hb, hml, hown, hts⟩ (uX7_lostBy l dC dI cyI cyO ad had sad cc0 c1 (xs ((nI (4 * k)) + 1).toNatClampNeg) v e1 _) (cwV 1 hts (gVL ml_L_76 im_X7_lostBy se_X7_lostBy in_X7 co_X7_lostBy) rfl rfl rfl (by decide +kernel) ⟨Nat.le_of_ble_eq_true rfl, Nat.le_of_ble_eq_true rfl⟩) (cP_VG hK hP hD (List.Perm.refl _) 0 rfl rfl) rfl rfl hl.1 rfl (lv_room (Nat.le_of_ble_eq_true rfl)) dL_law_599 ⟨by show 187 + 21 * k + 0 ≤ 600000; omega, by show 13666 + 706 * k + 0 ≤ 7302250; omega⟩) hP hD hS hA (List.Perm.refl _) (List.Perm.refl _) (mainC_ads (oX7_lostBy e1)) (fun H locs hP hD hS => ?_)
      refine lv_aload_n hx hb dL_law_602 rfl (lv_at hl 3 rfl) ?_
      refine lv_aload_n hx hb dL_law_603 rfl (lv_at hl 1 rfl) ?_
      refine lv_iload_n hx hb dL_law_604 rfl (lv_at hl 0 rfl) ?_
      refine lv_iconst (v := 1) hx hb dL_law_605 (by decide) ?_
      refine lv_iadd hx hb dL_law_606 ?_
      refine va_sld hx hb hX hbl hbA hS hi1 dL_law_607 ?_
      refine fr_iG (M := modelC cyI am r0) (M' := modelC cyI am r1) (L' := mainC cyI cyO ad had sad c1 ++ modelC cyI am r1) (F := mainC cyI cyO ad had sad c1) (va_runV (As := [.int (xs ((nI (4 * k)) + 1).toNatClampNeg)]) (rest := [.int v]) ⟨hx, hb, hml, hown, hts⟩ (uX8_lostBy l dC dI cyI cyO am r0 r1 (xs ((nI (4 * k)) + 1).toNatClampNeg) v e2 _) (cwV 1 hts (gVL ml_L_79 im_X8_lostBy se_X8_lostBy in_X8 co_X8_lostBy) rfl rfl rfl (by decide +kernel) ⟨Nat.le_of_ble_eq_true rfl, Nat.le_of_ble_eq_true rfl⟩) (cP_VG hK hP hD List.perm_append_comm 0 rfl rfl) rfl rfl hl.1 rfl (lv_room (Nat.le_of_ble_eq_true rfl)) dL_law_608 ⟨by show 187 + 21 * k + 0 ≤ 600000; omega, by show 13666 + 706 * k + 0 ≤ 7302250; omega⟩) hP hD hS hA List.perm_append_comm List.perm_append_comm rfl (fun H locs hP hD hS => ?_)
      refine lv_icmp_eq (tgt := 823) hx hb dL_law_611 (by decide) (fun _ => ?_) (fun z => absurd rfl z)
      refine W.widen (k := 187 + 21 * (k + 1)) (n := 13666 + 706 * (k + 1)) (by omega) (by omega) ?_
      exact K c1 r1 sad _ _ hI1 hP hD hS ls hl
    by_cases z16 : op = 16
    · refine lv_tableIn (off := 584) (tgt := 616) hx hb dL_law_32 (by rw [z16]; decide) (by rw [z16]; decide) (by rw [z16]; first | done | rfl) (by decide) ?_
      refine lv_aload_n hx hb dL_law_616 rfl (lv_at hl 2 rfl) ?_
      refine lv_aload_n hx hb dL_law_617 rfl (lv_at hl 1 rfl) ?_
      refine lv_iload_n hx hb dL_law_618 rfl (lv_at hl 0 rfl) ?_
      refine lv_iconst (v := 1) hx hb dL_law_619 (by decide) ?_
      refine lv_iadd hx hb dL_law_620 ?_
      refine va_sld hx hb hX hbl hbA hS hi1 dL_law_621 ?_
      refine lv_aload_n hx hb dL_law_622 rfl (lv_at hl 1 rfl) ?_
      refine lv_iload_n hx hb dL_law_623 rfl (lv_at hl 0 rfl) ?_
      refine lv_iconst (v := 2) hx hb dL_law_624 (by decide) ?_
      refine lv_iadd hx hb dL_law_625 ?_
      refine va_sld hx hb hX hbl hbA hS hi2 dL_law_626 ?_
      obtain ⟨v, c1, r1, e1, e2, hI1⟩ := (hst k cc0 r0 (by omega) hI).2.2.2.2.2.2.2.2.2.2.2.2.2.2.2.2.2.1 (xs ((nI (4 * k)) + 1).toNatClampNeg) (xs ((nI (4 * k)) + 2).toNatClampNeg)
      refine fr_iG (M := mainC cyI cyO ad had sad cc0) (M' := mainC cyI cyO ad had sad c1) (L' := mainC cyI cyO ad had sad c1 ++ modelC cyI am r0) (F := modelC cyI am r0) (va_runV (As := [.int (xs ((nI (4 * k)) + 1).toNatClampNeg), .int (xs ((nI (4 * k)) + 2).toNatClampNeg)]) (rest := []) ⟨hx, hb, hml, hown, hts⟩ (uX7_throwingMakes l dC dI cyI cyO ad had sad cc0 c1 (xs ((nI (4 * k)) + 1).toNatClampNeg) (xs ((nI (4 * k)) + 2).toNatClampNeg) v e1 _) (cwV 2 hts (gVL ml_L_80 im_X7_throwingMakes se_X7_throwingMakes in_X7 co_X7_throwingMakes) rfl rfl rfl (by decide +kernel) ⟨Nat.le_of_ble_eq_true rfl, Nat.le_of_ble_eq_true rfl⟩) (cP_VG hK hP hD (List.Perm.refl _) 0 rfl rfl) rfl rfl hl.1 rfl (lv_room (Nat.le_of_ble_eq_true rfl)) dL_law_627 ⟨by show 187 + 21 * k + 0 ≤ 600000; omega, by show 13666 + 706 * k + 0 ≤ 7302250; omega⟩) hP hD hS hA (List.Perm.refl _) (List.Perm.refl _) (mainC_ads (oX7_throwingMakes e1)) (fun H locs hP hD hS => ?_)
      refine lv_aload_n hx hb dL_law_630 rfl (lv_at hl 3 rfl) ?_
      refine lv_aload_n hx hb dL_law_631 rfl (lv_at hl 1 rfl) ?_
      refine lv_iload_n hx hb dL_law_632 rfl (lv_at hl 0 rfl) ?_
      refine lv_iconst (v := 1) hx hb dL_law_633 (by decide) ?_
      refine lv_iadd hx hb dL_law_634 ?_
      refine va_sld hx hb hX hbl hbA hS hi1 dL_law_635 ?_
      refine lv_aload_n hx hb dL_law_636 rfl (lv_at hl 1 rfl) ?_
      refine lv_iload_n hx hb dL_law_637 rfl (lv_at hl 0 rfl) ?_
      refine lv_iconst (v := 2) hx hb dL_law_638 (by decide) ?_
      refine lv_iadd hx hb dL_law_639 ?_
      refine va_sld hx hb hX hbl hbA hS hi2 dL_law_640 ?_
      refine fr_iG (M := modelC cyI am r0) (M' := modelC cyI am r1) (L' := mainC cyI cyO ad had sad c1 ++ modelC cyI am r1) (F := mainC cyI cyO ad had sad c1) (va_runV (As := [.int (xs ((nI (4 * k)) + 1).toNatClampNeg), .int (xs ((nI (4 * k)) + 2).toNatClampNeg)]) (rest := [.int v]) ⟨hx, hb, hml, hown, hts⟩ (uX8_throwingMakes l dC dI cyI cyO am r0 r1 (xs ((nI (4 * k)) + 1).toNatClampNeg) (xs ((nI (4 * k)) + 2).toNatClampNeg) v e2 _) (cwV 2 hts (gVL ml_L_83 im_X8_throwingMakes se_X8_throwingMakes in_X8 co_X8_throwingMakes) rfl rfl rfl (by decide +kernel) ⟨Nat.le_of_ble_eq_true rfl, Nat.le_of_ble_eq_true rfl⟩) (cP_VG hK hP hD List.perm_append_comm 0 rfl rfl) rfl rfl hl.1 rfl (lv_room (Nat.le_of_ble_eq_true rfl)) dL_law_641 ⟨by show 187 + 21 * k + 0 ≤ 600000; omega, by show 13666 + 706 * k + 0 ≤ 7302250; omega⟩) hP hD hS hA List.perm_append_comm List.perm_append_comm rfl (fun H locs hP hD hS => ?_)
      refine lv_icmp_eq (tgt := 823) hx hb dL_law_644 (by decide) (fun _ => ?_) (fun z => absurd rfl z)
      refine W.widen (k := 187 + 21 * (k + 1)) (n := 13666 + 706 * (k + 1)) (by omega) (by omega) ?_
      exact K c1 r1 sad _ _ hI1 hP hD hS ls hl
    by_cases z17 : op = 17
    · refine lv_tableIn (off := 617) (tgt := 649) hx hb dL_law_32 (by rw [z17]; decide) (by rw [z17]; decide) (by rw [z17]; first | done | rfl) (by decide) ?_
      refine lv_aload_n hx hb dL_law_649 rfl (lv_at hl 2 rfl) ?_
      refine lv_aload_n hx hb dL_law_650 rfl (lv_at hl 1 rfl) ?_
      refine lv_iload_n hx hb dL_law_651 rfl (lv_at hl 0 rfl) ?_
      refine lv_iconst (v := 1) hx hb dL_law_652 (by decide) ?_
      refine lv_iadd hx hb dL_law_653 ?_
      refine va_sld hx hb hX hbl hbA hS hi1 dL_law_654 ?_
      obtain ⟨v, c1, r1, e1, e2, hI1⟩ := (hst k cc0 r0 (by omega) hI).2.2.2.2.2.2.2.2.2.2.2.2.2.2.2.2.2.2.1 (xs ((nI (4 * k)) + 1).toNatClampNeg)
      refine fr_iG (M := mainC cyI cyO ad had sad cc0) (M' := mainC cyI cyO ad had sad c1) (L' := mainC cyI cyO ad had sad c1 ++ modelC cyI am r0) (F := modelC cyI am r0) (va_runV (As := [.int (xs ((nI (4 * k)) + 1).toNatClampNeg)]) (rest := []) ⟨hx, hb, hml, hown, hts⟩ (uX7_mostWorn l dC dI cyI cyO ad had sad cc0 c1 (xs ((nI (4 * k)) + 1).toNatClampNeg) v e1 _) (cwV 1 hts (gVL ml_L_84 im_X7_mostWorn se_X7_mostWorn in_X7 co_X7_mostWorn) rfl rfl rfl (by decide +kernel) ⟨Nat.le_of_ble_eq_true rfl, Nat.le_of_ble_eq_true rfl⟩) (cP_VG hK hP hD (List.Perm.refl _) 0 rfl rfl) rfl rfl hl.1 rfl (lv_room (Nat.le_of_ble_eq_true rfl)) dL_law_655 ⟨by show 187 + 21 * k + 0 ≤ 600000; omega, by show 13666 + 706 * k + 0 ≤ 7302250; omega⟩) hP hD hS hA (List.Perm.refl _) (List.Perm.refl _) (mainC_ads (oX7_mostWorn e1)) (fun H locs hP hD hS => ?_)
      refine lv_aload_n hx hb dL_law_658 rfl (lv_at hl 3 rfl) ?_
      refine lv_aload_n hx hb dL_law_659 rfl (lv_at hl 1 rfl) ?_
      refine lv_iload_n hx hb dL_law_660 rfl (lv_at hl 0 rfl) ?_
      refine lv_iconst (v := 1) hx hb dL_law_661 (by decide) ?_
      refine lv_iadd hx hb dL_law_662 ?_
      refine va_sld hx hb hX hbl hbA hS hi1 dL_law_663 ?_
      refine fr_iG (M := modelC cyI am r0) (M' := modelC cyI am r1) (L' := mainC cyI cyO ad had sad c1 ++ modelC cyI am r1) (F := mainC cyI cyO ad had sad c1) (va_runV (As := [.int (xs ((nI (4 * k)) + 1).toNatClampNeg)]) (rest := [.int v]) ⟨hx, hb, hml, hown, hts⟩ (uX8_mostWorn l dC dI cyI cyO am r0 r1 (xs ((nI (4 * k)) + 1).toNatClampNeg) v e2 _) (cwV 1 hts (gVL ml_L_87 im_X8_mostWorn se_X8_mostWorn in_X8 co_X8_mostWorn) rfl rfl rfl (by decide +kernel) ⟨Nat.le_of_ble_eq_true rfl, Nat.le_of_ble_eq_true rfl⟩) (cP_VG hK hP hD List.perm_append_comm 0 rfl rfl) rfl rfl hl.1 rfl (lv_room (Nat.le_of_ble_eq_true rfl)) dL_law_664 ⟨by show 187 + 21 * k + 0 ≤ 600000; omega, by show 13666 + 706 * k + 0 ≤ 7302250; omega⟩) hP hD hS hA List.perm_append_comm List.perm_append_comm rfl (fun H locs hP hD hS => ?_)
      refine lv_icmp_eq (tgt := 823) hx hb dL_law_667 (by decide) (fun _ => ?_) (fun z => absurd rfl z)
      refine W.widen (k := 187 + 21 * (k + 1)) (n := 13666 + 706 * (k + 1)) (by omega) (by omega) ?_
      exact K c1 r1 sad _ _ hI1 hP hD hS ls hl
    by_cases z18 : op = 18
    · refine lv_tableIn (off := 640) (tgt := 672) hx hb dL_law_32 (by rw [z18]; decide) (by rw [z18]; decide) (by rw [z18]; first | done | rfl) (by decide) ?_
      refine lv_aload_n hx hb dL_law_672 rfl (lv_at hl 2 rfl) ?_
      refine lv_aload_n hx hb dL_law_673 rfl (lv_at hl 1 rfl) ?_
      refine lv_iload_n hx hb dL_law_674 rfl (lv_at hl 0 rfl) ?_
      refine lv_iconst (v := 1) hx hb dL_law_675 (by decide) ?_
      refine lv_iadd hx hb dL_law_676 ?_
      refine va_sld hx hb hX hbl hbA hS hi1 dL_law_677 ?_
      refine lv_i2l (v := ((xs ((nI (4 * k)) + 1).toNatClampNeg)).toInt64) hx hb dL_law_678 rfl ?_
      refine lv_bipush (v := 32) hx hb dL_law_679 (by decide) ?_
      refine lv_lshl (v := ((((xs ((nI (4 * k)) + 1).toNatClampNeg)).toInt64) <<< ((32 : Int32).toInt64 &&& 63))) hx hb dL_law_681 rfl ?_
      refine lv_aload_n hx hb dL_law_682 rfl (lv_at hl 1 rfl) ?_
      refine lv_iload_n hx hb dL_law_683 rfl (lv_at hl 0 rfl) ?_
      refine lv_iconst (v := 2) hx hb dL_law_684 (by decide) ?_
      refine lv_iadd hx hb dL_law_685 ?_
      refine va_sld hx hb hX hbl hbA hS hi2 dL_law_686 ?_
      refine lv_i2l (v := ((xs ((nI (4 * k)) + 2).toNatClampNeg)).toInt64) hx hb dL_law_687 rfl ?_
      refine lv_ldc2 (v := 4294967295) hx hb hown (hts _ (gb_tbl k_L_88)) dL_law_688 ?_
      refine lv_land hx hb dL_law_691 ?_
      refine lv_lor hx hb dL_law_692 ?_
      obtain ⟨v, c1, r1, e1, e2, hI1⟩ := (hst k cc0 r0 (by omega) hI).2.2.2.2.2.2.2.2.2.2.2.2.2.2.2.2.2.2.2.1 (((((xs ((nI (4 * k)) + 1).toNatClampNeg)).toInt64) <<< ((32 : Int32).toInt64 &&& 63)) ||| ((((xs ((nI (4 * k)) + 2).toNatClampNeg)).toInt64) &&& 4294967295))
      refine fr_iG (M := mainC cyI cyO ad had sad cc0) (M' := mainC cyI cyO ad had sad c1) (L' := mainC cyI cyO ad had sad c1 ++ modelC cyI am r0) (F := modelC cyI am r0) (va_runV (As := [.long (((((xs ((nI (4 * k)) + 1).toNatClampNeg)).toInt64) <<< ((32 : Int32).toInt64 &&& 63)) ||| ((((xs ((nI (4 * k)) + 2).toNatClampNeg)).toInt64) &&& 4294967295))]) (rest := []) ⟨hx, hb, hml, hown, hts⟩ (uX7_put l dC dI cyI cyO ad had sad cc0 c1 (((((xs ((nI (4 * k)) + 1).toNatClampNeg)).toInt64) <<< ((32 : Int32).toInt64 &&& 63)) ||| ((((xs ((nI (4 * k)) + 2).toNatClampNeg)).toInt64) &&& 4294967295)) v e1 _) (cwV 1 hts (gVL ml_L_90 im_X7_put se_X7_put in_X7 co_X7_put) rfl rfl rfl (by decide +kernel) ⟨Nat.le_of_ble_eq_true rfl, Nat.le_of_ble_eq_true rfl⟩) (cP_VG hK hP hD (List.Perm.refl _) 0 rfl rfl) rfl rfl hl.1 rfl (lv_room (Nat.le_of_ble_eq_true rfl)) dL_law_693 ⟨by show 187 + 21 * k + 0 ≤ 600000; omega, by show 13666 + 706 * k + 0 ≤ 7302250; omega⟩) hP hD hS hA (List.Perm.refl _) (List.Perm.refl _) (mainC_ads (oX7_put e1)) (fun H locs hP hD hS => ?_)
      refine lv_aload_n hx hb dL_law_696 rfl (lv_at hl 3 rfl) ?_
      refine lv_aload_n hx hb dL_law_697 rfl (lv_at hl 1 rfl) ?_
      refine lv_iload_n hx hb dL_law_698 rfl (lv_at hl 0 rfl) ?_
      refine lv_iconst (v := 1) hx hb dL_law_699 (by decide) ?_
      refine lv_iadd hx hb dL_law_700 ?_
      refine va_sld hx hb hX hbl hbA hS hi1 dL_law_701 ?_
      refine lv_i2l (v := ((xs ((nI (4 * k)) + 1).toNatClampNeg)).toInt64) hx hb dL_law_702 rfl ?_
      refine lv_bipush (v := 32) hx hb dL_law_703 (by decide) ?_
      refine lv_lshl (v := ((((xs ((nI (4 * k)) + 1).toNatClampNeg)).toInt64) <<< ((32 : Int32).toInt64 &&& 63))) hx hb dL_law_705 rfl ?_
      refine lv_aload_n hx hb dL_law_706 rfl (lv_at hl 1 rfl) ?_
      refine lv_iload_n hx hb dL_law_707 rfl (lv_at hl 0 rfl) ?_
      refine lv_iconst (v := 2) hx hb dL_law_708 (by decide) ?_
      refine lv_iadd hx hb dL_law_709 ?_
      refine va_sld hx hb hX hbl hbA hS hi2 dL_law_710 ?_
      refine lv_i2l (v := ((xs ((nI (4 * k)) + 2).toNatClampNeg)).toInt64) hx hb dL_law_711 rfl ?_
      refine lv_ldc2 (v := 4294967295) hx hb hown (hts _ (gb_tbl k_L_88)) dL_law_712 ?_
      refine lv_land hx hb dL_law_715 ?_
      refine lv_lor hx hb dL_law_716 ?_
      refine fr_iG (M := modelC cyI am r0) (M' := modelC cyI am r1) (L' := mainC cyI cyO ad had sad c1 ++ modelC cyI am r1) (F := mainC cyI cyO ad had sad c1) (va_runV (As := [.long (((((xs ((nI (4 * k)) + 1).toNatClampNeg)).toInt64) <<< ((32 : Int32).toInt64 &&& 63)) ||| ((((xs ((nI (4 * k)) + 2).toNatClampNeg)).toInt64) &&& 4294967295))]) (rest := [.int v]) ⟨hx, hb, hml, hown, hts⟩ (uX8_put l dC dI cyI cyO am r0 r1 (((((xs ((nI (4 * k)) + 1).toNatClampNeg)).toInt64) <<< ((32 : Int32).toInt64 &&& 63)) ||| ((((xs ((nI (4 * k)) + 2).toNatClampNeg)).toInt64) &&& 4294967295)) v e2 _) (cwV 1 hts (gVL ml_L_94 im_X8_put se_X8_put in_X8 co_X8_put) rfl rfl rfl (by decide +kernel) ⟨Nat.le_of_ble_eq_true rfl, Nat.le_of_ble_eq_true rfl⟩) (cP_VG hK hP hD List.perm_append_comm 0 rfl rfl) rfl rfl hl.1 rfl (lv_room (Nat.le_of_ble_eq_true rfl)) dL_law_717 ⟨by show 187 + 21 * k + 0 ≤ 600000; omega, by show 13666 + 706 * k + 0 ≤ 7302250; omega⟩) hP hD hS hA List.perm_append_comm List.perm_append_comm rfl (fun H locs hP hD hS => ?_)
      refine lv_icmp_eq (tgt := 823) hx hb dL_law_720 (by decide) (fun _ => ?_) (fun z => absurd rfl z)
      refine W.widen (k := 187 + 21 * (k + 1)) (n := 13666 + 706 * (k + 1)) (by omega) (by omega) ?_
      exact K c1 r1 sad _ _ hI1 hP hD hS ls hl
    by_cases z19 : op = 19
    · refine lv_tableIn (off := 693) (tgt := 725) hx hb dL_law_32 (by rw [z19]; decide) (by rw [z19]; decide) (by rw [z19]; first | done | rfl) (by decide) ?_
      refine lv_aload_n hx hb dL_law_725 rfl (lv_at hl 2 rfl) ?_
      obtain ⟨v, c1, r1, e1, e2, hI1⟩ := (hst k cc0 r0 (by omega) hI).2.2.2.2.2.2.2.2.2.2.2.2.2.2.2.2.2.2.2.2.1 
      refine fr_iG (M := mainC cyI cyO ad had sad cc0) (M' := mainC cyI cyO ad had sad c1) (L' := mainC cyI cyO ad had sad c1 ++ modelC cyI am r0) (F := modelC cyI am r0) (va_runV (As := []) (rest := []) ⟨hx, hb, hml, hown, hts⟩ (uX7_wipe l dC dI cyI cyO ad had sad cc0 c1  v e1 _) (cwV 0 hts (gVL ml_L_95 im_X7_wipe se_X7_wipe in_X7 co_X7_wipe) rfl rfl rfl (by decide +kernel) ⟨Nat.le_of_ble_eq_true rfl, Nat.le_of_ble_eq_true rfl⟩) (cP_VG hK hP hD (List.Perm.refl _) 0 rfl rfl) rfl rfl hl.1 rfl (lv_room (Nat.le_of_ble_eq_true rfl)) dL_law_726 ⟨by show 187 + 21 * k + 0 ≤ 600000; omega, by show 13666 + 706 * k + 0 ≤ 7302250; omega⟩) hP hD hS hA (List.Perm.refl _) (List.Perm.refl _) (mainC_ads (oX7_wipe e1)) (fun H locs hP hD hS => ?_)
      refine lv_aload_n hx hb dL_law_729 rfl (lv_at hl 3 rfl) ?_
      refine fr_iG (M := modelC cyI am r0) (M' := modelC cyI am r1) (L' := mainC cyI cyO ad had sad c1 ++ modelC cyI am r1) (F := mainC cyI cyO ad had sad c1) (va_runV (As := []) (rest := [.int v]) ⟨hx, hb, hml, hown, hts⟩ (uX8_wipe l dC dI cyI cyO am r0 r1  v e2 _) (cwV 0 hts (gVL ml_L_99 im_X8_wipe se_X8_wipe in_X8 co_X8_wipe) rfl rfl rfl (by decide +kernel) ⟨Nat.le_of_ble_eq_true rfl, Nat.le_of_ble_eq_true rfl⟩) (cP_VG hK hP hD List.perm_append_comm 0 rfl rfl) rfl rfl hl.1 rfl (lv_room (Nat.le_of_ble_eq_true rfl)) dL_law_730 ⟨by show 187 + 21 * k + 0 ≤ 600000; omega, by show 13666 + 706 * k + 0 ≤ 7302250; omega⟩) hP hD hS hA List.perm_append_comm List.perm_append_comm rfl (fun H locs hP hD hS => ?_)
      refine lv_icmp_eq (tgt := 823) hx hb dL_law_733 (by decide) (fun _ => ?_) (fun z => absurd rfl z)
      refine W.widen (k := 187 + 21 * (k + 1)) (n := 13666 + 706 * (k + 1)) (by omega) (by omega) ?_
      exact K c1 r1 sad _ _ hI1 hP hD hS ls hl
    by_cases z20 : op = 20
    · refine lv_tableIn (off := 706) (tgt := 738) hx hb dL_law_32 (by rw [z20]; decide) (by rw [z20]; decide) (by rw [z20]; first | done | rfl) (by decide) ?_
      refine lv_aload_n hx hb dL_law_738 rfl (lv_at hl 2 rfl) ?_
      obtain ⟨v, c1, r1, e1, e2, hI1⟩ := (hst k cc0 r0 (by omega) hI).2.2.2.2.2.2.2.2.2.2.2.2.2.2.2.2.2.2.2.2.2.1 
      refine fr_iG (M := mainC cyI cyO ad had sad cc0) (M' := mainC cyI cyO ad had sad c1) (L' := mainC cyI cyO ad had sad c1 ++ modelC cyI am r0) (F := modelC cyI am r0) (va_runV (As := []) (rest := []) ⟨hx, hb, hml, hown, hts⟩ (uX7_fault l dC dI cyI cyO ad had sad cc0 c1  v e1 _) (cwV 0 hts (gVL ml_L_100 im_X7_fault se_X7_fault in_X7 co_X7_fault) rfl rfl rfl (by decide +kernel) ⟨Nat.le_of_ble_eq_true rfl, Nat.le_of_ble_eq_true rfl⟩) (cP_VG hK hP hD (List.Perm.refl _) 0 rfl rfl) rfl rfl hl.1 rfl (lv_room (Nat.le_of_ble_eq_true rfl)) dL_law_739 ⟨by show 187 + 21 * k + 0 ≤ 600000; omega, by show 13666 + 706 * k + 0 ≤ 7302250; omega⟩) hP hD hS hA (List.Perm.refl _) (List.Perm.refl _) (mainC_ads (oX7_fault e1)) (fun H locs hP hD hS => ?_)
      refine lv_aload_n hx hb dL_law_742 rfl (lv_at hl 3 rfl) ?_
      refine fr_iG (M := modelC cyI am r0) (M' := modelC cyI am r1) (L' := mainC cyI cyO ad had sad c1 ++ modelC cyI am r1) (F := mainC cyI cyO ad had sad c1) (va_runV (As := []) (rest := [.int v]) ⟨hx, hb, hml, hown, hts⟩ (uX8_fault l dC dI cyI cyO am r0 r1  v e2 _) (cwV 0 hts (gVL ml_L_103 im_X8_fault se_X8_fault in_X8 co_X8_fault) rfl rfl rfl (by decide +kernel) ⟨Nat.le_of_ble_eq_true rfl, Nat.le_of_ble_eq_true rfl⟩) (cP_VG hK hP hD List.perm_append_comm 0 rfl rfl) rfl rfl hl.1 rfl (lv_room (Nat.le_of_ble_eq_true rfl)) dL_law_743 ⟨by show 187 + 21 * k + 0 ≤ 600000; omega, by show 13666 + 706 * k + 0 ≤ 7302250; omega⟩) hP hD hS hA List.perm_append_comm List.perm_append_comm rfl (fun H locs hP hD hS => ?_)
      refine lv_icmp_eq (tgt := 823) hx hb dL_law_746 (by decide) (fun _ => ?_) (fun z => absurd rfl z)
      refine W.widen (k := 187 + 21 * (k + 1)) (n := 13666 + 706 * (k + 1)) (by omega) (by omega) ?_
      exact K c1 r1 sad _ _ hI1 hP hD hS ls hl
    by_cases z21 : op = 21
    · refine lv_tableIn (off := 719) (tgt := 751) hx hb dL_law_32 (by rw [z21]; decide) (by rw [z21]; decide) (by rw [z21]; first | done | rfl) (by decide) ?_
      refine lv_aload_n hx hb dL_law_751 rfl (lv_at hl 2 rfl) ?_
      obtain ⟨v, c1, r1, e1, e2, hI1⟩ := (hst k cc0 r0 (by omega) hI).2.2.2.2.2.2.2.2.2.2.2.2.2.2.2.2.2.2.2.2.2.2.1 
      refine fr_iG (M := mainC cyI cyO ad had sad cc0) (M' := mainC cyI cyO ad had sad c1) (L' := mainC cyI cyO ad had sad c1 ++ modelC cyI am r0) (F := modelC cyI am r0) (va_runV (As := []) (rest := []) ⟨hx, hb, hml, hown, hts⟩ (uX7_carryOut l dC dI cyI cyO ad had sad cc0 c1  v e1 _) (cwV 0 hts (gVL ml_L_104 im_X7_carryOut se_X7_carryOut in_X7 co_X7_carryOut) rfl rfl rfl (by decide +kernel) ⟨Nat.le_of_ble_eq_true rfl, Nat.le_of_ble_eq_true rfl⟩) (cP_VG hK hP hD (List.Perm.refl _) 0 rfl rfl) rfl rfl hl.1 rfl (lv_room (Nat.le_of_ble_eq_true rfl)) dL_law_752 ⟨by show 187 + 21 * k + 0 ≤ 600000; omega, by show 13666 + 706 * k + 0 ≤ 7302250; omega⟩) hP hD hS hA (List.Perm.refl _) (List.Perm.refl _) (mainC_ads (oX7_carryOut e1)) (fun H locs hP hD hS => ?_)
      refine lv_aload_n hx hb dL_law_755 rfl (lv_at hl 3 rfl) ?_
      refine fr_iG (M := modelC cyI am r0) (M' := modelC cyI am r1) (L' := mainC cyI cyO ad had sad c1 ++ modelC cyI am r1) (F := mainC cyI cyO ad had sad c1) (va_runV (As := []) (rest := [.int v]) ⟨hx, hb, hml, hown, hts⟩ (uX8_carryOut l dC dI cyI cyO am r0 r1  v e2 _) (cwV 0 hts (gVL ml_L_107 im_X8_carryOut se_X8_carryOut in_X8 co_X8_carryOut) rfl rfl rfl (by decide +kernel) ⟨Nat.le_of_ble_eq_true rfl, Nat.le_of_ble_eq_true rfl⟩) (cP_VG hK hP hD List.perm_append_comm 0 rfl rfl) rfl rfl hl.1 rfl (lv_room (Nat.le_of_ble_eq_true rfl)) dL_law_756 ⟨by show 187 + 21 * k + 0 ≤ 600000; omega, by show 13666 + 706 * k + 0 ≤ 7302250; omega⟩) hP hD hS hA List.perm_append_comm List.perm_append_comm rfl (fun H locs hP hD hS => ?_)
      refine lv_icmp_eq (tgt := 823) hx hb dL_law_759 (by decide) (fun _ => ?_) (fun z => absurd rfl z)
      refine W.widen (k := 187 + 21 * (k + 1)) (n := 13666 + 706 * (k + 1)) (by omega) (by omega) ?_
      exact K c1 r1 sad _ _ hI1 hP hD hS ls hl
    by_cases z22 : op = 22
    · refine lv_tableIn (off := 732) (tgt := 764) hx hb dL_law_32 (by rw [z22]; decide) (by rw [z22]; decide) (by rw [z22]; first | done | rfl) (by decide) ?_
      refine lv_aload_n hx hb dL_law_764 rfl (lv_at hl 2 rfl) ?_
      obtain ⟨v, c1, r1, e1, e2, hI1⟩ := (hst k cc0 r0 (by omega) hI).2.2.2.2.2.2.2.2.2.2.2.2.2.2.2.2.2.2.2.2.2.2.2.1 
      refine fr_iG (M := mainC cyI cyO ad had sad cc0) (M' := mainC cyI cyO ad had sad c1) (L' := mainC cyI cyO ad had sad c1 ++ modelC cyI am r0) (F := modelC cyI am r0) (va_runV (As := []) (rest := []) ⟨hx, hb, hml, hown, hts⟩ (uX7_undo l dC dI cyI cyO ad had sad cc0 c1  v e1 _) (cwV 0 hts (gVL ml_L_108 im_X7_undo se_X7_undo in_X7 co_X7_undo) rfl rfl rfl (by decide +kernel) ⟨Nat.le_of_ble_eq_true rfl, Nat.le_of_ble_eq_true rfl⟩) (cP_VG hK hP hD (List.Perm.refl _) 0 rfl rfl) rfl rfl hl.1 rfl (lv_room (Nat.le_of_ble_eq_true rfl)) dL_law_765 ⟨by show 187 + 21 * k + 0 ≤ 600000; omega, by show 13666 + 706 * k + 0 ≤ 7302250; omega⟩) hP hD hS hA (List.Perm.refl _) (List.Perm.refl _) (mainC_ads (oX7_undo e1)) (fun H locs hP hD hS => ?_)
      refine lv_aload_n hx hb dL_law_768 rfl (lv_at hl 3 rfl) ?_
      refine fr_iG (M := modelC cyI am r0) (M' := modelC cyI am r1) (L' := mainC cyI cyO ad had sad c1 ++ modelC cyI am r1) (F := mainC cyI cyO ad had sad c1) (va_runV (As := []) (rest := [.int v]) ⟨hx, hb, hml, hown, hts⟩ (uX8_undo l dC dI cyI cyO am r0 r1  v e2 _) (cwV 0 hts (gVL ml_L_111 im_X8_undo se_X8_undo in_X8 co_X8_undo) rfl rfl rfl (by decide +kernel) ⟨Nat.le_of_ble_eq_true rfl, Nat.le_of_ble_eq_true rfl⟩) (cP_VG hK hP hD List.perm_append_comm 0 rfl rfl) rfl rfl hl.1 rfl (lv_room (Nat.le_of_ble_eq_true rfl)) dL_law_769 ⟨by show 187 + 21 * k + 0 ≤ 600000; omega, by show 13666 + 706 * k + 0 ≤ 7302250; omega⟩) hP hD hS hA List.perm_append_comm List.perm_append_comm rfl (fun H locs hP hD hS => ?_)
      refine lv_icmp_eq (tgt := 823) hx hb dL_law_772 (by decide) (fun _ => ?_) (fun z => absurd rfl z)
      refine W.widen (k := 187 + 21 * (k + 1)) (n := 13666 + 706 * (k + 1)) (by omega) (by omega) ?_
      exact K c1 r1 sad _ _ hI1 hP hD hS ls hl
    by_cases z23 : op = 23
    · refine lv_tableIn (off := 745) (tgt := 777) hx hb dL_law_32 (by rw [z23]; decide) (by rw [z23]; decide) (by rw [z23]; first | done | rfl) (by decide) ?_
      refine lv_aload_n hx hb dL_law_777 rfl (lv_at hl 2 rfl) ?_
      refine lv_aload_n hx hb dL_law_778 rfl (lv_at hl 1 rfl) ?_
      refine lv_iload_n hx hb dL_law_779 rfl (lv_at hl 0 rfl) ?_
      refine lv_iconst (v := 1) hx hb dL_law_780 (by decide) ?_
      refine lv_iadd hx hb dL_law_781 ?_
      refine va_sld hx hb hX hbl hbA hS hi1 dL_law_782 ?_
      obtain ⟨v, c1, r1, e1, e2, hI1⟩ := (hst k cc0 r0 (by omega) hI).2.2.2.2.2.2.2.2.2.2.2.2.2.2.2.2.2.2.2.2.2.2.2.2.1 (xs ((nI (4 * k)) + 1).toNatClampNeg)
      refine fr_iSG (M := mainC cyI cyO ad had sad cc0) (M' := fun sad2 => mainC cyI cyO ad had sad2 c1) (L' := fun sad2 => mainC cyI cyO ad had sad2 c1 ++ modelC cyI am r0) (F := modelC cyI am r0) (va_runV (As := [.int (xs ((nI (4 * k)) + 1).toNatClampNeg)]) (rest := []) ⟨hx, hb, hml, hown, hts⟩ (uX7_save l dC dI cyI cyO ad had sad cc0 c1 (xs ((nI (4 * k)) + 1).toNatClampNeg) v e1 _) (cwV 1 hts (gVL ml_L_112 im_X7_save se_X7_save in_X7 co_X7_save) rfl rfl rfl (by decide +kernel) ⟨Nat.le_of_ble_eq_true rfl, Nat.le_of_ble_eq_true rfl⟩) (cP_VG hK hP hD (List.Perm.refl _) 0 rfl rfl) rfl rfl hl.1 rfl (lv_room (Nat.le_of_ble_eq_true rfl)) dL_law_783 ⟨by show 187 + 21 * k + 21 ≤ 600000; omega, by show 13666 + 706 * k + 706 ≤ 7302250; omega⟩) hP hD hS hA (List.Perm.refl _) (fun _ => List.Perm.refl _) (fun sad H locs hP hD hS => ?_)
      refine lv_aload_n hx hb dL_law_786 rfl (lv_at hl 3 rfl) ?_
      refine lv_aload_n hx hb dL_law_787 rfl (lv_at hl 1 rfl) ?_
      refine lv_iload_n hx hb dL_law_788 rfl (lv_at hl 0 rfl) ?_
      refine lv_iconst (v := 1) hx hb dL_law_789 (by decide) ?_
      refine lv_iadd hx hb dL_law_790 ?_
      refine va_sld hx hb hX hbl hbA hS hi1 dL_law_791 ?_
      refine fr_iG (M := modelC cyI am r0) (M' := modelC cyI am r1) (L' := mainC cyI cyO ad had sad c1 ++ modelC cyI am r1) (F := mainC cyI cyO ad had sad c1) (va_runV (As := [.int (xs ((nI (4 * k)) + 1).toNatClampNeg)]) (rest := [.int v]) ⟨hx, hb, hml, hown, hts⟩ (uX8_save l dC dI cyI cyO am r0 r1 (xs ((nI (4 * k)) + 1).toNatClampNeg) v e2 _) (cwV 1 hts (gVL ml_L_115 im_X8_save se_X8_save in_X8 co_X8_save) rfl rfl rfl (by decide +kernel) ⟨Nat.le_of_ble_eq_true rfl, Nat.le_of_ble_eq_true rfl⟩) (cP_VG hK hP hD List.perm_append_comm 0 rfl rfl) rfl rfl hl.1 rfl (lv_room (Nat.le_of_ble_eq_true rfl)) dL_law_792 ⟨by show 187 + 21 * k + 21 + 0 ≤ 600000; omega, by show 13666 + 706 * k + 706 + 0 ≤ 7302250; omega⟩) hP hD hS hA List.perm_append_comm List.perm_append_comm rfl (fun H locs hP hD hS => ?_)
      refine lv_icmp_eq (tgt := 823) hx hb dL_law_795 (by decide) (fun _ => ?_) (fun z => absurd rfl z)
      have e3 : 187 + 21 * k + 21 = 187 + 21 * (k + 1) := by omega
      have e4 : 13666 + 706 * k + 706 = 13666 + 706 * (k + 1) := by omega
      rw [e3, e4]
      exact K c1 r1 sad _ _ hI1 hP hD hS ls hl
    by_cases z24 : op = 24
    · refine lv_tableIn (off := 768) (tgt := 800) hx hb dL_law_32 (by rw [z24]; decide) (by rw [z24]; decide) (by rw [z24]; first | done | rfl) (by decide) ?_
      refine lv_aload_n hx hb dL_law_800 rfl (lv_at hl 2 rfl) ?_
      refine lv_aload_n hx hb dL_law_801 rfl (lv_at hl 1 rfl) ?_
      refine lv_iload_n hx hb dL_law_802 rfl (lv_at hl 0 rfl) ?_
      refine lv_iconst (v := 1) hx hb dL_law_803 (by decide) ?_
      refine lv_iadd hx hb dL_law_804 ?_
      refine va_sld hx hb hX hbl hbA hS hi1 dL_law_805 ?_
      obtain ⟨v, c1, r1, e1, e2, hI1⟩ := (hst k cc0 r0 (by omega) hI).2.2.2.2.2.2.2.2.2.2.2.2.2.2.2.2.2.2.2.2.2.2.2.2.2 (xs ((nI (4 * k)) + 1).toNatClampNeg)
      refine fr_iG (M := mainC cyI cyO ad had sad cc0) (M' := mainC cyI cyO ad had sad c1) (L' := mainC cyI cyO ad had sad c1 ++ modelC cyI am r0) (F := modelC cyI am r0) (va_runV (As := [.int (xs ((nI (4 * k)) + 1).toNatClampNeg)]) (rest := []) ⟨hx, hb, hml, hown, hts⟩ (uX7_restore l dC dI cyI cyO ad had sad cc0 c1 (xs ((nI (4 * k)) + 1).toNatClampNeg) v e1 _) (cwV 1 hts (gVL ml_L_116 im_X7_restore se_X7_restore in_X7 co_X7_restore) rfl rfl rfl (by decide +kernel) ⟨Nat.le_of_ble_eq_true rfl, Nat.le_of_ble_eq_true rfl⟩) (cP_VG hK hP hD (List.Perm.refl _) 0 rfl rfl) rfl rfl hl.1 rfl (lv_room (Nat.le_of_ble_eq_true rfl)) dL_law_806 ⟨by show 187 + 21 * k + 0 ≤ 600000; omega, by show 13666 + 706 * k + 0 ≤ 7302250; omega⟩) hP hD hS hA (List.Perm.refl _) (List.Perm.refl _) (mainC_ads (oX7_restore e1)) (fun H locs hP hD hS => ?_)
      refine lv_aload_n hx hb dL_law_809 rfl (lv_at hl 3 rfl) ?_
      refine lv_aload_n hx hb dL_law_810 rfl (lv_at hl 1 rfl) ?_
      refine lv_iload_n hx hb dL_law_811 rfl (lv_at hl 0 rfl) ?_
      refine lv_iconst (v := 1) hx hb dL_law_812 (by decide) ?_
      refine lv_iadd hx hb dL_law_813 ?_
      refine va_sld hx hb hX hbl hbA hS hi1 dL_law_814 ?_
      refine fr_iG (M := modelC cyI am r0) (M' := modelC cyI am r1) (L' := mainC cyI cyO ad had sad c1 ++ modelC cyI am r1) (F := mainC cyI cyO ad had sad c1) (va_runV (As := [.int (xs ((nI (4 * k)) + 1).toNatClampNeg)]) (rest := [.int v]) ⟨hx, hb, hml, hown, hts⟩ (uX8_restore l dC dI cyI cyO am r0 r1 (xs ((nI (4 * k)) + 1).toNatClampNeg) v e2 _) (cwV 1 hts (gVL ml_L_119 im_X8_restore se_X8_restore in_X8 co_X8_restore) rfl rfl rfl (by decide +kernel) ⟨Nat.le_of_ble_eq_true rfl, Nat.le_of_ble_eq_true rfl⟩) (cP_VG hK hP hD List.perm_append_comm 0 rfl rfl) rfl rfl hl.1 rfl (lv_room (Nat.le_of_ble_eq_true rfl)) dL_law_815 ⟨by show 187 + 21 * k + 0 ≤ 600000; omega, by show 13666 + 706 * k + 0 ≤ 7302250; omega⟩) hP hD hS hA List.perm_append_comm List.perm_append_comm rfl (fun H locs hP hD hS => ?_)
      refine lv_icmp_eq (tgt := 823) hx hb dL_law_818 (by decide) (fun _ => ?_) (fun z => absurd rfl z)
      refine W.widen (k := 187 + 21 * (k + 1)) (n := 13666 + 706 * (k + 1)) (by omega) (by omega) ?_
      exact K c1 r1 sad _ _ hI1 hP hD hS ls hl
    refine lv_tableOut (tgt := 823) hx hb dL_law_32 (by have := lv_neT (a := 0) z0 rfl; have := lv_neT (a := 1) z1 rfl; have := lv_neT (a := 2) z2 rfl; have := lv_neT (a := 3) z3 rfl; have := lv_neT (a := 4) z4 rfl; have := lv_neT (a := 5) z5 rfl; have := lv_neT (a := 6) z6 rfl; have := lv_neT (a := 7) z7 rfl; have := lv_neT (a := 8) z8 rfl; have := lv_neT (a := 9) z9 rfl; have := lv_neT (a := 10) z10 rfl; have := lv_neT (a := 11) z11 rfl; have := lv_neT (a := 12) z12 rfl; have := lv_neT (a := 13) z13 rfl; have := lv_neT (a := 14) z14 rfl; have := lv_neT (a := 15) z15 rfl; have := lv_neT (a := 16) z16 rfl; have := lv_neT (a := 17) z17 rfl; have := lv_neT (a := 18) z18 rfl; have := lv_neT (a := 19) z19 rfl; have := lv_neT (a := 20) z20 rfl; have := lv_neT (a := 21) z21 rfl; have := lv_neT (a := 22) z22 rfl; have := lv_neT (a := 23) z23 rfl; have := lv_neT (a := 24) z24 rfl; omega) (by decide) ?_
    refine W.widen (k := 187 + 21 * (k + 1)) (n := 13666 + 706 * (k + 1)) (by omega) (by omega) ?_
    exact K cc0 r0 sad _ _ (hst k cc0 r0 (by omega) hI).1 hP hD hS ls hl
