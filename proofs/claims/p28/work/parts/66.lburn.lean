/-! what is burnt, in the law and in the row of numbers -/
def LV (nw : Nat) (hek hew clo clm sta wrv : Nat → Int32) (X : Nat → Prop) : Prop := ∀ w, w < nw → ∃ i, AC (wrv w) (pk7 (hek w)) (hew w) (clo w) (clm w) i (sta w &&& 7) ∧ ((X w ∧ i = 0) ∨ (¬ X w ∧ i = if bt (sta w) 3 = true then 1 else 0))
def DeadC (nk nb : Nat) (lk lb : Int32) (hek hew : Nat → Int32) (w : Nat) : Prop := (hek w = -6 ∧ ∃ b, b < nb ∧ hew w = nI b ∧ bt lb b = false) ∨ ∃ k, k < nk ∧ hek w = nI k ∧ bt lk k = false
theorem if0 {b : Bool} : ((if b = true then (1 : Int32) else 0) = 0) ↔ b = false := by cases b <;> decide
section LBURN
variable {B nk nb nw : Nat} {st qv kev bov wrv : Nat → Int32} {lk lb lk' lb' : Int32} {par mak wea kob hek hew clo clm sta : Nat → Int32} {X : Nat → Prop}
theorem LWc_of (hW : LWr nw st wrv) (hR : RW st nw hek hew clo clm sta) : LWc nw hek hew clo clm sta wrv := fun w hw => by
  have h := hW w hw
  obtain ⟨r0, r1, r2, r3, r4, r5⟩ := hR w hw
  rw [r0, r1, r2, r3, r4, r5] at h
  exact h
theorem LV_of (hW : LWc nw hek hew clo clm sta wrv) : LV nw hek hew clo clm sta wrv (fun _ => False) := fun w hw => ⟨_, hW w hw, Or.inr ⟨id, rfl⟩⟩
theorem LV_iff {Y : Nat → Prop} (h : LV nw hek hew clo clm sta wrv X) (e : ∀ w, w < nw → (X w ↔ Y w)) : LV nw hek hew clo clm sta wrv Y := fun w hw => by
  obtain ⟨i, h1, h2⟩ := h w hw
  refine ⟨i, h1, ?_⟩
  rw [← e w hw]
  exact h2
theorem burn_step (a3 : qv 3 = nI nw) (n1 : nk ≤ 6) (n2 : nb ≤ 6) (n3 : nw ≤ 64) (hW : WI nk nb nw par mak kob hek hew clo clm sta) (hV : LV nw hek hew clo clm sta wrv X) (hk1 : ∀ k, k < nk → kev (4 * k + 1) = if bt lk k = true then 1 else 0) (hb1 : ∀ b, b < nb → bov (2 * b + 1) = if bt lb b = true then 1 else 0) (y : Int32) :
    ∃ wrv', fL_burn qv kev bov wrv y = some wrv' ∧ LV nw hek hew clo clm sta wrv' (fun w => X w ∨ pk7 (hek w) = y ∨ clo w = y ∨ DeadC nk nb lk lb hek hew w) := by
  have hF : ∀ w, w < nw → KF (wrv w) := fun w hw => by
    obtain ⟨i, ⟨h1, h2, -⟩, -⟩ := hV w hw
    rcases (hW w hw).1 with ⟨p1, b, p2, p3, -⟩ | ⟨k, j, p1, p2, p3, -⟩
    · exact Or.inl ⟨by rw [h1, p1, pk7_6], b, by omega, by rw [h2, p3]⟩
    · exact Or.inr ⟨k, by omega, by rw [h1, p3, pk7_nI (by omega)]⟩
  obtain ⟨wrv', e1, e2⟩ := burn_eqL (kev := kev) (bov := bov) a3 n3 hF y
  refine ⟨wrv', e1, fun w hw => ?_⟩
  obtain ⟨i, hA, hi⟩ := hV w hw
  have iff : PB kev bov y (wrv w) ↔ (pk7 (hek w) = y ∨ clo w = y ∨ DeadC nk nb lk lb hek hew w) := by
    unfold PB DeadC
    rw [hA.1, hA.2.1, hA.2.2.1]
    refine or_congr Iff.rfl (or_congr Iff.rfl (or_congr ?_ ?_))
    · rcases (hW w hw).1 with ⟨p1, b, p2, p3, -⟩ | ⟨k, j, p1, p2, p3, -⟩
      · constructor
        · rintro ⟨-, b', q1, q2, q3⟩
          have := (nI_eq (by omega) (by omega)).mp (p3.symm.trans q2)
          subst this
          rw [hb1 b p2, if0] at q3
          exact ⟨p1, b, p2, p3, q3⟩
        · rintro ⟨-, b', q1, q2, q3⟩
          exact ⟨by rw [p1, pk7_6], b', by omega, q2, by rw [hb1 b' q1, if0]; exact q3⟩
      · constructor
        · rintro ⟨q, -⟩
          exact absurd ((pk7_7 (Or.inr ⟨k, by omega, p3⟩)).mp q) (by rw [p3]; exact nI_ne6 (by omega))
        · rintro ⟨q, -⟩
          exact absurd q (by rw [p3]; exact nI_ne6 (by omega))
    · constructor
      · rintro ⟨k, q1, q2, q3⟩
        have q2' := (pk7_eq (by omega)).mp q2
        rcases (hW w hw).1 with ⟨p1, -⟩ | ⟨k', j, p1, p2, p3, -⟩
        · exact absurd (q2'.symm.trans p1) (nI_ne6 (by omega))
        · have := (nI_eq (by omega) (by omega)).mp (p3.symm.trans q2')
          subst this
          rw [hk1 k' p1, if0] at q3
          exact ⟨k', p1, p3, q3⟩
      · rintro ⟨k, q1, q2, q3⟩
        exact ⟨k, by omega, by rw [q2, pk7_nI (by omega)], by rw [hk1 k q1, if0]; exact q3⟩
  rcases e2 w hw with ⟨q1, q2⟩ | ⟨q1, q2⟩
  · rw [q2]
    exact ⟨0, AC_burn hA, Or.inl ⟨Or.inr (iff.mp q1), rfl⟩⟩
  · rw [q2]
    refine ⟨i, hA, ?_⟩
    rcases hi with ⟨r1, r2⟩ | ⟨r1, r2⟩
    · exact Or.inl ⟨Or.inl r1, r2⟩
    · exact Or.inr ⟨fun q => q.elim r1 (fun q => q1 (iff.mpr q)), r2⟩
/-- all keys from one on up are made anew -/
theorem newL (a3 : qv 3 = nI nw) (n1 : nk ≤ 6) (n2 : nb ≤ 6) (n3 : nw ≤ 64) (hP : PT nk par) (hW : WI nk nb nw par mak kob hek hew clo clm sta) (hb1 : ∀ b, b < nb → bov (2 * b + 1) = if bt lb b = true then 1 else 0) (y0 y5 : Int32) :
    ∀ cur, Up nk cur → ∀ fuel kev wrv (X : Nat → Prop), (up par cur).length < fuel → (∀ k, k < nk → kev (4 * k) = pm (par k)) → (∀ k, k < nk → kev (4 * k + 1) = if bt lk k = true then 1 else 0) → (∀ w, w < nw → DeadC nk nb lk lb hek hew w → X w) → LV nw hek hew clo clm sta wrv X →
      ∃ kev' wrv', fL_anew_b6 fuel qv kev bov wrv y0 y5 (pm cur) = fL_anew_b56 6000 qv kev' bov wrv' y0 y5 (-1) ∧ (∀ j, (∀ k, k ∈ up par cur → j ≠ 4 * k + 2 ∧ j ≠ 4 * k + 3) → kev' j = kev j) ∧ (∀ k, k ∈ up par cur → kev' (4 * k + 2) = kev (4 * k + 2) + 1 ∧ kev' (4 * k + 3) = 0) ∧
        LV nw hek hew clo clm sta wrv' (fun w => X w ∨ ∃ k, k ∈ up par cur ∧ (hek w = nI k ∨ clo w = nI k)) := by
  refine up_ind (Q := fun cur => ∀ fuel kev wrv (X : Nat → Prop), (up par cur).length < fuel → (∀ k, k < nk → kev (4 * k) = pm (par k)) → (∀ k, k < nk → kev (4 * k + 1) = if bt lk k = true then 1 else 0) → (∀ w, w < nw → DeadC nk nb lk lb hek hew w → X w) → LV nw hek hew clo clm sta wrv X →
      ∃ kev' wrv', fL_anew_b6 fuel qv kev bov wrv y0 y5 (pm cur) = fL_anew_b56 6000 qv kev' bov wrv' y0 y5 (-1) ∧ (∀ j, (∀ k, k ∈ up par cur → j ≠ 4 * k + 2 ∧ j ≠ 4 * k + 3) → kev' j = kev j) ∧ (∀ k, k ∈ up par cur → kev' (4 * k + 2) = kev (4 * k + 2) + 1 ∧ kev' (4 * k + 3) = 0) ∧
        LV nw hek hew clo clm sta wrv' (fun w => X w ∨ ∃ k, k ∈ up par cur ∧ (hek w = nI k ∨ clo w = nI k))) hP ?_ ?_
  · intro fuel kev wrv X hf h0 h1 hD hV
    obtain ⟨f, rfl⟩ : ∃ f, fuel = f + 1 := ⟨fuel - 1, by omega⟩
    refine ⟨kev, wrv, ?_, fun _ _ => rfl, fun k hk => ?_, LV_iff hV (fun w _ => ⟨Or.inl, fun q => q.elim id (fun ⟨k, hk, _⟩ => ?_)⟩)⟩
    · rw [fL_anew_b6, pm_6, if_pos (by decide)]
    · rw [up_6] at hk; cases hk
    · rw [up_6] at hk; cases hk
  · intro j hj ih fuel kev wrv X hf h0 h1 hD hV
    obtain ⟨f, rfl⟩ : ∃ f, fuel = f + 1 := ⟨fuel - 1, by omega⟩
    have hup := up_k hP (by omega) hj
    rw [hup] at hf ⊢
    have hjn : ¬ j ∈ up par (par j) := fun q => by have := up_par_lt hP (by omega : nk ≤ 20) hj q; omega
    have hnk : ∀ k, k ∈ up par (par j) → k < nk := fun k hk => up_nk hP (by omega) (PT_up hP hj) hk
    have u0 : ∀ k, k < nk → upd (upd kev (4 * j + 2) (kev (4 * j + 2) + 1)) (4 * j + 3) 0 (4 * k) = pm (par k) := fun k hk => by rw [pk_un (by omega), pk_un (by omega)]; exact h0 k hk
    have u1 : ∀ k, k < nk → upd (upd kev (4 * j + 2) (kev (4 * j + 2) + 1)) (4 * j + 3) 0 (4 * k + 1) = if bt lk k = true then 1 else 0 := fun k hk => by rw [pk_un (by omega), pk_un (by omega)]; exact h1 k hk
    obtain ⟨w1, g1, g2⟩ := burn_step (qv := qv) (lk := lk) (lb := lb) a3 n1 n2 n3 hW hV u1 hb1 (nI j)
    obtain ⟨kev', wrv', k1, k2, k3, k4⟩ := ih f _ w1 _ (by simp at hf; omega) u0 u1 (fun w hw q => Or.inl (hD w hw q)) g2
    refine ⟨kev', wrv', ?_, fun i hi => ?_, fun k hk => ?_, LV_iff k4 (fun w hw => ?_)⟩
    · rw [fL_anew_b6, pm_nI (by omega), if_neg (nI_pos (by omega)), i4, i4p2, i4p3, if_neg (nI_in (by omega) (by omega)), if_neg (nI_in (by omega) (by omega)), if_neg (nI_in (by omega) (by omega)), nI_clamp (by omega), nI_clamp (by omega), g1, Option.bind_some, if_neg (nI_in (by omega) (by omega)), nI_clamp (by omega), u0 j hj]
      exact k1
    · obtain ⟨i1, i2⟩ := hi j List.mem_cons_self
      rw [k2 i (fun k hk => hi k (List.mem_cons_of_mem _ hk)), pk_un i2, pk_un i1]
    · rcases List.mem_cons.mp hk with rfl | hk
      · have hkk : ∀ k', k' ∈ up par (par k) → k' ≠ k := fun k' hk' e => hjn (e ▸ hk')
        rw [k2 (4 * k + 2) (fun k' hk' => by have := hkk k' hk'; omega), k2 (4 * k + 3) (fun k' hk' => by have := hkk k' hk'; omega), pk_us, pk_un (by omega), pk_us]
        exact ⟨rfl, rfl⟩
      · have hkj : ¬ k = j := fun e => hjn (e ▸ hk)
        obtain ⟨e1, e2⟩ := k3 k hk
        rw [e1, e2, pk_un (by omega), pk_un (by omega)]
        exact ⟨rfl, rfl⟩
    · constructor
      · rintro ((q | q | q | q) | ⟨k, hk, q⟩)
        · exact Or.inl q
        · exact Or.inr ⟨j, List.mem_cons_self, Or.inl ((pk7_eq (by omega)).mp q)⟩
        · exact Or.inr ⟨j, List.mem_cons_self, Or.inr q⟩
        · exact Or.inl (hD w hw q)
        · exact Or.inr ⟨k, List.mem_cons_of_mem _ hk, q⟩
      · rintro (q | ⟨k, hk, q⟩)
        · exact Or.inl (Or.inl q)
        · rcases List.mem_cons.mp hk with rfl | hk
          · rcases q with q | q
            · exact Or.inl (Or.inr (Or.inl ((pk7_eq (by omega)).mpr q)))
            · exact Or.inl (Or.inr (Or.inr (Or.inl q)))
          · exact Or.inr ⟨k, hk, q⟩
/-- what the row of numbers burns of what is in the house -/
theorem rburn_iff (hB : B < 2 ^ 30) (t1 : nk ≤ 20) (t2 : nb ≤ 20) {mw : Int32} (hC : CI B nk nw mw mak wea) (hW : WI nk nb nw par mak kob hek hew clo clm sta) (hH : HO nk nw lk lb mak hek hew clo clm sta) {S : List Nat} (hS : ∀ k, k ∈ S → k < nk) {mak' : Nat → Int32} (hm : ∀ k, k < nk → mak' k = if k ∈ S then mak k + 1 else mak k)
    {w : Nat} (hw : w < nw) (hs : bt (sta w) 3 = true) : RBurn lk' lb' mak' hek hew clo clm w ↔ (DeadC nk nb lk' lb' hek hew w ∨ ∃ k, k ∈ S ∧ (hek w = nI k ∨ clo w = nI k)) := by
  obtain ⟨g1, g2, g3⟩ := hH w hw hs
  obtain ⟨w1, ⟨c, m, m', e1, e2, e3, e4, e5⟩, w3⟩ := hW w hw
  have lt1 : ∀ k, k < nk → mak k < mak k + 1 := fun k hk => by
    obtain ⟨⟨m, m1, m2⟩, -⟩ := hC.2.2 k hk
    rw [m2, nI_1]; exact nI_lt (Nat.lt_succ_self _) (by omega)
  have irr : ∀ x : Int32, ¬ x < x := fun x h => by rw [Int32.lt_iff_toInt_lt] at h; omega
  constructor
  · rintro (⟨c', q1, q2, q3⟩ | ⟨q1, b, q2, q3, q4⟩ | ⟨k, q1, q2, q3⟩)
    · have := (nI_eq (by omega) (by omega)).mp (q2.symm.trans e2)
      subst this
      by_cases hc : c' ∈ S
      · exact Or.inr ⟨c', hc, Or.inr q2⟩
      · rw [hm c' e1, if_neg hc, g1 c' e1 q2] at q3
        exact absurd q3 (irr _)
    · rcases w1 with ⟨p1, b', p2, p3, p4⟩ | ⟨k, j, p1, p2, p3, -⟩
      · have := (nI_eq (by omega) (by omega)).mp (q3.symm.trans p3)
        subst this
        exact Or.inl (Or.inl ⟨q1, b, p2, q3, q4⟩)
      · exact absurd (p3.symm.trans q1) (nI_ne6 (by omega))
    · rcases w1 with ⟨p1, b', p2, p3, p4⟩ | ⟨k', j, p1, p2, p3, -⟩
      · exact absurd (q2.symm.trans p1) (nI_ne6 (by omega))
      · have := (nI_eq (by omega) (by omega)).mp (q2.symm.trans p3)
        subst this
        rcases q3 with q3 | q3
        · exact Or.inl (Or.inr ⟨k, p1, q2, q3⟩)
        · by_cases hc : k ∈ S
          · exact Or.inr ⟨k, hc, Or.inl q2⟩
          · rw [hm k p1, if_neg hc, (g3 k p1 q2).2] at q3
            exact absurd q3 (irr _)
  · rintro ((⟨q1, b, q2, q3, q4⟩ | ⟨k, q1, q2, q3⟩) | ⟨k, hk, q | q⟩)
    · exact Or.inr (Or.inl ⟨q1, b, by omega, q3, q4⟩)
    · exact Or.inr (Or.inr ⟨k, by omega, q2, Or.inl q3⟩)
    · have := hS k hk
      refine Or.inr (Or.inr ⟨k, by omega, q, Or.inr ?_⟩)
      rw [hm k this, if_pos hk, (g3 k this q).2]
      exact lt1 k this
    · have := hS k hk
      refine Or.inl ⟨k, by omega, q, ?_⟩
      rw [hm k this, if_pos hk, g1 k this q]
      exact lt1 k this
theorem LW_burnt {st2 : Nat → Int32} (hV : LV nw hek hew clo clm sta wrv X) (hR : RW st nw hek hew clo clm sta) (hc : ∀ w, w < nw → st2 (124 + 6 * w) = st (124 + 6 * w) ∧ st2 (124 + 6 * w + 1) = st (124 + 6 * w + 1) ∧ st2 (124 + 6 * w + 2) = st (124 + 6 * w + 2) ∧ st2 (124 + 6 * w + 3) = st (124 + 6 * w + 3) ∧ st2 (124 + 6 * w + 5) = st (124 + 6 * w + 5))
    (h4 : ∀ w, w < nw → (RBurn lk' lb' mak hek hew clo clm w ∧ st2 (124 + 6 * w + 4) = 0) ∨ (¬ RBurn lk' lb' mak hek hew clo clm w ∧ st2 (124 + 6 * w + 4) = st (124 + 6 * w + 4))) (hX : ∀ w, w < nw → bt (sta w) 3 = true → (RBurn lk' lb' mak hek hew clo clm w ↔ X w)) : LWr nw st2 wrv := fun w hw => by
  obtain ⟨i, hA, hi⟩ := hV w hw
  obtain ⟨r0, r1, r2, r3, r4, r5⟩ := hR w hw
  obtain ⟨c0, c1, c2, c3, c5⟩ := hc w hw
  rw [c0, c1, c2, c3, c5, r0, r1, r2, r3, r5]
  have e : st2 (124 + 6 * w + 4) = i := by
    by_cases hs : bt (sta w) 3 = true
    · have hx := hX w hw hs
      rcases h4 w hw with ⟨q1, q2⟩ | ⟨q1, q2⟩
      · rcases hi with ⟨-, z⟩ | ⟨z, -⟩
        · rw [q2, z]
        · exact absurd (hx.mp q1) z
      · rcases hi with ⟨z, -⟩ | ⟨-, z⟩
        · exact absurd (hx.mpr z) q1
        · rw [q2, z, r4]
    · have z : i = 0 := by
        rcases hi with ⟨-, z⟩ | ⟨-, z⟩
        · exact z
        · rw [z, if_neg hs]
      rcases h4 w hw with ⟨-, q2⟩ | ⟨-, q2⟩
      · rw [q2, z]
      · rw [q2, z, r4, if_neg hs]
  rw [e]
  exact hA
end LBURN
