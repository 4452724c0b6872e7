/-! what can be opened, asked on both sides -/
theorem cand_8 : ∀ s, s < 16 → ∀ p, p < 8 → ((nI s &&& (nI p ||| 8)) = 0 ↔ ((nI s &&& 7) &&& nI p = 0 ∧ bt (nI s) 3 = false)) := by decide +kernel
theorem cand_0 : ∀ s, s < 16 → ∀ p, p < 8 → ((nI s &&& nI p) = 0 ↔ (nI s &&& 7) &&& nI p = 0) := by decide +kernel
theorem Fix.congr {S S' : Int32 → Int32 → Prop} {C C' : Nat → Prop} {nw : Nat} {hek hew clo clm op : Nat → Int32} (h : Fix S C nw hek hew clo clm op) (hC : ∀ w, w < nw → (C w ↔ C' w)) (hS : ∀ w, w < nw → (S (clo w) (clm w) ↔ S' (clo w) (clm w))) : Fix S' C' nw hek hew clo clm op := fun w hw => by
  have := h w hw
  unfold Had at this ⊢
  rw [this, hC w hw, hS w hw]
section OPENS
variable {B nk nb nw : Nat} {st : Nat → Int32} {mw ke bo lk lb nu : Int32} {par mak wea kob hek hew clo clm sta : Nat → Int32}
theorem start_safe (sm : Nat → Int32) : ∃ sm', fX2_startFromSafe sm lk par mak = some sm' ∧ ∀ k, k < 20 → sm' k = if bt lk k = true ∧ par k = -6 then mak k else -6 := by
  obtain ⟨o, e1, e2, -⟩ := row_loop (n := 20) (fun fuel f i => fX2_startFromSafe_b11 fuel f lk par mak (nI i)) (fun f => some f) (fun i a b => b = if bt lk i = true ∧ par i = -6 then mak i else a)
    (fun fuel f => by
      show fX2_startFromSafe_b11 _ _ _ _ _ _ = _
      rw [fX2_startFromSafe_b11, if_pos (show (20 : Int32) ≤ nI 20 from nI_le (a := 20) (Nat.le_refl _) (by omega))])
    (fun fuel f i hi => by
      show ∃ f', fX2_startFromSafe_b11 _ _ _ _ _ _ = fX2_startFromSafe_b11 _ _ _ _ _ _ ∧ _
      rw [fX2_startFromSafe_b11, if_neg (show ¬ (20 : Int32) ≤ nI i from nI_ge (b := 20) hi (by omega)), nI_1]
      unfold fX5_isLiveKey fX5_makeOf
      rw [has_nI (by omega), isRoot_eq hi, rAt_nI hi (by omega), rSet_nI hi (by omega)]
      by_cases hl : bt lk i = true
      · rw [if_pos hl, if_neg (show ¬ ((1 : Int32) = 0) by decide)]
        by_cases hr : par i = -6
        · rw [if_pos hr, if_neg (show ¬ ((1 : Int32) = 0) by decide)]
          exact ⟨upd f i (mak i), rfl, by rw [pk_us, if_pos ⟨hl, hr⟩], fun j hj => pk_un hj⟩
        · rw [if_neg hr, if_pos rfl]
          exact ⟨f, rfl, by rw [if_neg (fun q => hr q.2)], fun j _ => rfl⟩
      · rw [if_neg hl, if_pos rfl]
        exact ⟨f, rfl, by rw [if_neg (fun q => hl q.1)], fun j _ => rfl⟩) 6000 0 (rFill 20 sm (-6)) (by omega) (by omega)
  refine ⟨o, e1, fun k hk => ?_⟩
  have hf : rFill 20 sm (-6) k = -6 := by
    unfold rFill
    exact if_pos hk
  rw [e2 k (Nat.zero_le _) hk, hf]
theorem SC_safe (hz : ∀ i, nk ≤ i → bt lk i = false) (hk : nk ≤ 20) {sm : Nat → Int32} (hsm : ∀ k, k < 20 → sm k = if bt lk k = true ∧ par k = -6 then mak k else -6) {c m y3 : Int32} (hm : ¬ m = -6) : (∃ j, j < 20 ∧ c = nI j ∧ sm j = m) ↔ SR nk lk par mak (-6) y3 c m := by
  constructor
  · rintro ⟨j, j1, j2, j3⟩
    rw [hsm j j1] at j3
    by_cases h : bt lk j = true ∧ par j = -6
    · rw [if_pos h] at j3
      refine Or.inl ⟨rfl, j, ?_, j2, h.1, h.2, j3⟩
      rcases Nat.lt_or_ge j nk with q | q
      · exact q
      · have := h.1
        rw [hz j q] at this; cases this
    · rw [if_neg h] at j3
      exact absurd j3.symm hm
  · rintro (⟨-, j, j1, j2, j3, j4, j5⟩ | ⟨q, -⟩)
    · exact ⟨j, by omega, j2, by rw [hsm j (by omega), if_pos ⟨j3, j4⟩]; exact j5⟩
    · exact absurd rfl q
theorem SC_leak {x m0 : Int32} {k : Nat} (hk : k < 20) (hx : x = nI k) {sm : Nat → Int32} (hsm : ∀ j, j < 20 → sm j = if j = k then m0 else -6) {c m : Int32} (hm : ¬ m = -6) : (∃ j, j < 20 ∧ c = nI j ∧ sm j = m) ↔ SR nk lk par mak x m0 c m := by
  have h6 : ¬ x = -6 := by rw [hx]; exact nI_ne6 (by omega)
  constructor
  · rintro ⟨j, j1, j2, j3⟩
    rw [hsm j j1] at j3
    by_cases h : j = k
    · rw [if_pos h] at j3
      subst h
      exact Or.inr ⟨h6, j2.trans hx.symm, j3.symm⟩
    · rw [if_neg h] at j3
      exact absurd j3.symm hm
  · rintro (⟨q, -⟩ | ⟨-, q1, q2⟩)
    · exact absurd q h6
    · exact ⟨k, hk, q1.trans hx, by rw [hsm k hk, if_pos rfl, q2]⟩
theorem clm_ne (hW : WI nk nb nw par mak kob hek hew clo clm sta) {w : Nat} (hw : w < nw) : ¬ clm w = -6 := by
  obtain ⟨-, ⟨c, m, m', c1, c2, c3, c4, c5, c6⟩, -⟩ := hW w hw
  rw [c3]
  exact nI_ne6 (by omega)
/-- the boxes of the opened wraps -/
theorem openBoxes_both (hk : nk ≤ 20) (hb : nb ≤ 20) (hw : nw ≤ 120) (h3 : st 3 = nI nw) (hR : RW st nw hek hew clo clm sta) (hW : WI nk nb nw par mak kob hek hew clo clm sta) {oC oR : Nat → Int32} (bC : Bin nw oC) (he : ∀ w, w < nw → oC w = oR w) :
    ∃ v, fX2_openedBoxes oC (nI nw) hek hew = some v ∧ fX8_openBoxes st oR = some v := by
  have key : ∀ fuel i acc, i ≤ nw → nw < i + fuel → ∃ v, fX2_openedBoxes_b4 fuel oC (nI nw) hek hew acc (nI i) = some v ∧ fX8_openBoxes_b4 fuel st oR acc (nI i) = some v := by
    intro fuel
    induction fuel with
    | zero => intro i acc h1 h2; omega
    | succ fuel ih =>
      intro i acc h1 h2
      rw [fX2_openedBoxes_b4, fX8_openBoxes_b4, if_neg ix3, cl3, h3]
      by_cases hi : i < nw
      · obtain ⟨r0, r1, -⟩ := hR i hi
        rw [if_neg (nI_ge hi (by omega)), if_neg (nI_ge hi (by omega)), rAt_nI (by omega) (by omega), if_neg (nI_in (by omega) (by omega)), nI_clamp (by omega), ← he i hi, nI_1]
        rcases bC i hi with ho | ho
        · rw [if_pos ho, if_neg (by rw [ho]; decide), Int32.or_zero]
          exact ih (i + 1) acc hi (by omega)
        · rw [if_neg (show ¬ oC i = 0 by rw [ho]; decide), if_pos ho, wr0 (by omega), Option.bind_some, r0]
          unfold fX6_heldKey
          rw [rAt_nI (by omega) (by omega)]
          by_cases h6 : hek i = -6
          · rw [if_pos h6, if_pos h6, wr1 (by omega), Option.bind_some, r1]
            unfold fX6_heldWhat
            rw [rAt_nI (by omega) (by omega)]
            rcases (hW i hi).1 with ⟨-, b, b1, b2, -⟩ | ⟨k, j, p1, p2, p3, -⟩
            · rw [b2, setOf_eq (by omega)]
              exact ih (i + 1) _ hi (by omega)
            · exact absurd (p3.symm.trans h6) (nI_ne6 (by omega))
          · rw [if_neg h6, if_neg h6, Int32.or_zero]
            exact ih (i + 1) acc hi (by omega)
      · have hin : i = nw := by omega
        subst hin
        rw [if_pos (nI_le (Nat.le_refl _) (by omega)), if_pos (nI_le (Nat.le_refl _) (by omega))]
        exact ⟨acc, rfl, rfl⟩
  exact key 6000 0 0 (Nat.zero_le _) (by omega)
theorem low16 (hW : WI nk nb nw par mak kob hek hew clo clm sta) {w : Nat} (hw : w < nw) : ∃ s, s < 16 ∧ sta w = nI s := (hW w hw).2.2
theorem safe_both (h : Rel B nk nb nw st mw ke bo lk lb par mak wea kob nu hek hew clo clm sta) (sm op0 opn : Nat → Int32) {p : Nat} (hp : p < 8) :
    ∃ sm' oC oR, fX2_startFromSafe sm lk par mak = some sm' ∧ fX2_openAll sm' op0 nu hek hew clo clm sta (nI p ||| 8) = some oC ∧ fX8_open st opn (nI p) (-6) 0 = some oR ∧ Bin nw oC ∧ Bin nw oR ∧ (∀ w, w < nw → oC w = oR w) ∧ ∀ k, k < 20 → sm' k = if bt lk k = true ∧ par k = -6 then mak k else -6 := by
  obtain ⟨⟨rfl, rfl, rfl⟩, ⟨t1, t2, t3, t4, t5, t6, t7, t8⟩, ⟨c1, c2, c3⟩, hW, hH, hU, ⟨s0, s1, s2, s3⟩, hK, hBx, hR⟩ := id h
  obtain ⟨sm', e1, e2⟩ := start_safe (lk := lk) (par := par) (mak := mak) sm
  obtain ⟨oC, g1, g2, g3⟩ := openAll_eq t1 c1 hW sm' op0 (nI p ||| 8)
  obtain ⟨oR, g4, g5, g6⟩ := ropen_eq t1 c1 s3 hK hR hW opn (nI p) (-6) 0
  refine ⟨sm', oC, oR, e1, g1, g4, g2, g5, ?_, e2⟩
  refine fix_unique t1 hW g2 g5 (g3.congr (fun w hw => ?_) (fun w hw => SC_safe t5 t1 e2 (clm_ne hW hw))) g6
  obtain ⟨s, hs, es⟩ := low16 hW hw
  have := cand_8 s hs p hp
  unfold CR
  rw [es, this]
  constructor
  · intro q
    by_cases h1 : (nI s &&& 7) &&& nI p = 0
    · right
      refine ⟨rfl, ?_⟩
      rcases Bool.eq_false_or_eq_true (bt (nI s) 3) with h2 | h2
      · exact h2
      · exact absurd ⟨h1, h2⟩ q
    · exact Or.inl h1
  · rintro (q | ⟨-, q⟩) ⟨r1, r2⟩
    · exact q r1
    · rw [q] at r2; cases r2
theorem leak_both (h : Rel B nk nb nw st mw ke bo lk lb par mak wea kob nu hek hew clo clm sta) (sm op0 opn : Nat → Int32) {k p : Nat} (hk : k < nk) (m0 : Int32) (hp : p < 8) :
    ∃ oC oR, fX2_openAll (rSet 20 (rFill 20 sm (-6)) (nI k) m0) op0 nu hek hew clo clm sta (nI p) = some oC ∧ fX8_open st opn (nI p) (nI k) m0 = some oR ∧ Bin nw oC ∧ ∀ w, w < nw → oC w = oR w := by
  obtain ⟨⟨rfl, rfl, rfl⟩, ⟨t1, t2, t3, t4, t5, t6, t7, t8⟩, ⟨c1, c2, c3⟩, hW, hH, hU, ⟨s0, s1, s2, s3⟩, hK, hBx, hR⟩ := id h
  have hsm : ∀ j, j < 20 → rSet 20 (rFill 20 sm (-6)) (nI k) m0 j = if j = k then m0 else -6 := fun j hj => by
    rw [rSet_nI (by omega) (by omega)]
    by_cases hjk : j = k
    · subst hjk; rw [pk_us, if_pos rfl]
    · rw [pk_un hjk, if_neg hjk]
      unfold rFill
      exact if_pos hj
  obtain ⟨oC, g1, g2, g3⟩ := openAll_eq t1 c1 hW (rSet 20 (rFill 20 sm (-6)) (nI k) m0) op0 (nI p)
  obtain ⟨oR, g4, g5, g6⟩ := ropen_eq t1 c1 s3 hK hR hW opn (nI p) (nI k) m0
  refine ⟨oC, oR, g1, g4, g2, ?_⟩
  refine fix_unique t1 hW g2 g5 (g3.congr (fun w hw => ?_) (fun w hw => SC_leak (by omega) rfl hsm (clm_ne hW hw))) g6
  obtain ⟨s, hs, es⟩ := low16 hW hw
  have := cand_0 s hs p hp
  unfold CR
  rw [es, this]
  exact ⟨Or.inl, fun q => q.elim id (fun r => absurd r.1 (nI_ne6 (by omega)))⟩
/-- all boxes that can be opened -/
theorem boxes_both (h : Rel B nk nb nw st mw ke bo lk lb par mak wea kob nu hek hew clo clm sta) (sm op0 opn : Nat → Int32) {p : Nat} (hp : p < 8) :
    ∃ v sm' oC oR, fX2_boxesWith sm op0 lk par mak nu hek hew clo clm sta (nI p) = some (v, sm', oC) ∧ fX8_openWith st opn (nI p) = some (v, oR) := by
  obtain ⟨sm', oC, oR, e1, e2, e3, e4, e5, e6, -⟩ := safe_both h sm op0 opn hp
  obtain ⟨⟨rfl, rfl, rfl⟩, ⟨t1, t2, t3, t4, t5, t6, t7, t8⟩, ⟨c1, c2, c3⟩, hW, hH, hU, ⟨s0, s1, s2, s3⟩, hK, hBx, hR⟩ := id h
  obtain ⟨v, v1, v2⟩ := openBoxes_both t1 t2 c1 s3 hR hW e4 e6
  refine ⟨v, sm', oC, oR, ?_, ?_⟩
  · unfold fX2_boxesWith
    rw [e1, Option.bind_some, e2, Option.bind_some, v1]; rfl
  · unfold fX8_openWith
    rw [e3, Option.bind_some, v2]; rfl
theorem places_both (x : Int32) : (∃ p, p < 8 ∧ x = nI p ∧ fX7_arePlaces x = 1 ∧ fX8_within x 0 7 = 1) ∨ (fX7_arePlaces x = 0 ∧ fX8_within x 0 7 = 0) := by
  unfold fX7_arePlaces fX8_within
  rcases pos_or x with hq | ⟨p, hp, rfl⟩
  · exact Or.inr ⟨if_pos hq, if_pos hq⟩
  · rw [if_neg (nI_pos hp)]
    rcases Nat.lt_or_ge p 8 with h | h
    · rw [if_neg (show ¬ (7 : Int32) < nI p from nI_nlt (a := 7) (by omega) (by omega))]
      exact Or.inl ⟨p, h, rfl, rfl, rfl⟩
    · rw [if_pos (show (7 : Int32) < nI p from nI_lt (a := 7) (by omega) hp)]
      exact Or.inr ⟨rfl, rfl⟩
theorem one_has {k : Nat} (hk : k < 32) (v : Int32) : fX7_oneIf (fX7_has v (nI k)) = (v >>> (nI k &&& 31)) &&& 1 := by
  rw [shr_1 hk, has_nI hk]
  unfold fX7_oneIf
  by_cases hb : bt v k = true
  · rw [if_pos hb, if_neg (by decide)]
  · rw [if_neg hb, if_pos rfl]
theorem canOpen_both (h : Rel B nk nb nw st mw ke bo lk lb par mak wea kob nu hek hew clo clm sta) (sm op0 opn : Nat → Int32) (a x : Int32) : ∃ v sm' oC oR, fX7_canOpen bo lk par mak nu hek hew clo clm sta sm op0 a x = some (v, sm', oC) ∧ fX8_canOpen st opn a x = some (v, oR) := by
  have t2 := h.2.1.2.1
  have s2 : st 2 = nI nb := by rw [h.2.2.2.2.2.2.1.2.2.1, h.1.2.1]
  have hbo := h.1.2.1
  unfold fX7_canOpen fX8_canOpen
  rw [hbo]
  rcases box_both t2 s2 a with ⟨b, hb, rfl, e1, e2⟩ | ⟨e1, e2⟩
  · rw [e1, e2, Option.bind_some, if_neg (show ¬ ((1 : Int32) = 0) by decide), if_neg (show ¬ ((1 : Int32) = 0) by decide)]
    rcases places_both x with ⟨p, hp, rfl, p1, p2⟩ | ⟨p1, p2⟩
    · obtain ⟨v, sm', oC, oR, g1, g2⟩ := boxes_both h sm op0 opn hp
      rw [p1, p2, if_neg (show ¬ ((1 : Int32) = 0) by decide), if_neg (show ¬ ((1 : Int32) = 0) by decide), g1, g2, Option.bind_some, Option.bind_some]
      dsimp only
      rw [one_has (by omega)]
      exact ⟨_, sm', oC, oR, rfl, rfl⟩
    · rw [p1, p2, if_pos rfl, if_pos rfl, Option.bind_some, if_neg (show ¬ ((1 : Int32) = 0) by decide)]
      exact ⟨_, _, _, _, rfl, rfl⟩
  · rw [e1, e2, Option.bind_some, if_pos rfl, if_pos rfl, Option.bind_some, if_pos rfl]
    exact ⟨_, _, _, _, rfl, rfl⟩
theorem canHave_both (h : Rel B nk nb nw st mw ke bo lk lb par mak wea kob nu hek hew clo clm sta) (sm op0 opn : Nat → Int32) (a y x : Int32) : ∃ v sm' oC oR, fX7_canHave ke lk par mak nu hek hew clo clm sta sm op0 a y x = some (v, sm', oC) ∧ fX8_canHave st opn a y x = some (v, oR) := by
  obtain ⟨⟨rfl, rfl, rfl⟩, ⟨t1, t2, t3, t4, t5, t6, t7, t8⟩, ⟨c1, c2, c3⟩, hW, hH, hU, ⟨s0, s1, s2, s3⟩, hK, hBx, hR⟩ := id h
  unfold fX7_canHave fX8_canHave
  rcases key_both t1 s1 a with ⟨k, hk, rfl, e1, e2⟩ | ⟨e1, e2⟩
  · rw [e1, e2, Option.bind_some, if_neg (show ¬ ((1 : Int32) = 0) by decide), if_neg (show ¬ ((1 : Int32) = 0) by decide)]
    by_cases hy : y < 0
    · rw [if_pos hy, if_pos hy, Option.bind_some, if_neg (show ¬ ((1 : Int32) = 0) by decide)]
      exact ⟨_, _, _, _, rfl, rfl⟩
    · have hy6 : ¬ y = -6 := fun q => hy (by rw [q]; decide)
      rw [if_neg hy, if_neg hy]
      rcases places_both x with ⟨p, hp, rfl, p1, p2⟩ | ⟨p1, p2⟩
      · obtain ⟨sm', oC, oR, g1, g2, g3, g4, g5, g6, g7⟩ := safe_both h sm op0 opn hp
        have hC := isHadC (hek := hek) (hew := hew) (sm := sm') c1 g4 (by omega : k < 20) y
        have hRr := isHadR (y2 := -6) (y3 := 0) t1 c1 s3 hK hR g5 hk y
        have hiff : Had (fun c m => ∃ j, j < 20 ∧ c = nI j ∧ sm' j = m) nw oC hek hew (nI k) y ↔ Had (SR nk lk par mak (-6) 0) nw oR hek hew (nI k) y := by
          have hS : (∃ j, j < 20 ∧ nI k = nI j ∧ sm' j = y) ↔ SR nk lk par mak (-6) 0 (nI k) y := SC_safe t5 t1 g7 hy6
          constructor
          · rintro (q | ⟨w, q1, q2, q3⟩)
            · exact Or.inl (hS.mp q)
            · exact Or.inr ⟨w, q1, (g6 w q1).symm.trans q2, q3⟩
          · rintro (q | ⟨w, q1, q2, q3⟩)
            · exact Or.inl (hS.mpr q)
            · exact Or.inr ⟨w, q1, (g6 w q1).trans q2, q3⟩
        rw [p1, p2, if_neg (show ¬ ((1 : Int32) = 0) by decide), if_neg (show ¬ ((1 : Int32) = 0) by decide), g3, Option.bind_some]
        unfold fX2_canHaveKey
        rw [g1, Option.bind_some, g2, Option.bind_some]
        rcases hC with ⟨z1, z2⟩ | ⟨z1, z2⟩
        · rcases hRr with ⟨z3, z4⟩ | ⟨z3, z4⟩
          · rw [z2, z4]
            exact ⟨1, sm', oC, oR, rfl, rfl⟩
          · exact absurd (hiff.mp z1) z3
        · rcases hRr with ⟨z3, z4⟩ | ⟨z3, z4⟩
          · exact absurd (hiff.mpr z3) z1
          · rw [z2, z4]
            exact ⟨0, sm', oC, oR, rfl, rfl⟩
      · rw [p1, p2, if_pos rfl, if_pos rfl, Option.bind_some, if_neg (show ¬ ((1 : Int32) = 0) by decide)]
        exact ⟨_, _, _, _, rfl, rfl⟩
  · rw [e1, e2, Option.bind_some, if_pos rfl, if_pos rfl, Option.bind_some, if_pos rfl]
    exact ⟨_, _, _, _, rfl, rfl⟩
theorem leaks_both (h : Rel B nk nb nw st mw ke bo lk lb par mak wea kob nu hek hew clo clm sta) (sm op0 opn : Nat → Int32) (a y x : Int32) : ∃ v sm' oC oR, fX7_leaks ke par nu hek hew clo clm sta sm op0 a y x = some (v, sm', oC) ∧ fX8_leaks st opn a y x = some (v, oR) := by
  obtain ⟨⟨rfl, rfl, rfl⟩, ⟨t1, t2, t3, t4, t5, t6, t7, t8⟩, ⟨c1, c2, c3⟩, hW, hH, hU, ⟨s0, s1, s2, s3⟩, hK, hBx, hR⟩ := id h
  unfold fX7_leaks fX8_leaks
  rcases key_both t1 s1 a with ⟨k, hk, rfl, e1, e2⟩ | ⟨e1, e2⟩
  · rw [e1, e2, Option.bind_some, if_neg (show ¬ ((1 : Int32) = 0) by decide), if_neg (show ¬ ((1 : Int32) = 0) by decide), isRoot_eq (by omega), risRoot_eq (by omega) (hK k hk).1, Option.bind_some]
    by_cases hr : par k = -6
    · rw [if_pos hr, if_neg (show ¬ ((1 : Int32) = 0) by decide), if_neg (show ¬ ((1 : Int32) = 0) by decide)]
      by_cases hy : y < 0
      · rw [if_pos hy, if_pos hy]
        exact ⟨_, _, _, _, rfl, rfl⟩
      · rw [if_neg hy, if_neg hy]
        rcases places_both x with ⟨p, hp, rfl, p1, p2⟩ | ⟨p1, p2⟩
        · obtain ⟨oC, oR, g1, g2, g3, g4⟩ := leak_both h sm op0 opn hk y hp
          obtain ⟨v, v1, v2⟩ := openBoxes_both t1 t2 c1 s3 hR hW g3 g4
          rw [p1, p2, if_neg (show ¬ ((1 : Int32) = 0) by decide), if_neg (show ¬ ((1 : Int32) = 0) by decide), g2, Option.bind_some, v2]
          unfold fX2_boxesByLeak
          rw [g1, Option.bind_some, v1]
          exact ⟨v, _, oC, oR, rfl, rfl⟩
        · rw [p1, p2, if_pos rfl, if_pos rfl]
          exact ⟨_, _, _, _, rfl, rfl⟩
    · rw [if_neg hr, if_pos rfl, if_pos rfl]
      exact ⟨_, _, _, _, rfl, rfl⟩
  · rw [e1, e2, Option.bind_some, if_pos rfl, if_pos rfl]
    exact ⟨_, _, _, _, rfl, rfl⟩
theorem ofBox_both (h : Rel B nk nb nw st mw ke bo lk lb par mak wea kob nu hek hew clo clm sta) (sm op0 opn : Nat → Int32) (a x : Int32) : ∃ v sm' oC oR, fX7_ofBox bo lk lb par mak kob nu hek hew clo clm sta sm op0 a x = some (v, sm', oC) ∧ fX8_ofBox st opn a x = some (v, oR) := by
  have t2 := h.2.1.2.1
  have s2 : st 2 = nI nb := by rw [h.2.2.2.2.2.2.1.2.2.1, h.1.2.1]
  have hbo := h.1.2.1
  have hBx := h.2.2.2.2.2.2.2.2.1
  unfold fX7_ofBox fX8_ofBox
  rw [hbo]
  rcases box_both t2 s2 a with ⟨b, hb, rfl, e1, e2⟩ | ⟨e1, e2⟩
  · obtain ⟨r0, r1⟩ := hBx b hb
    rw [e1, e2, Option.bind_some, if_neg (show ¬ ((1 : Int32) = 0) by decide), if_neg (show ¬ ((1 : Int32) = 0) by decide)]
    by_cases b0 : x = 0
    · subst b0
      rw [if_pos rfl, if_pos rfl, box0 (by omega), r0]
      unfold fX5_keyOfBox
      rw [rAt_nI (by omega) (by omega)]
      exact ⟨_, _, _, _, rfl, rfl⟩
    · rw [if_neg b0, if_neg b0]
      by_cases b1 : x = 1
      · subst b1
        rw [if_pos rfl, if_pos rfl, box1 (by omega), r1]
        unfold fX5_isLiveBox fX7_oneIf
        rw [has_nI (by omega)]
        by_cases hl : bt lb b = true
        · rw [if_pos hl, if_neg (by decide)]
          exact ⟨_, _, _, _, rfl, rfl⟩
        · rw [if_neg hl, if_pos rfl]
          exact ⟨_, _, _, _, rfl, rfl⟩
      · rw [if_neg b1, if_neg b1]
        by_cases b2 : x = 2
        · obtain ⟨v, sm', oC, oR, g1, g2⟩ := boxes_both h sm op0 opn (p := 0) (by omega)
          have g1' : fX2_boxesWith sm op0 lk par mak nu hek hew clo clm sta 0 = some (v, sm', oC) := g1
          have g2' : fX8_openWith st opn 0 = some (v, oR) := g2
          rw [if_pos b2, if_pos b2, g1', g2', Option.bind_some, Option.bind_some]
          dsimp only
          rw [one_has (by omega)]
          exact ⟨_, sm', oC, oR, rfl, rfl⟩
        · rw [if_neg b2, if_neg b2]
          by_cases b3 : x = 3
          · obtain ⟨v, sm', oC, oR, g1, g2⟩ := boxes_both h sm op0 opn (p := 7) (by omega)
            have g1' : fX2_boxesWith sm op0 lk par mak nu hek hew clo clm sta 7 = some (v, sm', oC) := g1
            have g2' : fX8_openWith st opn 7 = some (v, oR) := g2
            rw [if_pos b3, if_pos b3, g1', g2', Option.bind_some, Option.bind_some]
            dsimp only
            rw [one_has (by omega)]
            exact ⟨_, sm', oC, oR, rfl, rfl⟩
          · rw [if_neg b3, if_neg b3]
            exact ⟨_, _, _, _, rfl, rfl⟩
  · rw [e1, e2, Option.bind_some, if_pos rfl, if_pos rfl]
    exact ⟨_, _, _, _, rfl, rfl⟩
theorem count_both (h : Rel B nk nb nw st mw ke bo lk lb par mak wea kob nu hek hew clo clm sta) (sm op0 opn : Nat → Int32) (ln kp x : Int32) : ∃ v sm' oC oR, fX7_count mw ke bo lk lb par mak wea nu hek hew clo clm sta sm op0 ln kp x = some (v, sm', oC) ∧ fX8_count st kp ln opn x = some (v, oR) := by
  obtain ⟨⟨a1, a2, a3⟩, ⟨t1, t2, t3, t4, t5, t6, t7, t8⟩, ⟨c1, c2, c3⟩, hW, hH, hU, ⟨s0, s1, s2, s3⟩, hK, hBx, hR⟩ := id h
  have s1' := s1.trans a1
  have s2' := s2.trans a2
  have s3' := s3.trans a3
  unfold fX7_count fX8_count
  by_cases b0 : x = 0
  · rw [if_pos b0, if_pos b0, if_neg ix1, cl1, s1]; exact ⟨_, _, _, _, rfl, rfl⟩
  · rw [if_neg b0, if_neg b0]
    by_cases b1 : x = 1
    · rw [if_pos b1, if_pos b1, liveKeys_eq t1 s1' hK t5]; exact ⟨_, _, _, _, rfl, rfl⟩
    · rw [if_neg b1, if_neg b1]
      by_cases b2 : x = 2
      · rw [if_pos b2, if_pos b2, if_neg ix2, cl2, s2]; exact ⟨_, _, _, _, rfl, rfl⟩
      · rw [if_neg b2, if_neg b2]
        by_cases b3 : x = 3
        · rw [if_pos b3, if_pos b3, liveBoxes_eq t2 s2' hBx t6]; exact ⟨_, _, _, _, rfl, rfl⟩
        · rw [if_neg b3, if_neg b3]
          by_cases b4 : x = 4
          · rw [if_pos b4, if_pos b4, if_neg ix3, cl3, s3]; exact ⟨_, _, _, _, rfl, rfl⟩
          · rw [if_neg b4, if_neg b4]
            by_cases b5 : x = 5
            · obtain ⟨v, v1, v2⟩ := inHouse_eq c1 s3' hR
              rw [if_pos b5, if_pos b5, a3, v1, v2]; exact ⟨_, _, _, _, rfl, rfl⟩
            · rw [if_neg b5, if_neg b5]
              by_cases b6 : x = 6
              · obtain ⟨v, v1, v2⟩ := outside_eq c1 s3' hR
                rw [if_pos b6, if_pos b6, a3, v1, v2]; exact ⟨_, _, _, _, rfl, rfl⟩
              · rw [if_neg b6, if_neg b6]
                by_cases b7 : x = 7
                · rw [if_pos b7, if_pos b7, if_neg ix0, cl0, s0]; exact ⟨_, _, _, _, rfl, rfl⟩
                · rw [if_neg b7, if_neg b7]
                  by_cases b8 : x = 8
                  · obtain ⟨v, v1, v2⟩ := worn_eq h
                    rw [if_pos b8, if_pos b8, v1, v2]; exact ⟨_, _, _, _, rfl, rfl⟩
                  · rw [if_neg b8, if_neg b8]
                    by_cases b9 : x = 9
                    · obtain ⟨v, sm', oC, oR, g1, g2⟩ := boxes_both h sm op0 opn (p := 0) (by omega)
                      have g1' : fX2_boxesWith sm op0 lk par mak nu hek hew clo clm sta 0 = some (v, sm', oC) := g1
                      have g2' : fX8_openWith st opn 0 = some (v, oR) := g2
                      rw [if_pos b9, if_pos b9, g1', g2']
                      exact ⟨v, sm', oC, oR, rfl, rfl⟩
                    · rw [if_neg b9, if_neg b9]
                      by_cases b10 : x = 10
                      · rw [if_pos b10, if_pos b10]; exact ⟨_, _, _, _, rfl, rfl⟩
                      · rw [if_neg b10, if_neg b10]
                        by_cases b11 : x = 11
                        · rw [if_pos b11, if_pos b11]; exact ⟨_, _, _, _, rfl, rfl⟩
                        · rw [if_neg b11, if_neg b11]; exact ⟨_, _, _, _, rfl, rfl⟩
end OPENS
