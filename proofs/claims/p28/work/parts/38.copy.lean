/-! a copy more; sums over the wraps -/
theorem ct_one (p : Nat) (b : Bool) {n : Nat} (hp : p < n) : fb_ct (fun i => decide (i = p) && b) n = if b = true then 1 else 0 := by
  have h := fb_ct_upd (fun _ => false) b (i := p) (n := n) hp
  have z : fb_ct (fun _ => false) n = 0 := fb_ct_zero.mpr (fun _ _ => rfl)
  have e : fb_ct (fun i => decide (i = p) && b) n = fb_ct (fun k => if k = p then b else (fun _ => false) k) n := fb_ct_cong (fun k _ => by
    by_cases hk : k = p <;> simp [hk])
  rw [e]
  rw [z] at h
  have h' : fb_ct (fun k => if k = p then b else (fun _ => false) k) n + 0 = 0 + (if b = true then 1 else 0) := h
  omega
theorem and_set {p : Nat} (hp : p < 32) (x : Int32) : (x &&& fX7_setOf (nI p) = 0) ↔ bt x p = false := by
  constructor
  · intro h
    have h2 : bt (x &&& fX7_setOf (nI p)) p = false := by rw [h]; exact b_0 p
    rw [b_and, bt_setOf hp hp] at h2
    simpa using h2
  · intro h
    apply b_ext
    intro i hi
    rw [b_and, bt_setOf hp hi, b_0]
    by_cases hip : i = p
    · subst hip; rw [h]; rfl
    · simp [hip]
theorem count_set {p : Nat} (hp : p < 32) (x : Int32) : fJ6_bitCount_0f7a4 (x &&& fX7_setOf (nI p)) = nI (if bt x p = true then 1 else 0) := by
  rw [count_eq, ← ct_one p (bt x p) (n := 32) hp]
  congr 1
  exact fb_ct_cong (fun k hk => by
    rw [b_and, bt_setOf hp hk]
    by_cases hkp : k = p
    · subst hkp; simp
    · simp [hkp])
theorem set_3 : fX7_setOf (nI 3) = 8 := by decide
theorem and7_bt {p : Nat} (hp : p < 3) (x : Int32) : bt (x &&& 7) p = bt x p := by
  rw [b_and, b_7, decide_eq_true hp, Bool.and_true]
theorem shr_1 {p : Nat} (hp : p < 32) (x : Int32) : (x >>> (nI p &&& 31)) &&& 1 = if bt x p = true then 1 else 0 := by
  rw [b_and1, b_sshr p hp x (by omega : 0 < 32), Nat.add_zero, if_pos hp]
section COPY
variable {B nk nb nw : Nat} {st : Nat → Int32} {mw ke bo lk lb nu : Int32} {par mak wea kob hek hew clo clm sta : Nat → Int32}
theorem stands_8 {w : Nat} (hw : w < 120) : fX6_standsIn sta (nI w) 8 = if bt (sta w) 3 = true then 1 else 0 := by
  unfold fX6_standsIn
  rw [rAt_nI hw (by omega), ← set_3]
  by_cases h : bt (sta w) 3 = true
  · rw [if_neg (fun q => by rw [(and_set (by omega) _).mp q] at h; cases h), if_pos h]
  · rw [if_pos ((and_set (by omega) _).mpr (Bool.eq_false_iff.mpr h)), if_neg h]
theorem stands_set {w p : Nat} (hw : w < 120) (hp : p < 32) : fX6_standsIn sta (nI w) (fX7_setOf (nI p)) = if bt (sta w) p = true then 1 else 0 := by
  unfold fX6_standsIn
  rw [rAt_nI hw (by omega)]
  by_cases h : bt (sta w) p = true
  · rw [if_neg (fun q => by rw [(and_set hp _).mp q] at h; cases h), if_pos h]
  · rw [if_pos ((and_set hp _).mpr (Bool.eq_false_iff.mpr h)), if_neg h]
theorem standingIn_eq (hw : nw ≤ 120) {s : Int32} {f : Nat → Nat} (hf : ∀ i, i < nw → fJ6_bitCount_0f7a4 (sta i &&& s) = nI (f i)) : fX6_standingIn (nI nw) sta s = some (nI (fb_sm f nw)) := by
  unfold fX6_standingIn
  exact sum_loop0 (n := nw) (fun fuel acc i => fX6_standingIn_b4 fuel (nI nw) sta s acc (nI i)) (fun acc => some acc) f
    (fun fuel acc => by
      show fX6_standingIn_b4 _ _ _ _ _ _ = _
      rw [fX6_standingIn_b4, if_pos (nI_le (Nat.le_refl _) (by omega))])
    (fun fuel acc i hi => by
      show fX6_standingIn_b4 _ _ _ _ _ _ = fX6_standingIn_b4 _ _ _ _ _ _
      rw [fX6_standingIn_b4, if_neg (nI_ge hi (by omega)), rAt_nI (by omega) (by omega), hf i hi, nI_add, nI_1]) (fuel := 6000) (by omega)
theorem copied_sum (hw : nw ≤ 120) (h3 : st 3 = nI nw) (hR : RW st nw hek hew clo clm sta) {p : Nat} (hp : p < 3) : fX8_copied_b21 6000 st (nI p) 0 0 = some (nI (fb_sm (fun i => if bt (sta i) p = true then 1 else 0) nw), st) :=
  sum_loop0 (n := nw) (fun fuel acc i => fX8_copied_b21 fuel st (nI p) acc (nI i)) (fun acc => some (acc, st)) (fun i => if bt (sta i) p = true then 1 else 0)
    (fun fuel acc => by
      show fX8_copied_b21 _ _ _ _ _ = _
      rw [fX8_copied_b21, if_neg ix3, cl3, h3, if_pos (nI_le (Nat.le_refl _) (by omega))])
    (fun fuel acc i hi => by
      show fX8_copied_b21 _ _ _ _ _ = fX8_copied_b21 _ _ _ _ _
      rw [fX8_copied_b21, if_neg ix3, cl3, h3, if_neg (nI_ge hi (by omega)), wr5 (by omega), Option.bind_some, (hR i hi).2.2.2.2.2, shr_1 (by omega), and7_bt hp, nI_1]
      have e : ∀ b : Bool, nI acc + (if b = true then 1 else 0) = nI (acc + if b = true then 1 else 0) := fun b => by
        cases b
        · exact nI_add acc 0
        · exact nI_add acc 1
      rw [e]) (fuel := 6000) (by omega)
theorem Rel_sta (h : Rel B nk nb nw st mw ke bo lk lb par mak wea kob nu hek hew clo clm sta) {st' sta' : Nat → Int32} (h1 : ∀ w, w < nw → bt (sta' w) 3 = true → bt (sta w) 3 = true) (h2 : ∀ w, w < nw → ∃ x, x < 16 ∧ sta' w = nI x) (hc : ∀ j, j < 124 → st' j = st j) (hR' : RW st' nw hek hew clo clm sta') :
    Rel B nk nb nw st' mw ke bo lk lb par mak wea kob nu hek hew clo clm sta' := by
  obtain ⟨h0, hT, hC, hW, hH, hU, ⟨s0, s1, s2, s3⟩, hK, hB, hR⟩ := h
  have t1 := hT.1
  have t2 := hT.2.1
  refine ⟨h0, hT, hC, fun w hw => ⟨(hW w hw).1, (hW w hw).2.1, h2 w hw⟩, fun w hw hs => hH w hw (h1 w hw hs), fun w w' hw hw' hs hs' => hU w w' hw hw' (h1 w hw hs) (h1 w' hw' hs'), ⟨?_, ?_, ?_, ?_⟩, fun k hk => ?_, fun b hb => ?_, hR'⟩
  · rw [hc 0 (by omega)]; exact s0
  · rw [hc 1 (by omega)]; exact s1
  · rw [hc 2 (by omega)]; exact s2
  · rw [hc 3 (by omega)]; exact s3
  · rw [hc _ (by omega), hc _ (by omega), hc _ (by omega), hc _ (by omega)]; exact hK k hk
  · rw [hc _ (by omega), hc _ (by omega)]; exact hB b hb
theorem or_lt : ∀ x, x < 16 → ∀ p, p < 3 → nI x ||| fX7_setOf (nI p) = nI (x ||| 2 ^ p) ∧ x ||| 2 ^ p < 16 := by decide +kernel
theorem core_copy (h : RelV B st (mw, ke, bo, lk, lb, par, mak, wea, kob, nu, hek, hew, clo, clm, sta)) (a b : Int32) : Core B st (mw, ke, bo, lk, lb, par, mak, wea, kob, nu, hek, hew, clo, clm, sta) (cCopy (mw, ke, bo, lk, lb, par, mak, wea, kob, nu, hek, hew, clo, clm, sta) a b) (fX8_whyNoCopy st a b) (fX8_copied st a b) := by
  obtain ⟨nk, nb, nw, h⟩ := h
  have h : Rel B nk nb nw st mw ke bo lk lb par mak wea kob nu hek hew clo clm sta := h
  obtain ⟨⟨rfl, rfl, rfl⟩, hT, ⟨c1, c2, c3⟩, hW, hH, hU, ⟨s0, s1, s2, s3⟩, hK, hB, hR⟩ := id h
  unfold cCopy
  dsimp only
  unfold fX1_copyOut fX8_whyNoCopy
  rw [if_neg ix3, cl3, s3]
  rcases wrap_both c1 a with ⟨w, hw, rfl, e1, e2⟩ | ⟨e1, e2⟩
  · rw [e1, e2, if_neg (show ¬ ((1 : Int32) = 0) by decide), if_neg (show ¬ ((1 : Int32) = 0) by decide)]
    unfold fX8_within
    rcases pos_or b with hb | ⟨p, hp, rfl⟩
    · rw [if_pos hb, if_pos hb, if_pos rfl]
      exact Core.no (-2) (by decide) rfl rfl
    · rw [if_neg (nI_pos hp), if_neg (nI_pos hp)]
      by_cases h3 : p < 3
      · rw [if_pos (show nI p < 3 from nI_lt (b := 3) h3 (by omega)), if_neg (show ¬ (2 : Int32) < nI p from nI_nlt (a := 2) (by omega) (by omega)), if_neg (show ¬ ((1 : Int32) = 0) by decide), stands_8 (by omega), stands_set (by omega) (by omega), wr4 (by omega), Option.bind_some, (hR w hw).2.2.2.2.1]
        by_cases hs : bt (sta w) 3 = true
        · rw [if_pos hs, if_neg (show ¬ ((1 : Int32) = 0) by decide), if_neg (show ¬ ((1 : Int32) = 0) by decide), wr5 (by omega), Option.bind_some, (hR w hw).2.2.2.2.2, shr_1 (by omega), and7_bt h3]
          by_cases hq : bt (sta w) p = true
          · rw [if_pos hq, if_neg (show ¬ ((1 : Int32) = 0) by decide), if_pos rfl]
            exact Core.no (-5) (by decide) rfl rfl
          · rw [if_neg hq, if_pos rfl, if_neg (show ¬ ((0 : Int32) = 1) by decide)]
            obtain ⟨x, hx, ex⟩ := (hW w hw).2.2
            obtain ⟨o1, o2⟩ := or_lt x hx p h3
            have eS : fX6_standAlsoIn sta (nI w) (nI p) = upd sta w (sta w ||| fX7_setOf (nI p)) := by
              unfold fX6_standAlsoIn
              rw [rAt_nI (by omega) (by omega), rSet_nI (by omega) (by omega)]
            have hR' : RW (upd st (124 + 6 * w + 5) ((sta w &&& 7) ||| fX7_setOf (nI p))) nw hek hew clo clm (upd sta w (sta w ||| fX7_setOf (nI p))) := by
              intro w' hw'
              by_cases hww : w' = w
              · subst hww
                rw [pk_un (by omega), pk_un (by omega), pk_un (by omega), pk_un (by omega), pk_un (by omega), pk_us, pk_us]
                obtain ⟨r0, r1, r2, r3, r4, r5⟩ := hR w' hw'
                refine ⟨r0, r1, r2, r3, ?_, ?_⟩
                · rw [r4, b_or, bt_setOf (by omega) (by omega), decide_eq_false (show ¬ 3 = p by omega), Bool.or_false]
                · apply b_ext
                  intro i hi
                  rw [b_or, b_and, b_and, b_or, b_7, bt_setOf (by omega) hi]
                  by_cases hip : i = p
                  · subst hip; simp [h3]
                  · simp [hip]
              · rw [pk_un (by omega), pk_un (by omega), pk_un (by omega), pk_un (by omega), pk_un (by omega), pk_un (by omega), pk_un (by omega)]
                exact hR w' hw'
            have hN := Rel_sta h (st' := upd st (124 + 6 * w + 5) ((sta w &&& 7) ||| fX7_setOf (nI p))) (sta' := upd sta w (sta w ||| fX7_setOf (nI p))) (fun w' hw' hs' => by
              by_cases hww : w' = w
              · subst hww; exact hs
              · rw [pk_un hww] at hs'; exact hs') (fun w' hw' => by
              by_cases hww : w' = w
              · subst hww; rw [pk_us, ex, o1]; exact ⟨_, o2, rfl⟩
              · rw [pk_un hww]; exact (hW w' hw').2.2) (fun j hj => pk_un (by omega)) hR'
            have eL : fX8_copied st (nI w) (nI p) = some (nI (fb_sm (fun i => if bt (upd sta w (sta w ||| fX7_setOf (nI p)) i) p = true then 1 else 0) nw), upd st (124 + 6 * w + 5) ((sta w &&& 7) ||| fX7_setOf (nI p))) := by
              unfold fX8_copied
              have e0 : fX8_setWrap st (nI w) 5 ((sta w &&& 7) ||| ((1 : Int32) <<< (nI p &&& 31))) = some (upd st (124 + 6 * w + 5) ((sta w &&& 7) ||| ((1 : Int32) <<< (nI p &&& 31)))) := setWrap_nI (by omega) (p := 5) (by omega) st _
              rw [wr5 (by omega), Option.bind_some, (hR w hw).2.2.2.2.2, e0, Option.bind_some, ← setOf_eq (by omega)]
              exact copied_sum c1 (by rw [pk_un (by omega)]; exact s3) hR' h3
            rw [eS, standingIn_eq c1 (fun i hi => count_set (by omega) _), Option.bind_some]
            refine Core.yes _ ?_ _ _ rfl rfl eL ⟨nk, nb, nw, Rel_up hN⟩
            have : fb_sm (fun i => if bt (upd sta w (sta w ||| fX7_setOf (nI p)) i) p = true then 1 else 0) nw ≤ nw * 1 := fb_sm_bound (fun k hk => by split <;> omega)
            omega
        · rw [if_neg hs, if_pos rfl, if_pos rfl]
          exact Core.no (-5) (by decide) rfl rfl
      · rw [if_neg (show ¬ nI p < 3 from nI_nlt (b := 3) (by omega) (by omega)), if_pos (show (2 : Int32) < nI p from nI_lt (a := 2) (by omega) hp), if_pos rfl]
        exact Core.no (-2) (by decide) rfl rfl
  · rw [e1, e2, if_pos rfl, if_pos rfl]
    exact Core.no (-1) (by decide) rfl rfl
end COPY
