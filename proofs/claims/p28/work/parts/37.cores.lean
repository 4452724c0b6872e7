/-! one order on each side: its answer, what it leaves -/
def Core (B : Nat) (st : Nat → Int32) (v : HV) (o1 : Option (Int32 × HV)) (why : Option Int32) (o2 : Option (Int32 × (Nat → Int32))) : Prop :=
  ∃ (x : Int32) (v' : HV), o1 = some (x, v') ∧ ((x < 0 ∧ v' = v ∧ why = some x) ∨ (¬ x < 0 ∧ why = some 0 ∧ ∃ st', o2 = some (x, st') ∧ RelV (B + 1) st' v'))
theorem Core.no {B : Nat} {st : Nat → Int32} {v : HV} {o1 : Option (Int32 × HV)} {why : Option Int32} {o2 : Option (Int32 × (Nat → Int32))} (x : Int32) (hx : x < 0) (e1 : o1 = some (x, v)) (e2 : why = some x) : Core B st v o1 why o2 := ⟨x, v, e1, Or.inl ⟨hx, rfl, e2⟩⟩
theorem Core.yes {B : Nat} {st : Nat → Int32} {v : HV} {o1 : Option (Int32 × HV)} {why : Option Int32} {o2 : Option (Int32 × (Nat → Int32))} (k : Nat) (hk : k < 2 ^ 31) (v' : HV) (st' : Nat → Int32) (e1 : o1 = some (nI k, v')) (e2 : why = some 0) (e3 : o2 = some (nI k, st')) (hR : RelV (B + 1) st' v') : Core B st v o1 why o2 := ⟨nI k, v', e1, Or.inr ⟨nI_pos hk, e2, st', e3, hR⟩⟩
noncomputable def cKey (v : HV) (a : Int32) : Option (Int32 × HV) := (fX1_makeKey v.1 v.2.1 v.2.2.2.1 v.2.2.2.2.2.1 v.2.2.2.2.2.2.1 v.2.2.2.2.2.2.2.1 v.2.2.2.2.2.2.2.2.2.1 v.2.2.2.2.2.2.2.2.2.2.1 v.2.2.2.2.2.2.2.2.2.2.2.1 v.2.2.2.2.2.2.2.2.2.2.2.2.1 v.2.2.2.2.2.2.2.2.2.2.2.2.2.1 v.2.2.2.2.2.2.2.2.2.2.2.2.2.2 a).bind fun q =>
  some (q.1, (v.1, q.2.1, v.2.2.1, q.2.2.1, v.2.2.2.2.1, q.2.2.2.1, q.2.2.2.2.1, q.2.2.2.2.2.1, v.2.2.2.2.2.2.2.2.1, q.2.2.2.2.2.2.1, q.2.2.2.2.2.2.2.1, q.2.2.2.2.2.2.2.2.1, q.2.2.2.2.2.2.2.2.2.1, q.2.2.2.2.2.2.2.2.2.2.1, q.2.2.2.2.2.2.2.2.2.2.2))
noncomputable def cBox (v : HV) (a : Int32) : Option (Int32 × HV) := (fX1_makeBox v.1 v.2.2.1 v.2.2.2.1 v.2.2.2.2.1 v.2.2.2.2.2.2.1 v.2.2.2.2.2.2.2.1 v.2.2.2.2.2.2.2.2.1 v.2.2.2.2.2.2.2.2.2.1 v.2.2.2.2.2.2.2.2.2.2.1 v.2.2.2.2.2.2.2.2.2.2.2.1 v.2.2.2.2.2.2.2.2.2.2.2.2.1 v.2.2.2.2.2.2.2.2.2.2.2.2.2.1 v.2.2.2.2.2.2.2.2.2.2.2.2.2.2 a).bind fun q =>
  some (q.1, (v.1, v.2.1, q.2.1, v.2.2.2.1, q.2.2.1, v.2.2.2.2.2.1, v.2.2.2.2.2.2.1, q.2.2.2.1, q.2.2.2.2.1, q.2.2.2.2.2.1, q.2.2.2.2.2.2.1, q.2.2.2.2.2.2.2.1, q.2.2.2.2.2.2.2.2.1, q.2.2.2.2.2.2.2.2.2.1, q.2.2.2.2.2.2.2.2.2.2))
noncomputable def cCopy (v : HV) (a b : Int32) : Option (Int32 × HV) := (fX1_copyOut v.2.2.2.2.2.2.2.2.2.1 v.2.2.2.2.2.2.2.2.2.2.2.2.2.2 a b).bind fun q =>
  some (q.1, (v.1, v.2.1, v.2.2.1, v.2.2.2.1, v.2.2.2.2.1, v.2.2.2.2.2.1, v.2.2.2.2.2.2.1, v.2.2.2.2.2.2.2.1, v.2.2.2.2.2.2.2.2.1, v.2.2.2.2.2.2.2.2.2.1, v.2.2.2.2.2.2.2.2.2.2.1, v.2.2.2.2.2.2.2.2.2.2.2.1, v.2.2.2.2.2.2.2.2.2.2.2.2.1, v.2.2.2.2.2.2.2.2.2.2.2.2.2.1, q.2))
section CORES
variable {B nk nb nw : Nat} {st : Nat → Int32} {mw ke bo lk lb nu : Int32} {par mak wea kob hek hew clo clm sta : Nat → Int32}
theorem Rel_up (h : Rel B nk nb nw st mw ke bo lk lb par mak wea kob nu hek hew clo clm sta) : Rel (B + 1) nk nb nw st mw ke bo lk lb par mak wea kob nu hek hew clo clm sta := by
  obtain ⟨h1, h2, h3, h4⟩ := h
  exact ⟨h1, h2, CI_mono h3 (Nat.le_succ _), h4⟩
theorem addKey_eq (hk : nk < 20) (x : Int32) : fX5_addKey (nI nk) lk par mak wea x = some (nI nk, nI (nk + 1), lk ||| fX7_setOf (nI nk), upd par nk x, upd mak nk 0, upd wea nk 0) := by
  unfold fX5_addKey
  have e : nI (nk + 1) - 1 = nI nk := pk_sub (a := nk + 1) (b := 1) (by omega)
  rw [rSet_nI hk (by omega), rSet_nI hk (by omega), rSet_nI hk (by omega), nI_1, e]
theorem addBox_eq (hb : nb < 20) (x : Int32) : fX5_addBox (nI nb) lb kob x = some (nI nb, nI (nb + 1), lb ||| fX7_setOf (nI nb), upd kob nb x) := by
  unfold fX5_addBox
  have e : nI (nb + 1) - 1 = nI nb := pk_sub (a := nb + 1) (b := 1) (by omega)
  rw [rSet_nI hb (by omega), nI_1, e]
theorem lit_eq {k n : Nat} (hk : k < 2 ^ 31) (hn : n < 2 ^ 31) : (nI k = nI n) ↔ k = n := nI_eq hk hn
theorem core_key (h : RelV B st (mw, ke, bo, lk, lb, par, mak, wea, kob, nu, hek, hew, clo, clm, sta)) (a : Int32) : Core B st (mw, ke, bo, lk, lb, par, mak, wea, kob, nu, hek, hew, clo, clm, sta) (cKey (mw, ke, bo, lk, lb, par, mak, wea, kob, nu, hek, hew, clo, clm, sta) a) (fX8_whyNoKey st a) (fX8_makeKey st a) := by
  obtain ⟨nk, nb, nw, h⟩ := h
  have h : Rel B nk nb nw st mw ke bo lk lb par mak wea kob nu hek hew clo clm sta := h
  obtain ⟨⟨rfl, rfl, rfl⟩, ⟨t1, t2, t3, t4, t5, t6, t7, t8⟩, ⟨c1, ⟨m, m1, m2, rfl⟩, c3⟩, hW, hH, hU, ⟨s0, s1, s2, s3⟩, hK, hB, hR⟩ := id h
  have hroom : fX6_haveRoomFor (nI nw) 1 = if nw + 1 ≤ 120 then 1 else 0 := room_eq (d := 1) c1 (by omega)
  have eFull : (20 : Int32) ≤ nI nk ↔ nk = 20 := ⟨fun q => by
    rcases Nat.lt_or_ge nk 20 with h | h
    · exact absurd q (nI_ge (b := 20) h (by omega))
    · omega, fun q => nI_le (a := 20) (by omega) (by omega)⟩
  have eFull2 : nI nk = (20 : Int32) ↔ nk = 20 := nI_eq (b := 20) (by omega) (by omega)
  have eW : nI nw = (120 : Int32) ↔ nw = 120 := nI_eq (b := 120) (by omega) (by omega)
  unfold cKey
  dsimp only
  unfold fX1_makeKey fX8_whyNoKey
  by_cases ha : a = -6
  · rw [if_pos ha, if_pos ha]
    unfold fX1_makeKey_b11 fX8_whyNoKey_b16
    rw [if_neg (show ¬ ((1 : Int32) = 0) by decide), if_neg ix1, cl1, s1]
    by_cases hf : nk = 20
    · rw [if_pos (eFull.mpr hf), if_pos (eFull2.mpr hf)]
      exact Core.no (-4) (by decide) rfl rfl
    · rw [if_neg (fun q => hf (eFull.mp q)), if_neg (fun q => hf (eFull2.mp q)), if_neg (show ¬ ((1 : Int32) = 0) by decide), if_pos ha, if_pos ha]
      unfold fX1_makeKey_b59
      rw [if_neg (show ¬ ((1 : Int32) = 0) by decide), addKey_eq (by omega), Option.bind_some, if_neg (show ¬ ((1 : Int32) = 0) by decide), makeKey_eq (by omega) s1, if_pos ha]
      exact Core.yes nk (by omega) _ _ rfl rfl rfl ⟨nk + 1, nb, nw, Rel_up (add_key h (by omega) (Or.inl ha))⟩
  · rw [if_neg ha, if_neg ha]
    unfold fX1_makeKey_b11
    rw [if_pos rfl]
    rcases liveKey_both t1 s1 t5 hK a with ⟨k, hk, rfl, hl, e1, e2⟩ | ⟨e1, e2⟩
    · rw [e1, e2, Option.bind_some, if_neg (show ¬ ((1 : Int32) = 0) by decide), if_neg (show ¬ ((1 : Int32) = 0) by decide)]
      unfold fX8_whyNoKey_b16
      rw [if_neg ix1, cl1, s1]
      by_cases hf : nk = 20
      · rw [if_pos (eFull.mpr hf), if_pos (eFull2.mpr hf)]
        exact Core.no (-4) (by decide) rfl rfl
      · rw [if_neg (fun q => hf (eFull.mp q)), if_neg (fun q => hf (eFull2.mp q)), if_pos rfl, if_neg ha, if_neg ix3, cl3, s3, hroom]
        by_cases hw : nw = 120
        · rw [if_neg (show ¬ nw + 1 ≤ 120 by omega), if_pos rfl, if_pos (eW.mpr hw)]
          exact Core.no (-4) (by decide) rfl rfl
        · rw [if_pos (show nw + 1 ≤ 120 by omega), if_neg (show ¬ ((1 : Int32) = 0) by decide), if_neg (fun q => hw (eW.mp q)), if_neg ha]
          unfold fX1_makeKey_b59
          obtain ⟨-, x, x1, x2⟩ := c3 k hk
          obtain ⟨l1, l2⟩ := left_both (mw := nI m) (wea := wea) (st := st) (k := k) (by omega) m2 (by omega : x ≤ 120) rfl x2 s0 (hK k hk).2.2.2
          rw [if_pos rfl, l1, l2, Option.bind_some]
          by_cases hc : m ≤ x
          · have hz : m - x = 0 := by omega
            rw [if_pos hc, if_pos rfl, hz]
            exact Core.no (-5) (by decide) rfl rfl
          · have hz : ¬ nI (m - x) = 0 := fun q => by
              have := (nI_eq (b := 0) (by omega) (by omega)).mp q
              omega
            rw [if_neg hc, if_neg hz, if_neg (show ¬ ((1 : Int32) = 0) by decide), addKey_eq (by omega), Option.bind_some, if_pos rfl, makeKey_eq (by omega) s1, if_neg ha]
            have hA := add_key h (by omega) (Or.inr ⟨k, hk, rfl, hl⟩)
            obtain ⟨w1, st', w2, w3⟩ := wrapKey_both hA (by omega) (k := nk) (c := k) (by omega) pk_us (by rw [bt_add (by omega) (by omega), decide_eq_true rfl, Bool.or_true]) (by omega) (fun w hw2 hs he => by
              rcases (hW w hw2).1 with ⟨p1, -⟩ | ⟨k', j, p1, p2, p3, -⟩
              · exact absurd (he.symm.trans p1) (nI_ne6 (by omega))
              · have := (nI_eq (by omega) (by omega)).mp (he.symm.trans p3)
                omega)
            dsimp only
            rw [w1, w2]
            exact Core.yes nk (by omega) _ _ rfl rfl rfl ⟨nk + 1, nb, nw + 1, Rel_up w3⟩
    · rw [e1, e2, Option.bind_some, if_pos rfl, if_pos rfl]
      exact Core.no (-1) (by decide) rfl rfl
theorem core_box (h : RelV B st (mw, ke, bo, lk, lb, par, mak, wea, kob, nu, hek, hew, clo, clm, sta)) (a : Int32) : Core B st (mw, ke, bo, lk, lb, par, mak, wea, kob, nu, hek, hew, clo, clm, sta) (cBox (mw, ke, bo, lk, lb, par, mak, wea, kob, nu, hek, hew, clo, clm, sta) a) (fX8_whyNoBox st a) (fX8_makeBox st a) := by
  obtain ⟨nk, nb, nw, h⟩ := h
  have h : Rel B nk nb nw st mw ke bo lk lb par mak wea kob nu hek hew clo clm sta := h
  obtain ⟨⟨rfl, rfl, rfl⟩, ⟨t1, t2, t3, t4, t5, t6, t7, t8⟩, ⟨c1, ⟨m, m1, m2, rfl⟩, c3⟩, hW, hH, hU, ⟨s0, s1, s2, s3⟩, hK, hB, hR⟩ := id h
  have hroom : fX6_haveRoomFor (nI nw) 1 = if nw + 1 ≤ 120 then 1 else 0 := room_eq (d := 1) c1 (by omega)
  have eFull : (20 : Int32) ≤ nI nb ↔ nb = 20 := ⟨fun q => by
    rcases Nat.lt_or_ge nb 20 with h | h
    · exact absurd q (nI_ge (b := 20) h (by omega))
    · omega, fun q => nI_le (a := 20) (by omega) (by omega)⟩
  have eFull2 : nI nb = (20 : Int32) ↔ nb = 20 := nI_eq (b := 20) (by omega) (by omega)
  have eW : nI nw = (120 : Int32) ↔ nw = 120 := nI_eq (b := 120) (by omega) (by omega)
  unfold cBox
  dsimp only
  unfold fX1_makeBox fX8_whyNoBox
  rcases liveKey_both t1 s1 t5 hK a with ⟨k, hk, rfl, hl, e1, e2⟩ | ⟨e1, e2⟩
  · rw [e1, e2, Option.bind_some, if_neg (show ¬ ((1 : Int32) = 0) by decide), if_neg (show ¬ ((1 : Int32) = 0) by decide), if_neg ix2, cl2, s2]
    by_cases hf : nb = 20
    · rw [if_pos (eFull.mpr hf), if_pos (eFull2.mpr hf)]
      exact Core.no (-4) (by decide) rfl rfl
    · rw [if_neg (fun q => hf (eFull.mp q)), if_neg (fun q => hf (eFull2.mp q)), if_neg ix3, cl3, s3, hroom]
      by_cases hw : nw = 120
      · rw [if_neg (show ¬ nw + 1 ≤ 120 by omega), if_pos rfl, if_pos (eW.mpr hw)]
        exact Core.no (-4) (by decide) rfl rfl
      · rw [if_pos (show nw + 1 ≤ 120 by omega), if_neg (show ¬ ((1 : Int32) = 0) by decide), if_neg (fun q => hw (eW.mp q))]
        obtain ⟨-, x, x1, x2⟩ := c3 k hk
        obtain ⟨l1, l2⟩ := left_both (mw := nI m) (wea := wea) (st := st) (k := k) (by omega) m2 (by omega : x ≤ 120) rfl x2 s0 (hK k hk).2.2.2
        rw [l1, l2, Option.bind_some]
        by_cases hc : m ≤ x
        · have hz : m - x = 0 := by omega
          rw [if_pos hc, if_pos rfl, hz]
          exact Core.no (-5) (by decide) rfl rfl
        · have hz : ¬ nI (m - x) = 0 := fun q => by
            have := (nI_eq (b := 0) (by omega) (by omega)).mp q
            omega
          rw [if_neg hc, if_neg hz, if_neg (show ¬ ((1 : Int32) = 0) by decide), addBox_eq (by omega), Option.bind_some, makeBox_eq (by omega) s2]
          have hA := add_box h (by omega) hk hl
          obtain ⟨w1, st', w2, w3⟩ := wrapBox_both hA (by omega) (b := nb) (c := k) (by omega) pk_us (by rw [bt_add (by omega) (by omega), decide_eq_true rfl, Bool.or_true]) hk (fun w hw2 hs h6 he => by
            rcases (hW w hw2).1 with ⟨p1, b, p2, p3, -⟩ | ⟨k', j, p1, p2, p3, -⟩
            · have := (nI_eq (by omega) (by omega)).mp (he.symm.trans p3)
              omega
            · exact absurd (p3.symm.trans h6) (nI_ne6 (by omega)))
          dsimp only
          rw [w1, w2]
          exact Core.yes nb (by omega) _ _ rfl rfl rfl ⟨nk, nb + 1, nw + 1, Rel_up w3⟩
  · rw [e1, e2, Option.bind_some, if_pos rfl, if_pos rfl]
    exact Core.no (-1) (by decide) rfl rfl
end CORES
