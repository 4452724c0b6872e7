/-! the wear, undo, saved states, the pad wiped -/
section WEAR
variable {B nk nb nw : Nat} {st : Nat → Int32} {mw ke bo lk lb nu : Int32} {par mak wea kob hek hew clo clm sta : Nat → Int32}
noncomputable def cWear (v : HV) (a : Int32) : Option (Int32 × HV) := (fX1_changeWear v.1 a).bind fun q => some (q.1, (q.2, v.2.1, v.2.2.1, v.2.2.2.1, v.2.2.2.2.1, v.2.2.2.2.2.1, v.2.2.2.2.2.2.1, v.2.2.2.2.2.2.2.1, v.2.2.2.2.2.2.2.2.1, v.2.2.2.2.2.2.2.2.2.1, v.2.2.2.2.2.2.2.2.2.2.1, v.2.2.2.2.2.2.2.2.2.2.2.1, v.2.2.2.2.2.2.2.2.2.2.2.2.1, v.2.2.2.2.2.2.2.2.2.2.2.2.2.1, v.2.2.2.2.2.2.2.2.2.2.2.2.2.2))
theorem core_wear (h : RelV B st (mw, ke, bo, lk, lb, par, mak, wea, kob, nu, hek, hew, clo, clm, sta)) (a : Int32) : Core B st (mw, ke, bo, lk, lb, par, mak, wea, kob, nu, hek, hew, clo, clm, sta) (cWear (mw, ke, bo, lk, lb, par, mak, wea, kob, nu, hek, hew, clo, clm, sta) a) (if fX8_within a 2 30 = 0 then some (-2) else some 0) (some (st 0, upd st 0 a)) := by
  obtain ⟨nk, nb, nw, h⟩ := h
  have h : Rel B nk nb nw st mw ke bo lk lb par mak wea kob nu hek hew clo clm sta := h
  obtain ⟨h0, hT, ⟨c1, ⟨m, m1, m2, rfl⟩, c3⟩, hW, hH, hU, ⟨s0, s1, s2, s3⟩, hK, hBx, hR⟩ := id h
  unfold cWear
  dsimp only
  unfold fX1_changeWear fX8_within
  by_cases h2 : a < 2
  · rw [if_pos h2, if_pos h2, if_pos rfl]
    exact Core.no (-2) (by decide) rfl rfl
  · rw [if_neg h2, if_neg h2]
    by_cases h30 : a ≤ 30
    · have hn : ¬ (30 : Int32) < a := fun q => not_le_I.mpr q h30
      rw [if_pos h30, if_neg hn, if_neg (show ¬ ((1 : Int32) = 0) by decide)]
      rcases pos_or a with hneg | ⟨k, hk, rfl⟩
      · refine absurd ?_ h2
        rw [Int32.lt_iff_toInt_lt] at hneg ⊢
        have z : (0 : Int32).toInt = 0 := by decide
        have z2 : (2 : Int32).toInt = 2 := by decide
        omega
      · have k2 : 2 ≤ k := by
          rcases Nat.lt_or_ge k 2 with q | q
          · exact absurd (show nI k < 2 from nI_lt (b := 2) q (by omega)) h2
          · exact q
        have k30 : k ≤ 30 := by
          rcases Nat.lt_or_ge 30 k with q | q
          · exact absurd h30 (show ¬ nI k ≤ (30 : Int32) from nI_ge (a := 30) q (by omega))
          · exact q
        rw [s0]
        refine Core.yes m (by omega) (nI k, ke, bo, lk, lb, par, mak, wea, kob, nu, hek, hew, clo, clm, sta) (upd st 0 (nI k)) rfl rfl rfl ?_
        have hN : Rel B nk nb nw (upd st 0 (nI k)) (nI k) ke bo lk lb par mak wea kob nu hek hew clo clm sta := ?_
        · exact ⟨nk, nb, nw, Rel_up hN⟩
        refine ⟨h0, hT, ⟨c1, ⟨k, k2, k30, rfl⟩, c3⟩, hW, hH, hU, ⟨pk_us, by rw [pk_un (by omega)]; exact s1, by rw [pk_un (by omega)]; exact s2, by rw [pk_un (by omega)]; exact s3⟩, fun k hk => ?_, fun b hb => ?_, fun w hw => ?_⟩
        · rw [pk_un (by omega), pk_un (by omega), pk_un (by omega), pk_un (by omega)]; exact hK k hk
        · rw [pk_un (by omega), pk_un (by omega)]; exact hBx b hb
        · rw [pk_un (by omega), pk_un (by omega), pk_un (by omega), pk_un (by omega), pk_un (by omega), pk_un (by omega)]; exact hR w hw
    · rw [if_neg h30, if_pos (not_le_I.mp h30), if_pos rfl]
      exact Core.no (-2) (by decide) rfl rfl
end WEAR
section OPS
variable {n : Nat} {c : CS} {r : RS}
theorem step_wear (h : Inv0 n c r) (a : Int32) : agree Inv0 n (sX7_wear c a) (sX8_wear r a) := by
  obtain ⟨⟨mw, ke, bo, lk, lb, par, mak, wea, kob, nu, hek, hew, clo, clm, sta⟩, ⟨sm, op⟩, ⟨sg, ln, nx, lt, tg, pc⟩, ⟨spare, kept⟩, hv, on, sv⟩ := c
  obtain ⟨st, hi, rec, slots, isS, pad, pl, opn, at_, le, fi, se⟩ := r
  obtain ⟨x, v', sp', kp', hv', e1, e2, e3, e4⟩ := change (B' := (n + 1)) h (core_wear h.1 a) (by omega)
  unfold cWear at e2
  obtain ⟨q, q1, q2⟩ := ob e2
  obtain ⟨hx1, hv1⟩ := Prod.mk.inj (Option.some.inj q2)
  have e7 : sX7_wear ((mw, ke, bo, lk, lb, par, mak, wea, kob, nu, hek, hew, clo, clm, sta), (sm, op), (sg, ln, nx, lt, tg, pc), (spare, kept), hv, on, sv) a = some (x, (v', (sm, op), (sg, ln, nx, lt, tg, pc), (sp', kp'), hv', on, sv)) := by
    unfold sX7_wear fX7_wear
    dsimp only at e1 q1 ⊢
    rw [e1, Option.bind_some, q1, Option.bind_some, hx1, e3, ← hv1]
    rfl
  rcases e4 with ⟨hx, hw, hI⟩ | ⟨hx, hw, st', hi', rec', e5, e6, hI⟩
  · refine ⟨x, _, _, e7, ?_, hI⟩
    unfold sX8_wear fX8_wear
    dsimp only
    by_cases hq : fX8_within a 2 30 = 0
    · rw [if_pos hq] at hw
      rw [if_pos hq, ← Option.some.inj hw]
      rfl
    · rw [if_neg hq] at hw
      have := Option.some.inj hw
      rw [← this] at hx
      exact absurd hx (by decide)
  · refine ⟨x, _, (st', hi', rec', slots, isS, pad, pl, opn, at_, le, fi, se), e7, ?_, hI⟩
    unfold sX8_wear fX8_wear
    dsimp only
    by_cases hq : fX8_within a 2 30 = 0
    · rw [if_pos hq] at hw
      exact absurd (Option.some.inj hw) (by decide)
    · obtain ⟨rfl, rfl⟩ := Prod.mk.inj (Option.some.inj e5)
      dsimp only at e6
      rw [if_neg hq, e6, Option.bind_some, if_neg ix0, if_neg ix0, cl0]
      rfl
end OPS
