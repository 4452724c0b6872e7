/-! the wear, undo, saved states, the pad wiped -/
section WEAR
variable {B nk nb nw : Nat} {st : Nat → Int32} {mw ke bo lk lb nu : Int32} {par mak wea kob hek hew clo clm sta : Nat → Int32}
noncomputable def cWear (v : HV) (a : Int32) : Option (Int32 × HV) := (fX1_changeWear v.1 a).bind fun q => some (q.1, (q.2, v.2.1, v.2.2.1, v.2.2.2.1, v.2.2.2.2.1, v.2.2.2.2.2.1, v.2.2.2.2.2.2.1, v.2.2.2.2.2.2.2.1, v.2.2.2.2.2.2.2.2.1, v.2.2.2.2.2.2.2.2.2.1, v.2.2.2.2.2.2.2.2.2.2.1, v.2.2.2.2.2.2.2.2.2.2.2.1, v.2.2.2.2.2.2.2.2.2.2.2.2.1, v.2.2.2.2.2.2.2.2.2.2.2.2.2.1, v.2.2.2.2.2.2.2.2.2.2.2.2.2.2))
theorem core_wear (h : RelV B st (mw, ke, bo, lk, lb, par, mak, wea, kob, nu, hek, hew, clo, clm, sta)) (a : Int32) : Core B st (mw, ke, bo, lk, lb, par, mak, wea, kob, nu, hek, hew, clo, clm, sta) (cWear (mw, ke, bo, lk, lb, par, mak, wea, kob, nu, hek, hew, clo, clm, sta) a) (if fX8_within a 2 30 = 0 then some (-2) else some 0) (some (st 0, upd st 0 a)) := by
  obtain ⟨nk, nb, nw, h⟩ := h
  have h : Rel B nk nb nw st mw ke bo lk lb par mak wea kob nu hek hew clo clm sta := h
  obtain ⟨h0, hT, ⟨c1, ⟨m, m1, m2, rfl⟩, c3⟩, hW, hH, hU, ⟨s0, s1, s2, s3⟩, hK, hBx, hR⟩ := id h
  unfold cWear
  dsimp only
  unfold fX1_changeWear fX8_within
  by_cases h2 : a < 2
  · rw [if_pos h2, if_pos h2, if_pos rfl]
    exact Core.no (-2) (by decide) rfl rfl
  · rw [if_neg h2, if_neg h2]
    by_cases h30 : a ≤ 30
    · have hn : ¬ (30 : Int32) < a := fun q => not_le_I.mpr q h30
      rw [if_pos h30, if_neg hn, if_neg (show ¬ ((1 : Int32) = 0) by decide)]
      rcases pos_or a with hneg | ⟨k, hk, rfl⟩
      · refine absurd ?_ h2
        rw [Int32.lt_iff_toInt_lt] at hneg ⊢
        have z : (0 : Int32).toInt = 0 := by decide
        have z2 : (2 : Int32).toInt = 2 := by decide
        omega
      · have k2 : 2 ≤ k := by
          rcases Nat.lt_or_ge k 2 with q | q
          · exact absurd (show nI k < 2 from nI_lt (b := 2) q (by omega)) h2
          · exact q
        have k30 : k ≤ 30 := by
          rcases Nat.lt_or_ge 30 k with q | q
          · exact absurd h30 (show ¬ nI k ≤ (30 : Int32) from nI_ge (a := 30) q (by omega))
          · exact q
        rw [s0]
        refine Core.yes m (by omega) (nI k, ke, bo, lk, lb, par, mak, wea, kob, nu, hek, hew, clo, clm, sta) (upd st 0 (nI k)) rfl rfl rfl ?_
        have hN : Rel B nk nb nw (upd st 0 (nI k)) (nI k) ke bo lk lb par mak wea kob nu hek hew clo clm sta := ?_
        · exact ⟨nk, nb, nw, Rel_up hN⟩
        refine ⟨h0, hT, ⟨c1, ⟨k, k2, k30, rfl⟩, c3⟩, hW, hH, hU, ⟨pk_us, by rw [pk_un (by omega)]; exact s1, by rw [pk_un (by omega)]; exact s2, by rw [pk_un (by omega)]; exact s3⟩, fun k hk => ?_, fun b hb => ?_, fun w hw => ?_⟩
        · rw [pk_un (by omega), pk_un (by omega), pk_un (by omega), pk_un (by omega)]; exact hK k hk
        · rw [pk_un (by omega), pk_un (by omega)]; exact hBx b hb
        · rw [pk_un (by omega), pk_un (by omega), pk_un (by omega), pk_un (by omega), pk_un (by omega), pk_un (by omega)]; exact hR w hw
    · rw [if_neg h30, if_pos (not_le_I.mp h30), if_pos rfl]
      exact Core.no (-2) (by decide) rfl rfl
end WEAR
section OPS
variable {n : Nat} {c : CS} {r : RS}
theorem step_wear (h : Inv0 n c r) (a : Int32) : agree Inv0 n (sX7_wear c a) (sX8_wear r a) := by
  obtain ⟨⟨mw, ke, bo, lk, lb, par, mak, wea, kob, nu, hek, hew, clo, clm, sta⟩, ⟨sm, op⟩, ⟨sg, ln, nx, lt, tg, pc⟩, ⟨spare, kept⟩, hv, on, sv⟩ := c
  obtain ⟨st, hi, rec, slots, isS, pad, pl, opn, at_, le, fi, se⟩ := r
  obtain ⟨x, v', sp', kp', hv', e1, e2, e3, e4⟩ := change (B' := 60 * (n + 1)) h (core_wear h.1 a) (by omega)
  unfold cWear at e2
  obtain ⟨q, q1, q2⟩ := ob e2
  obtain ⟨hx1, hv1⟩ := Prod.mk.inj (Option.some.inj q2)
  have e7 : sX7_wear ((mw, ke, bo, lk, lb, par, mak, wea, kob, nu, hek, hew, clo, clm, sta), (sm, op), (sg, ln, nx, lt, tg, pc), (spare, kept), hv, on, sv) a = some (x, (v', (sm, op), (sg, ln, nx, lt, tg, pc), (sp', kp'), hv', on, sv)) := by
    unfold sX7_wear fX7_wear
    dsimp only at e1 q1 ⊢
    rw [e1, Option.bind_some, q1, Option.bind_some, hx1, e3, ← hv1]
    rfl
  rcases e4 with ⟨hx, hw, hI⟩ | ⟨hx, hw, st', hi', rec', e5, e6, hI⟩
  · refine ⟨x, _, _, e7, ?_, hI⟩
    unfold sX8_wear fX8_wear
    dsimp only
    by_cases hq : fX8_within a 2 30 = 0
    · rw [if_pos hq] at hw
      rw [if_pos hq, ← Option.some.inj hw]
      rfl
    · rw [if_neg hq] at hw
      have := Option.some.inj hw
      rw [← this] at hx
      exact absurd hx (by decide)
  · refine ⟨x, _, (st', hi', rec', slots, isS, pad, pl, opn, at_, le, fi, se), e7, ?_, hI⟩
    unfold sX8_wear fX8_wear
    dsimp only
    by_cases hq : fX8_within a 2 30 = 0
    · rw [if_pos hq] at hw
      exact absurd (Option.some.inj hw) (by decide)
    · obtain ⟨rfl, rfl⟩ := Prod.mk.inj (Option.some.inj e5)
      dsimp only at e6
      rw [if_neg hq, e6, Option.bind_some, if_neg ix0, if_neg ix0, cl0]
      rfl
theorem step_undo (h : Inv0 n c r) : agree Inv0 n (sX7_undo c) (sX8_undo r) := by
  obtain ⟨⟨mw, ke, bo, lk, lb, par, mak, wea, kob, nu, hek, hew, clo, clm, sta⟩, ⟨sm, op⟩, ⟨sg, ln, nx, lt, tg, pc⟩, ⟨spare, kept⟩, hv, on, sv⟩ := c
  obtain ⟨st, hi, rec, slots, isS, pad, pl, opn, at_, le, fi, se⟩ := r
  obtain ⟨hR, ⟨sp, kp, e1, e2, e3, hH⟩, hP, hS⟩ := Inv0_up h
  dsimp only at e1 e2 e3
  subst e1 e2 e3
  by_cases hk : kp = 0
  · subst hk
    refine ⟨-5, _, (st, hi, nI 0, slots, isS, pad, pl, opn, at_, le, fi, se), ?_, ?_, ⟨hR, ⟨sp, 0, rfl, rfl, rfl, hH⟩, hP, hS⟩⟩
    · unfold sX7_undo fX7_undo fX0_stepBack
      dsimp only
      rw [if_neg (show ¬ (0 : Int32) < nI 0 by decide)]
      rfl
    · unfold sX8_undo fX8_undo
      dsimp only
      rw [if_pos (show nI 0 = 0 from rfl)]
      rfl
  · have hpos : (0 : Int32) < nI kp := nI_lt (a := 0) (by omega) (by have := hH.2.1; omega)
    have hk6 := hH.2.1
    have hs7 := hH.1
    have ek : nI kp - 1 = nI (kp - 1) := pk_sub (a := kp) (b := 1) (by omega)
    have es : (if (0 : Int32) < nI sp then nI sp - 1 else 6) = nI ((sp + 6) % 7) := by
      by_cases hz : sp = 0
      · subst hz; rfl
      · rw [if_pos (show (0 : Int32) < nI sp from nI_lt (a := 0) (by omega) (by omega))]
        have : nI sp - 1 = nI (sp - 1) := pk_sub (a := sp) (b := 1) (by omega)
        rw [this]
        congr 1; omega
    have hmod : (sp + 6) % 7 < 7 := Nat.mod_lt _ (by omega)
    obtain ⟨g, m1, m2, -⟩ := moves_eq (n := 5064) (n2 := 844) (a := (kp - 1) * 844) (b := 0) hi (by omega) (by omega) (by omega) (by omega) st
    have hidx : (sp + 7 - kp + (kp - 1)) % 7 = (sp + 6) % 7 := by omega
    have hRn := hH.2.2 (kp - 1) (by omega)
    rw [hidx] at hRn
    have hRn2 : RelV (60 * (n + 1)) g (copyV (mw, ke, bo, lk, lb, par, mak, wea, kob, nu, hek, hew, clo, clm, sta) (hv ((sp + 6) % 7))) := RelV_copy hRn (fun k hk => by
      have := m2 k hk
      rw [Nat.zero_add] at this
      exact this)
    refine ⟨nI (kp - 1), (copyV (mw, ke, bo, lk, lb, par, mak, wea, kob, nu, hek, hew, clo, clm, sta) (hv ((sp + 6) % 7)), (sm, op), (sg, ln, nx, lt, tg, pc), (nI ((sp + 6) % 7), nI (kp - 1)), hv, on, sv), (g, hi, nI (kp - 1), slots, isS, pad, pl, opn, at_, le, fi, se), ?_, ?_, ⟨hRn2, ⟨(sp + 6) % 7, kp - 1, rfl, rfl, rfl, hmod, by omega, fun i hi2 => ?_⟩, hP, hS⟩⟩
    · unfold sX7_undo fX7_undo fX0_stepBack
      dsimp only
      have eb := become_eq (mw, ke, bo, lk, lb, par, mak, wea, kob, nu, hek, hew, clo, clm, sta) (hv ((sp + 6) % 7))
      dsimp only at eb
      rw [if_pos hpos, es, if_neg (nI_in hmod (by omega)), nI_clamp (by omega), eb, Option.bind_some, Option.bind_some, ek]
      rfl
    · unfold sX8_undo fX8_undo
      dsimp only
      have hne : ¬ nI kp = 0 := fun q => by
        have := (nI_eq (b := 0) (by omega) (by omega)).mp q
        omega
      have em : nI (kp - 1) * 844 = nI ((kp - 1) * 844) := pk_mul (kp - 1) 844
      have m1' : fX8_moves 5064 844 hi st (nI ((kp - 1) * 844)) 0 = some g := m1
      rw [if_neg hne, ek, em, m1']
      rfl
    · have e : ((sp + 6) % 7 + 7 - (kp - 1) + i) % 7 = (sp + 7 - kp + i) % 7 := by omega
      rw [e]
      exact hH.2.2 i (by omega)
theorem step_save (h : Inv0 n c r) (a : Int32) : agree Inv0 n (sX7_save c a) (sX8_save r a) := by
  obtain ⟨⟨mw, ke, bo, lk, lb, par, mak, wea, kob, nu, hek, hew, clo, clm, sta⟩, ⟨sm, op⟩, ⟨sg, ln, nx, lt, tg, pc⟩, ⟨spare, kept⟩, hv, on, sv⟩ := c
  obtain ⟨st, hi, rec, slots, isS, pad, pl, opn, at_, le, fi, se⟩ := r
  obtain ⟨hR, hHi, hP, hS⟩ := Inv0_up h
  dsimp only at hR hHi hP hS
  have no : (a < 0 ∨ ∃ k, 2 ≤ k ∧ k < 2 ^ 31 ∧ a = nI k) → agree Inv0 n (sX7_save ((mw, ke, bo, lk, lb, par, mak, wea, kob, nu, hek, hew, clo, clm, sta), (sm, op), (sg, ln, nx, lt, tg, pc), (spare, kept), hv, on, sv) a) (sX8_save (st, hi, rec, slots, isS, pad, pl, opn, at_, le, fi, se) a) := fun hq => by
    refine ⟨-2, ((mw, ke, bo, lk, lb, par, mak, wea, kob, nu, hek, hew, clo, clm, sta), (sm, op), (sg, ln, nx, lt, tg, pc), (spare, kept), hv, on, sv), (st, hi, rec, slots, isS, pad, pl, opn, at_, le, fi, se), ?_, ?_, ⟨hR, hHi, hP, hS⟩⟩
    · unfold sX7_save fX7_save
      dsimp only
      rcases hq with hq | ⟨k, k1, k2, rfl⟩
      · rw [if_pos hq]; rfl
      · rw [if_neg (nI_pos k2), if_neg (nI_nlt k1 k2)]; rfl
    · unfold sX8_save fX8_save fX8_within
      dsimp only
      rcases hq with hq | ⟨k, k1, k2, rfl⟩
      · rw [if_pos hq, if_pos rfl]; rfl
      · rw [if_neg (nI_pos k2), if_pos (show (1 : Int32) < nI k from nI_lt (a := 1) (by omega) k2), if_pos rfl]; rfl
  rcases pos_or a with hq | ⟨k, hk, rfl⟩
  · exact no (Or.inl hq)
  · by_cases h2 : k < 2
    · obtain ⟨g, m1, m2, m3⟩ := moves_eq (n := 844) (n2 := 1688) (a := 0) (b := 844 * k) st (by omega) (by omega) (by omega) (by omega) slots
      have hke : ke = st 1 := by
        obtain ⟨nk, nb, nw, hh⟩ := hR
        exact hh.2.2.2.2.2.2.1.2.1.symm
      refine ⟨ke, ((mw, ke, bo, lk, lb, par, mak, wea, kob, nu, hek, hew, clo, clm, sta), (sm, op), (sg, ln, nx, lt, tg, pc), (spare, kept), hv, va_up on k true, va_up sv k (copyV (if on k = true then sv k else hv0) (mw, ke, bo, lk, lb, par, mak, wea, kob, nu, hek, hew, clo, clm, sta))), (st, hi, rec, g, upd isS k 1, pad, pl, opn, at_, le, fi, se), ?_, ?_, ⟨hR, hHi, hP, fun j hj => ?_⟩⟩
      · unfold sX7_save fX7_save
        dsimp only
        have eb := become_eq (if on k = true then sv k else hv0) (mw, ke, bo, lk, lb, par, mak, wea, kob, nu, hek, hew, clo, clm, sta)
        dsimp only at eb
        rw [if_neg (nI_pos hk), if_pos (nI_lt h2 (by omega)), nI_clamp hk, eb, Option.bind_some, Option.bind_some]
      · unfold sX8_save fX8_save fX8_within
        dsimp only
        have em : 844 * nI k = nI (844 * k) := pk_mul 844 k
        have m1' : fX8_moves 844 1688 st slots 0 (nI (844 * k)) = some g := m1
        rw [if_neg (nI_pos hk), if_neg (show ¬ (1 : Int32) < nI k from nI_nlt (a := 1) (by omega) (by omega)), if_neg (show ¬ ((1 : Int32) = 0) by decide), em, m1', Option.bind_some, if_neg (nI_in h2 (by omega)), if_neg ix1, cl1, nI_clamp hk, hke]
        rfl
      · show upd isS k 1 j = (if va_up on k true j = true then 1 else 0) ∧ (va_up on k true j = true → RelV (60 * (n + 1)) (fun i => g (844 * j + i)) (va_up sv k (copyV (if on k = true then sv k else hv0) (mw, ke, bo, lk, lb, par, mak, wea, kob, nu, hek, hew, clo, clm, sta)) j))
        by_cases hjk : j = k
        · subst hjk
          refine ⟨by rw [pk_us]; simp [va_up], fun _ => ?_⟩
          have ev : (va_up sv j (copyV (if on j = true then sv j else hv0) (mw, ke, bo, lk, lb, par, mak, wea, kob, nu, hek, hew, clo, clm, sta))) j = copyV (if on j = true then sv j else hv0) (mw, ke, bo, lk, lb, par, mak, wea, kob, nu, hek, hew, clo, clm, sta) := by simp [va_up]
          rw [ev]
          exact RelV_copy hR (fun i hi2 => by
            have := m2 i hi2
            rw [Nat.zero_add] at this
            exact this)
        · obtain ⟨q1, q2⟩ := hS j hj
          have eo : va_up on k true j = on j := by simp [va_up, hjk]
          have ev : (va_up sv k (copyV (if on k = true then sv k else hv0) (mw, ke, bo, lk, lb, par, mak, wea, kob, nu, hek, hew, clo, clm, sta))) j = sv j := by simp [va_up, hjk]
          rw [eo, ev, pk_un hjk]
          exact ⟨q1, fun ho => RelV_st (q2 ho) (fun i hi2 => m3 _ (by omega))⟩
    · exact no (Or.inr ⟨k, by omega, hk, rfl⟩)
theorem step_restore (h : Inv0 n c r) (a : Int32) : agree Inv0 n (sX7_restore c a) (sX8_restore r a) := by
  obtain ⟨⟨mw, ke, bo, lk, lb, par, mak, wea, kob, nu, hek, hew, clo, clm, sta⟩, ⟨sm, op⟩, ⟨sg, ln, nx, lt, tg, pc⟩, ⟨spare, kept⟩, hv, on, sv⟩ := c
  obtain ⟨st, hi, rec, slots, isS, pad, pl, opn, at_, le, fi, se⟩ := r
  obtain ⟨hR, hHi, hP, hS⟩ := Inv0_up h
  dsimp only at hR hHi hP hS
  have no : (a < 0 ∨ ∃ k, 2 ≤ k ∧ k < 2 ^ 31 ∧ a = nI k) → agree Inv0 n (sX7_restore ((mw, ke, bo, lk, lb, par, mak, wea, kob, nu, hek, hew, clo, clm, sta), (sm, op), (sg, ln, nx, lt, tg, pc), (spare, kept), hv, on, sv) a) (sX8_restore (st, hi, rec, slots, isS, pad, pl, opn, at_, le, fi, se) a) := fun hq => by
    refine ⟨-2, ((mw, ke, bo, lk, lb, par, mak, wea, kob, nu, hek, hew, clo, clm, sta), (sm, op), (sg, ln, nx, lt, tg, pc), (spare, kept), hv, on, sv), (st, hi, rec, slots, isS, pad, pl, opn, at_, le, fi, se), ?_, ?_, ⟨hR, hHi, hP, hS⟩⟩
    · unfold sX7_restore fX7_restore
      dsimp only
      rcases hq with hq | ⟨k, k1, k2, rfl⟩
      · rw [if_pos hq]; rfl
      · rw [if_neg (nI_pos k2), if_neg (nI_nlt k1 k2)]; rfl
    · unfold sX8_restore fX8_restore fX8_within
      dsimp only
      rcases hq with hq | ⟨k, k1, k2, rfl⟩
      · rw [if_pos hq, if_pos rfl]; rfl
      · rw [if_neg (nI_pos k2), if_pos (show (1 : Int32) < nI k from nI_lt (a := 1) (by omega) k2), if_pos rfl]; rfl
  rcases pos_or a with hq | ⟨k, hk, rfl⟩
  · exact no (Or.inl hq)
  · by_cases h2 : k < 2
    · obtain ⟨q1, q2⟩ := hS k h2
      by_cases ho : on k = true
      · have hq := q2 ho
        obtain ⟨sp, kp, rfl, rfl, rfl, hH⟩ := hHi
        obtain ⟨g, m1, m2, -⟩ := moves_eq (n := 1688) (n2 := 844) (a := 844 * k) (b := 0) slots (by omega) (by omega) (by omega) (by omega) st
        have hRg : RelV (60 * (n + 1)) g (copyV (mw, ke, bo, lk, lb, par, mak, wea, kob, nu, hek, hew, clo, clm, sta) (sv k)) := RelV_copy hq (fun i hi2 => by
          have := m2 i hi2
          rw [Nat.zero_add] at this
          exact this)
        obtain ⟨hi', e3, hH'⟩ := hist_add hH hR
        obtain ⟨x, hxl, hx, hx2⟩ : ∃ x, x < 2 ^ 31 ∧ (sv k).2.1 = nI x ∧ g 1 = nI x := by
          obtain ⟨nk, nb, nw, hh⟩ := hRg
          exact ⟨nk, by have := hh.2.1.1; omega, hh.1.1, by rw [hh.2.2.2.2.2.2.1.2.1]; exact hh.1.1⟩
        refine ⟨nI x, (copyV (mw, ke, bo, lk, lb, par, mak, wea, kob, nu, hek, hew, clo, clm, sta) (sv k), (sm, op), (sg, ln, nx, lt, tg, pc), (nI ((sp + 1) % 7), nI (min (kp + 1) 6)), va_up hv sp (copyV (hv sp) (mw, ke, bo, lk, lb, par, mak, wea, kob, nu, hek, hew, clo, clm, sta)), on, sv), (g, hi', nI (min (kp + 1) 6), slots, isS, pad, pl, opn, at_, le, fi, se), ?_, ?_, ⟨hRg, ⟨_, _, rfl, rfl, rfl, hH'⟩, hP, hS⟩⟩
        · unfold sX7_restore fX7_restore
          dsimp only
          have eb := become_eq (mw, ke, bo, lk, lb, par, mak, wea, kob, nu, hek, hew, clo, clm, sta) (sv k)
          have en := note_eq hH.1 (mw, ke, bo, lk, lb, par, mak, wea, kob, nu, hek, hew, clo, clm, sta) hv
          dsimp only at eb en
          have e2 : (copyV (mw, ke, bo, lk, lb, par, mak, wea, kob, nu, hek, hew, clo, clm, sta) (sv k)).2.1 = nI x := hx
          rw [if_neg (nI_pos hk), if_pos (nI_lt h2 (by omega)), nI_clamp hk, if_pos ho, en, Option.bind_some, eb, Option.bind_some, e2, settle_pos hH.1 hH.2.1 (nI_pos hxl), Option.bind_some, Option.bind_some]
          dsimp only
          rw [← hx]
          rfl
        · unfold sX8_restore fX8_restore fX8_within
          dsimp only
          have em : 844 * nI k = nI (844 * k) := pk_mul 844 k
          have m1' : fX8_moves 1688 844 slots st (nI (844 * k)) 0 = some g := m1
          rw [if_neg (nI_pos hk), if_neg (show ¬ (1 : Int32) < nI k from nI_nlt (a := 1) (by omega) (by omega)), if_neg (show ¬ ((1 : Int32) = 0) by decide), if_neg (nI_in h2 (by omega)), nI_clamp hk, if_neg (show ¬ isS k = 0 by rw [q1, if_pos ho]; decide), e3, Option.bind_some, em, m1', Option.bind_some, if_neg ix1, cl1, hx2]
          rfl
      · refine ⟨-5, ((mw, ke, bo, lk, lb, par, mak, wea, kob, nu, hek, hew, clo, clm, sta), (sm, op), (sg, ln, nx, lt, tg, pc), (spare, kept), hv, on, sv), (st, hi, rec, slots, isS, pad, pl, opn, at_, le, fi, se), ?_, ?_, ⟨hR, hHi, hP, hS⟩⟩
        · unfold sX7_restore fX7_restore
          dsimp only
          rw [if_neg (nI_pos hk), if_pos (nI_lt h2 (by omega)), nI_clamp hk, if_neg ho]
          rfl
        · unfold sX8_restore fX8_restore fX8_within
          dsimp only
          rw [if_neg (nI_pos hk), if_neg (show ¬ (1 : Int32) < nI k from nI_nlt (a := 1) (by omega) (by omega)), if_neg (show ¬ ((1 : Int32) = 0) by decide), if_neg (nI_in h2 (by omega)), nI_clamp hk, if_pos (show isS k = 0 by rw [q1, if_neg ho])]
          rfl
    · exact no (Or.inr ⟨k, by omega, hk, rfl⟩)
theorem step_wipe (h : Inv0 n c r) : agree Inv0 n (sX7_wipe c) (sX8_wipe r) := by
  obtain ⟨⟨mw, ke, bo, lk, lb, par, mak, wea, kob, nu, hek, hew, clo, clm, sta⟩, ⟨sm, op⟩, ⟨sg, ln, nx, lt, tg, pc⟩, ⟨spare, kept⟩, hv, on, sv⟩ := c
  obtain ⟨st, hi, rec, slots, isS, pad, pl, opn, at_, le, fi, se⟩ := r
  obtain ⟨hR, hHi, ⟨k, k1, e1, e2, k3⟩, hS⟩ := Inv0_up h
  dsimp only at hR hHi e1 e2 hS
  subst e1 e2
  exact ⟨nI k, ((mw, ke, bo, lk, lb, par, mak, wea, kob, nu, hek, hew, clo, clm, sta), (sm, op), (sg, nI 0, nx, lt, tg, pc), (spare, kept), hv, on, sv), (st, hi, rec, slots, isS, pad, nI 0, opn, at_, le, fi, se), rfl, rfl, ⟨hR, hHi, ⟨0, Nat.zero_le _, rfl, rfl, fun i hi2 => absurd hi2 (Nat.not_lt_zero _)⟩, hS⟩⟩
end OPS
