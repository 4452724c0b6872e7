/-! the calls that change nothing, as steps -/
section OPS
variable {n : Nat} {c : CS} {r : RS}
theorem step_ofKey (h : Inv0 n c r) (a : Int32) (b : Int32) : agree Inv0 n (sX7_ofKey c a b) (sX8_ofKey r a b) := by
  obtain ⟨⟨mw, ke, bo, lk, lb, par, mak, wea, kob, nu, hek, hew, clo, clm, sta⟩, ⟨sm, op⟩, ⟨sg, ln, nx, lt, tg, pc⟩, ⟨spare, kept⟩, hv, on, sv⟩ := c
  obtain ⟨st, hi, rec, slots, isS, pad, pl, opn, at_, le, fi, se⟩ := r
  obtain ⟨nk, nb, nw, hR⟩ := h.1
  have hR : Rel (60 * n) nk nb nw st mw ke bo lk lb par mak wea kob nu hek hew clo clm sta := hR
  obtain ⟨v, e1, e2⟩ := ofKey_both hR a b
  refine agree_read h v ?_ ?_
  · unfold sX7_ofKey
    dsimp only
    rw [e1]; rfl
  · unfold sX8_ofKey
    dsimp only
    rw [e2]; rfl
theorem step_wrap (h : Inv0 n c r) (a : Int32) (b : Int32) : agree Inv0 n (sX7_wrap c a b) (sX8_wrap r a b) := by
  obtain ⟨⟨mw, ke, bo, lk, lb, par, mak, wea, kob, nu, hek, hew, clo, clm, sta⟩, ⟨sm, op⟩, ⟨sg, ln, nx, lt, tg, pc⟩, ⟨spare, kept⟩, hv, on, sv⟩ := c
  obtain ⟨st, hi, rec, slots, isS, pad, pl, opn, at_, le, fi, se⟩ := r
  obtain ⟨nk, nb, nw, hR⟩ := h.1
  have hR : Rel (60 * n) nk nb nw st mw ke bo lk lb par mak wea kob nu hek hew clo clm sta := hR
  have e2 := wrap_read hR a b
  refine agree_read h (fX7_wrap nu hek hew clo clm sta a b) rfl ?_
  unfold sX8_wrap
  dsimp only
  rw [e2]; rfl
theorem step_way (h : Inv0 n c r) (a : Int32) (b : Int32) : agree Inv0 n (sX7_way c a b) (sX8_way r a b) := by
  obtain ⟨⟨mw, ke, bo, lk, lb, par, mak, wea, kob, nu, hek, hew, clo, clm, sta⟩, ⟨sm, op⟩, ⟨sg, ln, nx, lt, tg, pc⟩, ⟨spare, kept⟩, hv, on, sv⟩ := c
  obtain ⟨st, hi, rec, slots, isS, pad, pl, opn, at_, le, fi, se⟩ := r
  obtain ⟨nk, nb, nw, hR⟩ := h.1
  have hR : Rel (60 * n) nk nb nw st mw ke bo lk lb par mak wea kob nu hek hew clo clm sta := hR
  obtain ⟨v, e1, e2⟩ := way_both hR a b
  refine agree_read h v ?_ ?_
  · unfold sX7_way
    dsimp only
    rw [e1]; rfl
  · unfold sX8_way
    dsimp only
    rw [e2]; rfl
theorem step_lostBy (h : Inv0 n c r) (a : Int32) : agree Inv0 n (sX7_lostBy c a) (sX8_lostBy r a) := by
  obtain ⟨⟨mw, ke, bo, lk, lb, par, mak, wea, kob, nu, hek, hew, clo, clm, sta⟩, ⟨sm, op⟩, ⟨sg, ln, nx, lt, tg, pc⟩, ⟨spare, kept⟩, hv, on, sv⟩ := c
  obtain ⟨st, hi, rec, slots, isS, pad, pl, opn, at_, le, fi, se⟩ := r
  obtain ⟨nk, nb, nw, hR⟩ := h.1
  have hR : Rel (60 * n) nk nb nw st mw ke bo lk lb par mak wea kob nu hek hew clo clm sta := hR
  obtain ⟨v, e1, e2⟩ := lost_both hR a
  refine agree_read h v ?_ ?_
  · unfold sX7_lostBy
    dsimp only
    rw [e1]; rfl
  · unfold sX8_lostBy
    dsimp only
    rw [e2]; rfl
theorem step_throwingMakes (h : Inv0 n c r) (a : Int32) (b : Int32) : agree Inv0 n (sX7_throwingMakes c a b) (sX8_throwingMakes r a b) := by
  obtain ⟨⟨mw, ke, bo, lk, lb, par, mak, wea, kob, nu, hek, hew, clo, clm, sta⟩, ⟨sm, op⟩, ⟨sg, ln, nx, lt, tg, pc⟩, ⟨spare, kept⟩, hv, on, sv⟩ := c
  obtain ⟨st, hi, rec, slots, isS, pad, pl, opn, at_, le, fi, se⟩ := r
  obtain ⟨nk, nb, nw, hR⟩ := h.1
  have hR : Rel (60 * n) nk nb nw st mw ke bo lk lb par mak wea kob nu hek hew clo clm sta := hR
  obtain ⟨v, e1, e2⟩ := throwing_both hR a b
  refine agree_read h v ?_ ?_
  · unfold sX7_throwingMakes
    dsimp only
    rw [e1]; rfl
  · unfold sX8_throwingMakes
    dsimp only
    rw [e2]; rfl
theorem step_mostWorn (h : Inv0 n c r) (a : Int32) : agree Inv0 n (sX7_mostWorn c a) (sX8_mostWorn r a) := by
  obtain ⟨⟨mw, ke, bo, lk, lb, par, mak, wea, kob, nu, hek, hew, clo, clm, sta⟩, ⟨sm, op⟩, ⟨sg, ln, nx, lt, tg, pc⟩, ⟨spare, kept⟩, hv, on, sv⟩ := c
  obtain ⟨st, hi, rec, slots, isS, pad, pl, opn, at_, le, fi, se⟩ := r
  obtain ⟨nk, nb, nw, hR⟩ := h.1
  have hR : Rel (60 * n) nk nb nw st mw ke bo lk lb par mak wea kob nu hek hew clo clm sta := hR
  obtain ⟨v, e1, e2⟩ := mostWorn_both hR a
  refine agree_read h v ?_ ?_
  · unfold sX7_mostWorn
    dsimp only
    rw [e1]; rfl
  · unfold sX8_mostWorn
    dsimp only
    rw [e2]; rfl
theorem step_ofBox (h : Inv0 n c r) (a : Int32) (b : Int32) : agree Inv0 n (sX7_ofBox c a b) (sX8_ofBox r a b) := by
  obtain ⟨⟨mw, ke, bo, lk, lb, par, mak, wea, kob, nu, hek, hew, clo, clm, sta⟩, ⟨sm, op⟩, ⟨sg, ln, nx, lt, tg, pc⟩, ⟨spare, kept⟩, hv, on, sv⟩ := c
  obtain ⟨st, hi, rec, slots, isS, pad, pl, opn, at_, le, fi, se⟩ := r
  obtain ⟨nk, nb, nw, hR⟩ := h.1
  have hR : Rel (60 * n) nk nb nw st mw ke bo lk lb par mak wea kob nu hek hew clo clm sta := hR
  obtain ⟨v, sm', oC, oR, e1, e2⟩ := ofBox_both hR sm op opn a b
  refine ⟨v, ((mw, ke, bo, lk, lb, par, mak, wea, kob, nu, hek, hew, clo, clm, sta), (sm', oC), (sg, ln, nx, lt, tg, pc), (spare, kept), hv, on, sv), (st, hi, rec, slots, isS, pad, pl, oR, at_, le, fi, se), ?_, ?_, Inv0_up h⟩
  · unfold sX7_ofBox
    dsimp only
    rw [e1]; rfl
  · unfold sX8_ofBox
    dsimp only
    rw [e2]; rfl
theorem step_canOpen (h : Inv0 n c r) (a : Int32) (b : Int32) : agree Inv0 n (sX7_canOpen c a b) (sX8_canOpen r a b) := by
  obtain ⟨⟨mw, ke, bo, lk, lb, par, mak, wea, kob, nu, hek, hew, clo, clm, sta⟩, ⟨sm, op⟩, ⟨sg, ln, nx, lt, tg, pc⟩, ⟨spare, kept⟩, hv, on, sv⟩ := c
  obtain ⟨st, hi, rec, slots, isS, pad, pl, opn, at_, le, fi, se⟩ := r
  obtain ⟨nk, nb, nw, hR⟩ := h.1
  have hR : Rel (60 * n) nk nb nw st mw ke bo lk lb par mak wea kob nu hek hew clo clm sta := hR
  obtain ⟨v, sm', oC, oR, e1, e2⟩ := canOpen_both hR sm op opn a b
  refine ⟨v, ((mw, ke, bo, lk, lb, par, mak, wea, kob, nu, hek, hew, clo, clm, sta), (sm', oC), (sg, ln, nx, lt, tg, pc), (spare, kept), hv, on, sv), (st, hi, rec, slots, isS, pad, pl, oR, at_, le, fi, se), ?_, ?_, Inv0_up h⟩
  · unfold sX7_canOpen
    dsimp only
    rw [e1]; rfl
  · unfold sX8_canOpen
    dsimp only
    rw [e2]; rfl
theorem step_canHave (h : Inv0 n c r) (a : Int32) (b : Int32) (d : Int32) : agree Inv0 n (sX7_canHave c a b d) (sX8_canHave r a b d) := by
  obtain ⟨⟨mw, ke, bo, lk, lb, par, mak, wea, kob, nu, hek, hew, clo, clm, sta⟩, ⟨sm, op⟩, ⟨sg, ln, nx, lt, tg, pc⟩, ⟨spare, kept⟩, hv, on, sv⟩ := c
  obtain ⟨st, hi, rec, slots, isS, pad, pl, opn, at_, le, fi, se⟩ := r
  obtain ⟨nk, nb, nw, hR⟩ := h.1
  have hR : Rel (60 * n) nk nb nw st mw ke bo lk lb par mak wea kob nu hek hew clo clm sta := hR
  obtain ⟨v, sm', oC, oR, e1, e2⟩ := canHave_both hR sm op opn a b d
  refine ⟨v, ((mw, ke, bo, lk, lb, par, mak, wea, kob, nu, hek, hew, clo, clm, sta), (sm', oC), (sg, ln, nx, lt, tg, pc), (spare, kept), hv, on, sv), (st, hi, rec, slots, isS, pad, pl, oR, at_, le, fi, se), ?_, ?_, Inv0_up h⟩
  · unfold sX7_canHave
    dsimp only
    rw [e1]; rfl
  · unfold sX8_canHave
    dsimp only
    rw [e2]; rfl
theorem step_leaks (h : Inv0 n c r) (a : Int32) (b : Int32) (d : Int32) : agree Inv0 n (sX7_leaks c a b d) (sX8_leaks r a b d) := by
  obtain ⟨⟨mw, ke, bo, lk, lb, par, mak, wea, kob, nu, hek, hew, clo, clm, sta⟩, ⟨sm, op⟩, ⟨sg, ln, nx, lt, tg, pc⟩, ⟨spare, kept⟩, hv, on, sv⟩ := c
  obtain ⟨st, hi, rec, slots, isS, pad, pl, opn, at_, le, fi, se⟩ := r
  obtain ⟨nk, nb, nw, hR⟩ := h.1
  have hR : Rel (60 * n) nk nb nw st mw ke bo lk lb par mak wea kob nu hek hew clo clm sta := hR
  obtain ⟨v, sm', oC, oR, e1, e2⟩ := leaks_both hR sm op opn a b d
  refine ⟨v, ((mw, ke, bo, lk, lb, par, mak, wea, kob, nu, hek, hew, clo, clm, sta), (sm', oC), (sg, ln, nx, lt, tg, pc), (spare, kept), hv, on, sv), (st, hi, rec, slots, isS, pad, pl, oR, at_, le, fi, se), ?_, ?_, Inv0_up h⟩
  · unfold sX7_leaks
    dsimp only
    rw [e1]; rfl
  · unfold sX8_leaks
    dsimp only
    rw [e2]; rfl
theorem step_count (h : Inv0 n c r) (a : Int32) : agree Inv0 n (sX7_count c a) (sX8_count r a) := by
  obtain ⟨⟨mw, ke, bo, lk, lb, par, mak, wea, kob, nu, hek, hew, clo, clm, sta⟩, ⟨sm, op⟩, ⟨sg, ln, nx, lt, tg, pc⟩, ⟨spare, kept⟩, hv, on, sv⟩ := c
  obtain ⟨st, hi, rec, slots, isS, pad, pl, opn, at_, le, fi, se⟩ := r
  obtain ⟨nk, nb, nw, hR⟩ := h.1
  have hR : Rel (60 * n) nk nb nw st mw ke bo lk lb par mak wea kob nu hek hew clo clm sta := hR
  obtain ⟨sp, kp, q1, q2, q3, -⟩ := h.2.1
  obtain ⟨k, -, p1, p2, -⟩ := h.2.2.1
  dsimp only at q1 q2 q3 p1 p2
  obtain ⟨v, sm', oC, oR, e1, e2⟩ := count_both hR sm op opn (nI k) (nI kp) a
  refine ⟨v, ((mw, ke, bo, lk, lb, par, mak, wea, kob, nu, hek, hew, clo, clm, sta), (sm', oC), (sg, ln, nx, lt, tg, pc), (spare, kept), hv, on, sv), (st, hi, rec, slots, isS, pad, pl, oR, at_, le, fi, se), ?_, ?_, Inv0_up h⟩
  · unfold sX7_count
    dsimp only
    rw [q2, p1, e1]; rfl
  · unfold sX8_count
    dsimp only
    rw [q3, p2, e2]; rfl
end OPS
