/-! the invariant; the orders, undo, saved states -/
def padR (sg pd : Nat → Int32) (ln pl : Int32) : Prop := ∃ n, n ≤ 60 ∧ ln = nI n ∧ pl = nI n ∧ ∀ i, i < n → sg i = pd i ∧ ∃ ch, 33 ≤ ch ∧ ch ≤ 126 ∧ sg i = nI ch
def slotR (B : Nat) (slots isS : Nat → Int32) (on : Nat → Bool) (sv : Nat → HV) : Prop := ∀ k, k < 2 → isS k = (if on k = true then 1 else 0) ∧ (on k = true → RelV B (fun j => slots (844 * k + j)) (sv k))
def InvP (B : Nat) (v : HV) (sg : Nat → Int32) (ln spare kept : Int32) (hv : Nat → HV) (on : Nat → Bool) (sv : Nat → HV) (st hi : Nat → Int32) (rec : Int32) (slots isS pad : Nat → Int32) (pl : Int32) : Prop :=
  RelV B st v ∧ (∃ sp kp, spare = nI sp ∧ kept = nI kp ∧ rec = nI kp ∧ HistR B sp kp hv hi) ∧ padR sg pad ln pl ∧ slotR B slots isS on sv
def Inv0 (n : Nat) (c : CS) (r : RS) : Prop := InvP n c.1 c.2.2.1.1 c.2.2.1.2.1 c.2.2.2.1.1 c.2.2.2.1.2 c.2.2.2.2.1 c.2.2.2.2.2.1 c.2.2.2.2.2.2 r.1 r.2.1 r.2.2.1 r.2.2.2.1 r.2.2.2.2.1 r.2.2.2.2.2.1 r.2.2.2.2.2.2.1
theorem slotR_mono {B B' : Nat} {slots isS : Nat → Int32} {on : Nat → Bool} {sv : Nat → HV} (h : slotR B slots isS on sv) (hB : B ≤ B') : slotR B' slots isS on sv := fun k hk => ⟨(h k hk).1, fun ho => RelV_mono ((h k hk).2 ho) hB⟩
theorem InvP_mono {B B' : Nat} {v : HV} {sg : Nat → Int32} {ln spare kept : Int32} {hv : Nat → HV} {on : Nat → Bool} {sv : Nat → HV} {st hi : Nat → Int32} {rec : Int32} {slots isS pad : Nat → Int32} {pl : Int32} (h : InvP B v sg ln spare kept hv on sv st hi rec slots isS pad pl) (hB : B ≤ B') : InvP B' v sg ln spare kept hv on sv st hi rec slots isS pad pl := by
  obtain ⟨h1, ⟨sp, kp, e1, e2, e3, h2⟩, h3, h4⟩ := h
  exact ⟨RelV_mono h1 hB, ⟨sp, kp, e1, e2, e3, HistR_mono h2 hB⟩, h3, slotR_mono h4 hB⟩
theorem Inv0_up {n : Nat} {c : CS} {r : RS} (h : Inv0 n c r) : Inv0 (n + 1) c r := InvP_mono h (by omega)
section STEPS
variable {n : Nat} {v : HV} {sm op sg : Nat → Int32} {ln nx lt tg pc spare kept : Int32} {hv : Nat → HV} {on : Nat → Bool} {sv : Nat → HV} {st hi : Nat → Int32} {rec : Int32} {slots isS pad : Nat → Int32} {pl : Int32} {opn : Nat → Int32} {at_ le fi se : Int32}
/-- a change: noted before, done, settled; on the other side asked, kept, done -/
theorem change {B' : Nat} (h : InvP n v sg ln spare kept hv on sv st hi rec slots isS pad pl) {o1 : Option (Int32 × HV)} {why : Option Int32} {o2 : Option (Int32 × (Nat → Int32))} (hc : Core n st v o1 why o2) (hB' : n + 1 ≤ B') :
    ∃ (x : Int32) (v' : HV) (sp' kp' : Int32) (hv' : Nat → HV), fX0_noteBefore v.1 v.2.1 v.2.2.1 v.2.2.2.1 v.2.2.2.2.1 v.2.2.2.2.2.1 v.2.2.2.2.2.2.1 v.2.2.2.2.2.2.2.1 v.2.2.2.2.2.2.2.2.1 v.2.2.2.2.2.2.2.2.2.1 v.2.2.2.2.2.2.2.2.2.2.1 v.2.2.2.2.2.2.2.2.2.2.2.1 v.2.2.2.2.2.2.2.2.2.2.2.2.1 v.2.2.2.2.2.2.2.2.2.2.2.2.2.1 v.2.2.2.2.2.2.2.2.2.2.2.2.2.2 spare hv = some hv' ∧ o1 = some (x, v') ∧ fX0_settle spare kept x = some (x, sp', kp') ∧
      ((x < 0 ∧ why = some x ∧ InvP B' v' sg ln sp' kp' hv' on sv st hi rec slots isS pad pl) ∨
       (¬ x < 0 ∧ why = some 0 ∧ ∃ st' hi' rec', o2 = some (x, st') ∧ fX8_record st hi rec = some (hi', rec') ∧ InvP B' v' sg ln sp' kp' hv' on sv st' hi' rec' slots isS pad pl)) := by
  obtain ⟨hR, ⟨sp, kp, rfl, rfl, rfl, hH⟩, hP, hS⟩ := h
  obtain ⟨x, v', e1, h2⟩ := hc
  rcases h2 with ⟨hx, rfl, hw⟩ | ⟨hx, hw, st', e2, hR'⟩
  · exact ⟨x, v', nI sp, nI kp, _, note_eq hH.1 v' hv, e1, settle_neg hx, Or.inl ⟨hx, hw, InvP_mono ⟨hR, ⟨sp, kp, rfl, rfl, rfl, hist_keep hH⟩, hP, hS⟩ (by omega)⟩⟩
  · obtain ⟨hi', e3, hH'⟩ := hist_add hH hR
    exact ⟨x, v', _, _, _, note_eq hH.1 v hv, e1, settle_pos hH.1 hH.2.1 hx, Or.inr ⟨hx, hw, st', hi', _, e2, e3, RelV_mono hR' hB', ⟨_, _, rfl, rfl, rfl, HistR_mono hH' (by omega)⟩, hP, slotR_mono hS (by omega)⟩⟩
end STEPS
theorem le0_neg {x : Int32} (h : x < 0) : ¬ (0 : Int32) ≤ x := not_le_I.mpr h
theorem le00 : (0 : Int32) ≤ 0 := by decide
section OPS
variable {n : Nat} {c : CS} {r : RS}
theorem step_key (h : Inv0 n c r) (a : Int32) : agree Inv0 n (sX7_key c a) (sX8_key r a) := by
  obtain ⟨⟨mw, ke, bo, lk, lb, par, mak, wea, kob, nu, hek, hew, clo, clm, sta⟩, ⟨sm, op⟩, ⟨sg, ln, nx, lt, tg, pc⟩, ⟨spare, kept⟩, hv, on, sv⟩ := c
  obtain ⟨st, hi, rec, slots, isS, pad, pl, opn, at_, le, fi, se⟩ := r
  obtain ⟨x, v', sp', kp', hv', e1, e2, e3, e4⟩ := change (B' := (n + 1)) h (core_key h.1 a) (by omega)
  unfold cKey at e2
  obtain ⟨q, q1, q2⟩ := ob e2
  obtain ⟨hx1, hv1⟩ := Prod.mk.inj (Option.some.inj q2)
  have e7 : sX7_key ((mw, ke, bo, lk, lb, par, mak, wea, kob, nu, hek, hew, clo, clm, sta), (sm, op), (sg, ln, nx, lt, tg, pc), (spare, kept), hv, on, sv) a = some (x, (v', (sm, op), (sg, ln, nx, lt, tg, pc), (sp', kp'), hv', on, sv)) := by
    unfold sX7_key fX7_key
    dsimp only at e1 q1 ⊢
    rw [e1, Option.bind_some, q1, Option.bind_some, hx1, e3, ← hv1]
    rfl
  rcases e4 with ⟨hx, hw, hI⟩ | ⟨hx, hw, st', hi', rec', e5, e6, hI⟩
  · refine ⟨x, _, _, e7, ?_, hI⟩
    unfold sX8_key fX8_key
    dsimp only
    rw [hw, Option.bind_some, if_neg (le0_neg hx)]
    rfl
  · refine ⟨x, _, (st', hi', rec', slots, isS, pad, pl, opn, at_, le, fi, se), e7, ?_, hI⟩
    unfold sX8_key fX8_key
    dsimp only
    rw [hw, Option.bind_some, if_pos le00, e6, Option.bind_some, e5]
    rfl
theorem step_box (h : Inv0 n c r) (a : Int32) : agree Inv0 n (sX7_box c a) (sX8_box r a) := by
  obtain ⟨⟨mw, ke, bo, lk, lb, par, mak, wea, kob, nu, hek, hew, clo, clm, sta⟩, ⟨sm, op⟩, ⟨sg, ln, nx, lt, tg, pc⟩, ⟨spare, kept⟩, hv, on, sv⟩ := c
  obtain ⟨st, hi, rec, slots, isS, pad, pl, opn, at_, le, fi, se⟩ := r
  obtain ⟨x, v', sp', kp', hv', e1, e2, e3, e4⟩ := change (B' := (n + 1)) h (core_box h.1 a) (by omega)
  unfold cBox at e2
  obtain ⟨q, q1, q2⟩ := ob e2
  obtain ⟨hx1, hv1⟩ := Prod.mk.inj (Option.some.inj q2)
  have e7 : sX7_box ((mw, ke, bo, lk, lb, par, mak, wea, kob, nu, hek, hew, clo, clm, sta), (sm, op), (sg, ln, nx, lt, tg, pc), (spare, kept), hv, on, sv) a = some (x, (v', (sm, op), (sg, ln, nx, lt, tg, pc), (sp', kp'), hv', on, sv)) := by
    unfold sX7_box fX7_box
    dsimp only at e1 q1 ⊢
    rw [e1, Option.bind_some, q1, Option.bind_some, hx1, e3, ← hv1]
    rfl
  rcases e4 with ⟨hx, hw, hI⟩ | ⟨hx, hw, st', hi', rec', e5, e6, hI⟩
  · refine ⟨x, _, _, e7, ?_, hI⟩
    unfold sX8_box fX8_box
    dsimp only
    rw [hw, Option.bind_some, if_neg (le0_neg hx)]
    rfl
  · refine ⟨x, _, (st', hi', rec', slots, isS, pad, pl, opn, at_, le, fi, se), e7, ?_, hI⟩
    unfold sX8_box fX8_box
    dsimp only
    rw [hw, Option.bind_some, if_pos le00, e6, Option.bind_some, e5]
    rfl
theorem step_copy (h : Inv0 n c r) (a b : Int32) : agree Inv0 n (sX7_copy c a b) (sX8_copy r a b) := by
  obtain ⟨⟨mw, ke, bo, lk, lb, par, mak, wea, kob, nu, hek, hew, clo, clm, sta⟩, ⟨sm, op⟩, ⟨sg, ln, nx, lt, tg, pc⟩, ⟨spare, kept⟩, hv, on, sv⟩ := c
  obtain ⟨st, hi, rec, slots, isS, pad, pl, opn, at_, le, fi, se⟩ := r
  obtain ⟨x, v', sp', kp', hv', e1, e2, e3, e4⟩ := change (B' := (n + 1)) h (core_copy h.1 a b) (by omega)
  unfold cCopy at e2
  obtain ⟨q, q1, q2⟩ := ob e2
  obtain ⟨hx1, hv1⟩ := Prod.mk.inj (Option.some.inj q2)
  have e7 : sX7_copy ((mw, ke, bo, lk, lb, par, mak, wea, kob, nu, hek, hew, clo, clm, sta), (sm, op), (sg, ln, nx, lt, tg, pc), (spare, kept), hv, on, sv) a b = some (x, (v', (sm, op), (sg, ln, nx, lt, tg, pc), (sp', kp'), hv', on, sv)) := by
    unfold sX7_copy fX7_copy
    dsimp only at e1 q1 ⊢
    rw [e1, Option.bind_some, q1, Option.bind_some, hx1, e3, ← hv1]
    rfl
  rcases e4 with ⟨hx, hw, hI⟩ | ⟨hx, hw, st', hi', rec', e5, e6, hI⟩
  · refine ⟨x, _, _, e7, ?_, hI⟩
    unfold sX8_copy fX8_copy
    dsimp only
    rw [hw, Option.bind_some, if_neg (le0_neg hx)]
    rfl
  · refine ⟨x, _, (st', hi', rec', slots, isS, pad, pl, opn, at_, le, fi, se), e7, ?_, hI⟩
    unfold sX8_copy fX8_copy
    dsimp only
    rw [hw, Option.bind_some, if_pos le00, e6, Option.bind_some, e5]
    rfl
theorem step_renew (hn : n ≤ 512) (h : Inv0 n c r) (a : Int32) : agree Inv0 n (sX7_renew c a) (sX8_renew r a) := by
  obtain ⟨⟨mw, ke, bo, lk, lb, par, mak, wea, kob, nu, hek, hew, clo, clm, sta⟩, ⟨sm, op⟩, ⟨sg, ln, nx, lt, tg, pc⟩, ⟨spare, kept⟩, hv, on, sv⟩ := c
  obtain ⟨st, hi, rec, slots, isS, pad, pl, opn, at_, le, fi, se⟩ := r
  obtain ⟨x, v', sp', kp', hv', e1, e2, e3, e4⟩ := change (B' := (n + 1)) h (core_renew (by omega) h.1 a) (by omega)
  unfold cRenew at e2
  obtain ⟨q, q1, q2⟩ := ob e2
  obtain ⟨hx1, hv1⟩ := Prod.mk.inj (Option.some.inj q2)
  have e7 : sX7_renew ((mw, ke, bo, lk, lb, par, mak, wea, kob, nu, hek, hew, clo, clm, sta), (sm, op), (sg, ln, nx, lt, tg, pc), (spare, kept), hv, on, sv) a = some (x, (v', (sm, op), (sg, ln, nx, lt, tg, pc), (sp', kp'), hv', on, sv)) := by
    unfold sX7_renew fX7_renew
    dsimp only at e1 q1 ⊢
    rw [e1, Option.bind_some, q1, Option.bind_some, hx1, e3, ← hv1]
    rfl
  rcases e4 with ⟨hx, hw, hI⟩ | ⟨hx, hw, st', hi', rec', e5, e6, hI⟩
  · refine ⟨x, _, _, e7, ?_, hI⟩
    unfold sX8_renew fX8_renew
    dsimp only
    rw [hw, Option.bind_some, if_neg (le0_neg hx)]
    rfl
  · refine ⟨x, _, (st', hi', rec', slots, isS, pad, pl, opn, at_, le, fi, se), e7, ?_, hI⟩
    unfold sX8_renew fX8_renew
    dsimp only
    rw [hw, Option.bind_some, if_pos le00, e6, Option.bind_some, e5]
    rfl
theorem step_throwKey (hn : n ≤ 512) (h : Inv0 n c r) (a : Int32) : agree Inv0 n (sX7_throwKey c a) (sX8_throwKey r a) := by
  obtain ⟨⟨mw, ke, bo, lk, lb, par, mak, wea, kob, nu, hek, hew, clo, clm, sta⟩, ⟨sm, op⟩, ⟨sg, ln, nx, lt, tg, pc⟩, ⟨spare, kept⟩, hv, on, sv⟩ := c
  obtain ⟨st, hi, rec, slots, isS, pad, pl, opn, at_, le, fi, se⟩ := r
  obtain ⟨x, v', sp', kp', hv', e1, e2, e3, e4⟩ := change (B' := (n + 1)) h (core_throwKey (by omega) h.1 a) (by omega)
  unfold cThrow at e2
  obtain ⟨q, q1, q2⟩ := ob e2
  obtain ⟨hx1, hv1⟩ := Prod.mk.inj (Option.some.inj q2)
  have e7 : sX7_throwKey ((mw, ke, bo, lk, lb, par, mak, wea, kob, nu, hek, hew, clo, clm, sta), (sm, op), (sg, ln, nx, lt, tg, pc), (spare, kept), hv, on, sv) a = some (x, (v', (sm, op), (sg, ln, nx, lt, tg, pc), (sp', kp'), hv', on, sv)) := by
    unfold sX7_throwKey fX7_throwKey
    dsimp only at e1 q1 ⊢
    rw [e1, Option.bind_some, q1, Option.bind_some, hx1, e3, ← hv1]
    rfl
  rcases e4 with ⟨hx, hw, hI⟩ | ⟨hx, hw, st', hi', rec', e5, e6, hI⟩
  · refine ⟨x, _, _, e7, ?_, hI⟩
    unfold sX8_throwKey fX8_throwKey
    dsimp only
    rw [hw, Option.bind_some, if_neg (le0_neg hx)]
    rfl
  · refine ⟨x, _, (st', hi', rec', slots, isS, pad, pl, opn, at_, le, fi, se), e7, ?_, hI⟩
    unfold sX8_throwKey fX8_throwKey
    dsimp only
    rw [hw, Option.bind_some, if_pos le00, e6, Option.bind_some, e5]
    rfl
theorem step_throwBox (hn : n ≤ 512) (h : Inv0 n c r) (a : Int32) : agree Inv0 n (sX7_throwBox c a) (sX8_throwBox r a) := by
  obtain ⟨⟨mw, ke, bo, lk, lb, par, mak, wea, kob, nu, hek, hew, clo, clm, sta⟩, ⟨sm, op⟩, ⟨sg, ln, nx, lt, tg, pc⟩, ⟨spare, kept⟩, hv, on, sv⟩ := c
  obtain ⟨st, hi, rec, slots, isS, pad, pl, opn, at_, le, fi, se⟩ := r
  obtain ⟨x, v', sp', kp', hv', e1, e2, e3, e4⟩ := change (B' := (n + 1)) h (core_throwBox (by omega) h.1 a) (by omega)
  unfold cThrow at e2
  obtain ⟨q, q1, q2⟩ := ob e2
  obtain ⟨hx1, hv1⟩ := Prod.mk.inj (Option.some.inj q2)
  have e7 : sX7_throwBox ((mw, ke, bo, lk, lb, par, mak, wea, kob, nu, hek, hew, clo, clm, sta), (sm, op), (sg, ln, nx, lt, tg, pc), (spare, kept), hv, on, sv) a = some (x, (v', (sm, op), (sg, ln, nx, lt, tg, pc), (sp', kp'), hv', on, sv)) := by
    unfold sX7_throwBox fX7_throwBox
    dsimp only at e1 q1 ⊢
    rw [e1, Option.bind_some, q1, Option.bind_some, hx1, e3, ← hv1]
    rfl
  rcases e4 with ⟨hx, hw, hI⟩ | ⟨hx, hw, st', hi', rec', e5, e6, hI⟩
  · refine ⟨x, _, _, e7, ?_, hI⟩
    unfold sX8_throwBox fX8_throwBox
    dsimp only
    rw [hw, Option.bind_some, if_neg (le0_neg hx)]
    rfl
  · refine ⟨x, _, (st', hi', rec', slots, isS, pad, pl, opn, at_, le, fi, se), e7, ?_, hI⟩
    unfold sX8_throwBox fX8_throwBox
    dsimp only
    rw [hw, Option.bind_some, if_pos le00, e6, Option.bind_some, e5]
    rfl
end OPS
