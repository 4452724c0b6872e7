/-! the law's own rows beside the row of numbers -/
def pm (x : Int32) : Int32 := if x = -6 then -1 else x
def pk7 (x : Int32) : Int32 := if x = -6 then 7 else x
def LKy (nk : Nat) (st kev : Nat → Int32) : Prop := ∀ k, k < nk → kev (4 * k) = pm (st (4 + 4 * k)) ∧ kev (4 * k + 1) = st (4 + 4 * k + 1) ∧ kev (4 * k + 2) = st (4 + 4 * k + 2) ∧ kev (4 * k + 3) = st (4 + 4 * k + 3)
def LZr (nk : Nat) (kev : Nat → Int32) : Prop := ∀ k, nk ≤ k → k < 6 → kev (4 * k + 2) = 0 ∧ kev (4 * k + 3) = 0
def LBx (nb : Nat) (st bov : Nat → Int32) : Prop := ∀ b, b < nb → bov (2 * b) = st (84 + 2 * b) ∧ bov (2 * b + 1) = st (84 + 2 * b + 1)
def LWr (nw : Nat) (st wrv : Nat → Int32) : Prop := ∀ w, w < nw → AC (wrv w) (pk7 (st (124 + 6 * w))) (st (124 + 6 * w + 1)) (st (124 + 6 * w + 2)) (st (124 + 6 * w + 3)) (st (124 + 6 * w + 4)) (st (124 + 6 * w + 5))
def LMk (nk : Nat) (st : Nat → Int32) : Prop := ∀ k, k < nk → ∃ m, m < 64 ∧ st (4 + 4 * k + 2) = nI m
def LQn (nk nb nw : Nat) (st qv : Nat → Int32) : Prop := (qv 0 = st 0 ∧ qv 1 = nI nk ∧ qv 2 = nI nb ∧ qv 3 = nI nw) ∧ (st 1 = nI nk ∧ st 2 = nI nb ∧ st 3 = nI nw) ∧ nk ≤ 6 ∧ nb ≤ 6 ∧ nw ≤ 64
def LSt (st : Nat → Int32) (nk nb nw : Nat) (qv kev bov wrv : Nat → Int32) : Prop := LQn nk nb nw st qv ∧ LKy nk st kev ∧ LZr nk kev ∧ LBx nb st bov ∧ LWr nw st wrv
theorem pm_6 : pm (-6) = -1 := if_pos rfl
theorem pm_nI {k : Nat} (hk : k < 2 ^ 31) : pm (nI k) = nI k := if_neg (nI_ne6 hk)
theorem pk7_6 : pk7 (-6) = 7 := if_pos rfl
theorem pk7_nI {k : Nat} (hk : k < 2 ^ 31) : pk7 (nI k) = nI k := if_neg (nI_ne6 hk)
theorem m1_ne {k : Nat} (hk : k < 2 ^ 31) : ¬ nI k = -1 := fun h => nI_pos hk (by rw [h]; decide)
theorem pm_eq {x : Int32} {k : Nat} (hk : k < 2 ^ 31) : pm x = nI k ↔ x = nI k := by
  unfold pm
  by_cases h : x = -6
  · rw [if_pos h, h]
    exact ⟨fun q => absurd q.symm (m1_ne hk), fun q => absurd q.symm (nI_ne6 hk)⟩
  · rw [if_neg h]
theorem q0i : ¬ ((0 : Int32) < 0 ∨ 4 ≤ (0 : Int32).toNatClampNeg) := by decide
theorem q1i : ¬ ((1 : Int32) < 0 ∨ 4 ≤ (1 : Int32).toNatClampNeg) := by decide
theorem q2i : ¬ ((2 : Int32) < 0 ∨ 4 ≤ (2 : Int32).toNatClampNeg) := by decide
theorem q3i : ¬ ((3 : Int32) < 0 ∨ 4 ≤ (3 : Int32).toNatClampNeg) := by decide
theorem i4 (c : Nat) : (4 : Int32) * nI c = nI (4 * c) := pk_mul 4 c
theorem i2 (c : Nat) : (2 : Int32) * nI c = nI (2 * c) := pk_mul 2 c
theorem i4p1 (c : Nat) : nI (4 * c) + 1 = nI (4 * c + 1) := nI_add _ 1
theorem i4p2 (c : Nat) : nI (4 * c) + 2 = nI (4 * c + 2) := nI_add _ 2
theorem i4p3 (c : Nat) : nI (4 * c) + 3 = nI (4 * c + 3) := nI_add _ 3
theorem i2p1 (c : Nat) : nI (2 * c) + 1 = nI (2 * c + 1) := nI_add _ 1
theorem fL_wrap_eq {qv kev wrv : Nat → Int32} {nw c : Nat} (hq : qv 3 = nI nw) (hw : nw < 64) (hc : c < 6) (X y : Int32) : fL_wrap qv kev wrv X y (nI c) = some (upd qv 3 (nI (nw + 1)), upd kev (4 * c + 3) (kev (4 * c + 3) + 1), upd wrv nw (fL_made X y (nI c) (kev (4 * c + 2)))) := by
  unfold fL_wrap
  rw [if_neg q3i, if_neg q3i, i4, i4p2, i4p3, if_neg (nI_in (by omega) (by omega)), cl3, hq, if_neg (nI_in hw (by omega)), if_neg (nI_in (by omega) (by omega)), if_neg (nI_in (by omega) (by omega)), nI_clamp (by omega), nI_clamp (by omega), nI_clamp (by omega), nI_1]
section LSIM
variable {nk nb nw : Nat} {st qv kev bov wrv : Nat → Int32}
theorem wrap_sim (h : LSt st nk nb nw qv kev bov wrv) (hw : nw < 64) {c : Nat} (hc : c < nk) (hM : ∃ m, m < 64 ∧ st (4 + 4 * c + 2) = nI m) {x : Int32} {y X : Nat} (hx : (x = nI X ∧ X < 6) ∨ (x = -6 ∧ X = 7)) (hy : y < 64) :
    ∃ st' qv' kev' wrv', fX8_makeWrap st x (nI y) (nI c) = some st' ∧ fL_wrap qv kev wrv (nI X) (nI y) (nI c) = some (qv', kev', wrv') ∧ LSt st' nk nb (nw + 1) qv' kev' bov wrv' ∧ ∀ j, j < 124 → j ≠ 4 + 4 * c + 3 → j ≠ 3 → st' j = st j := by
  obtain ⟨⟨⟨a0, a1, a2, a3⟩, ⟨b1, b2, b3⟩, n1, n2, n3⟩, hK, hZ, hB, hW⟩ := h
  obtain ⟨st', f0, f1, f2, f3, f4, f5, f6, f7, f8, f9⟩ := makeWrap_eq (st := st) b3 (by omega) (by omega : c < 20) x (nI y)
  obtain ⟨m, m1, m2⟩ := hM
  have hX7 : pk7 x = nI X ∧ X < 8 := by
    rcases hx with ⟨e, hX⟩ | ⟨e, hX⟩
    · rw [e, pk7_nI (by omega)]; exact ⟨rfl, by omega⟩
    · subst hX; rw [e, pk7_6]; exact ⟨rfl, by omega⟩
  refine ⟨st', _, _, _, f0, fL_wrap_eq a3 hw (by omega) _ _, ⟨⟨⟨?_, ?_, ?_, pk_us⟩, ⟨?_, ?_, f8⟩, n1, n2, by omega⟩, fun k hk => ?_, fun k hk hk6 => ?_, fun b hb => ?_, fun w hw2 => ?_⟩, fun j h1 h2 h3 => f9 j (by omega) h2 h3⟩
  · rw [pk_un (by omega), f9 0 (by omega) (by omega) (by omega)]; exact a0
  · rw [pk_un (by omega)]; exact a1
  · rw [pk_un (by omega)]; exact a2
  · rw [f9 1 (by omega) (by omega) (by omega)]; exact b1
  · rw [f9 2 (by omega) (by omega) (by omega)]; exact b2
  · obtain ⟨k0, k1, k2, k3⟩ := hK k hk
    rw [pk_un (by omega), pk_un (by omega), pk_un (by omega), f9 (4 + 4 * k) (by omega) (by omega) (by omega), f9 (4 + 4 * k + 1) (by omega) (by omega) (by omega), f9 (4 + 4 * k + 2) (by omega) (by omega) (by omega)]
    refine ⟨k0, k1, k2, ?_⟩
    by_cases hkc : k = c
    · subst hkc
      rw [pk_us, f7, k3]
    · rw [pk_un (by omega), f9 (4 + 4 * k + 3) (by omega) (by omega) (by omega), k3]
  · obtain ⟨z1, z2⟩ := hZ k hk hk6
    rw [pk_un (by omega), pk_un (by omega)]
    exact ⟨z1, z2⟩
  · rw [f9 (84 + 2 * b) (by omega) (by omega) (by omega), f9 (84 + 2 * b + 1) (by omega) (by omega) (by omega)]
    exact hB b hb
  · by_cases hwn : w = nw
    · subst hwn
      rw [pk_us, f1, f2, f3, f4, f5, f6, (hK c hc).2.2.1, m2, hX7.1]
      exact AC_made hX7.2 hy (by omega) m1
    · rw [pk_un hwn, f9 (124 + 6 * w) (by omega) (by omega) (by omega), f9 (124 + 6 * w + 1) (by omega) (by omega) (by omega), f9 (124 + 6 * w + 2) (by omega) (by omega) (by omega), f9 (124 + 6 * w + 3) (by omega) (by omega) (by omega), f9 (124 + 6 * w + 4) (by omega) (by omega) (by omega), f9 (124 + 6 * w + 5) (by omega) (by omega) (by omega)]
      exact hW w (by omega)
/-- what does not change while wraps are made -/
def Same3 (nk nb : Nat) (st st' : Nat → Int32) : Prop := (∀ k, k < nk → st' (4 + 4 * k) = st (4 + 4 * k) ∧ st' (4 + 4 * k + 1) = st (4 + 4 * k + 1) ∧ st' (4 + 4 * k + 2) = st (4 + 4 * k + 2)) ∧ ∀ b, b < nb → st' (84 + 2 * b) = st (84 + 2 * b) ∧ st' (84 + 2 * b + 1) = st (84 + 2 * b + 1)
theorem Same3.rfl' : Same3 nk nb st st := ⟨fun _ _ => ⟨rfl, rfl, rfl⟩, fun _ _ => ⟨rfl, rfl⟩⟩
theorem Same3.trans {s1 s2 s3 : Nat → Int32} (h1 : Same3 nk nb s1 s2) (h2 : Same3 nk nb s2 s3) : Same3 nk nb s1 s3 :=
  ⟨fun k hk => ⟨(h2.1 k hk).1.trans (h1.1 k hk).1, (h2.1 k hk).2.1.trans (h1.1 k hk).2.1, (h2.1 k hk).2.2.trans (h1.1 k hk).2.2⟩, fun b hb => ⟨(h2.2 b hb).1.trans (h1.2 b hb).1, (h2.2 b hb).2.trans (h1.2 b hb).2⟩⟩
theorem same3_of (hk6 : nk ≤ 6) (hb6 : nb ≤ 6) {st' : Nat → Int32} {c : Nat} (hc : c < nk) (h : ∀ j, j < 124 → j ≠ 4 + 4 * c + 3 → j ≠ 3 → st' j = st j) : Same3 nk nb st st' :=
  ⟨fun k hk => ⟨h _ (by omega) (by omega) (by omega), h _ (by omega) (by omega) (by omega), h _ (by omega) (by omega) (by omega)⟩, fun b hb => ⟨h _ (by omega) (by omega) (by omega), h _ (by omega) (by omega) (by omega)⟩⟩
/-- the keys' and the boxes' rows in the class's words, without wear -/
def RK3 (st : Nat → Int32) (nk : Nat) (lk : Int32) (par mak : Nat → Int32) : Prop := ∀ k, k < nk → st (4 + 4 * k) = par k ∧ st (4 + 4 * k + 1) = (if bt lk k = true then 1 else 0) ∧ st (4 + 4 * k + 2) = mak k
theorem RK3_of {lk : Int32} {par mak wea : Nat → Int32} (h : RK st nk lk par mak wea) : RK3 st nk lk par mak := fun k hk => ⟨(h k hk).1, (h k hk).2.1, (h k hk).2.2.1⟩
theorem RK3_same {lk : Int32} {par mak : Nat → Int32} {st' : Nat → Int32} (h : RK3 st nk lk par mak) (hs : Same3 nk nb st st') : RK3 st' nk lk par mak := fun k hk => by
  obtain ⟨e1, e2, e3⟩ := hs.1 k hk
  rw [e1, e2, e3]; exact h k hk
theorem RB_same {lb : Int32} {kob : Nat → Int32} {st' : Nat → Int32} (h : RB st nb lb kob) (hs : Same3 nk nb st st') : RB st' nb lb kob := fun b hb => by
  obtain ⟨e1, e2⟩ := hs.2 b hb
  rw [e1, e2]; exact h b hb
theorem LM_same {st' : Nat → Int32} (h : LMk nk st) (hs : Same3 nk nb st st') : LMk nk st' := fun k hk => by
  rw [(hs.1 k hk).2.2]; exact h k hk
end LSIM
