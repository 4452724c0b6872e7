/-! a wrap more; a key more; a box more: on both sides -/
theorem ix0n : ¬ ((0 : Int32) < 0 ∨ 844 ≤ 0) := by decide
theorem ix1n : ¬ ((1 : Int32) < 0 ∨ 844 ≤ 1) := by decide
theorem ix2n : ¬ ((2 : Int32) < 0 ∨ 844 ≤ 2) := by decide
theorem ix3n : ¬ ((3 : Int32) < 0 ∨ 844 ≤ 3) := by decide
theorem makeWrap_eq {st : Nat → Int32} {nw c : Nat} (h3 : st 3 = nI nw) (hw : nw < 120) (hc : c < 20) (x y : Int32) : ∃ st', fX8_makeWrap st x y (nI c) = some st' ∧ st' (124 + 6 * nw) = x ∧ st' (124 + 6 * nw + 1) = y ∧ st' (124 + 6 * nw + 2) = nI c ∧ st' (124 + 6 * nw + 3) = st (4 + 4 * c + 2) ∧ st' (124 + 6 * nw + 4) = 1 ∧ st' (124 + 6 * nw + 5) = 0 ∧ st' (4 + 4 * c + 3) = st (4 + 4 * c + 3) + 1 ∧ st' 3 = nI (nw + 1) ∧
    ∀ j, (j < 124 + 6 * nw ∨ 124 + 6 * nw + 6 ≤ j) → j ≠ 4 + 4 * c + 3 → j ≠ 3 → st' j = st j := by
  have e0 : fX8_setWrap st (nI nw) 0 x = some (upd st (124 + 6 * nw) x) := setWrap_nI hw (p := 0) (by omega) st x
  generalize g0 : upd st (124 + 6 * nw) x = s0 at e0
  have e1 : fX8_setWrap s0 (nI nw) 1 y = some (upd s0 (124 + 6 * nw + 1) y) := setWrap_nI hw (p := 1) (by omega) s0 y
  generalize g1 : upd s0 (124 + 6 * nw + 1) y = s1 at e1
  have e2 : fX8_setWrap s1 (nI nw) 2 (nI c) = some (upd s1 (124 + 6 * nw + 2) (nI c)) := setWrap_nI hw (p := 2) (by omega) s1 _
  generalize g2 : upd s1 (124 + 6 * nw + 2) (nI c) = s2 at e2
  have r2 : s2 (4 + 4 * c + 2) = st (4 + 4 * c + 2) := by rw [← g2, pk_un (by omega), ← g1, pk_un (by omega), ← g0, pk_un (by omega)]
  have e3 : fX8_setWrap s2 (nI nw) 3 (st (4 + 4 * c + 2)) = some (upd s2 (124 + 6 * nw + 3) (st (4 + 4 * c + 2))) := setWrap_nI hw (p := 3) (by omega) s2 _
  generalize g3 : upd s2 (124 + 6 * nw + 3) (st (4 + 4 * c + 2)) = s3 at e3
  have e4 : fX8_setWrap s3 (nI nw) 4 1 = some (upd s3 (124 + 6 * nw + 4) 1) := setWrap_nI hw (p := 4) (by omega) s3 _
  generalize g4 : upd s3 (124 + 6 * nw + 4) 1 = s4 at e4
  have e5 : fX8_setWrap s4 (nI nw) 5 0 = some (upd s4 (124 + 6 * nw + 5) 0) := setWrap_nI hw (p := 5) (by omega) s4 _
  generalize g5 : upd s4 (124 + 6 * nw + 5) 0 = s5 at e5
  have r5 : s5 (4 + 4 * c + 3) = st (4 + 4 * c + 3) := by rw [← g5, pk_un (by omega), ← g4, pk_un (by omega), ← g3, pk_un (by omega), ← g2, pk_un (by omega), ← g1, pk_un (by omega), ← g0, pk_un (by omega)]
  have e6 : fX8_setKey s5 (nI c) 3 (st (4 + 4 * c + 3) + 1) = some (upd s5 (4 + 4 * c + 3) (st (4 + 4 * c + 3) + 1)) := setKey_nI hc (p := 3) (by omega) s5 _
  generalize g6 : upd s5 (4 + 4 * c + 3) (st (4 + 4 * c + 3) + 1) = s6 at e6
  have r6 : s6 3 = nI nw := by rw [← g6, pk_un (by omega), ← g5, pk_un (by omega), ← g4, pk_un (by omega), ← g3, pk_un (by omega), ← g2, pk_un (by omega), ← g1, pk_un (by omega), ← g0, pk_un (by omega)]; exact h3
  refine ⟨upd s6 3 (nI (nw + 1)), ?_, ?_, ?_, ?_, ?_, ?_, ?_, ?_, pk_us, ?_⟩
  · unfold fX8_makeWrap
    rw [if_neg ix3, cl3, h3, e0, Option.bind_some, e1, Option.bind_some, e2, Option.bind_some, key2 hc, Option.bind_some, r2, e3, Option.bind_some, e4, Option.bind_some, e5, Option.bind_some, key3 hc, Option.bind_some, r5, e6, Option.bind_some, if_neg ix3n, if_neg ix3n, r6, nI_1]
  · rw [pk_un (by omega), ← g6, pk_un (by omega), ← g5, pk_un (by omega), ← g4, pk_un (by omega), ← g3, pk_un (by omega), ← g2, pk_un (by omega), ← g1, pk_un (by omega), ← g0, pk_us]
  · rw [pk_un (by omega), ← g6, pk_un (by omega), ← g5, pk_un (by omega), ← g4, pk_un (by omega), ← g3, pk_un (by omega), ← g2, pk_un (by omega), ← g1, pk_us]
  · rw [pk_un (by omega), ← g6, pk_un (by omega), ← g5, pk_un (by omega), ← g4, pk_un (by omega), ← g3, pk_un (by omega), ← g2, pk_us]
  · rw [pk_un (by omega), ← g6, pk_un (by omega), ← g5, pk_un (by omega), ← g4, pk_un (by omega), ← g3, pk_us]
  · rw [pk_un (by omega), ← g6, pk_un (by omega), ← g5, pk_un (by omega), ← g4, pk_us]
  · rw [pk_un (by omega), ← g6, pk_un (by omega), ← g5, pk_us]
  · rw [pk_un (by omega), ← g6, pk_us]
  · intro j hj hj2 hj3
    rw [pk_un hj3, ← g6, pk_un hj2, ← g5, pk_un (by omega), ← g4, pk_un (by omega), ← g3, pk_un (by omega), ← g2, pk_un (by omega), ← g1, pk_un (by omega), ← g0, pk_un (by omega)]
section ADD
variable {B nk nb nw : Nat} {st : Nat → Int32} {mw ke bo lk lb nu : Int32} {par mak wea kob hek hew clo clm sta : Nat → Int32}
theorem bt8_3 : bt 8 3 = true := by decide +kernel
theorem e87 : (8 : Int32) &&& 7 = 0 := by decide
/-- what a new wrap holds -/
def Held (nk nb nw c : Nat) (lk lb : Int32) (par mak kob hek hew sta : Nat → Int32) (x y : Int32) : Prop :=
  (∃ k, k < nk ∧ x = nI k ∧ y = mak k ∧ c < k ∧ par k = nI c ∧ bt lk k = true ∧ ∀ w, w < nw → bt (sta w) 3 = true → ¬ hek w = nI k) ∨
  (∃ b, b < nb ∧ x = -6 ∧ y = nI b ∧ kob b = nI c ∧ bt lb b = true ∧ ∀ w, w < nw → bt (sta w) 3 = true → hek w = -6 → ¬ hew w = nI b)
theorem add_wrap (h : Rel B nk nb nw st mw ke bo lk lb par mak wea kob nu hek hew clo clm sta) (hw : nw < 120) {c : Nat} (hc : c < nk) {x y : Int32} (hx : Held nk nb nw c lk lb par mak kob hek hew sta x y) :
    ∃ st', fX8_makeWrap st x y (nI c) = some st' ∧ Rel B nk nb (nw + 1) st' mw ke bo lk lb par mak (upd wea c (wea c + 1)) kob (nI (nw + 1)) (upd hek nw x) (upd hew nw y) (upd clo nw (nI c)) (upd clm nw (mak c)) (upd sta nw 8) := by
  obtain ⟨⟨a1, a2, a3⟩, hT, ⟨c1, c2, c3⟩, hW, hH, hU, ⟨s0, s1, s2, s3⟩, hK, hBx, hRW⟩ := h
  have hk20 := hT.1
  have hb20 := hT.2.1
  obtain ⟨st', f0, f1, f2, f3, f4, f5, f6, f7, f8, f9⟩ := makeWrap_eq (st := st) (by rw [s3, a3]) hw (by omega : c < 20) x y
  have old : ∀ {w : Nat}, w < nw → ∀ (f : Nat → Int32) (v : Int32), upd f nw v w = f w := fun hw2 f v => pk_un (by omega)
  have hne6 : ∀ {k : Nat}, k < nk → ¬ nI k = -6 := fun hk => nI_ne6 (by omega)
  refine ⟨st', f0, ⟨a1, a2, rfl⟩, hT, ⟨by omega, c2, fun k hk => ?_⟩, ?_, ?_, ?_, ⟨by rw [f9 0 (by omega) (by omega) (by omega)]; exact s0, by rw [f9 1 (by omega) (by omega) (by omega)]; exact s1, by rw [f9 2 (by omega) (by omega) (by omega)]; exact s2, f8⟩, ?_, ?_, ?_⟩
  · obtain ⟨h1, z, h2, h3⟩ := c3 k hk
    refine ⟨h1, ?_⟩
    by_cases hkc : k = c
    · subst hkc
      exact ⟨z + 1, by omega, by rw [pk_us, h3, nI_1]⟩
    · exact ⟨z, by omega, by rw [pk_un hkc]; exact h3⟩
  · intro w hw2
    by_cases hwn : w = nw
    · subst hwn
      rw [pk_us, pk_us, pk_us, pk_us, pk_us]
      obtain ⟨⟨m, hm, hm2⟩, -⟩ := c3 c hc
      refine ⟨?_, ⟨c, m, m, hc, rfl, hm2, hm2, Nat.le_refl _, hm.2⟩, 8, by omega, rfl⟩
      rcases hx with ⟨k, b1, b2, b3, b4, b5, -, -⟩ | ⟨b, b1, b2, b3, b4, -, -⟩
      · obtain ⟨⟨m2, hm3, hm4⟩, -⟩ := c3 k b1
        exact Or.inr ⟨k, c, b1, b4, b2, b5, rfl, m2, m2, by rw [b3]; exact hm4, hm4, Nat.le_refl _⟩
      · exact Or.inl ⟨b2, b, b1, b3, b4.symm⟩
    · have hw3 : w < nw := by omega
      rw [old hw3, old hw3, old hw3, old hw3, old hw3]
      exact hW w hw3
  · intro w hw2
    by_cases hwn : w = nw
    · subst hwn
      rw [pk_us, pk_us, pk_us, pk_us, pk_us]
      intro _
      refine ⟨fun c' hc' hcc => ?_, fun hx6 b hb hbb => ?_, fun k hk hkk => ?_⟩
      · have := (nI_eq (by omega) (by omega)).mp hcc
        rw [this]
      · rcases hx with ⟨k, b1, b2, -⟩ | ⟨b', b1, b2, b3, b4, b5, -⟩
        · exact absurd (b2.symm.trans hx6) (hne6 b1)
        · have := (nI_eq (by omega) (by omega)).mp (b3.symm.trans hbb)
          rw [← this]; exact b5
      · rcases hx with ⟨k', b1, b2, b3, b4, b5, b6, -⟩ | ⟨b', b1, b2, -⟩
        · have := (nI_eq (by omega) (by omega)).mp (b2.symm.trans hkk)
          rw [← this]; exact ⟨b6, b3⟩
        · exact absurd (hkk.symm.trans b2) (hne6 hk)
    · have hw3 : w < nw := by omega
      rw [old hw3, old hw3, old hw3, old hw3, old hw3]
      exact hH w hw3
  · intro w w' hw1 hw2
    by_cases h1 : w = nw
    · by_cases h2 : w' = nw
      · intro _ _ _ _; omega
      · have hw3 : w' < nw := by omega
        subst h1
        rw [pk_us, pk_us, pk_us, old hw3, old hw3, old hw3]
        intro _ hs he hb
        rcases hx with ⟨k, b1, b2, b3, b4, b5, b6, b7⟩ | ⟨b, b1, b2, b3, b4, b5, b6⟩
        · exact absurd (he.symm.trans b2) (b7 w' hw3 hs)
        · exact absurd ((hb b2).symm.trans b3) (b6 w' hw3 hs (he.symm.trans b2))
    · have hw3 : w < nw := by omega
      by_cases h2 : w' = nw
      · subst h2
        rw [pk_us, pk_us, pk_us, old hw3, old hw3, old hw3]
        intro hs _ he hb
        rcases hx with ⟨k, b1, b2, b3, b4, b5, b6, b7⟩ | ⟨b, b1, b2, b3, b4, b5, b6⟩
        · exact absurd (he.trans b2) (b7 w hw3 hs)
        · exact absurd ((hb (he.trans b2)).trans b3) (b6 w hw3 hs (he.trans b2))
      · have hw4 : w' < nw := by omega
        rw [old hw3, old hw3, old hw3, old hw4, old hw4, old hw4]
        exact hU w w' hw3 hw4
  · intro k hk
    obtain ⟨r0, r1, r2, r3⟩ := hK k hk
    rw [f9 (4 + 4 * k) (by omega) (by omega) (by omega), f9 (4 + 4 * k + 1) (by omega) (by omega) (by omega), f9 (4 + 4 * k + 2) (by omega) (by omega) (by omega)]
    refine ⟨r0, r1, r2, ?_⟩
    by_cases hkc : k = c
    · subst hkc
      rw [pk_us, f7, r3]
    · rw [pk_un hkc, f9 (4 + 4 * k + 3) (by omega) (by omega) (by omega), r3]
  · intro b hb
    rw [f9 (84 + 2 * b) (by omega) (by omega) (by omega), f9 (84 + 2 * b + 1) (by omega) (by omega) (by omega)]
    exact hBx b hb
  · intro w hw2
    by_cases hwn : w = nw
    · subst hwn
      rw [pk_us, pk_us, pk_us, pk_us, pk_us, f1, f2, f3, f4, f5, f6, bt8_3, e87]
      exact ⟨rfl, rfl, rfl, (hK c hc).2.2.1, rfl, rfl⟩
    · have hw3 : w < nw := by omega
      rw [old hw3, old hw3, old hw3, old hw3, old hw3, f9 (124 + 6 * w) (by omega) (by omega) (by omega), f9 (124 + 6 * w + 1) (by omega) (by omega) (by omega), f9 (124 + 6 * w + 2) (by omega) (by omega) (by omega), f9 (124 + 6 * w + 3) (by omega) (by omega) (by omega), f9 (124 + 6 * w + 4) (by omega) (by omega) (by omega), f9 (124 + 6 * w + 5) (by omega) (by omega) (by omega)]
      exact hRW w hw3
end ADD
