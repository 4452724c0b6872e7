/-! arguments; a key more, a box more; the class's wraps -/
theorem pos_or (x : Int32) : x < 0 ∨ ∃ k, k < 2 ^ 31 ∧ x = nI k := by
  have hr := fb_rng x
  by_cases h : x < 0
  · exact Or.inl h
  · have h0 : (0 : Int32).toInt = 0 := by decide
    rw [Int32.lt_iff_toInt_lt, h0] at h
    have e : ((x.toInt.toNat : Nat) : Int) = x.toInt := by omega
    refine Or.inr ⟨x.toInt.toNat, by omega, Int32.toInt_inj.mp ?_⟩
    rw [nI_toInt (by omega), e]
theorem within_nI {k n : Nat} (hk : k < 2 ^ 31) (hn : n < 2 ^ 31) : fX8_within (nI k) 0 (nI n - 1) = if k < n then 1 else 0 := by
  unfold fX8_within
  rw [if_neg (nI_pos hk)]
  cases n with
  | zero =>
    have e : (nI 0 - 1 : Int32) < nI k := by
      rw [Int32.lt_iff_toInt_lt, nI_toInt hk]
      have : (nI 0 - 1 : Int32).toInt = -1 := by decide
      omega
    rw [if_pos e, if_neg (by omega)]
  | succ m =>
    have e : nI (m + 1) - 1 = nI m := by
      have := pk_sub (a := m + 1) (b := 1) (by omega)
      exact this
    rw [e]
    by_cases h : m < k
    · rw [if_pos (nI_lt h hk), if_neg (by omega)]
    · rw [if_neg (nI_nlt (by omega) (by omega)), if_pos (by omega)]
section BOTH
variable {nk nb nw : Nat} {lk lb mw : Int32} {par mak wea kob hek hew clo clm sta st : Nat → Int32}
theorem key_both (hk : nk ≤ 20) (h1 : st 1 = nI nk) (x : Int32) : (∃ k, k < nk ∧ x = nI k ∧ fX5_hasKey (nI nk) x = 1 ∧ fX8_isKey st x = some 1) ∨ (fX5_hasKey (nI nk) x = 0 ∧ fX8_isKey st x = some 0) := by
  unfold fX5_hasKey fX8_isKey
  rw [if_neg ix1, cl1, h1]
  rcases pos_or x with h | ⟨k, hk2, rfl⟩
  · exact Or.inr ⟨if_pos h, congrArg some (if_pos h)⟩
  · rw [within_nI hk2 (by omega), if_neg (nI_pos hk2)]
    by_cases h : k < nk
    · exact Or.inl ⟨k, h, rfl, if_neg (nI_ge h (by omega)), congrArg some (if_pos h)⟩
    · exact Or.inr ⟨if_pos (nI_le (by omega) (by omega)), congrArg some (if_neg h)⟩
theorem box_both (hb : nb ≤ 20) (h2 : st 2 = nI nb) (x : Int32) : (∃ k, k < nb ∧ x = nI k ∧ fX5_hasBox (nI nb) x = 1 ∧ fX8_isBox st x = some 1) ∨ (fX5_hasBox (nI nb) x = 0 ∧ fX8_isBox st x = some 0) := by
  unfold fX5_hasBox fX8_isBox
  rw [if_neg ix2, cl2, h2]
  rcases pos_or x with h | ⟨k, hk2, rfl⟩
  · exact Or.inr ⟨if_pos h, congrArg some (if_pos h)⟩
  · rw [within_nI hk2 (by omega), if_neg (nI_pos hk2)]
    by_cases h : k < nb
    · exact Or.inl ⟨k, h, rfl, if_neg (nI_ge h (by omega)), congrArg some (if_pos h)⟩
    · exact Or.inr ⟨if_pos (nI_le (by omega) (by omega)), congrArg some (if_neg h)⟩
theorem wrap_both (hw : nw ≤ 120) (x : Int32) : (∃ k, k < nw ∧ x = nI k ∧ fX6_isOne (nI nw) x = 1 ∧ fX8_within x 0 (nI nw - 1) = 1) ∨ (fX6_isOne (nI nw) x = 0 ∧ fX8_within x 0 (nI nw - 1) = 0) := by
  unfold fX6_isOne
  rcases pos_or x with h | ⟨k, hk2, rfl⟩
  · exact Or.inr ⟨if_pos h, if_pos h⟩
  · rw [within_nI hk2 (by omega), if_neg (nI_pos hk2)]
    by_cases h : k < nw
    · exact Or.inl ⟨k, h, rfl, if_neg (nI_ge h (by omega)), if_pos h⟩
    · exact Or.inr ⟨if_pos (nI_le (by omega) (by omega)), if_neg h⟩
theorem has_all {n : Nat} (hn : n ≤ 32) {s : Int32} (hz : ∀ i, n ≤ i → bt s i = false) (x : Int32) : (∃ k, k < n ∧ x = nI k ∧ bt s k = true ∧ fX7_has s x = 1) ∨ (fX7_has s x = 0 ∧ ∀ k, k < n → x = nI k → bt s k = false) := by
  rcases pos_or x with h | ⟨k, hk2, rfl⟩
  · refine Or.inr ⟨by unfold fX7_has; exact if_pos h, fun k hk e => ?_⟩
    subst e
    exact absurd h (nI_pos (by omega))
  · rcases Nat.lt_or_ge k 32 with hk | hk
    · rw [has_nI hk]
      by_cases hb : bt s k = true
      · refine Or.inl ⟨k, ?_, rfl, hb, if_pos hb⟩
        rcases Nat.lt_or_ge k n with h | h
        · exact h
        · rw [hz k h] at hb; cases hb
      · refine Or.inr ⟨if_neg hb, fun j hj e => ?_⟩
        have := (nI_eq (by omega) (by omega)).mp e
        subst this
        exact Bool.eq_false_iff.mpr hb
    · refine Or.inr ⟨?_, fun j hj e => ?_⟩
      · unfold fX7_has
        rw [if_neg (nI_pos hk2), if_pos (show (32 : Int32) ≤ nI k from nI_le (a := 32) hk hk2)]
      · have := (nI_eq hk2 (by omega)).mp e
        omega
theorem liveKey_both (hk : nk ≤ 20) (h1 : st 1 = nI nk) (hz : ∀ i, nk ≤ i → bt lk i = false) (hR : RK st nk lk par mak wea) (x : Int32) : (∃ k, k < nk ∧ x = nI k ∧ bt lk k = true ∧ fX5_isLiveKey lk x = 1 ∧ fX8_isLiveKey st x = some 1) ∨ (fX5_isLiveKey lk x = 0 ∧ fX8_isLiveKey st x = some 0) := by
  unfold fX5_isLiveKey fX8_isLiveKey
  rcases has_all (by omega) hz x with ⟨k, hk2, rfl, hb, e⟩ | ⟨e, hn⟩
  · refine Or.inl ⟨k, hk2, rfl, hb, e, ?_⟩
    rcases key_both hk h1 (nI k) with ⟨j, hj, ej, -, e2⟩ | ⟨e2, -⟩
    · rw [e2, Option.bind_some, if_neg (by decide), key1 (by omega), Option.bind_some, (hR k hk2).2.1, if_pos (bit1_eq.mpr hb)]
    · unfold fX5_hasKey at e2
      rw [if_neg (nI_pos (by omega)), if_neg (nI_ge hk2 (by omega))] at e2
      exact absurd e2 (by decide)
  · refine Or.inr ⟨e, ?_⟩
    rcases key_both hk h1 x with ⟨j, hj, rfl, -, e2⟩ | ⟨-, e2⟩
    · rw [e2, Option.bind_some, if_neg (by decide), key1 (by omega), Option.bind_some, (hR j hj).2.1, hn j hj rfl]
      exact if_neg (by decide)
    · rw [e2, Option.bind_some, if_pos rfl]
theorem liveBox_both (hb : nb ≤ 20) (h2 : st 2 = nI nb) (hz : ∀ i, nb ≤ i → bt lb i = false) (hR : RB st nb lb kob) (x : Int32) : (∃ k, k < nb ∧ x = nI k ∧ bt lb k = true ∧ fX5_isLiveBox lb x = 1 ∧ fX8_isLiveBox st x = some 1) ∨ (fX5_isLiveBox lb x = 0 ∧ fX8_isLiveBox st x = some 0) := by
  unfold fX5_isLiveBox fX8_isLiveBox
  rcases has_all (by omega) hz x with ⟨k, hk2, rfl, hb2, e⟩ | ⟨e, hn⟩
  · refine Or.inl ⟨k, hk2, rfl, hb2, e, ?_⟩
    rcases box_both hb h2 (nI k) with ⟨j, hj, ej, -, e2⟩ | ⟨e2, -⟩
    · rw [e2, Option.bind_some, if_neg (by decide), box1 (by omega), Option.bind_some, (hR k hk2).2, if_pos (bit1_eq.mpr hb2)]
    · unfold fX5_hasBox at e2
      rw [if_neg (nI_pos (by omega)), if_neg (nI_ge hk2 (by omega))] at e2
      exact absurd e2 (by decide)
  · refine Or.inr ⟨e, ?_⟩
    rcases box_both hb h2 x with ⟨j, hj, rfl, -, e2⟩ | ⟨-, e2⟩
    · rw [e2, Option.bind_some, if_neg (by decide), box1 (by omega), Option.bind_some, (hR j hj).2, hn j hj rfl]
      exact if_neg (by decide)
    · rw [e2, Option.bind_some, if_pos rfl]
theorem left_both {m x k : Nat} (hk : k < 20) (hm : m ≤ 30) (hx : x ≤ 120) (e1 : mw = nI m) (e2 : wea k = nI x) (s0 : st 0 = mw) (s3 : st (4 + 4 * k + 3) = wea k) : fX5_leftToClose mw wea (nI k) = nI (m - x) ∧ fX8_canClose st (nI k) = some (if m ≤ x then 0 else 1) := by
  unfold fX5_leftToClose fX8_canClose
  rw [rAt_nI hk (by omega), e2, e1, key3 hk, Option.bind_some, if_neg ix0, cl0, s0, s3, e1, e2]
  constructor
  · by_cases h : m < x
    · have e : nI m - nI x < 0 := by
        rw [Int32.lt_iff_toInt_lt, pk_sub_toInt (by omega) (by omega)]
        have : (0 : Int32).toInt = 0 := by decide
        omega
      rw [if_pos e]
      have : m - x = 0 := by omega
      rw [this]; rfl
    · rw [pk_sub (by omega), if_neg (nI_pos (by omega))]
  · by_cases h : m ≤ x
    · rw [if_pos h, if_pos (nI_le h (by omega))]
    · rw [if_neg h, if_neg (nI_ge (by omega) (by omega))]
theorem room_eq {d : Nat} (hw : nw ≤ 120) (hd : d < 2 ^ 20) : fX6_haveRoomFor (nI nw) (nI d) = if nw + d ≤ 120 then 1 else 0 := by
  unfold fX6_haveRoomFor
  rw [nI_add]
  by_cases h : nw + d ≤ 120
  · rw [if_pos h, if_neg (show ¬ (120 : Int32) < nI (nw + d) from nI_nlt (a := 120) h (by omega))]
  · rw [if_neg h, if_pos (show (120 : Int32) < nI (nw + d) from nI_lt (a := 120) (by omega) (by omega))]
end BOTH
theorem bt_add {s : Int32} {n i : Nat} (hn : n < 32) (hi : i < 32) : bt (s ||| fX7_setOf (nI n)) i = (bt s i || decide (i = n)) := by
  rw [b_or, bt_setOf hn hi]
section ADDK
variable {B nk nb nw : Nat} {st : Nat → Int32} {mw ke bo lk lb nu : Int32} {par mak wea kob hek hew clo clm sta : Nat → Int32}
def stKey (st : Nat → Int32) (nk : Nat) (x : Int32) : Nat → Int32 := upd (upd (upd (upd (upd st (4 + 4 * nk) x) (4 + 4 * nk + 1) 1) (4 + 4 * nk + 2) 0) (4 + 4 * nk + 3) 0) 1 (nI (nk + 1))
theorem makeKey_eq (hk : nk < 20) (h1 : st 1 = nI nk) (x : Int32) : fX8_makeKey st x = if x = -6 then some (nI nk, stKey st nk x) else (fX8_wrapKey (stKey st nk x) (nI nk)).bind fun q => some (nI nk, q) := by
  have e0 : fX8_setKey st (nI nk) 0 x = some (upd st (4 + 4 * nk) x) := setKey_nI hk (p := 0) (by omega) st x
  generalize g0 : upd st (4 + 4 * nk) x = s0 at e0
  have e1 : fX8_setKey s0 (nI nk) 1 1 = some (upd s0 (4 + 4 * nk + 1) 1) := setKey_nI hk (p := 1) (by omega) s0 _
  generalize g1 : upd s0 (4 + 4 * nk + 1) 1 = s1 at e1
  have e2 : fX8_setKey s1 (nI nk) 2 0 = some (upd s1 (4 + 4 * nk + 2) 0) := setKey_nI hk (p := 2) (by omega) s1 _
  generalize g2 : upd s1 (4 + 4 * nk + 2) 0 = s2 at e2
  have e3 : fX8_setKey s2 (nI nk) 3 0 = some (upd s2 (4 + 4 * nk + 3) 0) := setKey_nI hk (p := 3) (by omega) s2 _
  generalize g3 : upd s2 (4 + 4 * nk + 3) 0 = s3 at e3
  have r : s3 1 = nI nk := by rw [← g3, pk_un (by omega), ← g2, pk_un (by omega), ← g1, pk_un (by omega), ← g0, pk_un (by omega), h1]
  have hst : stKey st nk x = upd s3 1 (nI (nk + 1)) := by unfold stKey; rw [g0, g1, g2, g3]
  rw [hst]
  unfold fX8_makeKey
  rw [if_neg ix1, cl1, h1, e0, Option.bind_some, e1, Option.bind_some, e2, Option.bind_some, e3, Option.bind_some, if_neg ix1n, if_neg ix1n, r, nI_1]
theorem add_key (h : Rel B nk nb nw st mw ke bo lk lb par mak wea kob nu hek hew clo clm sta) (hk : nk < 20) {x : Int32} (hx : x = -6 ∨ ∃ j, j < nk ∧ x = nI j ∧ bt lk j = true) :
    Rel B (nk + 1) nb nw (stKey st nk x) mw (nI (nk + 1)) bo (lk ||| fX7_setOf (nI nk)) lb (upd par nk x) (upd mak nk 0) (upd wea nk 0) kob nu hek hew clo clm sta := by
  obtain ⟨⟨a1, a2, a3⟩, ⟨t1, t2, t3, t4, t5, t6, t7, t8⟩, ⟨c1, c2, c3⟩, hW, hH, hU, ⟨s0, s1, s2, s3⟩, hK, hB, hR⟩ := h
  have old : ∀ {k : Nat} (f : Nat → Int32) (v : Int32), k < nk → upd f nk v k = f k := fun f v hk => pk_un (by omega)
  have cell : ∀ j, (j < 4 + 4 * nk ∨ 4 + 4 * nk + 4 ≤ j) → j ≠ 1 → stKey st nk x j = st j := fun j hj hj1 => by
    unfold stKey
    rw [pk_un hj1, pk_un (by omega), pk_un (by omega), pk_un (by omega), pk_un (by omega)]
  have bits : ∀ k, k < 32 → k ≠ nk → bt (lk ||| fX7_setOf (nI nk)) k = bt lk k := fun k hk hne => by
    rw [bt_add (by omega) hk, decide_eq_false hne, Bool.or_false]
  have bitn : bt (lk ||| fX7_setOf (nI nk)) nk = true := by rw [bt_add (by omega) (by omega), decide_eq_true rfl, Bool.or_true]
  refine ⟨⟨rfl, a2, a3⟩, ⟨by omega, t2, fun k hk2 => ?_, fun b hb => ?_, fun i hi => ?_, t6, fun k j hk2 hj hl hp => ?_, fun b j hb hj hl hp => ?_⟩, ⟨c1, c2, fun k hk2 => ?_⟩, fun w hw => ?_, fun w hw hs => ?_, hU, ⟨?_, ?_, ?_, ?_⟩, fun k hk2 => ?_, fun b hb => ?_, fun w hw => ?_⟩
  · by_cases hkn : k = nk
    · subst hkn
      rw [pk_us]
      rcases hx with h | ⟨j, hj, e, -⟩
      · exact Or.inl h
      · exact Or.inr ⟨j, hj, e⟩
    · rw [old par x (by omega)]
      exact t3 k (by omega)
  · obtain ⟨j, hj, e⟩ := t4 b hb
    exact ⟨j, by omega, e⟩
  · rcases Nat.lt_or_ge i 32 with h | h
    · rw [bits i h (by omega)]
      exact t5 i (by omega)
    · exact b_big h
  · by_cases hkn : k = nk
    · subst hkn
      rw [pk_us] at hp
      rcases hx with h | ⟨j', hj', e, hl'⟩
      · exact absurd (hp.symm.trans h) (nI_ne6 (by omega))
      · have := (nI_eq (by omega) (by omega)).mp (hp.symm.trans e)
        rw [this, bits j' (by omega) (by omega)]
        exact hl'
    · rw [old par x (by omega)] at hp
      rw [bits k (by omega) hkn] at hl
      rcases t3 k (by omega) with h | ⟨j', hj', e⟩
      · exact absurd (hp.symm.trans h) (nI_ne6 (by omega))
      · have := (nI_eq (by omega) (by omega)).mp (hp.symm.trans e)
        rw [this, bits j' (by omega) (by omega)]
        exact t7 k j' (by omega) (by omega) hl e
  · obtain ⟨j', hj', e⟩ := t4 b hb
    have := (nI_eq (by omega) (by omega)).mp (hp.symm.trans e)
    rw [this, bits j' (by omega) (by omega)]
    exact t8 b j' hb hj' hl e
  · by_cases hkn : k = nk
    · subst hkn
      rw [pk_us, pk_us]
      exact ⟨⟨0, ⟨Nat.zero_le _, by omega⟩, rfl⟩, 0, Nat.zero_le _, rfl⟩
    · rw [old mak 0 (by omega), old wea 0 (by omega)]
      exact c3 k (by omega)
  · obtain ⟨h1, ⟨c, m, m', e1, e2, e3, e4, e5⟩, h3⟩ := hW w hw
    refine ⟨?_, ⟨c, m, m', by omega, e2, e3, by rw [old mak 0 e1]; exact e4, e5⟩, h3⟩
    rcases h1 with ⟨p1, p2⟩ | ⟨k, j, p1, p2, p3, p4, p5, m, m', p6, p7, p8⟩
    · exact Or.inl ⟨p1, p2⟩
    · exact Or.inr ⟨k, j, by omega, p2, p3, by rw [old par x p1]; exact p4, p5, m, m', p6, by rw [old mak 0 p1]; exact p7, p8⟩
  · obtain ⟨g1, g2, g3⟩ := hH w hw hs
    obtain ⟨h1, ⟨c0, m, m', e1, e2, e3, e4, e5⟩, h3⟩ := hW w hw
    refine ⟨fun c hc hcl => ?_, g2, fun k hk2 hkk => ?_⟩
    · have := (nI_eq (by omega) (by omega)).mp (hcl.symm.trans e2)
      subst this
      rw [old mak 0 e1]
      exact g1 c e1 hcl
    · rcases h1 with ⟨p1, p2⟩ | ⟨k', j, p1, p2, p3, p4, p5, m, m', p6, p7, p8⟩
      · exact absurd (hkk.symm.trans p1) (nI_ne6 (by omega))
      · have := (nI_eq (by omega) (by omega)).mp (hkk.symm.trans p3)
        subst this
        rw [old mak 0 p1, bits k (by omega) (by omega)]
        exact g3 k p1 hkk
  · rw [cell 0 (by omega) (by omega)]; exact s0
  · exact pk_us
  · rw [cell 2 (by omega) (by omega)]; exact s2
  · rw [cell 3 (by omega) (by omega)]; exact s3
  · by_cases hkn : k = nk
    · subst hkn
      rw [pk_us, pk_us, pk_us, bitn, if_pos rfl]
      unfold stKey
      refine ⟨?_, ?_, ?_, ?_⟩
      · rw [pk_un (by omega), pk_un (by omega), pk_un (by omega), pk_un (by omega), pk_us]
      · rw [pk_un (by omega), pk_un (by omega), pk_un (by omega), pk_us]
      · rw [pk_un (by omega), pk_un (by omega), pk_us]
      · rw [pk_un (by omega), pk_us]
    · rw [old par x (by omega), old mak 0 (by omega), old wea 0 (by omega), bits k (by omega) hkn, cell _ (by omega) (by omega), cell _ (by omega) (by omega), cell _ (by omega) (by omega), cell _ (by omega) (by omega)]
      exact hK k (by omega)
  · rw [cell _ (by omega) (by omega), cell _ (by omega) (by omega)]
    exact hB b hb
  · rw [cell _ (by omega) (by omega), cell _ (by omega) (by omega), cell _ (by omega) (by omega), cell _ (by omega) (by omega), cell _ (by omega) (by omega), cell _ (by omega) (by omega)]
    exact hR w hw
def stBox (st : Nat → Int32) (nb : Nat) (x : Int32) : Nat → Int32 := upd (upd (upd st (84 + 2 * nb) x) (84 + 2 * nb + 1) 1) 2 (nI (nb + 1))
theorem makeBox_eq (hb : nb < 20) (h2 : st 2 = nI nb) (x : Int32) : fX8_makeBox st x = (fX8_wrapBox (stBox st nb x) (nI nb)).bind fun q => some (nI nb, q) := by
  have e0 : fX8_setBox st (nI nb) 0 x = some (upd st (84 + 2 * nb) x) := setBox_nI hb (p := 0) (by omega) st x
  generalize g0 : upd st (84 + 2 * nb) x = s0 at e0
  have e1 : fX8_setBox s0 (nI nb) 1 1 = some (upd s0 (84 + 2 * nb + 1) 1) := setBox_nI hb (p := 1) (by omega) s0 _
  generalize g1 : upd s0 (84 + 2 * nb + 1) 1 = s1 at e1
  have r : s1 2 = nI nb := by rw [← g1, pk_un (by omega), ← g0, pk_un (by omega), h2]
  have hst : stBox st nb x = upd s1 2 (nI (nb + 1)) := by unfold stBox; rw [g0, g1]
  rw [hst]
  unfold fX8_makeBox
  rw [if_neg ix2, cl2, h2, e0, Option.bind_some, e1, Option.bind_some, if_neg ix2n, if_neg ix2n, r, nI_1]
theorem add_box (h : Rel B nk nb nw st mw ke bo lk lb par mak wea kob nu hek hew clo clm sta) (hb0 : nb < 20) {j0 : Nat} (hj0 : j0 < nk) (hl0 : bt lk j0 = true) :
    Rel B nk (nb + 1) nw (stBox st nb (nI j0)) mw ke (nI (nb + 1)) lk (lb ||| fX7_setOf (nI nb)) par mak wea (upd kob nb (nI j0)) nu hek hew clo clm sta := by
  obtain ⟨⟨a1, a2, a3⟩, ⟨t1, t2, t3, t4, t5, t6, t7, t8⟩, ⟨c1, c2, c3⟩, hW, hH, hU, ⟨s0, s1, s2, s3⟩, hK, hB, hR⟩ := h
  have old : ∀ {k : Nat} (f : Nat → Int32) (v : Int32), k < nb → upd f nb v k = f k := fun f v hk => pk_un (by omega)
  have cell : ∀ j, (j < 84 + 2 * nb ∨ 84 + 2 * nb + 2 ≤ j) → j ≠ 2 → stBox st nb (nI j0) j = st j := fun j hj hj1 => by
    unfold stBox
    rw [pk_un hj1, pk_un (by omega), pk_un (by omega)]
  have bits : ∀ k, k < 32 → k ≠ nb → bt (lb ||| fX7_setOf (nI nb)) k = bt lb k := fun k hk hne => by
    rw [bt_add (by omega) hk, decide_eq_false hne, Bool.or_false]
  have bitn : bt (lb ||| fX7_setOf (nI nb)) nb = true := by rw [bt_add (by omega) (by omega), decide_eq_true rfl, Bool.or_true]
  refine ⟨⟨a1, rfl, a3⟩, ⟨t1, by omega, t3, fun b hb => ?_, t5, fun i hi => ?_, t7, fun b j hb hj hl hp => ?_⟩, ⟨c1, c2, c3⟩, fun w hw => ?_, fun w hw hs => ?_, hU, ⟨?_, ?_, ?_, ?_⟩, fun k hk2 => ?_, fun b hb => ?_, fun w hw => ?_⟩
  · by_cases hbn : b = nb
    · subst hbn
      rw [pk_us]
      exact ⟨j0, hj0, rfl⟩
    · rw [old kob _ (by omega)]
      exact t4 b (by omega)
  · rcases Nat.lt_or_ge i 32 with h | h
    · rw [bits i h (by omega)]
      exact t6 i (by omega)
    · exact b_big h
  · by_cases hbn : b = nb
    · subst hbn
      rw [pk_us] at hp
      have := (nI_eq (by omega) (by omega)).mp hp
      rw [← this]
      exact hl0
    · rw [old kob _ (by omega)] at hp
      rw [bits b (by omega) hbn] at hl
      exact t8 b j (by omega) hj hl hp
  · obtain ⟨h1, h2, h3⟩ := hW w hw
    refine ⟨?_, h2, h3⟩
    rcases h1 with ⟨p1, b, p2, p3, p4⟩ | h1
    · exact Or.inl ⟨p1, b, by omega, p3, by rw [old kob _ p2]; exact p4⟩
    · exact Or.inr h1
  · obtain ⟨g1, g2, g3⟩ := hH w hw hs
    refine ⟨g1, fun h6 b hb hbb => ?_, g3⟩
    rw [bt_add (by omega) hb, g2 h6 b hb hbb]
    rfl
  · rw [cell 0 (by omega) (by omega)]; exact s0
  · rw [cell 1 (by omega) (by omega)]; exact s1
  · exact pk_us
  · rw [cell 3 (by omega) (by omega)]; exact s3
  · rw [cell _ (by omega) (by omega), cell _ (by omega) (by omega), cell _ (by omega) (by omega), cell _ (by omega) (by omega)]
    exact hK k hk2
  · by_cases hbn : b = nb
    · subst hbn
      rw [pk_us, bitn, if_pos rfl]
      unfold stBox
      refine ⟨?_, ?_⟩
      · rw [pk_un (by omega), pk_un (by omega), pk_us]
      · rw [pk_un (by omega), pk_us]
    · rw [old kob _ (by omega), bits b (by omega) hbn, cell _ (by omega) (by omega), cell _ (by omega) (by omega)]
      exact hB b (by omega)
  · rw [cell _ (by omega) (by omega), cell _ (by omega) (by omega), cell _ (by omega) (by omega), cell _ (by omega) (by omega), cell _ (by omega) (by omega), cell _ (by omega) (by omega)]
    exact hR w hw
/-- a key is wrapped: both sides -/
theorem wrapKey_both (h : Rel B nk nb nw st mw ke bo lk lb par mak wea kob nu hek hew clo clm sta) (hw : nw < 120) {k c : Nat} (hk : k < nk) (hp : par k = nI c) (hl : bt lk k = true) (hc : c < nk) (hno : ∀ w, w < nw → bt (sta w) 3 = true → ¬ hek w = nI k) :
    fX1_wrapKey par mak wea nu hek hew clo clm sta (nI k) = some (upd wea c (wea c + 1), nI (nw + 1), upd hek nw (nI k), upd hew nw (mak k), upd clo nw (nI c), upd clm nw (mak c), upd sta nw 8) ∧
    ∃ st', fX8_wrapKey st (nI k) = some st' ∧ Rel B nk nb (nw + 1) st' mw ke bo lk lb par mak (upd wea c (wea c + 1)) kob (nI (nw + 1)) (upd hek nw (nI k)) (upd hew nw (mak k)) (upd clo nw (nI c)) (upd clm nw (mak c)) (upd sta nw 8) := by
  have hk20 := h.2.1.1
  have hck : c < k := by
    rcases h.2.1.2.2.1 k hk with e | ⟨j, hj, e⟩
    · exact absurd (hp.symm.trans e) (nI_ne6 (by omega))
    · have := (nI_eq (by omega) (by omega)).mp (hp.symm.trans e)
      omega
  have hK := h.2.2.2.2.2.2.2.1
  have hnu := h.1.2.2
  constructor
  · unfold fX1_wrapKey fX6_add fX5_makeOf fX5_parentOf fX5_wearDown
    rw [rAt_nI (by omega) (by omega), rAt_nI (by omega) (by omega), hp, rAt_nI (by omega) (by omega), hnu, rSet_nI hw (by omega), rSet_nI hw (by omega), rSet_nI hw (by omega), rSet_nI hw (by omega), rSet_nI hw (by omega), rAdd_nI (by omega) (by omega), nI_1]
    rfl
  · obtain ⟨st', e, hR⟩ := add_wrap h hw hc (Or.inl ⟨k, hk, rfl, rfl, hck, hp, hl, hno⟩)
    refine ⟨st', ?_, hR⟩
    unfold fX8_wrapKey
    rw [key2 (by omega), Option.bind_some, key0 (by omega), Option.bind_some, (hK k hk).1, (hK k hk).2.2.1, hp, e]
    rfl
theorem wrapBox_both (h : Rel B nk nb nw st mw ke bo lk lb par mak wea kob nu hek hew clo clm sta) (hw : nw < 120) {b c : Nat} (hb : b < nb) (hp : kob b = nI c) (hl : bt lb b = true) (hc : c < nk) (hno : ∀ w, w < nw → bt (sta w) 3 = true → hek w = -6 → ¬ hew w = nI b) :
    fX1_wrapBox mak wea kob nu hek hew clo clm sta (nI b) = some (upd wea c (wea c + 1), nI (nw + 1), upd hek nw (-6), upd hew nw (nI b), upd clo nw (nI c), upd clm nw (mak c), upd sta nw 8) ∧
    ∃ st', fX8_wrapBox st (nI b) = some st' ∧ Rel B nk nb (nw + 1) st' mw ke bo lk lb par mak (upd wea c (wea c + 1)) kob (nI (nw + 1)) (upd hek nw (-6)) (upd hew nw (nI b)) (upd clo nw (nI c)) (upd clm nw (mak c)) (upd sta nw 8) := by
  have hk20 := h.2.1.1
  have hb20 := h.2.1.2.1
  have hB := h.2.2.2.2.2.2.2.2.1
  have hnu := h.1.2.2
  constructor
  · unfold fX1_wrapBox fX6_add fX5_makeOf fX5_keyOfBox fX5_wearDown
    rw [rAt_nI (by omega) (by omega), hp, rAt_nI (by omega) (by omega), hnu, rSet_nI hw (by omega), rSet_nI hw (by omega), rSet_nI hw (by omega), rSet_nI hw (by omega), rSet_nI hw (by omega), rAdd_nI (by omega) (by omega), nI_1]
    rfl
  · obtain ⟨st', e, hR⟩ := add_wrap h hw hc (Or.inr ⟨b, hb, rfl, rfl, hp, hl, hno⟩)
    refine ⟨st', ?_, hR⟩
    unfold fX8_wrapBox
    rw [box0 (by omega), Option.bind_some, (hB b hb).1, hp, e]
    rfl
end ADDK
