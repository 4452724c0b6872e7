/-! the changes, one by one, in the row of numbers and in the law's rows -/
section CHG
variable {n : Nat} {c : CS} {r : RS}
theorem no_key (a : Int32) (h : agree Inv0 n (sX7_key c a) (sX8_key r a)) {e : Int32} (hw : fX8_whyNoKey r.1 a = some e) (he : e < 0) : ∃ c' r', sX7_key c a = some (e, c') ∧ Inv0 (n + 1) c' r' ∧ r'.1 = r.1 := by
  obtain ⟨v, c', r', e1, e2, hI⟩ := h
  unfold sX8_key fX8_key at e2
  rw [hw, Option.bind_some, if_neg (le0_neg he), Option.bind_some] at e2
  obtain ⟨rfl, rfl⟩ := Prod.mk.inj (Option.some.inj e2)
  exact ⟨c', _, e1, hI, rfl⟩
theorem yes_key (a : Int32) (h : agree Inv0 n (sX7_key c a) (sX8_key r a)) (hw : fX8_whyNoKey r.1 a = some 0) {x : Int32} {st' : Nat → Int32} (hd : fX8_makeKey r.1 a = some (x, st')) : ∃ c' r', sX7_key c a = some (x, c') ∧ Inv0 (n + 1) c' r' ∧ r'.1 = st' := by
  obtain ⟨v, c', r', e1, e2, hI⟩ := h
  unfold sX8_key fX8_key at e2
  rw [hw, Option.bind_some, if_pos le00] at e2
  obtain ⟨q, q1, q2⟩ := ob e2
  obtain ⟨q3, q4, q5⟩ := ob q1
  rw [hd, Option.bind_some] at q5
  obtain rfl := Option.some.inj q5
  obtain ⟨rfl, rfl⟩ := Prod.mk.inj (Option.some.inj q2)
  exact ⟨c', _, e1, hI, rfl⟩
theorem no_box (a : Int32) (h : agree Inv0 n (sX7_box c a) (sX8_box r a)) {e : Int32} (hw : fX8_whyNoBox r.1 a = some e) (he : e < 0) : ∃ c' r', sX7_box c a = some (e, c') ∧ Inv0 (n + 1) c' r' ∧ r'.1 = r.1 := by
  obtain ⟨v, c', r', e1, e2, hI⟩ := h
  unfold sX8_box fX8_box at e2
  rw [hw, Option.bind_some, if_neg (le0_neg he), Option.bind_some] at e2
  obtain ⟨rfl, rfl⟩ := Prod.mk.inj (Option.some.inj e2)
  exact ⟨c', _, e1, hI, rfl⟩
theorem yes_box (a : Int32) (h : agree Inv0 n (sX7_box c a) (sX8_box r a)) (hw : fX8_whyNoBox r.1 a = some 0) {x : Int32} {st' : Nat → Int32} (hd : fX8_makeBox r.1 a = some (x, st')) : ∃ c' r', sX7_box c a = some (x, c') ∧ Inv0 (n + 1) c' r' ∧ r'.1 = st' := by
  obtain ⟨v, c', r', e1, e2, hI⟩ := h
  unfold sX8_box fX8_box at e2
  rw [hw, Option.bind_some, if_pos le00] at e2
  obtain ⟨q, q1, q2⟩ := ob e2
  obtain ⟨q3, q4, q5⟩ := ob q1
  rw [hd, Option.bind_some] at q5
  obtain rfl := Option.some.inj q5
  obtain ⟨rfl, rfl⟩ := Prod.mk.inj (Option.some.inj q2)
  exact ⟨c', _, e1, hI, rfl⟩
theorem no_copy (a b : Int32) (h : agree Inv0 n (sX7_copy c a b) (sX8_copy r a b)) {e : Int32} (hw : fX8_whyNoCopy r.1 a b = some e) (he : e < 0) : ∃ c' r', sX7_copy c a b = some (e, c') ∧ Inv0 (n + 1) c' r' ∧ r'.1 = r.1 := by
  obtain ⟨v, c', r', e1, e2, hI⟩ := h
  unfold sX8_copy fX8_copy at e2
  rw [hw, Option.bind_some, if_neg (le0_neg he), Option.bind_some] at e2
  obtain ⟨rfl, rfl⟩ := Prod.mk.inj (Option.some.inj e2)
  exact ⟨c', _, e1, hI, rfl⟩
theorem yes_copy (a b : Int32) (h : agree Inv0 n (sX7_copy c a b) (sX8_copy r a b)) (hw : fX8_whyNoCopy r.1 a b = some 0) {x : Int32} {st' : Nat → Int32} (hd : fX8_copied r.1 a b = some (x, st')) : ∃ c' r', sX7_copy c a b = some (x, c') ∧ Inv0 (n + 1) c' r' ∧ r'.1 = st' := by
  obtain ⟨v, c', r', e1, e2, hI⟩ := h
  unfold sX8_copy fX8_copy at e2
  rw [hw, Option.bind_some, if_pos le00] at e2
  obtain ⟨q, q1, q2⟩ := ob e2
  obtain ⟨q3, q4, q5⟩ := ob q1
  rw [hd, Option.bind_some] at q5
  obtain rfl := Option.some.inj q5
  obtain ⟨rfl, rfl⟩ := Prod.mk.inj (Option.some.inj q2)
  exact ⟨c', _, e1, hI, rfl⟩
theorem no_renew (a : Int32) (h : agree Inv0 n (sX7_renew c a) (sX8_renew r a)) {e : Int32} (hw : fX8_whyNotRenewed r.1 a = some e) (he : e < 0) : ∃ c' r', sX7_renew c a = some (e, c') ∧ Inv0 (n + 1) c' r' ∧ r'.1 = r.1 := by
  obtain ⟨v, c', r', e1, e2, hI⟩ := h
  unfold sX8_renew fX8_renew at e2
  rw [hw, Option.bind_some, if_neg (le0_neg he), Option.bind_some] at e2
  obtain ⟨rfl, rfl⟩ := Prod.mk.inj (Option.some.inj e2)
  exact ⟨c', _, e1, hI, rfl⟩
theorem yes_renew (a : Int32) (h : agree Inv0 n (sX7_renew c a) (sX8_renew r a)) (hw : fX8_whyNotRenewed r.1 a = some 0) {x : Int32} {st' : Nat → Int32} (hd : fX8_renewed r.1 a = some (x, st')) : ∃ c' r', sX7_renew c a = some (x, c') ∧ Inv0 (n + 1) c' r' ∧ r'.1 = st' := by
  obtain ⟨v, c', r', e1, e2, hI⟩ := h
  unfold sX8_renew fX8_renew at e2
  rw [hw, Option.bind_some, if_pos le00] at e2
  obtain ⟨q, q1, q2⟩ := ob e2
  obtain ⟨q3, q4, q5⟩ := ob q1
  rw [hd, Option.bind_some] at q5
  obtain rfl := Option.some.inj q5
  obtain ⟨rfl, rfl⟩ := Prod.mk.inj (Option.some.inj q2)
  exact ⟨c', _, e1, hI, rfl⟩
theorem no_throwKey (a : Int32) (h : agree Inv0 n (sX7_throwKey c a) (sX8_throwKey r a)) {e : Int32} (hw : fX8_whyKeyNotThrown r.1 a = some e) (he : e < 0) : ∃ c' r', sX7_throwKey c a = some (e, c') ∧ Inv0 (n + 1) c' r' ∧ r'.1 = r.1 := by
  obtain ⟨v, c', r', e1, e2, hI⟩ := h
  unfold sX8_throwKey fX8_throwKey at e2
  rw [hw, Option.bind_some, if_neg (le0_neg he), Option.bind_some] at e2
  obtain ⟨rfl, rfl⟩ := Prod.mk.inj (Option.some.inj e2)
  exact ⟨c', _, e1, hI, rfl⟩
theorem yes_throwKey (a : Int32) (h : agree Inv0 n (sX7_throwKey c a) (sX8_throwKey r a)) (hw : fX8_whyKeyNotThrown r.1 a = some 0) {x : Int32} {st' : Nat → Int32} (hd : fX8_keyThrown r.1 a = some (x, st')) : ∃ c' r', sX7_throwKey c a = some (x, c') ∧ Inv0 (n + 1) c' r' ∧ r'.1 = st' := by
  obtain ⟨v, c', r', e1, e2, hI⟩ := h
  unfold sX8_throwKey fX8_throwKey at e2
  rw [hw, Option.bind_some, if_pos le00] at e2
  obtain ⟨q, q1, q2⟩ := ob e2
  obtain ⟨q3, q4, q5⟩ := ob q1
  rw [hd, Option.bind_some] at q5
  obtain rfl := Option.some.inj q5
  obtain ⟨rfl, rfl⟩ := Prod.mk.inj (Option.some.inj q2)
  exact ⟨c', _, e1, hI, rfl⟩
theorem no_throwBox (a : Int32) (h : agree Inv0 n (sX7_throwBox c a) (sX8_throwBox r a)) {e : Int32} (hw : fX8_whyBoxNotThrown r.1 a = some e) (he : e < 0) : ∃ c' r', sX7_throwBox c a = some (e, c') ∧ Inv0 (n + 1) c' r' ∧ r'.1 = r.1 := by
  obtain ⟨v, c', r', e1, e2, hI⟩ := h
  unfold sX8_throwBox fX8_throwBox at e2
  rw [hw, Option.bind_some, if_neg (le0_neg he), Option.bind_some] at e2
  obtain ⟨rfl, rfl⟩ := Prod.mk.inj (Option.some.inj e2)
  exact ⟨c', _, e1, hI, rfl⟩
theorem yes_throwBox (a : Int32) (h : agree Inv0 n (sX7_throwBox c a) (sX8_throwBox r a)) (hw : fX8_whyBoxNotThrown r.1 a = some 0) {x : Int32} {st' : Nat → Int32} (hd : fX8_boxThrown r.1 a = some (x, st')) : ∃ c' r', sX7_throwBox c a = some (x, c') ∧ Inv0 (n + 1) c' r' ∧ r'.1 = st' := by
  obtain ⟨v, c', r', e1, e2, hI⟩ := h
  unfold sX8_throwBox fX8_throwBox at e2
  rw [hw, Option.bind_some, if_pos le00] at e2
  obtain ⟨q, q1, q2⟩ := ob e2
  obtain ⟨q3, q4, q5⟩ := ob q1
  rw [hd, Option.bind_some] at q5
  obtain rfl := Option.some.inj q5
  obtain ⟨rfl, rfl⟩ := Prod.mk.inj (Option.some.inj q2)
  exact ⟨c', _, e1, hI, rfl⟩
theorem yes_wear {a : Int32} (h : agree Inv0 n (sX7_wear c a) (sX8_wear r a)) (hw : ¬ fX8_within a 2 30 = 0) : ∃ c' r', sX7_wear c a = some (r.1 0, c') ∧ Inv0 (n + 1) c' r' ∧ r'.1 = upd r.1 0 a := by
  obtain ⟨v, c', r', e1, e2, hI⟩ := h
  unfold sX8_wear fX8_wear at e2
  rw [if_neg hw] at e2
  obtain ⟨q, q1, q2⟩ := ob e2
  obtain ⟨q3, q4, q5⟩ := ob q1
  rw [if_neg ix0, if_neg ix0, cl0] at q5
  obtain rfl := Option.some.inj q5
  obtain ⟨rfl, rfl⟩ := Prod.mk.inj (Option.some.inj q2)
  exact ⟨c', _, e1, hI, rfl⟩
end CHG
section SIMS
variable {nk nb nw : Nat} {st qv kev bov wrv : Nat → Int32}
theorem key_sim (h : LSt st nk nb nw qv kev bov wrv) (hk : nk < 6) (x : Int32) : LSt (stKey st nk x) (nk + 1) nb nw (upd qv 1 (nI (nk + 1))) (upd (upd kev (4 * nk) (pm x)) (4 * nk + 1) 1) bov wrv := by
  obtain ⟨⟨⟨a0, a1, a2, a3⟩, ⟨b1, b2, b3⟩, n1, n2, n3⟩, hK, hZ, hB, hW⟩ := h
  have oth : ∀ j, j ≠ 4 + 4 * nk → j ≠ 4 + 4 * nk + 1 → j ≠ 4 + 4 * nk + 2 → j ≠ 4 + 4 * nk + 3 → j ≠ 1 → stKey st nk x j = st j := fun j h0 h1 h2 h3 h4 => by
    unfold stKey
    rw [pk_un h4, pk_un h3, pk_un h2, pk_un h1, pk_un h0]
  refine ⟨⟨⟨?_, pk_us, ?_, ?_⟩, ⟨pk_us, ?_, ?_⟩, by omega, n2, n3⟩, fun k hk2 => ?_, fun k hk2 hk6 => ?_, fun b hb => ?_, fun w hw => ?_⟩
  · rw [pk_un (by omega), oth 0 (by omega) (by omega) (by omega) (by omega) (by omega)]; exact a0
  · rw [pk_un (by omega)]; exact a2
  · rw [pk_un (by omega)]; exact a3
  · rw [oth 2 (by omega) (by omega) (by omega) (by omega) (by omega)]; exact b2
  · rw [oth 3 (by omega) (by omega) (by omega) (by omega) (by omega)]; exact b3
  · by_cases hkn : k = nk
    · subst hkn
      obtain ⟨z1, z2⟩ := hZ k (Nat.le_refl _) hk
      unfold stKey
      refine ⟨?_, ?_, ?_, ?_⟩
      · rw [pk_un (by omega), pk_us, pk_un (by omega), pk_un (by omega), pk_un (by omega), pk_un (by omega), pk_us]
      · rw [pk_us, pk_un (by omega), pk_un (by omega), pk_un (by omega), pk_us]
      · rw [pk_un (by omega), pk_un (by omega), pk_un (by omega), pk_un (by omega), pk_us, z1]
      · rw [pk_un (by omega), pk_un (by omega), pk_un (by omega), pk_us, z2]
    · have := hK k (by omega)
      rw [pk_un (by omega), pk_un (by omega), pk_un (by omega), pk_un (by omega), pk_un (by omega), pk_un (by omega), pk_un (by omega), pk_un (by omega), oth _ (by omega) (by omega) (by omega) (by omega) (by omega), oth _ (by omega) (by omega) (by omega) (by omega) (by omega), oth _ (by omega) (by omega) (by omega) (by omega) (by omega), oth _ (by omega) (by omega) (by omega) (by omega) (by omega)]
      exact this
  · rw [pk_un (by omega), pk_un (by omega), pk_un (by omega), pk_un (by omega)]
    exact hZ k (by omega) hk6
  · rw [oth _ (by omega) (by omega) (by omega) (by omega) (by omega), oth _ (by omega) (by omega) (by omega) (by omega) (by omega)]
    exact hB b hb
  · rw [oth (124 + 6 * w) (by omega) (by omega) (by omega) (by omega) (by omega), oth (124 + 6 * w + 1) (by omega) (by omega) (by omega) (by omega) (by omega), oth (124 + 6 * w + 2) (by omega) (by omega) (by omega) (by omega) (by omega), oth (124 + 6 * w + 3) (by omega) (by omega) (by omega) (by omega) (by omega), oth (124 + 6 * w + 4) (by omega) (by omega) (by omega) (by omega) (by omega), oth (124 + 6 * w + 5) (by omega) (by omega) (by omega) (by omega) (by omega)]
    exact hW w hw
theorem box_sim (h : LSt st nk nb nw qv kev bov wrv) (hb6 : nb < 6) (x : Int32) : LSt (stBox st nb x) nk (nb + 1) nw (upd qv 2 (nI (nb + 1))) kev (upd (upd bov (2 * nb) x) (2 * nb + 1) 1) wrv := by
  obtain ⟨⟨⟨a0, a1, a2, a3⟩, ⟨b1, b2, b3⟩, n1, n2, n3⟩, hK, hZ, hB, hW⟩ := h
  have oth : ∀ j, j ≠ 84 + 2 * nb → j ≠ 84 + 2 * nb + 1 → j ≠ 2 → stBox st nb x j = st j := fun j h0 h1 h2 => by
    unfold stBox
    rw [pk_un h2, pk_un h1, pk_un h0]
  refine ⟨⟨⟨?_, ?_, pk_us, ?_⟩, ⟨?_, pk_us, ?_⟩, n1, by omega, n3⟩, fun k hk2 => ?_, hZ, fun b hb => ?_, fun w hw => ?_⟩
  · rw [pk_un (by omega), oth 0 (by omega) (by omega) (by omega)]; exact a0
  · rw [pk_un (by omega)]; exact a1
  · rw [pk_un (by omega)]; exact a3
  · rw [oth 1 (by omega) (by omega) (by omega)]; exact b1
  · rw [oth 3 (by omega) (by omega) (by omega)]; exact b3
  · rw [oth _ (by omega) (by omega) (by omega), oth _ (by omega) (by omega) (by omega), oth _ (by omega) (by omega) (by omega), oth _ (by omega) (by omega) (by omega)]
    exact hK k hk2
  · by_cases hbn : b = nb
    · subst hbn
      unfold stBox
      refine ⟨?_, ?_⟩
      · rw [pk_un (by omega), pk_us, pk_un (by omega), pk_un (by omega), pk_us]
      · rw [pk_us, pk_un (by omega), pk_us]
    · rw [pk_un (by omega), pk_un (by omega), pk_un (by omega), pk_un (by omega), oth _ (by omega) (by omega) (by omega), oth _ (by omega) (by omega) (by omega)]
      exact hB b (by omega)
  · rw [oth (124 + 6 * w) (by omega) (by omega) (by omega), oth (124 + 6 * w + 1) (by omega) (by omega) (by omega), oth (124 + 6 * w + 2) (by omega) (by omega) (by omega), oth (124 + 6 * w + 3) (by omega) (by omega) (by omega), oth (124 + 6 * w + 4) (by omega) (by omega) (by omega), oth (124 + 6 * w + 5) (by omega) (by omega) (by omega)]
    exact hW w hw
theorem copy_sim (h : LSt st nk nb nw qv kev bov wrv) {w p : Nat} (hw : w < nw) (hp : p < 3) : LSt (upd st (124 + 6 * w + 5) (st (124 + 6 * w + 5) ||| ((1 : Int32) <<< (nI p &&& 31)))) nk nb nw qv kev bov (upd wrv w (wrv w ||| ((1 : Int32) <<< (nI (19 + p) &&& 31)))) := by
  obtain ⟨⟨⟨a0, a1, a2, a3⟩, ⟨b1, b2, b3⟩, n1, n2, n3⟩, hK, hZ, hB, hW⟩ := h
  refine ⟨⟨⟨?_, a1, a2, a3⟩, ⟨?_, ?_, ?_⟩, n1, n2, n3⟩, fun k hk2 => ?_, hZ, fun b hb => ?_, fun v hv => ?_⟩
  · rw [pk_un (by omega)]; exact a0
  · rw [pk_un (by omega)]; exact b1
  · rw [pk_un (by omega)]; exact b2
  · rw [pk_un (by omega)]; exact b3
  · rw [pk_un (by omega), pk_un (by omega), pk_un (by omega), pk_un (by omega)]
    exact hK k hk2
  · rw [pk_un (by omega), pk_un (by omega)]
    exact hB b hb
  · by_cases hvw : v = w
    · subst hvw
      rw [pk_us, pk_us, pk_un (by omega), pk_un (by omega), pk_un (by omega), pk_un (by omega), pk_un (by omega)]
      exact AC_set (hW v hv) hp
    · rw [pk_un hvw, pk_un (by omega), pk_un (by omega), pk_un (by omega), pk_un (by omega), pk_un (by omega), pk_un (by omega)]
      exact hW v hv
theorem wear_sim (h : LSt st nk nb nw qv kev bov wrv) (v : Int32) : LSt (upd st 0 v) nk nb nw (upd qv 0 v) kev bov wrv := by
  obtain ⟨⟨⟨a0, a1, a2, a3⟩, ⟨b1, b2, b3⟩, n1, n2, n3⟩, hK, hZ, hB, hW⟩ := h
  refine ⟨⟨⟨by rw [pk_us, pk_us], ?_, ?_, ?_⟩, ⟨?_, ?_, ?_⟩, n1, n2, n3⟩, fun k hk2 => ?_, hZ, fun b hb => ?_, fun w hw => ?_⟩
  · rw [pk_un (by omega)]; exact a1
  · rw [pk_un (by omega)]; exact a2
  · rw [pk_un (by omega)]; exact a3
  · rw [pk_un (by omega)]; exact b1
  · rw [pk_un (by omega)]; exact b2
  · rw [pk_un (by omega)]; exact b3
  · rw [pk_un (by omega), pk_un (by omega), pk_un (by omega), pk_un (by omega)]
    exact hK k hk2
  · rw [pk_un (by omega), pk_un (by omega)]
    exact hB b hb
  · rw [pk_un (by omega), pk_un (by omega), pk_un (by omega), pk_un (by omega), pk_un (by omega), pk_un (by omega)]
    exact hW w hw
end SIMS
section RSIM
variable {B nk nb nw : Nat} {st qv kev bov wrv : Nat → Int32} {mw ke bo lk lb lk' lb' nu : Int32} {par mak wea kob hek hew clo clm sta : Nat → Int32}
theorem WI_new (hW : WI nk nb nw par mak kob hek hew clo clm sta) (hB : B < 2 ^ 30) (hC : CI B nk nw mw mak wea) {S : List Nat} {mak' : Nat → Int32} (hm : ∀ k, k < nk → mak' k = if k ∈ S then mak k + 1 else mak k) : WI nk nb nw par mak' kob hek hew clo clm sta := by
  have hup : ∀ k m m', k < nk → mak k = nI m' → m ≤ m' → ∃ m'', mak' k = nI m'' ∧ m ≤ m'' ∧ (m' < 2 ^ 31 → m'' < 2 ^ 31) := fun k m m' hk e hle => by
    by_cases hb : k ∈ S
    · refine ⟨m' + 1, by rw [hm k hk, if_pos hb, e, nI_1], by omega, fun hlt => ?_⟩
      obtain ⟨⟨mm, mm1, mm2⟩, -⟩ := hC.2.2 k hk
      have := (nI_eq hlt mm1.2).mp (e.symm.trans mm2)
      omega
    · exact ⟨m', by rw [hm k hk, if_neg hb, e], hle, id⟩
  intro w hw
  obtain ⟨w1, ⟨c, m, m', e1, e2, e3, e4, e5⟩, w3⟩ := hW w hw
  obtain ⟨m2, f1, f2, f3⟩ := hup c m m' e1 e4 e5.1
  refine ⟨?_, ⟨c, m, m2, e1, e2, e3, f1, f2, f3 e5.2⟩, w3⟩
  rcases w1 with p | ⟨k, j, p1, p2, p3, p4, p5, m, m', p6, p7, p8⟩
  · exact Or.inl p
  · obtain ⟨m2, f1, f2, -⟩ := hup k m m' p1 p7 p8
    exact Or.inr ⟨k, j, p1, p2, p3, p4, p5, m, m2, p6, f1, f2⟩
theorem burns_sim (h : Rel B nk nb nw st mw ke bo lk lb par mak wea kob nu hek hew clo clm sta) (hB : B < 2 ^ 30) {S : List Nat} (hS : ∀ k, k ∈ S → k < nk) {mak' wea' : Nat → Int32} (hm : ∀ k, k < nk → mak' k = if k ∈ S then mak k + 1 else mak k) {s1 : Nat → Int32} (h3 : s1 3 = nI nw)
    (hK1 : RK s1 nk lk' par mak' wea') (hB1 : RB s1 nb lb' kob) (hcell : ∀ j, 124 ≤ j → s1 j = st j) {wrv1 : Nat → Int32} (hV : LV nw hek hew clo clm sta wrv1 (fun w => DeadC nk nb lk' lb' hek hew w ∨ ∃ k, k ∈ S ∧ (hek w = nI k ∨ clo w = nI k))) :
    ∃ s2, fX8_burns s1 = some s2 ∧ (∀ j, j < 124 → s2 j = s1 j) ∧ LWr nw s2 wrv1 := by
  obtain ⟨h0, ⟨t1, t2, t3, t4, t5, t6, t7, t8⟩, hC, hW, hH, hU, hs, hK, hBx, hR⟩ := h
  obtain ⟨s2, b1, b2, b3⟩ := burns_eq (st := s1) (sta := sta) (hek := hek) (hew := hew) (clo := clo) (clm := clm) t1 t2 hC.1 h3 hK1 hB1 (WI_new hW hB hC hm) (fun w hw => by
    obtain ⟨r0, r1, r2, r3, -⟩ := hR w hw
    exact ⟨by rw [hcell _ (by omega), r0], by rw [hcell _ (by omega), r1], by rw [hcell _ (by omega), r2], by rw [hcell _ (by omega), r3]⟩)
  refine ⟨s2, b1, fun j hj => b2 j (fun w _ => by omega), LW_burnt (st := s1) (lk' := lk') (lb' := lb') (mak := mak') hV (fun w hw => ?_) (fun w hw => ⟨b2 _ (fun w' _ => by omega), b2 _ (fun w' _ => by omega), b2 _ (fun w' _ => by omega), b2 _ (fun w' _ => by omega), b2 _ (fun w' _ => by omega)⟩) b3 (fun w hw hs2 => rburn_iff hB t1 t2 hC hW hH hS hm hw hs2)⟩
  rw [hcell _ (by omega), hcell _ (by omega), hcell _ (by omega), hcell _ (by omega), hcell _ (by omega), hcell _ (by omega)]
  exact hR w hw
end RSIM
