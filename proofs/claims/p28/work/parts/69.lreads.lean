/-! what the law asks, and what the class answers -/
abbrev CRt : Type := ((Nat → Int32) × Int32 × Int32 × Int32 × Int32 × Int32) × (Int32 × Int32) × (Nat → HV) × (Nat → Bool) × (Nat → HV)
theorem n10 : ¬ ((1 : Int32) = 0) := by decide
section LREADS
variable {B nk nb nw : Nat} {st : Nat → Int32} {mw ke bo lk lb nu : Int32} {par mak wea kob hek hew clo clm sta : Nat → Int32}
theorem hasKey_1 {k : Nat} (hk : k < nk) (t1 : nk ≤ 20) : fX5_hasKey (nI nk) (nI k) = 1 := by
  unfold fX5_hasKey
  rw [if_neg (nI_pos (by omega)), if_neg (nI_ge hk (by omega))]
theorem hasBox_1 {k : Nat} (hk : k < nb) (t1 : nb ≤ 20) : fX5_hasBox (nI nb) (nI k) = 1 := by
  unfold fX5_hasBox
  rw [if_neg (nI_pos (by omega)), if_neg (nI_ge hk (by omega))]
theorem isOne_1 {k : Nat} (hk : k < nw) (t1 : nw ≤ 120) : fX6_isOne (nI nw) (nI k) = 1 := by
  unfold fX6_isOne
  rw [if_neg (nI_pos (by omega)), if_neg (nI_ge hk (by omega))]
theorem arePlaces_1 {p : Nat} (hp : p < 8) : fX7_arePlaces (nI p) = 1 := by
  unfold fX7_arePlaces
  rw [if_neg (nI_pos (by omega)), if_neg (show ¬ (7 : Int32) < nI p from nI_nlt (b := p) (a := 7) (by omega) (by omega))]
theorem oneIf_bit {b : Bool} : fX7_oneIf (if b = true then 1 else 0) = if b = true then 1 else 0 := by
  cases b <;> rfl
theorem r_ofKey0 (h : Rel B nk nb nw st mw ke bo lk lb par mak wea kob nu hek hew clo clm sta) {k : Nat} (hk : k < nk) (o : (Nat → Int32) × (Nat → Int32)) (R : CRt) : sX7_ofKey ((mw, ke, bo, lk, lb, par, mak, wea, kob, nu, hek, hew, clo, clm, sta), o, R) (nI k) 0 = some (par k, ((mw, ke, bo, lk, lb, par, mak, wea, kob, nu, hek, hew, clo, clm, sta), o, R)) := by
  obtain ⟨⟨rfl, rfl, rfl⟩, ⟨t1, t2, t3, t4, t5, t6, t7, t8⟩, ⟨c1, ⟨m0, m1, m2, rfl⟩, c3⟩, hW, hH, hU, ⟨s0, s1, s2, s3⟩, hK, hBx, hR⟩ := id h
  unfold sX7_ofKey
  dsimp only
  unfold fX7_ofKey
  rw [hasKey_1 hk t1, if_neg n10, if_pos rfl]
  unfold fX5_parentOf
  rw [rAt_nI (by omega) (by omega)]
  rfl
theorem r_ofKey1 (h : Rel B nk nb nw st mw ke bo lk lb par mak wea kob nu hek hew clo clm sta) {k : Nat} (hk : k < nk) (o : (Nat → Int32) × (Nat → Int32)) (R : CRt) : sX7_ofKey ((mw, ke, bo, lk, lb, par, mak, wea, kob, nu, hek, hew, clo, clm, sta), o, R) (nI k) 1 = some (if bt lk k = true then 1 else 0, ((mw, ke, bo, lk, lb, par, mak, wea, kob, nu, hek, hew, clo, clm, sta), o, R)) := by
  obtain ⟨⟨rfl, rfl, rfl⟩, ⟨t1, t2, t3, t4, t5, t6, t7, t8⟩, ⟨c1, ⟨m0, m1, m2, rfl⟩, c3⟩, hW, hH, hU, ⟨s0, s1, s2, s3⟩, hK, hBx, hR⟩ := id h
  unfold sX7_ofKey
  dsimp only
  unfold fX7_ofKey
  rw [hasKey_1 hk t1, if_neg n10, if_neg (show ¬ ((1 : Int32) = 0) by decide), if_pos rfl]
  unfold fX5_isLiveKey
  rw [has_nI (by omega), oneIf_bit]
  rfl
theorem r_ofKey2 (h : Rel B nk nb nw st mw ke bo lk lb par mak wea kob nu hek hew clo clm sta) {k : Nat} (hk : k < nk) (o : (Nat → Int32) × (Nat → Int32)) (R : CRt) : sX7_ofKey ((mw, ke, bo, lk, lb, par, mak, wea, kob, nu, hek, hew, clo, clm, sta), o, R) (nI k) 2 = some (mak k, ((mw, ke, bo, lk, lb, par, mak, wea, kob, nu, hek, hew, clo, clm, sta), o, R)) := by
  obtain ⟨⟨rfl, rfl, rfl⟩, ⟨t1, t2, t3, t4, t5, t6, t7, t8⟩, ⟨c1, ⟨m0, m1, m2, rfl⟩, c3⟩, hW, hH, hU, ⟨s0, s1, s2, s3⟩, hK, hBx, hR⟩ := id h
  unfold sX7_ofKey
  dsimp only
  unfold fX7_ofKey
  rw [hasKey_1 hk t1, if_neg n10, if_neg (show ¬ ((2 : Int32) = 0) by decide), if_neg (show ¬ ((2 : Int32) = 1) by decide), if_pos rfl]
  unfold fX5_makeOf
  rw [rAt_nI (by omega) (by omega)]
  rfl
theorem r_ofKey3 (h : Rel B nk nb nw st mw ke bo lk lb par mak wea kob nu hek hew clo clm sta) {k : Nat} (hk : k < nk) (o : (Nat → Int32) × (Nat → Int32)) (R : CRt) : sX7_ofKey ((mw, ke, bo, lk, lb, par, mak, wea, kob, nu, hek, hew, clo, clm, sta), o, R) (nI k) 3 = some (wea k, ((mw, ke, bo, lk, lb, par, mak, wea, kob, nu, hek, hew, clo, clm, sta), o, R)) := by
  obtain ⟨⟨rfl, rfl, rfl⟩, ⟨t1, t2, t3, t4, t5, t6, t7, t8⟩, ⟨c1, ⟨m0, m1, m2, rfl⟩, c3⟩, hW, hH, hU, ⟨s0, s1, s2, s3⟩, hK, hBx, hR⟩ := id h
  unfold sX7_ofKey
  dsimp only
  unfold fX7_ofKey
  rw [hasKey_1 hk t1, if_neg n10, if_neg (show ¬ ((3 : Int32) = 0) by decide), if_neg (show ¬ ((3 : Int32) = 1) by decide), if_neg (show ¬ ((3 : Int32) = 2) by decide), if_pos rfl]
  unfold fX5_wearOf
  rw [rAt_nI (by omega) (by omega)]
  rfl
theorem r_ofKey4 (h : Rel B nk nb nw st mw ke bo lk lb par mak wea kob nu hek hew clo clm sta) {k : Nat} (hk : k < nk) {m : Int32} (hm : ∀ j, j < 32 → bt m j = (decide (j < nk) && decide (par j = nI k) && bt lk j)) (o : (Nat → Int32) × (Nat → Int32)) (R : CRt) : sX7_ofKey ((mw, ke, bo, lk, lb, par, mak, wea, kob, nu, hek, hew, clo, clm, sta), o, R) (nI k) 4 = some (m, ((mw, ke, bo, lk, lb, par, mak, wea, kob, nu, hek, hew, clo, clm, sta), o, R)) := by
  obtain ⟨⟨rfl, rfl, rfl⟩, ⟨t1, t2, t3, t4, t5, t6, t7, t8⟩, ⟨c1, ⟨m0, m1, m2, rfl⟩, c3⟩, hW, hH, hU, ⟨s0, s1, s2, s3⟩, hK, hBx, hR⟩ := id h
  obtain ⟨v, g1, g2⟩ := liveKeysOn_eq (liveK := lk) (par := par) t1 (fX7_setOf (nI k))
  have e : v = m := b_ext (fun i hi => by
    rw [g2 i hi, hm i hi]
    by_cases hin : i < nk
    · rw [hs_set (by omega) (PT32 t3 t1 i hin)]
    · simp [hin])
  subst e
  unfold sX7_ofKey
  dsimp only
  unfold fX7_ofKey
  rw [hasKey_1 hk t1, if_neg n10, if_neg (show ¬ ((4 : Int32) = 0) by decide), if_neg (show ¬ ((4 : Int32) = 1) by decide), if_neg (show ¬ ((4 : Int32) = 2) by decide), if_neg (show ¬ ((4 : Int32) = 3) by decide), if_pos rfl, g1]
  rfl
theorem r_ofKey5 (h : Rel B nk nb nw st mw ke bo lk lb par mak wea kob nu hek hew clo clm sta) {k : Nat} (hk : k < nk) {m : Int32} (hm : ∀ j, j < 32 → bt m j = (decide (j < nb) && decide (kob j = nI k) && bt lb j)) (o : (Nat → Int32) × (Nat → Int32)) (R : CRt) : sX7_ofKey ((mw, ke, bo, lk, lb, par, mak, wea, kob, nu, hek, hew, clo, clm, sta), o, R) (nI k) 5 = some (m, ((mw, ke, bo, lk, lb, par, mak, wea, kob, nu, hek, hew, clo, clm, sta), o, R)) := by
  obtain ⟨⟨rfl, rfl, rfl⟩, ⟨t1, t2, t3, t4, t5, t6, t7, t8⟩, ⟨c1, ⟨m0, m1, m2, rfl⟩, c3⟩, hW, hH, hU, ⟨s0, s1, s2, s3⟩, hK, hBx, hR⟩ := id h
  obtain ⟨v, g1, g2⟩ := liveBoxesOn_eq (liveB := lb) (kob := kob) t2 (fX7_setOf (nI k))
  have e : v = m := b_ext (fun i hi => by
    rw [g2 i hi, hm i hi]
    by_cases hin : i < nb
    · rw [hs_set (by omega) (KB32 t4 t1 i hin)]
    · simp [hin])
  subst e
  unfold sX7_ofKey
  dsimp only
  unfold fX7_ofKey
  rw [hasKey_1 hk t1, if_neg n10, if_neg (show ¬ ((5 : Int32) = 0) by decide), if_neg (show ¬ ((5 : Int32) = 1) by decide), if_neg (show ¬ ((5 : Int32) = 2) by decide), if_neg (show ¬ ((5 : Int32) = 3) by decide), if_neg (show ¬ ((5 : Int32) = 4) by decide), if_pos rfl, g1]
  rfl
theorem r_lost (h : Rel B nk nb nw st mw ke bo lk lb par mak wea kob nu hek hew clo clm sta) {k : Nat} (hk : k < nk) {m : Int32} (hm : ∀ j, j < 32 → bt m j = (decide (j < nb) && decide (k ∈ up par (kob j)) && bt lb j)) (o : (Nat → Int32) × (Nat → Int32)) (R : CRt) : sX7_lostBy ((mw, ke, bo, lk, lb, par, mak, wea, kob, nu, hek, hew, clo, clm, sta), o, R) (nI k) = some (if bt lk k = true then m else -1, ((mw, ke, bo, lk, lb, par, mak, wea, kob, nu, hek, hew, clo, clm, sta), o, R)) := by
  obtain ⟨⟨rfl, rfl, rfl⟩, ⟨t1, t2, t3, t4, t5, t6, t7, t8⟩, ⟨c1, ⟨m0, m1, m2, rfl⟩, c3⟩, hW, hH, hU, ⟨s0, s1, s2, s3⟩, hK, hBx, hR⟩ := id h
  obtain ⟨v1, g1, g2⟩ := below_eq t3 t1 hk
  obtain ⟨v, g3, g4⟩ := liveBoxesOn_eq (liveB := lb) (kob := kob) t2 v1
  have e : v = m := b_ext (fun i hi => by
    rw [g4 i hi, hm i hi]
    by_cases hin : i < nb
    · obtain ⟨j, hj, ej⟩ := t4 i hin
      rw [ej, hs_nI (by omega), g2 j (by omega)]
      simp [hj]
    · simp [hin])
  subst e
  unfold sX7_lostBy
  dsimp only
  unfold fX7_lostBy fX5_isLiveKey
  rw [has_nI (by omega)]
  by_cases hl : bt lk k = true
  · rw [if_pos hl, if_pos hl, if_neg n10, g1, Option.bind_some, g3]
    rfl
  · rw [if_neg hl, if_neg hl, if_pos rfl]
    rfl
theorem r_ofBox0 (h : Rel B nk nb nw st mw ke bo lk lb par mak wea kob nu hek hew clo clm sta) {b : Nat} (hb : b < nb) (o : (Nat → Int32) × (Nat → Int32)) (R : CRt) : sX7_ofBox ((mw, ke, bo, lk, lb, par, mak, wea, kob, nu, hek, hew, clo, clm, sta), o, R) (nI b) 0 = some (kob b, ((mw, ke, bo, lk, lb, par, mak, wea, kob, nu, hek, hew, clo, clm, sta), o, R)) := by
  obtain ⟨⟨rfl, rfl, rfl⟩, ⟨t1, t2, t3, t4, t5, t6, t7, t8⟩, ⟨c1, ⟨m0, m1, m2, rfl⟩, c3⟩, hW, hH, hU, ⟨s0, s1, s2, s3⟩, hK, hBx, hR⟩ := id h
  unfold sX7_ofBox
  dsimp only
  unfold fX7_ofBox fX5_keyOfBox
  rw [hasBox_1 hb t2, if_neg n10, if_pos rfl, rAt_nI (by omega) (by omega)]
  rfl
theorem r_ofBox1 (h : Rel B nk nb nw st mw ke bo lk lb par mak wea kob nu hek hew clo clm sta) {b : Nat} (hb : b < nb) (o : (Nat → Int32) × (Nat → Int32)) (R : CRt) : sX7_ofBox ((mw, ke, bo, lk, lb, par, mak, wea, kob, nu, hek, hew, clo, clm, sta), o, R) (nI b) 1 = some (if bt lb b = true then 1 else 0, ((mw, ke, bo, lk, lb, par, mak, wea, kob, nu, hek, hew, clo, clm, sta), o, R)) := by
  obtain ⟨⟨rfl, rfl, rfl⟩, ⟨t1, t2, t3, t4, t5, t6, t7, t8⟩, ⟨c1, ⟨m0, m1, m2, rfl⟩, c3⟩, hW, hH, hU, ⟨s0, s1, s2, s3⟩, hK, hBx, hR⟩ := id h
  unfold sX7_ofBox
  dsimp only
  unfold fX7_ofBox fX5_isLiveBox
  rw [hasBox_1 hb t2, if_neg n10, if_neg n10, if_pos rfl, has_nI (by omega), oneIf_bit]
  rfl
theorem r_wrap0 (h : Rel B nk nb nw st mw ke bo lk lb par mak wea kob nu hek hew clo clm sta) {w : Nat} (hw : w < nw) (o : (Nat → Int32) × (Nat → Int32)) (R : CRt) : sX7_wrap ((mw, ke, bo, lk, lb, par, mak, wea, kob, nu, hek, hew, clo, clm, sta), o, R) (nI w) 0 = some (hek w, ((mw, ke, bo, lk, lb, par, mak, wea, kob, nu, hek, hew, clo, clm, sta), o, R)) := by
  obtain ⟨⟨rfl, rfl, rfl⟩, ⟨t1, t2, t3, t4, t5, t6, t7, t8⟩, ⟨c1, ⟨m0, m1, m2, rfl⟩, c3⟩, hW, hH, hU, ⟨s0, s1, s2, s3⟩, hK, hBx, hR⟩ := id h
  unfold sX7_wrap
  dsimp only
  unfold fX7_wrap
  rw [isOne_1 hw c1, if_neg n10, if_pos rfl]
  unfold fX6_heldKey
  rw [rAt_nI (by omega) (by omega)]
theorem r_wrap1 (h : Rel B nk nb nw st mw ke bo lk lb par mak wea kob nu hek hew clo clm sta) {w : Nat} (hw : w < nw) (o : (Nat → Int32) × (Nat → Int32)) (R : CRt) : sX7_wrap ((mw, ke, bo, lk, lb, par, mak, wea, kob, nu, hek, hew, clo, clm, sta), o, R) (nI w) 1 = some (hew w, ((mw, ke, bo, lk, lb, par, mak, wea, kob, nu, hek, hew, clo, clm, sta), o, R)) := by
  obtain ⟨⟨rfl, rfl, rfl⟩, ⟨t1, t2, t3, t4, t5, t6, t7, t8⟩, ⟨c1, ⟨m0, m1, m2, rfl⟩, c3⟩, hW, hH, hU, ⟨s0, s1, s2, s3⟩, hK, hBx, hR⟩ := id h
  unfold sX7_wrap
  dsimp only
  unfold fX7_wrap
  rw [isOne_1 hw c1, if_neg n10, if_neg (show ¬ ((1 : Int32) = 0) by decide), if_pos rfl]
  unfold fX6_heldWhat
  rw [rAt_nI (by omega) (by omega)]
theorem r_wrap2 (h : Rel B nk nb nw st mw ke bo lk lb par mak wea kob nu hek hew clo clm sta) {w : Nat} (hw : w < nw) (o : (Nat → Int32) × (Nat → Int32)) (R : CRt) : sX7_wrap ((mw, ke, bo, lk, lb, par, mak, wea, kob, nu, hek, hew, clo, clm, sta), o, R) (nI w) 2 = some (clo w, ((mw, ke, bo, lk, lb, par, mak, wea, kob, nu, hek, hew, clo, clm, sta), o, R)) := by
  obtain ⟨⟨rfl, rfl, rfl⟩, ⟨t1, t2, t3, t4, t5, t6, t7, t8⟩, ⟨c1, ⟨m0, m1, m2, rfl⟩, c3⟩, hW, hH, hU, ⟨s0, s1, s2, s3⟩, hK, hBx, hR⟩ := id h
  unfold sX7_wrap
  dsimp only
  unfold fX7_wrap
  rw [isOne_1 hw c1, if_neg n10, if_neg (show ¬ ((2 : Int32) = 0) by decide), if_neg (show ¬ ((2 : Int32) = 1) by decide), if_pos rfl]
  unfold fX6_closer
  rw [rAt_nI (by omega) (by omega)]
theorem r_wrap3 (h : Rel B nk nb nw st mw ke bo lk lb par mak wea kob nu hek hew clo clm sta) {w : Nat} (hw : w < nw) (o : (Nat → Int32) × (Nat → Int32)) (R : CRt) : sX7_wrap ((mw, ke, bo, lk, lb, par, mak, wea, kob, nu, hek, hew, clo, clm, sta), o, R) (nI w) 3 = some (clm w, ((mw, ke, bo, lk, lb, par, mak, wea, kob, nu, hek, hew, clo, clm, sta), o, R)) := by
  obtain ⟨⟨rfl, rfl, rfl⟩, ⟨t1, t2, t3, t4, t5, t6, t7, t8⟩, ⟨c1, ⟨m0, m1, m2, rfl⟩, c3⟩, hW, hH, hU, ⟨s0, s1, s2, s3⟩, hK, hBx, hR⟩ := id h
  unfold sX7_wrap
  dsimp only
  unfold fX7_wrap
  rw [isOne_1 hw c1, if_neg n10, if_neg (show ¬ ((3 : Int32) = 0) by decide), if_neg (show ¬ ((3 : Int32) = 1) by decide), if_neg (show ¬ ((3 : Int32) = 2) by decide), if_pos rfl]
  unfold fX6_closerMake
  rw [rAt_nI (by omega) (by omega)]
theorem r_wrap4 (h : Rel B nk nb nw st mw ke bo lk lb par mak wea kob nu hek hew clo clm sta) {w : Nat} (hw : w < nw) (o : (Nat → Int32) × (Nat → Int32)) (R : CRt) : sX7_wrap ((mw, ke, bo, lk, lb, par, mak, wea, kob, nu, hek, hew, clo, clm, sta), o, R) (nI w) 4 = some (if bt (sta w) 3 = true then 1 else 0, ((mw, ke, bo, lk, lb, par, mak, wea, kob, nu, hek, hew, clo, clm, sta), o, R)) := by
  obtain ⟨⟨rfl, rfl, rfl⟩, ⟨t1, t2, t3, t4, t5, t6, t7, t8⟩, ⟨c1, ⟨m0, m1, m2, rfl⟩, c3⟩, hW, hH, hU, ⟨s0, s1, s2, s3⟩, hK, hBx, hR⟩ := id h
  unfold sX7_wrap
  dsimp only
  unfold fX7_wrap
  rw [isOne_1 hw c1, if_neg n10, if_neg (show ¬ ((4 : Int32) = 0) by decide), if_neg (show ¬ ((4 : Int32) = 1) by decide), if_neg (show ¬ ((4 : Int32) = 2) by decide), if_neg (show ¬ ((4 : Int32) = 3) by decide), if_pos rfl]
  rw [stands_8 (by omega), oneIf_bit]
theorem r_wrap5 (h : Rel B nk nb nw st mw ke bo lk lb par mak wea kob nu hek hew clo clm sta) {w : Nat} (hw : w < nw) (o : (Nat → Int32) × (Nat → Int32)) (R : CRt) : sX7_wrap ((mw, ke, bo, lk, lb, par, mak, wea, kob, nu, hek, hew, clo, clm, sta), o, R) (nI w) 5 = some (sta w &&& 7, ((mw, ke, bo, lk, lb, par, mak, wea, kob, nu, hek, hew, clo, clm, sta), o, R)) := by
  obtain ⟨⟨rfl, rfl, rfl⟩, ⟨t1, t2, t3, t4, t5, t6, t7, t8⟩, ⟨c1, ⟨m0, m1, m2, rfl⟩, c3⟩, hW, hH, hU, ⟨s0, s1, s2, s3⟩, hK, hBx, hR⟩ := id h
  unfold sX7_wrap
  dsimp only
  unfold fX7_wrap
  rw [isOne_1 hw c1, if_neg n10, if_neg (show ¬ ((5 : Int32) = 0) by decide), if_neg (show ¬ ((5 : Int32) = 1) by decide), if_neg (show ¬ ((5 : Int32) = 2) by decide), if_neg (show ¬ ((5 : Int32) = 3) by decide), if_neg (show ¬ ((5 : Int32) = 4) by decide), if_pos rfl]
  unfold fX6_placesOf
  rw [rAt_nI (by omega) (by omega)]
theorem r_count0 (h : Rel B nk nb nw st mw ke bo lk lb par mak wea kob nu hek hew clo clm sta) (o : (Nat → Int32) × (Nat → Int32)) (R : CRt) : sX7_count ((mw, ke, bo, lk, lb, par, mak, wea, kob, nu, hek, hew, clo, clm, sta), o, R) 0 = some (nI nk, ((mw, ke, bo, lk, lb, par, mak, wea, kob, nu, hek, hew, clo, clm, sta), o, R)) := by
  obtain ⟨⟨rfl, rfl, rfl⟩, ⟨t1, t2, t3, t4, t5, t6, t7, t8⟩, ⟨c1, ⟨m0, m1, m2, rfl⟩, c3⟩, hW, hH, hU, ⟨s0, s1, s2, s3⟩, hK, hBx, hR⟩ := id h
  unfold sX7_count
  dsimp only
  unfold fX7_count
  rw [if_pos rfl]
  rfl
theorem r_count1 (h : Rel B nk nb nw st mw ke bo lk lb par mak wea kob nu hek hew clo clm sta) (o : (Nat → Int32) × (Nat → Int32)) (R : CRt) : sX7_count ((mw, ke, bo, lk, lb, par, mak, wea, kob, nu, hek, hew, clo, clm, sta), o, R) 1 = some (nI (fb_ct (bt lk) nk), ((mw, ke, bo, lk, lb, par, mak, wea, kob, nu, hek, hew, clo, clm, sta), o, R)) := by
  obtain ⟨⟨rfl, rfl, rfl⟩, ⟨t1, t2, t3, t4, t5, t6, t7, t8⟩, ⟨c1, ⟨m0, m1, m2, rfl⟩, c3⟩, hW, hH, hU, ⟨s0, s1, s2, s3⟩, hK, hBx, hR⟩ := id h
  unfold sX7_count
  dsimp only
  unfold fX7_count
  rw [if_neg (show ¬ ((1 : Int32) = 0) by decide), if_pos rfl, count_20 (fun i hi => t5 i (by omega)), ct_low t1 t5]
  rfl
theorem r_count2 (h : Rel B nk nb nw st mw ke bo lk lb par mak wea kob nu hek hew clo clm sta) (o : (Nat → Int32) × (Nat → Int32)) (R : CRt) : sX7_count ((mw, ke, bo, lk, lb, par, mak, wea, kob, nu, hek, hew, clo, clm, sta), o, R) 2 = some (nI nb, ((mw, ke, bo, lk, lb, par, mak, wea, kob, nu, hek, hew, clo, clm, sta), o, R)) := by
  obtain ⟨⟨rfl, rfl, rfl⟩, ⟨t1, t2, t3, t4, t5, t6, t7, t8⟩, ⟨c1, ⟨m0, m1, m2, rfl⟩, c3⟩, hW, hH, hU, ⟨s0, s1, s2, s3⟩, hK, hBx, hR⟩ := id h
  unfold sX7_count
  dsimp only
  unfold fX7_count
  rw [if_neg (show ¬ ((2 : Int32) = 0) by decide), if_neg (show ¬ ((2 : Int32) = 1) by decide), if_pos rfl]
  rfl
theorem r_count3 (h : Rel B nk nb nw st mw ke bo lk lb par mak wea kob nu hek hew clo clm sta) (o : (Nat → Int32) × (Nat → Int32)) (R : CRt) : sX7_count ((mw, ke, bo, lk, lb, par, mak, wea, kob, nu, hek, hew, clo, clm, sta), o, R) 3 = some (nI (fb_ct (bt lb) nb), ((mw, ke, bo, lk, lb, par, mak, wea, kob, nu, hek, hew, clo, clm, sta), o, R)) := by
  obtain ⟨⟨rfl, rfl, rfl⟩, ⟨t1, t2, t3, t4, t5, t6, t7, t8⟩, ⟨c1, ⟨m0, m1, m2, rfl⟩, c3⟩, hW, hH, hU, ⟨s0, s1, s2, s3⟩, hK, hBx, hR⟩ := id h
  unfold sX7_count
  dsimp only
  unfold fX7_count
  rw [if_neg (show ¬ ((3 : Int32) = 0) by decide), if_neg (show ¬ ((3 : Int32) = 1) by decide), if_neg (show ¬ ((3 : Int32) = 2) by decide), if_pos rfl, count_20 (fun i hi => t6 i (by omega)), ct_low t2 t6]
  rfl
theorem r_count4 (h : Rel B nk nb nw st mw ke bo lk lb par mak wea kob nu hek hew clo clm sta) (o : (Nat → Int32) × (Nat → Int32)) (R : CRt) : sX7_count ((mw, ke, bo, lk, lb, par, mak, wea, kob, nu, hek, hew, clo, clm, sta), o, R) 4 = some (nI nw, ((mw, ke, bo, lk, lb, par, mak, wea, kob, nu, hek, hew, clo, clm, sta), o, R)) := by
  obtain ⟨⟨rfl, rfl, rfl⟩, ⟨t1, t2, t3, t4, t5, t6, t7, t8⟩, ⟨c1, ⟨m0, m1, m2, rfl⟩, c3⟩, hW, hH, hU, ⟨s0, s1, s2, s3⟩, hK, hBx, hR⟩ := id h
  unfold sX7_count
  dsimp only
  unfold fX7_count
  rw [if_neg (show ¬ ((4 : Int32) = 0) by decide), if_neg (show ¬ ((4 : Int32) = 1) by decide), if_neg (show ¬ ((4 : Int32) = 2) by decide), if_neg (show ¬ ((4 : Int32) = 3) by decide), if_pos rfl]
  rfl
theorem r_count5 (h : Rel B nk nb nw st mw ke bo lk lb par mak wea kob nu hek hew clo clm sta) (o : (Nat → Int32) × (Nat → Int32)) (R : CRt) : sX7_count ((mw, ke, bo, lk, lb, par, mak, wea, kob, nu, hek, hew, clo, clm, sta), o, R) 5 = some (nI (fb_sm (fun i => if bt (sta i) 3 = true then 1 else 0) nw), ((mw, ke, bo, lk, lb, par, mak, wea, kob, nu, hek, hew, clo, clm, sta), o, R)) := by
  obtain ⟨⟨rfl, rfl, rfl⟩, ⟨t1, t2, t3, t4, t5, t6, t7, t8⟩, ⟨c1, ⟨m0, m1, m2, rfl⟩, c3⟩, hW, hH, hU, ⟨s0, s1, s2, s3⟩, hK, hBx, hR⟩ := id h
  unfold sX7_count
  dsimp only
  unfold fX7_count
  rw [if_neg (show ¬ ((5 : Int32) = 0) by decide), if_neg (show ¬ ((5 : Int32) = 1) by decide), if_neg (show ¬ ((5 : Int32) = 2) by decide), if_neg (show ¬ ((5 : Int32) = 3) by decide), if_neg (show ¬ ((5 : Int32) = 4) by decide), if_pos rfl, standingIn_eq c1 (fun i hi => by rw [← set_3]; exact count_set (by omega) _)]
  rfl
theorem r_count6 (h : Rel B nk nb nw st mw ke bo lk lb par mak wea kob nu hek hew clo clm sta) (o : (Nat → Int32) × (Nat → Int32)) (R : CRt) : sX7_count ((mw, ke, bo, lk, lb, par, mak, wea, kob, nu, hek, hew, clo, clm, sta), o, R) 6 = some (nI (fb_sm (fun i => fb_ct (bt (sta i &&& 7)) 20) nw), ((mw, ke, bo, lk, lb, par, mak, wea, kob, nu, hek, hew, clo, clm, sta), o, R)) := by
  obtain ⟨⟨rfl, rfl, rfl⟩, ⟨t1, t2, t3, t4, t5, t6, t7, t8⟩, ⟨c1, ⟨m0, m1, m2, rfl⟩, c3⟩, hW, hH, hU, ⟨s0, s1, s2, s3⟩, hK, hBx, hR⟩ := id h
  have h7 : ∀ x : Int32, ∀ i, 20 ≤ i → bt (x &&& 7) i = false := fun x i hi => by rw [b_and, b_7, decide_eq_false (by omega), Bool.and_false]
  unfold sX7_count
  dsimp only
  unfold fX7_count
  rw [if_neg (show ¬ ((6 : Int32) = 0) by decide), if_neg (show ¬ ((6 : Int32) = 1) by decide), if_neg (show ¬ ((6 : Int32) = 2) by decide), if_neg (show ¬ ((6 : Int32) = 3) by decide), if_neg (show ¬ ((6 : Int32) = 4) by decide), if_neg (show ¬ ((6 : Int32) = 5) by decide), if_pos rfl, standingIn_eq c1 (fun i hi => count_20 (h7 _))]
  rfl
theorem r_count7 (h : Rel B nk nb nw st mw ke bo lk lb par mak wea kob nu hek hew clo clm sta) (o : (Nat → Int32) × (Nat → Int32)) (R : CRt) : sX7_count ((mw, ke, bo, lk, lb, par, mak, wea, kob, nu, hek, hew, clo, clm, sta), o, R) 7 = some (mw, ((mw, ke, bo, lk, lb, par, mak, wea, kob, nu, hek, hew, clo, clm, sta), o, R)) := by
  obtain ⟨⟨rfl, rfl, rfl⟩, ⟨t1, t2, t3, t4, t5, t6, t7, t8⟩, ⟨c1, ⟨m0, m1, m2, rfl⟩, c3⟩, hW, hH, hU, ⟨s0, s1, s2, s3⟩, hK, hBx, hR⟩ := id h
  unfold sX7_count
  dsimp only
  unfold fX7_count
  rw [if_neg (show ¬ ((7 : Int32) = 0) by decide), if_neg (show ¬ ((7 : Int32) = 1) by decide), if_neg (show ¬ ((7 : Int32) = 2) by decide), if_neg (show ¬ ((7 : Int32) = 3) by decide), if_neg (show ¬ ((7 : Int32) = 4) by decide), if_neg (show ¬ ((7 : Int32) = 5) by decide), if_neg (show ¬ ((7 : Int32) = 6) by decide), if_pos rfl]
  rfl
theorem r_count8 (h : Rel B nk nb nw st mw ke bo lk lb par mak wea kob nu hek hew clo clm sta) {m : Int32} (hm : ∀ j, j < 32 → bt m j = (decide (j < nk) && decide (mw ≤ wea j) && bt lk j)) (o : (Nat → Int32) × (Nat → Int32)) (R : CRt) : sX7_count ((mw, ke, bo, lk, lb, par, mak, wea, kob, nu, hek, hew, clo, clm, sta), o, R) 8 = some (m, ((mw, ke, bo, lk, lb, par, mak, wea, kob, nu, hek, hew, clo, clm, sta), o, R)) := by
  obtain ⟨⟨rfl, rfl, rfl⟩, ⟨t1, t2, t3, t4, t5, t6, t7, t8⟩, ⟨c1, ⟨m0, m1, m2, rfl⟩, c3⟩, hW, hH, hU, ⟨s0, s1, s2, s3⟩, hK, hBx, hR⟩ := id h
  obtain ⟨a1, g1, g2⟩ := mask_loop (n := nk) (fun fuel acc i => fX5_wornKeys_b4 fuel (nI m0) (nI nk) lk wea acc (nI i)) (fun acc => some (acc &&& lk)) (fun j => decide (fX5_leftToClose (nI m0) wea (nI j) = 0))
    (fun fuel acc => by show fX5_wornKeys_b4 _ _ _ _ _ _ _ = _; rw [fX5_wornKeys_b4, if_pos (nI_le (Nat.le_refl _) (by omega))])
    (fun fuel acc i hi => by
      show ∃ acc', _ ∧ fX5_wornKeys_b4 _ _ _ _ _ _ _ = _
      rw [fX5_wornKeys_b4, if_neg (nI_ge hi (by omega)), nI_1]
      by_cases hc : fX5_leftToClose (nI m0) wea (nI i) = 0
      · rw [if_pos hc]
        exact ⟨_, acc_in (by omega) (by simp [hc]), rfl⟩
      · rw [if_neg hc]
        exact ⟨acc, acc_out (by simp [hc]), rfl⟩) 6000 0 0 (by omega) (by omega)
  have g1' : fX5_wornKeys (nI m0) (nI nk) lk wea = some (a1 &&& lk) := g1
  have e : a1 &&& lk = m := b_ext (fun i hi => by
    rw [b_and, g2 i hi, hm i hi, b_0]
    by_cases hin : i < nk
    · obtain ⟨-, x, x1, x2⟩ := c3 i hin
      obtain ⟨l1, -⟩ := left_both (mw := nI m0) (wea := wea) (st := st) (k := i) (by omega) m2 (by omega : x ≤ 120) rfl x2 s0 (hK i hin).2.2.2
      have ex : (nI (m0 - x) = 0) ↔ (nI m0 ≤ wea i) := by
        rw [left_z m2, x2, nI_leI (by omega) (by omega)]
      rw [l1]
      simp only [hin, Nat.zero_le, true_and, decide_true, Bool.true_and, Bool.false_or, ex]
    · simp [hin])
  subst e
  unfold sX7_count
  dsimp only
  unfold fX7_count
  rw [if_neg (show ¬ ((8 : Int32) = 0) by decide), if_neg (show ¬ ((8 : Int32) = 1) by decide), if_neg (show ¬ ((8 : Int32) = 2) by decide), if_neg (show ¬ ((8 : Int32) = 3) by decide), if_neg (show ¬ ((8 : Int32) = 4) by decide), if_neg (show ¬ ((8 : Int32) = 5) by decide), if_neg (show ¬ ((8 : Int32) = 6) by decide), if_neg (show ¬ ((8 : Int32) = 7) by decide), if_pos rfl, g1']
  rfl
/-- from the safe and some places -/
theorem safe_fix (h : Rel B nk nb nw st mw ke bo lk lb par mak wea kob nu hek hew clo clm sta) (sm op0 : Nat → Int32) {p : Nat} (hp : p < 8) (y3 : Int32) : ∃ sm' oC, fX2_startFromSafe sm lk par mak = some sm' ∧ fX2_openAll sm' op0 nu hek hew clo clm sta (nI p ||| 8) = some oC ∧ Bin nw oC ∧ Fix (SR nk lk par mak (-6) y3) (CR sta (nI p) (-6)) nw hek hew clo clm oC ∧ ∀ k, k < 20 → sm' k = if bt lk k = true ∧ par k = -6 then mak k else -6 := by
  obtain ⟨⟨rfl, rfl, rfl⟩, ⟨t1, t2, t3, t4, t5, t6, t7, t8⟩, ⟨c1, ⟨m0, m1, m2, rfl⟩, c3⟩, hW, hH, hU, ⟨s0, s1, s2, s3⟩, hK, hBx, hR⟩ := id h
  obtain ⟨sm', e1, e2⟩ := start_safe (lk := lk) (par := par) (mak := mak) sm
  obtain ⟨oC, g1, g2, g3⟩ := openAll_eq t1 c1 hW sm' op0 (nI p ||| 8)
  refine ⟨sm', oC, e1, g1, g2, g3.congr (fun w hw => ?_) (fun w hw => SC_safe t5 t1 e2 (clm_ne hW hw)), e2⟩
  obtain ⟨s, hs, es⟩ := low16 hW hw
  have := cand_8 s hs p hp
  unfold CR
  rw [es, this]
  constructor
  · intro q
    by_cases h1 : (nI s &&& 7) &&& nI p = 0
    · right
      refine ⟨rfl, ?_⟩
      rcases Bool.eq_false_or_eq_true (bt (nI s) 3) with h2 | h2
      · exact h2
      · exact absurd ⟨h1, h2⟩ q
    · exact Or.inl h1
  · rintro (q | ⟨-, q⟩) ⟨r1, r2⟩
    · exact q r1
    · rw [q] at r2; cases r2
theorem leak_fix (h : Rel B nk nb nw st mw ke bo lk lb par mak wea kob nu hek hew clo clm sta) (sm op0 : Nat → Int32) {k p : Nat} (hk : k < nk) (m0' : Int32) (hp : p < 8) : ∃ oC, fX2_openAll (rSet 20 (rFill 20 sm (-6)) (nI k) m0') op0 nu hek hew clo clm sta (nI p) = some oC ∧ Bin nw oC ∧ Fix (SR nk lk par mak (nI k) m0') (CR sta (nI p) (nI k)) nw hek hew clo clm oC := by
  obtain ⟨⟨rfl, rfl, rfl⟩, ⟨t1, t2, t3, t4, t5, t6, t7, t8⟩, ⟨c1, ⟨m0, m1, m2, rfl⟩, c3⟩, hW, hH, hU, ⟨s0, s1, s2, s3⟩, hK, hBx, hR⟩ := id h
  have hsm : ∀ j, j < 20 → rSet 20 (rFill 20 sm (-6)) (nI k) m0' j = if j = k then m0' else -6 := fun j hj => by
    rw [rSet_nI (by omega) (by omega)]
    by_cases hjk : j = k
    · subst hjk; rw [pk_us, if_pos rfl]
    · rw [pk_un hjk, if_neg hjk]
      unfold rFill
      exact if_pos hj
  obtain ⟨oC, g1, g2, g3⟩ := openAll_eq t1 c1 hW (rSet 20 (rFill 20 sm (-6)) (nI k) m0') op0 (nI p)
  refine ⟨oC, g1, g2, g3.congr (fun w hw => ?_) (fun w hw => SC_leak (by omega) rfl hsm (clm_ne hW hw))⟩
  obtain ⟨s, hs, es⟩ := low16 hW hw
  have := cand_0 s hs p hp
  unfold CR
  rw [es, this]
  exact ⟨Or.inl, fun q => q.elim id (fun r => absurd r.1 (nI_ne6 (by omega)))⟩
theorem openedB_eq (c1 : nw ≤ 120) (t2 : nb ≤ 20) (hk20 : nk ≤ 20) (hW : WI nk nb nw par mak kob hek hew clo clm sta) {oC : Nat → Int32} (bC : Bin nw oC) : ∃ m, fX2_openedBoxes oC (nI nw) hek hew = some m ∧ ∀ j, j < 32 → (bt m j = true ↔ ∃ w, w < nw ∧ oC w = 1 ∧ hek w = -6 ∧ hew w = nI j) := by
  have key : ∀ fuel i acc, i ≤ nw → nw < i + fuel → ∃ m, fX2_openedBoxes_b4 fuel oC (nI nw) hek hew acc (nI i) = some m ∧ ∀ j, j < 32 → (bt m j = true ↔ (bt acc j = true ∨ ∃ w, i ≤ w ∧ w < nw ∧ oC w = 1 ∧ hek w = -6 ∧ hew w = nI j)) := by
    intro fuel
    induction fuel with
    | zero => intro i acc h1 h2; omega
    | succ fuel ih =>
      intro i acc h1 h2
      rw [fX2_openedBoxes_b4]
      by_cases hi : i < nw
      · have no : ¬ (oC i = 1 ∧ hek i = -6) → ∃ m, fX2_openedBoxes_b4 fuel oC (nI nw) hek hew acc (nI (i + 1)) = some m ∧ ∀ j, j < 32 → (bt m j = true ↔ (bt acc j = true ∨ ∃ w, i ≤ w ∧ w < nw ∧ oC w = 1 ∧ hek w = -6 ∧ hew w = nI j)) := fun hn => by
          obtain ⟨m, e1, e2⟩ := ih (i + 1) acc hi (by omega)
          refine ⟨m, e1, fun j hj => (e2 j hj).trans ⟨fun q => q.imp id (fun ⟨w, w1, w2⟩ => ⟨w, by omega, w2⟩), fun q => q.imp id (fun ⟨w, w1, w2, w3, w4, w5⟩ => ?_)⟩⟩
          by_cases hwi : w = i
          · subst hwi; exact absurd ⟨w3, w4⟩ hn
          · exact ⟨w, by omega, w2, w3, w4, w5⟩
        rw [if_neg (nI_ge hi (by omega)), rAt_nI (by omega) (by omega), nI_1]
        rcases bC i hi with ho | ho
        · rw [if_pos ho]
          exact no (fun q => absurd (ho.symm.trans q.1) (by decide))
        · rw [if_neg (by rw [ho]; decide)]
          unfold fX6_heldKey
          rw [rAt_nI (by omega) (by omega)]
          rcases (hW i hi).1 with ⟨p1, b, p2, p3, -⟩ | ⟨k, jj, p1, p2, p3, -⟩
          · rw [if_pos p1]
            unfold fX6_heldWhat
            rw [rAt_nI (by omega) (by omega), p3]
            obtain ⟨m, e1, e2⟩ := ih (i + 1) (acc ||| fX7_setOf (nI b)) hi (by omega)
            refine ⟨m, e1, fun j hj => (e2 j hj).trans ?_⟩
            rw [b_or, bt_setOf (by omega) hj, Bool.or_eq_true, decide_eq_true_iff]
            constructor
            · rintro ((q | q) | ⟨w, w1, w2⟩)
              · exact Or.inl q
              · subst q; exact Or.inr ⟨i, Nat.le_refl _, hi, ho, p1, p3⟩
              · exact Or.inr ⟨w, by omega, w2⟩
            · rintro (q | ⟨w, w1, w2, w3, w4, w5⟩)
              · exact Or.inl (Or.inl q)
              · by_cases hwi : w = i
                · subst hwi
                  exact Or.inl (Or.inr ((nI_eq (by omega) (by omega)).mp (w5.symm.trans p3)))
                · exact Or.inr ⟨w, by omega, w2, w3, w4, w5⟩
          · have h6 : ¬ hek i = -6 := by rw [p3]; exact nI_ne6 (by omega)
            rw [if_neg h6]
            exact no (fun q => h6 q.2)
      · have hin : i = nw := by omega
        subst hin
        rw [if_pos (nI_le (Nat.le_refl _) (by omega))]
        exact ⟨acc, rfl, fun j _ => ⟨Or.inl, fun q => q.elim id (fun ⟨w, w1, w2, _⟩ => by omega)⟩⟩
  obtain ⟨m, e1, e2⟩ := key 6000 0 0 (Nat.zero_le _) (by omega)
  refine ⟨m, e1, fun j hj => (e2 j hj).trans ⟨fun q => q.elim (fun z => by rw [b_0] at z; cases z) (fun ⟨w, _, w2⟩ => ⟨w, w2⟩), fun ⟨w, w2⟩ => Or.inr ⟨w, Nat.zero_le _, w2⟩⟩⟩
/-- a set of boxes that is told by a fixed point is the law's -/
theorem sets_eq {o1 o2 : Nat → Int32} {S : Int32 → Int32 → Prop} {C : Nat → Prop} (hk : nk ≤ 20) (hW : WI nk nb nw par mak kob hek hew clo clm sta) (b1 : Bin nw o1) (b2 : Bin nw o2) (h1 : Fix S C nw hek hew clo clm o1) (h2 : Fix S C nw hek hew clo clm o2) {x y : Int32}
    (hx : ∀ j, j < 32 → (bt x j = true ↔ ∃ w, w < nw ∧ o1 w = 1 ∧ hek w = -6 ∧ hew w = nI j)) (hy : ∀ j, j < 32 → (bt y j = true ↔ ∃ w, w < nw ∧ o2 w = 1 ∧ hek w = -6 ∧ hew w = nI j)) : x = y := by
  have e := fix_unique hk hW b1 b2 h1 h2
  refine b_ext (fun j hj => Bool.eq_iff_iff.mpr ?_)
  rw [hx j hj, hy j hj]
  exact ⟨fun ⟨w, w1, w2, w3⟩ => ⟨w, w1, (e w w1).symm.trans w2, w3⟩, fun ⟨w, w1, w2, w3⟩ => ⟨w, w1, (e w w1).trans w2, w3⟩⟩
theorem boxesWith_eq (h : Rel B nk nb nw st mw ke bo lk lb par mak wea kob nu hek hew clo clm sta) (sm op0 : Nat → Int32) {p : Nat} (hp : p < 8) {oF : Nat → Int32} (bF : Bin nw oF) {y3 : Int32} (hF : Fix (SR nk lk par mak (-6) y3) (CR sta (nI p) (-6)) nw hek hew clo clm oF) {m : Int32} (hm : ∀ j, j < 32 → (bt m j = true ↔ ∃ w, w < nw ∧ oF w = 1 ∧ hek w = -6 ∧ hew w = nI j)) :
    ∃ sm' oC, fX2_boxesWith sm op0 lk par mak nu hek hew clo clm sta (nI p) = some (m, sm', oC) := by
  obtain ⟨sm', oC, e1, e2, e3, e4, -⟩ := safe_fix h sm op0 hp y3
  obtain ⟨⟨rfl, rfl, rfl⟩, ⟨t1, t2, t3, t4, t5, t6, t7, t8⟩, ⟨c1, ⟨m0, m1, m2, rfl⟩, c3⟩, hW, hH, hU, ⟨s0, s1, s2, s3⟩, hK, hBx, hR⟩ := id h
  obtain ⟨m', f1, f2⟩ := openedB_eq c1 t2 t1 hW e3
  have : m' = m := sets_eq t1 hW e3 bF e4 hF f2 hm
  subst this
  refine ⟨sm', oC, ?_⟩
  unfold fX2_boxesWith
  rw [e1, Option.bind_some, e2, Option.bind_some, f1]
  rfl
theorem r_canOpen (h : Rel B nk nb nw st mw ke bo lk lb par mak wea kob nu hek hew clo clm sta) {b p : Nat} (hb : b < nb) (hp : p < 8) {oF : Nat → Int32} (bF : Bin nw oF) {y3 : Int32} (hF : Fix (SR nk lk par mak (-6) y3) (CR sta (nI p) (-6)) nw hek hew clo clm oF) {m : Int32} (hm : ∀ j, j < 32 → (bt m j = true ↔ ∃ w, w < nw ∧ oF w = 1 ∧ hek w = -6 ∧ hew w = nI j))
    (o : (Nat → Int32) × (Nat → Int32)) (R : CRt) : ∃ o', sX7_canOpen ((mw, ke, bo, lk, lb, par, mak, wea, kob, nu, hek, hew, clo, clm, sta), o, R) (nI b) (nI p) = some ((m >>> (nI b &&& 31)) &&& 1, ((mw, ke, bo, lk, lb, par, mak, wea, kob, nu, hek, hew, clo, clm, sta), o', R)) := by
  obtain ⟨sm', oC, e⟩ := boxesWith_eq h o.1 o.2 hp bF hF hm
  obtain ⟨⟨rfl, rfl, rfl⟩, ⟨t1, t2, t3, t4, t5, t6, t7, t8⟩, ⟨c1, ⟨m0, m1, m2, rfl⟩, c3⟩, hW, hH, hU, ⟨s0, s1, s2, s3⟩, hK, hBx, hR⟩ := id h
  refine ⟨(sm', oC), ?_⟩
  unfold sX7_canOpen
  dsimp only
  unfold fX7_canOpen
  rw [hasBox_1 hb t2, if_neg n10, arePlaces_1 hp, if_neg n10, e, Option.bind_some, ← one_has (by omega)]
  rfl
theorem r_count9 (h : Rel B nk nb nw st mw ke bo lk lb par mak wea kob nu hek hew clo clm sta) {oF : Nat → Int32} (bF : Bin nw oF) {y3 : Int32} (hF : Fix (SR nk lk par mak (-6) y3) (CR sta (nI 0) (-6)) nw hek hew clo clm oF) {m : Int32} (hm : ∀ j, j < 32 → (bt m j = true ↔ ∃ w, w < nw ∧ oF w = 1 ∧ hek w = -6 ∧ hew w = nI j))
    (o : (Nat → Int32) × (Nat → Int32)) (R : CRt) : ∃ o', sX7_count ((mw, ke, bo, lk, lb, par, mak, wea, kob, nu, hek, hew, clo, clm, sta), o, R) 9 = some (m, ((mw, ke, bo, lk, lb, par, mak, wea, kob, nu, hek, hew, clo, clm, sta), o', R)) := by
  obtain ⟨sm', oC, e⟩ := boxesWith_eq h o.1 o.2 (by omega : 0 < 8) bF hF hm
  have e' : fX2_boxesWith o.1 o.2 lk par mak nu hek hew clo clm sta 0 = some (m, sm', oC) := e
  refine ⟨(sm', oC), ?_⟩
  unfold sX7_count
  dsimp only
  unfold fX7_count
  rw [if_neg (show ¬ ((9 : Int32) = 0) by decide), if_neg (show ¬ ((9 : Int32) = 1) by decide), if_neg (show ¬ ((9 : Int32) = 2) by decide), if_neg (show ¬ ((9 : Int32) = 3) by decide), if_neg (show ¬ ((9 : Int32) = 4) by decide), if_neg (show ¬ ((9 : Int32) = 5) by decide), if_neg (show ¬ ((9 : Int32) = 6) by decide), if_neg (show ¬ ((9 : Int32) = 7) by decide), if_neg (show ¬ ((9 : Int32) = 8) by decide), if_pos rfl, e']
  rfl
theorem r_canHave (h : Rel B nk nb nw st mw ke bo lk lb par mak wea kob nu hek hew clo clm sta) {k p : Nat} (hk : k < nk) (hp : p < 8) {y : Nat} (hy : y < 2 ^ 31) {oF : Nat → Int32} (bF : Bin nw oF) (hF : Fix (SR nk lk par mak (-6) 0) (CR sta (nI p) (-6)) nw hek hew clo clm oF) (o : (Nat → Int32) × (Nat → Int32)) (R : CRt) :
    (Had (SR nk lk par mak (-6) 0) nw oF hek hew (nI k) (nI y) → ∃ o', sX7_canHave ((mw, ke, bo, lk, lb, par, mak, wea, kob, nu, hek, hew, clo, clm, sta), o, R) (nI k) (nI y) (nI p) = some (1, ((mw, ke, bo, lk, lb, par, mak, wea, kob, nu, hek, hew, clo, clm, sta), o', R))) ∧ (¬ Had (SR nk lk par mak (-6) 0) nw oF hek hew (nI k) (nI y) → ∃ o', sX7_canHave ((mw, ke, bo, lk, lb, par, mak, wea, kob, nu, hek, hew, clo, clm, sta), o, R) (nI k) (nI y) (nI p) = some (0, ((mw, ke, bo, lk, lb, par, mak, wea, kob, nu, hek, hew, clo, clm, sta), o', R))) := by
  obtain ⟨sm', oC, e1, e2, e3, e4, e5⟩ := safe_fix h o.1 o.2 hp 0
  obtain ⟨⟨rfl, rfl, rfl⟩, ⟨t1, t2, t3, t4, t5, t6, t7, t8⟩, ⟨c1, ⟨m0, m1, m2, rfl⟩, c3⟩, hW, hH, hU, ⟨s0, s1, s2, s3⟩, hK, hBx, hR⟩ := id h
  have hu := fix_unique t1 hW e3 bF e4 hF
  have hC := isHadC (hek := hek) (hew := hew) (sm := sm') c1 e3 (by omega : k < 20) (nI y)
  have hS : (∃ j, j < 20 ∧ nI k = nI j ∧ sm' j = nI y) ↔ SR nk lk par mak (-6) 0 (nI k) (nI y) := SC_safe t5 t1 e5 (nI_ne6 hy)
  have hiff : Had (fun c m => ∃ j, j < 20 ∧ c = nI j ∧ sm' j = m) nw oC hek hew (nI k) (nI y) ↔ Had (SR nk lk par mak (-6) 0) nw oF hek hew (nI k) (nI y) := by
    constructor
    · rintro (q | ⟨w, q1, q2, q3⟩)
      · exact Or.inl (hS.mp q)
      · exact Or.inr ⟨w, q1, (hu w q1).symm.trans q2, q3⟩
    · rintro (q | ⟨w, q1, q2, q3⟩)
      · exact Or.inl (hS.mpr q)
      · exact Or.inr ⟨w, q1, (hu w q1).trans q2, q3⟩
  have pre : ∀ v : Int32, (v = 0 ∨ v = 1) → fX2_isHad sm' oC (nI nw) hek hew (nI k) (nI y) = some v → sX7_canHave ((nI m0, nI nk, nI nb, lk, lb, par, mak, wea, kob, nI nw, hek, hew, clo, clm, sta), o, R) (nI k) (nI y) (nI p) = some (v, ((nI m0, nI nk, nI nb, lk, lb, par, mak, wea, kob, nI nw, hek, hew, clo, clm, sta), (sm', oC), R)) := fun v hv ev => by
    unfold sX7_canHave
    dsimp only
    unfold fX7_canHave fX2_canHaveKey
    rw [hasKey_1 hk t1, if_neg n10, if_neg (nI_pos hy), arePlaces_1 hp, if_neg n10, e1, Option.bind_some, e2, Option.bind_some, ev, Option.bind_some]
    rcases hv with rfl | rfl
    · rw [if_pos rfl]; rfl
    · rw [if_neg n10, if_pos rfl]; rfl
  rcases hC with ⟨z1, z2⟩ | ⟨z1, z2⟩
  · exact ⟨fun _ => ⟨_, pre 1 (Or.inr rfl) z2⟩, fun q => absurd (hiff.mp z1) q⟩
  · exact ⟨fun q => absurd (hiff.mpr q) z1, fun _ => ⟨_, pre 0 (Or.inl rfl) z2⟩⟩
theorem r_leaksN (h : Rel B nk nb nw st mw ke bo lk lb par mak wea kob nu hek hew clo clm sta) {k : Nat} (hk : k < nk) (hr : ¬ par k = -6) (x y : Int32) (o : (Nat → Int32) × (Nat → Int32)) (R : CRt) : sX7_leaks ((mw, ke, bo, lk, lb, par, mak, wea, kob, nu, hek, hew, clo, clm, sta), o, R) (nI k) x y = some (-1, ((mw, ke, bo, lk, lb, par, mak, wea, kob, nu, hek, hew, clo, clm, sta), o, R)) := by
  obtain ⟨⟨rfl, rfl, rfl⟩, ⟨t1, t2, t3, t4, t5, t6, t7, t8⟩, ⟨c1, ⟨m0, m1, m2, rfl⟩, c3⟩, hW, hH, hU, ⟨s0, s1, s2, s3⟩, hK, hBx, hR⟩ := id h
  unfold sX7_leaks
  dsimp only
  unfold fX7_leaks
  rw [hasKey_1 hk t1, if_neg n10, isRoot_eq (by omega), if_neg hr, if_pos rfl]
  rfl
theorem r_leaks (h : Rel B nk nb nw st mw ke bo lk lb par mak wea kob nu hek hew clo clm sta) {k p : Nat} (hk : k < nk) (hr : par k = -6) (hp : p < 8) {y : Nat} (hy : y < 2 ^ 31) {oF : Nat → Int32} (bF : Bin nw oF) (hF : Fix (SR nk lk par mak (nI k) (nI y)) (CR sta (nI p) (nI k)) nw hek hew clo clm oF) {m : Int32} (hm : ∀ j, j < 32 → (bt m j = true ↔ ∃ w, w < nw ∧ oF w = 1 ∧ hek w = -6 ∧ hew w = nI j))
    (o : (Nat → Int32) × (Nat → Int32)) (R : CRt) : ∃ o', sX7_leaks ((mw, ke, bo, lk, lb, par, mak, wea, kob, nu, hek, hew, clo, clm, sta), o, R) (nI k) (nI y) (nI p) = some (m, ((mw, ke, bo, lk, lb, par, mak, wea, kob, nu, hek, hew, clo, clm, sta), o', R)) := by
  obtain ⟨oC, e1, e2, e3⟩ := leak_fix h o.1 o.2 hk (nI y) hp
  obtain ⟨⟨rfl, rfl, rfl⟩, ⟨t1, t2, t3, t4, t5, t6, t7, t8⟩, ⟨c1, ⟨m0, m1, m2, rfl⟩, c3⟩, hW, hH, hU, ⟨s0, s1, s2, s3⟩, hK, hBx, hR⟩ := id h
  obtain ⟨m', f1, f2⟩ := openedB_eq c1 t2 t1 hW e2
  have : m' = m := sets_eq t1 hW e2 bF e3 hF f2 hm
  subst this
  refine ⟨(rSet 20 (rFill 20 o.1 (-6)) (nI k) (nI y), oC), ?_⟩
  unfold sX7_leaks
  dsimp only
  unfold fX7_leaks fX2_boxesByLeak
  rw [hasKey_1 hk t1, if_neg n10, isRoot_eq (by omega), if_pos hr, if_neg n10, if_neg (nI_pos hy), arePlaces_1 hp, if_neg n10, e1, Option.bind_some, f1]
  rfl
end LREADS
