/-! what hangs from a key; a key is made anew -/
theorem has_zero (x : Int32) : fX7_has 0 x = 0 := by
  rcases has_all (n := 0) (by omega) (s := 0) (fun i _ => b_0 i) x with ⟨k, hk, -⟩ | ⟨e, -⟩
  · omega
  · exact e
theorem Hold_zero {hek hew : Nat → Int32} {w : Nat} : ¬ Hold hek hew 0 0 w := fun h => h.elim (fun q => q.2 (has_zero _)) (fun q => q.2 (has_zero _))
theorem bits_eq (m : Int32) : fX8_bits m = some (nI (fb_ct (bt m) 20)) := by
  unfold fX8_bits
  rw [← ct_sm]
  exact sum_loop0 (n := 20) (fun fuel acc i => fX8_bits_b4 fuel m acc (nI i)) (fun acc => some acc) (fun i => if bt m i = true then 1 else 0)
    (fun fuel acc => by
      show fX8_bits_b4 _ _ _ _ = _
      rw [fX8_bits_b4, if_pos (show (20 : Int32) ≤ nI 20 from nI_le (a := 20) (Nat.le_refl _) (by omega))])
    (fun fuel acc i hi => by
      show fX8_bits_b4 _ _ _ _ = fX8_bits_b4 _ _ _ _
      rw [fX8_bits_b4, if_neg (show ¬ (20 : Int32) ≤ nI i from nI_ge (b := 20) hi (by omega)), shr_1 (by omega), nI_1]
      have e : ∀ b : Bool, nI acc + (if b = true then 1 else 0) = nI (acc + if b = true then 1 else 0) := fun b => by
        cases b
        · exact nI_add acc 0
        · exact nI_add acc 1
      rw [e]) (fuel := 6000) (by omega)
section HANG
variable {B nk nb nw : Nat} {st : Nat → Int32} {mw ke bo lk lb nu : Int32} {par mak wea kob hek hew clo clm sta : Nat → Int32}
theorem hangingFrom_eq (hk : nk ≤ 20) (hb : nb ≤ 20) (h1 : st 1 = nI nk) (h2 : st 2 = nI nb) (hK : RK st nk lk par mak wea) (hB : RB st nb lb kob) (k : Nat) : fX8_hangingFrom st (nI k) = some (nI (hf nk nb lk lb par kob k)) := by
  obtain ⟨q1, e1, e2⟩ := hangingKeys_eq hk h1 hK (nI k)
  obtain ⟨q2, e3, e4⟩ := hangingBoxes_eq hb h2 hB (nI k)
  unfold fX8_hangingFrom
  rw [e1, Option.bind_some, bits_eq, Option.bind_some, e3, Option.bind_some, bits_eq, Option.bind_some, nI_add]
  unfold hf
  rw [fb_ct_cong (fun j hj => e2 j (by omega)), fb_ct_cong (fun j hj => e4 j (by omega))]
  rfl
/-- what hangs from a set of keys, without what is thrown away -/
noncomputable def inK (nk : Nat) (lk : Int32) (par : Nat → Int32) (set a : Int32) (j : Nat) : Bool := decide (j < nk) && hs set (par j) && bt lk j && !bt a j
theorem count_mask {n : Nat} (hn : n ≤ 20) {l q a set : Int32} {p : Nat → Int32} (hq : ∀ j, j < 32 → bt q j = (decide (j < n) && hs set (p j) && bt l j)) : fJ6_bitCount_0f7a4 (q &&& (a ^^^ (-1))) = nI (fb_ct (inK n l p set a) 20) := by
  rw [count_20]
  · congr 1
    exact fb_ct_cong (fun j hj => by rw [b_and, hq j (by omega), b_not a (by omega)]; rfl)
  · intro i hi
    rcases Nat.lt_or_ge i 32 with h | h
    · rw [b_and, hq i h, decide_eq_false (show ¬ i < n by omega)]; rfl
    · exact b_big h
theorem hangingWithout_eq (hk : nk ≤ 20) (hb : nb ≤ 20) (set a b : Int32) : fX1_hangingWithout (nI nk) (nI nb) lk lb par kob set a b = some (nI (fb_ct (inK nk lk par set a) 20 + fb_ct (inK nb lb kob set b) 20)) := by
  obtain ⟨q1, e1, e2⟩ := liveKeysOn_eq (liveK := lk) (par := par) hk set
  obtain ⟨q2, e3, e4⟩ := liveBoxesOn_eq (liveB := lb) (kob := kob) hb set
  unfold fX1_hangingWithout
  rw [e1, Option.bind_some, e3, Option.bind_some, count_mask hk e2, count_mask hb e4, nI_add]
theorem inK_set (hP : ∀ j, j < nk → par j = -6 ∨ ∃ i, i < 32 ∧ par j = nI i) {k : Nat} (hk : k < 32) (a : Int32) {j : Nat} : inK nk lk par (fX7_setOf (nI k)) a j = (onK nk lk par k j && !bt a j) := by
  unfold inK onK
  by_cases hj : j < nk
  · rw [hs_set hk (hP j hj)]
  · simp [hj]
theorem PT32 (hP : PT nk par) (hk : nk ≤ 20) : ∀ j, j < nk → par j = -6 ∨ ∃ i, i < 32 ∧ par j = nI i := fun j hj => (hP j hj).imp id (fun ⟨i, hi, e⟩ => ⟨i, by omega, e⟩)
theorem KB32 (hP : KB nk nb kob) (hk : nk ≤ 20) : ∀ j, j < nb → kob j = -6 ∨ ∃ i, i < 32 ∧ kob j = nI i := fun j hj => Or.inr ((hP j hj).imp (fun i hi => ⟨by omega, hi.2⟩))
theorem hf_le (k : Nat) : hf nk nb lk lb par kob k ≤ 40 := by
  have h1 := fb_ct_le (onK nk lk par k) 20
  have h2 := fb_ct_le (onK nb lb kob k) 20
  unfold hf; omega
theorem hanging_one (hk : nk ≤ 20) (hb : nb ≤ 20) (hP : PT nk par) (hKB : KB nk nb kob) {k : Nat} (hk2 : k < 32) : fX1_hangingWithout (nI nk) (nI nb) lk lb par kob (fX7_setOf (nI k)) 0 0 = some (nI (hf nk nb lk lb par kob k)) := by
  rw [hangingWithout_eq hk hb]
  unfold hf
  rw [fb_ct_cong (fun j hj => inK_set (PT32 hP hk) hk2 0), fb_ct_cong (fun j hj => inK_set (KB32 hKB hk) hk2 0)]
  rw [fb_ct_cong (p := fun j => onK nk lk par k j && !bt 0 j) (q := onK nk lk par k) (fun j hj => by rw [b_0]; simp), fb_ct_cong (p := fun j => onK nb lb kob k j && !bt 0 j) (q := onK nb lb kob k) (fun j hj => by rw [b_0]; simp)]
theorem isRoot_eq {k : Nat} (hk : k < 20) : fX5_isRoot par (nI k) = if par k = -6 then 1 else 0 := by
  unfold fX5_isRoot
  rw [rAt_nI hk (by omega)]
theorem risRoot_eq {k : Nat} (hk : k < 20) (e : st (4 + 4 * k) = par k) : fX8_isRoot st (nI k) = some (if par k = -6 then 1 else 0) := by
  unfold fX8_isRoot
  rw [key0 hk, Option.bind_some, e]
  by_cases h : par k = -6
  · rw [if_pos h, if_pos h]
  · rw [if_neg h, if_neg h]
def stNew (st : Nat → Int32) (k : Nat) : Nat → Int32 := upd (upd st (4 + 4 * k + 2) (st (4 + 4 * k + 2) + 1)) (4 + 4 * k + 3) 0
theorem makesAnew_eq {k : Nat} (hk : k < 20) : fX8_makesAnew st (nI k) = some (stNew st k) := by
  unfold fX8_makesAnew
  have e0 : ∀ v, fX8_setKey st (nI k) 2 v = some (upd st (4 + 4 * k + 2) v) := fun v => setKey_nI hk (p := 2) (by omega) st v
  have e1 : ∀ s : Nat → Int32, fX8_setKey s (nI k) 3 0 = some (upd s (4 + 4 * k + 3) 0) := fun s => setKey_nI hk (p := 3) (by omega) s 0
  rw [key2 hk, Option.bind_some, e0, Option.bind_some, e1]
  rfl
noncomputable def cRenew (v : HV) (a : Int32) : Option (Int32 × HV) := (fX1_makeAnew v.1 v.2.1 v.2.2.1 v.2.2.2.1 v.2.2.2.2.1 v.2.2.2.2.2.1 v.2.2.2.2.2.2.1 v.2.2.2.2.2.2.2.1 v.2.2.2.2.2.2.2.2.1 v.2.2.2.2.2.2.2.2.2.1 v.2.2.2.2.2.2.2.2.2.2.1 v.2.2.2.2.2.2.2.2.2.2.2.1 v.2.2.2.2.2.2.2.2.2.2.2.2.1 v.2.2.2.2.2.2.2.2.2.2.2.2.2.1 v.2.2.2.2.2.2.2.2.2.2.2.2.2.2 a).bind fun q =>
  some (q.1, (v.1, v.2.1, v.2.2.1, v.2.2.2.1, v.2.2.2.2.1, v.2.2.2.2.2.1, q.2.1, q.2.2.1, v.2.2.2.2.2.2.2.2.1, q.2.2.2.1, q.2.2.2.2.1, q.2.2.2.2.2.1, q.2.2.2.2.2.2.1, q.2.2.2.2.2.2.2.1, q.2.2.2.2.2.2.2.2))
/-- the step between, for one key -/
theorem mid_one (h : Rel B nk nb nw st mw ke bo lk lb par mak wea kob nu hek hew clo clm sta) (hB : B < 2 ^ 30) {k : Nat} (hk : k < nk) :
    ∃ mak' wea' s2 st2, fX1_startNextMakes mak wea nu hek hew clo clm sta (fX7_setOf (nI k)) = some (mak', wea', s2) ∧ fX8_burns (stNew st k) = some st2 ∧ Rel (B + 1) nk nb nw st2 mw ke bo lk lb par mak' wea' kob nu hek hew clo clm s2 ∧
      ∀ w, w < nw → bt (s2 w) 3 = true → ¬ hek w = nI k ∧ ¬ clo w = nI k := by
  have t1 := h.2.1.1
  have hnu := h.1.2.2
  obtain ⟨mak', wea', s2, e1, e2, e3, e4⟩ := startNext_eq (hek := hek) (hew := hew) (clo := clo) (clm := clm) h.2.2.1.1 (fX7_setOf (nI k)) mak wea sta
  have hS : ∀ i, i < 32 → bt (fX7_setOf (nI k)) i = true → i = k := fun i hi hb => by
    rw [bt_setOf (by omega) hi] at hb
    simpa using hb
  have hSk : bt (fX7_setOf (nI k)) k = true := by rw [bt_setOf (by omega) (by omega)]; simp
  have hK := h.2.2.2.2.2.2.2.1
  have hBx := h.2.2.2.2.2.2.2.2.1
  have s := h.2.2.2.2.2.2.1
  have cell : ∀ j, j ≠ 4 + 4 * k + 2 → j ≠ 4 + 4 * k + 3 → stNew st k j = st j := fun j h1 h2 => by
    unfold stNew
    rw [pk_un h2, pk_un h1]
  obtain ⟨st2, f1, f2, f3⟩ := mid h hB (S := fX7_setOf (nI k)) (tK := 0) (tB := 0) (lk' := lk) (lb' := lb) (fun i hi hb => by rw [hS i hi hb]; exact hk) (fun i hi => by rw [b_0]; simp) (fun i hi => by rw [b_0]; simp)
    (fun i j _ _ hb => by rw [b_0] at hb; cases hb) (fun i j _ _ hb => by rw [b_0] at hb; cases hb) (s1 := sta) (fun w hw => Or.inr ⟨Hold_zero, rfl⟩) e2 e3 e4 (st1 := stNew st k)
    ⟨by rw [cell 0 (by omega) (by omega)]; exact s.1, by rw [cell 1 (by omega) (by omega)]; exact s.2.1, by rw [cell 2 (by omega) (by omega)]; exact s.2.2.1, by rw [cell 3 (by omega) (by omega)]; exact s.2.2.2⟩
    (fun i hi => by
      obtain ⟨r0, r1, r2, r3⟩ := hK i hi
      rw [e2 i (by omega), e3 i (by omega)]
      by_cases hik : i = k
      · subst hik
        rw [if_pos hSk, if_pos hSk, cell _ (by omega) (by omega), cell _ (by omega) (by omega)]
        refine ⟨r0, r1, ?_, ?_⟩
        · unfold stNew
          rw [pk_un (by omega), pk_us, r2]
        · unfold stNew
          rw [pk_us]
      · rw [if_neg (fun q => hik (hS i (by omega) q)), if_neg (fun q => hik (hS i (by omega) q)), cell _ (by omega) (by omega), cell _ (by omega) (by omega), cell _ (by omega) (by omega), cell _ (by omega) (by omega)]
        exact ⟨r0, r1, r2, r3⟩)
    (fun b hb => by
      have := h.2.1.2.1
      rw [cell _ (by omega) (by omega), cell _ (by omega) (by omega)]
      exact hBx b hb)
    (fun j hj => cell j (by omega) (by omega))
  exact ⟨mak', wea', s2, st2, by rw [hnu]; exact e1, f1, f2, fun w hw hs => (f3 w hw hs).2 k (by omega) hSk⟩
theorem core_renew (hB : B < 2 ^ 30) (h : RelV B st (mw, ke, bo, lk, lb, par, mak, wea, kob, nu, hek, hew, clo, clm, sta)) (a : Int32) : Core B st (mw, ke, bo, lk, lb, par, mak, wea, kob, nu, hek, hew, clo, clm, sta) (cRenew (mw, ke, bo, lk, lb, par, mak, wea, kob, nu, hek, hew, clo, clm, sta) a) (fX8_whyNotRenewed st a) (fX8_renewed st a) := by
  obtain ⟨nk, nb, nw, h⟩ := h
  have h : Rel B nk nb nw st mw ke bo lk lb par mak wea kob nu hek hew clo clm sta := h
  obtain ⟨⟨rfl, rfl, rfl⟩, ⟨t1, t2, t3, t4, t5, t6, t7, t8⟩, ⟨c1, ⟨m, m1, m2, rfl⟩, c3⟩, hW, hH, hU, ⟨s0, s1, s2, s3⟩, hK, hBx, hR⟩ := id h
  unfold cRenew
  dsimp only
  unfold fX1_makeAnew fX8_whyNotRenewed
  rcases liveKey_both t1 s1 t5 hK a with ⟨k, hk, rfl, hl, e1, e2⟩ | ⟨e1, e2⟩
  · have hz := hf_le (nk := nk) (nb := nb) (lk := lk) (lb := lb) (par := par) (kob := kob) k
    have eH := hangingFrom_eq t1 t2 s1 s2 hK hBx k
    obtain ⟨mak', wea', s2', st2, g1, g2, g3, g4⟩ := mid_one h hB hk
    have t3' := t3
    rw [e1, e2, Option.bind_some, if_neg (show ¬ ((1 : Int32) = 0) by decide), if_neg (show ¬ ((1 : Int32) = 0) by decide), hanging_one t1 t2 t3 t4 (by omega), Option.bind_some, isRoot_eq (by omega)]
    have eM : (nI (hf nk nb lk lb par kob k) ≤ nI m) ↔ hf nk nb lk lb par kob k ≤ m := ⟨fun q => by
      rcases Nat.lt_or_ge m (hf nk nb lk lb par kob k) with hlt | hge
      · exact absurd q (nI_ge hlt (by omega))
      · exact hge, fun q => nI_le q (by omega)⟩
    have eRm : ∀ d, d < 100 → ((nI nw + nI d ≤ 120) ↔ nw + d ≤ 120) := fun d hd => by
      rw [nI_add]
      exact ⟨fun q => by
        rcases Nat.lt_or_ge 120 (nw + d) with hlt | hge
        · exact absurd q (show ¬ nI (nw + d) ≤ (120 : Int32) from nI_ge (a := 120) hlt (by omega))
        · exact hge, fun q => show nI (nw + d) ≤ (120 : Int32) from nI_le (b := 120) q (by omega)⟩
    have eMs : fX8_renewMakes st (nI k) = some (nI (hf nk nb lk lb par kob k + if par k = -6 then 0 else 1)) := by
      unfold fX8_renewMakes
      rw [eH, Option.bind_some, risRoot_eq (by omega) (hK k hk).1, Option.bind_some]
      by_cases hr : par k = -6
      · rw [if_pos hr, if_pos hr, if_neg (show ¬ ((1 : Int32) = 0) by decide)]
        exact congrArg some (nI_add _ 0)
      · rw [if_neg hr, if_neg hr, if_pos rfl, nI_1]
    by_cases hr : par k = -6
    · rw [if_pos hr, if_neg (show ¬ ((1 : Int32) = 0) by decide)]
      unfold fX1_makeAnew_b44
      rw [if_pos hr, Nat.add_zero] at eMs
      rw [room_eq c1 (by omega), if_neg ix3, cl3, s3, eMs, Option.bind_some]
      by_cases hroom : nw + hf nk nb lk lb par kob k ≤ 120
      · rw [if_pos hroom, if_neg (show ¬ ((1 : Int32) = 0) by decide), if_neg (show ¬ ((1 : Int32) = 0) by decide), if_pos ((eRm _ (by omega)).mpr hroom), risRoot_eq (by omega) (hK k hk).1, Option.bind_some, if_pos hr, if_neg (show ¬ ((1 : Int32) = 0) by decide), eH, Option.bind_some, if_neg ix0, cl0, s0]
        by_cases hm : hf nk nb lk lb par kob k ≤ m
        · rw [if_pos (eM.mpr hm), if_pos (eM.mpr hm), g1, Option.bind_some, if_neg (show ¬ ((1 : Int32) = 0) by decide)]
          obtain ⟨wea3, hek3, hew3, clo3, clm3, sta3, st3, k1, k2, k3, -⟩ := wrapAll_both g3 hk hroom (fun w hw hs => (g4 w hw hs).2)
          dsimp only
          rw [k1]
          refine Core.yes (hf nk nb lk lb par kob k) (by omega) _ st3 rfl rfl ?_ ⟨nk, nb, _, k3⟩
          unfold fX8_renewed
          rw [eMs, Option.bind_some, makesAnew_eq (by omega), Option.bind_some, g2, Option.bind_some, risRoot_eq (by omega) (g3.2.2.2.2.2.2.2.1 k hk).1, Option.bind_some, if_pos hr, if_neg (show ¬ ((1 : Int32) = 0) by decide), k2]
          rfl
        · rw [if_neg (fun q => hm (eM.mp q)), if_neg (fun q => hm (eM.mp q))]
          exact Core.no (-5) (by decide) rfl rfl
      · rw [if_neg hroom, if_pos rfl, if_neg (fun q => hroom ((eRm _ (by omega)).mp q))]
        exact Core.no (-4) (by decide) rfl rfl
    · rw [if_neg hr, if_pos rfl]
      unfold fX1_makeAnew_b44
      rw [if_neg hr] at eMs
      obtain ⟨c, hc, ec⟩ : ∃ c, c < k ∧ par k = nI c := (t3 k hk).resolve_left hr
      obtain ⟨-, x, x1, x2⟩ := c3 c (by omega)
      obtain ⟨l1, l2⟩ := left_both (mw := nI m) (wea := wea) (st := st) (k := c) (by omega) m2 (by omega : x ≤ 120) rfl x2 s0 (hK c (by omega)).2.2.2
      have ep : fX5_parentOf par (nI k) = nI c := by
        unfold fX5_parentOf
        rw [rAt_nI (by omega) (by omega), ec]
      rw [nI_1, room_eq c1 (by omega), if_neg ix3, cl3, s3, eMs, Option.bind_some]
      by_cases hroom : nw + (hf nk nb lk lb par kob k + 1) ≤ 120
      · rw [if_pos hroom, if_neg (show ¬ ((1 : Int32) = 0) by decide), if_pos rfl, if_pos ((eRm _ (by omega)).mpr hroom), risRoot_eq (by omega) (hK k hk).1, Option.bind_some, if_neg hr, if_pos rfl, key0 (by omega), Option.bind_some, (hK k hk).1, ep, ec, l1, l2, Option.bind_some]
        by_cases hcw : m ≤ x
        · have hz2 : m - x = 0 := by omega
          rw [if_pos hcw, if_pos rfl, hz2]
          exact Core.no (-5) (by decide) rfl rfl
        · have hz2 : ¬ nI (m - x) = 0 := fun q => by
            have := (nI_eq (b := 0) (by omega) (by omega)).mp q
            omega
          rw [if_neg hcw, if_neg hz2, if_neg (show ¬ ((1 : Int32) = 0) by decide), eH, Option.bind_some, if_neg ix0, cl0, s0]
          by_cases hm : hf nk nb lk lb par kob k ≤ m
          · rw [if_pos (eM.mpr hm), if_pos (eM.mpr hm), g1, Option.bind_some, if_pos rfl]
            obtain ⟨w1, st3, w2, w3⟩ := wrapKey_both g3 (by omega) hk ec hl (by omega) (fun w hw hs => (g4 w hw hs).1)
            dsimp only
            rw [w1, Option.bind_some]
            have hroom2 : nw + 1 + hf nk nb lk lb par kob k ≤ 120 := by omega
            obtain ⟨wea3, hek3, hew3, clo3, clm3, sta3, st4, k1, k2, k3, -⟩ := wrapAll_both w3 hk hroom2 (fun w hw hs => by
              by_cases hwn : w = nw
              · subst hwn
                rw [pk_us]
                exact fun e => by have := (nI_eq (by omega) (by omega)).mp e; omega
              · rw [pk_un hwn] at hs ⊢
                exact (g4 w (by omega) hs).2)
            dsimp only
            rw [k1]
            refine Core.yes (hf nk nb lk lb par kob k + 1) (by omega) _ st4 rfl rfl ?_ ⟨nk, nb, _, k3⟩
            unfold fX8_renewed
            rw [eMs, Option.bind_some, makesAnew_eq (by omega), Option.bind_some, g2, Option.bind_some, risRoot_eq (by omega) (g3.2.2.2.2.2.2.2.1 k hk).1, Option.bind_some, if_neg hr, if_pos rfl, w2, Option.bind_some, k2]
            rfl
          · rw [if_neg (fun q => hm (eM.mp q)), if_neg (fun q => hm (eM.mp q))]
            exact Core.no (-5) (by decide) rfl rfl
      · rw [if_neg hroom, if_pos rfl, if_neg (fun q => hroom ((eRm _ (by omega)).mp q))]
        exact Core.no (-4) (by decide) rfl rfl
  · rw [e1, e2, Option.bind_some, if_pos rfl, if_pos rfl]
    exact Core.no (-1) (by decide) rfl rfl
end HANG
