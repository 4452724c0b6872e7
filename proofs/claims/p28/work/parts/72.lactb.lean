/-! copies of wraps; a key made anew -/
section ACTB
variable {n t L : Nat} {xs : Nat → Int32} {k42 : K42} {nk nb nw : Nat} {qv kev bov wrv : Nat → Int32} {r : RS} {o : (Nat → Int32) × (Nat → Int32)} {R : CRt} {mw ke bo lk lb nu : Int32} {par mak wea kob hek hew clo clm sta : Nat → Int32}
theorem ct_le_n {m : Nat} (hm : m ≤ 20) {l : Int32} {p : Nat → Int32} (k : Nat) : fb_ct (onK m l p k) 20 ≤ m := by
  rw [ct_tail hm (fun j hj _ => by simp [onK, show ¬ j < m by omega])]
  exact fb_ct_le _ _
theorem hf_12 (n1 : nk ≤ 6) (n2 : nb ≤ 6) (k : Nat) : hf nk nb lk lb par kob k ≤ 12 := by
  have h1 := ct_le_n (m := nk) (l := lk) (p := par) (by omega) k
  have h2 := ct_le_n (m := nb) (l := lb) (p := kob) (by omega) k
  unfold hf
  omega
theorem copied_eq {st : Nat → Int32} (h3 : st 3 = nI nw) (hw : nw ≤ 120) {w p : Nat} (hw1 : w < nw) (hp : p < 3) (f : Nat → Bool) (hf : ∀ i, i < nw → i ≠ w → bt (st (124 + 6 * i + 5)) p = f i) :
    fX8_copied st (nI w) (nI p) = some (nI (fb_ct (fun i => if i = w then true else f i) nw), upd st (124 + 6 * w + 5) (st (124 + 6 * w + 5) ||| ((1 : Int32) <<< (nI p &&& 31)))) := by
  unfold fX8_copied
  have e0 : fX8_setWrap st (nI w) 5 (st (124 + 6 * w + 5) ||| ((1 : Int32) <<< (nI p &&& 31))) = some (upd st (124 + 6 * w + 5) (st (124 + 6 * w + 5) ||| ((1 : Int32) <<< (nI p &&& 31)))) := setWrap_nI (by omega) (p := 5) (by omega) st _
  rw [wr5 (by omega), Option.bind_some, e0, Option.bind_some, ← ct_sm]
  exact sum_loop0 (n := nw) (fun fuel acc i => fX8_copied_b21 fuel (upd st (124 + 6 * w + 5) (st (124 + 6 * w + 5) ||| ((1 : Int32) <<< (nI p &&& 31)))) (nI p) acc (nI i)) (fun acc => some (acc, upd st (124 + 6 * w + 5) (st (124 + 6 * w + 5) ||| ((1 : Int32) <<< (nI p &&& 31))))) (fun i => if (if i = w then true else f i) = true then 1 else 0)
    (fun fuel acc => by
      show fX8_copied_b21 _ _ _ _ _ = _
      rw [fX8_copied_b21, if_neg ix3, cl3, pk_un (by omega), h3, if_pos (nI_le (Nat.le_refl _) (by omega))])
    (fun fuel acc i hi => by
      show fX8_copied_b21 _ _ _ _ _ = fX8_copied_b21 _ _ _ _ _
      have e : bt (upd st (124 + 6 * w + 5) (st (124 + 6 * w + 5) ||| ((1 : Int32) <<< (nI p &&& 31))) (124 + 6 * i + 5)) p = if i = w then true else f i := by
        by_cases hiw : i = w
        · subst hiw
          rw [pk_us, if_pos rfl, b_or, bit_at (by omega) (by omega)]; simp
        · rw [pk_un (by omega), if_neg hiw, hf i hi hiw]
      rw [fX8_copied_b21, if_neg ix3, cl3, pk_un (by omega), h3, if_neg (nI_ge hi (by omega)), wr5 (by omega), Option.bind_some, shr_1 (by omega), e, nI_b, nI_1 i]) (fuel := 6000) (by omega)
theorem act_copies (ht : t < 18) (hgo : Go k42 t) (x8 : Int32) : ∀ fuel i n (r : RS) (c : CS) (wrv : Nat → Int32) (opv : Nat → Int64), i ≤ 3 → 3 < i + fuel → n ≤ 3 * t + i → 0 < nw → Inv0 n c r → LSt r.1 nk nb nw qv kev bov wrv → fL_law_b434 L xs k42 fuel qv kev bov wrv opv c (nI t) x8 (nI i) = some 1 := by
  intro fuel
  induction fuel with
  | zero => intro i n r c wrv opv h1 h2; omega
  | succ fuel ih =>
    intro i n r c wrv opv hi3 hf hn hw0 hI hL
    obtain ⟨mw, ke, bo, lk, lb, par, mak, wea, kob, nu, hek, hew, clo, clm, sta, o, R, rfl, h⟩ := gi_rel hI hL
    obtain ⟨⟨e1, e2, e3⟩, ⟨t1, t2, t3, t4, t5, t6, t7, t8⟩, ⟨c1, ⟨m0, m1, m2, em⟩, c3⟩, hW, hH, hU, ⟨s0, s1, s2, s3⟩, hK, hBx, hR⟩ := id h
    obtain ⟨⟨⟨a0, a1, a2, a3⟩, ⟨b1, b2, b3⟩, n1, n2, n3⟩, hLK, hZ, hLB, hLW⟩ := id hL
    rw [fL_law_b434]
    by_cases h3 : i = 3
    · rw [if_pos (show (3 : Int32) ≤ nI i by rw [h3]; decide)]
      exact fin_1208 hI hL (by omega) ht hgo opv x8
    rw [if_neg (show ¬ (3 : Int32) ≤ nI i from nI_ge (b := 3) (by omega) (by omega)), if_neg q3i, cl3, a3]
    obtain ⟨w, hw, ew⟩ := low_eq (x8 >>> ((4 + 2 * nI i) &&& 31)) (n := nw) hw0 (by omega)
    obtain ⟨p, hp, ep⟩ := low_eq (x8 >>> ((9 + nI i) &&& 31)) (n := 3) (by omega) (by omega)
    have ep' : fL_low (x8 >>> ((9 + nI i) &&& 31)) 3 = some (nI p) := ep
    rw [ew, Option.bind_some, ep', Option.bind_some]
    have hC := LWc_of hLW hR
    have hA := hC w hw
    have hA5 : (wrv w >>> ((18 : Int32) &&& 31)) &&& 1 = if bt (sta w) 3 = true then 1 else 0 := hA.2.2.2.2.1
    have e19 : (19 : Int32) + nI p = nI (19 + p) := nI_add 19 p
    have bitw : ∀ j, j < nw → (wrv j >>> ((19 + nI p) &&& 31)) &&& 1 = if bt (sta j) p = true then 1 else 0 := fun j hj => by
      rw [e19, AC_place (hC j hj) hp, shr_1 (by omega), and7_bt hp]
    have hin : ¬ (nI w < 0 ∨ 64 ≤ (nI w).toNatClampNeg) := nI_in (by omega) (by omega)
    -- the sum over the wraps
    have sums : ∀ (y16 : Int32) (s0 : Nat), fL_law_b523 L xs k42 (fL_law_b434 L xs k42 fuel) 6000 qv kev bov wrv opv ((mw, ke, bo, lk, lb, par, mak, wea, kob, nu, hek, hew, clo, clm, sta), o, R) (nI t) x8 (nI i) (nI w) (nI p) y16 (nI s0) 0 = fL_law_b555 L xs k42 (fL_law_b434 L xs k42 fuel) qv kev bov wrv opv ((mw, ke, bo, lk, lb, par, mak, wea, kob, nu, hek, hew, clo, clm, sta), o, R) (nI t) x8 (nI i) (nI w) (nI p) y16 (nI (s0 + fb_ct (fun j => bt (sta j) p) nw)) := fun y16 s0' => by
      have s := sum_loop (n := nw) (fun f acc j => fL_law_b523 L xs k42 (fL_law_b434 L xs k42 fuel) f qv kev bov wrv opv ((mw, ke, bo, lk, lb, par, mak, wea, kob, nu, hek, hew, clo, clm, sta), o, R) (nI t) x8 (nI i) (nI w) (nI p) y16 acc (nI j)) (fun acc => fL_law_b555 L xs k42 (fL_law_b434 L xs k42 fuel) qv kev bov wrv opv ((mw, ke, bo, lk, lb, par, mak, wea, kob, nu, hek, hew, clo, clm, sta), o, R) (nI t) x8 (nI i) (nI w) (nI p) y16 acc) (fun j => if bt (sta j) p = true then 1 else 0)
        (fun f acc => by
          show fL_law_b523 _ _ _ _ _ _ _ _ _ _ _ _ _ _ _ _ _ _ _ = _
          rw [fL_law_b523, if_neg q3i, cl3, a3, if_pos (nI_le (Nat.le_refl _) (by omega))])
        (fun f acc j hj => by
          show fL_law_b523 _ _ _ _ _ _ _ _ _ _ _ _ _ _ _ _ _ _ _ = fL_law_b523 _ _ _ _ _ _ _ _ _ _ _ _ _ _ _ _ _ _ _
          rw [fL_law_b523, if_neg q3i, cl3, a3, if_neg (nI_ge hj (by omega)), if_neg (nI_in (by omega) (by omega)), nI_clamp (by omega), bitw j hj, nI_b, nI_1 j]) 6000 0 s0' (Nat.zero_le _) (by omega)
      simp only [Nat.zero_add, Nat.sub_zero] at s
      rw [ct_sm] at s
      exact s
    have agr := step_copy hI (nI w) (nI p)
    have no : ¬ (bt (sta w) 3 = true ∧ bt (sta w) p = false) → fX8_whyNoCopy r.1 (nI w) (nI p) = some (-5) → fL_law_b508 L xs k42 (fL_law_b434 L xs k42 fuel) qv kev bov wrv opv ((mw, ke, bo, lk, lb, par, mak, wea, kob, nu, hek, hew, clo, clm, sta), o, R) (nI t) x8 (nI i) (nI w) (nI p) 0 = some 1 := fun _ hy => by
      obtain ⟨c', r', g1, g2, g3⟩ := no_copy (nI w) (nI p) agr hy (by decide)
      unfold fL_law_b508
      rw [if_pos rfl]
      have s := sums 0 0
      rw [show nI 0 = 0 from rfl] at s
      rw [s]
      unfold fL_law_b555
      rw [g1, Option.bind_some, if_pos rfl, if_pos rfl]
      unfold fL_law_b580
      rw [if_pos rfl, nI_1 i]
      exact ih (i + 1) (n + 1) r' c' wrv opv (by omega) (by omega) (by omega) hw0 g2 (by rw [g3]; exact hL)
    have why : fX8_whyNoCopy r.1 (nI w) (nI p) = some (if bt (sta w) 3 = true then (if bt (sta w) p = true then -5 else 0) else -5) := by
      unfold fX8_whyNoCopy
      have ewi : fX8_within (nI p) 0 2 = 1 := by
        unfold fX8_within
        rw [if_neg (nI_pos (by omega)), if_neg (show ¬ (2 : Int32) < nI p from nI_nlt (a := 2) (by omega) (by omega))]
      rw [if_neg ix3, cl3, b3, within_nI (by omega) (by omega), if_pos hw, if_neg n10, ewi, if_neg n10, wr4 (by omega), Option.bind_some, (hR w hw).2.2.2.2.1]
      by_cases hs : bt (sta w) 3 = true
      · rw [if_pos hs, if_neg n10, if_pos hs, wr5 (by omega), Option.bind_some, (hR w hw).2.2.2.2.2, shr_1 (by omega), and7_bt hp]
        by_cases hq : bt (sta w) p = true
        · rw [if_pos hq, if_pos rfl, if_pos hq]
        · rw [if_neg hq, if_neg (show ¬ ((0 : Int32) = 1) by decide), if_neg hq]
      · rw [if_neg hs, if_pos rfl, if_neg hs]
    unfold fL_law_b471
    rw [if_neg hin, nI_clamp (by omega), hA5]
    by_cases hs : bt (sta w) 3 = true
    · rw [if_pos hs] at why
      rw [if_pos (bit1_eq.mpr hs), if_neg (show ¬ (nI w < 0 ∨ 64 ≤ w) from fun q => q.elim (nI_pos (by omega)) (fun q => by omega)), bitw w hw]
      by_cases hq : bt (sta w) p = true
      · rw [if_pos hq] at why
        rw [if_neg (fun q => (bit0_eq.mp q) hq)]
        exact no (fun q => by rw [hq] at q; cases q.2) why
      · rw [if_neg hq] at why
        rw [if_pos (bit0_eq.mpr hq)]
        obtain ⟨c', r', g1, g2, g3⟩ := yes_copy (nI w) (nI p) agr why (copied_eq (st := r.1) b3 c1 hw hp (fun j => bt (sta j) p) (fun j hj _ => by rw [(hR j hj).2.2.2.2.2, and7_bt hp]))
        have eu := fb_ct_upd (fun j => bt (sta j) p) true (i := w) (n := nw) hw
        have eu' : fb_ct (fun j => if j = w then true else bt (sta j) p) nw = 1 + fb_ct (fun j => bt (sta j) p) nw := by
          have z : (if (fun j => bt (sta j) p) w = true then 1 else 0) = 0 := if_neg hq
          rw [z] at eu
          have z1 : (if true = true then 1 else 0) = 1 := rfl
          rw [z1] at eu
          have eu2 : fb_ct (fun j => if j = w then true else bt (sta j) p) nw + 0 = fb_ct (fun j => bt (sta j) p) nw + 1 := eu
          omega
        unfold fL_law_b508
        rw [if_neg n10]
        have s := sums 1 1
        rw [show nI 1 = 1 from rfl] at s
        rw [s]
        unfold fL_law_b555
        rw [g1, Option.bind_some, if_neg n10, eu', if_pos rfl]
        unfold fL_law_b580
        rw [if_neg n10, if_neg hin, if_neg hin, nI_clamp (by omega), e19, nI_1 i]
        exact ih (i + 1) (n + 1) r' c' _ opv (by omega) (by omega) (by omega) hw0 g2 (by rw [g3]; exact copy_sim hL hw hp)
    · rw [if_neg hs] at why
      rw [if_neg (fun q => hs (bit1_eq.mp q))]
      exact no (fun q => hs q.1) why
theorem why_renew (h : Rel n nk nb nw r.1 mw ke bo lk lb par mak wea kob nu hek hew clo clm sta) (n1 : nk ≤ 6) (n2 : nb ≤ 6) (hw50 : nw ≤ 50) {k : Nat} (hk : k < nk) (hl : bt lk k = true) :
    (par k = -6 → fX8_whyNotRenewed r.1 (nI k) = some (if nI (hf nk nb lk lb par kob k) ≤ mw then 0 else -5)) ∧ (∀ c, c < k → par k = nI c → fX8_whyNotRenewed r.1 (nI k) = some (if mw ≤ wea c then -5 else if nI (hf nk nb lk lb par kob k) ≤ mw then 0 else -5)) := by
  obtain ⟨⟨e1, e2, e3⟩, ⟨t1, t2, t3, t4, t5, t6, t7, t8⟩, ⟨c1, ⟨m0, m1, m2, em⟩, c3⟩, hW, hH, hU, ⟨s0, s1, s2, s3⟩, hK, hBx, hR⟩ := id h
  have b1 := s1.trans e1
  have b2 := s2.trans e2
  have b3 := s3.trans e3
  have h12 := hf_12 (lk := lk) (lb := lb) (par := par) (kob := kob) n1 n2 k
  have eH := hangingFrom_eq t1 t2 b1 b2 hK hBx k
  have eMs : fX8_renewMakes r.1 (nI k) = some (nI (hf nk nb lk lb par kob k + if par k = -6 then 0 else 1)) := by
    unfold fX8_renewMakes
    rw [eH, Option.bind_some, risRoot_eq (by omega) (hK k hk).1, Option.bind_some]
    by_cases hr : par k = -6
    · rw [if_pos hr, if_pos hr, if_neg n10]
      exact congrArg some (nI_add _ 0)
    · rw [if_neg hr, if_neg hr, if_pos rfl, nI_1]
  have eLive : fX8_isLiveKey r.1 (nI k) = some 1 := by
    rcases liveKey_both t1 b1 t5 hK (nI k) with ⟨k', hk', ek, hl', g1, g2⟩ | ⟨g1, g2⟩
    · exact g2
    · unfold fX5_isLiveKey at g1
      rw [has_nI (by omega), if_pos hl] at g1
      exact absurd g1 (by decide)
  have room : ∀ d, d ≤ 13 → nI nw + nI d ≤ 120 := fun d hd => by
    rw [nI_add]
    exact nI_le (b := 120) (by omega) (by omega)
  have fin : ∀ x : Int32, x = nI (hf nk nb lk lb par kob k) → (if x ≤ r.1 0 then some (0 : Int32) else some (-5)) = some (if nI (hf nk nb lk lb par kob k) ≤ mw then 0 else -5) := fun x hx => by
    rw [hx, s0]
    by_cases q : nI (hf nk nb lk lb par kob k) ≤ mw
    · rw [if_pos q, if_pos q]
    · rw [if_neg q, if_neg q]
  constructor
  · intro hr
    rw [if_pos hr] at eMs
    unfold fX8_whyNotRenewed
    rw [eLive, Option.bind_some, if_neg n10, if_neg ix3, cl3, b3, eMs, Option.bind_some, if_pos (room _ (by omega)), risRoot_eq (by omega) (hK k hk).1, Option.bind_some, if_pos hr, if_neg n10, eH, Option.bind_some, if_neg ix0, cl0]
    exact fin _ rfl
  · intro c hc ec
    have hr : ¬ par k = -6 := by rw [ec]; exact nI_ne6 (by omega)
    rw [if_neg hr] at eMs
    obtain ⟨-, x, x1, x2⟩ := c3 c (by omega)
    obtain ⟨l1, l2⟩ := left_both (mw := mw) (wea := wea) (st := r.1) (k := c) (by omega) m2 (by omega : x ≤ 120) em x2 s0 (hK c (by omega)).2.2.2
    unfold fX8_whyNotRenewed
    rw [eLive, Option.bind_some, if_neg n10, if_neg ix3, cl3, b3, eMs, Option.bind_some, if_pos (room _ (by omega)), risRoot_eq (by omega) (hK k hk).1, Option.bind_some, if_neg hr, if_pos rfl, key0 (by omega), Option.bind_some, (hK k hk).1, ec, l2, Option.bind_some]
    by_cases hcw : m0 ≤ x
    · rw [if_pos hcw, if_pos rfl, if_pos (show mw ≤ wea c by rw [em, x2]; exact nI_le hcw (by omega))]
    · rw [if_neg hcw, if_neg n10, eH, Option.bind_some, if_neg ix0, cl0, if_neg (show ¬ mw ≤ wea c by rw [em, x2]; exact nI_ge (by omega) (by omega))]
      exact fin _ rfl
theorem act_renew (hI : Inv0 n ((mw, ke, bo, lk, lb, par, mak, wea, kob, nu, hek, hew, clo, clm, sta), o, R) r) (h : Rel n nk nb nw r.1 mw ke bo lk lb par mak wea kob nu hek hew clo clm sta) (hL : LSt r.1 nk nb nw qv kev bov wrv) (hn : n ≤ 3 * t) (ht : t < 18) (hgo : Go k42 t) (hw50 : nw ≤ 50) {k : Nat} (hk : k < nk ∨ (nk = 0 ∧ k = 0)) (opv : Nat → Int64) (x8 : Int32) : fL_law_b616 L xs k42 qv kev bov wrv opv ((mw, ke, bo, lk, lb, par, mak, wea, kob, nu, hek, hew, clo, clm, sta), o, R) (nI t) x8 (nI k) (if bt lk k = true then 1 else 0) = some 1 := by
  obtain ⟨⟨e1, e2, e3⟩, ⟨t1, t2, t3, t4, t5, t6, t7, t8⟩, ⟨c1, ⟨m0, m1, m2, em⟩, c3⟩, hW, hH, hU, ⟨s0, s1, s2, s3⟩, hK, hBx, hR⟩ := id h
  obtain ⟨⟨⟨a0, a1, a2, a3⟩, ⟨b1, b2, b3⟩, n1, n2, n3⟩, hLK, hZ, hLB, hLW⟩ := id hL
  unfold fL_law_b616
  by_cases hl : bt lk k = true
  · have hkn : k < nk := by
      rcases hk with hk | ⟨hk, rfl⟩
      · exact hk
      · rw [t5 0 (by omega)] at hl; cases hl
    have h12 := hf_12 (lk := lk) (lb := lb) (par := par) (kob := kob) n1 n2 k
    obtain ⟨l0, -⟩ := hLK k hkn
    rw [if_pos hl, if_neg n10]
    unfold fL_law_b624
    rw [i4, if_neg (nI_in (by omega) (by omega)), hang_eq hL (RK3_of hK) hBx (by omega : k < 2 ^ 31), Option.bind_some, nI_clamp (by omega), l0, (hK k hkn).1]
    have agr := step_renew (by omega) hI (nI k)
    obtain ⟨wr, wn⟩ := why_renew h n1 n2 hw50 hkn hl
    have neg : fX8_whyNotRenewed r.1 (nI k) = some (-5) → fL_law_b677 L xs k42 qv kev bov wrv opv ((mw, ke, bo, lk, lb, par, mak, wea, kob, nu, hek, hew, clo, clm, sta), o, R) (nI t) x8 (nI k) (pm (par k)) (nI (hf nk nb lk lb par kob k)) 0 = some 1 := fun hy => by
      obtain ⟨c', r', g1, g2, g3⟩ := no_renew (nI k) agr hy (by decide)
      unfold fL_law_b677
      rw [g1, Option.bind_some, if_pos rfl]
      unfold fL_law_b706
      rw [if_pos rfl]
      unfold fL_law_b711
      rw [if_pos rfl]
      exact fin_1208 g2 (by rw [g3]; exact hL) (by omega) ht hgo opv x8
    have pos : fX8_whyNotRenewed r.1 (nI k) = some 0 → fL_law_b677 L xs k42 qv kev bov wrv opv ((mw, ke, bo, lk, lb, par, mak, wea, kob, nu, hek, hew, clo, clm, sta), o, R) (nI t) x8 (nI k) (pm (par k)) (nI (hf nk nb lk lb par kob k)) 1 = some 1 := fun hy => by
      obtain ⟨st', nw', q', k', w', wa, z1, z2, z3, z4⟩ := renew_sim h (by omega) hL hkn (by omega)
      obtain ⟨c', r', g1, g2, g3⟩ := yes_renew (nI k) agr hy z1
      have hfin := fun x8 => fin_1208 (L := L) (xs := xs) g2 (show LSt r'.1 nk nb nw' q' k' bov w' by rw [g3]; exact z2) (by omega) ht hgo opv x8
      have i42 : ¬ (nI (4 * k + 2) < 0 ∨ 24 ≤ (nI (4 * k + 2)).toNatClampNeg) := nI_in (by omega) (by omega)
      have i43 : ¬ (nI (4 * k + 3) < 0 ∨ 24 ≤ (nI (4 * k + 3)).toNatClampNeg) := nI_in (by omega) (by omega)
      unfold fL_law_b677
      rw [g1, Option.bind_some, if_neg n10]
      rcases z4 with ⟨hr, v, z5⟩ | ⟨c, q2, k2, w2, v, hck, ec, z5, z6⟩
      · rw [hr, pm_6, if_neg (show ¬ (0 : Int32) ≤ -1 by decide), if_pos rfl]
        unfold fL_law_b706
        rw [if_pos (show nI (hf nk nb lk lb par kob k + 0) = nI (hf nk nb lk lb par kob k) + 0 from (nI_add _ 0).symm)]
        unfold fL_law_b711
        rw [if_neg n10, i4, i4p2, i4p3, if_neg i42, if_neg i42, if_neg i43, nI_clamp (by omega), nI_clamp (by omega), z3, Option.bind_some, if_pos (show (-1 : Int32) < 0 by decide), z5, Option.bind_some]
        exact hfin x8
      · have hr : ¬ par k = -6 := by rw [ec]; exact nI_ne6 (by omega)
        rw [if_neg hr, ec, pm_nI (by omega), if_pos (nI_pos' (by omega))]
        unfold fL_law_b706
        rw [if_pos (nI_1 _).symm]
        unfold fL_law_b711
        rw [if_neg n10, i4, i4p2, i4p3, if_neg i42, if_neg i42, if_neg i43, nI_clamp (by omega), nI_clamp (by omega), z3, Option.bind_some, if_neg (nI_pos (by omega)), if_neg (show ¬ (nI (4 * k + 2) < 0 ∨ 24 ≤ 4 * k + 2) from fun q => q.elim (nI_pos (by omega)) (fun q => by omega)), z5, Option.bind_some, z6, Option.bind_some]
        exact hfin x8
    unfold fL_law_b643
    rw [if_neg q0i, cl0, a0, s0]
    have nle : ∀ {a b : Int32}, ¬ a < b → b ≤ a := fun {a b} hab => by
      rcases Classical.em (b ≤ a) with q | q
      · exact q
      · exact absurd (not_le_I.mp q) hab
    by_cases hm : mw < nI (hf nk nb lk lb par kob k)
    · rw [if_pos hm]
      have hmm : ¬ nI (hf nk nb lk lb par kob k) ≤ mw := not_le_I.mpr hm
      refine neg ?_
      rcases t3 k hkn with e | ⟨j, hj, e⟩
      · rw [wr e, if_neg hmm]
      · rw [wn j hj e, if_neg hmm]
        by_cases q : mw ≤ wea j
        · rw [if_pos q]
        · rw [if_neg q]
    · rw [if_neg hm]
      have hmm := nle hm
      rcases t3 k hkn with e | ⟨j, hj, e⟩
      · rw [e, pm_6, if_pos (show (-1 : Int32) < 0 by decide)]
        have := pos (by rw [wr e, if_pos hmm])
        rw [e, pm_6] at this
        exact this
      · obtain ⟨-, -, -, l3⟩ := hLK j (by omega)
        rw [e, pm_nI (by omega), if_neg (nI_pos (by omega)), i4, i4p3, if_neg (nI_in (by omega) (by omega)), if_neg q0j, nI_clamp (by omega), l3, (hK j (by omega)).2.2.2]
        by_cases q : mw ≤ wea j
        · rw [if_pos q]
          have := neg (by rw [wn j hj e, if_pos q])
          rw [e, pm_nI (by omega)] at this
          exact this
        · rw [if_neg q]
          have := pos (by rw [wn j hj e, if_neg q, if_pos hmm])
          rw [e, pm_nI (by omega)] at this
          exact this
  · rw [if_neg hl, if_pos rfl]
    exact fin_1229 hI hL (by omega) hgo opv
end ACTB
