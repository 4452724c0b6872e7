/-! a key, a box is thrown away -/
theorem ct_but {n a : Nat} (p : Nat → Bool) (ha : a < n) : fb_ct (fun j => p j && !decide (j = a)) n = fb_ct p n - (if p a = true then 1 else 0) := by
  have h := fb_ct_upd p false (i := a) (n := n) ha
  have e : fb_ct (fun j => p j && !decide (j = a)) n = fb_ct (fun k => if k = a then false else p k) n := fb_ct_cong (fun k _ => by
    by_cases hk : k = a <;> simp [hk])
  have h2 : fb_ct (fun k => if k = a then false else p k) n + (if p a = true then 1 else 0) = fb_ct p n + 0 := h
  rw [e]
  omega
section THROWN
variable {B nk nb nw : Nat} {st : Nat → Int32} {mw ke bo lk lb nu : Int32} {par mak wea kob hek hew clo clm sta : Nat → Int32}
theorem hone_key {a k : Nat} (ha : a < nk) (ht : nk ≤ 20) (hl : bt lk a = true) (e : nI k = par a) : 1 ≤ hf nk nb lk lb par kob k := by
  have : 0 < fb_ct (onK nk lk par k) 20 := fb_ct_pos.mpr ⟨a, by omega, by simp [onK, ha, e, hl]⟩
  unfold hf; omega
theorem hone_box {b k : Nat} (hb : b < nb) (ht : nb ≤ 20) (hl : bt lb b = true) (e : nI k = kob b) : 1 ≤ hf nk nb lk lb par kob k := by
  have : 0 < fb_ct (onK nb lb kob k) 20 := fb_ct_pos.mpr ⟨b, by omega, by simp [onK, hb, e, hl]⟩
  unfold hf; omega
theorem cw_key {a k : Nat} (ha : a < nk) (ht : nk ≤ 20) (hl : bt lk a = true) {tK tB : Int32} (hK : ∀ j, j < nk → par j = nI k → (bt tK j = true ↔ j = a)) (hB : ∀ b, b < nb → kob b = nI k → bt tB b = false) : cw nk nb lk lb tK tB par kob k = rc nk nb lk lb par kob (par a) k := by
  unfold cw rc hf
  have e1 : fb_ct (fun j => onK nk lk par k j && !bt tK j) 20 = fb_ct (fun j => onK nk lk par k j && !decide (j = a)) 20 := fb_ct_cong (fun j _ => by
    by_cases h : onK nk lk par k j = true
    · have h' := h
      simp [onK] at h'
      have := hK j h'.1.1 h'.1.2
      rw [h, Bool.true_and, Bool.true_and]
      congr 1
      rw [Bool.eq_iff_iff, this, decide_eq_true_eq]
    · rw [Bool.eq_false_iff.mpr h, Bool.false_and, Bool.false_and])
  have e2 : fb_ct (fun j => onK nb lb kob k j && !bt tB j) 20 = fb_ct (onK nb lb kob k) 20 := fb_ct_cong (fun j _ => by
    by_cases h : onK nb lb kob k j = true
    · have h' := h
      simp [onK] at h'
      rw [h, hB j h'.1.1 h'.1.2]; rfl
    · rw [Bool.eq_false_iff.mpr h]; rfl)
  rw [e1, e2, ct_but _ (by omega)]
  have e3 : (onK nk lk par k a = true) ↔ nI k = par a := by
    simp only [onK, Bool.and_eq_true, decide_eq_true_eq]
    exact ⟨fun q => q.1.2.symm, fun q => ⟨⟨ha, q.symm⟩, hl⟩⟩
  simp only [e3]
  by_cases h : nI k = par a
  · rw [if_pos h]
    have : 0 < fb_ct (onK nk lk par k) 20 := fb_ct_pos.mpr ⟨a, by omega, e3.mpr h⟩
    omega
  · rw [if_neg h]; omega
theorem cw_box {b k : Nat} (hb : b < nb) (ht : nb ≤ 20) (hl : bt lb b = true) {tK tB : Int32} (hK : ∀ j, j < nk → par j = nI k → bt tK j = false) (hB : ∀ j, j < nb → kob j = nI k → (bt tB j = true ↔ j = b)) : cw nk nb lk lb tK tB par kob k = rc nk nb lk lb par kob (kob b) k := by
  unfold cw rc hf
  have e1 : fb_ct (fun j => onK nb lb kob k j && !bt tB j) 20 = fb_ct (fun j => onK nb lb kob k j && !decide (j = b)) 20 := fb_ct_cong (fun j _ => by
    by_cases h : onK nb lb kob k j = true
    · have h' := h
      simp [onK] at h'
      have := hB j h'.1.1 h'.1.2
      rw [h, Bool.true_and, Bool.true_and]
      congr 1
      rw [Bool.eq_iff_iff, this, decide_eq_true_eq]
    · rw [Bool.eq_false_iff.mpr h, Bool.false_and, Bool.false_and])
  have e2 : fb_ct (fun j => onK nk lk par k j && !bt tK j) 20 = fb_ct (onK nk lk par k) 20 := fb_ct_cong (fun j _ => by
    by_cases h : onK nk lk par k j = true
    · have h' := h
      simp [onK] at h'
      rw [h, hK j h'.1.1 h'.1.2]; rfl
    · rw [Bool.eq_false_iff.mpr h]; rfl)
  rw [e1, e2, ct_but _ (by omega)]
  have e3 : (onK nb lb kob k b = true) ↔ nI k = kob b := by
    simp only [onK, Bool.and_eq_true, decide_eq_true_eq]
    exact ⟨fun q => q.1.2.symm, fun q => ⟨⟨hb, q.symm⟩, hl⟩⟩
  simp only [e3]
  by_cases h : nI k = kob b
  · rw [if_pos h]
    have : 0 < fb_ct (onK nb lb kob k) 20 := fb_ct_pos.mpr ⟨b, by omega, e3.mpr h⟩
    omega
  · rw [if_neg h]; omega
/-- a key that is thrown away is not above what it hangs from -/
theorem not_above (hP : PT nk par) (hk : nk ≤ 20) {a k : Nat} (ha : a < nk) (h : k ∈ up par (par a)) : ¬ a ∈ up par (nI k) := fun q => by
  have h1 := up_par_lt hP hk ha h
  have := up_le hP hk k (by omega) a q
  omega
theorem below_iff (hP : PT nk par) (hk : nk ≤ 20) {a k j : Nat} (ha : a < nk) (hk2 : k ∈ up par (par a)) (hj : j < nk) (e : par j = nI k) : a ∈ up par (nI j) ↔ j = a := by
  rw [up_k hP hk hj, List.mem_cons, e]
  exact ⟨fun q => (q.resolve_right (not_above hP hk ha hk2)).symm, fun q => Or.inl q.symm⟩
/-- the set above a box -/
theorem aboveBox_eq (hP : PT nk par) (hk : nk ≤ 20) {b j0 : Nat} (hb : b < 20) (hj : j0 < nk) (e : kob b = nI j0) : ∃ m, fX5_aboveBox par kob (nI b) = some m ∧ ∀ j, j < 32 → bt m j = decide (j ∈ up par (nI j0)) := by
  obtain ⟨m, e1, e2⟩ := above_eq hP hk hj
  refine ⟨m ||| fX7_setOf (nI j0), ?_, fun j hj2 => ?_⟩
  · unfold fX5_aboveBox
    rw [rAt_nI hb (by omega), e, e1]
    rfl
  · rw [bt_add (by omega) hj2, e2 j hj2, up_k hP hk hj]
    by_cases h : j = j0 <;> simp [h]
theorem flagB {a : Nat} (ha : a < nk) (hP : PT nk par) (hk : nk ≤ 20) (hb : nb ≤ 20) (hKB : KB nk nb kob) {y2 : Int32} : ∀ fuel i s, i ≤ nb → nb < i + fuel → s 2 = nI nb → (∀ k, k < nk → s (4 + 4 * k) = par k) → (∀ b, b < nb → s (84 + 2 * b) = kob b) →
    ∃ s', fX8_keyThrown_b13 fuel s (nI a) y2 (nI i) = fX8_keyThrown_b52 6000 s' (nI a) y2 0 ∧ (∀ j, (∀ b, b < nb → j ≠ 84 + 2 * b + 1) → s' j = s j) ∧ (∀ b, b < i → s' (84 + 2 * b + 1) = s (84 + 2 * b + 1)) ∧ ∀ b, i ≤ b → b < nb → s' (84 + 2 * b + 1) = if a ∈ up par (kob b) then 0 else s (84 + 2 * b + 1) := by
  intro fuel
  induction fuel with
  | zero => intro i s h1 h2; omega
  | succ fuel ih =>
    intro i s h1 h2 h3 hc hcb
    rw [fX8_keyThrown_b13, if_neg ix2, cl2, h3]
    by_cases hi : i < nb
    · obtain ⟨j0, hj0, ej0⟩ := hKB i hi
      rw [if_neg (nI_ge hi (by omega)), box0 (by omega), Option.bind_some, hcb i hi, under_eq hP hk hc ha (Or.inr ⟨j0, hj0, ej0⟩), Option.bind_some, nI_1]
      by_cases hu : a ∈ up par (kob i)
      · have es : fX8_setBox s (nI i) 1 0 = some (upd s (84 + 2 * i + 1) 0) := setBox_nI (by omega) (p := 1) (by omega) s 0
        rw [if_pos hu, if_neg (show ¬ ((1 : Int32) = 0) by decide), es, Option.bind_some]
        obtain ⟨s', e1, e2, e3, e4⟩ := ih (i + 1) (upd s (84 + 2 * i + 1) 0) hi (by omega) (by rw [pk_un (by omega)]; exact h3) (fun k hk2 => by rw [pk_un (by omega)]; exact hc k hk2) (fun b hb2 => by rw [pk_un (by omega)]; exact hcb b hb2)
        refine ⟨s', e1, fun j hj => by rw [e2 j hj, pk_un (hj i hi)], fun b hb2 => by rw [e3 b (by omega), pk_un (by omega)], fun b hb1 hb2 => ?_⟩
        by_cases hbi : b = i
        · subst hbi
          rw [e3 b (Nat.lt_succ_self _), pk_us, if_pos hu]
        · rw [e4 b (by omega) hb2, pk_un (by omega)]
      · rw [if_neg hu, if_pos rfl]
        obtain ⟨s', e1, e2, e3, e4⟩ := ih (i + 1) s hi (by omega) h3 hc hcb
        refine ⟨s', e1, e2, fun b hb2 => e3 b (by omega), fun b hb1 hb2 => ?_⟩
        by_cases hbi : b = i
        · subst hbi
          rw [e3 b (Nat.lt_succ_self _), if_neg hu]
        · exact e4 b (by omega) hb2
    · have hin : i = nb := by omega
      subst hin
      rw [if_pos (nI_le (Nat.le_refl _) (by omega))]
      exact ⟨s, rfl, fun j _ => rfl, fun b _ => rfl, fun b h1 h2 => by omega⟩
theorem flagK {a : Nat} (ha : a < nk) (hP : PT nk par) (hk : nk ≤ 20) {y2 : Int32} : ∀ fuel i s, i ≤ nk → nk < i + fuel → s 1 = nI nk → (∀ k, k < nk → s (4 + 4 * k) = par k) →
    ∃ s', fX8_keyThrown_b52 fuel s (nI a) y2 (nI i) = (fX8_makesAboveAnew s' (par a)).bind (fun q5 => some (y2, q5)) ∧ (∀ j, (∀ b, b < nk → j ≠ 4 + 4 * b + 1) → s' j = s j) ∧ (∀ b, b < i → s' (4 + 4 * b + 1) = s (4 + 4 * b + 1)) ∧ ∀ b, i ≤ b → b < nk → s' (4 + 4 * b + 1) = if a ∈ up par (nI b) then 0 else s (4 + 4 * b + 1) := by
  intro fuel
  induction fuel with
  | zero => intro i s h1 h2; omega
  | succ fuel ih =>
    intro i s h1 h2 h3 hc
    rw [fX8_keyThrown_b52, if_neg ix1, cl1, h3]
    by_cases hi : i < nk
    · rw [if_neg (nI_ge hi (by omega)), under_eq hP hk hc ha (Or.inr ⟨i, hi, rfl⟩), Option.bind_some, nI_1]
      by_cases hu : a ∈ up par (nI i)
      · have es : fX8_setKey s (nI i) 1 0 = some (upd s (4 + 4 * i + 1) 0) := setKey_nI (by omega) (p := 1) (by omega) s 0
        rw [if_pos hu, if_neg (show ¬ ((1 : Int32) = 0) by decide), es, Option.bind_some]
        obtain ⟨s', e1, e2, e3, e4⟩ := ih (i + 1) (upd s (4 + 4 * i + 1) 0) hi (by omega) (by rw [pk_un (by omega)]; exact h3) (fun k hk2 => by rw [pk_un (by omega)]; exact hc k hk2)
        refine ⟨s', e1, fun j hj => by rw [e2 j hj, pk_un (hj i hi)], fun b hb2 => by rw [e3 b (by omega), pk_un (by omega)], fun b hb1 hb2 => ?_⟩
        by_cases hbi : b = i
        · subst hbi
          rw [e3 b (Nat.lt_succ_self _), pk_us, if_pos hu]
        · rw [e4 b (by omega) hb2, pk_un (by omega)]
      · rw [if_neg hu, if_pos rfl]
        obtain ⟨s', e1, e2, e3, e4⟩ := ih (i + 1) s hi (by omega) h3 hc
        refine ⟨s', e1, e2, fun b hb2 => e3 b (by omega), fun b hb1 hb2 => ?_⟩
        by_cases hbi : b = i
        · subst hbi
          rw [e3 b (Nat.lt_succ_self _), if_neg hu]
        · exact e4 b (by omega) hb2
    · have hin : i = nk := by omega
      subst hin
      rw [if_pos (nI_le (Nat.le_refl _) (by omega)), key0 (by omega), Option.bind_some, hc a ha]
      exact ⟨s, rfl, fun j _ => rfl, fun b _ => rfl, fun b h1 h2 => by omega⟩
noncomputable def cThrow (w : Int32) (v : HV) (a : Int32) : Option (Int32 × HV) := (fX1_throwAway v.1 v.2.1 v.2.2.1 v.2.2.2.1 v.2.2.2.2.1 v.2.2.2.2.2.1 v.2.2.2.2.2.2.1 v.2.2.2.2.2.2.2.1 v.2.2.2.2.2.2.2.2.1 v.2.2.2.2.2.2.2.2.2.1 v.2.2.2.2.2.2.2.2.2.2.1 v.2.2.2.2.2.2.2.2.2.2.2.1 v.2.2.2.2.2.2.2.2.2.2.2.2.1 v.2.2.2.2.2.2.2.2.2.2.2.2.2.1 v.2.2.2.2.2.2.2.2.2.2.2.2.2.2 w a).bind fun q =>
  some (q.1, (v.1, v.2.1, v.2.2.1, q.2.1, q.2.2.1, v.2.2.2.2.2.1, q.2.2.2.1, q.2.2.2.2.1, v.2.2.2.2.2.2.2.2.1, q.2.2.2.2.2.1, q.2.2.2.2.2.2.1, q.2.2.2.2.2.2.2.1, q.2.2.2.2.2.2.2.2.1, q.2.2.2.2.2.2.2.2.2.1, q.2.2.2.2.2.2.2.2.2.2))
theorem core_throwKey (hB : B < 2 ^ 30) (h : RelV B st (mw, ke, bo, lk, lb, par, mak, wea, kob, nu, hek, hew, clo, clm, sta)) (a0 : Int32) : Core B st (mw, ke, bo, lk, lb, par, mak, wea, kob, nu, hek, hew, clo, clm, sta) (cThrow 0 (mw, ke, bo, lk, lb, par, mak, wea, kob, nu, hek, hew, clo, clm, sta) a0) (fX8_whyKeyNotThrown st a0) (fX8_keyThrown st a0) := by
  obtain ⟨nk, nb, nw, h⟩ := h
  have h : Rel B nk nb nw st mw ke bo lk lb par mak wea kob nu hek hew clo clm sta := h
  obtain ⟨⟨rfl, rfl, rfl⟩, ⟨t1, t2, t3, t4, t5, t6, t7, t8⟩, ⟨c1, c2, c3⟩, hW, hH, hU, ⟨s0, s1, s2, s3⟩, hK, hBx, hR⟩ := id h
  unfold cThrow
  dsimp only
  unfold fX1_throwAway fX8_whyKeyNotThrown fX5_isLive fX5_aboveThat
  rw [if_pos rfl]
  rcases liveKey_both t1 s1 t5 hK a0 with ⟨a, ha, rfl, hl, e1, e2⟩ | ⟨e1, e2⟩
  · obtain ⟨S, g1, g2⟩ := above_eq t3 t1 ha
    obtain ⟨tK, g3, g4⟩ := below_eq t3 t1 ha
    obtain ⟨tB, g5, g6⟩ := liveBoxesOn_eq (liveB := lb) (kob := kob) t2 tK
    have hp := PT_up t3 ha
    have hTB : ∀ b j, b < nb → j < nk → kob b = nI j → (bt tB b = true ↔ (a ∈ up par (nI j) ∧ bt lb b = true)) := fun b j hb hj e => by
      rw [g6 b (by omega), e, hs_nI (by omega), g4 j (by omega)]
      simp [hb, hj]
    obtain ⟨x, lk2, lb2, mak2, wea2, nu2, hek2, hew2, clo2, clm2, sta2, z1, z2⟩ := throw_gen h hB hp g2 (tK := tK) (tB := tB)
      (fun k j hk hj hT e _ => by
        rw [g4 j (by omega)] at hT
        rw [g4 k (by omega), up_k t3 t1 hk, e]
        simp at hT
        simp [hk, hT.2])
      (fun b j hb hj hT e hlb => by
        rw [g4 j (by omega)] at hT
        simp at hT
        exact (hTB b j hb hj e).mpr ⟨hT.2, hlb⟩)
      (fun k _ e => hone_key ha t1 hl e)
      (fun k hk => cw_key ha t1 hl (fun j hj e => by
          rw [g4 j (by omega)]
          simp only [hj, decide_true, Bool.true_and, decide_eq_true_eq]
          exact below_iff t3 t1 ha hk hj e)
        (fun b hb e => by
          have hkn := up_nk t3 t1 hp hk
          rcases Bool.eq_false_or_eq_true (bt tB b) with q | q
          · exact absurd ((hTB b k hb hkn e).mp q).1 (not_above t3 t1 ha hk)
          · exact q))
    rw [e1, e2, Option.bind_some, if_neg (show ¬ ((1 : Int32) = 0) by decide), if_neg (show ¬ ((1 : Int32) = 0) by decide), if_pos rfl, g1, Option.bind_some, Option.bind_some, if_pos rfl, g3, Option.bind_some, if_pos rfl, g5, Option.bind_some, z1, key0 (by omega), Option.bind_some, Option.bind_some, (hK a ha).1]
    rcases z2 with ⟨y1, y2, y3⟩ | ⟨y1, y2, y3, y4⟩
    · simp only [Prod.mk.injEq] at y2
      obtain ⟨rfl, rfl, rfl, rfl, rfl, rfl, rfl, rfl, rfl, rfl⟩ := y2
      rw [y3]
      exact Core.no x y1 rfl rfl
    · refine ⟨x, _, rfl, Or.inr ⟨y1, by rw [y2]; rfl, ?_⟩⟩
      -- the reference's flags
      obtain ⟨sA, a1, a2, -, a4⟩ := flagB (y2 := x) ha t3 t1 t2 t4 6000 0 st (Nat.zero_le _) (by omega) s2 (fun k hk => (hK k hk).1) (fun b hb => (hBx b hb).1)
      obtain ⟨sB, b1, b2, -, b4⟩ := flagK (y2 := x) ha t3 t1 6000 0 sA (Nat.zero_le _) (by omega) (by rw [a2 1 (fun b _ => by omega)]; exact s1) (fun k hk => by rw [a2 _ (fun b _ => by omega)]; exact (hK k hk).1)
      obtain ⟨st', f1, f2⟩ := y4 sB (lk &&& (tK ^^^ (-1))) (lb &&& (tB ^^^ (-1))) (fun i hi => by rw [b_and, b_not tK hi]) (fun i hi => by rw [b_and, b_not tB hi])
        ⟨by rw [b2 0 (fun b _ => by omega), a2 0 (fun b _ => by omega)]; exact s0, by rw [b2 1 (fun b _ => by omega), a2 1 (fun b _ => by omega)]; exact s1, by rw [b2 2 (fun b _ => by omega), a2 2 (fun b _ => by omega)]; exact s2, by rw [b2 3 (fun b _ => by omega), a2 3 (fun b _ => by omega)]; exact s3⟩
        (fun k hk => by
          obtain ⟨r0, r1, r2, r3⟩ := hK k hk
          rw [b2 (4 + 4 * k) (fun b _ => by omega), a2 (4 + 4 * k) (fun b _ => by omega), b2 (4 + 4 * k + 2) (fun b _ => by omega), a2 (4 + 4 * k + 2) (fun b _ => by omega), b2 (4 + 4 * k + 3) (fun b _ => by omega), a2 (4 + 4 * k + 3) (fun b _ => by omega), b4 k (Nat.zero_le _) hk, a2 (4 + 4 * k + 1) (fun b _ => by omega), r1, b_and, b_not tK (by omega), g4 k (by omega)]
          refine ⟨r0, ?_, r2, r3⟩
          by_cases hu : a ∈ up par (nI k)
          · simp [hu, hk]
          · simp [hu])
        (fun b hb => by
          obtain ⟨r0, r1⟩ := hBx b hb
          obtain ⟨j, hj, ej⟩ := t4 b hb
          rw [b2 (84 + 2 * b) (fun b _ => by omega), a2 (84 + 2 * b) (fun b _ => by omega), b2 (84 + 2 * b + 1) (fun b _ => by omega), a4 b (Nat.zero_le _) hb, r1, b_and, b_not tB (by omega)]
          refine ⟨r0, ?_⟩
          have hq := hTB b j hb hj ej
          rw [ej]
          by_cases hu : a ∈ up par (nI j)
          · rw [if_pos hu]
            rcases Bool.eq_false_or_eq_true (bt lb b) with hlb | hlb
            · rw [hlb, hq.mpr ⟨hu, hlb⟩]; rfl
            · rw [hlb]; rfl
          · rw [if_neg hu]
            have : bt tB b = false := Bool.eq_false_iff.mpr (fun q => hu (hq.mp q).1)
            rw [this]; simp)
        (fun j hj => by rw [b2 j (fun b _ => by omega), a2 j (fun b _ => by omega)])
      refine ⟨st', ?_, f2⟩
      unfold fX8_keyThrown
      have a1' : fX8_keyThrown_b13 6000 st (nI a) x 0 = fX8_keyThrown_b52 6000 sA (nI a) x 0 := a1
      have b1' : fX8_keyThrown_b52 6000 sA (nI a) x 0 = (fX8_makesAboveAnew sB (par a)).bind (fun q5 => some (x, q5)) := b1
      rw [key0 (by omega), Option.bind_some, (hK a ha).1, y3, Option.bind_some, a1', b1', f1]
      rfl
  · rw [e1, e2, Option.bind_some, if_pos rfl, if_pos rfl]
    exact Core.no (-1) (by decide) rfl rfl
theorem core_throwBox (hB : B < 2 ^ 30) (h : RelV B st (mw, ke, bo, lk, lb, par, mak, wea, kob, nu, hek, hew, clo, clm, sta)) (a0 : Int32) : Core B st (mw, ke, bo, lk, lb, par, mak, wea, kob, nu, hek, hew, clo, clm, sta) (cThrow 1 (mw, ke, bo, lk, lb, par, mak, wea, kob, nu, hek, hew, clo, clm, sta) a0) (fX8_whyBoxNotThrown st a0) (fX8_boxThrown st a0) := by
  obtain ⟨nk, nb, nw, h⟩ := h
  have h : Rel B nk nb nw st mw ke bo lk lb par mak wea kob nu hek hew clo clm sta := h
  obtain ⟨⟨rfl, rfl, rfl⟩, ⟨t1, t2, t3, t4, t5, t6, t7, t8⟩, ⟨c1, c2, c3⟩, hW, hH, hU, ⟨s0, s1, s2, s3⟩, hK, hBx, hR⟩ := id h
  have n10 : ¬ ((1 : Int32) = 0) := by decide
  unfold cThrow
  dsimp only
  unfold fX1_throwAway fX8_whyBoxNotThrown fX5_isLive fX5_aboveThat
  rw [if_neg n10]
  rcases liveBox_both t2 s2 t6 hBx a0 with ⟨b, hb, rfl, hl, e1, e2⟩ | ⟨e1, e2⟩
  · obtain ⟨j0, hj0, ej0⟩ := t4 b hb
    obtain ⟨S, g1, g2⟩ := aboveBox_eq t3 t1 (by omega : b < 20) hj0 ej0
    have hp : Up nk (kob b) := Or.inr ⟨j0, hj0, ej0⟩
    have g2' : ∀ j, j < 32 → bt S j = decide (j ∈ up par (kob b)) := fun j hj => by rw [g2 j hj, ej0]
    obtain ⟨x, lk2, lb2, mak2, wea2, nu2, hek2, hew2, clo2, clm2, sta2, z1, z2⟩ := throw_gen h hB hp g2' (tK := 0) (tB := fX7_setOf (nI b))
      (fun k j hk hj hT => by rw [b_0] at hT; cases hT)
      (fun b' j hb' hj hT => by rw [b_0] at hT; cases hT)
      (fun k _ e => hone_box hb t2 hl e)
      (fun k hk => cw_box hb t2 hl (fun j hj e => b_0 j) (fun j hj e => by
        rw [bt_setOf (by omega) (by omega), decide_eq_true_eq]))
    rw [e1, e2]
    simp only [if_neg n10, Option.bind_some]
    rw [g1]
    simp only [Option.bind_some]
    rw [z1, box0 (by omega), Option.bind_some, Option.bind_some, (hBx b hb).1]
    rcases z2 with ⟨y1, y2, y3⟩ | ⟨y1, y2, y3, y4⟩
    · simp only [Prod.mk.injEq] at y2
      obtain ⟨rfl, rfl, rfl, rfl, rfl, rfl, rfl, rfl, rfl, rfl⟩ := y2
      rw [y3]
      exact Core.no x y1 rfl rfl
    · refine ⟨x, _, rfl, Or.inr ⟨y1, by rw [y2]; rfl, ?_⟩⟩
      have es : fX8_setBox st (nI b) 1 0 = some (upd st (84 + 2 * b + 1) 0) := setBox_nI (by omega) (p := 1) (by omega) st 0
      obtain ⟨st', f1, f2⟩ := y4 (upd st (84 + 2 * b + 1) 0) lk (lb &&& (fX7_setOf (nI b) ^^^ (-1))) (fun i hi => by rw [b_0]; simp) (fun i hi => by rw [b_and, b_not _ hi])
        ⟨by rw [pk_un (by omega)]; exact s0, by rw [pk_un (by omega)]; exact s1, by rw [pk_un (by omega)]; exact s2, by rw [pk_un (by omega)]; exact s3⟩
        (fun k hk => by
          rw [pk_un (by omega), pk_un (by omega), pk_un (by omega), pk_un (by omega)]
          exact hK k hk)
        (fun b' hb' => by
          obtain ⟨r0, r1⟩ := hBx b' hb'
          rw [b_and, b_not _ (by omega), bt_setOf (by omega) (by omega)]
          by_cases hbb : b' = b
          · subst hbb
            rw [pk_un (by omega), pk_us]
            exact ⟨r0, by simp⟩
          · rw [pk_un (by omega), pk_un (by omega)]
            exact ⟨r0, by rw [r1]; simp [hbb]⟩)
        (fun j hj => pk_un (by omega))
      refine ⟨st', ?_, f2⟩
      unfold fX8_boxThrown
      rw [box0 (by omega), Option.bind_some, (hBx b hb).1, y3, Option.bind_some, es, Option.bind_some, box0 (by omega), Option.bind_some, pk_un (by omega), (hBx b hb).1, f1]
      rfl
  · rw [e1, e2, Option.bind_some, if_pos rfl, if_pos rfl]
    exact Core.no (-1) (by decide) rfl rfl
end THROWN
