/-! all that hangs from a key is wrapped: both sides -/
def onK (nk : Nat) (lk : Int32) (par : Nat → Int32) (k j : Nat) : Bool := decide (j < nk) && decide (par j = nI k) && bt lk j
def hf (nk nb : Nat) (lk lb : Int32) (par kob : Nat → Int32) (k : Nat) : Nat := fb_ct (onK nk lk par k) 20 + fb_ct (onK nb lb kob k) 20
def Pend (nw : Nat) (clo sta : Nat → Int32) (k : Nat) : Prop := ∀ w, w < nw → bt (sta w) 3 = true → ¬ clo w = nI k
section WALL
variable {B nk nb : Nat} {mw ke bo lk lb : Int32} {par mak kob : Nat → Int32}
theorem wall_idle1 (q2 q3 nu : Int32) (wea hek hew clo clm sta : Nat → Int32) : ∀ fuel i, i ≤ 20 → 20 < i + fuel → (∀ j, i ≤ j → j < 20 → bt q2 j = false) → fX1_wrapAllOn_b27 fuel ke bo lk lb par mak wea kob nu hek hew clo clm sta q2 q3 (nI i) = fX1_wrapAllOn_b58 6000 ke bo lk lb par mak wea kob nu hek hew clo clm sta q3 0 := by
  intro fuel
  induction fuel with
  | zero => intro i h1 h2; omega
  | succ fuel ih =>
    intro i h1 h2 h3
    rw [fX1_wrapAllOn_b27]
    by_cases hi : i < 20
    · rw [if_neg (show ¬ (20 : Int32) ≤ nI i from nI_ge (b := 20) hi (by omega)), has_nI (by omega), h3 i (Nat.le_refl _) hi, if_neg (show ¬ false = true by decide), if_pos rfl, nI_1]
      exact ih (i + 1) hi (by omega) (fun j hj hj2 => h3 j (by omega) hj2)
    · have : i = 20 := by omega
      subst this
      rw [if_pos (show (20 : Int32) ≤ nI 20 from nI_le (a := 20) (Nat.le_refl _) (by omega))]
theorem wall_idle2 (q3 nu : Int32) (wea hek hew clo clm sta : Nat → Int32) : ∀ fuel i, i ≤ 20 → 20 < i + fuel → (∀ j, i ≤ j → j < 20 → bt q3 j = false) → fX1_wrapAllOn_b58 fuel ke bo lk lb par mak wea kob nu hek hew clo clm sta q3 (nI i) = some (wea, nu, hek, hew, clo, clm, sta) := by
  intro fuel
  induction fuel with
  | zero => intro i h1 h2; omega
  | succ fuel ih =>
    intro i h1 h2 h3
    rw [fX1_wrapAllOn_b58]
    by_cases hi : i < 20
    · rw [if_neg (show ¬ (20 : Int32) ≤ nI i from nI_ge (b := 20) hi (by omega)), has_nI (by omega), h3 i (Nat.le_refl _) hi, if_neg (show ¬ false = true by decide), if_pos rfl, nI_1]
      exact ih (i + 1) hi (by omega) (fun j hj hj2 => h3 j (by omega) hj2)
    · have : i = 20 := by omega
      subst this
      rw [if_pos (show (20 : Int32) ≤ nI 20 from nI_le (a := 20) (Nat.le_refl _) (by omega))]
theorem ct_tail {n m : Nat} (hnm : n ≤ m) {p : Nat → Bool} (h : ∀ j, n ≤ j → j < m → p j = false) : fb_ct p m = fb_ct p n := by
  obtain ⟨d, rfl⟩ : ∃ d, m = n + d := ⟨m - n, by omega⟩
  rw [fb_ct_split]
  have : fb_ct (fun k => p (n + k)) d = 0 := fb_ct_zero.mpr (fun k hk => h (n + k) (by omega) (by omega))
  omega
/-- what is carried: the pending keys -/
def Keeps (nk k nw : Nat) (clo sta : Nat → Int32) (nw' : Nat) (clo' sta' : Nat → Int32) : Prop := ∀ j, j < nk → j ≠ k → Pend nw clo sta j → Pend nw' clo' sta' j
theorem wall_1 {k : Nat} (hk : k < nk) {q2 q3 : Int32} (hq : ∀ j, j < 32 → bt q2 j = onK nk lk par k j) {n0 : Nat} {clo0 sta0 : Nat → Int32} (hroom : n0 + fb_ct (onK nk lk par k) 20 ≤ 120) :
    ∀ fuel f1 f2 i nw st nu wea hek hew clo clm sta, i + fuel = nk + 1 → i ≤ nk → 20 < i + f1 → nk < i + f2 → nw = n0 + fb_ct (onK nk lk par k) i → Rel B nk nb nw st mw ke bo lk lb par mak wea kob nu hek hew clo clm sta →
      (∀ w, w < nw → bt (sta w) 3 = true → clo w = nI k → ∃ j, j < i ∧ hek w = nI j) → Keeps nk k n0 clo0 sta0 nw clo sta →
      ∃ wea' hek' hew' clo' clm' sta' st', fX1_wrapAllOn_b27 f1 ke bo lk lb par mak wea kob nu hek hew clo clm sta q2 q3 (nI i) = fX1_wrapAllOn_b58 6000 ke bo lk lb par mak wea' kob (nI (n0 + fb_ct (onK nk lk par k) 20)) hek' hew' clo' clm' sta' q3 0 ∧
        fX8_wrapAllUnder_b2 f2 st (nI k) (nI i) = fX8_wrapAllUnder_b45 6000 st' (nI k) 0 ∧
        Rel B nk nb (n0 + fb_ct (onK nk lk par k) 20) st' mw ke bo lk lb par mak wea' kob (nI (n0 + fb_ct (onK nk lk par k) 20)) hek' hew' clo' clm' sta' ∧
        (∀ w, w < n0 + fb_ct (onK nk lk par k) 20 → bt (sta' w) 3 = true → clo' w = nI k → ∃ j, j < 20 ∧ hek' w = nI j) ∧ Keeps nk k n0 clo0 sta0 (n0 + fb_ct (onK nk lk par k) 20) clo' sta' := by
  intro fuel
  induction fuel with
  | zero => intro f1 f2 i nw st nu wea hek hew clo clm sta h1 h2; omega
  | succ fuel ih =>
    intro f1 f2 i nw st nu wea hek hew clo clm sta h1 h2 h3 h4 hnw h hA hP
    have t1 := h.2.1.1
    obtain ⟨f1, rfl⟩ : ∃ f, f1 = f + 1 := ⟨f1 - 1, by omega⟩
    obtain ⟨f2, rfl⟩ : ∃ f, f2 = f + 1 := ⟨f2 - 1, by omega⟩
    have e1 : st 1 = nI nk := by rw [h.2.2.2.2.2.2.1.2.1, h.1.1]
    by_cases hi : i < nk
    · obtain ⟨r0, r1, -, -⟩ := h.2.2.2.2.2.2.2.1 i hi
      rw [fX1_wrapAllOn_b27, fX8_wrapAllUnder_b2, if_neg (show ¬ (20 : Int32) ≤ nI i from nI_ge (b := 20) (by omega) (by omega)), has_nI (by omega), hq i (by omega), if_neg ix1, cl1, e1, if_neg (nI_ge hi (by omega)), key1 (by omega), Option.bind_some, r1]
      by_cases hp : onK nk lk par k i = true
      · have hp2 : par i = nI k ∧ bt lk i = true := by
          simp [onK] at hp; exact ⟨hp.1.2, hp.2⟩
        have hct : fb_ct (onK nk lk par k) (i + 1) = fb_ct (onK nk lk par k) i + 1 := by rw [fb_ct_succ, if_pos hp]
        have hmono := fb_ct_mono (onK nk lk par k) (m := i + 1) (n := 20) (by omega)
        obtain ⟨w1, st', w2, w3⟩ := wrapKey_both h (by omega) hi hp2.1 hp2.2 hk (fun w hw hs he => by
          rcases (h.2.2.2.1 w hw).1 with ⟨p1, -⟩ | ⟨k', j, p1, p2, p3, p4, p5, -⟩
          · exact nI_ne6 (by omega) (he.symm.trans p1)
          · have e := (nI_eq (by omega) (by omega)).mp (he.symm.trans p3)
            subst e
            have e2 := (nI_eq (by omega) (by omega)).mp (p4.symm.trans hp2.1)
            subst e2
            obtain ⟨j', hj', ej⟩ := hA w hw hs p5
            have := (nI_eq (by omega) (by omega)).mp (he.symm.trans ej)
            omega)
        rw [if_pos hp, if_neg (show ¬ ((1 : Int32) = 0) by decide), w1, Option.bind_some, if_pos (bit1_eq.mpr hp2.2), key0 (by omega), Option.bind_some, r0, if_pos hp2.1, w2, Option.bind_some, nI_1]
        dsimp only
        refine ih f1 f2 (i + 1) (nw + 1) st' _ _ _ _ _ _ _ (by omega) hi (by omega) (by omega) (by rw [hct]; omega) w3 (fun w hw hs hc => ?_) (fun j hj hjk hpd w hw hs => ?_)
        · by_cases hwn : w = nw
          · subst hwn
            exact ⟨i, Nat.lt_succ_self _, pk_us⟩
          · rw [pk_un hwn] at hs hc ⊢
            obtain ⟨j, hj, ej⟩ := hA w (by omega) hs hc
            exact ⟨j, by omega, ej⟩
        · by_cases hwn : w = nw
          · subst hwn
            rw [pk_us]
            exact fun e => hjk ((nI_eq (by omega) (by omega)).mp e).symm
          · rw [pk_un hwn] at hs ⊢
            exact hP j hj hjk hpd w (by omega) hs
      · have hct : fb_ct (onK nk lk par k) (i + 1) = fb_ct (onK nk lk par k) i := by rw [fb_ct_succ, if_neg hp]; rfl
        rw [if_neg hp, if_pos rfl]
        have hgo := ih f1 f2 (i + 1) nw st nu wea hek hew clo clm sta (by omega) hi (by omega) (by omega) (by rw [hct]; exact hnw) h (fun w hw hs hc => by
          obtain ⟨j, hj, ej⟩ := hA w hw hs hc
          exact ⟨j, by omega, ej⟩) hP
        rw [nI_1]
        by_cases hl : bt lk i = true
        · have hpar : ¬ par i = nI k := fun e => hp (by simp [onK, hi, e, hl])
          rw [if_pos (bit1_eq.mpr hl), key0 (by omega), Option.bind_some, r0, if_neg hpar]
          exact hgo
        · rw [if_neg (fun q => hl (bit1_eq.mp q))]
          exact hgo
    · have hin : i = nk := by omega
      subst hin
      have hct : fb_ct (onK i lk par k) 20 = fb_ct (onK i lk par k) i := ct_tail t1 (fun j hj _ => by simp [onK, show ¬ j < i by omega])
      rw [wall_idle1 q2 q3 nu wea hek hew clo clm sta (f1 + 1) i t1 h3 (fun j hj hj2 => by rw [hq j (by omega)]; simp [onK, show ¬ j < i by omega]), fX8_wrapAllUnder_b2, if_neg ix1, cl1, e1, if_pos (nI_le (Nat.le_refl _) (by omega))]
      rw [hct, ← hnw]
      refine ⟨wea, hek, hew, clo, clm, sta, st, ?_, rfl, ?_, fun w hw hs hc => ?_, hP⟩
      · rw [h.1.2.2]
      · have := h.1.2.2
        subst this
        exact h
      · obtain ⟨j, hj, ej⟩ := hA w hw hs hc
        exact ⟨j, by omega, ej⟩
theorem wall_2 {k : Nat} (hk : k < nk) {q3 : Int32} (hq : ∀ j, j < 32 → bt q3 j = onK nb lb kob k j) {n0 n1 : Nat} {clo0 sta0 : Nat → Int32} (hroom : n1 + fb_ct (onK nb lb kob k) 20 ≤ 120) :
    ∀ fuel f1 f2 i nw st nu wea hek hew clo clm sta, i + fuel = nb + 1 → i ≤ nb → 20 < i + f1 → nb < i + f2 → nw = n1 + fb_ct (onK nb lb kob k) i → Rel B nk nb nw st mw ke bo lk lb par mak wea kob nu hek hew clo clm sta →
      (∀ w, w < nw → bt (sta w) 3 = true → hek w = -6 → clo w = nI k → ∃ j, j < i ∧ hew w = nI j) → Keeps nk k n0 clo0 sta0 nw clo sta →
      ∃ wea' hek' hew' clo' clm' sta' st', fX1_wrapAllOn_b58 f1 ke bo lk lb par mak wea kob nu hek hew clo clm sta q3 (nI i) = some (wea', nI (n1 + fb_ct (onK nb lb kob k) 20), hek', hew', clo', clm', sta') ∧
        fX8_wrapAllUnder_b45 f2 st (nI k) (nI i) = some st' ∧
        Rel B nk nb (n1 + fb_ct (onK nb lb kob k) 20) st' mw ke bo lk lb par mak wea' kob (nI (n1 + fb_ct (onK nb lb kob k) 20)) hek' hew' clo' clm' sta' ∧ Keeps nk k n0 clo0 sta0 (n1 + fb_ct (onK nb lb kob k) 20) clo' sta' := by
  intro fuel
  induction fuel with
  | zero => intro f1 f2 i nw st nu wea hek hew clo clm sta h1 h2; omega
  | succ fuel ih =>
    intro f1 f2 i nw st nu wea hek hew clo clm sta h1 h2 h3 h4 hnw h hA hP
    have t1 := h.2.1.1
    have t2 := h.2.1.2.1
    obtain ⟨f1, rfl⟩ : ∃ f, f1 = f + 1 := ⟨f1 - 1, by omega⟩
    obtain ⟨f2, rfl⟩ : ∃ f, f2 = f + 1 := ⟨f2 - 1, by omega⟩
    have e2 : st 2 = nI nb := by rw [h.2.2.2.2.2.2.1.2.2.1, h.1.2.1]
    by_cases hi : i < nb
    · obtain ⟨r0, r1⟩ := h.2.2.2.2.2.2.2.2.1 i hi
      rw [fX1_wrapAllOn_b58, fX8_wrapAllUnder_b45, if_neg (show ¬ (20 : Int32) ≤ nI i from nI_ge (b := 20) (by omega) (by omega)), has_nI (by omega), hq i (by omega), if_neg ix2, cl2, e2, if_neg (nI_ge hi (by omega)), box1 (by omega), Option.bind_some, r1]
      by_cases hp : onK nb lb kob k i = true
      · have hp2 : kob i = nI k ∧ bt lb i = true := by
          simp [onK] at hp; exact ⟨hp.1.2, hp.2⟩
        have hct : fb_ct (onK nb lb kob k) (i + 1) = fb_ct (onK nb lb kob k) i + 1 := by rw [fb_ct_succ, if_pos hp]
        have hmono := fb_ct_mono (onK nb lb kob k) (m := i + 1) (n := 20) (by omega)
        obtain ⟨w1, st', w2, w3⟩ := wrapBox_both h (by omega) hi hp2.1 hp2.2 hk (fun w hw hs h6 he => by
          rcases (h.2.2.2.1 w hw).1 with ⟨p1, b, p2, p3, p4⟩ | ⟨k', j, p1, p2, p3, -⟩
          · have e := (nI_eq (by omega) (by omega)).mp (he.symm.trans p3)
            subst e
            obtain ⟨j', hj', ej⟩ := hA w hw hs h6 (p4.trans hp2.1)
            have := (nI_eq (by omega) (by omega)).mp (he.symm.trans ej)
            omega
          · exact nI_ne6 (by omega) (p3.symm.trans h6))
        rw [if_pos hp, if_neg (show ¬ ((1 : Int32) = 0) by decide), w1, Option.bind_some, if_pos (bit1_eq.mpr hp2.2), box0 (by omega), Option.bind_some, r0, if_pos hp2.1, w2, Option.bind_some, nI_1]
        dsimp only
        refine ih f1 f2 (i + 1) (nw + 1) st' _ _ _ _ _ _ _ (by omega) hi (by omega) (by omega) (by rw [hct]; omega) w3 (fun w hw hs h6 hc => ?_) (fun j hj hjk hpd w hw hs => ?_)
        · by_cases hwn : w = nw
          · subst hwn
            exact ⟨i, Nat.lt_succ_self _, pk_us⟩
          · rw [pk_un hwn] at hs hc h6 ⊢
            obtain ⟨j, hj, ej⟩ := hA w (by omega) hs h6 hc
            exact ⟨j, by omega, ej⟩
        · by_cases hwn : w = nw
          · subst hwn
            rw [pk_us]
            exact fun e => hjk ((nI_eq (by omega) (by omega)).mp e).symm
          · rw [pk_un hwn] at hs ⊢
            exact hP j hj hjk hpd w (by omega) hs
      · have hct : fb_ct (onK nb lb kob k) (i + 1) = fb_ct (onK nb lb kob k) i := by rw [fb_ct_succ, if_neg hp]; rfl
        rw [if_neg hp, if_pos rfl]
        have hgo := ih f1 f2 (i + 1) nw st nu wea hek hew clo clm sta (by omega) hi (by omega) (by omega) (by rw [hct]; exact hnw) h (fun w hw hs h6 hc => by
          obtain ⟨j, hj, ej⟩ := hA w hw hs h6 hc
          exact ⟨j, by omega, ej⟩) hP
        rw [nI_1]
        by_cases hl : bt lb i = true
        · have hpar : ¬ kob i = nI k := fun e => hp (by simp [onK, hi, e, hl])
          rw [if_pos (bit1_eq.mpr hl), box0 (by omega), Option.bind_some, r0, if_neg hpar]
          exact hgo
        · rw [if_neg (fun q => hl (bit1_eq.mp q))]
          exact hgo
    · have hin : i = nb := by omega
      subst hin
      have hct : fb_ct (onK i lb kob k) 20 = fb_ct (onK i lb kob k) i := ct_tail t2 (fun j hj _ => by simp [onK, show ¬ j < i by omega])
      rw [wall_idle2 q3 nu wea hek hew clo clm sta (f1 + 1) i t2 h3 (fun j hj hj2 => by rw [hq j (by omega)]; simp [onK, show ¬ j < i by omega]), fX8_wrapAllUnder_b45, if_neg ix2, cl2, e2, if_pos (nI_le (Nat.le_refl _) (by omega))]
      rw [hct, ← hnw]
      refine ⟨wea, hek, hew, clo, clm, sta, st, ?_, rfl, ?_, hP⟩
      · rw [h.1.2.2]
      · have := h.1.2.2
        subst this
        exact h
theorem wrapAll_both {nw : Nat} {st : Nat → Int32} {nu : Int32} {wea hek hew clo clm sta : Nat → Int32} (h : Rel B nk nb nw st mw ke bo lk lb par mak wea kob nu hek hew clo clm sta) {k : Nat} (hk : k < nk) (hroom : nw + hf nk nb lk lb par kob k ≤ 120) (hp : Pend nw clo sta k) :
    ∃ wea' hek' hew' clo' clm' sta' st', fX1_wrapAllOn ke bo lk lb par mak wea kob nu hek hew clo clm sta (nI k) = some (wea', nI (nw + hf nk nb lk lb par kob k), hek', hew', clo', clm', sta') ∧ fX8_wrapAllUnder st (nI k) = some st' ∧
      Rel B nk nb (nw + hf nk nb lk lb par kob k) st' mw ke bo lk lb par mak wea' kob (nI (nw + hf nk nb lk lb par kob k)) hek' hew' clo' clm' sta' ∧ Keeps nk k nw clo sta (nw + hf nk nb lk lb par kob k) clo' sta' := by
  have t1 := h.2.1.1
  have t2 := h.2.1.2.1
  obtain ⟨rfl, rfl, rfl⟩ := id h.1
  obtain ⟨q2, e1, e2⟩ := liveKeysOn_eq (liveK := lk) (par := par) t1 (fX7_setOf (nI k))
  obtain ⟨q3, e3, e4⟩ := liveBoxesOn_eq (liveB := lb) (kob := kob) t2 (fX7_setOf (nI k))
  have m2 : ∀ j, j < 32 → bt q2 j = onK nk lk par k j := fun j hj => by
    rw [e2 j hj]
    unfold onK
    by_cases hjn : j < nk
    · rw [hs_set (by omega) ((h.2.1.2.2.1 j hjn).imp id (fun ⟨i, hi, e⟩ => ⟨i, by omega, e⟩))]
    · simp [hjn]
  have m3 : ∀ j, j < 32 → bt q3 j = onK nb lb kob k j := fun j hj => by
    rw [e4 j hj]
    unfold onK
    by_cases hjn : j < nb
    · obtain ⟨i, hi, e⟩ := h.2.1.2.2.2.1 j hjn
      rw [hs_set (by omega) (Or.inr ⟨i, by omega, e⟩)]
    · simp [hjn]
  unfold hf at hroom ⊢
  obtain ⟨wea1, hek1, hew1, clo1, clm1, sta1, st1, g1, g2, g3, g4, g5⟩ := wall_1 hk (q3 := q3) m2 (n0 := nw) (clo0 := clo) (sta0 := sta) (by omega) (nk + 1) 6000 6000 0 nw st (nI nw) wea hek hew clo clm sta (by omega) (Nat.zero_le _) (by omega) (by omega) rfl h (fun w hw hs hc => absurd hc (hp w hw hs)) (fun j _ _ hpd => hpd)
  obtain ⟨wea2, hek2, hew2, clo2, clm2, sta2, st2, k1, k2, k3, k4⟩ := wall_2 hk m3 (n0 := nw) (n1 := nw + fb_ct (onK nk lk par k) 20) (clo0 := clo) (sta0 := sta) (by omega) (nb + 1) 6000 6000 0 _ st1 _ wea1 hek1 hew1 clo1 clm1 sta1 (by omega) (Nat.zero_le _) (by omega) (by omega) rfl g3 (fun w hw hs h6 hc => by
    obtain ⟨j, hj, ej⟩ := g4 w hw hs hc
    exact absurd (ej.symm.trans h6) (nI_ne6 (by omega))) g5
  rw [Nat.add_assoc] at k1 k3 k4
  refine ⟨wea2, hek2, hew2, clo2, clm2, sta2, st2, ?_, ?_, k3, k4⟩
  · unfold fX1_wrapAllOn
    rw [e1, Option.bind_some, e3, Option.bind_some]
    exact g1.trans k1
  · unfold fX8_wrapAllUnder
    exact g2.trans k2
end WALL
