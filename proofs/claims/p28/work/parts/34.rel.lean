/-! what ties the class's house to the reference's row of numbers -/
def PT (nk : Nat) (par : Nat → Int32) : Prop := ∀ k, k < nk → par k = -6 ∨ ∃ j, j < k ∧ par k = nI j
def KB (nk nb : Nat) (kob : Nat → Int32) : Prop := ∀ b, b < nb → ∃ j, j < nk ∧ kob b = nI j
/-- the tree's shape; what lives -/
def TI (nk nb : Nat) (lk lb : Int32) (par kob : Nat → Int32) : Prop :=
  nk ≤ 20 ∧ nb ≤ 20 ∧ PT nk par ∧ KB nk nb kob ∧ (∀ i, nk ≤ i → bt lk i = false) ∧ (∀ i, nb ≤ i → bt lb i = false) ∧
  (∀ k j, k < nk → j < nk → bt lk k = true → par k = nI j → bt lk j = true) ∧ ∀ b j, b < nb → j < nk → bt lb b = true → kob b = nI j → bt lk j = true
/-- makes and wear -/
def CI (B nk nw : Nat) (mw : Int32) (mak wea : Nat → Int32) : Prop :=
  nw ≤ 120 ∧ (∃ m, 2 ≤ m ∧ m ≤ 30 ∧ mw = nI m) ∧ ∀ k, k < nk → (∃ m, (m ≤ B ∧ m < 2 ^ 31) ∧ mak k = nI m) ∧ ∃ x, x ≤ nw ∧ wea k = nI x
/-- the wraps -/
def WI (nk nb nw : Nat) (par mak kob hek hew clo clm sta : Nat → Int32) : Prop := ∀ w, w < nw →
  ((hek w = -6 ∧ ∃ b, b < nb ∧ hew w = nI b ∧ clo w = kob b) ∨ ∃ k j, k < nk ∧ j < k ∧ hek w = nI k ∧ par k = nI j ∧ clo w = nI j ∧ ∃ m m', hew w = nI m ∧ mak k = nI m' ∧ m ≤ m') ∧
  (∃ c m m', c < nk ∧ clo w = nI c ∧ clm w = nI m ∧ mak c = nI m' ∧ m ≤ m' ∧ m' < 2 ^ 31) ∧ ∃ x, x < 16 ∧ sta w = nI x
/-- the wraps in the house -/
def HO (nk nw : Nat) (lk lb : Int32) (mak hek hew clo clm sta : Nat → Int32) : Prop := ∀ w, w < nw → bt (sta w) 3 = true →
  (∀ c, c < nk → clo w = nI c → clm w = mak c) ∧ (hek w = -6 → ∀ b, b < 32 → hew w = nI b → bt lb b = true) ∧ ∀ k, k < nk → hek w = nI k → bt lk k = true ∧ hew w = mak k
def UQ (nw : Nat) (hek hew sta : Nat → Int32) : Prop := ∀ w w', w < nw → w' < nw → bt (sta w) 3 = true → bt (sta w') 3 = true → hek w = hek w' → (hek w = -6 → hew w = hew w') → w = w'
def Rel (B nk nb nw : Nat) (st : Nat → Int32) (mw ke bo lk lb : Int32) (par mak wea kob : Nat → Int32) (nu : Int32) (hek hew clo clm sta : Nat → Int32) : Prop :=
  (ke = nI nk ∧ bo = nI nb ∧ nu = nI nw) ∧ TI nk nb lk lb par kob ∧ CI B nk nw mw mak wea ∧ WI nk nb nw par mak kob hek hew clo clm sta ∧ HO nk nw lk lb mak hek hew clo clm sta ∧ UQ nw hek hew sta ∧
  RS0 st mw ke bo nu ∧ RK st nk lk par mak wea ∧ RB st nb lb kob ∧ RW st nw hek hew clo clm sta
def RelV (B : Nat) (st : Nat → Int32) (v : HV) : Prop := ∃ nk nb nw, Rel B nk nb nw st v.1 v.2.1 v.2.2.1 v.2.2.2.1 v.2.2.2.2.1 v.2.2.2.2.2.1 v.2.2.2.2.2.2.1 v.2.2.2.2.2.2.2.1 v.2.2.2.2.2.2.2.2.1 v.2.2.2.2.2.2.2.2.2.1 v.2.2.2.2.2.2.2.2.2.2.1 v.2.2.2.2.2.2.2.2.2.2.2.1 v.2.2.2.2.2.2.2.2.2.2.2.2.1 v.2.2.2.2.2.2.2.2.2.2.2.2.2.1 v.2.2.2.2.2.2.2.2.2.2.2.2.2.2
theorem CI_mono {B B' nk nw : Nat} {mw : Int32} {mak wea : Nat → Int32} (h : CI B nk nw mw mak wea) (hB : B ≤ B') : CI B' nk nw mw mak wea := by
  obtain ⟨h1, h2, h3⟩ := h
  refine ⟨h1, h2, fun k hk => ?_⟩
  obtain ⟨⟨m, e1, e2⟩, h4⟩ := h3 k hk
  exact ⟨⟨m, ⟨Nat.le_trans e1.1 hB, e1.2⟩, e2⟩, h4⟩
theorem RelV_mono {B B' : Nat} {st : Nat → Int32} {v : HV} (h : RelV B st v) (hB : B ≤ B') : RelV B' st v := by
  obtain ⟨nk, nb, nw, h1, h2, h3, h4⟩ := h
  exact ⟨nk, nb, nw, h1, h2, CI_mono h3 hB, h4⟩
section CONGR
variable {B nk nb nw : Nat} {st st' : Nat → Int32} {mw ke bo lk lb nu : Int32} {par mak wea kob hek hew clo clm sta par' mak' wea' kob' hek' hew' clo' clm' sta' : Nat → Int32}
theorem TI_congr (h : TI nk nb lk lb par kob) (e1 : ∀ k, k < 20 → par' k = par k) (e2 : ∀ k, k < 20 → kob' k = kob k) : TI nk nb lk lb par' kob' := by
  obtain ⟨h1, h2, h3, h4, h5, h6, h7, h8⟩ := h
  refine ⟨h1, h2, fun k hk => ?_, fun b hb => ?_, h5, h6, fun k j hk hj hl hp => ?_, fun b j hb hj hl hp => ?_⟩
  · rw [e1 k (by omega)]; exact h3 k hk
  · rw [e2 b (by omega)]; exact h4 b hb
  · rw [e1 k (by omega)] at hp; exact h7 k j hk hj hl hp
  · rw [e2 b (by omega)] at hp; exact h8 b j hb hj hl hp
theorem CI_congr (hk : nk ≤ 20) (h : CI B nk nw mw mak wea) (e1 : ∀ k, k < 20 → mak' k = mak k) (e2 : ∀ k, k < 20 → wea' k = wea k) : CI B nk nw mw mak' wea' := by
  obtain ⟨h1, h2, h3⟩ := h
  refine ⟨h1, h2, fun k hk2 => ?_⟩
  rw [e1 k (by omega), e2 k (by omega)]
  exact h3 k hk2
theorem WI_congr (hk : nk ≤ 20) (hb : nb ≤ 20) (hw : nw ≤ 120) (h : WI nk nb nw par mak kob hek hew clo clm sta) (e1 : ∀ k, k < 20 → par' k = par k) (e2 : ∀ k, k < 20 → mak' k = mak k) (e3 : ∀ k, k < 20 → kob' k = kob k)
    (f1 : ∀ k, k < 120 → hek' k = hek k) (f2 : ∀ k, k < 120 → hew' k = hew k) (f3 : ∀ k, k < 120 → clo' k = clo k) (f4 : ∀ k, k < 120 → clm' k = clm k) (f5 : ∀ k, k < 120 → sta' k = sta k) : WI nk nb nw par' mak' kob' hek' hew' clo' clm' sta' := by
  intro w hw2
  obtain ⟨h1, ⟨c, m, m', c1, c2, c3, c4, c5⟩, h3⟩ := h w hw2
  rw [f1 w (by omega), f2 w (by omega), f3 w (by omega), f4 w (by omega), f5 w (by omega)]
  refine ⟨?_, ⟨c, m, m', c1, c2, c3, by rw [e2 c (by omega)]; exact c4, c5⟩, h3⟩
  rcases h1 with ⟨a1, b, a2, a3, a4⟩ | ⟨k, j, a1, a2, a3, a4, a5, m, m', a6, a7, a8⟩
  · exact Or.inl ⟨a1, b, a2, a3, by rw [e3 b (by omega)]; exact a4⟩
  · exact Or.inr ⟨k, j, a1, a2, a3, by rw [e1 k (by omega)]; exact a4, a5, m, m', a6, by rw [e2 k (by omega)]; exact a7, a8⟩
theorem HO_congr (hk : nk ≤ 20) (hw : nw ≤ 120) (h : HO nk nw lk lb mak hek hew clo clm sta) (e2 : ∀ k, k < 20 → mak' k = mak k)
    (f1 : ∀ k, k < 120 → hek' k = hek k) (f2 : ∀ k, k < 120 → hew' k = hew k) (f3 : ∀ k, k < 120 → clo' k = clo k) (f4 : ∀ k, k < 120 → clm' k = clm k) (f5 : ∀ k, k < 120 → sta' k = sta k) : HO nk nw lk lb mak' hek' hew' clo' clm' sta' := by
  intro w hw2
  rw [f1 w (by omega), f2 w (by omega), f3 w (by omega), f4 w (by omega), f5 w (by omega)]
  intro hs
  obtain ⟨h1, h2, h3⟩ := h w hw2 hs
  exact ⟨fun c hc hcl => by rw [e2 c (by omega)]; exact h1 c hc hcl, h2, fun k hk2 hkk => by rw [e2 k (by omega)]; exact h3 k hk2 hkk⟩
theorem UQ_congr (hw : nw ≤ 120) (h : UQ nw hek hew sta) (f1 : ∀ k, k < 120 → hek' k = hek k) (f2 : ∀ k, k < 120 → hew' k = hew k) (f5 : ∀ k, k < 120 → sta' k = sta k) : UQ nw hek' hew' sta' := by
  intro w w' h1 h2
  rw [f1 w (by omega), f1 w' (by omega), f2 w (by omega), f2 w' (by omega), f5 w (by omega), f5 w' (by omega)]
  exact h w w' h1 h2
theorem RK_congr (hk : nk ≤ 20) (h : RK st nk lk par mak wea) (es : ∀ k, k < 844 → st' k = st k) (e1 : ∀ k, k < 20 → par' k = par k) (e2 : ∀ k, k < 20 → mak' k = mak k) (e3 : ∀ k, k < 20 → wea' k = wea k) : RK st' nk lk par' mak' wea' := by
  intro k hk2
  rw [es _ (by omega), es _ (by omega), es _ (by omega), es _ (by omega), e1 k (by omega), e2 k (by omega), e3 k (by omega)]
  exact h k hk2
theorem RB_congr (hb : nb ≤ 20) (h : RB st nb lb kob) (es : ∀ k, k < 844 → st' k = st k) (e1 : ∀ k, k < 20 → kob' k = kob k) : RB st' nb lb kob' := by
  intro k hk2
  rw [es _ (by omega), es _ (by omega), e1 k (by omega)]
  exact h k hk2
theorem RW_congr (hw : nw ≤ 120) (h : RW st nw hek hew clo clm sta) (es : ∀ k, k < 844 → st' k = st k) (f1 : ∀ k, k < 120 → hek' k = hek k) (f2 : ∀ k, k < 120 → hew' k = hew k) (f3 : ∀ k, k < 120 → clo' k = clo k) (f4 : ∀ k, k < 120 → clm' k = clm k) (f5 : ∀ k, k < 120 → sta' k = sta k) : RW st' nw hek' hew' clo' clm' sta' := by
  intro w hw2
  rw [es _ (by omega), es _ (by omega), es _ (by omega), es _ (by omega), es _ (by omega), es _ (by omega), f1 w (by omega), f2 w (by omega), f3 w (by omega), f4 w (by omega), f5 w (by omega)]
  exact h w hw2
theorem Rel_congr (h : Rel B nk nb nw st mw ke bo lk lb par mak wea kob nu hek hew clo clm sta) (es : ∀ k, k < 844 → st' k = st k) (e1 : ∀ k, k < 20 → par' k = par k) (e2 : ∀ k, k < 20 → mak' k = mak k) (e3 : ∀ k, k < 20 → wea' k = wea k) (e4 : ∀ k, k < 20 → kob' k = kob k)
    (f1 : ∀ k, k < 120 → hek' k = hek k) (f2 : ∀ k, k < 120 → hew' k = hew k) (f3 : ∀ k, k < 120 → clo' k = clo k) (f4 : ∀ k, k < 120 → clm' k = clm k) (f5 : ∀ k, k < 120 → sta' k = sta k) : Rel B nk nb nw st' mw ke bo lk lb par' mak' wea' kob' nu hek' hew' clo' clm' sta' := by
  obtain ⟨h0, h1, h2, h3, h4, h5, ⟨s0, s1, s2, s3⟩, h7, h8, h9⟩ := h
  have hk := h1.1
  have hb := h1.2.1
  have hw := h2.1
  exact ⟨h0, TI_congr h1 e1 e4, CI_congr hk h2 e2 e3, WI_congr hk hb hw h3 e1 e2 e4 f1 f2 f3 f4 f5, HO_congr hk hw h4 e2 f1 f2 f3 f4 f5, UQ_congr hw h5 f1 f2 f5,
    ⟨by rw [es 0 (by omega)]; exact s0, by rw [es 1 (by omega)]; exact s1, by rw [es 2 (by omega)]; exact s2, by rw [es 3 (by omega)]; exact s3⟩, RK_congr hk h7 es e1 e2 e3, RB_congr hb h8 es e4, RW_congr hw h9 es f1 f2 f3 f4 f5⟩
end CONGR
theorem rCopy_in {n k : Nat} (h : k < n) (f g : Nat → Int32) : rCopy n f g k = g k := if_pos h
theorem RelV_copy {B : Nat} {st st' : Nat → Int32} {v w : HV} (h : RelV B st w) (es : ∀ k, k < 844 → st' k = st k) : RelV B st' (copyV v w) := by
  obtain ⟨nk, nb, nw, h⟩ := h
  exact ⟨nk, nb, nw, Rel_congr h es (fun k hk => rCopy_in hk _ _) (fun k hk => rCopy_in hk _ _) (fun k hk => rCopy_in hk _ _) (fun k hk => rCopy_in hk _ _) (fun k hk => rCopy_in hk _ _) (fun k hk => rCopy_in hk _ _) (fun k hk => rCopy_in hk _ _) (fun k hk => rCopy_in hk _ _) (fun k hk => rCopy_in hk _ _)⟩
theorem RelV_st {B : Nat} {st st' : Nat → Int32} {w : HV} (h : RelV B st w) (es : ∀ k, k < 844 → st' k = st k) : RelV B st' w := by
  obtain ⟨nk, nb, nw, h⟩ := h
  exact ⟨nk, nb, nw, Rel_congr h es (fun k hk => rfl) (fun k hk => rfl) (fun k hk => rfl) (fun k hk => rfl) (fun k hk => rfl) (fun k hk => rfl) (fun k hk => rfl) (fun k hk => rfl) (fun k hk => rfl)⟩
/-- the kept states: the class's ring, the reference's row -/
def HistR (B sp kp : Nat) (hv : Nat → HV) (hi : Nat → Int32) : Prop := sp < 7 ∧ kp ≤ 6 ∧ ∀ i, i < kp → RelV B (fun j => hi (i * 844 + j)) (hv ((sp + 7 - kp + i) % 7))
theorem HistR_mono {B B' sp kp : Nat} {hv : Nat → HV} {hi : Nat → Int32} (h : HistR B sp kp hv hi) (hB : B ≤ B') : HistR B' sp kp hv hi := ⟨h.1, h.2.1, fun i hi2 => RelV_mono (h.2.2 i hi2) hB⟩
theorem note_eq {sp : Nat} (hs : sp < 7) (v : HV) (hv : Nat → HV) : fX0_noteBefore v.1 v.2.1 v.2.2.1 v.2.2.2.1 v.2.2.2.2.1 v.2.2.2.2.2.1 v.2.2.2.2.2.2.1 v.2.2.2.2.2.2.2.1 v.2.2.2.2.2.2.2.2.1 v.2.2.2.2.2.2.2.2.2.1 v.2.2.2.2.2.2.2.2.2.2.1 v.2.2.2.2.2.2.2.2.2.2.2.1 v.2.2.2.2.2.2.2.2.2.2.2.2.1 v.2.2.2.2.2.2.2.2.2.2.2.2.2.1 v.2.2.2.2.2.2.2.2.2.2.2.2.2.2 (nI sp) hv = some (va_up hv sp (copyV (hv sp) v)) := by
  unfold fX0_noteBefore
  rw [if_neg (nI_in hs (by omega)), nI_clamp (by omega), become_eq]
  rfl
theorem settle_pos {sp kp : Nat} (hs : sp < 7) (hk : kp ≤ 6) {x : Int32} (hx : ¬ x < 0) : fX0_settle (nI sp) (nI kp) x = some (x, nI ((sp + 1) % 7), nI (min (kp + 1) 6)) := by
  unfold fX0_settle
  rw [if_neg hx]
  have h6 : (6 : Int32) = nI 6 := rfl
  have hmin : (if (6 : Int32) < (nI kp + 1) then (6 : Int32) else (nI kp + 1)) = nI (min (kp + 1) 6) := by
    rw [nI_1, h6]
    by_cases h : 6 < kp + 1
    · rw [if_pos (nI_lt h (by omega))]
      congr 1; omega
    · rw [if_neg (nI_nlt (by omega) (by omega))]
      congr 1; omega
  rw [hmin]
  by_cases h : sp < 6
  · rw [if_pos (show nI sp < 6 from nI_lt (b := 6) h (by omega)), nI_1]
    have : (sp + 1) % 7 = sp + 1 := by omega
    rw [this]
  · have : (sp + 1) % 7 = 0 := by omega
    rw [if_neg (show ¬ nI sp < 6 from nI_nlt (a := sp) (b := 6) (by omega) (by omega)), this]
    rfl
theorem settle_neg {sp kp : Nat} {x : Int32} (hx : x < 0) : fX0_settle (nI sp) (nI kp) x = some (x, nI sp, nI kp) := by
  unfold fX0_settle
  rw [if_pos hx]
theorem hist_keep {B sp kp : Nat} {hv : Nat → HV} {hi : Nat → Int32} {v : HV} (h : HistR B sp kp hv hi) : HistR B sp kp (va_up hv sp v) hi := by
  obtain ⟨h1, h2, h3⟩ := h
  refine ⟨h1, h2, fun i hi2 => ?_⟩
  have hne : (sp + 7 - kp + i) % 7 ≠ sp := by omega
  have e : va_up hv sp v ((sp + 7 - kp + i) % 7) = hv ((sp + 7 - kp + i) % 7) := by simp [va_up, hne]
  rw [e]
  exact h3 i hi2
/-- a change is noted on both sides -/
theorem hist_add {B sp kp : Nat} {hv : Nat → HV} {hi st : Nat → Int32} {v : HV} (h : HistR B sp kp hv hi) (hR : RelV B st v) : ∃ hi', fX8_record st hi (nI kp) = some (hi', nI (min (kp + 1) 6)) ∧ HistR B ((sp + 1) % 7) (min (kp + 1) 6) (va_up hv sp (copyV (hv sp) v)) hi' := by
  obtain ⟨h1, h2, h3⟩ := h
  have up_ne : ∀ {j : Nat}, j ≠ sp → va_up hv sp (copyV (hv sp) v) j = hv j := fun hj => by simp [va_up, hj]
  have up_eq : va_up hv sp (copyV (hv sp) v) sp = copyV (hv sp) v := by simp [va_up]
  by_cases hk : kp < 6
  · obtain ⟨hi', e1, e2, e3⟩ := record_lt hk st hi
    have hm : min (kp + 1) 6 = kp + 1 := by omega
    rw [hm]
    refine ⟨hi', e1, Nat.mod_lt _ (by omega), by omega, fun i hi2 => ?_⟩
    by_cases hik : i = kp
    · subst hik
      have hx : ((sp + 1) % 7 + 7 - (i + 1) + i) % 7 = sp := by omega
      rw [hx, up_eq]
      exact RelV_copy hR (fun k hk => e2 k hk)
    · have hx : ((sp + 1) % 7 + 7 - (kp + 1) + i) % 7 = (sp + 7 - kp + i) % 7 := by omega
      rw [hx, up_ne (by omega)]
      exact RelV_st (h3 i (by omega)) (fun k hk => e3 _ (by omega))
  · have hk6 : kp = 6 := by omega
    subst hk6
    obtain ⟨hi', e1, e2, e3⟩ := record_6 st hi
    refine ⟨hi', e1, Nat.mod_lt _ (by omega), by omega, fun i hi2 => ?_⟩
    have hi6 : i < 6 := by omega
    by_cases hik : i = 5
    · subst hik
      have hx : ((sp + 1) % 7 + 7 - min (6 + 1) 6 + 5) % 7 = sp := by omega
      rw [hx, up_eq]
      exact RelV_copy hR (fun k hk => e2 k hk)
    · have hx : ((sp + 1) % 7 + 7 - min (6 + 1) 6 + i) % 7 = (sp + 7 - 6 + (i + 1)) % 7 := by omega
      rw [hx, up_ne (by omega)]
      refine RelV_st (h3 (i + 1) (by omega)) (fun k hk => ?_)
      show hi' (i * 844 + k) = hi ((i + 1) * 844 + k)
      have hz : i * 844 + k + 844 = (i + 1) * 844 + k := by omega
      rw [e3 _ (by omega), hz]
