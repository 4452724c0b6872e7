/-! loops that gather a set, or a sum; the reference's cells by the class's -/
theorem mask_loop {β : Type} {n : Nat} (F : Nat → Int32 → Nat → Option β) (G : Int32 → Option β) (c : Nat → Bool) (hend : ∀ fuel acc, F (fuel + 1) acc n = G acc)
    (hstep : ∀ fuel acc i, i < n → ∃ acc', (∀ j, j < 32 → bt acc' j = (bt acc j || (decide (j = i) && c i))) ∧ F (fuel + 1) acc i = F fuel acc' (i + 1)) :
    ∀ fuel i acc, i ≤ n → n < i + fuel → ∃ acc', F fuel acc i = G acc' ∧ ∀ j, j < 32 → bt acc' j = (bt acc j || (decide (i ≤ j ∧ j < n) && c j)) := by
  intro fuel
  induction fuel with
  | zero => intro i acc h1 h2; omega
  | succ fuel ih =>
    intro i acc h1 h2
    by_cases h : i < n
    · obtain ⟨a1, e1, e2⟩ := hstep fuel acc i h
      obtain ⟨a2, e3, e4⟩ := ih (i + 1) a1 h (by omega)
      refine ⟨a2, by rw [e2, e3], fun j hj => ?_⟩
      rw [e4 j hj, e1 j hj]
      by_cases hji : j = i
      · subst hji
        have q1 : ¬ (j + 1 ≤ j ∧ j < n) := by omega
        have q2 : (j ≤ j ∧ j < n) := by omega
        rw [decide_eq_false q1, decide_eq_true q2]
        simp
      · have q : (i + 1 ≤ j ∧ j < n) ↔ (i ≤ j ∧ j < n) := by omega
        simp [hji, q]
    · have hi : i = n := by omega
      subst hi
      refine ⟨acc, hend fuel acc, fun j hj => ?_⟩
      have q : ¬ (i ≤ j ∧ j < i) := by omega
      simp [q]
theorem acc_in {acc : Int32} {i : Nat} {c : Bool} (hi : i < 32) (hc : c = true) : ∀ j, j < 32 → bt (acc ||| fX7_setOf (nI i)) j = (bt acc j || (decide (j = i) && c)) := by
  intro j hj
  rw [b_or, bt_setOf hi hj, hc, Bool.and_true]
theorem acc_sh {acc : Int32} {i : Nat} {c : Bool} (hi : i < 32) (hc : c = true) : ∀ j, j < 32 → bt (acc ||| (1 <<< (nI i &&& 31))) j = (bt acc j || (decide (j = i) && c)) := by
  rw [← setOf_eq hi]
  exact acc_in hi hc
theorem acc_out {acc : Int32} {i : Nat} {c : Bool} (hc : c = false) : ∀ j, j < 32 → bt acc j = (bt acc j || (decide (j = i) && c)) := by
  intro j _
  rw [hc, Bool.and_false, Bool.or_false]
theorem acc_or0 {acc : Int32} {i : Nat} {c : Bool} (hc : c = false) : ∀ j, j < 32 → bt (acc ||| 0) j = (bt acc j || (decide (j = i) && c)) := by
  intro j _
  rw [b_or, b_0, Bool.or_false, hc, Bool.and_false, Bool.or_false]
/-- sums of small numbers -/
theorem sum_loop {β : Type} {n : Nat} (F : Nat → Int32 → Nat → Option β) (G : Int32 → Option β) (f : Nat → Nat) (hend : ∀ fuel acc, F (fuel + 1) acc n = G acc)
    (hstep : ∀ fuel acc i, i < n → F (fuel + 1) (nI acc) i = F fuel (nI (acc + f i)) (i + 1)) :
    ∀ fuel i acc, i ≤ n → n < i + fuel → F fuel (nI acc) i = G (nI (acc + fb_sm (fun k => f (i + k)) (n - i))) := by
  intro fuel
  induction fuel with
  | zero => intro i acc h1 h2; omega
  | succ fuel ih =>
    intro i acc h1 h2
    by_cases h : i < n
    · rw [hstep fuel acc i h, ih (i + 1) _ h (by omega)]
      congr 2
      obtain ⟨d, hd⟩ : ∃ d, n - i = 1 + d := ⟨n - i - 1, by omega⟩
      have hd2 : n - (i + 1) = d := by omega
      rw [hd, hd2, fb_sm_split (fun k => f (i + k)) 1 d]
      have e1 : fb_sm (fun k => f (i + k)) 1 = f i := by show 0 + f (i + 0) = f i; simp
      have e2 : fb_sm (fun k => f (i + (1 + k))) d = fb_sm (fun k => f (i + 1 + k)) d := fb_sm_cong (fun k _ => by rw [Nat.add_assoc])
      rw [e1, e2]
      omega
    · have hi : i = n := by omega
      subst hi
      rw [hend, Nat.sub_self]
      rfl
theorem sum_loop0 {β : Type} {n : Nat} (F : Nat → Int32 → Nat → Option β) (G : Int32 → Option β) (f : Nat → Nat) (hend : ∀ fuel acc, F (fuel + 1) acc n = G acc)
    (hstep : ∀ fuel acc i, i < n → F (fuel + 1) (nI acc) i = F fuel (nI (acc + f i)) (i + 1)) {fuel : Nat} (hf : n < fuel) : F fuel 0 0 = G (nI (fb_sm f n)) := by
  have h := sum_loop F G f hend hstep fuel 0 0 (Nat.zero_le _) (by omega)
  have e : fb_sm (fun k => f (0 + k)) (n - 0) = fb_sm f n := by rw [Nat.sub_zero]; exact fb_sm_cong (fun k _ => by rw [Nat.zero_add])
  rw [e, Nat.zero_add] at h
  exact h
theorem ct_sm (p : Nat → Bool) : ∀ n, fb_sm (fun k => if p k = true then 1 else 0) n = fb_ct p n
  | 0 => rfl
  | n + 1 => by rw [fb_sm_succ, fb_ct_succ, ct_sm p n]
/-- the reference's cells -/
def RS0 (st : Nat → Int32) (mw ke bo nu : Int32) : Prop := st 0 = mw ∧ st 1 = ke ∧ st 2 = bo ∧ st 3 = nu
def RK (st : Nat → Int32) (nk : Nat) (live : Int32) (par mak wea : Nat → Int32) : Prop := ∀ k, k < nk → st (4 + 4 * k) = par k ∧ st (4 + 4 * k + 1) = (if bt live k = true then 1 else 0) ∧ st (4 + 4 * k + 2) = mak k ∧ st (4 + 4 * k + 3) = wea k
def RB (st : Nat → Int32) (nb : Nat) (live : Int32) (kob : Nat → Int32) : Prop := ∀ b, b < nb → st (84 + 2 * b) = kob b ∧ st (84 + 2 * b + 1) = (if bt live b = true then 1 else 0)
def RW (st : Nat → Int32) (nw : Nat) (hek hew clo clm sta : Nat → Int32) : Prop := ∀ w, w < nw → st (124 + 6 * w) = hek w ∧ st (124 + 6 * w + 1) = hew w ∧ st (124 + 6 * w + 2) = clo w ∧ st (124 + 6 * w + 3) = clm w ∧ st (124 + 6 * w + 4) = (if bt (sta w) 3 = true then 1 else 0) ∧ st (124 + 6 * w + 5) = sta w &&& 7
theorem key0 {k : Nat} (hk : k < 20) (st : Nat → Int32) : fX8_keyPart st (nI k) 0 = some (st (4 + 4 * k)) := keyPart_nI hk (p := 0) (by omega) st
theorem key1 {k : Nat} (hk : k < 20) (st : Nat → Int32) : fX8_keyPart st (nI k) 1 = some (st (4 + 4 * k + 1)) := keyPart_nI hk (p := 1) (by omega) st
theorem key2 {k : Nat} (hk : k < 20) (st : Nat → Int32) : fX8_keyPart st (nI k) 2 = some (st (4 + 4 * k + 2)) := keyPart_nI hk (p := 2) (by omega) st
theorem key3 {k : Nat} (hk : k < 20) (st : Nat → Int32) : fX8_keyPart st (nI k) 3 = some (st (4 + 4 * k + 3)) := keyPart_nI hk (p := 3) (by omega) st
theorem box0 {k : Nat} (hk : k < 20) (st : Nat → Int32) : fX8_boxPart st (nI k) 0 = some (st (84 + 2 * k)) := boxPart_nI hk (p := 0) (by omega) st
theorem box1 {k : Nat} (hk : k < 20) (st : Nat → Int32) : fX8_boxPart st (nI k) 1 = some (st (84 + 2 * k + 1)) := boxPart_nI hk (p := 1) (by omega) st
theorem wr0 {w : Nat} (hw : w < 120) (st : Nat → Int32) : fX8_wrapPart st (nI w) 0 = some (st (124 + 6 * w)) := wrapPart_nI hw (p := 0) (by omega) st
theorem wr1 {w : Nat} (hw : w < 120) (st : Nat → Int32) : fX8_wrapPart st (nI w) 1 = some (st (124 + 6 * w + 1)) := wrapPart_nI hw (p := 1) (by omega) st
theorem wr2 {w : Nat} (hw : w < 120) (st : Nat → Int32) : fX8_wrapPart st (nI w) 2 = some (st (124 + 6 * w + 2)) := wrapPart_nI hw (p := 2) (by omega) st
theorem wr3 {w : Nat} (hw : w < 120) (st : Nat → Int32) : fX8_wrapPart st (nI w) 3 = some (st (124 + 6 * w + 3)) := wrapPart_nI hw (p := 3) (by omega) st
theorem wr4 {w : Nat} (hw : w < 120) (st : Nat → Int32) : fX8_wrapPart st (nI w) 4 = some (st (124 + 6 * w + 4)) := wrapPart_nI hw (p := 4) (by omega) st
theorem wr5 {w : Nat} (hw : w < 120) (st : Nat → Int32) : fX8_wrapPart st (nI w) 5 = some (st (124 + 6 * w + 5)) := wrapPart_nI hw (p := 5) (by omega) st
theorem bit1_eq {b : Bool} : ((if b = true then (1 : Int32) else 0) = 1) ↔ b = true := by cases b <;> decide
theorem bit0_eq {b : Bool} : ((if b = true then (1 : Int32) else 0) = 0) ↔ ¬ b = true := by cases b <;> decide
/-- is a number in a set, as the class asks it -/
noncomputable def hs (s p : Int32) : Bool := !decide (fX7_has s p = 0)
theorem hs_nI {k : Nat} (hk : k < 32) (s : Int32) : hs s (nI k) = bt s k := by
  unfold hs
  rw [has_nI hk]
  cases bt s k <;> decide
theorem hs_m6 (s : Int32) : hs s (-6) = false := by
  unfold hs
  rw [has_m6]
  rfl
theorem hs_set {k : Nat} (hk : k < 32) {p : Int32} (hp : p = -6 ∨ ∃ j, j < 32 ∧ p = nI j) : hs (fX7_setOf (nI k)) p = decide (p = nI k) := by
  rcases hp with rfl | ⟨j, hj, rfl⟩
  · rw [hs_m6]
    have : ¬ ((-6 : Int32) = nI k) := by
      intro h
      have h2 := congrArg Int32.toInt h
      rw [nI_toInt (by omega)] at h2
      have h3 : (-6 : Int32).toInt = -6 := by decide
      omega
    rw [decide_eq_false this]
  · rw [hs_nI hj, bt_setOf hk hj]
    congr 1
    exact propext (nI_eq (by omega) (by omega)).symm
theorem nI_ne6 {k : Nat} (hk : k < 2 ^ 31) : ¬ nI k = -6 := by
  intro h
  have h2 := congrArg Int32.toInt h
  rw [nI_toInt hk] at h2
  have h3 : (-6 : Int32).toInt = -6 := by decide
  omega
section MASKS
variable {nk nb nw : Nat} {liveK liveB : Int32} {par mak wea kob hek hew clo clm sta st : Nat → Int32}
theorem liveKeysOn_eq (hk : nk ≤ 20) (set : Int32) : ∃ m, fX5_liveKeysOn (nI nk) liveK par set = some m ∧ ∀ j, j < 32 → bt m j = (decide (j < nk) && hs set (par j) && bt liveK j) := by
  obtain ⟨a, h1, h2⟩ := mask_loop (n := nk) (fun fuel acc i => fX5_liveKeysOn_b4 fuel (nI nk) liveK par set acc (nI i)) (fun acc => some (acc &&& liveK)) (fun j => hs set (par j))
    (fun fuel acc => by show fX5_liveKeysOn_b4 _ _ _ _ _ _ _ = _; rw [fX5_liveKeysOn_b4, if_pos (nI_le (Nat.le_refl _) (by omega))])
    (fun fuel acc i hi => by
      show ∃ acc', _ ∧ fX5_liveKeysOn_b4 _ _ _ _ _ _ _ = _
      rw [fX5_liveKeysOn_b4, if_neg (nI_ge hi (by omega)), rAt_nI (by omega) (by omega), nI_1]
      by_cases hc : fX7_has set (par i) = 0
      · rw [if_pos hc]
        exact ⟨acc, acc_out (by simp [hs, hc]), rfl⟩
      · rw [if_neg hc]
        exact ⟨_, acc_in (by omega) (by simp [hs, hc]), rfl⟩) 6000 0 0 (by omega) (by omega)
  refine ⟨_, h1, fun j hj => ?_⟩
  rw [b_and, h2 j hj, b_0]
  simp
theorem liveBoxesOn_eq (hb : nb ≤ 20) (set : Int32) : ∃ m, fX5_liveBoxesOn (nI nb) liveB kob set = some m ∧ ∀ j, j < 32 → bt m j = (decide (j < nb) && hs set (kob j) && bt liveB j) := by
  obtain ⟨a, h1, h2⟩ := mask_loop (n := nb) (fun fuel acc i => fX5_liveBoxesOn_b4 fuel (nI nb) liveB kob set acc (nI i)) (fun acc => some (acc &&& liveB)) (fun j => hs set (kob j))
    (fun fuel acc => by show fX5_liveBoxesOn_b4 _ _ _ _ _ _ _ = _; rw [fX5_liveBoxesOn_b4, if_pos (nI_le (Nat.le_refl _) (by omega))])
    (fun fuel acc i hi => by
      show ∃ acc', _ ∧ fX5_liveBoxesOn_b4 _ _ _ _ _ _ _ = _
      rw [fX5_liveBoxesOn_b4, if_neg (nI_ge hi (by omega)), rAt_nI (by omega) (by omega), nI_1]
      by_cases hc : fX7_has set (kob i) = 0
      · rw [if_pos hc]
        exact ⟨acc, acc_out (by simp [hs, hc]), rfl⟩
      · rw [if_neg hc]
        exact ⟨_, acc_in (by omega) (by simp [hs, hc]), rfl⟩) 6000 0 0 (by omega) (by omega)
  refine ⟨_, h1, fun j hj => ?_⟩
  rw [b_and, h2 j hj, b_0]
  simp
theorem hangingKeys_eq (hk : nk ≤ 20) (h1s : st 1 = nI nk) (hR : RK st nk liveK par mak wea) (x : Int32) : ∃ m, fX8_hangingKeys st x = some m ∧ ∀ j, j < 32 → bt m j = (decide (j < nk) && decide (par j = x) && bt liveK j) := by
  obtain ⟨a, h1, h2⟩ := mask_loop (n := nk) (fun fuel acc i => fX8_hangingKeys_b4 fuel st x acc (nI i)) (fun acc => some acc) (fun j => decide (par j = x) && bt liveK j)
    (fun fuel acc => by
      show fX8_hangingKeys_b4 _ _ _ _ _ = _
      rw [fX8_hangingKeys_b4, if_neg ix1, cl1, h1s, if_pos (nI_le (Nat.le_refl _) (by omega))])
    (fun fuel acc i hi => by
      show ∃ acc', _ ∧ fX8_hangingKeys_b4 _ _ _ _ _ = _
      obtain ⟨r0, r1, -, -⟩ := hR i hi
      rw [fX8_hangingKeys_b4, if_neg ix1, cl1, h1s, if_neg (nI_ge hi (by omega)), key1 (by omega), Option.bind_some, r1]
      by_cases hl : bt liveK i = true
      · rw [if_pos (bit1_eq.mpr hl), key0 (by omega), Option.bind_some, r0, nI_1]
        by_cases hp : par i = x
        · rw [if_pos hp]
          exact ⟨_, acc_sh (by omega) (by simp [hp, hl]), rfl⟩
        · rw [if_neg hp]
          exact ⟨_, acc_or0 (by simp [hp]), rfl⟩
      · rw [if_neg (fun q => hl (bit1_eq.mp q)), nI_1]
        exact ⟨_, acc_or0 (by simp [hl]), rfl⟩) 6000 0 0 (by omega) (by omega)
  refine ⟨_, h1, fun j hj => ?_⟩
  rw [h2 j hj, b_0]
  simp [Bool.and_assoc]
theorem hangingBoxes_eq (hb : nb ≤ 20) (h2s : st 2 = nI nb) (hR : RB st nb liveB kob) (x : Int32) : ∃ m, fX8_hangingBoxes st x = some m ∧ ∀ j, j < 32 → bt m j = (decide (j < nb) && decide (kob j = x) && bt liveB j) := by
  obtain ⟨a, h1, h2⟩ := mask_loop (n := nb) (fun fuel acc i => fX8_hangingBoxes_b4 fuel st x acc (nI i)) (fun acc => some acc) (fun j => decide (kob j = x) && bt liveB j)
    (fun fuel acc => by
      show fX8_hangingBoxes_b4 _ _ _ _ _ = _
      rw [fX8_hangingBoxes_b4, if_neg ix2, cl2, h2s, if_pos (nI_le (Nat.le_refl _) (by omega))])
    (fun fuel acc i hi => by
      show ∃ acc', _ ∧ fX8_hangingBoxes_b4 _ _ _ _ _ = _
      obtain ⟨r0, r1⟩ := hR i hi
      rw [fX8_hangingBoxes_b4, if_neg ix2, cl2, h2s, if_neg (nI_ge hi (by omega)), box1 (by omega), Option.bind_some, r1]
      by_cases hl : bt liveB i = true
      · rw [if_pos (bit1_eq.mpr hl), box0 (by omega), Option.bind_some, r0, nI_1]
        by_cases hp : kob i = x
        · rw [if_pos hp]
          exact ⟨_, acc_sh (by omega) (by simp [hp, hl]), rfl⟩
        · rw [if_neg hp]
          exact ⟨_, acc_or0 (by simp [hp]), rfl⟩
      · rw [if_neg (fun q => hl (bit1_eq.mp q)), nI_1]
        exact ⟨_, acc_or0 (by simp [hl]), rfl⟩) 6000 0 0 (by omega) (by omega)
  refine ⟨_, h1, fun j hj => ?_⟩
  rw [h2 j hj, b_0]
  simp [Bool.and_assoc]
end MASKS
