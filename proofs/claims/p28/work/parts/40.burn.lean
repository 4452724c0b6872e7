/-! burnt wraps, next makes -/
theorem row_loop {β : Type} {n : Nat} (F : Nat → (Nat → Int32) → Nat → Option β) (G : (Nat → Int32) → Option β) (T : Nat → Int32 → Int32 → Prop) (hend : ∀ fuel f, F (fuel + 1) f n = G f)
    (hstep : ∀ fuel f i, i < n → ∃ f', F (fuel + 1) f i = F fuel f' (i + 1) ∧ T i (f i) (f' i) ∧ ∀ j, j ≠ i → f' j = f j) :
    ∀ fuel i f, i ≤ n → n < i + fuel → ∃ f', F fuel f i = G f' ∧ (∀ j, i ≤ j → j < n → T j (f j) (f' j)) ∧ ∀ j, j < i → f' j = f j := by
  intro fuel
  induction fuel with
  | zero => intro i f h1 h2; omega
  | succ fuel ih =>
    intro i f h1 h2
    by_cases h : i < n
    · obtain ⟨f1, e1, e2, e3⟩ := hstep fuel f i h
      obtain ⟨f2, g1, g2, g3⟩ := ih (i + 1) f1 h (by omega)
      refine ⟨f2, by rw [e1, g1], fun j hj1 hj2 => ?_, fun j hj => ?_⟩
      · by_cases hji : j = i
        · subst hji
          rw [g3 j (by omega)]
          exact e2
        · have := g2 j (by omega) hj2
          rw [e3 j hji] at this
          exact this
      · rw [g3 j (by omega), e3 j (by omega)]
    · have hi : i = n := by omega
      subst hi
      exact ⟨f, hend fuel f, fun j h1 h2 => by omega, fun j _ => rfl⟩
theorem and77 (x : Int32) : (x &&& 7) &&& 7 = x &&& 7 := by
  apply b_ext
  intro i hi
  rw [b_and, b_and]
  cases bt x i <;> cases bt 7 i <;> rfl
theorem and7_3 (x : Int32) : bt (x &&& 7) 3 = false := by
  rw [b_and, b_7, decide_eq_false (by omega), Bool.and_false]
/-- burnt or left -/
def BL (P : Prop) (x y : Int32) : Prop := (P ∧ y = x &&& 7) ∨ (¬ P ∧ y = x)
theorem BL.bt {P : Prop} {x y : Int32} (h : BL P x y) : bt y 3 = true ↔ (bt x 3 = true ∧ ¬ P) := by
  rcases h with ⟨hp, rfl⟩ | ⟨hp, rfl⟩
  · rw [and7_3]; simp [hp]
  · simp [hp]
theorem BL.low {P : Prop} {x y : Int32} (h : BL P x y) : y &&& 7 = x &&& 7 := by
  rcases h with ⟨hp, rfl⟩ | ⟨hp, rfl⟩
  · exact and77 x
  · rfl
theorem BL.trans {P Q : Prop} {x y z : Int32} (h1 : BL P x y) (h2 : BL Q y z) : BL (P ∨ Q) x z := by
  rcases h1 with ⟨hp, rfl⟩ | ⟨hp, rfl⟩ <;> rcases h2 with ⟨hq, rfl⟩ | ⟨hq, rfl⟩
  · exact Or.inl ⟨Or.inl hp, and77 x⟩
  · exact Or.inl ⟨Or.inl hp, rfl⟩
  · exact Or.inl ⟨Or.inr hq, rfl⟩
  · exact Or.inr ⟨fun h => h.elim hp hq, rfl⟩
theorem BL.iff {P Q : Prop} {x y : Int32} (h : BL P x y) (e : P ↔ Q) : BL Q x y := by
  rcases h with ⟨hp, rfl⟩ | ⟨hp, rfl⟩
  · exact Or.inl ⟨e.mp hp, rfl⟩
  · exact Or.inr ⟨fun q => hp (e.mpr q), rfl⟩
theorem low_lt {x : Nat} (hx : x < 16) : ∃ y, y < 16 ∧ nI x &&& 7 = nI y := ⟨x &&& 7, Nat.lt_of_le_of_lt Nat.and_le_left hx, nx_and x 7⟩
theorem BL.lt {P : Prop} {x y : Int32} (h : BL P x y) (hx : ∃ n, n < 16 ∧ x = nI n) : ∃ n, n < 16 ∧ y = nI n := by
  obtain ⟨n, hn, rfl⟩ := hx
  rcases h with ⟨hp, rfl⟩ | ⟨hp, rfl⟩
  · exact low_lt hn
  · exact ⟨n, hn, rfl⟩
section BURN
variable {B nk nb nw : Nat} {st : Nat → Int32} {mw ke bo lk lb nu : Int32} {par mak wea kob hek hew clo clm sta : Nat → Int32}
theorem burn_nI {w : Nat} (hw : w < 120) (f : Nat → Int32) : fX6_burn f (nI w) = upd f w (f w &&& 7) := by
  unfold fX6_burn
  rw [rAt_nI hw (by omega), rSet_nI hw (by omega)]
/-- what burnOlderThan burns -/
def Old (hek hew clo clm : Nat → Int32) (y m : Int32) (w : Nat) : Prop := (hek w = y ∧ hew w < m) ∨ (clo w = y ∧ clm w < m)
theorem not_le_I {a b : Int32} : ¬ a ≤ b ↔ b < a := by
  rw [Int32.le_iff_toInt_le, Int32.lt_iff_toInt_lt]
  omega
theorem burnOlder_eq (hw : nw ≤ 120) (y m : Int32) (f : Nat → Int32) : ∃ f', fX6_burnOlderThan (nI nw) hek hew clo clm f y m = some f' ∧ ∀ w, w < nw → BL (Old hek hew clo clm y m w) (f w) (f' w) := by
  obtain ⟨f', e1, e2, -⟩ := row_loop (n := nw) (fun fuel g i => fX6_burnOlderThan_b2 fuel (nI nw) hek hew clo clm g y m (nI i)) (fun g => some g) (fun w a b => BL (Old hek hew clo clm y m w) a b)
    (fun fuel g => by
      show fX6_burnOlderThan_b2 _ _ _ _ _ _ _ _ _ _ = _
      rw [fX6_burnOlderThan_b2, if_pos (nI_le (Nat.le_refl _) (by omega))])
    (fun fuel g i hi => by
      show ∃ f', fX6_burnOlderThan_b2 _ _ _ _ _ _ _ _ _ _ = fX6_burnOlderThan_b2 _ _ _ _ _ _ _ _ _ _ ∧ _
      rw [fX6_burnOlderThan_b2, if_neg (nI_ge hi (by omega)), rAt_nI (by omega) (by omega), rAt_nI (by omega) (by omega)]
      have burnt : Old hek hew clo clm y m i → ∃ f', fX6_burnOlderThan_b2 fuel (nI nw) hek hew clo clm (fX6_burn g (nI i)) y m (nI i + 1) = fX6_burnOlderThan_b2 fuel (nI nw) hek hew clo clm f' y m (nI (i + 1)) ∧ BL (Old hek hew clo clm y m i) (g i) (f' i) ∧ ∀ j, j ≠ i → f' j = g j := fun ho => by
        rw [burn_nI (by omega), nI_1]
        exact ⟨_, rfl, Or.inl ⟨ho, pk_us⟩, fun j hj => pk_un hj⟩
      have left : ¬ Old hek hew clo clm y m i → ∃ f', fX6_burnOlderThan_b2 fuel (nI nw) hek hew clo clm g y m (nI i + 1) = fX6_burnOlderThan_b2 fuel (nI nw) hek hew clo clm f' y m (nI (i + 1)) ∧ BL (Old hek hew clo clm y m i) (g i) (f' i) ∧ ∀ j, j ≠ i → f' j = g j := fun ho => by
        rw [nI_1]
        exact ⟨_, rfl, Or.inr ⟨ho, rfl⟩, fun j hj => rfl⟩
      unfold fX6_burnOlderThan_b39
      rw [rAt_nI (by omega) (by omega), rAt_nI (by omega) (by omega)]
      by_cases h1 : hek i = y
      · rw [if_pos h1]
        by_cases h2 : m ≤ hew i
        · rw [if_pos h2, if_pos rfl, if_pos rfl]
          by_cases h3 : clo i = y
          · rw [if_pos h3]
            by_cases h4 : m ≤ clm i
            · rw [if_pos h4]
              exact left (fun o => o.elim (fun q => not_le_I.mpr q.2 h2) (fun q => not_le_I.mpr q.2 h4))
            · rw [if_neg h4]
              exact burnt (Or.inr ⟨h3, not_le_I.mp h4⟩)
          · rw [if_neg h3]
            exact left (fun o => o.elim (fun q => not_le_I.mpr q.2 h2) (fun q => h3 q.1))
        · rw [if_neg h2, if_neg (show ¬ ((1 : Int32) = 0) by decide), if_neg (show ¬ ((1 : Int32) = 0) by decide)]
          have := burnt (Or.inl ⟨h1, not_le_I.mp h2⟩)
          by_cases h3 : clo i = y
          · rw [if_pos h3]
            by_cases h4 : m ≤ clm i
            · rw [if_pos h4]; exact this
            · rw [if_neg h4]; exact this
          · rw [if_neg h3]; exact this
      · rw [if_neg h1, if_pos rfl, if_pos rfl]
        by_cases h3 : clo i = y
        · rw [if_pos h3]
          by_cases h4 : m ≤ clm i
          · rw [if_pos h4]
            exact left (fun o => o.elim (fun q => h1 q.1) (fun q => not_le_I.mpr q.2 h4))
          · rw [if_neg h4]
            exact burnt (Or.inr ⟨h3, not_le_I.mp h4⟩)
        · rw [if_neg h3]
          exact left (fun o => o.elim (fun q => h1 q.1) (fun q => h3 q.1))) 6000 0 f (Nat.zero_le _) (by omega)
  exact ⟨f', e1, fun w hw2 => e2 w (Nat.zero_le _) hw2⟩
/-- what burnHolding burns -/
def Hold (hek hew : Nat → Int32) (tK tB : Int32) (w : Nat) : Prop := (hek w = -6 ∧ ¬ fX7_has tB (hew w) = 0) ∨ (¬ hek w = -6 ∧ ¬ fX7_has tK (hek w) = 0)
theorem burnHolding_eq (hw : nw ≤ 120) (tK tB : Int32) (f : Nat → Int32) : ∃ f', fX6_burnHolding (nI nw) hek hew f tK tB = some f' ∧ ∀ w, w < nw → BL (Hold hek hew tK tB w) (f w) (f' w) := by
  obtain ⟨f', e1, e2, -⟩ := row_loop (n := nw) (fun fuel g i => fX6_burnHolding_b2 fuel (nI nw) hek hew g tK tB (nI i)) (fun g => some g) (fun w a b => BL (Hold hek hew tK tB w) a b)
    (fun fuel g => by
      show fX6_burnHolding_b2 _ _ _ _ _ _ _ _ = _
      rw [fX6_burnHolding_b2, if_pos (nI_le (Nat.le_refl _) (by omega))])
    (fun fuel g i hi => by
      show ∃ f', fX6_burnHolding_b2 _ _ _ _ _ _ _ _ = fX6_burnHolding_b2 _ _ _ _ _ _ _ _ ∧ _
      rw [fX6_burnHolding_b2, if_neg (nI_ge hi (by omega)), rAt_nI (by omega) (by omega), rAt_nI (by omega) (by omega), nI_1, burn_nI (by omega)]
      by_cases h1 : hek i = -6
      · rw [if_pos h1]
        by_cases h2 : fX7_has tB (hew i) = 0
        · rw [if_pos h2]
          exact ⟨_, rfl, Or.inr ⟨fun o => o.elim (fun q => q.2 h2) (fun q => q.1 h1), rfl⟩, fun j hj => rfl⟩
        · rw [if_neg h2]
          exact ⟨_, rfl, Or.inl ⟨Or.inl ⟨h1, h2⟩, pk_us⟩, fun j hj => pk_un hj⟩
      · rw [if_neg h1]
        by_cases h2 : fX7_has tK (hek i) = 0
        · rw [if_pos h2]
          exact ⟨_, rfl, Or.inr ⟨fun o => o.elim (fun q => h1 q.1) (fun q => q.2 h2), rfl⟩, fun j hj => rfl⟩
        · rw [if_neg h2]
          exact ⟨_, rfl, Or.inl ⟨Or.inr ⟨h1, h2⟩, pk_us⟩, fun j hj => pk_un hj⟩) 6000 0 f (Nat.zero_le _) (by omega)
  exact ⟨f', e1, fun w hw2 => e2 w (Nat.zero_le _) hw2⟩
/-- the next makes of a set of keys -/
def OldS (S : Int32) (mak hek hew clo clm : Nat → Int32) (i w : Nat) : Prop := ∃ k, k < i ∧ bt S k = true ∧ Old hek hew clo clm (nI k) (mak k + 1) w
theorem startNext_eq (hw : nw ≤ 120) (S : Int32) (mak wea f : Nat → Int32) : ∃ mak' wea' f', fX1_startNextMakes mak wea (nI nw) hek hew clo clm f S = some (mak', wea', f') ∧
    (∀ k, k < 20 → mak' k = if bt S k = true then mak k + 1 else mak k) ∧ (∀ k, k < 20 → wea' k = if bt S k = true then 0 else wea k) ∧ ∀ w, w < nw → BL (OldS S mak hek hew clo clm 20 w) (f w) (f' w) := by
  have key : ∀ fuel i (m1 w1 f1 : Nat → Int32), i ≤ 20 → 20 < i + fuel → (∀ k, k < 20 → m1 k = if k < i ∧ bt S k = true then mak k + 1 else mak k) → (∀ k, k < 20 → w1 k = if k < i ∧ bt S k = true then 0 else wea k) → (∀ w, w < nw → BL (OldS S mak hek hew clo clm i w) (f w) (f1 w)) →
      ∃ mak' wea' f', fX1_startNextMakes_b2 fuel m1 w1 (nI nw) hek hew clo clm f1 S (nI i) = some (mak', wea', f') ∧ (∀ k, k < 20 → mak' k = if k < 20 ∧ bt S k = true then mak k + 1 else mak k) ∧ (∀ k, k < 20 → wea' k = if k < 20 ∧ bt S k = true then 0 else wea k) ∧ ∀ w, w < nw → BL (OldS S mak hek hew clo clm 20 w) (f w) (f' w) := by
    intro fuel
    induction fuel with
    | zero => intro i m1 w1 f1 h1 h2; omega
    | succ fuel ih =>
      intro i m1 w1 f1 h1 h2 hm hwe hf
      rw [fX1_startNextMakes_b2]
      by_cases hi : i < 20
      · rw [if_neg (show ¬ (20 : Int32) ≤ nI i from nI_ge (b := 20) hi (by omega)), has_nI (by omega)]
        by_cases hb : bt S i = true
        · rw [if_pos hb, if_neg (show ¬ ((1 : Int32) = 0) by decide)]
          have hmi : m1 i = mak i := by rw [hm i hi, if_neg (by omega)]
          unfold fX5_startNextMake fX5_makeOf
          rw [rAdd_nI hi (by omega), rSet_nI hi (by omega), Option.bind_some]
          dsimp only
          rw [rAt_nI hi (by omega), pk_us, hmi]
          obtain ⟨f2, e1, e2⟩ := burnOlder_eq (hek := hek) (hew := hew) (clo := clo) (clm := clm) hw (nI i) (mak i + 1) f1
          rw [e1, Option.bind_some, nI_1]
          refine ih (i + 1) _ _ _ hi (by omega) (fun k hk => ?_) (fun k hk => ?_) (fun w hw2 => ?_)
          · by_cases hki : k = i
            · subst hki
              rw [pk_us, if_pos ⟨Nat.lt_succ_self _, hb⟩]
            · rw [pk_un hki, hm k hk]
              have : (k < i + 1 ∧ bt S k = true) ↔ (k < i ∧ bt S k = true) := by
                constructor
                · rintro ⟨q1, q2⟩; exact ⟨by omega, q2⟩
                · rintro ⟨q1, q2⟩; exact ⟨by omega, q2⟩
              simp only [this]
          · by_cases hki : k = i
            · subst hki
              rw [pk_us, if_pos ⟨Nat.lt_succ_self _, hb⟩]
            · rw [pk_un hki, hwe k hk]
              have : (k < i + 1 ∧ bt S k = true) ↔ (k < i ∧ bt S k = true) := by
                constructor
                · rintro ⟨q1, q2⟩; exact ⟨by omega, q2⟩
                · rintro ⟨q1, q2⟩; exact ⟨by omega, q2⟩
              simp only [this]
          · refine ((hf w hw2).trans (e2 w hw2)).iff ?_
            constructor
            · rintro (⟨k, q1, q2, q3⟩ | q)
              · exact ⟨k, by omega, q2, q3⟩
              · exact ⟨i, Nat.lt_succ_self _, hb, q⟩
            · rintro ⟨k, q1, q2, q3⟩
              by_cases hki : k = i
              · subst hki; exact Or.inr q3
              · exact Or.inl ⟨k, by omega, q2, q3⟩
        · rw [if_neg hb, if_pos rfl, nI_1]
          have hsame : ∀ k, (k < i + 1 ∧ bt S k = true) ↔ (k < i ∧ bt S k = true) := fun k => by
            constructor
            · rintro ⟨q1, q2⟩
              refine ⟨?_, q2⟩
              rcases Nat.lt_or_ge k i with h | h
              · exact h
              · have : k = i := by omega
                subst this; exact absurd q2 hb
            · rintro ⟨q1, q2⟩; exact ⟨by omega, q2⟩
          refine ih (i + 1) _ _ _ hi (by omega) (fun k hk => ?_) (fun k hk => ?_) (fun w hw2 => ?_)
          · rw [hm k hk]; simp only [hsame k]
          · rw [hwe k hk]; simp only [hsame k]
          · refine (hf w hw2).iff ?_
            constructor
            · rintro ⟨k, q1, q2, q3⟩; exact ⟨k, by omega, q2, q3⟩
            · rintro ⟨k, q1, q2, q3⟩
              exact ⟨k, ((hsame k).mp ⟨q1, q2⟩).1, q2, q3⟩
      · have h20 : i = 20 := by omega
        subst h20
        rw [if_pos (show (20 : Int32) ≤ nI 20 from nI_le (a := 20) (Nat.le_refl _) (by omega))]
        exact ⟨m1, w1, f1, rfl, hm, hwe, hf⟩
  unfold fX1_startNextMakes
  obtain ⟨m, w, g, e1, e2, e3, e4⟩ := key 6000 0 mak wea f (by omega) (by omega) (fun k hk => by rw [if_neg (by omega)]) (fun k hk => by rw [if_neg (by omega)]) (fun w hw2 => Or.inr ⟨fun ⟨k, q, _⟩ => by omega, rfl⟩)
  exact ⟨m, w, g, e1, fun k hk => by rw [e2 k hk]; simp only [hk, true_and], fun k hk => by rw [e3 k hk]; simp only [hk, true_and], e4⟩
/-- what the reference's burns burns -/
def RBurn (lk lb : Int32) (mak hek hew clo clm : Nat → Int32) (w : Nat) : Prop :=
  (∃ c, c < 20 ∧ clo w = nI c ∧ clm w < mak c) ∨ (hek w = -6 ∧ ∃ b, b < 20 ∧ hew w = nI b ∧ bt lb b = false) ∨ ∃ k, k < 20 ∧ hek w = nI k ∧ (bt lk k = false ∨ hew w < mak k)
theorem burns_eq (hk : nk ≤ 20) (hb : nb ≤ 20) (hw : nw ≤ 120) (h3 : st 3 = nI nw) (hK : RK st nk lk par mak wea) (hB : RB st nb lb kob) (hW : WI nk nb nw par mak kob hek hew clo clm sta)
    (hR : ∀ w, w < nw → st (124 + 6 * w) = hek w ∧ st (124 + 6 * w + 1) = hew w ∧ st (124 + 6 * w + 2) = clo w ∧ st (124 + 6 * w + 3) = clm w) :
    ∃ st', fX8_burns st = some st' ∧ (∀ j, (∀ w, w < nw → j ≠ 124 + 6 * w + 4) → st' j = st j) ∧ ∀ w, w < nw → (RBurn lk lb mak hek hew clo clm w ∧ st' (124 + 6 * w + 4) = 0) ∨ (¬ RBurn lk lb mak hek hew clo clm w ∧ st' (124 + 6 * w + 4) = st (124 + 6 * w + 4)) := by
  have key : ∀ fuel i (s : Nat → Int32), i ≤ nw → nw < i + fuel → (∀ j, (∀ w, w < nw → j ≠ 124 + 6 * w + 4) → s j = st j) → (∀ w, i ≤ w → w < nw → s (124 + 6 * w + 4) = st (124 + 6 * w + 4)) → (∀ w, w < i → (RBurn lk lb mak hek hew clo clm w ∧ s (124 + 6 * w + 4) = 0) ∨ (¬ RBurn lk lb mak hek hew clo clm w ∧ s (124 + 6 * w + 4) = st (124 + 6 * w + 4))) →
      ∃ st', fX8_burns_b2 fuel s (nI i) = some st' ∧ (∀ j, (∀ w, w < nw → j ≠ 124 + 6 * w + 4) → st' j = st j) ∧ ∀ w, w < nw → (RBurn lk lb mak hek hew clo clm w ∧ st' (124 + 6 * w + 4) = 0) ∨ (¬ RBurn lk lb mak hek hew clo clm w ∧ st' (124 + 6 * w + 4) = st (124 + 6 * w + 4)) := by
    intro fuel
    induction fuel with
    | zero => intro i s h1 h2; omega
    | succ fuel ih =>
      intro i s h1 h2 hs hlo hup
      have e3 : s 3 = nI nw := by rw [hs 3 (fun w hw2 => by omega), h3]
      rw [fX8_burns_b2, if_neg ix3, cl3, e3]
      by_cases hi : i < nw
      · obtain ⟨r0, r1, r2, r3⟩ := hR i hi
        obtain ⟨w1, ⟨c, m, m', c1, c2, c3, c4, c5⟩, -⟩ := hW i hi
        have o0 : s (124 + 6 * i) = hek i := by rw [hs _ (fun w hw2 => by omega), r0]
        have o1 : s (124 + 6 * i + 1) = hew i := by rw [hs _ (fun w hw2 => by omega), r1]
        have o2 : s (124 + 6 * i + 2) = clo i := by rw [hs _ (fun w hw2 => by omega), r2]
        have o3 : s (124 + 6 * i + 3) = clm i := by rw [hs _ (fun w hw2 => by omega), r3]
        have ok2 : ∀ k, k < nk → s (4 + 4 * k + 2) = mak k := fun k hk2 => by rw [hs _ (fun w hw2 => by omega), (hK k hk2).2.2.1]
        have ok1 : ∀ k, k < nk → s (4 + 4 * k + 1) = (if bt lk k = true then 1 else 0) := fun k hk2 => by rw [hs _ (fun w hw2 => by omega), (hK k hk2).2.1]
        have ob1 : ∀ b, b < nb → s (84 + 2 * b + 1) = (if bt lb b = true then 1 else 0) := fun b hb2 => by rw [hs _ (fun w hw2 => by omega), (hB b hb2).2]
        have eset : fX8_setWrap s (nI i) 4 0 = some (upd s (124 + 6 * i + 4) 0) := setWrap_nI (by omega) (p := 4) (by omega) s 0
        have burnt : RBurn lk lb mak hek hew clo clm i → ∃ st', ((fX8_setWrap s (nI i) 4 0).bind fun q => fX8_burns_b2 fuel q (nI i + 1)) = some st' ∧ (∀ j, (∀ w, w < nw → j ≠ 124 + 6 * w + 4) → st' j = st j) ∧ ∀ w, w < nw → (RBurn lk lb mak hek hew clo clm w ∧ st' (124 + 6 * w + 4) = 0) ∨ (¬ RBurn lk lb mak hek hew clo clm w ∧ st' (124 + 6 * w + 4) = st (124 + 6 * w + 4)) := fun hr => by
          rw [eset, Option.bind_some, nI_1]
          refine ih (i + 1) _ hi (by omega) (fun j hj => ?_) (fun w hw1 hw2 => ?_) (fun w hw1 => ?_)
          · rw [pk_un (hj i hi)]; exact hs j hj
          · rw [pk_un (by omega)]; exact hlo w (by omega) hw2
          · by_cases hwi : w = i
            · subst hwi; exact Or.inl ⟨hr, pk_us⟩
            · rw [pk_un (by omega)]; exact hup w (by omega)
        have left : ¬ RBurn lk lb mak hek hew clo clm i → ∃ st', fX8_burns_b2 fuel s (nI i + 1) = some st' ∧ (∀ j, (∀ w, w < nw → j ≠ 124 + 6 * w + 4) → st' j = st j) ∧ ∀ w, w < nw → (RBurn lk lb mak hek hew clo clm w ∧ st' (124 + 6 * w + 4) = 0) ∨ (¬ RBurn lk lb mak hek hew clo clm w ∧ st' (124 + 6 * w + 4) = st (124 + 6 * w + 4)) := fun hr => by
          rw [nI_1]
          refine ih (i + 1) _ hi (by omega) hs (fun w hw1 hw2 => hlo w (by omega) hw2) (fun w hw1 => ?_)
          by_cases hwi : w = i
          · subst hwi; exact Or.inr ⟨hr, hlo w (Nat.le_refl _) hi⟩
          · exact hup w (by omega)
        rw [if_neg (nI_ge hi (by omega)), wr0 (by omega), Option.bind_some, wr2 (by omega), Option.bind_some, wr3 (by omega), Option.bind_some, o0, o2, o3, c2, key2 (by omega), Option.bind_some, ok2 c c1]
        unfold fX8_burns_b46
        by_cases hc : mak c ≤ clm i
        · have noc : ¬ ∃ c', c' < 20 ∧ clo i = nI c' ∧ clm i < mak c' := fun ⟨c', q1, q2, q3⟩ => by
            have := (nI_eq (by omega) (by omega)).mp (q2.symm.trans c2)
            subst this
            exact not_le_I.mpr q3 hc
          rw [if_pos hc, if_pos rfl, if_pos rfl]
          rcases w1 with ⟨p1, b, p2, p3, -⟩ | ⟨k, j, p1, p2, p3, -⟩
          · rw [if_pos p1, wr1 (by omega), Option.bind_some, o1, p3, box1 (by omega), Option.bind_some, ob1 b p2]
            by_cases hl : bt lb b = true
            · rw [if_pos hl, if_neg (show ¬ ((1 : Int32) = 0) by decide)]
              refine left (fun o => ?_)
              rcases o with o | ⟨q1, b', q2, q3, q4⟩ | ⟨k, q1, q2, -⟩
              · exact noc o
              · have := (nI_eq (by omega) (by omega)).mp (q3.symm.trans p3)
                subst this; rw [hl] at q4; cases q4
              · exact nI_ne6 (by omega) (q2.symm.trans p1)
            · rw [if_neg hl, if_pos rfl]
              exact burnt (Or.inr (Or.inl ⟨p1, b, by omega, p3, Bool.eq_false_iff.mpr hl⟩))
          · have hne : ¬ hek i = -6 := fun q => nI_ne6 (by omega) (p3.symm.trans q)
            rw [if_neg hne, p3, key1 (by omega), Option.bind_some, ok1 k p1]
            by_cases hl : bt lk k = true
            · rw [if_pos hl, if_neg (show ¬ ((1 : Int32) = 0) by decide), wr1 (by omega), Option.bind_some, o1, key2 (by omega), Option.bind_some, ok2 k p1]
              by_cases hm : mak k ≤ hew i
              · rw [if_pos hm]
                refine left (fun o => ?_)
                rcases o with o | ⟨q1, -⟩ | ⟨k', q1, q2, q3⟩
                · exact noc o
                · exact hne q1
                · have := (nI_eq (by omega) (by omega)).mp (q2.symm.trans p3)
                  subst this
                  rcases q3 with q3 | q3
                  · rw [hl] at q3; cases q3
                  · exact not_le_I.mpr q3 hm
              · rw [if_neg hm]
                exact burnt (Or.inr (Or.inr ⟨k, by omega, p3, Or.inr (not_le_I.mp hm)⟩))
            · rw [if_neg hl, if_pos rfl]
              exact burnt (Or.inr (Or.inr ⟨k, by omega, p3, Or.inl (Bool.eq_false_iff.mpr hl)⟩))
        · have := burnt (Or.inl ⟨c, by omega, c2, not_le_I.mp hc⟩)
          rw [if_neg hc, if_neg (show ¬ ((1 : Int32) = 0) by decide), if_neg (show ¬ ((1 : Int32) = 0) by decide)]
          by_cases h6 : hek i = -6
          · rw [if_pos h6]; exact this
          · rw [if_neg h6]; exact this
      · have hin : i = nw := by omega
        subst hin
        rw [if_pos (nI_le (Nat.le_refl _) (by omega))]
        exact ⟨s, rfl, hs, fun w hw2 => hup w hw2⟩
  unfold fX8_burns
  exact key 6000 0 st (Nat.zero_le _) (by omega) (fun j _ => rfl) (fun w _ _ => rfl) (fun w hw2 => by omega)
end BURN
