/-! what can be opened: the reference -/
section ROPEN
variable {B nk nb nw : Nat} {st : Nat → Int32} {mw ke bo lk lb nu : Int32} {par mak wea kob hek hew clo clm sta : Nat → Int32} {y1 y2 y3 : Int32}
def SR (nk : Nat) (lk : Int32) (par mak : Nat → Int32) (y2 y3 c m : Int32) : Prop := (y2 = -6 ∧ ∃ j, j < nk ∧ c = nI j ∧ bt lk j = true ∧ par j = -6 ∧ mak j = m) ∨ (¬ y2 = -6 ∧ c = y2 ∧ m = y3)
def CR (sta : Nat → Int32) (y1 y2 : Int32) (w : Nat) : Prop := ¬ (sta w &&& 7) &&& y1 = 0 ∨ (y2 = -6 ∧ bt (sta w) 3 = true)
theorem isHadR (hk : nk ≤ 20) (hw : nw ≤ 120) (h3 : st 3 = nI nw) (hK : RK st nk lk par mak wea) (hR : RW st nw hek hew clo clm sta) {op : Nat → Int32} (hb : Bin nw op) {k : Nat} (hk2 : k < nk) (m : Int32) :
    (Had (SR nk lk par mak y2 y3) nw op hek hew (nI k) m ∧ fX8_isHad st op (nI k) m y2 y3 = some 1) ∨ (¬ Had (SR nk lk par mak y2 y3) nw op hek hew (nI k) m ∧ fX8_isHad st op (nI k) m y2 y3 = some 0) := by
  have one : ∀ fuel i, i ≤ nw → nw < i + fuel → fX8_isHad_b36 fuel st op (nI k) m 1 (nI i) = some 1 := fun fuel i h1 h2 => by
    obtain ⟨f, rfl⟩ : ∃ f, fuel = f + 1 := ⟨fuel - 1, by omega⟩
    rw [fX8_isHad_b36, if_neg ix3, cl3, h3]
    by_cases hi : nI nw ≤ nI i
    · rw [if_pos hi]; rfl
    · rw [if_neg hi]; rfl
  have key : ∀ fuel i, i ≤ nw → nw < i + fuel → ((∃ w, w < nw ∧ i ≤ w ∧ op w = 1 ∧ hek w = nI k ∧ hew w = m) ∧ fX8_isHad_b36 fuel st op (nI k) m 0 (nI i) = some 1) ∨ ((¬ ∃ w, w < nw ∧ i ≤ w ∧ op w = 1 ∧ hek w = nI k ∧ hew w = m) ∧ fX8_isHad_b36 fuel st op (nI k) m 0 (nI i) = some 0) := by
    intro fuel
    induction fuel with
    | zero => intro i h1 h2; omega
    | succ fuel ih =>
      intro i h1 h2
      rw [fX8_isHad_b36, if_neg ix3, cl3, h3]
      by_cases hi : i < nw
      · obtain ⟨r0, r1, -⟩ := hR i hi
        have skip : ¬ (op i = 1 ∧ hek i = nI k ∧ hew i = m) → ((∃ w, w < nw ∧ i ≤ w ∧ op w = 1 ∧ hek w = nI k ∧ hew w = m) ∧ fX8_isHad_b36 fuel st op (nI k) m 0 (nI (i + 1)) = some 1) ∨ ((¬ ∃ w, w < nw ∧ i ≤ w ∧ op w = 1 ∧ hek w = nI k ∧ hew w = m) ∧ fX8_isHad_b36 fuel st op (nI k) m 0 (nI (i + 1)) = some 0) := fun hn => by
          rcases ih (i + 1) hi (by omega) with ⟨⟨w, q1, q2, q3⟩, q4⟩ | ⟨q1, q2⟩
          · exact Or.inl ⟨⟨w, q1, by omega, q3⟩, q4⟩
          · refine Or.inr ⟨fun ⟨w, r1, r2, r3⟩ => ?_, q2⟩
            by_cases hwi : w = i
            · subst hwi; exact hn r3
            · exact q1 ⟨w, r1, by omega, r3⟩
        rw [if_neg (nI_ge hi (by omega)), if_pos rfl, if_neg (nI_in (by omega) (by omega)), nI_clamp (by omega), nI_1]
        by_cases ho : op i = 1
        · rw [if_pos ho, wr0 (by omega), Option.bind_some, r0]
          by_cases ha : hek i = nI k
          · rw [if_pos ha, wr1 (by omega), Option.bind_some, r1]
            by_cases hm : hew i = m
            · rw [if_pos hm]
              exact Or.inl ⟨⟨i, hi, Nat.le_refl _, ho, ha, hm⟩, one fuel (i + 1) hi (by omega)⟩
            · rw [if_neg hm]
              exact skip (fun q => hm q.2.2)
          · rw [if_neg ha]
            exact skip (fun q => ha q.2.1)
        · rw [if_neg ho]
          exact skip (fun q => ho q.1)
      · have hin : i = nw := by omega
        subst hin
        rw [if_pos (nI_le (Nat.le_refl _) (by omega)), if_pos rfl]
        exact Or.inr ⟨fun ⟨w, r1, r2, r3⟩ => by omega, rfl⟩
  have one0 : fX8_isHad_b36 6000 st op (nI k) m 1 0 = some 1 := one 6000 0 (Nat.zero_le _) (by omega)
  have key0' : ((∃ w, w < nw ∧ 0 ≤ w ∧ op w = 1 ∧ hek w = nI k ∧ hew w = m) ∧ fX8_isHad_b36 6000 st op (nI k) m 0 0 = some 1) ∨ ((¬ ∃ w, w < nw ∧ 0 ≤ w ∧ op w = 1 ∧ hek w = nI k ∧ hew w = m) ∧ fX8_isHad_b36 6000 st op (nI k) m 0 0 = some 0) := key 6000 0 (Nat.zero_le _) (by omega)
  have fin : ¬ SR nk lk par mak y2 y3 (nI k) m → (Had (SR nk lk par mak y2 y3) nw op hek hew (nI k) m ∧ fX8_isHad_b36 6000 st op (nI k) m 0 0 = some 1) ∨ (¬ Had (SR nk lk par mak y2 y3) nw op hek hew (nI k) m ∧ fX8_isHad_b36 6000 st op (nI k) m 0 0 = some 0) := fun hn => by
    rcases key0' with ⟨⟨w, q1, q2, q3⟩, q4⟩ | ⟨q1, q2⟩
    · exact Or.inl ⟨Or.inr ⟨w, q1, q3⟩, q4⟩
    · exact Or.inr ⟨fun q => q.elim hn (fun ⟨w, r1, r2⟩ => q1 ⟨w, r1, Nat.zero_le _, r2⟩), q2⟩
  obtain ⟨r0, r1, r2, -⟩ := hK k hk2
  unfold fX8_isHad
  by_cases h6 : y2 = -6
  · rw [if_pos h6]
    unfold fX8_isInSafe
    rw [key1 (by omega), Option.bind_some, r1]
    have hne : ∀ P : Prop, (¬ (bt lk k = true ∧ par k = -6 ∧ mak k = m)) → ¬ SR nk lk par mak y2 y3 (nI k) m := fun _ hq hs => by
      rcases hs with ⟨-, j, j1, j2, j3⟩ | ⟨q, -⟩
      · have := (nI_eq (by omega) (by omega)).mp j2
        subst this
        exact hq j3
      · exact q h6
    by_cases hl : bt lk k = true
    · rw [if_pos (bit1_eq.mpr hl), risRoot_eq (by omega) r0, Option.bind_some]
      by_cases hr : par k = -6
      · rw [if_pos hr, if_neg (show ¬ ((1 : Int32) = 0) by decide), key2 (by omega), Option.bind_some, r2]
        by_cases hm : mak k = m
        · rw [if_pos hm, Option.bind_some, one0]
          exact Or.inl ⟨Or.inl (Or.inl ⟨h6, k, hk2, rfl, hl, hr, hm⟩), rfl⟩
        · rw [if_neg hm, Option.bind_some]
          exact fin (hne True (fun q => hm q.2.2))
      · rw [if_neg hr, if_pos rfl, Option.bind_some]
        exact fin (hne True (fun q => hr q.2.1))
    · rw [if_neg (fun q => hl (bit1_eq.mp q)), Option.bind_some]
      exact fin (hne True (fun q => hl q.1))
  · rw [if_neg h6]
    by_cases ha : nI k = y2
    · rw [if_pos ha]
      by_cases hm : m = y3
      · rw [if_pos hm, one0]
        exact Or.inl ⟨Or.inl (Or.inr ⟨h6, ha, hm⟩), rfl⟩
      · rw [if_neg hm]
        exact fin (fun hs => hs.elim (fun q => h6 q.1) (fun q => hm q.2.2))
    · rw [if_neg ha]
      exact fin (fun hs => hs.elim (fun q => h6 q.1) (fun q => ha q.2.1))
theorem Had.mono {S : Int32 → Int32 → Prop} {o1 o2 : Nat → Int32} (h : ∀ w, w < nw → o1 w = 1 → o2 w = 1) {c m : Int32} (q : Had S nw o1 hek hew c m) : Had S nw o2 hek hew c m := by
  rcases q with q | ⟨w, q1, q2, q3⟩
  · exact Or.inl q
  · exact Or.inr ⟨w, q1, h w q1 q2, q3⟩
theorem ropen_pass (hk : nk ≤ 20) (hw : nw ≤ 120) (h3 : st 3 = nI nw) (hK : RK st nk lk par mak wea) (hR : RW st nw hek hew clo clm sta) (hW : WI nk nb nw par mak kob hek hew clo clm sta)
    (k31 : (Nat → Int32) → (Nat → Int32) → Int32 → Int32 → Int32 → Int32 → Option (Nat → Int32)) : ∀ fuel i op y4, i ≤ nw → nw < i + fuel → Bin nw op → (y4 = 0 ∨ y4 = 1) →
    ∃ op' y4', fX8_open_b42 k31 fuel st op y1 y2 y3 y4 (nI i) = k31 st op' y1 y2 y3 y4' ∧ Bin nw op' ∧ (∀ w, w < nw → op w = 1 → op' w = 1) ∧ (∀ w, w < nw → op' w = 1 → op w = 1 ∨ (CR sta y1 y2 w ∧ Had (SR nk lk par mak y2 y3) nw op' hek hew (clo w) (clm w))) ∧
      ((y4' = 0 ∧ y4 = 0 ∧ (∀ w, w < nw → op' w = op w) ∧ ∀ w, i ≤ w → w < nw → CR sta y1 y2 w → op w = 0 → ¬ Had (SR nk lk par mak y2 y3) nw op hek hew (clo w) (clm w)) ∨ (y4' = 1 ∧ (y4 = 1 ∨ ∃ w, w < nw ∧ op w = 0 ∧ op' w = 1))) := by
  intro fuel
  induction fuel with
  | zero => intro i op y4 h1 h2; omega
  | succ fuel ih =>
    intro i op y4 h1 h2 hb hy4
    rw [fX8_open_b42, if_neg ix3, cl3, h3]
    by_cases hi : i < nw
    · obtain ⟨r0, r1, r2, r3, r4, r5⟩ := hR i hi
      obtain ⟨-, ⟨c, m, m', c1, c2, c3, -⟩, -⟩ := hW i hi
      rw [if_neg (nI_ge hi (by omega)), wr5 (by omega), Option.bind_some, r5]
      have skip : (CR sta y1 y2 i → op i = 0 → ¬ Had (SR nk lk par mak y2 y3) nw op hek hew (clo i) (clm i)) → ∃ op' y4', fX8_open_b42 k31 fuel st op y1 y2 y3 y4 (nI i + 1) = k31 st op' y1 y2 y3 y4' ∧ Bin nw op' ∧ (∀ w, w < nw → op w = 1 → op' w = 1) ∧ (∀ w, w < nw → op' w = 1 → op w = 1 ∨ (CR sta y1 y2 w ∧ Had (SR nk lk par mak y2 y3) nw op' hek hew (clo w) (clm w))) ∧
          ((y4' = 0 ∧ y4 = 0 ∧ (∀ w, w < nw → op' w = op w) ∧ ∀ w, i ≤ w → w < nw → CR sta y1 y2 w → op w = 0 → ¬ Had (SR nk lk par mak y2 y3) nw op hek hew (clo w) (clm w)) ∨ (y4' = 1 ∧ (y4 = 1 ∨ ∃ w, w < nw ∧ op w = 0 ∧ op' w = 1))) := fun hn => by
        rw [nI_1]
        obtain ⟨op', y4', q1, q2, q3, q4, q5⟩ := ih (i + 1) op y4 hi (by omega) hb hy4
        refine ⟨op', y4', q1, q2, q3, q4, ?_⟩
        rcases q5 with ⟨z1, z2, z3, z4⟩ | z
        · refine Or.inl ⟨z1, z2, z3, fun w hw1 hw2 => ?_⟩
          by_cases hwi : w = i
          · subst hwi; exact hn
          · exact z4 w (by omega) hw2
        · exact Or.inr z
      have cand : CR sta y1 y2 i → ∃ op' y4', fX8_open_b87 k31 (fX8_open_b42 k31 fuel) st op y1 y2 y3 y4 (nI i) 1 = k31 st op' y1 y2 y3 y4' ∧ Bin nw op' ∧ (∀ w, w < nw → op w = 1 → op' w = 1) ∧ (∀ w, w < nw → op' w = 1 → op w = 1 ∨ (CR sta y1 y2 w ∧ Had (SR nk lk par mak y2 y3) nw op' hek hew (clo w) (clm w))) ∧
          ((y4' = 0 ∧ y4 = 0 ∧ (∀ w, w < nw → op' w = op w) ∧ ∀ w, i ≤ w → w < nw → CR sta y1 y2 w → op w = 0 → ¬ Had (SR nk lk par mak y2 y3) nw op hek hew (clo w) (clm w)) ∨ (y4' = 1 ∧ (y4 = 1 ∨ ∃ w, w < nw ∧ op w = 0 ∧ op' w = 1))) := fun hc => by
        unfold fX8_open_b87
        rw [if_neg (nI_in (by omega) (by omega)), nI_clamp (by omega)]
        by_cases ho : op i = 0
        · rw [if_pos ho, if_neg (show ¬ ((1 : Int32) = 0) by decide), wr2 (by omega), Option.bind_some, wr3 (by omega), Option.bind_some, r2, r3, c2]
          rcases isHadR (y2 := y2) (y3 := y3) hk hw h3 hK hR hb c1 (clm i) with ⟨g1, g2⟩ | ⟨g1, g2⟩
          · rw [g2, Option.bind_some, if_neg (show ¬ ((1 : Int32) = 0) by decide), if_neg (show ¬ (nI i < 0 ∨ 120 ≤ i) from fun q => q.elim (nI_pos (by omega)) (fun r => by omega)), nI_1]
            have hle : ∀ w, w < nw → op w = 1 → upd op i 1 w = 1 := fun w hw1 hw2 => by
              by_cases hwi : w = i
              · subst hwi; exact pk_us
              · rw [pk_un hwi]; exact hw2
            obtain ⟨op', y4', q1, q2, q3, q4, q5⟩ := ih (i + 1) (upd op i 1) 1 hi (by omega) (fun w hw1 => by
              by_cases hwi : w = i
              · subst hwi; exact Or.inr pk_us
              · rw [pk_un hwi]; exact hb w hw1) (Or.inr rfl)
            have hi1 : op' i = 1 := q3 i hi pk_us
            refine ⟨op', y4', q1, q2, fun w hw1 hw2 => q3 w hw1 (hle w hw1 hw2), fun w hw1 hw2 => ?_, ?_⟩
            · rcases q4 w hw1 hw2 with z | z
              · by_cases hwi : w = i
                · subst hwi
                  refine Or.inr ⟨hc, ?_⟩
                  rw [c2]
                  exact g1.mono (fun w hw1 hw2 => q3 w hw1 (hle w hw1 hw2))
                · rw [pk_un hwi] at z
                  exact Or.inl z
              · exact Or.inr z
            · rcases q5 with ⟨z1, z2, z3, z4⟩ | ⟨z1, z2⟩
              · exact absurd z2 (by decide)
              · exact Or.inr ⟨z1, Or.inr ⟨i, hi, ho, hi1⟩⟩
          · rw [g2, Option.bind_some, if_pos rfl]
            exact skip (fun _ _ => by rw [c2]; exact g1)
        · rw [if_neg ho]
          exact skip (fun _ q => absurd q ho)
      have nocand : ¬ CR sta y1 y2 i → ∃ op' y4', fX8_open_b87 k31 (fX8_open_b42 k31 fuel) st op y1 y2 y3 y4 (nI i) 0 = k31 st op' y1 y2 y3 y4' ∧ Bin nw op' ∧ (∀ w, w < nw → op w = 1 → op' w = 1) ∧ (∀ w, w < nw → op' w = 1 → op w = 1 ∨ (CR sta y1 y2 w ∧ Had (SR nk lk par mak y2 y3) nw op' hek hew (clo w) (clm w))) ∧
          ((y4' = 0 ∧ y4 = 0 ∧ (∀ w, w < nw → op' w = op w) ∧ ∀ w, i ≤ w → w < nw → CR sta y1 y2 w → op w = 0 → ¬ Had (SR nk lk par mak y2 y3) nw op hek hew (clo w) (clm w)) ∨ (y4' = 1 ∧ (y4 = 1 ∨ ∃ w, w < nw ∧ op w = 0 ∧ op' w = 1))) := fun hc => by
        unfold fX8_open_b87
        rw [if_neg (nI_in (by omega) (by omega)), nI_clamp (by omega)]
        by_cases ho : op i = 0
        · rw [if_pos ho, if_pos rfl]
          exact skip (fun q _ => absurd q hc)
        · rw [if_neg ho]
          exact skip (fun q _ => absurd q hc)
      by_cases hq : (sta i &&& 7) &&& y1 = 0
      · rw [if_pos hq]
        by_cases h6 : y2 = -6
        · rw [if_pos h6, wr4 (by omega), Option.bind_some, r4]
          by_cases hs : bt (sta i) 3 = true
          · rw [if_pos (bit1_eq.mpr hs)]
            exact cand (Or.inr ⟨h6, hs⟩)
          · rw [if_neg (fun q => hs (bit1_eq.mp q))]
            exact nocand (fun q => q.elim (fun r => r hq) (fun r => hs r.2))
        · rw [if_neg h6]
          exact nocand (fun q => q.elim (fun r => r hq) (fun r => h6 r.1))
      · rw [if_neg hq]
        exact cand (Or.inl hq)
    · have hin : i = nw := by omega
      subst hin
      rw [if_pos (nI_le (Nat.le_refl _) (by omega))]
      refine ⟨op, y4, rfl, hb, fun w _ q => q, fun w _ q => Or.inl q, ?_⟩
      rcases hy4 with q | q
      · exact Or.inl ⟨q, q, fun w _ => rfl, fun w h1 h2 => by omega⟩
      · exact Or.inr ⟨q, Or.inl q⟩
theorem ropen_loop (hk : nk ≤ 20) (hw : nw ≤ 120) (h3 : st 3 = nI nw) (hK : RK st nk lk par mak wea) (hR : RW st nw hek hew clo clm sta) (hW : WI nk nb nw par mak kob hek hew clo clm sta) : ∀ fuel op y4, Bin nw op → (y4 = 0 ∨ y4 = 1) →
    (∀ w, w < nw → op w = 1 → CR sta y1 y2 w ∧ Had (SR nk lk par mak y2 y3) nw op hek hew (clo w) (clm w)) → (y4 = 0 → ∀ w, w < nw → CR sta y1 y2 w → op w = 0 → ¬ Had (SR nk lk par mak y2 y3) nw op hek hew (clo w) (clm w)) →
    fb_ct (fun w => decide (op w = 0)) nw + (if y4 = 0 then 0 else 1) < fuel →
    ∃ oF, fX8_open_b31 fuel st op y1 y2 y3 y4 = some oF ∧ Bin nw oF ∧ Fix (SR nk lk par mak y2 y3) (CR sta y1 y2) nw hek hew clo clm oF := by
  intro fuel
  induction fuel with
  | zero => intro op y4 _ _ _ _ h; omega
  | succ fuel ih =>
    intro op y4 hb hy4 hsound hclosed hfuel
    rw [fX8_open_b31]
    rcases hy4 with rfl | rfl
    · rw [if_pos rfl]
      refine ⟨op, rfl, hb, fun w hw1 => ⟨hsound w hw1, fun ⟨q1, q2⟩ => ?_⟩⟩
      rcases hb w hw1 with q | q
      · exact absurd q2 (hclosed rfl w hw1 q1 q)
      · exact q
    · rw [if_neg (show ¬ ((1 : Int32) = 0) by decide)] at hfuel ⊢
      obtain ⟨op', y4', q1, q2, q3, q4, q5⟩ := ropen_pass (y1 := y1) (y2 := y2) (y3 := y3) hk hw h3 hK hR hW (fX8_open_b31 fuel) 6000 0 op 0 (Nat.zero_le _) (by omega) hb (Or.inl rfl)
      have q1' : fX8_open_b42 (fX8_open_b31 fuel) 6000 st op y1 y2 y3 0 0 = fX8_open_b31 fuel st op' y1 y2 y3 y4' := q1
      rw [q1']
      have hsound' : ∀ w, w < nw → op' w = 1 → CR sta y1 y2 w ∧ Had (SR nk lk par mak y2 y3) nw op' hek hew (clo w) (clm w) := fun w hw1 hw2 => by
        rcases q4 w hw1 hw2 with z | z
        · obtain ⟨a1, a2⟩ := hsound w hw1 z
          exact ⟨a1, a2.mono q3⟩
        · exact z
      rcases q5 with ⟨z1, -, z3, z4⟩ | ⟨z1, z2⟩
      · subst z1
        have hct : fb_ct (fun w => decide (op' w = 0)) nw = fb_ct (fun w => decide (op w = 0)) nw := fb_ct_cong (fun w hw1 => by rw [z3 w hw1])
        refine ih op' 0 q2 (Or.inl rfl) hsound' (fun _ w hw1 hc h0 hh => ?_) (by rw [hct, if_pos rfl]; omega)
        rw [z3 w hw1] at h0
        exact z4 w (Nat.zero_le _) hw1 hc h0 (hh.mono (fun w hw1 hw2 => by rw [← z3 w hw1]; exact hw2))
      · subst z1
        obtain ⟨w0, a1, a2, a3⟩ := z2.resolve_left (by decide)
        have hlt : fb_ct (fun w => decide (op' w = 0)) nw + 1 ≤ fb_ct (fun w => decide (op w = 0)) nw := by
          have hu := fb_ct_upd (fun w => decide (op w = 0)) false (i := w0) (n := nw) a1
          have hs : fb_ct (fun w => decide (op' w = 0)) nw ≤ fb_ct (fun k => if k = w0 then false else (fun w => decide (op w = 0)) k) nw := fb_ct_sub (fun w hw1 hw2 => by
            have h0 : op' w = 0 := of_decide_eq_true hw2
            by_cases hww : w = w0
            · subst hww
              rw [a3] at h0
              exact absurd h0 (by decide)
            · rw [if_neg hww]
              rcases hb w hw1 with q | q
              · exact decide_eq_true q
              · rw [q3 w hw1 q] at h0
                exact absurd h0 (by decide))
          have e1 : (if (fun w => decide (op w = 0)) w0 = true then 1 else 0) = 1 := if_pos (decide_eq_true a2)
          have hu' : fb_ct (fun k => if k = w0 then false else (fun w => decide (op w = 0)) k) nw + 1 = fb_ct (fun w => decide (op w = 0)) nw + 0 := by
            have := hu
            rw [e1] at this
            exact this
          omega
        exact ih op' 1 q2 (Or.inr rfl) hsound' (fun q => absurd q (by decide)) (by rw [if_neg (show ¬ ((1 : Int32) = 0) by decide)]; omega)
theorem ropen_eq (hk : nk ≤ 20) (hw : nw ≤ 120) (h3 : st 3 = nI nw) (hK : RK st nk lk par mak wea) (hR : RW st nw hek hew clo clm sta) (hW : WI nk nb nw par mak kob hek hew clo clm sta) (op0 : Nat → Int32) (y1 y2 y3 : Int32) :
    ∃ oF, fX8_open st op0 y1 y2 y3 = some oF ∧ Bin nw oF ∧ Fix (SR nk lk par mak y2 y3) (CR sta y1 y2) nw hek hew clo clm oF := by
  obtain ⟨o, e1, e2, -⟩ := row_loop (n := nw) (fun fuel f i => fX8_open_b3 fuel st f y1 y2 y3 (nI i)) (fun f => fX8_open_b31 6000 st f y1 y2 y3 1) (fun _ _ b => b = 0)
    (fun fuel f => by
      show fX8_open_b3 _ _ _ _ _ _ _ = _
      rw [fX8_open_b3, if_neg ix3, cl3, h3, if_pos (nI_le (Nat.le_refl _) (by omega))])
    (fun fuel f i hi => by
      show ∃ f', fX8_open_b3 _ _ _ _ _ _ _ = fX8_open_b3 _ _ _ _ _ _ _ ∧ _
      rw [fX8_open_b3, if_neg ix3, cl3, h3, if_neg (nI_ge hi (by omega)), if_neg (nI_in (by omega) (by omega)), nI_clamp (by omega), nI_1]
      exact ⟨upd f i 0, rfl, pk_us, fun j hj => pk_un hj⟩) 6000 0 op0 (Nat.zero_le _) (by omega)
  have hz : ∀ w, w < nw → o w = 0 := fun w hw1 => e2 w (Nat.zero_le _) hw1
  have hct := fb_ct_le (fun w => decide (o w = 0)) nw
  obtain ⟨oF, g1, g2, g3⟩ := ropen_loop (y1 := y1) (y2 := y2) (y3 := y3) hk hw h3 hK hR hW 6000 o 1 (fun w hw1 => Or.inl (hz w hw1)) (Or.inr rfl) (fun w hw1 hw2 => by rw [hz w hw1] at hw2; exact absurd hw2 (by decide)) (fun q => absurd q (by decide)) (by rw [if_neg (show ¬ ((1 : Int32) = 0) by decide)]; omega)
  refine ⟨oF, ?_, g2, g3⟩
  unfold fX8_open
  exact e1.trans g1
end ROPEN
