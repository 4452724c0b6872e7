/-! what can be opened: both sides find the same -/
def Had (S : Int32 → Int32 → Prop) (nw : Nat) (op hek hew : Nat → Int32) (c m : Int32) : Prop := S c m ∨ ∃ w, w < nw ∧ op w = 1 ∧ hek w = c ∧ hew w = m
def Bin (nw : Nat) (op : Nat → Int32) : Prop := ∀ w, w < nw → op w = 0 ∨ op w = 1
def Fix (S : Int32 → Int32 → Prop) (C : Nat → Prop) (nw : Nat) (hek hew clo clm op : Nat → Int32) : Prop := ∀ w, w < nw → (op w = 1 ↔ C w ∧ Had S nw op hek hew (clo w) (clm w))
section OPENING
variable {B nk nb nw : Nat} {st : Nat → Int32} {mw ke bo lk lb nu : Int32} {par mak wea kob hek hew clo clm sta : Nat → Int32} {S : Int32 → Int32 → Prop} {C : Nat → Prop}
theorem fix_unique (hk : nk ≤ 20) (hW : WI nk nb nw par mak kob hek hew clo clm sta) {o1 o2 : Nat → Int32} (b1 : Bin nw o1) (b2 : Bin nw o2) (h1 : Fix S C nw hek hew clo clm o1) (h2 : Fix S C nw hek hew clo clm o2) : ∀ w, w < nw → o1 w = o2 w := by
  have key : ∀ c, c < nk → ∀ w, w < nw → clo w = nI c → o1 w = o2 w := by
    intro c
    induction c using Nat.strongRecOn with
    | ind c ih =>
      intro hc w hw e
      have eqv : ∀ w', w' < nw → hek w' = clo w → o1 w' = o2 w' := fun w' hw' he => by
        rcases (hW w' hw').1 with ⟨p1, -⟩ | ⟨k, j, p1, p2, p3, p4, p5, -⟩
        · exact absurd (e.symm.trans (he.symm.trans p1)) (nI_ne6 (by omega))
        · have := (nI_eq (by omega) (by omega)).mp (e.symm.trans (he.symm.trans p3))
          exact ih j (by omega) (by omega) w' hw' p5
      have hiff : Had S nw o1 hek hew (clo w) (clm w) ↔ Had S nw o2 hek hew (clo w) (clm w) := by
        constructor
        · rintro (q | ⟨w', q1, q2, q3, q4⟩)
          · exact Or.inl q
          · exact Or.inr ⟨w', q1, (eqv w' q1 q3).symm.trans q2, q3, q4⟩
        · rintro (q | ⟨w', q1, q2, q3, q4⟩)
          · exact Or.inl q
          · exact Or.inr ⟨w', q1, (eqv w' q1 q3).trans q2, q3, q4⟩
      have h12 : o1 w = 1 ↔ o2 w = 1 := by rw [h1 w hw, h2 w hw, hiff]
      rcases b1 w hw with q | q
      · rcases b2 w hw with r | r
        · rw [q, r]
        · rw [h12.mpr r, r]
      · rw [q, h12.mp q]
  intro w hw
  obtain ⟨-, ⟨c, m, m', c1, c2, -⟩, -⟩ := hW w hw
  exact key c c1 w hw c2
/-! the class -/
theorem isHadC (hw : nw ≤ 120) {sm op : Nat → Int32} (hb : Bin nw op) {k : Nat} (hk : k < 20) (m : Int32) : (Had (fun c m => ∃ j, j < 20 ∧ c = nI j ∧ sm j = m) nw op hek hew (nI k) m ∧ fX2_isHad sm op (nI nw) hek hew (nI k) m = some 1) ∨ (¬ Had (fun c m => ∃ j, j < 20 ∧ c = nI j ∧ sm j = m) nw op hek hew (nI k) m ∧ fX2_isHad sm op (nI nw) hek hew (nI k) m = some 0) := by
  have key : ∀ fuel i, i ≤ nw → nw < i + fuel → ((∃ w, w < nw ∧ i ≤ w ∧ op w = 1 ∧ hek w = nI k ∧ hew w = m) ∧ fX2_isHad_b17 fuel sm op (nI nw) hek hew (nI k) m (nI i) = some 1) ∨ ((¬ ∃ w, w < nw ∧ i ≤ w ∧ op w = 1 ∧ hek w = nI k ∧ hew w = m) ∧ fX2_isHad_b17 fuel sm op (nI nw) hek hew (nI k) m (nI i) = some 0) := by
    intro fuel
    induction fuel with
    | zero => intro i h1 h2; omega
    | succ fuel ih =>
      intro i h1 h2
      rw [fX2_isHad_b17]
      by_cases hi : i < nw
      · have skip : ¬ (op i = 1 ∧ hek i = nI k ∧ hew i = m) → ((∃ w, w < nw ∧ i ≤ w ∧ op w = 1 ∧ hek w = nI k ∧ hew w = m) ∧ fX2_isHad_b17 fuel sm op (nI nw) hek hew (nI k) m (nI (i + 1)) = some 1) ∨ ((¬ ∃ w, w < nw ∧ i ≤ w ∧ op w = 1 ∧ hek w = nI k ∧ hew w = m) ∧ fX2_isHad_b17 fuel sm op (nI nw) hek hew (nI k) m (nI (i + 1)) = some 0) := fun hn => by
          rcases ih (i + 1) hi (by omega) with ⟨⟨w, q1, q2, q3⟩, q4⟩ | ⟨q1, q2⟩
          · exact Or.inl ⟨⟨w, q1, by omega, q3⟩, q4⟩
          · refine Or.inr ⟨fun ⟨w, r1, r2, r3⟩ => ?_, q2⟩
            by_cases hwi : w = i
            · subst hwi; exact hn r3
            · exact q1 ⟨w, r1, by omega, r3⟩
        rw [if_neg (nI_ge hi (by omega)), rAt_nI (by omega) (by omega), nI_1]
        rcases hb i hi with ho | ho
        · rw [if_pos ho]
          exact skip (fun q => by rw [ho] at q; exact absurd q.1 (by decide))
        · rw [if_neg (by rw [ho]; decide)]
          unfold fX6_holdsMake
          rw [rAt_nI (by omega) (by omega), rAt_nI (by omega) (by omega)]
          by_cases ha : hek i = nI k
          · rw [if_pos ha]
            by_cases hm : hew i = m
            · rw [if_pos hm, if_neg (show ¬ ((1 : Int32) = 0) by decide)]
              exact Or.inl ⟨⟨i, hi, Nat.le_refl _, ho, ha, hm⟩, rfl⟩
            · rw [if_neg hm, if_pos rfl]
              exact skip (fun q => hm q.2.2)
          · rw [if_neg ha, if_pos rfl]
            exact skip (fun q => ha q.2.1)
      · have hin : i = nw := by omega
        subst hin
        rw [if_pos (nI_le (Nat.le_refl _) (by omega))]
        exact Or.inr ⟨fun ⟨w, r1, r2, r3⟩ => by omega, rfl⟩
  unfold fX2_isHad
  rw [rAt_nI hk (by omega)]
  by_cases hs : sm k = m
  · rw [if_pos hs]
    exact Or.inl ⟨Or.inl ⟨k, hk, rfl, hs⟩, rfl⟩
  · rw [if_neg hs]
    rcases key 6000 0 (Nat.zero_le _) (by omega) with ⟨⟨w, q1, q2, q3⟩, q4⟩ | ⟨q1, q2⟩
    · exact Or.inl ⟨Or.inr ⟨w, q1, q3⟩, q4⟩
    · refine Or.inr ⟨fun q => ?_, q2⟩
      rcases q with ⟨j, j1, j2, j3⟩ | ⟨w, r1, r2⟩
      · have := (nI_eq (by omega) (by omega)).mp j2
        subst this
        exact hs j3
      · exact q1 ⟨w, r1, Nat.zero_le _, r2⟩
/-- one held key's wraps -/
theorem openHolding_eq (hk : nk ≤ 20) (hw : nw ≤ 120) (hW : WI nk nb nw par mak kob hek hew clo clm sta) {sm op : Nat → Int32} (hb : Bin nw op) (y pl : Int32) (hy : ∀ w, w < nw → hek w = y → ¬ clo w = y) :
    ∃ op', fX2_openHolding sm op (nI nw) hek hew clo clm sta y pl = some op' ∧ Bin nw op' ∧ (∀ w, w < nw → ¬ hek w = y → op' w = op w) ∧
      ∀ w, w < nw → hek w = y → (¬ sta w &&& pl = 0 ∧ Had (fun c m => ∃ j, j < 20 ∧ c = nI j ∧ sm j = m) nw op hek hew (clo w) (clm w) ∧ op' w = 1) ∨ (¬ (¬ sta w &&& pl = 0 ∧ Had (fun c m => ∃ j, j < 20 ∧ c = nI j ∧ sm j = m) nw op hek hew (clo w) (clm w)) ∧ op' w = op w) := by
  have key : ∀ fuel i (o : Nat → Int32), i ≤ nw → nw < i + fuel → Bin nw o → (∀ w, w < nw → ¬ hek w = y → o w = op w) → (∀ w, i ≤ w → w < nw → o w = op w) →
      ∃ op', fX2_openHolding_b3 fuel sm o (nI nw) hek hew clo clm sta y pl (nI i) = some op' ∧ Bin nw op' ∧ (∀ w, w < nw → ¬ hek w = y → op' w = op w) ∧ (∀ w, w < i → op' w = o w) ∧
        ∀ w, i ≤ w → w < nw → hek w = y → (¬ sta w &&& pl = 0 ∧ Had (fun c m => ∃ j, j < 20 ∧ c = nI j ∧ sm j = m) nw op hek hew (clo w) (clm w) ∧ op' w = 1) ∨ (¬ (¬ sta w &&& pl = 0 ∧ Had (fun c m => ∃ j, j < 20 ∧ c = nI j ∧ sm j = m) nw op hek hew (clo w) (clm w)) ∧ op' w = op w) := by
    intro fuel
    induction fuel with
    | zero => intro i o h1 h2; omega
    | succ fuel ih =>
      intro i o h1 h2 hbo ho1 ho2
      rw [fX2_openHolding_b3]
      by_cases hi : i < nw
      · obtain ⟨-, ⟨c, m, m', c1, c2, c3, -⟩, -⟩ := hW i hi
        have skip : (hek i = y → ¬ (¬ sta i &&& pl = 0 ∧ Had (fun c m => ∃ j, j < 20 ∧ c = nI j ∧ sm j = m) nw op hek hew (clo i) (clm i))) → ∃ op', fX2_openHolding_b3 fuel sm o (nI nw) hek hew clo clm sta y pl (nI (i + 1)) = some op' ∧ Bin nw op' ∧ (∀ w, w < nw → ¬ hek w = y → op' w = op w) ∧ (∀ w, w < i → op' w = o w) ∧
            ∀ w, i ≤ w → w < nw → hek w = y → (¬ sta w &&& pl = 0 ∧ Had (fun c m => ∃ j, j < 20 ∧ c = nI j ∧ sm j = m) nw op hek hew (clo w) (clm w) ∧ op' w = 1) ∨ (¬ (¬ sta w &&& pl = 0 ∧ Had (fun c m => ∃ j, j < 20 ∧ c = nI j ∧ sm j = m) nw op hek hew (clo w) (clm w)) ∧ op' w = op w) := fun hn => by
          obtain ⟨op', q1, q2, q3, q4, q5⟩ := ih (i + 1) o hi (by omega) hbo ho1 (fun w hw1 hw2 => ho2 w (by omega) hw2)
          refine ⟨op', q1, q2, q3, fun w hw1 => q4 w (by omega), fun w hw1 hw2 he => ?_⟩
          by_cases hwi : w = i
          · subst hwi
            exact Or.inr ⟨hn he, (q4 w (Nat.lt_succ_self _)).trans (ho2 w (Nat.le_refl _) hw2)⟩
          · exact q5 w (by omega) hw2 he
        rw [if_neg (nI_ge hi (by omega)), nI_1]
        unfold fX6_heldKey
        rw [rAt_nI (by omega) (by omega)]
        by_cases hy2 : hek i = y
        · rw [if_pos hy2]
          unfold fX6_standsIn
          rw [rAt_nI (by omega) (by omega)]
          by_cases hs : sta i &&& pl = 0
          · rw [if_pos hs, if_pos rfl]
            exact skip (fun _ q => q.1 hs)
          · rw [if_neg hs, if_neg (show ¬ ((1 : Int32) = 0) by decide)]
            unfold fX6_closer fX6_closerMake
            rw [rAt_nI (by omega) (by omega), rAt_nI (by omega) (by omega), c2]
            have hsame : Had (fun c m => ∃ j, j < 20 ∧ c = nI j ∧ sm j = m) nw o hek hew (nI c) (clm i) ↔ Had (fun c m => ∃ j, j < 20 ∧ c = nI j ∧ sm j = m) nw op hek hew (clo i) (clm i) := by
              have hne : ¬ nI c = y := fun q => hy i hi hy2 (c2.trans q)
              rw [c2]
              constructor
              · rintro (q | ⟨w', q1, q2, q3, q4⟩)
                · exact Or.inl q
                · exact Or.inr ⟨w', q1, by rw [← ho1 w' q1 (fun r => hne (q3.symm.trans r))]; exact q2, q3, q4⟩
              · rintro (q | ⟨w', q1, q2, q3, q4⟩)
                · exact Or.inl q
                · exact Or.inr ⟨w', q1, by rw [ho1 w' q1 (fun r => hne (q3.symm.trans r))]; exact q2, q3, q4⟩
            rcases isHadC (hek := hek) (hew := hew) hw (sm := sm) hbo (by omega : c < 20) (clm i) with ⟨g1, g2⟩ | ⟨g1, g2⟩
            · rw [g2, Option.bind_some, if_neg (show ¬ ((1 : Int32) = 0) by decide), rSet_nI (by omega) (by omega)]
              obtain ⟨op', q1, q2, q3, q4, q5⟩ := ih (i + 1) (upd o i 1) hi (by omega) (fun w hw1 => by
                  by_cases hwi : w = i
                  · subst hwi; exact Or.inr pk_us
                  · rw [pk_un hwi]; exact hbo w hw1) (fun w hw1 hne => by
                  by_cases hwi : w = i
                  · subst hwi; exact absurd hy2 hne
                  · rw [pk_un hwi]; exact ho1 w hw1 hne) (fun w hw1 hw2 => by rw [pk_un (by omega)]; exact ho2 w (by omega) hw2)
              refine ⟨op', q1, q2, q3, fun w hw1 => by rw [q4 w (by omega), pk_un (by omega)], fun w hw1 hw2 he => ?_⟩
              by_cases hwi : w = i
              · subst hwi
                exact Or.inl ⟨hs, hsame.mp g1, (q4 w (Nat.lt_succ_self _)).trans pk_us⟩
              · exact q5 w (by omega) hw2 he
            · rw [g2, Option.bind_some, if_pos rfl]
              exact skip (fun _ q => g1 (hsame.mpr q.2))
        · rw [if_neg hy2]
          exact skip (fun q => absurd q hy2)
      · have hin : i = nw := by omega
        subst hin
        rw [if_pos (nI_le (Nat.le_refl _) (by omega))]
        exact ⟨o, rfl, hbo, ho1, fun w _ => rfl, fun w h1 h2 => by omega⟩
  unfold fX2_openHolding
  obtain ⟨op', q1, q2, q3, -, q5⟩ := key 6000 0 op (Nat.zero_le _) (by omega) hb (fun w _ _ => rfl) (fun w _ _ => rfl)
  exact ⟨op', q1, q2, q3, fun w hw1 he => q5 w (Nat.zero_le _) hw1 he⟩
theorem openAll_eq (hk : nk ≤ 20) (hw : nw ≤ 120) (hW : WI nk nb nw par mak kob hek hew clo clm sta) (sm op0 : Nat → Int32) (pl : Int32) :
    ∃ op, fX2_openAll sm op0 (nI nw) hek hew clo clm sta pl = some op ∧ Bin nw op ∧ Fix (fun c m => ∃ j, j < 20 ∧ c = nI j ∧ sm j = m) (fun w => ¬ sta w &&& pl = 0) nw hek hew clo clm op := by
  have fill : ∀ w, w < nw → rFill 120 op0 0 w = 0 := fun w hw1 => by
    unfold rFill
    exact if_pos (by omega)
  have key : ∀ fuel k (o : Nat → Int32), k ≤ 20 → 20 < k + fuel → Bin nw o → (∀ w, w < nw → (∃ j, j < k ∧ hek w = nI j) → (o w = 1 ↔ ¬ sta w &&& pl = 0 ∧ Had (fun c m => ∃ j, j < 20 ∧ c = nI j ∧ sm j = m) nw o hek hew (clo w) (clm w))) → (∀ w, w < nw → ¬ (∃ j, j < k ∧ hek w = nI j) → o w = 0) →
      ∃ op, fX2_openAll_b10 fuel sm o (nI nw) hek hew clo clm sta pl (nI k) = some op ∧ Bin nw op ∧ Fix (fun c m => ∃ j, j < 20 ∧ c = nI j ∧ sm j = m) (fun w => ¬ sta w &&& pl = 0) nw hek hew clo clm op := by
    intro fuel
    induction fuel with
    | zero => intro k o h1 h2; omega
    | succ fuel ih =>
      intro k o h1 h2 hbo hdone hnot
      rw [fX2_openAll_b10]
      -- a pass over the wraps that hold y leaves the rest, and what they stand on
      have same : ∀ (o' : Nat → Int32) (y : Int32), (∀ w, w < nw → ¬ hek w = y → o' w = o w) → ∀ c m : Int32, ¬ c = y → (Had (fun c m => ∃ j, j < 20 ∧ c = nI j ∧ sm j = m) nw o' hek hew c m ↔ Had (fun c m => ∃ j, j < 20 ∧ c = nI j ∧ sm j = m) nw o hek hew c m) := fun o' y ho' c m hc => by
        constructor
        · rintro (q | ⟨w', q1, q2, q3, q4⟩)
          · exact Or.inl q
          · exact Or.inr ⟨w', q1, by rw [← ho' w' q1 (fun r => hc (q3.symm.trans r))]; exact q2, q3, q4⟩
        · rintro (q | ⟨w', q1, q2, q3, q4⟩)
          · exact Or.inl q
          · exact Or.inr ⟨w', q1, by rw [ho' w' q1 (fun r => hc (q3.symm.trans r))]; exact q2, q3, q4⟩
      by_cases hk20 : k < 20
      · rw [if_neg (show ¬ (20 : Int32) ≤ nI k from nI_ge (b := 20) hk20 (by omega)), nI_1]
        obtain ⟨o', g1, g2, g3, g4⟩ := openHolding_eq hk hw hW (sm := sm) hbo (nI k) pl (fun w hw1 he hc => by
          rcases (hW w hw1).1 with ⟨p1, -⟩ | ⟨k', j, p1, p2, p3, p4, p5, -⟩
          · exact nI_ne6 (by omega) (he.symm.trans p1)
          · have e1 := (nI_eq (by omega) (by omega)).mp (he.symm.trans p3)
            have e2 := (nI_eq (by omega) (by omega)).mp (hc.symm.trans p5)
            omega)
        rw [g1, Option.bind_some]
        refine ih (k + 1) o' hk20 (by omega) g2 (fun w hw1 hj => ?_) (fun w hw1 hj => ?_)
        · obtain ⟨j, hj1, hj2⟩ := hj
          by_cases hjk : j = k
          · subst hjk
            rcases (hW w hw1).1 with ⟨p1, -⟩ | ⟨k', j', p1, p2, p3, p4, p5, -⟩
            · exact absurd (hj2.symm.trans p1) (nI_ne6 (by omega))
            · have e1 := (nI_eq (by omega) (by omega)).mp (hj2.symm.trans p3)
              have hne : ¬ clo w = nI j := fun q => by
                have e2 := (nI_eq (by omega) (by omega)).mp (q.symm.trans p5)
                omega
              rw [same o' (nI j) g3 (clo w) (clm w) hne]
              have h0 : o w = 0 := hnot w hw1 (fun ⟨j2, r1, r2⟩ => by
                have := (nI_eq (by omega) (by omega)).mp (r2.symm.trans hj2)
                omega)
              rcases g4 w hw1 hj2 with ⟨q1, q2, q3⟩ | ⟨q1, q2⟩
              · exact ⟨fun _ => ⟨q1, q2⟩, fun _ => q3⟩
              · rw [q2, h0]
                exact ⟨fun r => absurd r (by decide), fun r => absurd r q1⟩
          · have hne1 : ¬ hek w = nI k := fun q => hjk ((nI_eq (by omega) (by omega)).mp (hj2.symm.trans q))
            rcases (hW w hw1).1 with ⟨p1, -⟩ | ⟨k', j', p1, p2, p3, p4, p5, -⟩
            · exact absurd (hj2.symm.trans p1) (nI_ne6 (by omega))
            · have e1 := (nI_eq (by omega) (by omega)).mp (hj2.symm.trans p3)
              have hne : ¬ clo w = nI k := fun q => by
                have e2 := (nI_eq (by omega) (by omega)).mp (q.symm.trans p5)
                omega
              rw [g3 w hw1 hne1, same o' (nI k) g3 (clo w) (clm w) hne]
              exact hdone w hw1 ⟨j, by omega, hj2⟩
        · have hne1 : ¬ hek w = nI k := fun q => hj ⟨k, Nat.lt_succ_self _, q⟩
          rw [g3 w hw1 hne1]
          exact hnot w hw1 (fun ⟨j, r1, r2⟩ => hj ⟨j, by omega, r2⟩)
      · have hk2 : k = 20 := by omega
        subst hk2
        rw [if_pos (show (20 : Int32) ≤ nI 20 from nI_le (a := 20) (Nat.le_refl _) (by omega))]
        obtain ⟨o', g1, g2, g3, g4⟩ := openHolding_eq hk hw hW (sm := sm) hbo (-6) pl (fun w hw1 he hc => by
          obtain ⟨-, ⟨c, m, m', c1, c2, -⟩, -⟩ := hW w hw1
          exact nI_ne6 (by omega) (c2.symm.trans hc))
        rw [g1]
        refine ⟨o', rfl, g2, fun w hw1 => ?_⟩
        obtain ⟨hh, ⟨c, m, m', c1, c2, -⟩, -⟩ := hW w hw1
        have hne : ¬ clo w = -6 := fun q => nI_ne6 (by omega) (c2.symm.trans q)
        rw [same o' (-6) g3 (clo w) (clm w) hne]
        rcases hh with ⟨p1, -⟩ | ⟨k', j', p1, p2, p3, -⟩
        · have h0 : o w = 0 := hnot w hw1 (fun ⟨j2, r1, r2⟩ => nI_ne6 (by omega) (r2.symm.trans p1))
          rcases g4 w hw1 p1 with ⟨q1, q2, q3⟩ | ⟨q1, q2⟩
          · exact ⟨fun _ => ⟨q1, q2⟩, fun _ => q3⟩
          · rw [q2, h0]
            exact ⟨fun r => absurd r (by decide), fun r => absurd r q1⟩
        · have hne1 : ¬ hek w = -6 := fun q => nI_ne6 (by omega) (p3.symm.trans q)
          rw [g3 w hw1 hne1]
          exact hdone w hw1 ⟨k', by omega, p3⟩
  unfold fX2_openAll
  exact key 6000 0 (rFill 120 op0 0) (by omega) (by omega) (fun w hw1 => Or.inl (fill w hw1)) (fun w hw1 ⟨j, r1, _⟩ => by omega) (fun w hw1 _ => fill w hw1)
end OPENING
