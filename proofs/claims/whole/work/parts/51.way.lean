/-! the way to a box -/
section WAY
variable {B nk nb nw : Nat} {st : Nat → Int32} {mw ke bo lk lb nu : Int32} {par mak wea kob hek hew clo clm sta : Nat → Int32}
def Ph (hek hew sta : Nat → Int32) (y1 y2 : Int32) (w : Nat) : Prop := bt (sta w) 3 = true ∧ hek w = y1 ∧ hew w = y2
theorem firstKey (hw : nw ≤ 120) (y1 y2 : Int32) : ∀ fuel i, i ≤ nw → nw < i + fuel → (∃ w, w < nw ∧ i ≤ w ∧ Ph hek hew sta y1 y2 w ∧ fX6_inHouseWithKey_b2 fuel (nI nw) hek hew sta y1 y2 (nI i) = some (nI w)) ∨ ((∀ w, i ≤ w → w < nw → ¬ Ph hek hew sta y1 y2 w) ∧ fX6_inHouseWithKey_b2 fuel (nI nw) hek hew sta y1 y2 (nI i) = some (-6)) := by
  intro fuel
  induction fuel with
  | zero => intro i h1 h2; omega
  | succ fuel ih =>
    intro i h1 h2
    rw [fX6_inHouseWithKey_b2]
    by_cases hi : i < nw
    · have skip : ¬ Ph hek hew sta y1 y2 i → (∃ w, w < nw ∧ i ≤ w ∧ Ph hek hew sta y1 y2 w ∧ fX6_inHouseWithKey_b2 fuel (nI nw) hek hew sta y1 y2 (nI (i + 1)) = some (nI w)) ∨ ((∀ w, i ≤ w → w < nw → ¬ Ph hek hew sta y1 y2 w) ∧ fX6_inHouseWithKey_b2 fuel (nI nw) hek hew sta y1 y2 (nI (i + 1)) = some (-6)) := fun hn => by
        rcases ih (i + 1) hi (by omega) with ⟨w, q1, q2, q3, q4⟩ | ⟨q1, q2⟩
        · exact Or.inl ⟨w, q1, by omega, q3, q4⟩
        · refine Or.inr ⟨fun w hw1 hw2 => ?_, q2⟩
          by_cases hwi : w = i
          · subst hwi; exact hn
          · exact q1 w (by omega) hw2
      rw [if_neg (nI_ge hi (by omega)), stands_8 (by omega), nI_1]
      by_cases hs : bt (sta i) 3 = true
      · rw [if_pos hs, if_neg (show ¬ ((1 : Int32) = 0) by decide)]
        unfold fX6_holdsMake
        rw [rAt_nI (by omega) (by omega), rAt_nI (by omega) (by omega)]
        by_cases ha : hek i = y1
        · rw [if_pos ha]
          by_cases hb : hew i = y2
          · rw [if_pos hb, if_neg (show ¬ ((1 : Int32) = 0) by decide)]
            exact Or.inl ⟨i, hi, Nat.le_refl _, ⟨hs, ha, hb⟩, rfl⟩
          · rw [if_neg hb, if_pos rfl]
            exact skip (fun q => hb q.2.2)
        · rw [if_neg ha, if_pos rfl]
          exact skip (fun q => ha q.2.1)
      · rw [if_neg hs, if_pos rfl]
        exact skip (fun q => hs q.1)
    · have hin : i = nw := by omega
      subst hin
      rw [if_pos (nI_le (Nat.le_refl _) (by omega))]
      exact Or.inr ⟨fun w h1 h2 => by omega, rfl⟩
theorem firstBox (hw : nw ≤ 120) (y2 : Int32) : ∀ fuel i, i ≤ nw → nw < i + fuel → (∃ w, w < nw ∧ i ≤ w ∧ Ph hek hew sta (-6) y2 w ∧ fX6_inHouseWithBox_b2 fuel (nI nw) hek hew sta y2 (nI i) = some (nI w)) ∨ ((∀ w, i ≤ w → w < nw → ¬ Ph hek hew sta (-6) y2 w) ∧ fX6_inHouseWithBox_b2 fuel (nI nw) hek hew sta y2 (nI i) = some (-6)) := by
  intro fuel
  induction fuel with
  | zero => intro i h1 h2; omega
  | succ fuel ih =>
    intro i h1 h2
    rw [fX6_inHouseWithBox_b2]
    by_cases hi : i < nw
    · have skip : ¬ Ph hek hew sta (-6) y2 i → (∃ w, w < nw ∧ i ≤ w ∧ Ph hek hew sta (-6) y2 w ∧ fX6_inHouseWithBox_b2 fuel (nI nw) hek hew sta y2 (nI (i + 1)) = some (nI w)) ∨ ((∀ w, i ≤ w → w < nw → ¬ Ph hek hew sta (-6) y2 w) ∧ fX6_inHouseWithBox_b2 fuel (nI nw) hek hew sta y2 (nI (i + 1)) = some (-6)) := fun hn => by
        rcases ih (i + 1) hi (by omega) with ⟨w, q1, q2, q3, q4⟩ | ⟨q1, q2⟩
        · exact Or.inl ⟨w, q1, by omega, q3, q4⟩
        · refine Or.inr ⟨fun w hw1 hw2 => ?_, q2⟩
          by_cases hwi : w = i
          · subst hwi; exact hn
          · exact q1 w (by omega) hw2
      rw [if_neg (nI_ge hi (by omega)), stands_8 (by omega), nI_1]
      by_cases hs : bt (sta i) 3 = true
      · rw [if_pos hs, if_neg (show ¬ ((1 : Int32) = 0) by decide)]
        unfold fX6_holdsBox
        rw [rAt_nI (by omega) (by omega), rAt_nI (by omega) (by omega)]
        by_cases ha : hek i = -6
        · rw [if_pos ha]
          by_cases hb : hew i = y2
          · rw [if_pos hb, if_neg (show ¬ ((1 : Int32) = 0) by decide)]
            exact Or.inl ⟨i, hi, Nat.le_refl _, ⟨hs, ha, hb⟩, rfl⟩
          · rw [if_neg hb, if_pos rfl]
            exact skip (fun q => hb q.2.2)
        · rw [if_neg ha, if_pos rfl]
          exact skip (fun q => ha q.2.1)
      · rw [if_neg hs, if_pos rfl]
        exact skip (fun q => hs q.1)
    · have hin : i = nw := by omega
      subst hin
      rw [if_pos (nI_le (Nat.le_refl _) (by omega))]
      exact Or.inr ⟨fun w h1 h2 => by omega, rfl⟩
theorem lastWrap (hw : nw ≤ 120) (h3 : st 3 = nI nw) (hR : RW st nw hek hew clo clm sta) (y1 y2 : Int32) : ∀ fuel i best, i ≤ nw → nw < i + fuel → (∃ w, w < nw ∧ i ≤ w ∧ Ph hek hew sta y1 y2 w ∧ fX8_houseWrap_b6 fuel st y1 y2 best (nI i) = some (nI w)) ∨ ((∀ w, i ≤ w → w < nw → ¬ Ph hek hew sta y1 y2 w) ∧ fX8_houseWrap_b6 fuel st y1 y2 best (nI i) = some best) := by
  intro fuel
  induction fuel with
  | zero => intro i best h1 h2; omega
  | succ fuel ih =>
    intro i best h1 h2
    rw [fX8_houseWrap_b6, if_neg ix3, cl3, h3]
    by_cases hi : i < nw
    · obtain ⟨r0, r1, r2, r3, r4, r5⟩ := hR i hi
      have skip : ¬ Ph hek hew sta y1 y2 i → (∃ w, w < nw ∧ i ≤ w ∧ Ph hek hew sta y1 y2 w ∧ fX8_houseWrap_b6 fuel st y1 y2 best (nI (i + 1)) = some (nI w)) ∨ ((∀ w, i ≤ w → w < nw → ¬ Ph hek hew sta y1 y2 w) ∧ fX8_houseWrap_b6 fuel st y1 y2 best (nI (i + 1)) = some best) := fun hn => by
        rcases ih (i + 1) best hi (by omega) with ⟨w, q1, q2, q3, q4⟩ | ⟨q1, q2⟩
        · exact Or.inl ⟨w, q1, by omega, q3, q4⟩
        · refine Or.inr ⟨fun w hw1 hw2 => ?_, q2⟩
          by_cases hwi : w = i
          · subst hwi; exact hn
          · exact q1 w (by omega) hw2
      rw [if_neg (nI_ge hi (by omega)), wr4 (by omega), Option.bind_some, r4, nI_1]
      by_cases hs : bt (sta i) 3 = true
      · rw [if_pos (bit1_eq.mpr hs), wr0 (by omega), Option.bind_some, r0]
        by_cases ha : hek i = y1
        · rw [if_pos ha, wr1 (by omega), Option.bind_some, r1]
          by_cases hb : hew i = y2
          · rw [if_pos hb]
            rcases ih (i + 1) (nI i) hi (by omega) with ⟨w, q1, q2, q3, q4⟩ | ⟨q1, q2⟩
            · exact Or.inl ⟨w, q1, by omega, q3, q4⟩
            · exact Or.inl ⟨i, hi, Nat.le_refl _, ⟨hs, ha, hb⟩, q2⟩
          · rw [if_neg hb]
            exact skip (fun q => hb q.2.2)
        · rw [if_neg ha]
          exact skip (fun q => ha q.2.1)
      · rw [if_neg (fun q => hs (bit1_eq.mp q))]
        exact skip (fun q => hs q.1)
    · have hin : i = nw := by omega
      subst hin
      rw [if_pos (nI_le (Nat.le_refl _) (by omega))]
      exact Or.inr ⟨fun w h1 h2 => by omega, rfl⟩
theorem houseKey_both (hw : nw ≤ 120) (h3 : st 3 = nI nw) (hR : RW st nw hek hew clo clm sta) (hU : UQ nw hek hew sta) (y1 y2 : Int32) : ∃ v, fX6_inHouseWithKey (nI nw) hek hew sta y1 y2 = some v ∧ fX8_houseWrap st y1 y2 = some v := by
  unfold fX6_inHouseWithKey fX8_houseWrap
  rcases firstKey (hek := hek) (hew := hew) (sta := sta) hw y1 y2 6000 0 (Nat.zero_le _) (by omega) with ⟨w, q1, q2, q3, q4⟩ | ⟨q1, q2⟩
  · rcases lastWrap hw h3 hR y1 y2 6000 0 (-6) (Nat.zero_le _) (by omega) with ⟨w', p1, p2, p3, p4⟩ | ⟨p1, p2⟩
    · have := hU w w' q1 p1 q3.1 p3.1 (q3.2.1.trans p3.2.1.symm) (fun _ => q3.2.2.trans p3.2.2.symm)
      subst this
      exact ⟨nI w, q4, p4⟩
    · exact absurd q3 (p1 w (Nat.zero_le _) q1)
  · rcases lastWrap hw h3 hR y1 y2 6000 0 (-6) (Nat.zero_le _) (by omega) with ⟨w', p1, p2, p3, p4⟩ | ⟨p1, p2⟩
    · exact absurd p3 (q1 w' (Nat.zero_le _) p1)
    · exact ⟨-6, q2, p2⟩
theorem houseBox_both (hw : nw ≤ 120) (h3 : st 3 = nI nw) (hR : RW st nw hek hew clo clm sta) (hU : UQ nw hek hew sta) (y2 : Int32) : ∃ v, fX6_inHouseWithBox (nI nw) hek hew sta y2 = some v ∧ fX8_houseWrap st (-6) y2 = some v := by
  unfold fX6_inHouseWithBox fX8_houseWrap
  rcases firstBox (hek := hek) (hew := hew) (sta := sta) hw y2 6000 0 (Nat.zero_le _) (by omega) with ⟨w, q1, q2, q3, q4⟩ | ⟨q1, q2⟩
  · rcases lastWrap hw h3 hR (-6) y2 6000 0 (-6) (Nat.zero_le _) (by omega) with ⟨w', p1, p2, p3, p4⟩ | ⟨p1, p2⟩
    · have := hU w w' q1 p1 q3.1 p3.1 (q3.2.1.trans p3.2.1.symm) (fun _ => q3.2.2.trans p3.2.2.symm)
      subst this
      exact ⟨nI w, q4, p4⟩
    · exact absurd q3 (p1 w (Nat.zero_le _) q1)
  · rcases lastWrap hw h3 hR (-6) y2 6000 0 (-6) (Nat.zero_le _) (by omega) with ⟨w', p1, p2, p3, p4⟩ | ⟨p1, p2⟩
    · exact absurd p3 (q1 w' (Nat.zero_le _) p1)
    · exact ⟨-6, q2, p2⟩
theorem way_skip {S y1 y2 y4 : Int32} : ∀ d fuel i, i + d ≤ 20 → d < fuel → (∀ j, i ≤ j → j < i + d → bt S j = false) →
    fX1_stepOfWay_b15 fuel par mak kob nu hek hew sta y1 y2 S y4 (nI i) = fX1_stepOfWay_b15 (fuel - d) par mak kob nu hek hew sta y1 y2 S y4 (nI (i + d)) := by
  intro d
  induction d with
  | zero => intro fuel i h1 h2 h3; rfl
  | succ d ih =>
    intro fuel i h1 h2 h3
    obtain ⟨f, rfl⟩ : ∃ f, fuel = f + 1 := ⟨fuel - 1, by omega⟩
    rw [fX1_stepOfWay_b15, if_neg (show ¬ (20 : Int32) ≤ nI i from nI_ge (b := 20) (by omega) (by omega)), has_nI (by omega), h3 i (Nat.le_refl _) (by omega), if_neg (show ¬ false = true by decide), if_pos rfl, nI_1, ih f (i + 1) (by omega) (by omega) (fun j hj hj2 => h3 j (by omega) (by omega))]
    have e1 : f + 1 - (d + 1) = f - d := by omega
    have e2 : i + 1 + d = i + (d + 1) := by omega
    rw [e1, e2]
/-- the end of the class's walk -/
noncomputable def wayEnd (mak : Nat → Int32) (nu : Int32) (hek hew sta : Nat → Int32) (y1 : Int32) (len t : Nat) : Option Nat → Option Int32
  | some k => fX6_inHouseWithKey nu hek hew sta (nI k) (mak k)
  | none => if t = len then fX6_inHouseWithBox nu hek hew sta y1 else some (-6)
theorem way_Q {S y1 : Int32} {x2 : Nat} (hx2 : x2 < 2 ^ 31) : ∀ Q : List Nat, (∀ k, k ∈ Q → k < 20 ∧ ¬ par k = -6) → Q.Pairwise (fun a b => a < b) → ∀ fuel i d, i ≤ 20 → 20 < i + fuel → d ≤ x2 → (∀ j, i ≤ j → j < 32 → (bt S j = true ↔ j ∈ Q)) → (∀ j, j ∈ Q → i ≤ j) →
    fX1_stepOfWay_b15 fuel par mak kob nu hek hew sta y1 (nI x2) S (nI d) (nI i) = wayEnd mak nu hek hew sta y1 Q.length (x2 - d) Q[x2 - d]? := by
  intro Q
  induction Q with
  | nil =>
    intro h20 hs fuel i d hi hf2 hd hc1 hc2
    rw [way_skip (20 - i) fuel i (by omega) (by omega) (fun j hj hj2 => by
      rcases Bool.eq_false_or_eq_true (bt S j) with hb | hb
      · have := (hc1 j hj (by omega)).mp hb; cases this
      · exact hb)]
    have e : i + (20 - i) = 20 := by omega
    obtain ⟨f, hf⟩ : ∃ f, fuel - (20 - i) = f + 1 := ⟨fuel - (20 - i) - 1, by omega⟩
    rw [e, hf, fX1_stepOfWay_b15, if_pos (show (20 : Int32) ≤ nI 20 from nI_le (a := 20) (Nat.le_refl _) (by omega)), List.getElem?_nil]
    unfold wayEnd
    by_cases hdx : d = x2
    · subst hdx
      rw [if_pos rfl, if_pos (by simp)]
      cases fX6_inHouseWithBox nu hek hew sta y1 <;> rfl
    · rw [if_neg (fun q => hdx ((nI_eq (by omega) (by omega)).mp q)), if_neg (by simp; omega)]
  | cons y Q ih =>
    intro h20 hs fuel i d hi hf2 hd hc1 hc2
    obtain ⟨s1, s2⟩ := List.pairwise_cons.mp hs
    obtain ⟨hy20, hyp⟩ := h20 y List.mem_cons_self
    have hyi := hc2 y List.mem_cons_self
    have hyb : bt S y = true := (hc1 y hyi (by omega)).mpr List.mem_cons_self
    rw [way_skip (y - i) fuel i (by omega) (by omega) (fun j hj hj2 => by
      rcases Bool.eq_false_or_eq_true (bt S j) with hb | hb
      · rcases List.mem_cons.mp ((hc1 j hj (by omega)).mp hb) with e | e
        · omega
        · have := s1 j e; omega
      · exact hb)]
    have e : i + (y - i) = y := by omega
    obtain ⟨f, hf⟩ : ∃ f, fuel - (y - i) = f + 1 := ⟨fuel - (y - i) - 1, by omega⟩
    rw [e, hf, fX1_stepOfWay_b15, if_neg (show ¬ (20 : Int32) ≤ nI y from nI_ge (b := 20) (by omega) (by omega)), has_nI (by omega), if_pos hyb, if_neg (show ¬ ((1 : Int32) = 0) by decide), isRoot_eq hy20, if_neg hyp, if_pos rfl, nI_1, nI_1]
    by_cases hdx : d = x2
    · subst hdx
      rw [if_pos rfl, Nat.sub_self, List.getElem?_cons_zero]
      unfold wayEnd fX5_makeOf
      rw [rAt_nI hy20 (by omega)]
      dsimp only
      cases fX6_inHouseWithKey nu hek hew sta (nI y) (mak y) <;> rfl
    · rw [if_neg (fun q => hdx ((nI_eq (by omega) (by omega)).mp q)), ih (fun k hk => h20 k (List.mem_cons_of_mem _ hk)) s2 f (y + 1) (d + 1) (by omega) (by omega) (by omega) (fun j hj hj32 => by
        rw [hc1 j (by omega) hj32, List.mem_cons]
        exact ⟨fun q => q.resolve_left (by omega), Or.inr⟩) (fun j hj => s1 j hj)]
      have e1 : x2 - d = (x2 - (d + 1)) + 1 := by omega
      rw [e1, List.getElem?_cons_succ, List.length_cons]
      unfold wayEnd
      cases Q[x2 - (d + 1)]? with
      | some k => rfl
      | none =>
        by_cases q : x2 - (d + 1) = Q.length
        · rw [if_pos q, if_pos (by omega)]
        · rw [if_neg q, if_neg (by omega)]
theorem up_split (hP : PT nk par) (hk : nk ≤ 20) : ∀ p, Up nk p → ¬ p = -6 → ∃ D r, up par p = D ++ [r] ∧ par r = -6 ∧ r < nk ∧ ∀ k, k ∈ D → ¬ par k = -6 :=
  up_ind (Q := fun p => ¬ p = -6 → ∃ D r, up par p = D ++ [r] ∧ par r = -6 ∧ r < nk ∧ ∀ k, k ∈ D → ¬ par k = -6) hP (fun h => absurd rfl h) (fun j hj ih _ => by
    rw [up_k hP hk hj]
    by_cases h6 : par j = -6
    · exact ⟨[], j, by rw [h6, up_6]; rfl, h6, hj, fun k hk => by cases hk⟩
    · obtain ⟨D, r, e1, e2, e3, e4⟩ := ih h6
      refine ⟨j :: D, r, by rw [e1]; rfl, e2, e3, fun k hk => ?_⟩
      rcases List.mem_cons.mp hk with rfl | h
      · exact h6
      · exact e4 k h)
theorem way_both (h : Rel B nk nb nw st mw ke bo lk lb par mak wea kob nu hek hew clo clm sta) (a x : Int32) : ∃ v, fX7_way lb par mak kob nu hek hew sta a x = some v ∧ fX8_way st a x = some v := by
  obtain ⟨⟨rfl, rfl, rfl⟩, ⟨t1, t2, t3, t4, t5, t6, t7, t8⟩, ⟨c1, c2, c3⟩, hW, hH, hU, ⟨s0, s1, s2, s3⟩, hK, hBx, hR⟩ := id h
  unfold fX7_way fX8_way
  rcases liveBox_both t2 s2 t6 hBx a with ⟨b, hb, rfl, hl, e1, e2⟩ | ⟨e1, e2⟩
  · obtain ⟨j0, hj0, ej0⟩ := t4 b hb
    rw [e1, e2, Option.bind_some, if_neg (show ¬ ((1 : Int32) = 0) by decide), if_neg (show ¬ ((1 : Int32) = 0) by decide)]
    rcases pos_or x with hx | ⟨n, hn, rfl⟩
    · rw [if_neg (le0_neg hx), if_neg (le0_neg hx), Option.bind_some, if_neg (show ¬ ((1 : Int32) = 0) by decide)]
      exact ⟨_, rfl, rfl⟩
    · have h0n : (0 : Int32) ≤ nI n := nI_le (a := 0) (Nat.zero_le _) hn
      obtain ⟨D, r, d1, d2, d3, d4⟩ := up_split t3 t1 (nI j0) (Or.inr ⟨j0, hj0, rfl⟩) (nI_ne6 (by omega))
      obtain ⟨S, g1, g2⟩ := aboveBox_eq t3 t1 (by omega : b < 20) hj0 ej0
      have hpU : Up nk (nI j0) := Or.inr ⟨j0, hj0, rfl⟩
      have hlen : (up par (par j0)).length = D.length := by
        have e := up_k t3 t1 hj0
        rw [d1] at e
        have := congrArg List.length e
        simp at this
        omega
      have hsort := up_sorted t3 t1 _ hpU
      have hl20 := up_len20 t3 t1 hpU
      have hDl : D.length < 20 := by rw [d1] at hl20; simp at hl20; omega
      have hrev : (up par (nI j0)).reverse = r :: D.reverse := by rw [d1]; simp
      have hasc : (r :: D.reverse).Pairwise (fun a b => a < b) := by rw [← hrev]; exact List.pairwise_reverse.mpr hsort
      obtain ⟨p1, p2⟩ := List.pairwise_cons.mp hasc
      have hSi : ∀ j, j < 32 → (bt S j = true ↔ j ∈ r :: D.reverse) := fun j hj => by
        rw [g2 j hj, decide_eq_true_eq, ← hrev, List.mem_reverse]
      -- the class
      have eC : fX1_stepOfWay par mak kob (nI nw) hek hew sta (nI b) (nI n) = wayEnd mak (nI nw) hek hew sta (nI b) D.length n D.reverse[n]? := by
        unfold fX1_stepOfWay
        rw [g1, Option.bind_some]
        have hr20 : r < 20 := by omega
        have e0 : fX1_stepOfWay_b15 6000 par mak kob (nI nw) hek hew sta (nI b) (nI n) S 0 0 = fX1_stepOfWay_b15 6000 par mak kob (nI nw) hek hew sta (nI b) (nI n) S (nI 0) (nI 0) := rfl
        rw [e0, way_skip r 6000 0 (by omega) (by omega) (fun j hj hj2 => by
          rcases Bool.eq_false_or_eq_true (bt S j) with hb | hb
          · rcases List.mem_cons.mp ((hSi j (by omega)).mp hb) with e | e
            · omega
            · have := p1 j e; omega
          · exact hb), Nat.zero_add]
        obtain ⟨f, hf⟩ : ∃ f, 6000 - r = f + 1 := ⟨6000 - r - 1, by omega⟩
        rw [hf, fX1_stepOfWay_b15, if_neg (show ¬ (20 : Int32) ≤ nI r from nI_ge (b := 20) (by omega) (by omega)), has_nI (by omega), if_pos ((hSi r (by omega)).mpr List.mem_cons_self), if_neg (show ¬ ((1 : Int32) = 0) by decide), isRoot_eq hr20, if_pos d2, if_neg (show ¬ ((1 : Int32) = 0) by decide), nI_1]
        rw [way_Q hn D.reverse (fun k hk => by
            rw [List.mem_reverse] at hk
            exact ⟨by have := up_nk t3 t1 hpU (i := k) (by rw [d1]; simp [hk]); omega, d4 k hk⟩) p2 f (r + 1) 0 (by omega) (by omega) (Nat.zero_le _) (fun j hj hj32 => by
            rw [hSi j hj32, List.mem_cons]
            exact ⟨fun q => q.resolve_left (by omega), Or.inr⟩) (fun j hj => p1 j hj), List.length_reverse, Nat.sub_zero]
      rw [if_pos h0n, if_pos h0n, eC, box0 (by omega), Option.bind_some, (hBx b hb).1, ej0, rabove_eq t3 t1 (fun k hk => (hK k hk).1) hj0, Option.bind_some, hlen]
      rcases Nat.lt_or_ge D.length n with hgt | hle
      · rw [if_neg (nI_ge hgt hn), List.getElem?_eq_none (by simp; omega)]
        unfold wayEnd
        rw [if_neg (by omega)]
        exact ⟨_, rfl, rfl⟩
      · rw [if_pos (nI_le hle (by omega))]
        by_cases hend : n = D.length
        · rw [if_pos (by rw [hend]), if_pos (by rw [hend]), List.getElem?_eq_none (by simp; omega)]
          unfold wayEnd
          rw [if_pos hend]
          obtain ⟨v, v1, v2⟩ := houseBox_both c1 s3 hR hU (nI b)
          rw [v1, v2]
          exact ⟨v, rfl, rfl⟩
        · have hne : ¬ nI n = nI D.length := fun q => hend ((nI_eq hn (by omega)).mp q)
          have hidx : D.length - 1 - n < D.length := by omega
          obtain ⟨k, hk⟩ : ∃ k, D[D.length - 1 - n]? = some k := ⟨D[D.length - 1 - n], List.getElem?_eq_getElem hidx⟩
          have hkD : k ∈ D := List.mem_of_getElem? hk
          have hkn : k < nk := up_nk t3 t1 hpU (i := k) (by rw [d1]; simp [hkD])
          have earg : nI D.length - 1 - nI n = nI (D.length - 1 - n) := by
            have q1 : nI D.length - 1 = nI (D.length - 1) := pk_sub (a := D.length) (b := 1) (by omega)
            rw [q1, pk_sub (by omega)]
          have hhi : fX8_higher st (nI j0) (nI (D.length - 1 - n)) = some (nI k) := higher_eq t3 t1 (fun k hk => (hK k hk).1) (by omega) hpU (by rw [d1, List.getElem?_append_left hidx]; exact hk)
          rw [if_neg hne, earg, hhi, Option.bind_some, if_neg hne, key2 (by omega), Option.bind_some, (hK k hkn).2.2.1, List.getElem?_reverse (by omega), hk]
          unfold wayEnd
          obtain ⟨v, v1, v2⟩ := houseKey_both c1 s3 hR hU (nI k) (mak k)
          dsimp only
          rw [v1, v2]
          exact ⟨v, rfl, rfl⟩
  · rw [e1, e2, Option.bind_some, if_pos rfl, if_pos rfl, Option.bind_some, if_pos rfl]
    exact ⟨_, rfl, rfl⟩
end WAY
