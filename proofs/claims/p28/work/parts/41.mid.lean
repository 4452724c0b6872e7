/-! between the burning and the wrapping: both sides agree -/
section MID
variable {B nk nb nw : Nat} {st : Nat → Int32} {mw ke bo lk lb nu : Int32} {par mak wea kob hek hew clo clm sta : Nat → Int32}
theorem mid (h : Rel B nk nb nw st mw ke bo lk lb par mak wea kob nu hek hew clo clm sta) (hB : B < 2 ^ 30) {S tK tB lk' lb' : Int32}
    (hS : ∀ k, k < 32 → bt S k = true → k < nk) (hlk : ∀ i, i < 32 → bt lk' i = (bt lk i && !bt tK i)) (hlb : ∀ i, i < 32 → bt lb' i = (bt lb i && !bt tB i))
    (hcK : ∀ k j, k < nk → j < nk → bt tK j = true → par k = nI j → bt lk k = true → bt tK k = true)
    (hcB : ∀ b j, b < nb → j < nk → bt tK j = true → kob b = nI j → bt lb b = true → bt tB b = true)
    {s1 : Nat → Int32} (hs1 : ∀ w, w < nw → BL (Hold hek hew tK tB w) (sta w) (s1 w)) {mak' wea' s2 : Nat → Int32}
    (hm : ∀ k, k < 20 → mak' k = if bt S k = true then mak k + 1 else mak k) (hwe : ∀ k, k < 20 → wea' k = if bt S k = true then 0 else wea k)
    (hs2 : ∀ w, w < nw → BL (OldS S mak hek hew clo clm 20 w) (s1 w) (s2 w))
    {st1 : Nat → Int32} (h0 : RS0 st1 mw ke bo nu) (hK1 : RK st1 nk lk' par mak' wea') (hB1 : RB st1 nb lb' kob) (hcell : ∀ j, 124 ≤ j → st1 j = st j) :
    ∃ st2, fX8_burns st1 = some st2 ∧ Rel (B + 1) nk nb nw st2 mw ke bo lk' lb' par mak' wea' kob nu hek hew clo clm s2 ∧
      ∀ w, w < nw → bt (s2 w) 3 = true → bt (sta w) 3 = true ∧ ∀ k, k < 32 → bt S k = true → ¬ hek w = nI k ∧ ¬ clo w = nI k := by
  obtain ⟨⟨a1, a2, a3⟩, ⟨t1, t2, t3, t4, t5, t6, t7, t8⟩, ⟨c1, c2, c3⟩, hW, hH, hU, -, hK, hBx, hR⟩ := h
  have hmak : ∀ k, k < nk → ∀ m, mak k = nI m → m ≤ B → (bt S k = true ∧ mak' k = nI (m + 1) ∧ mak k < mak' k) ∨ (¬ bt S k = true ∧ mak' k = nI m ∧ mak' k = mak k) := fun k hk m em hmB => by
    by_cases hb : bt S k = true
    · refine Or.inl ⟨hb, ?_, ?_⟩
      · rw [hm k (by omega), if_pos hb, em, nI_1]
      · rw [hm k (by omega), if_pos hb, em, nI_1]
        exact nI_lt (Nat.lt_succ_self _) (by omega)
    · exact Or.inr ⟨hb, by rw [hm k (by omega), if_neg hb, em], by rw [hm k (by omega), if_neg hb]⟩
  have hup : ∀ k m m', k < nk → mak k = nI m' → m ≤ m' → ∃ m'', mak' k = nI m'' ∧ m ≤ m'' ∧ (m' < 2 ^ 31 → m'' < 2 ^ 31) := fun k m m' hk e hle => by
    by_cases hb : bt S k = true
    · refine ⟨m' + 1, by rw [hm k (by omega), if_pos hb, e, nI_1], by omega, fun hlt => ?_⟩
      obtain ⟨⟨mm, mm1, mm2⟩, -⟩ := c3 k hk
      have := (nI_eq hlt mm1.2).mp (e.symm.trans mm2)
      omega
    · exact ⟨m', by rw [hm k (by omega), if_neg hb, e], hle, id⟩
  have hW' : ∀ s : Nat → Int32, (∀ w, w < nw → ∃ x, x < 16 ∧ s w = nI x) → WI nk nb nw par mak' kob hek hew clo clm s := fun s hs w hw => by
    obtain ⟨w1, ⟨c, m, m', e1, e2, e3, e4, e5⟩, w3⟩ := hW w hw
    obtain ⟨m2, f1, f2, f3⟩ := hup c m m' e1 e4 e5.1
    refine ⟨?_, ⟨c, m, m2, e1, e2, e3, f1, f2, f3 e5.2⟩, hs w hw⟩
    rcases w1 with p | ⟨k, j, p1, p2, p3, p4, p5, m, m', p6, p7, p8⟩
    · exact Or.inl p
    · obtain ⟨m2, f1, f2, -⟩ := hup k m m' p1 p7 p8
      exact Or.inr ⟨k, j, p1, p2, p3, p4, p5, m, m2, p6, f1, f2⟩
  have hlow : ∀ w, w < nw → ∃ x, x < 16 ∧ s2 w = nI x := fun w hw => (hs2 w hw).lt ((hs1 w hw).lt (hW w hw).2.2)
  have hBL : ∀ w, w < nw → BL (Hold hek hew tK tB w ∨ OldS S mak hek hew clo clm 20 w) (sta w) (s2 w) := fun w hw => (hs1 w hw).trans (hs2 w hw)
  -- what is burnt of those in the house
  have hburn : ∀ w, w < nw → bt (sta w) 3 = true → (RBurn lk' lb' mak' hek hew clo clm w ↔ (Hold hek hew tK tB w ∨ OldS S mak hek hew clo clm 20 w)) := fun w hw hs => by
    obtain ⟨g1, g2, g3⟩ := hH w hw hs
    obtain ⟨w1, ⟨c, m, m', e1, e2, e3, e4, e5⟩, w3⟩ := hW w hw
    constructor
    · rintro (⟨c', q1, q2, q3⟩ | ⟨q1, b, q2, q3, q4⟩ | ⟨k, q1, q2, q3⟩)
      · have := (nI_eq (by omega) (by omega)).mp (q2.symm.trans e2)
        subst this
        have hcm := g1 c' e1 q2
        have hb : bt S c' = true := by
          rcases Bool.eq_false_or_eq_true (bt S c') with hb | hb
          · exact hb
          · rw [hm c' q1, if_neg (by rw [hb]; exact Bool.false_ne_true), hcm] at q3
            exact absurd q3 (by rw [Int32.lt_iff_toInt_lt]; omega)
        refine Or.inr ⟨c', q1, hb, Or.inr ⟨q2, ?_⟩⟩
        rw [hm c' q1, if_pos hb] at q3
        exact q3
      · rcases w1 with ⟨p1, b', p2, p3, p4⟩ | ⟨k, j, p1, p2, p3, -⟩
        · have := (nI_eq (by omega) (by omega)).mp (q3.symm.trans p3)
          subst this
          have hl := g2 q1 b (by omega) q3
          rw [hlb b (by omega), hl] at q4
          refine Or.inl (Or.inl ⟨q1, ?_⟩)
          rw [q3, has_nI (by omega)]
          have hT : bt tB b = true := by simpa using q4
          rw [if_pos hT]; decide
        · exact absurd (p3.symm.trans q1) (nI_ne6 (by omega))
      · rcases w1 with ⟨p1, b', p2, p3, p4⟩ | ⟨k', j, p1, p2, p3, p4, p5, n, n', p6, p7, p8⟩
        · exact absurd (q2.symm.trans p1) (nI_ne6 (by omega))
        · have := (nI_eq (by omega) (by omega)).mp (q2.symm.trans p3)
          subst this
          obtain ⟨hl, hmk⟩ := g3 k p1 q2
          rcases q3 with q3 | q3
          · rw [hlk k (by omega), hl] at q3
            refine Or.inl (Or.inr ⟨fun q => nI_ne6 (by omega) (q2.symm.trans q), ?_⟩)
            rw [q2, has_nI (by omega)]
            have hT : bt tK k = true := by simpa using q3
            rw [if_pos hT]; decide
          · have hb : bt S k = true := by
              rcases Bool.eq_false_or_eq_true (bt S k) with hb | hb
              · exact hb
              · rw [hm k q1, if_neg (by rw [hb]; exact Bool.false_ne_true), hmk] at q3
                exact absurd q3 (by rw [Int32.lt_iff_toInt_lt]; omega)
            refine Or.inr ⟨k, q1, hb, Or.inl ⟨q2, ?_⟩⟩
            rw [hm k q1, if_pos hb] at q3
            exact q3
    · rintro ((⟨q1, q2⟩ | ⟨q1, q2⟩) | ⟨k, q1, q2, q3 | q3⟩)
      · rcases w1 with ⟨p1, b', p2, p3, p4⟩ | ⟨k, j, p1, p2, p3, -⟩
        · refine Or.inr (Or.inl ⟨q1, b', by omega, p3, ?_⟩)
          rw [p3, has_nI (by omega)] at q2
          have hT : bt tB b' = true := by
            by_cases hT : bt tB b' = true
            · exact hT
            · rw [if_neg hT] at q2; exact absurd rfl q2
          rw [hlb b' (by omega), hT]; simp
        · exact absurd (p3.symm.trans q1) (nI_ne6 (by omega))
      · rcases w1 with ⟨p1, b', p2, p3, p4⟩ | ⟨k, j, p1, p2, p3, -⟩
        · exact absurd p1 q1
        · refine Or.inr (Or.inr ⟨k, by omega, p3, Or.inl ?_⟩)
          rw [p3, has_nI (by omega)] at q2
          have hT : bt tK k = true := by
            by_cases hT : bt tK k = true
            · exact hT
            · rw [if_neg hT] at q2; exact absurd rfl q2
          rw [hlk k (by omega), hT]; simp
      · refine Or.inr (Or.inr ⟨k, q1, q3.1, Or.inr ?_⟩)
        rw [hm k q1, if_pos q2]; exact q3.2
      · refine Or.inl ⟨k, q1, q3.1, ?_⟩
        rw [hm k q1, if_pos q2]; exact q3.2
  have hfree : ∀ w, w < nw → bt (s2 w) 3 = true → bt (sta w) 3 = true ∧ ∀ k, k < 32 → bt S k = true → ¬ hek w = nI k ∧ ¬ clo w = nI k := fun w hw hs => by
    obtain ⟨q1, q2⟩ := (hBL w hw).bt.mp hs
    obtain ⟨g1, g2, g3⟩ := hH w hw q1
    refine ⟨q1, fun k hk hb => ?_⟩
    have hkn := hS k hk hb
    obtain ⟨⟨m, m1, m2⟩, -⟩ := c3 k hkn
    have hlt : mak k < mak k + 1 := by
      rw [m2, nI_1]; exact nI_lt (Nat.lt_succ_self _) (by omega)
    constructor
    · intro he
      refine q2 (Or.inr ⟨k, by omega, hb, Or.inl ⟨he, ?_⟩⟩)
      rw [(g3 k hkn he).2]; exact hlt
    · intro he
      refine q2 (Or.inr ⟨k, by omega, hb, Or.inr ⟨he, ?_⟩⟩)
      rw [g1 k hkn he]; exact hlt
  obtain ⟨st2, b1, b2, b3⟩ := burns_eq (st := st1) (lk := lk') (lb := lb') (mak := mak') (wea := wea') (sta := sta) t1 t2 c1 (by rw [h0.2.2.2, a3]) hK1 hB1 (hW' sta (fun w hw => (hW w hw).2.2)) (fun w hw => by
    obtain ⟨r0, r1, r2, r3, -⟩ := hR w hw
    exact ⟨by rw [hcell _ (by omega), r0], by rw [hcell _ (by omega), r1], by rw [hcell _ (by omega), r2], by rw [hcell _ (by omega), r3]⟩)
  refine ⟨st2, b1, ⟨⟨a1, a2, a3⟩, ⟨t1, t2, t3, t4, fun i hi => ?_, fun i hi => ?_, fun k j hk hj hl hp => ?_, fun b j hb hj hl hp => ?_⟩, ⟨c1, c2, fun k hk => ?_⟩, hW' s2 hlow, fun w hw hs => ?_, fun w w' hw hw' hs hs' => hU w w' hw hw' (hfree w hw hs).1 (hfree w' hw' hs').1, ?_, fun k hk => ?_, fun b hb => ?_, fun w hw => ?_⟩, hfree⟩
  · rcases Nat.lt_or_ge i 32 with h | h
    · rw [hlk i h, t5 i hi]; rfl
    · exact b_big h
  · rcases Nat.lt_or_ge i 32 with h | h
    · rw [hlb i h, t6 i hi]; rfl
    · exact b_big h
  · rw [hlk k (by omega)] at hl
    have hl1 : bt lk k = true ∧ bt tK k = false := by simpa using hl
    rw [hlk j (by omega), t7 k j hk hj hl1.1 hp]
    rcases Bool.eq_false_or_eq_true (bt tK j) with hT | hT
    · have := hcK k j hk hj hT hp hl1.1
      rw [hl1.2] at this; cases this
    · rw [hT]; rfl
  · rw [hlb b (by omega)] at hl
    have hl1 : bt lb b = true ∧ bt tB b = false := by simpa using hl
    rw [hlk j (by omega), t8 b j hb hj hl1.1 hp]
    rcases Bool.eq_false_or_eq_true (bt tK j) with hT | hT
    · have := hcB b j hb hj hT hp hl1.1
      rw [hl1.2] at this; cases this
    · rw [hT]; rfl
  · obtain ⟨⟨m, m1, m2⟩, x, x1, x2⟩ := c3 k hk
    constructor
    · rcases hmak k hk m m2 m1.1 with ⟨-, e, -⟩ | ⟨-, e, -⟩
      · exact ⟨m + 1, by omega, e⟩
      · exact ⟨m, by omega, e⟩
    · rw [hwe k (by omega)]
      by_cases hb : bt S k = true
      · rw [if_pos hb]; exact ⟨0, Nat.zero_le _, rfl⟩
      · rw [if_neg hb]; exact ⟨x, x1, x2⟩
  · obtain ⟨q1, q2⟩ := hfree w hw hs
    obtain ⟨g1, g2, g3⟩ := hH w hw q1
    have nb2 := ((hBL w hw).bt.mp hs).2
    refine ⟨fun c hc hcl => ?_, fun h6 b hb hbb => ?_, fun k hk hkk => ?_⟩
    · have hnb : ¬ bt S c = true := fun hb => (q2 c (by omega) hb).2 hcl
      rw [hm c (by omega), if_neg hnb]
      exact g1 c hc hcl
    · have hl := g2 h6 b hb hbb
      rw [hlb b hb, hl]
      rcases Bool.eq_false_or_eq_true (bt tB b) with hT | hT
      · refine absurd (Or.inl (Or.inl ⟨h6, ?_⟩)) nb2
        rw [hbb, has_nI hb, if_pos hT]; decide
      · rw [hT]; rfl
    · obtain ⟨hl, hmk⟩ := g3 k hk hkk
      have hnb : ¬ bt S k = true := fun hb => (q2 k (by omega) hb).1 hkk
      refine ⟨?_, by rw [hm k (by omega), if_neg hnb]; exact hmk⟩
      rw [hlk k (by omega), hl]
      rcases Bool.eq_false_or_eq_true (bt tK k) with hT | hT
      · refine absurd (Or.inl (Or.inr ⟨fun q => nI_ne6 (by omega) (hkk.symm.trans q), ?_⟩)) nb2
        rw [hkk, has_nI (by omega), if_pos hT]; decide
      · rw [hT]; rfl
  · exact ⟨by rw [b2 0 (fun w _ => by omega)]; exact h0.1, by rw [b2 1 (fun w _ => by omega)]; exact h0.2.1, by rw [b2 2 (fun w _ => by omega)]; exact h0.2.2.1, by rw [b2 3 (fun w _ => by omega)]; exact h0.2.2.2⟩
  · rw [b2 _ (fun w _ => by omega), b2 _ (fun w _ => by omega), b2 _ (fun w _ => by omega), b2 _ (fun w _ => by omega)]
    exact hK1 k hk
  · rw [b2 _ (fun w _ => by omega), b2 _ (fun w _ => by omega)]
    exact hB1 b hb
  · obtain ⟨r0, r1, r2, r3, r4, r5⟩ := hR w hw
    rw [b2 _ (fun w' _ => by omega), b2 (124 + 6 * w + 1) (fun w' _ => by omega), b2 (124 + 6 * w + 2) (fun w' _ => by omega), b2 (124 + 6 * w + 3) (fun w' _ => by omega), b2 (124 + 6 * w + 5) (fun w' _ => by omega), hcell _ (by omega), hcell _ (by omega), hcell _ (by omega), hcell _ (by omega), hcell _ (by omega)]
    refine ⟨r0, r1, r2, r3, ?_, by rw [r5, (hBL w hw).low]⟩
    by_cases hs : bt (sta w) 3 = true
    · have hb := hburn w hw hs
      rcases b3 w hw with ⟨q1, q2⟩ | ⟨q1, q2⟩
      · rw [q2, if_neg (fun q => ((hBL w hw).bt.mp q).2 (hb.mp q1))]
      · rw [q2, hcell _ (by omega), r4, if_pos hs, if_pos ((hBL w hw).bt.mpr ⟨hs, fun q => q1 (hb.mpr q)⟩)]
    · have hn : ¬ bt (s2 w) 3 = true := fun q => hs ((hBL w hw).bt.mp q).1
      rw [if_neg hn]
      rcases b3 w hw with ⟨q1, q2⟩ | ⟨q1, q2⟩
      · exact q2
      · rw [q2, hcell _ (by omega), r4, if_neg hs]
end MID
