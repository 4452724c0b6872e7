/-! what is asked: of a key, of a wrap, lost, the makes of a throwing away, the most worn -/
theorem agree_read {n : Nat} {c : CS} {r : RS} {o1 : Option (Int32 × CS)} {o2 : Option (Int32 × RS)} (h : Inv0 n c r) (v : Int32) (e1 : o1 = some (v, c)) (e2 : o2 = some (v, r)) : agree Inv0 n o1 o2 := ⟨v, c, r, e1, e2, Inv0_up h⟩
theorem ct_list {N : Nat} (L : List Nat) (h20 : ∀ i, i ∈ L → i < N) (hs : L.Pairwise (fun a b => b < a)) : fb_ct (fun j => decide (j ∈ L)) N = L.length := by
  induction L with
  | nil => exact fb_ct_zero.mpr (fun k _ => by simp)
  | cons k L ih =>
    obtain ⟨s1, s2⟩ := List.pairwise_cons.mp hs
    have hk := h20 k List.mem_cons_self
    have e : fb_ct (fun j => decide (j ∈ k :: L)) N = fb_ct (fun j => (decide (j = k) && true) || decide (j ∈ L)) N := fb_ct_cong (fun j _ => by
      by_cases h1 : j = k <;> by_cases h2 : j ∈ L <;> simp [h1, h2])
    have hor : fb_ct (fun j => (decide (j = k) && true) || decide (j ∈ L)) N = fb_ct (fun j => decide (j = k) && true) N + fb_ct (fun j => decide (j ∈ L)) N := fb_ct_or (fun j _ hh => by
      obtain ⟨h1, h2⟩ := hh
      simp at h1 h2
      subst h1
      exact Nat.lt_irrefl j (s1 j h2))
    rw [e, hor, ct_one k true hk, ih (fun i hi => h20 i (List.mem_cons_of_mem _ hi)) s2, List.length_cons]
    simp
    omega
section READS
variable {B nk nb nw : Nat} {st : Nat → Int32} {mw ke bo lk lb nu : Int32} {par mak wea kob hek hew clo clm sta : Nat → Int32}
theorem ofKey_both (h : Rel B nk nb nw st mw ke bo lk lb par mak wea kob nu hek hew clo clm sta) (a b : Int32) : ∃ v, fX7_ofKey ke bo lk lb par mak wea kob a b = some v ∧ fX8_ofKey st a b = some v := by
  obtain ⟨⟨rfl, rfl, rfl⟩, ⟨t1, t2, t3, t4, t5, t6, t7, t8⟩, ⟨c1, c2, c3⟩, hW, hH, hU, ⟨s0, s1, s2, s3⟩, hK, hBx, hR⟩ := id h
  unfold fX7_ofKey fX8_ofKey
  rcases key_both t1 s1 a with ⟨k, hk, rfl, e1, e2⟩ | ⟨e1, e2⟩
  · obtain ⟨r0, r1, r2, r3⟩ := hK k hk
    rw [e1, e2, Option.bind_some, if_neg (show ¬ ((1 : Int32) = 0) by decide), if_neg (show ¬ ((1 : Int32) = 0) by decide)]
    by_cases b0 : b = 0
    · subst b0
      rw [if_pos rfl, if_pos rfl, key0 (by omega)]
      unfold fX5_parentOf
      rw [rAt_nI (by omega) (by omega)]
      exact ⟨_, rfl, by rw [r0]; rfl⟩
    · rw [if_neg b0, if_neg b0]
      by_cases b1 : b = 1
      · subst b1
        rw [if_pos rfl, if_pos rfl, key1 (by omega), r1]
        unfold fX5_isLiveKey fX7_oneIf
        rw [has_nI (by omega)]
        refine ⟨_, rfl, ?_⟩
        by_cases hl : bt lk k = true
        · rw [if_pos hl, if_neg (by decide)]; rfl
        · rw [if_neg hl, if_pos rfl]; rfl
      · rw [if_neg b1, if_neg b1]
        by_cases b2 : b = 2
        · subst b2
          rw [if_pos rfl, if_pos rfl, key2 (by omega), r2]
          unfold fX5_makeOf
          rw [rAt_nI (by omega) (by omega)]
          exact ⟨_, rfl, rfl⟩
        · rw [if_neg b2, if_neg b2]
          by_cases b3 : b = 3
          · subst b3
            rw [if_pos rfl, if_pos rfl, key3 (by omega), r3]
            unfold fX5_wearOf
            rw [rAt_nI (by omega) (by omega)]
            exact ⟨_, rfl, rfl⟩
          · rw [if_neg b3, if_neg b3]
            by_cases b4 : b = 4
            · subst b4
              obtain ⟨m1, g1, g2⟩ := liveKeysOn_eq (liveK := lk) (par := par) t1 (fX7_setOf (nI k))
              obtain ⟨m2, g3, g4⟩ := hangingKeys_eq t1 s1 hK (nI k)
              rw [if_pos rfl, if_pos rfl, g1, g3]
              refine ⟨m1, rfl, ?_⟩
              have : m2 = m1 := b_ext (fun i hi => by
                rw [g2 i hi, g4 i hi]
                by_cases hin : i < nk
                · rw [hs_set (by omega) (PT32 t3 t1 i hin)]
                · simp [hin])
              rw [this]; rfl
            · rw [if_neg b4, if_neg b4]
              by_cases b5 : b = 5
              · subst b5
                obtain ⟨m1, g1, g2⟩ := liveBoxesOn_eq (liveB := lb) (kob := kob) t2 (fX7_setOf (nI k))
                obtain ⟨m2, g3, g4⟩ := hangingBoxes_eq t2 s2 hBx (nI k)
                rw [if_pos rfl, if_pos rfl, g1, g3]
                refine ⟨m1, rfl, ?_⟩
                have : m2 = m1 := b_ext (fun i hi => by
                  rw [g2 i hi, g4 i hi]
                  by_cases hin : i < nb
                  · rw [hs_set (by omega) (KB32 t4 t1 i hin)]
                  · simp [hin])
                rw [this]; rfl
              · rw [if_neg b5, if_neg b5]
                by_cases b6 : b = 6
                · subst b6
                  obtain ⟨m1, g1, g2⟩ := above_eq t3 t1 hk
                  have hp := PT_up t3 hk
                  rw [if_pos rfl, if_pos rfl, g1, rabove_eq t3 t1 (fun k hk => (hK k hk).1) hk]
                  refine ⟨_, rfl, ?_⟩
                  have e : fJ6_bitCount_0f7a4 m1 = nI (up par (par k)).length := by
                    rw [count_eq, ← ct_list (N := 32) (up par (par k)) (fun i hi => by have := up_nk t3 t1 hp hi; omega) (up_sorted t3 t1 _ hp)]
                    congr 1
                    exact fb_ct_cong (fun j hj => g2 j hj)
                  rw [e]; rfl
                · rw [if_neg b6, if_neg b6]
                  exact ⟨_, rfl, rfl⟩
  · rw [e1, e2, Option.bind_some, if_pos rfl, if_pos rfl]
    exact ⟨_, rfl, rfl⟩
theorem wrap_read (h : Rel B nk nb nw st mw ke bo lk lb par mak wea kob nu hek hew clo clm sta) (a b : Int32) : fX8_wrap st a b = some (fX7_wrap nu hek hew clo clm sta a b) := by
  obtain ⟨⟨rfl, rfl, rfl⟩, ⟨t1, t2, t3, t4, t5, t6, t7, t8⟩, ⟨c1, c2, c3⟩, hW, hH, hU, ⟨s0, s1, s2, s3⟩, hK, hBx, hR⟩ := id h
  unfold fX7_wrap fX8_wrap
  rw [if_neg ix3, cl3, s3]
  rcases wrap_both c1 a with ⟨w, hw, rfl, e1, e2⟩ | ⟨e1, e2⟩
  · obtain ⟨r0, r1, r2, r3, r4, r5⟩ := hR w hw
    rw [e1, e2, if_neg (show ¬ ((1 : Int32) = 0) by decide), if_neg (show ¬ ((1 : Int32) = 0) by decide)]
    have out : (b < 0 ∨ ∃ p, 6 ≤ p ∧ p < 2 ^ 31 ∧ b = nI p) → fX8_within b 0 5 = 0 ∧ ¬ b = 0 ∧ ¬ b = 1 ∧ ¬ b = 2 ∧ ¬ b = 3 ∧ ¬ b = 4 ∧ ¬ b = 5 := fun hq => by
      rcases hq with hq | ⟨p, p1, p2, rfl⟩
      · refine ⟨if_pos hq, ?_, ?_, ?_, ?_, ?_, ?_⟩ <;> (intro e; subst e; exact absurd hq (by decide))
      · refine ⟨by unfold fX8_within; rw [if_neg (nI_pos p2), if_pos (show (5 : Int32) < nI p from nI_lt (a := 5) (by omega) p2)], ?_, ?_, ?_, ?_, ?_, ?_⟩
        · exact fun e => by have := (nI_eq (b := 0) p2 (by omega)).mp e; omega
        · exact fun e => by have := (nI_eq (b := 1) p2 (by omega)).mp e; omega
        · exact fun e => by have := (nI_eq (b := 2) p2 (by omega)).mp e; omega
        · exact fun e => by have := (nI_eq (b := 3) p2 (by omega)).mp e; omega
        · exact fun e => by have := (nI_eq (b := 4) p2 (by omega)).mp e; omega
        · exact fun e => by have := (nI_eq (b := 5) p2 (by omega)).mp e; omega
    have fin : (b < 0 ∨ ∃ p, 6 ≤ p ∧ p < 2 ^ 31 ∧ b = nI p) ∨ b = 0 ∨ b = 1 ∨ b = 2 ∨ b = 3 ∨ b = 4 ∨ b = 5 := by
      rcases pos_or b with hq | ⟨p, hp, rfl⟩
      · exact Or.inl (Or.inl hq)
      · rcases Nat.lt_or_ge p 6 with h6 | h6
        · right
          rcases (show p = 0 ∨ p = 1 ∨ p = 2 ∨ p = 3 ∨ p = 4 ∨ p = 5 by omega) with rfl | rfl | rfl | rfl | rfl | rfl
          · exact Or.inl rfl
          · exact Or.inr (Or.inl rfl)
          · exact Or.inr (Or.inr (Or.inl rfl))
          · exact Or.inr (Or.inr (Or.inr (Or.inl rfl)))
          · exact Or.inr (Or.inr (Or.inr (Or.inr (Or.inl rfl))))
          · exact Or.inr (Or.inr (Or.inr (Or.inr (Or.inr rfl))))
        · exact Or.inl (Or.inr ⟨p, h6, hp, rfl⟩)
    rcases fin with hq | rfl | rfl | rfl | rfl | rfl | rfl
    · obtain ⟨o1, o2, o3, o4, o5, o6, o7⟩ := out hq
      rw [o1, if_pos rfl, if_neg o2, if_neg o3, if_neg o4, if_neg o5, if_neg o6, if_neg o7]
    · rw [if_neg (show ¬ fX8_within 0 0 5 = 0 by decide), if_pos rfl, wr0 (by omega), r0]
      unfold fX6_heldKey
      rw [rAt_nI (by omega) (by omega)]; rfl
    · rw [if_neg (show ¬ fX8_within 1 0 5 = 0 by decide), if_neg (by decide), if_pos rfl, wr1 (by omega), r1]
      unfold fX6_heldWhat
      rw [rAt_nI (by omega) (by omega)]; rfl
    · rw [if_neg (show ¬ fX8_within 2 0 5 = 0 by decide), if_neg (by decide), if_neg (by decide), if_pos rfl, wr2 (by omega), r2]
      unfold fX6_closer
      rw [rAt_nI (by omega) (by omega)]; rfl
    · rw [if_neg (show ¬ fX8_within 3 0 5 = 0 by decide), if_neg (by decide), if_neg (by decide), if_neg (by decide), if_pos rfl, wr3 (by omega), r3]
      unfold fX6_closerMake
      rw [rAt_nI (by omega) (by omega)]; rfl
    · rw [if_neg (show ¬ fX8_within 4 0 5 = 0 by decide), if_neg (by decide), if_neg (by decide), if_neg (by decide), if_neg (by decide), if_pos rfl, wr4 (by omega), r4, stands_8 (by omega)]
      unfold fX7_oneIf
      by_cases hs : bt (sta w) 3 = true
      · rw [if_pos hs, if_neg (by decide)]; rfl
      · rw [if_neg hs, if_pos rfl]; rfl
    · rw [if_neg (show ¬ fX8_within 5 0 5 = 0 by decide), if_neg (by decide), if_neg (by decide), if_neg (by decide), if_neg (by decide), if_neg (by decide), if_pos rfl, wr5 (by omega), r5]
      unfold fX6_placesOf
      rw [rAt_nI (by omega) (by omega)]; rfl
  · rw [e1, e2, if_pos rfl, if_pos rfl]
theorem lost_both (h : Rel B nk nb nw st mw ke bo lk lb par mak wea kob nu hek hew clo clm sta) (a0 : Int32) : ∃ v, fX7_lostBy ke bo lk lb par kob a0 = some v ∧ fX8_lostBy st a0 = some v := by
  obtain ⟨⟨rfl, rfl, rfl⟩, ⟨t1, t2, t3, t4, t5, t6, t7, t8⟩, ⟨c1, c2, c3⟩, hW, hH, hU, ⟨s0, s1, s2, s3⟩, hK, hBx, hR⟩ := id h
  unfold fX7_lostBy fX8_lostBy
  rcases liveKey_both t1 s1 t5 hK a0 with ⟨a, ha, rfl, hl, e1, e2⟩ | ⟨e1, e2⟩
  · obtain ⟨tK, g3, g4⟩ := below_eq t3 t1 ha
    obtain ⟨tB, g5, g6⟩ := liveBoxesOn_eq (liveB := lb) (kob := kob) t2 tK
    rw [e1, e2, Option.bind_some, if_neg (show ¬ ((1 : Int32) = 0) by decide), if_neg (show ¬ ((1 : Int32) = 0) by decide), g3, Option.bind_some, g5, Option.bind_some]
    obtain ⟨m, h1, h2⟩ := mask_loop (n := nb) (fun fuel acc i => fX8_lostBy_b14 fuel st (nI a) acc (nI i)) (fun acc => some acc) (fun j => bt lb j && decide (a ∈ up par (kob j)))
      (fun fuel acc => by
        show fX8_lostBy_b14 _ _ _ _ _ = _
        rw [fX8_lostBy_b14, if_neg ix2, cl2, s2, if_pos (nI_le (Nat.le_refl _) (by omega))])
      (fun fuel acc i hi => by
        show ∃ acc', _ ∧ fX8_lostBy_b14 _ _ _ _ _ = _
        obtain ⟨r0, r1⟩ := hBx i hi
        obtain ⟨j0, hj0, ej0⟩ := t4 i hi
        rw [fX8_lostBy_b14, if_neg ix2, cl2, s2, if_neg (nI_ge hi (by omega)), box1 (by omega), Option.bind_some, r1, nI_1]
        by_cases hlb : bt lb i = true
        · rw [if_pos (bit1_eq.mpr hlb), box0 (by omega), Option.bind_some, r0, under_eq t3 t1 (fun k hk => (hK k hk).1) ha (Or.inr ⟨j0, hj0, ej0⟩), Option.bind_some]
          by_cases hu : a ∈ up par (kob i)
          · rw [if_pos hu, if_neg (show ¬ ((1 : Int32) = 0) by decide)]
            exact ⟨_, acc_sh (by omega) (by simp [hlb, hu]), rfl⟩
          · rw [if_neg hu, if_pos rfl]
            exact ⟨_, acc_or0 (by simp [hu]), rfl⟩
        · rw [if_neg (fun q => hlb (bit1_eq.mp q))]
          exact ⟨_, acc_or0 (by simp [hlb]), rfl⟩) 6000 0 0 (by omega) (by omega)
    refine ⟨tB, rfl, h1.trans (congrArg some (b_ext (fun i hi => ?_)))⟩
    rw [h2 i hi, g6 i hi, b_0]
    by_cases hin : i < nb
    · obtain ⟨j0, hj0, ej0⟩ := t4 i hin
      rw [ej0, hs_nI (by omega), g4 j0 (by omega)]
      simp [hin, hj0, Bool.and_comm]
    · simp [hin]
  · rw [e1, e2, Option.bind_some, if_pos rfl, if_pos rfl]
    exact ⟨_, rfl, rfl⟩
/-- the count of a throwing away, asked -/
theorem throws_both (h : Rel B nk nb nw st mw ke bo lk lb par mak wea kob nu hek hew clo clm sta) {p : Int32} (hp : Up nk p) {S tK tB : Int32} (hS : ∀ j, j < 32 → bt S j = decide (j ∈ up par p))
    (hone : ∀ k, k ∈ up par p → nI k = p → 1 ≤ hf nk nb lk lb par kob k) (hcr : ∀ k, k ∈ up par p → cw nk nb lk lb tK tB par kob k = rc nk nb lk lb par kob p k) :
    ∃ v, ((fX1_canWrapAgain mw ke bo lk lb par kob S tK tB).bind fun q7 => (if q7 = 0 then (some (-5)) else ((fX1_hangingWithout ke bo lk lb par kob S tK tB).bind fun q10 => (some q10)))) = some v ∧ fX8_throwMakes st p = some v := by
  obtain ⟨⟨rfl, rfl, rfl⟩, ⟨t1, t2, t3, t4, t5, t6, t7, t8⟩, ⟨c1, ⟨m, m1, m2, rfl⟩, c3⟩, hW, hH, hU, ⟨s0, s1, s2, s3⟩, hK, hBx, hR⟩ := id h
  have h20 : ∀ i, i ∈ up par p → i < 20 := fun i hi => by have := up_nk t3 t1 hp hi; omega
  have hmap : (up par p).map (cw nk nb lk lb tK tB par kob) = (up par p).map (rc nk nb lk lb par kob p) := List.map_congr_left hcr
  have hT := throwMakes_eq t1 t2 s1 s2 hK hBx t3 m2 s0 hp hone
  have hC := canWrap_eq (lk := lk) (lb := lb) t1 t2 t3 t4 hS h20 tK tB m2
  have hCiff : (∀ k, k ∈ up par p → cw nk nb lk lb tK tB par kob k ≤ m) ↔ (∀ k, k ∈ up par p → rc nk nb lk lb par kob p k ≤ m) := by
    constructor
    · intro q k hk; rw [← hcr k hk]; exact q k hk
    · intro q k hk; rw [hcr k hk]; exact q k hk
  rcases hC with ⟨q1, q2⟩ | ⟨q1, q2⟩
  · rcases hT with ⟨y1, y2⟩ | ⟨y1, y2⟩
    · rw [q2, Option.bind_some, if_neg (show ¬ ((1 : Int32) = 0) by decide), hang_mask t1 t2 t3 t4 hS h20 (up_sorted t3 t1 p hp), hmap]
      exact ⟨_, rfl, y2⟩
    · exact absurd (hCiff.mp q1) y1
  · rcases hT with ⟨y1, y2⟩ | ⟨y1, y2⟩
    · exact absurd (hCiff.mpr y1) q1
    · rw [q2, Option.bind_some, if_pos rfl]
      exact ⟨_, rfl, y2⟩
theorem throwing_both (h : Rel B nk nb nw st mw ke bo lk lb par mak wea kob nu hek hew clo clm sta) (x a0 : Int32) : ∃ v, fX7_throwingMakes mw ke bo lk lb par kob x a0 = some v ∧ fX8_throwingMakes st x a0 = some v := by
  obtain ⟨h0, ⟨t1, t2, t3, t4, t5, t6, t7, t8⟩, ⟨c1, c2, c3⟩, hW, hH, hU, ⟨s0, s1, s2, s3⟩, hK, hBx, hR⟩ := id h
  have s1' : st 1 = nI nk := s1.trans h0.1
  have s2' : st 2 = nI nb := s2.trans h0.2.1
  have n10 : ¬ ((1 : Int32) = 0) := by decide
  unfold fX7_throwingMakes fX8_throwingMakes
  by_cases x0 : x = 0
  · subst x0
    rw [if_pos rfl, if_neg (show ¬ fX8_within 0 0 1 = 0 by decide), if_pos rfl]
    unfold fX1_wrapsByThrowing fX5_isLive fX5_aboveThat fX1_wrapsByThrowing_b36
    rcases liveKey_both t1 s1' t5 hK a0 with ⟨a, ha, rfl, hl, e1, e2⟩ | ⟨e1, e2⟩
    · obtain ⟨S, g1, g2⟩ := above_eq t3 t1 ha
      obtain ⟨v, v1, v2⟩ := throws_both h (PT_up t3 ha) g2 (tK := fX7_setOf (nI a)) (tB := 0) (fun k _ e => hone_key ha t1 hl e) (fun k hk => cw_key ha t1 hl (fun j hj e => by rw [bt_setOf (by omega) (by omega), decide_eq_true_eq]) (fun b hb e => b_0 b))
      simp only [eq_self, if_true, e1, e2, Option.bind_some, if_neg n10]
      rw [g1]
      simp only [Option.bind_some]
      rw [v1, key0 (by omega)]
      simp only [Option.bind_some]
      rw [(hK a ha).1, v2]
      exact ⟨v, rfl, rfl⟩
    · simp only [eq_self, if_true, e1, e2, Option.bind_some]
      exact ⟨_, rfl, rfl⟩
  · by_cases x1 : x = 1
    · subst x1
      rw [if_neg n10, if_pos rfl, if_neg (show ¬ fX8_within 1 0 1 = 0 by decide), if_neg n10]
      unfold fX1_wrapsByThrowing fX5_isLive fX5_aboveThat fX1_wrapsByThrowing_b36
      rcases liveBox_both t2 s2' t6 hBx a0 with ⟨b, hb, rfl, hl, e1, e2⟩ | ⟨e1, e2⟩
      · obtain ⟨j0, hj0, ej0⟩ := t4 b hb
        obtain ⟨S, g1, g2⟩ := aboveBox_eq t3 t1 (by omega : b < 20) hj0 ej0
        obtain ⟨v, v1, v2⟩ := throws_both h (p := kob b) (Or.inr ⟨j0, hj0, ej0⟩) (S := S) (fun j hj => by rw [g2 j hj, ej0]) (tK := 0) (tB := fX7_setOf (nI b)) (fun k _ e => hone_box hb t2 hl e) (fun k hk => cw_box hb t2 hl (fun j hj e => b_0 j) (fun j hj e => by rw [bt_setOf (by omega) (by omega), decide_eq_true_eq]))
        simp only [e1, e2, Option.bind_some, if_neg n10]
        rw [g1]
        simp only [Option.bind_some]
        rw [v1, box0 (by omega)]
        simp only [Option.bind_some]
        rw [(hBx b hb).1, v2]
        exact ⟨v, rfl, rfl⟩
      · simp only [eq_self, if_true, e1, e2, Option.bind_some, if_neg n10]
        exact ⟨_, rfl, rfl⟩
    · have hw : fX8_within x 0 1 = 0 := by
        unfold fX8_within
        rcases pos_or x with hq | ⟨p, hp, rfl⟩
        · rw [if_pos hq]
        · have hp2 : 1 < p := by
            rcases Nat.lt_or_ge 1 p with q | q
            · exact q
            · rcases (show p = 0 ∨ p = 1 by omega) with rfl | rfl
              · exact absurd rfl x0
              · exact absurd rfl x1
          rw [if_neg (nI_pos hp), if_pos (show (1 : Int32) < nI p from nI_lt (a := 1) hp2 hp)]
      rw [if_neg x0, if_neg x1, hw, if_pos rfl]
      exact ⟨_, rfl, rfl⟩
end READS
