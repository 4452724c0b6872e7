/-! a throwing away, from the chain above on -/
section THROW
variable {B nk nb nw : Nat} {st : Nat → Int32} {mw ke bo lk lb nu : Int32} {par mak wea kob hek hew clo clm sta : Nat → Int32}
/-- the makes anew, all the way up -/
theorem newUp (hP : PT nk par) (hk : nk ≤ 20) (y1 : Int32) : ∀ cur, Up nk cur → ∀ fuel s, (up par cur).length < fuel → (∀ k, k < nk → s (4 + 4 * k) = par k) →
    ∃ s', fX8_makesAboveAnew_b2 fuel s y1 cur = ((fX8_burns s').bind fun q7 => (if y1 = (-6) then fX8_makesAboveAnew_b43 6000 q7 y1 (-1) else ((fX8_above q7 y1).bind fun q10 => fX8_makesAboveAnew_b43 6000 q7 y1 q10))) ∧
      (∀ j, (∀ k, k ∈ up par cur → j ≠ 4 + 4 * k + 2 ∧ j ≠ 4 + 4 * k + 3) → s' j = s j) ∧ ∀ k, k ∈ up par cur → s' (4 + 4 * k + 2) = s (4 + 4 * k + 2) + 1 ∧ s' (4 + 4 * k + 3) = 0 := by
  refine up_ind (Q := fun cur => ∀ fuel s, (up par cur).length < fuel → (∀ k, k < nk → s (4 + 4 * k) = par k) →
    ∃ s', fX8_makesAboveAnew_b2 fuel s y1 cur = ((fX8_burns s').bind fun q7 => (if y1 = (-6) then fX8_makesAboveAnew_b43 6000 q7 y1 (-1) else ((fX8_above q7 y1).bind fun q10 => fX8_makesAboveAnew_b43 6000 q7 y1 q10))) ∧
      (∀ j, (∀ k, k ∈ up par cur → j ≠ 4 + 4 * k + 2 ∧ j ≠ 4 + 4 * k + 3) → s' j = s j) ∧ ∀ k, k ∈ up par cur → s' (4 + 4 * k + 2) = s (4 + 4 * k + 2) + 1 ∧ s' (4 + 4 * k + 3) = 0) hP ?_ ?_
  · intro fuel s hf2 hc
    obtain ⟨f, rfl⟩ : ∃ f, fuel = f + 1 := ⟨fuel - 1, by omega⟩
    rw [fX8_makesAboveAnew_b2, if_pos rfl, up_6]
    exact ⟨s, rfl, fun j _ => rfl, fun k hk2 => by cases hk2⟩
  · intro q hq ih fuel s hf2 hc
    rw [up_k hP hk hq] at hf2 ⊢
    rw [List.length_cons] at hf2
    obtain ⟨f, rfl⟩ : ∃ f, fuel = f + 1 := ⟨fuel - 1, by omega⟩
    have hc' : ∀ k, k < nk → stNew s q (4 + 4 * k) = par k := fun k hk2 => by
      unfold stNew
      rw [pk_un (by omega), pk_un (by omega), hc k hk2]
    obtain ⟨s', e1, e2, e3⟩ := ih f (stNew s q) (by omega) hc'
    refine ⟨s', ?_, fun j hj => ?_, fun k hk2 => ?_⟩
    · rw [fX8_makesAboveAnew_b2, if_neg (nI_ne6 (by omega)), makesAnew_eq (by omega), Option.bind_some, key0 (by omega), Option.bind_some, hc' q hq]
      exact e1
    · obtain ⟨h1, h2⟩ := hj q List.mem_cons_self
      rw [e2 j (fun k hk2 => hj k (List.mem_cons_of_mem _ hk2))]
      unfold stNew
      rw [pk_un h2, pk_un h1]
    · rcases List.mem_cons.mp hk2 with rfl | h
      · have hlt : ∀ k', k' ∈ up par (par k) → k' < k := fun k' h' => up_par_lt hP hk hq h'
        rw [e2 (4 + 4 * k + 2) (fun k' h' => by have := hlt k' h'; omega), e2 (4 + 4 * k + 3) (fun k' h' => by have := hlt k' h'; omega)]
        unfold stNew
        rw [pk_us, pk_un (by omega), pk_us]
        exact ⟨rfl, rfl⟩
      · have hlt := up_par_lt hP hk hq h
        obtain ⟨g1, g2⟩ := e3 k h
        rw [g1, g2]
        unfold stNew
        rw [pk_un (by omega), pk_un (by omega)]
        exact ⟨rfl, rfl⟩
theorem throw_skip {S y6 : Int32} : ∀ d fuel i, i + d ≤ 20 → d < fuel → (∀ j, i ≤ j → j < i + d → bt S j = false) →
    fX1_throwAway_b135 fuel mw ke bo lk lb par mak wea kob nu hek hew clo clm sta S y6 (nI i) = fX1_throwAway_b135 (fuel - d) mw ke bo lk lb par mak wea kob nu hek hew clo clm sta S y6 (nI (i + d)) := by
  intro d
  induction d with
  | zero => intro fuel i h1 h2 h3; rfl
  | succ d ih =>
    intro fuel i h1 h2 h3
    obtain ⟨f, rfl⟩ : ∃ f, fuel = f + 1 := ⟨fuel - 1, by omega⟩
    rw [fX1_throwAway_b135, if_neg (show ¬ (20 : Int32) ≤ nI i from nI_ge (b := 20) (by omega) (by omega)), has_nI (by omega), h3 i (Nat.le_refl _) (by omega), if_neg (show ¬ false = true by decide), if_pos rfl, nI_1, ih f (i + 1) (by omega) (by omega) (fun j hj hj2 => h3 j (by omega) (by omega))]
    have e1 : f + 1 - (d + 1) = f - d := by omega
    have e2 : i + 1 + d = i + (d + 1) := by omega
    rw [e1, e2]
theorem nI_m1 (t : Nat) : nI (t + 1) + (-1) = nI t := by
  rw [← nI_1, Int32.add_assoc, show (1 + -1 : Int32) = 0 by decide, Int32.add_zero]
theorem wrapUp {p S y6 : Int32} (hPp : Up nk p) : ∀ (Q D : List Nat), up par p = Q.reverse ++ D → Q.Pairwise (fun a b => a < b) → ∀ f1 f2 i nw st nu wea hek hew clo clm sta, i ≤ 20 → 20 < i + f1 → Q.length < f2 →
    (∀ j, i ≤ j → j < 32 → (bt S j = true ↔ j ∈ Q)) → (∀ j, j ∈ Q → i ≤ j) → Rel B nk nb nw st mw ke bo lk lb par mak wea kob nu hek hew clo clm sta → (∀ j, j ∈ Q → Pend nw clo sta j) → nw + (Q.map (hf nk nb lk lb par kob)).sum ≤ 120 →
    ∃ nw' wea' nu' hek' hew' clo' clm' sta' st', fX1_throwAway_b135 f1 mw ke bo lk lb par mak wea kob nu hek hew clo clm sta S y6 (nI i) = some (y6, lk, lb, mak, wea', nu', hek', hew', clo', clm', sta') ∧
      fX8_makesAboveAnew_b43 f2 st p (nI Q.length + (-1)) = some st' ∧ Rel B nk nb nw' st' mw ke bo lk lb par mak wea' kob nu' hek' hew' clo' clm' sta' := by
  intro Q
  induction Q with
  | nil =>
    intro D hL hs f1 f2 i nw st nu wea hek hew clo clm sta hi hf1 hf2 hc1 hc2 h hpd hroom
    refine ⟨nw, wea, nu, hek, hew, clo, clm, sta, st, ?_, ?_, h⟩
    · rw [throw_skip (20 - i) f1 i (by omega) (by omega) (fun j hj hj2 => by
        have := hc1 j hj (by omega)
        rcases Bool.eq_false_or_eq_true (bt S j) with hb | hb
        · have := this.mp hb; cases this
        · exact hb)]
      have e : i + (20 - i) = 20 := by omega
      obtain ⟨f, hf⟩ : ∃ f, f1 - (20 - i) = f + 1 := ⟨f1 - (20 - i) - 1, by omega⟩
      rw [e, hf, fX1_throwAway_b135, if_pos (show (20 : Int32) ≤ nI 20 from nI_le (a := 20) (Nat.le_refl _) (by omega))]
    · obtain ⟨f, rfl⟩ : ∃ f, f2 = f + 1 := ⟨f2 - 1, by omega⟩
      rw [fX8_makesAboveAnew_b43, List.length_nil]
      exact if_pos (by decide)
  | cons y Q ih =>
    intro D hL hs f1 f2 i nw st nu wea hek hew clo clm sta hi hf1 hf2 hc1 hc2 h hpd hroom
    obtain ⟨s1, s2⟩ := List.pairwise_cons.mp hs
    have t1 := h.2.1.1
    have hPT := h.2.1.2.2.1
    have hyi := hc2 y List.mem_cons_self
    have hL2 : up par p = Q.reverse ++ (y :: D) := by rw [hL]; simp
    have hyk : y < nk := up_nk hPT t1 hPp (by rw [hL]; simp)
    have hyb : bt S y = true := (hc1 y hyi (by omega)).mpr List.mem_cons_self
    rw [List.map_cons, List.sum_cons] at hroom
    rw [throw_skip (y - i) f1 i (by omega) (by omega) (fun j hj hj2 => by
      rcases Bool.eq_false_or_eq_true (bt S j) with hb | hb
      · rcases List.mem_cons.mp ((hc1 j hj (by omega)).mp hb) with e | e
        · omega
        · have := s1 j e; omega
      · exact hb)]
    have e : i + (y - i) = y := by omega
    obtain ⟨f, hf⟩ : ∃ f, f1 - (y - i) = f + 1 := ⟨f1 - (y - i) - 1, by omega⟩
    obtain ⟨g2, rfl⟩ : ∃ f, f2 = f + 1 := ⟨f2 - 1, by omega⟩
    rw [List.length_cons] at hf2 ⊢
    rw [nI_m1, e, hf, fX1_throwAway_b135, if_neg (show ¬ (20 : Int32) ≤ nI y from nI_ge (b := 20) (by omega) (by omega)), has_nI (by omega), if_pos hyb, if_neg (show ¬ ((1 : Int32) = 0) by decide)]
    obtain ⟨wea1, hek1, hew1, clo1, clm1, sta1, st1, k1, k2, k3, k4⟩ := wrapAll_both h hyk (by omega) (hpd y List.mem_cons_self)
    have hlen : (up par p).length ≤ 20 := up_len20 hPT t1 hPp
    have hql : Q.length < (up par p).length := by rw [hL2]; simp
    have hhi : fX8_higher st p (nI Q.length) = some (nI y) := higher_eq hPT t1 (fun k hk => (h.2.2.2.2.2.2.2.1 k hk).1) (by omega) hPp (by
      rw [hL2, List.getElem?_append_right (by simp)]
      simp)
    rw [k1, Option.bind_some, fX8_makesAboveAnew_b43, if_neg (nI_pos (by omega)), hhi, Option.bind_some, k2, Option.bind_some, nI_1]
    dsimp only
    refine ih (y :: D) hL2 s2 f g2 (y + 1) _ st1 _ _ _ _ _ _ _ (by omega) (by omega) (by omega) (fun j hj hj32 => ?_) (fun j hj => s1 j hj) k3 (fun j hj => ?_) (by omega)
    · rw [hc1 j (by omega) hj32, List.mem_cons]
      constructor
      · rintro (rfl | q)
        · omega
        · exact q
      · exact Or.inr
    · have hjy := s1 j hj
      have hjk : j < nk := up_nk hPT t1 hPp (by rw [hL2]; simp [hj])
      exact k4 j hjk (by omega) (hpd j (List.mem_cons_of_mem _ hj))
theorem hf_cw {tK tB lk' lb' : Int32} (hlk : ∀ i, i < 32 → bt lk' i = (bt lk i && !bt tK i)) (hlb : ∀ i, i < 32 → bt lb' i = (bt lb i && !bt tB i)) (k : Nat) : hf nk nb lk' lb' par kob k = cw nk nb lk lb tK tB par kob k := by
  unfold hf cw
  rw [fb_ct_cong (p := onK nk lk' par k) (fun j hj => (by unfold onK; rw [hlk j (by omega), Bool.and_assoc, Bool.and_assoc, Bool.and_assoc] : onK nk lk' par k j = (onK nk lk par k j && !bt tK j))), fb_ct_cong (p := onK nb lb' kob k) (fun j hj => (by unfold onK; rw [hlb j (by omega), Bool.and_assoc, Bool.and_assoc, Bool.and_assoc] : onK nb lb' kob k j = (onK nb lb kob k j && !bt tB j)))]
/-- the whole of it -/
theorem throw_gen (h : Rel B nk nb nw st mw ke bo lk lb par mak wea kob nu hek hew clo clm sta) (hB : B < 2 ^ 30) {p : Int32} (hp : Up nk p) {S tK tB : Int32} (hS : ∀ j, j < 32 → bt S j = decide (j ∈ up par p))
    (hcK : ∀ k j, k < nk → j < nk → bt tK j = true → par k = nI j → bt lk k = true → bt tK k = true) (hcB : ∀ b j, b < nb → j < nk → bt tK j = true → kob b = nI j → bt lb b = true → bt tB b = true)
    (hone : ∀ k, k ∈ up par p → nI k = p → 1 ≤ hf nk nb lk lb par kob k) (hcr : ∀ k, k ∈ up par p → cw nk nb lk lb tK tB par kob k = rc nk nb lk lb par kob p k) :
    ∃ x lk2 lb2 mak2 wea2 nu2 hek2 hew2 clo2 clm2 sta2, fX1_throwAway_b62 mw ke bo lk lb par mak wea kob nu hek hew clo clm sta S tK tB = some (x, lk2, lb2, mak2, wea2, nu2, hek2, hew2, clo2, clm2, sta2) ∧
      ((x < 0 ∧ (lk2, lb2, mak2, wea2, nu2, hek2, hew2, clo2, clm2, sta2) = (lk, lb, mak, wea, nu, hek, hew, clo, clm, sta) ∧ fX8_whyNotThrown st p = some x) ∨
       (¬ x < 0 ∧ fX8_whyNotThrown st p = some 0 ∧ fX8_throwMakes st p = some x ∧ ∀ st0 lk' lb', (∀ i, i < 32 → bt lk' i = (bt lk i && !bt tK i)) → (∀ i, i < 32 → bt lb' i = (bt lb i && !bt tB i)) → RS0 st0 mw ke bo nu → RK st0 nk lk' par mak wea → RB st0 nb lb' kob → (∀ j, 124 ≤ j → st0 j = st j) →
         ∃ st', fX8_makesAboveAnew st0 p = some st' ∧ RelV (B + 1) st' (mw, ke, bo, lk2, lb2, par, mak2, wea2, kob, nu2, hek2, hew2, clo2, clm2, sta2))) := by
  obtain ⟨⟨rfl, rfl, rfl⟩, ⟨t1, t2, t3, t4, t5, t6, t7, t8⟩, ⟨c1, ⟨m, m1, m2, rfl⟩, c3⟩, hW, hH, hU, ⟨s0, s1, s2, s3⟩, hK, hBx, hR⟩ := id h
  have h20 : ∀ i, i ∈ up par p → i < 20 := fun i hi => by have := up_nk t3 t1 hp hi; omega
  have hmap : (up par p).map (cw nk nb lk lb tK tB par kob) = (up par p).map (rc nk nb lk lb par kob p) := List.map_congr_left hcr
  have hsum := sum_le (c := rc nk nb lk lb par kob p) (d := 40) (fun k => rc_le k) (up par p)
  have hlen := up_len20 t3 t1 hp
  have hs2 : ((up par p).map (rc nk nb lk lb par kob p)).sum ≤ 800 := by
    have := Nat.mul_le_mul_right 40 hlen
    omega
  obtain ⟨y1, y2, y3⟩ := whyThrown_eq t1 t2 c1 s1 s2 s3 hK hBx t3 m2 s0 hp hone
  have hT := throwMakes_eq t1 t2 s1 s2 hK hBx t3 m2 s0 hp hone
  have hC := canWrap_eq (lk := lk) (lb := lb) t1 t2 t3 t4 hS h20 tK tB m2
  have hCiff : (∀ k, k ∈ up par p → cw nk nb lk lb tK tB par kob k ≤ m) ↔ (∀ k, k ∈ up par p → rc nk nb lk lb par kob p k ≤ m) := by
    constructor
    · intro q k hk; rw [← hcr k hk]; exact q k hk
    · intro q k hk; rw [hcr k hk]; exact q k hk
  unfold fX1_throwAway_b62
  rw [hang_mask t1 t2 t3 t4 hS h20 (up_sorted t3 t1 p hp), Option.bind_some, hmap, room_eq c1 (by omega)]
  by_cases hroom : nw + ((up par p).map (rc nk nb lk lb par kob p)).sum ≤ 120
  · rw [if_pos hroom, if_neg (show ¬ ((1 : Int32) = 0) by decide)]
    rcases hC with ⟨q1, q2⟩ | ⟨q1, q2⟩
    · rw [q2, Option.bind_some, if_neg (show ¬ ((1 : Int32) = 0) by decide)]
      have hall := hCiff.mp q1
      obtain ⟨sA, a1, a2⟩ := burnHolding_eq (hek := hek) (hew := hew) c1 tK tB sta
      obtain ⟨mak', wea', sB, b1, b2, b3, b4⟩ := startNext_eq (hek := hek) (hew := hew) (clo := clo) (clm := clm) c1 S mak wea sA
      unfold fX5_endLife
      rw [Option.bind_some, a1, Option.bind_some, b1, Option.bind_some]
      dsimp only
      have hlk0 : ∀ i, i < 32 → bt (lk &&& (tK ^^^ (-1))) i = (bt lk i && !bt tK i) := fun i hi => by rw [b_and, b_not tK hi]
      have hlb0 : ∀ i, i < 32 → bt (lb &&& (tB ^^^ (-1))) i = (bt lb i && !bt tB i) := fun i hi => by rw [b_and, b_not tB hi]
      have hSn : ∀ k, k < 32 → bt S k = true → k < nk := fun k hk hb => by
        rw [hS k hk] at hb
        exact up_nk t3 t1 hp (of_decide_eq_true hb)
      have hSi : ∀ k, k < 32 → (bt S k = true ↔ k ∈ up par p) := fun k hk => by rw [hS k hk, decide_eq_true_eq]
      -- the wrapping, over any reference's row
      have wrapping : ∀ st2 : Nat → Int32, Rel (B + 1) nk nb nw st2 (nI m) (nI nk) (nI nb) (lk &&& (tK ^^^ (-1))) (lb &&& (tB ^^^ (-1))) par mak' wea' kob (nI nw) hek hew clo clm sB → (∀ w, w < nw → bt (sB w) 3 = true → ∀ k, k < 32 → bt S k = true → ¬ clo w = nI k) →
          ∃ nw' wea2 nu2 hek2 hew2 clo2 clm2 sta2 st', fX1_throwAway_b135 6000 (nI m) (nI nk) (nI nb) (lk &&& (tK ^^^ (-1))) (lb &&& (tB ^^^ (-1))) par mak' wea' kob (nI nw) hek hew clo clm sB S (nI ((up par p).map (rc nk nb lk lb par kob p)).sum) 0 = some (nI ((up par p).map (rc nk nb lk lb par kob p)).sum, lk &&& (tK ^^^ (-1)), lb &&& (tB ^^^ (-1)), mak', wea2, nu2, hek2, hew2, clo2, clm2, sta2) ∧
            fX8_makesAboveAnew_b43 6000 st2 p (nI (up par p).length + (-1)) = some st' ∧ Rel (B + 1) nk nb nw' st' (nI m) (nI nk) (nI nb) (lk &&& (tK ^^^ (-1))) (lb &&& (tB ^^^ (-1))) par mak' wea2 kob nu2 hek2 hew2 clo2 clm2 sta2 := fun st2 hR2 hfree => by
        have hrev : up par p = (up par p).reverse.reverse ++ [] := by simp
        have hasc : (up par p).reverse.Pairwise (fun a b => a < b) := List.pairwise_reverse.mpr (up_sorted t3 t1 p hp)
        have hsumr : ((up par p).reverse.map (hf nk nb (lk &&& (tK ^^^ (-1))) (lb &&& (tB ^^^ (-1))) par kob)).sum = ((up par p).map (rc nk nb lk lb par kob p)).sum := by
          rw [List.map_reverse, List.sum_reverse, ← hmap]
          congr 1
          exact List.map_congr_left (fun k _ => hf_cw hlk0 hlb0 k)
        have hl2 : (up par p).reverse.length = (up par p).length := List.length_reverse
        obtain ⟨nw', wea2, nu2, hek2, hew2, clo2, clm2, sta2, st', z1, z2, z3⟩ := wrapUp hp (S := S) (y6 := nI ((up par p).map (rc nk nb lk lb par kob p)).sum) (up par p).reverse [] hrev hasc 6000 6000 0 nw st2 (nI nw) wea' hek hew clo clm sB (by omega) (by omega) (by omega)
          (fun j _ hj => by rw [hSi j hj, List.mem_reverse]) (fun j _ => Nat.zero_le _) hR2 (fun j hj w hw hs => by
            rw [List.mem_reverse] at hj
            have hjn := h20 j hj
            exact hfree w hw hs j (by omega) ((hSi j (by omega)).mpr hj)) (by rw [hsumr]; exact hroom)
        rw [hl2] at z2
        exact ⟨nw', wea2, nu2, hek2, hew2, clo2, clm2, sta2, st', z1, z2, z3⟩
      -- the reference's side, over any row with the flags off
      have refside : ∀ st0 lk' lb', (∀ i, i < 32 → bt lk' i = (bt lk i && !bt tK i)) → (∀ i, i < 32 → bt lb' i = (bt lb i && !bt tB i)) → RS0 st0 (nI m) (nI nk) (nI nb) (nI nw) → RK st0 nk lk' par mak wea → RB st0 nb lb' kob → (∀ j, 124 ≤ j → st0 j = st j) →
          ∃ st2, Rel (B + 1) nk nb nw st2 (nI m) (nI nk) (nI nb) lk' lb' par mak' wea' kob (nI nw) hek hew clo clm sB ∧ (∀ w, w < nw → bt (sB w) 3 = true → ∀ k, k < 32 → bt S k = true → ¬ clo w = nI k) ∧ fX8_makesAboveAnew st0 p = fX8_makesAboveAnew_b43 6000 st2 p (nI (up par p).length + (-1)) := fun st0 lk' lb' hlk hlb r0 rK rB rW => by
        obtain ⟨st1, n1, n2, n3⟩ := newUp t3 t1 p p hp 6000 st0 (by omega) (fun k hk => (rK k hk).1)
        have hn : ∀ j, (j < 6 ∨ ∀ k, j ≠ 4 + 4 * k + 2 ∧ j ≠ 4 + 4 * k + 3) → st1 j = st0 j := fun j hj => n2 j (fun k hk => by
          rcases hj with hj | hj
          · omega
          · exact hj k)
        obtain ⟨st2, f1, f2, f3⟩ := mid h hB (S := S) (tK := tK) (tB := tB) (lk' := lk') (lb' := lb') hSn hlk hlb hcK hcB a2 b2 b3 b4 (st1 := st1)
          ⟨by rw [hn 0 (Or.inl (by omega))]; exact r0.1, by rw [hn 1 (Or.inl (by omega))]; exact r0.2.1, by rw [hn 2 (Or.inl (by omega))]; exact r0.2.2.1, by rw [hn 3 (Or.inl (by omega))]; exact r0.2.2.2⟩
          (fun k hk => by
            obtain ⟨g0, g1, g2, g3⟩ := rK k hk
            rw [hn (4 + 4 * k) (Or.inr (fun k' => by omega)), hn (4 + 4 * k + 1) (Or.inr (fun k' => by omega)), b2 k (by omega), b3 k (by omega)]
            refine ⟨g0, g1, ?_⟩
            by_cases hb : bt S k = true
            · obtain ⟨u1, u2⟩ := n3 k ((hSi k (by omega)).mp hb)
              rw [if_pos hb, if_pos hb, u1, u2, g2]
              exact ⟨rfl, rfl⟩
            · have hnot : ¬ k ∈ up par p := fun q => hb ((hSi k (by omega)).mpr q)
              rw [if_neg hb, if_neg hb, n2 (4 + 4 * k + 2) (fun k' hk' => ⟨fun e => hnot ((show k' = k by omega) ▸ hk'), by omega⟩), n2 (4 + 4 * k + 3) (fun k' hk' => ⟨by omega, fun e => hnot ((show k' = k by omega) ▸ hk')⟩)]
              exact ⟨g2, g3⟩)
          (fun b hb => by
            have hup : ∀ k', k' ∈ up par p → k' < 20 := h20
            rw [n2 (84 + 2 * b) (fun k' hk' => by have := h20 k' hk'; omega), n2 (84 + 2 * b + 1) (fun k' hk' => by have := h20 k' hk'; omega)]
            exact rB b hb)
          (fun j hj => by
            rw [n2 j (fun k' hk' => by have := h20 k' hk'; omega)]
            exact rW j hj)
        refine ⟨st2, f2, fun w hw hs k hk hb => ((f3 w hw hs).2 k hk hb).2, ?_⟩
        unfold fX8_makesAboveAnew
        rw [n1, f1, Option.bind_some]
        rcases hp with rfl | ⟨j, hj, rfl⟩
        · rw [if_pos rfl, up_6]
          rfl
        · rw [if_neg (nI_ne6 (by omega)), rabove_eq t3 t1 (fun k hk => (f2.2.2.2.2.2.2.2.1 k hk).1) hj, Option.bind_some, up_k t3 t1 hj, List.length_cons, nI_m1]
      -- a row with the flags off, to have the class's side
      have base : RS0 (fun j => if j < 84 then (if 4 ≤ j ∧ j % 4 = 1 then (if bt (lk &&& (tK ^^^ (-1))) ((j - 4) / 4) = true then 1 else 0) else st j) else if j < 124 ∧ j % 2 = 1 then (if bt (lb &&& (tB ^^^ (-1))) ((j - 84) / 2) = true then 1 else 0) else st j) (nI m) (nI nk) (nI nb) (nI nw) := by
        refine ⟨?_, ?_, ?_, ?_⟩
        · exact s0
        · exact s1
        · exact s2
        · exact s3
      obtain ⟨stC, hRC, hfC, -⟩ := refside _ (lk &&& (tK ^^^ (-1))) (lb &&& (tB ^^^ (-1))) hlk0 hlb0 base
        (fun k hk => by
          obtain ⟨g0, g1, g2, g3⟩ := hK k hk
          rw [if_pos (show 4 + 4 * k < 84 by omega), if_neg (show ¬ (4 ≤ 4 + 4 * k ∧ (4 + 4 * k) % 4 = 1) by omega), if_pos (show 4 + 4 * k + 1 < 84 by omega), if_pos (show 4 ≤ 4 + 4 * k + 1 ∧ (4 + 4 * k + 1) % 4 = 1 by omega), if_pos (show 4 + 4 * k + 2 < 84 by omega), if_neg (show ¬ (4 ≤ 4 + 4 * k + 2 ∧ (4 + 4 * k + 2) % 4 = 1) by omega), if_pos (show 4 + 4 * k + 3 < 84 by omega), if_neg (show ¬ (4 ≤ 4 + 4 * k + 3 ∧ (4 + 4 * k + 3) % 4 = 1) by omega), show (4 + 4 * k + 1 - 4) / 4 = k by omega]
          exact ⟨g0, rfl, g2, g3⟩)
        (fun b hb => by
          obtain ⟨g0, g1⟩ := hBx b hb
          rw [if_neg (show ¬ 84 + 2 * b < 84 by omega), if_neg (show ¬ (84 + 2 * b < 124 ∧ (84 + 2 * b) % 2 = 1) by omega), if_neg (show ¬ 84 + 2 * b + 1 < 84 by omega), if_pos (show 84 + 2 * b + 1 < 124 ∧ (84 + 2 * b + 1) % 2 = 1 by omega), show (84 + 2 * b + 1 - 84) / 2 = b by omega]
          exact ⟨g0, rfl⟩)
        (fun j hj => by
          rw [if_neg (by omega), if_neg (by omega)])
      obtain ⟨nw', wea2, nu2, hek2, hew2, clo2, clm2, sta2, stX, z1, -, -⟩ := wrapping stC hRC hfC
      refine ⟨_, _, _, _, _, _, _, _, _, _, _, z1, Or.inr ⟨nI_pos (by omega), y2 hroom hall, ?_, fun st0 lk' lb' hlk hlb r0 rK rB rW => ?_⟩⟩
      · rcases hT with ⟨e1, e2⟩ | ⟨e1, e2⟩
        · exact e2
        · exact absurd hall e1
      · have elk : lk' = lk &&& (tK ^^^ (-1)) := b_ext (fun i hi => by rw [hlk i hi, hlk0 i hi])
        have elb : lb' = lb &&& (tB ^^^ (-1)) := b_ext (fun i hi => by rw [hlb i hi, hlb0 i hi])
        subst elk elb
        obtain ⟨st2, v1, v2, v3⟩ := refside st0 _ _ hlk hlb r0 rK rB rW
        obtain ⟨nw3, wea3, nu3, hek3, hew3, clo3, clm3, sta3, st3, x1, x2, x3⟩ := wrapping st2 v1 v2
        have heq := Option.some.inj (z1.symm.trans x1)
        simp only [Prod.mk.injEq] at heq
        obtain ⟨-, -, -, -, rfl, rfl, rfl, rfl, rfl, rfl, rfl⟩ := heq
        exact ⟨st3, v3.trans x2, nk, nb, nw3, x3⟩
    · rw [q2, Option.bind_some, if_pos rfl]
      exact ⟨_, _, _, _, _, _, _, _, _, _, _, rfl, Or.inl ⟨by decide, rfl, y3 hroom (fun q => q1 (hCiff.mpr q))⟩⟩
  · rw [if_neg hroom, if_pos rfl]
    exact ⟨_, _, _, _, _, _, _, _, _, _, _, rfl, Or.inl ⟨by decide, rfl, y1 hroom⟩⟩
end THROW
