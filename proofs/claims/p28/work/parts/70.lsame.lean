/-! the law asks everything: all is alike -/
section SAME
variable {B nk nb nw : Nat} {st qv kev bov wrv : Nat → Int32} {mw ke bo lk lb nu : Int32} {par mak wea kob hek hew clo clm sta : Nat → Int32}
def G1 (v : HV) (R : CRt) (z : Option (Int32 × (Nat → Int64) × CS)) : Prop := ∃ opv' o', z = some (1, opv', (v, o', R))
theorem low3 (x : Int32) : fb_ct (bt (x &&& 7)) 20 = (if bt (x &&& 7) 0 = true then 1 else 0) + (if bt (x &&& 7) 1 = true then 1 else 0) + (if bt (x &&& 7) 2 = true then 1 else 0) := by
  rw [ct_low (n := 3) (by omega) (fun i hi => by rw [b_and, b_7, decide_eq_false (by omega), Bool.and_false])]
  rw [fb_ct_succ, fb_ct_succ, fb_ct_succ]
  have : fb_ct (bt (x &&& 7)) 0 = 0 := rfl
  omega
theorem out_sum {x kf y c m i s : Int32} (hA : AC x kf y c m i (s &&& 7)) (acc : Nat) : nI acc + ((((x >>> ((19 : Int32) &&& 31)) &&& 1) + ((x >>> ((20 : Int32) &&& 31)) &&& 1)) + ((x >>> ((21 : Int32) &&& 31)) &&& 1)) = nI (acc + fb_ct (bt (s &&& 7)) 20) := by
  have e0 : (x >>> ((19 : Int32) &&& 31)) &&& 1 = if bt (s &&& 7) 0 = true then 1 else 0 := (AC_place hA (q := 0) (by omega)).trans (shr_1 (p := 0) (by omega) _)
  have e1 : (x >>> ((20 : Int32) &&& 31)) &&& 1 = if bt (s &&& 7) 1 = true then 1 else 0 := (AC_place hA (q := 1) (by omega)).trans (shr_1 (p := 1) (by omega) _)
  have e2 : (x >>> ((21 : Int32) &&& 31)) &&& 1 = if bt (s &&& 7) 2 = true then 1 else 0 := (AC_place hA (q := 2) (by omega)).trans (shr_1 (p := 2) (by omega) _)
  rw [e0, e1, e2, low3, ← Int32.add_assoc, ← Int32.add_assoc, nI_b, nI_b, nI_b]
  congr 1
  omega
theorem same_881 (h : Rel B nk nb nw st mw ke bo lk lb par mak wea kob nu hek hew clo clm sta) (hL : LSt st nk nb nw qv kev bov wrv) (opv : Nat → Int64) (o : (Nat → Int32) × (Nat → Int32)) (R : CRt) {y8 : Int32} (h8 : ∀ j, j < 32 → bt y8 j = (decide (j < nk) && decide (mw ≤ wea j) && bt lk j)) :
    G1 (mw, ke, bo, lk, lb, par, mak, wea, kob, nu, hek, hew, clo, clm, sta) R (fL_same_b881 qv kev bov wrv opv ((mw, ke, bo, lk, lb, par, mak, wea, kob, nu, hek, hew, clo, clm, sta), o, R) (nI (fb_ct (bt lk) nk)) y8 (nI (fb_sm (fun i => if bt (sta i) 3 = true then 1 else 0) nw)) (nI (fb_sm (fun i => fb_ct (bt (sta i &&& 7)) 20) nw)) (nI (fb_ct (bt lb) nb))) := by
  obtain ⟨⟨⟨a0, a1, a2, a3⟩, ⟨b1, b2, b3⟩, n1, n2, n3⟩, hLK, hZ, hLB, hLW⟩ := hL
  have s0 := h.2.2.2.2.2.2.1.1
  unfold fL_same_b881
  rw [r_count0 h, Option.bind_some, if_neg q1i, cl1, a1, if_pos rfl]
  dsimp only
  rw [r_count1 h, Option.bind_some, if_pos rfl]
  dsimp only
  rw [r_count2 h, Option.bind_some, if_neg q2i, cl2, a2, if_pos rfl]
  dsimp only
  rw [r_count3 h, Option.bind_some, if_pos rfl]
  dsimp only
  rw [r_count4 h, Option.bind_some, if_neg q3i, cl3, a3, if_pos rfl]
  dsimp only
  rw [r_count5 h, Option.bind_some, if_pos rfl]
  dsimp only
  rw [r_count6 h, Option.bind_some, if_pos rfl]
  dsimp only
  rw [r_count7 h, Option.bind_some, if_neg q0i, cl0, a0, s0, if_pos rfl]
  dsimp only
  rw [r_count8 h h8, Option.bind_some, if_pos rfl]
  exact ⟨_, _, rfl⟩
theorem same_708 (h : Rel B nk nb nw st mw ke bo lk lb par mak wea kob nu hek hew clo clm sta) (hL : LSt st nk nb nw qv kev bov wrv) (opv : Nat → Int64) (o : (Nat → Int32) × (Nat → Int32)) (R : CRt) {y8 : Int32} (h8 : ∀ j, j < 32 → bt y8 j = (decide (j < nk) && decide (mw ≤ wea j) && bt lk j)) : ∀ fuel i, i ≤ nw → nw < i + fuel →
    G1 (mw, ke, bo, lk, lb, par, mak, wea, kob, nu, hek, hew, clo, clm, sta) R (fL_same_b708 fuel qv kev bov wrv opv ((mw, ke, bo, lk, lb, par, mak, wea, kob, nu, hek, hew, clo, clm, sta), o, R) (nI (fb_ct (bt lk) nk)) y8 (nI (fb_sm (fun i => if bt (sta i) 3 = true then 1 else 0) i)) (nI (fb_sm (fun i => fb_ct (bt (sta i &&& 7)) 20) i)) (nI (fb_ct (bt lb) nb)) (nI i)) := by
  have hC := LWc_of hL.2.2.2.2 h.2.2.2.2.2.2.2.2.2
  have hW := h.2.2.2.1
  obtain ⟨⟨⟨a0, a1, a2, a3⟩, ⟨b1, b2, b3⟩, n1, n2, n3⟩, -⟩ := id hL
  intro fuel
  induction fuel with
  | zero => intro i h1 h2; omega
  | succ fuel ih =>
    intro i h1 h2
    rw [fL_same_b708, if_neg q3i, cl3, a3]
    by_cases hi : i < nw
    · have hA := hC i hi
      have hA5 : (wrv i >>> ((18 : Int32) &&& 31)) &&& 1 = if bt (sta i) 3 = true then 1 else 0 := hA.2.2.2.2.1
      have hA6 : (wrv i >>> ((19 : Int32) &&& 31)) &&& 7 = sta i &&& 7 := hA.2.2.2.2.2
      have s1 : nI (fb_sm (fun i => if bt (sta i) 3 = true then 1 else 0) i) + ((wrv i >>> ((18 : Int32) &&& 31)) &&& 1) = nI (fb_sm (fun i => if bt (sta i) 3 = true then 1 else 0) (i + 1)) := by
        rw [hA5, nI_b, fb_sm_succ]
      have s2 := out_sum hA (fb_sm (fun i => fb_ct (bt (sta i &&& 7)) 20) i)
      have s3 : fb_sm (fun i => fb_ct (bt (sta i &&& 7)) 20) (i + 1) = fb_sm (fun i => fb_ct (bt (sta i &&& 7)) 20) i + fb_ct (bt (sta i &&& 7)) 20 := fb_sm_succ _ _
      have hin : ¬ (nI i < 0 ∨ 64 ≤ (nI i).toNatClampNeg) := nI_in (by omega) (by omega)
      have go := ih (i + 1) hi (by omega)
      rw [s3, ← s2, ← s1] at go
      have fin : G1 (mw, ke, bo, lk, lb, par, mak, wea, kob, nu, hek, hew, clo, clm, sta) R (fL_same_b790 (fL_same_b708 fuel) qv kev bov wrv opv ((mw, ke, bo, lk, lb, par, mak, wea, kob, nu, hek, hew, clo, clm, sta), o, R) (nI (fb_ct (bt lk) nk)) y8 (nI (fb_sm (fun i => if bt (sta i) 3 = true then 1 else 0) i) + ((wrv i >>> ((18 : Int32) &&& 31)) &&& 1)) (nI (fb_sm (fun i => fb_ct (bt (sta i &&& 7)) 20) i) + ((((wrv i >>> ((19 : Int32) &&& 31)) &&& 1) + ((wrv i >>> ((20 : Int32) &&& 31)) &&& 1)) + ((wrv i >>> ((21 : Int32) &&& 31)) &&& 1))) (nI (fb_ct (bt lb) nb)) (nI i) (wrv i) (hek i) (hek i)) := by
        unfold fL_same_b790
        rw [if_pos rfl, r_wrap1 h hi, Option.bind_some, hA.2.1, if_pos rfl]
        dsimp only
        rw [r_wrap2 h hi, Option.bind_some, hA.2.2.1, if_pos rfl]
        dsimp only
        rw [r_wrap3 h hi, Option.bind_some, hA.2.2.2.1, if_pos rfl]
        dsimp only
        rw [r_wrap4 h hi, Option.bind_some, if_pos hA5.symm]
        dsimp only
        rw [r_wrap5 h hi, Option.bind_some, if_pos hA6.symm, nI_1 i]
        exact go
      rw [if_neg (nI_ge hi (by omega))]
      unfold fL_same_b716
      rw [if_neg hin, r_wrap0 h hi, Option.bind_some, nI_clamp (by omega), hA.1]
      dsimp only
      rcases (hW i hi).1 with ⟨p1, b, p2, p3, -⟩ | ⟨k, jj, p1, p2, p3, -⟩
      · rw [if_pos (by rw [p1, pk7_6])]
        rw [p1] at fin ⊢
        exact fin
      · have h6 : ¬ hek i = -6 := by rw [p3]; exact nI_ne6 (by omega)
        rw [if_neg (fun q => h6 ((pk7_7 (Or.inr ⟨k, by omega, p3⟩)).mp q)), show pk7 (hek i) = hek i from if_neg h6]
        exact fin
    · have hin : i = nw := by omega
      subst hin
      rw [if_pos (nI_le (Nat.le_refl _) (by omega))]
      exact same_881 h hL opv o R h8
theorem same_639 (h : Rel B nk nb nw st mw ke bo lk lb par mak wea kob nu hek hew clo clm sta) (hL : LSt st nk nb nw qv kev bov wrv) (opv : Nat → Int64) (o : (Nat → Int32) × (Nat → Int32)) (R : CRt) {y8 : Int32} (h8 : ∀ j, j < 32 → bt y8 j = (decide (j < nk) && decide (mw ≤ wea j) && bt lk j)) : ∀ fuel i, i ≤ nb → nb < i + fuel →
    G1 (mw, ke, bo, lk, lb, par, mak, wea, kob, nu, hek, hew, clo, clm, sta) R (fL_same_b639 fuel qv kev bov wrv opv ((mw, ke, bo, lk, lb, par, mak, wea, kob, nu, hek, hew, clo, clm, sta), o, R) (nI (fb_ct (bt lk) nk)) y8 0 0 (nI (fb_ct (bt lb) i)) (nI i)) := by
  have hBx := h.2.2.2.2.2.2.2.2.1
  obtain ⟨⟨⟨a0, a1, a2, a3⟩, ⟨b1, b2, b3⟩, n1, n2, n3⟩, -, -, hLB, -⟩ := id hL
  intro fuel
  induction fuel with
  | zero => intro i h1 h2; omega
  | succ fuel ih =>
    intro i h1 h2
    rw [fL_same_b639, if_neg q2i, cl2, a2]
    by_cases hi : i < nb
    · obtain ⟨l0, l1⟩ := hLB i hi
      obtain ⟨r0, r1⟩ := hBx i hi
      have go := ih (i + 1) hi (by omega)
      rw [fb_ct_succ, ← nI_b] at go
      rw [if_neg (nI_ge hi (by omega)), r_ofBox0 h hi, Option.bind_some, i2, i2p1, if_neg (nI_in (by omega) (by omega)), nI_clamp (by omega), l0, r0, if_pos rfl]
      dsimp only
      rw [r_ofBox1 h hi, Option.bind_some, if_neg (nI_in (by omega) (by omega)), nI_clamp (by omega), l1, r1, if_pos rfl, if_neg (show ¬ (nI (2 * i + 1) < 0 ∨ 12 ≤ 2 * i + 1) from fun q => q.elim (nI_pos (by omega)) (fun q => by omega)), nI_1 i]
      exact go
    · have hin : i = nb := by omega
      subst hin
      rw [if_pos (nI_le (Nat.le_refl _) (by omega))]
      unfold fL_same_b705
      exact same_708 h hL opv o R h8 6000 0 (Nat.zero_le _) (by omega)
theorem same_533 (h : Rel B nk nb nw st mw ke bo lk lb par mak wea kob nu hek hew clo clm sta) (hL : LSt st nk nb nw qv kev bov wrv) (R : CRt) {y8 : Int32} (h8 : ∀ j, j < 32 → bt y8 j = (decide (j < nk) && decide (mw ≤ wea j) && bt lk j)) (y1 : Int32) : ∀ fuel p (opv : Nat → Int64) (o : (Nat → Int32) × (Nat → Int32)), p < 16 → 16 < p + fuel →
    G1 (mw, ke, bo, lk, lb, par, mak, wea, kob, nu, hek, hew, clo, clm, sta) R (fL_same_b533 fuel qv kev bov wrv opv ((mw, ke, bo, lk, lb, par, mak, wea, kob, nu, hek, hew, clo, clm, sta), o, R) y1 (nI (fb_ct (bt lk) nk)) y8 0 0 (nI p)) := by
  have hC := LWc_of hL.2.2.2.2 h.2.2.2.2.2.2.2.2.2
  have hW := h.2.2.2.1
  have hP := h.2.1.2.2.1
  have hK3 := RK3_of h.2.2.2.2.2.2.2.1
  obtain ⟨⟨⟨a0, a1, a2, a3⟩, ⟨b1, b2, b3⟩, n1, n2, n3⟩, -⟩ := id hL
  intro fuel
  induction fuel with
  | zero => intro p opv o h1 h2; omega
  | succ fuel ih =>
    intro p opv o h1 h2
    rw [fL_same_b533]
    by_cases hp : p < 8
    · obtain ⟨oF, f1, f2⟩ := openL_eq (y2 := -6) (rt := -1) hL hK3 hP hC (Or.inl ⟨rfl, rfl⟩) hW hp opv 0
      obtain ⟨m, g1, g2⟩ := boxesL_eq hL hC hW oF
      obtain ⟨r, hr, er⟩ := low_eq y1 (n := 3) (by omega) (by omega)
      have er' : fL_low y1 3 = some (nI r) := er
      have enx : nI p + (1 + nI r) = nI (p + (1 + r)) := by
        rw [show (1 : Int32) + nI r = nI (1 + r) from nI_add 1 r, nI_add]
      have next : ∀ o, G1 (mw, ke, bo, lk, lb, par, mak, wea, kob, nu, hek, hew, clo, clm, sta) R (fL_same_b600 (fL_same_b533 fuel) qv kev bov wrv oF ((mw, ke, bo, lk, lb, par, mak, wea, kob, nu, hek, hew, clo, clm, sta), o, R) y1 (nI (fb_ct (bt lk) nk)) y8 0 0 (nI p) m) := fun o => by
        unfold fL_same_b600
        by_cases h0 : p = 0
        · subst h0
          obtain ⟨o', e'⟩ := r_count9 h (ob_bin nw oF) f2 g2 o R
          rw [if_pos (show nI 0 = 0 from rfl), e', Option.bind_some, if_pos rfl, er', Option.bind_some, enx]
          exact ih _ oF o' (by omega) (by omega)
        · rw [if_neg (nI_ne0 (by omega) (by omega)), er', Option.bind_some, enx]
          exact ih _ oF o (by omega) (by omega)
      have loop : ∀ f i o, i ≤ nb → nb < i + f → G1 (mw, ke, bo, lk, lb, par, mak, wea, kob, nu, hek, hew, clo, clm, sta) R (fL_same_b566 (fL_same_b533 fuel) f qv kev bov wrv oF ((mw, ke, bo, lk, lb, par, mak, wea, kob, nu, hek, hew, clo, clm, sta), o, R) y1 (nI (fb_ct (bt lk) nk)) y8 0 0 (nI p) m (nI i)) := by
        intro f
        induction f with
        | zero => intro i o h1 h2; omega
        | succ f ihf =>
          intro i o h1 h2
          rw [fL_same_b566, if_neg q2i, cl2, a2]
          by_cases hi : i < nb
          · obtain ⟨o', e'⟩ := r_canOpen h hi hp (ob_bin nw oF) f2 g2 o R
            rw [if_neg (nI_ge hi (by omega)), e', Option.bind_some, if_pos rfl, nI_1 i]
            exact ihf (i + 1) o' hi (by omega)
          · have hin : i = nb := by omega
            rw [hin, if_pos (nI_le (Nat.le_refl _) (by omega))]
            exact next o
      rw [if_neg (show ¬ (8 : Int32) ≤ nI p from nI_ge (b := 8) hp (by omega)), f1, Option.bind_some, g1, Option.bind_some]
      exact loop 6000 0 o (Nat.zero_le _) (by omega)
    · rw [if_pos (show (8 : Int32) ≤ nI p from nI_le (a := 8) (by omega) (by omega))]
      unfold fL_same_b633
      exact same_639 h hL opv o R h8 6000 0 (Nat.zero_le _) (by omega)
theorem ho0 {x z : Int32} (h : x = z) : (if x = z then (1 : Int32) else 0) = 1 := if_pos h
/-- one key -/
theorem same_390 (h : Rel B nk nb nw st mw ke bo lk lb par mak wea kob nu hek hew clo clm sta) (hL : LSt st nk nb nw qv kev bov wrv) (hM : ∀ k, k < nk → ∃ m, m < 64 ∧ mak k = nI m) (R : CRt) (k15 : (Nat → Int32) → (Nat → Int32) → (Nat → Int32) → (Nat → Int32) → (Nat → Int64) → CS → Int32 → Int32 → Int32 → Int32 → Int32 → Int32 → Option (Int32 × (Nat → Int64) × CS)) (y1 y7 y8 : Int32) {i : Nat} (hi : i < nk) (hk : ∀ opv o, G1 (mw, ke, bo, lk, lb, par, mak, wea, kob, nu, hek, hew, clo, clm, sta) R (k15 qv kev bov wrv opv ((mw, ke, bo, lk, lb, par, mak, wea, kob, nu, hek, hew, clo, clm, sta), o, R) y1 y7 y8 0 0 (nI (i + 1)))) (opv : Nat → Int64) (o : (Nat → Int32) × (Nat → Int32)) :
    G1 (mw, ke, bo, lk, lb, par, mak, wea, kob, nu, hek, hew, clo, clm, sta) R (fL_same_b390 k15 qv kev bov wrv opv ((mw, ke, bo, lk, lb, par, mak, wea, kob, nu, hek, hew, clo, clm, sta), o, R) y1 y7 y8 0 0 (nI i)) := by
  have hC := LWc_of hL.2.2.2.2 h.2.2.2.2.2.2.2.2.2
  have hW := h.2.2.2.1
  have hP := h.2.1.2.2.1
  have hKK := h.2.2.2.2.2.2.2.1
  have hK3 := RK3_of hKK
  obtain ⟨⟨⟨a0, a1, a2, a3⟩, ⟨b1, b2, b3⟩, n1, n2, n3⟩, hLK, -⟩ := id hL
  obtain ⟨l0, l1, l2, l3⟩ := hLK i hi
  obtain ⟨r0, r1, r2, r3⟩ := hKK i hi
  obtain ⟨m, hm, em⟩ := hM i hi
  obtain ⟨y, hy, ey⟩ := low_eq (y1 >>> (nI i &&& 31)) (n := m + 2) (by omega) (by omega)
  obtain ⟨p, hp, ep⟩ := low_eq (y1 >>> ((3 + nI i) &&& 31)) (n := 8) (by omega) (by omega)
  have ep' : fL_low (y1 >>> ((3 + nI i) &&& 31)) 8 = some (nI p) := ep
  have em2 : nI m + 2 = nI (m + 2) := nI_add m 2
  obtain ⟨oF, f1, f2⟩ := openL_eq (y2 := -6) (rt := -1) hL hK3 hP hC (Or.inl ⟨rfl, rfl⟩) hW hp opv 0
  obtain ⟨oG, g1, g2⟩ := openL_eq (y2 := nI i) (rt := nI i) hL hK3 hP hC (Or.inr ⟨i, hi, rfl, rfl⟩) hW hp oF (nI y)
  obtain ⟨s, u1, u2⟩ := boxesL_eq hL hC hW oG
  have last : ∀ o z, G1 (mw, ke, bo, lk, lb, par, mak, wea, kob, nu, hek, hew, clo, clm, sta) R (fL_same_b468 k15 qv kev bov wrv oF ((mw, ke, bo, lk, lb, par, mak, wea, kob, nu, hek, hew, clo, clm, sta), o, R) y1 y7 y8 0 0 (nI i) (nI y) (nI p) z z) := fun o z => by
    unfold fL_same_b468
    rw [if_pos rfl, g1, Option.bind_some]
    by_cases hr : par i = -6
    · obtain ⟨o', e'⟩ := r_leaks h hi hr hp (by omega : y < 2 ^ 31) (ob_bin nw oG) g2 u2 o R
      rw [e', Option.bind_some, i4, if_neg (nI_in (by omega) (by omega)), nI_clamp (by omega), l0, r0, hr, pm_6, if_neg (show ¬ (0 : Int32) ≤ -1 by decide), u1, Option.bind_some, if_pos rfl, nI_1 i]
      exact hk oG o'
    · obtain ⟨j, hj, ej⟩ := (hP i hi).resolve_left hr
      rw [r_leaksN h hi hr, Option.bind_some, i4, if_neg (nI_in (by omega) (by omega)), nI_clamp (by omega), l0, r0, ej, pm_nI (by omega), if_pos (nI_pos' (by omega)), if_pos rfl, nI_1 i]
      exact hk oG o
  unfold fL_same_b390
  rw [i4, i4p2, if_neg (nI_in (by omega) (by omega)), nI_clamp (by omega), l2, r2, em, em2, ey, Option.bind_some, ep', Option.bind_some, f1, Option.bind_some]
  obtain ⟨c1, c2⟩ := r_canHave h hi hp (by omega : y < 2 ^ 31) (ob_bin nw oF) f2 o R
  rcases hadL (y3 := 0) hL hK3 hP hC (Or.inl ⟨rfl, rfl⟩ : RT nk (-1) (-6)) oF hi (nI y) with ⟨z1, z2⟩ | ⟨z1, z2⟩
  · obtain ⟨o', e'⟩ := c1 z1
    rw [e', Option.bind_some, z2, Option.bind_some, if_neg n10]
    exact last o' 1
  · obtain ⟨o', e'⟩ := c2 z1
    rw [e', Option.bind_some, z2, Option.bind_some, if_pos rfl]
    exact last o' 0
theorem same_305 (h : Rel B nk nb nw st mw ke bo lk lb par mak wea kob nu hek hew clo clm sta) (hL : LSt st nk nb nw qv kev bov wrv) (hM : ∀ k, k < nk → ∃ m, m < 64 ∧ mak k = nI m) (R : CRt) (k15 : (Nat → Int32) → (Nat → Int32) → (Nat → Int32) → (Nat → Int32) → (Nat → Int64) → CS → Int32 → Int32 → Int32 → Int32 → Int32 → Int32 → Option (Int32 × (Nat → Int64) × CS)) (y1 y7 y8 : Int32) {i : Nat} (hi : i < nk) (hk : ∀ opv o, G1 (mw, ke, bo, lk, lb, par, mak, wea, kob, nu, hek, hew, clo, clm, sta) R (k15 qv kev bov wrv opv ((mw, ke, bo, lk, lb, par, mak, wea, kob, nu, hek, hew, clo, clm, sta), o, R) y1 y7 y8 0 0 (nI (i + 1)))) (opv : Nat → Int64) (o : (Nat → Int32) × (Nat → Int32)) :
    G1 (mw, ke, bo, lk, lb, par, mak, wea, kob, nu, hek, hew, clo, clm, sta) R (fL_same_b305 k15 6000 qv kev bov wrv opv ((mw, ke, bo, lk, lb, par, mak, wea, kob, nu, hek, hew, clo, clm, sta), o, R) y1 y7 y8 0 0 (nI i) 0 0) := by
  have hP := h.2.1.2.2.1
  have hKB := h.2.1.2.2.2.1
  have hKK := h.2.2.2.2.2.2.2.1
  have hBx := h.2.2.2.2.2.2.2.2.1
  obtain ⟨⟨⟨a0, a1, a2, a3⟩, ⟨b1, b2, b3⟩, n1, n2, n3⟩, hLK, -, hLB, -⟩ := id hL
  obtain ⟨l0, l1, l2, l3⟩ := hLK i hi
  obtain ⟨r0, r1, r2, r3⟩ := hKK i hi
  obtain ⟨m, e1, e2⟩ := mask_loop (n := nb) (fun fuel acc j => fL_same_b305 k15 fuel qv kev bov wrv opv ((mw, ke, bo, lk, lb, par, mak, wea, kob, nu, hek, hew, clo, clm, sta), o, R) y1 y7 y8 0 0 (nI i) acc (nI j)) (fun acc => fL_same_b361 k15 qv kev bov wrv opv ((mw, ke, bo, lk, lb, par, mak, wea, kob, nu, hek, hew, clo, clm, sta), o, R) y1 y7 y8 0 0 (nI i) acc) (fun j => decide (i ∈ up par (kob j)) && bt lb j)
    (fun fuel acc => by
      show fL_same_b305 _ _ _ _ _ _ _ _ _ _ _ _ _ _ _ _ = _
      rw [fL_same_b305, if_neg q2i, cl2, a2, if_pos (nI_le (Nat.le_refl _) (by omega))])
    (fun fuel acc j hj => by
      show ∃ acc', _ ∧ fL_same_b305 _ _ _ _ _ _ _ _ _ _ _ _ _ _ _ _ = _
      obtain ⟨k0, k1⟩ := hLB j hj
      obtain ⟨x0, x1⟩ := hBx j hj
      obtain ⟨c, hc, ec⟩ := hKB j hj
      have hu := under_eqL hLK n1 hP (fun k hk => (hKK k hk).1) hi (p := kob j) (Or.inr ⟨c, hc, ec⟩)
      rw [ec, pm_nI (by omega), ← ec] at hu
      rw [fL_same_b305, if_neg q2i, cl2, a2, if_neg (nI_ge hj (by omega)), i2, i2p1, if_neg (nI_in (by omega) (by omega)), if_neg (nI_in (by omega) (by omega)), nI_clamp (by omega), nI_clamp (by omega), k0, k1, x0, x1, nI_1 j]
      by_cases hl : bt lb j = true
      · rw [if_pos (bit1_eq.mpr hl), hu, Option.bind_some]
        by_cases hm : i ∈ up par (kob j)
        · rw [if_pos hm, if_neg n10]
          exact ⟨_, acc_sh (by omega) (by simp [hm, hl]), rfl⟩
        · rw [if_neg hm, if_pos rfl]
          exact ⟨_, acc_or0 (by simp [hm]), rfl⟩
      · rw [if_neg (fun q => hl (bit1_eq.mp q))]
        exact ⟨_, acc_or0 (by simp [hl]), rfl⟩) 6000 0 0 (by omega) (by omega)
  have e1' : fL_same_b305 k15 6000 qv kev bov wrv opv ((mw, ke, bo, lk, lb, par, mak, wea, kob, nu, hek, hew, clo, clm, sta), o, R) y1 y7 y8 0 0 (nI i) 0 0 = fL_same_b361 k15 qv kev bov wrv opv ((mw, ke, bo, lk, lb, par, mak, wea, kob, nu, hek, hew, clo, clm, sta), o, R) y1 y7 y8 0 0 (nI i) m := e1
  rw [e1']
  unfold fL_same_b361
  rw [r_lost h hi (m := m) (fun j hj => by rw [e2 j hj, b_0]; simp [Bool.and_assoc]), Option.bind_some, i4, i4p1, if_neg (nI_in (by omega) (by omega)), nI_clamp (by omega), l1, r1]
  dsimp only
  have go := same_390 h hL hM R k15 y1 y7 y8 hi hk opv o
  by_cases hl : bt lk i = true
  · rw [if_pos (bit1_eq.mpr hl), if_pos hl]
    unfold fL_same_b385
    rw [if_pos rfl]
    exact go
  · rw [if_neg (fun q => hl (bit1_eq.mp q)), if_neg hl]
    unfold fL_same_b385
    rw [if_pos rfl]
    exact go
theorem same_15 (h : Rel B nk nb nw st mw ke bo lk lb par mak wea kob nu hek hew clo clm sta) (hL : LSt st nk nb nw qv kev bov wrv) (hM : ∀ k, k < nk → ∃ m, m < 64 ∧ mak k = nI m) (R : CRt) (y1 : Int32) : ∀ fuel i (opv : Nat → Int64) (o : (Nat → Int32) × (Nat → Int32)) (y8 : Int32), i ≤ nk → nk < i + fuel → (∀ j, j < 32 → bt y8 j = (decide (j < i) && decide (mw ≤ wea j) && bt lk j)) →
    G1 (mw, ke, bo, lk, lb, par, mak, wea, kob, nu, hek, hew, clo, clm, sta) R (fL_same_b15 fuel qv kev bov wrv opv ((mw, ke, bo, lk, lb, par, mak, wea, kob, nu, hek, hew, clo, clm, sta), o, R) y1 (nI (fb_ct (bt lk) i)) y8 0 0 (nI i)) := by
  have hP := h.2.1.2.2.1
  have hKK := h.2.2.2.2.2.2.2.1
  have hBx := h.2.2.2.2.2.2.2.2.1
  have s0 := h.2.2.2.2.2.2.1.1
  obtain ⟨⟨⟨a0, a1, a2, a3⟩, ⟨b1, b2, b3⟩, n1, n2, n3⟩, hLK, -, hLB, -⟩ := id hL
  obtain ⟨mm, mm1, mm2, emw⟩ := h.2.2.1.2.1
  intro fuel
  induction fuel with
  | zero => intro i opv o y8 h1 h2; omega
  | succ fuel ih =>
    intro i opv o y8 h1 h2 h8
    rw [fL_same_b15, if_neg q1i, cl1, a1]
    by_cases hi : i < nk
    · obtain ⟨l0, l1, l2, l3⟩ := hLK i hi
      obtain ⟨r0, r1, r2, r3⟩ := hKK i hi
      rw [if_neg (nI_ge hi (by omega))]
      -- the sets of what hangs from it
      obtain ⟨m12, e1, e2⟩ := mask_loop (n := nk) (fun f acc j => fL_same_b32 (fL_same_b15 fuel) f qv kev bov wrv opv ((mw, ke, bo, lk, lb, par, mak, wea, kob, nu, hek, hew, clo, clm, sta), o, R) y1 (nI (fb_ct (bt lk) i)) y8 0 0 (nI i) acc 0 (nI j)) (fun acc => fL_same_b85 (fL_same_b15 fuel) 6000 qv kev bov wrv opv ((mw, ke, bo, lk, lb, par, mak, wea, kob, nu, hek, hew, clo, clm, sta), o, R) y1 (nI (fb_ct (bt lk) i)) y8 0 0 (nI i) acc 0 0) (fun j => decide (par j = nI i) && bt lk j)
        (fun f acc => by
          show fL_same_b32 _ _ _ _ _ _ _ _ _ _ _ _ _ _ _ _ _ = _
          rw [fL_same_b32, if_neg q1i, cl1, a1, if_pos (nI_le (Nat.le_refl _) (by omega))])
        (fun f acc j hj => by
          show ∃ acc', _ ∧ fL_same_b32 _ _ _ _ _ _ _ _ _ _ _ _ _ _ _ _ _ = _
          obtain ⟨k0, k1, -⟩ := hLK j hj
          obtain ⟨x0, x1, -⟩ := hKK j hj
          rw [fL_same_b32, if_neg q1i, cl1, a1, if_neg (nI_ge hj (by omega)), i4, i4p1, if_neg (nI_in (by omega) (by omega)), if_neg (nI_in (by omega) (by omega)), nI_clamp (by omega), nI_clamp (by omega), k0, k1, x0, x1, nI_1 j]
          by_cases hp : par j = nI i
          · rw [if_pos ((pm_eq (by omega)).mpr hp)]
            by_cases hl : bt lk j = true
            · rw [if_pos (bit1_eq.mpr hl)]
              exact ⟨_, acc_sh (by omega) (by simp [hp, hl]), rfl⟩
            · rw [if_neg (fun q => hl (bit1_eq.mp q))]
              exact ⟨_, acc_or0 (by simp [hl]), rfl⟩
          · rw [if_neg (fun q => hp ((pm_eq (by omega)).mp q))]
            exact ⟨_, acc_or0 (by simp [hp]), rfl⟩) 6000 0 0 (by omega) (by omega)
      obtain ⟨m13, e3, e4⟩ := mask_loop (n := nb) (fun f acc j => fL_same_b85 (fL_same_b15 fuel) f qv kev bov wrv opv ((mw, ke, bo, lk, lb, par, mak, wea, kob, nu, hek, hew, clo, clm, sta), o, R) y1 (nI (fb_ct (bt lk) i)) y8 0 0 (nI i) m12 acc (nI j)) (fun acc => fL_same_b137 (fL_same_b15 fuel) qv kev bov wrv opv ((mw, ke, bo, lk, lb, par, mak, wea, kob, nu, hek, hew, clo, clm, sta), o, R) y1 (nI (fb_ct (bt lk) i)) y8 0 0 (nI i) m12 acc) (fun j => decide (kob j = nI i) && bt lb j)
        (fun f acc => by
          show fL_same_b85 _ _ _ _ _ _ _ _ _ _ _ _ _ _ _ _ _ = _
          rw [fL_same_b85, if_neg q2i, cl2, a2, if_pos (nI_le (Nat.le_refl _) (by omega))])
        (fun f acc j hj => by
          show ∃ acc', _ ∧ fL_same_b85 _ _ _ _ _ _ _ _ _ _ _ _ _ _ _ _ _ = _
          obtain ⟨k0, k1⟩ := hLB j hj
          obtain ⟨x0, x1⟩ := hBx j hj
          rw [fL_same_b85, if_neg q2i, cl2, a2, if_neg (nI_ge hj (by omega)), i2, i2p1, if_neg (nI_in (by omega) (by omega)), if_neg (nI_in (by omega) (by omega)), nI_clamp (by omega), nI_clamp (by omega), k0, k1, x0, x1, nI_1 j]
          by_cases hp : kob j = nI i
          · rw [if_pos hp]
            by_cases hl : bt lb j = true
            · rw [if_pos (bit1_eq.mpr hl)]
              exact ⟨_, acc_sh (by omega) (by simp [hp, hl]), rfl⟩
            · rw [if_neg (fun q => hl (bit1_eq.mp q))]
              exact ⟨_, acc_or0 (by simp [hl]), rfl⟩
          · rw [if_neg hp]
            exact ⟨_, acc_or0 (by simp [hp]), rfl⟩) 6000 0 0 (by omega) (by omega)
      have e1' : fL_same_b32 (fL_same_b15 fuel) 6000 qv kev bov wrv opv ((mw, ke, bo, lk, lb, par, mak, wea, kob, nu, hek, hew, clo, clm, sta), o, R) y1 (nI (fb_ct (bt lk) i)) y8 0 0 (nI i) 0 0 0 = fL_same_b85 (fL_same_b15 fuel) 6000 qv kev bov wrv opv ((mw, ke, bo, lk, lb, par, mak, wea, kob, nu, hek, hew, clo, clm, sta), o, R) y1 (nI (fb_ct (bt lk) i)) y8 0 0 (nI i) m12 0 0 := e1
      have e3' : fL_same_b85 (fL_same_b15 fuel) 6000 qv kev bov wrv opv ((mw, ke, bo, lk, lb, par, mak, wea, kob, nu, hek, hew, clo, clm, sta), o, R) y1 (nI (fb_ct (bt lk) i)) y8 0 0 (nI i) m12 0 0 = fL_same_b137 (fL_same_b15 fuel) qv kev bov wrv opv ((mw, ke, bo, lk, lb, par, mak, wea, kob, nu, hek, hew, clo, clm, sta), o, R) y1 (nI (fb_ct (bt lk) i)) y8 0 0 (nI i) m12 m13 := e3
      rw [e1', e3']
      have hm12 : ∀ j, j < 32 → bt m12 j = (decide (j < nk) && decide (par j = nI i) && bt lk j) := fun j hj => by rw [e2 j hj, b_0]; simp [Bool.and_assoc]
      have hm13 : ∀ j, j < 32 → bt m13 j = (decide (j < nb) && decide (kob j = nI i) && bt lb j) := fun j hj => by rw [e4 j hj, b_0]; simp [Bool.and_assoc]
      -- the counts go on
      have hct : nI (fb_ct (bt lk) i) + (if bt lk i = true then 1 else 0) = nI (fb_ct (bt lk) (i + 1)) := by rw [nI_b, fb_ct_succ]
      have g247 : G1 (mw, ke, bo, lk, lb, par, mak, wea, kob, nu, hek, hew, clo, clm, sta) R (fL_same_b247 (fL_same_b15 fuel) qv kev bov wrv opv ((mw, ke, bo, lk, lb, par, mak, wea, kob, nu, hek, hew, clo, clm, sta), o, R) y1 (nI (fb_ct (bt lk) i)) y8 0 0 (nI i)) := by
        have st305 : ∀ y8', (∀ j, j < 32 → bt y8' j = (decide (j < i + 1) && decide (mw ≤ wea j) && bt lk j)) → G1 (mw, ke, bo, lk, lb, par, mak, wea, kob, nu, hek, hew, clo, clm, sta) R (fL_same_b305 (fL_same_b15 fuel) 6000 qv kev bov wrv opv ((mw, ke, bo, lk, lb, par, mak, wea, kob, nu, hek, hew, clo, clm, sta), o, R) y1 (nI (fb_ct (bt lk) (i + 1))) y8' 0 0 (nI i) 0 0) := fun y8' h8' =>
          same_305 h hL hM R (fL_same_b15 fuel) y1 _ y8' hi (fun opv o => ih (i + 1) opv o y8' hi (by omega) h8') opv o
        have skip : ¬ (mw ≤ wea i ∧ bt lk i = true) → ∀ j, j < 32 → bt (y8 ||| 0) j = (decide (j < i + 1) && decide (mw ≤ wea j) && bt lk j) := fun hn j hj => by
          rw [b_or, b_0, Bool.or_false, h8 j hj]
          by_cases hji : j = i
          · subst hji
            rw [decide_eq_false (Nat.lt_irrefl j), decide_eq_true (Nat.lt_succ_self j)]
            rcases Bool.eq_false_or_eq_true (bt lk j) with q | q
            · have : ¬ mw ≤ wea j := fun z => hn ⟨z, q⟩
              simp [this]
            · simp [q]
          · have : (j < i + 1) ↔ (j < i) := by omega
            simp [this]
        unfold fL_same_b247
        rw [i4, i4p1, i4p3, if_neg (nI_in (by omega) (by omega)), if_neg (nI_in (by omega) (by omega)), if_neg (nI_in (by omega) (by omega)), if_neg q0i, nI_clamp (by omega), nI_clamp (by omega), cl0, a0, s0, l1, l3, r1, r3, hct]
        by_cases hl : bt lk i = true
        · rw [if_pos (bit1_eq.mpr hl)]
          by_cases hw : wea i < mw
          · rw [if_pos hw]
            exact st305 _ (skip (fun q => not_le_I.mpr hw q.1))
          · rw [if_neg hw]
            have hle : mw ≤ wea i := by
              rcases Classical.em (mw ≤ wea i) with q | q
              · exact q
              · exact absurd (not_le_I.mp q) hw
            refine st305 _ (fun j hj => ?_)
            rw [b_or, bit_at (by omega) hj, h8 j hj]
            by_cases hji : j = i
            · subst hji
              simp [hle, hl]
            · have : (j < i + 1) ↔ (j < i) := by omega
              simp [this, hji]
        · rw [if_neg (fun q => hl (bit1_eq.mp q))]
          exact st305 _ (skip (fun q => hl q.2))
      have g164 : G1 (mw, ke, bo, lk, lb, par, mak, wea, kob, nu, hek, hew, clo, clm, sta) R (fL_same_b164 (fL_same_b15 fuel) qv kev bov wrv opv ((mw, ke, bo, lk, lb, par, mak, wea, kob, nu, hek, hew, clo, clm, sta), o, R) y1 (nI (fb_ct (bt lk) i)) y8 0 0 (nI i) m12 m13 (par i) (par i)) := by
        unfold fL_same_b164
        rw [if_pos rfl, r_ofKey1 h hi, Option.bind_some, i4, i4p1, i4p2, i4p3, if_neg (nI_in (by omega) (by omega)), nI_clamp (by omega), l1, r1, if_pos rfl]
        dsimp only
        rw [r_ofKey2 h hi, Option.bind_some, if_neg (nI_in (by omega) (by omega)), nI_clamp (by omega), l2, r2, if_pos rfl]
        dsimp only
        rw [r_ofKey3 h hi, Option.bind_some, if_neg (nI_in (by omega) (by omega)), nI_clamp (by omega), l3, r3, if_pos rfl]
        dsimp only
        rw [r_ofKey4 h hi hm12, Option.bind_some, if_pos rfl]
        dsimp only
        rw [r_ofKey5 h hi hm13, Option.bind_some, if_pos rfl]
        exact g247
      unfold fL_same_b137
      rw [r_ofKey0 h hi, Option.bind_some, i4, if_neg (nI_in (by omega) (by omega)), nI_clamp (by omega), l0, r0]
      dsimp only
      rcases hP i hi with e | ⟨j, hj, e⟩
      · rw [e, pm_6, if_neg (show ¬ (0 : Int32) ≤ -1 by decide)]
        rw [e] at g164
        exact g164
      · rw [e, pm_nI (by omega), if_pos (nI_pos' (by omega)), if_neg (show ¬ (nI (4 * i) < 0 ∨ 24 ≤ 4 * i) from fun q => q.elim (nI_pos (by omega)) (fun q => by omega))]
        rw [e] at g164
        exact g164
    · have hin : i = nk := by omega
      subst hin
      rw [if_pos (nI_le (Nat.le_refl _) (by omega))]
      unfold fL_same_b530
      exact same_533 h hL R h8 y1 6000 0 opv o (by omega) (by omega)
theorem same_eq (h : Rel B nk nb nw st mw ke bo lk lb par mak wea kob nu hek hew clo clm sta) (hL : LSt st nk nb nw qv kev bov wrv) (hM : ∀ k, k < nk → ∃ m, m < 64 ∧ mak k = nI m) (opv : Nat → Int64) (o : (Nat → Int32) × (Nat → Int32)) (R : CRt) (x : Int32) : G1 (mw, ke, bo, lk, lb, par, mak, wea, kob, nu, hek, hew, clo, clm, sta) R (fL_same qv kev bov wrv opv ((mw, ke, bo, lk, lb, par, mak, wea, kob, nu, hek, hew, clo, clm, sta), o, R) x) := by
  unfold fL_same
  exact same_15 h hL hM R x 6000 0 opv o 0 (Nat.zero_le _) (by have := h.2.1.1; omega) (fun j _ => by rw [b_0]; simp)
end SAME
