/-! the law's loop, to its end -/
section LOOPL
variable {n t L : Nat} {xs : Nat → Int32} {k42 : K42} {nk nb nw : Nat} {qv kev bov wrv : Nat → Int32} {r : RS} {o : (Nat → Int32) × (Nat → Int32)} {R : CRt} {mw ke bo lk lb nu : Int32} {par mak wea kob hek hew clo clm sta : Nat → Int32}
theorem cell_some (hL : L ≤ 260) (ht : t < 18) : ∃ v, fL_cell L xs (nI t) = some v := by
  unfold fL_cell
  by_cases h : Int32.ofNat L ≤ nI t
  · exact ⟨_, if_pos h⟩
  · rw [if_neg h]
    have hlt : t < L := by
      rcases Nat.lt_or_ge t L with q | q
      · exact q
      · exact absurd (show nI L ≤ nI t from nI_le q (by omega)) h
    exact ⟨_, if_neg (nI_in hlt (by omega))⟩
theorem act_609 (hI : Inv0 n ((mw, ke, bo, lk, lb, par, mak, wea, kob, nu, hek, hew, clo, clm, sta), o, R) r) (h : Rel n nk nb nw r.1 mw ke bo lk lb par mak wea kob nu hek hew clo clm sta) (hL : LSt r.1 nk nb nw qv kev bov wrv) (hn : n ≤ 3 * t) (ht : t < 18) (hgo : Go k42 t) (hw50 : nw ≤ 50) {k y : Nat} (hy : y < 10) (hk : k < nk ∨ (nk = 0 ∧ k = 0)) (opv : Nat → Int64) (x8 : Int32) : fL_law_b609 L xs k42 qv kev bov wrv opv ((mw, ke, bo, lk, lb, par, mak, wea, kob, nu, hek, hew, clo, clm, sta), o, R) (nI t) x8 (nI y) (nI k) (if bt lk k = true then 1 else 0) = some 1 := by
  unfold fL_law_b609
  by_cases h6 : nI y = 6
  · rw [if_pos h6]
    exact act_renew hI h hL hn ht hgo hw50 hk opv x8
  rw [if_neg h6]
  by_cases h7 : nI y = 7
  · rw [if_pos h7]
    exact act_wear hI h hL hn ht hgo opv x8
  rw [if_neg h7]
  exact act_throw hI h hL hn ht hgo hw50 hk opv x8 (nI y)
theorem act_150 (hI : Inv0 n ((mw, ke, bo, lk, lb, par, mak, wea, kob, nu, hek, hew, clo, clm, sta), o, R) r) (h : Rel n nk nb nw r.1 mw ke bo lk lb par mak wea kob nu hek hew clo clm sta) (hL : LSt r.1 nk nb nw qv kev bov wrv) (hn : n ≤ 3 * t) (ht : t < 18) (hgo : Go k42 t) (hw50 : nw ≤ 50) {k y : Nat} (hy : y < 10) (hk : k < nk ∨ (nk = 0 ∧ k = 0)) (opv : Nat → Int64) (x8 : Int32) : fL_law_b150 L xs k42 qv kev bov wrv opv ((mw, ke, bo, lk, lb, par, mak, wea, kob, nu, hek, hew, clo, clm, sta), o, R) (nI t) x8 (nI y) (nI k) (if bt lk k = true then 1 else 0) (if bt lk k = true then (if wea k < mw then 1 else 0) else 0) = some 1 := by
  obtain ⟨⟨e1, e2, e3⟩, ⟨t1, t2, t3, t4, t5, t6, t7, t8⟩, ⟨c1, ⟨m0, m1, m2, em⟩, c3⟩, hW, hH, hU, ⟨s0, s1, s2, s3⟩, hK, hBx, hR⟩ := id h
  obtain ⟨⟨⟨a0, a1, a2, a3⟩, ⟨b1, b2, b3⟩, n1, n2, n3⟩, hLK, hZ, hLB, hLW⟩ := id hL
  unfold fL_law_b150
  by_cases h3 : 3 ≤ y
  · rw [if_pos (show (3 : Int32) ≤ nI y from nI_le (a := 3) h3 (by omega))]
    by_cases e3' : nI y = 3
    · rw [if_pos e3']
      exact act_box hI h hL hn ht hgo hw50 hk opv x8
    rw [if_neg e3']
    by_cases e4 : nI y = 4
    · rw [if_pos e4]
      exact act_box hI h hL hn ht hgo hw50 hk opv x8
    rw [if_neg e4]
    by_cases e5 : nI y = 5
    · rw [if_pos e5]
      unfold fL_law_b425
      rw [if_neg q3i, cl3, a3]
      by_cases hw0 : nw = 0
      · rw [if_pos (show nI nw ≤ 0 from nI_le (b := 0) (by omega) (by omega))]
        exact act_609 hI h hL hn ht hgo hw50 hy hk opv x8
      · rw [if_neg (show ¬ nI nw ≤ 0 from nI_ge (a := 0) (by omega) (by omega))]
        exact act_copies ht hgo x8 6000 0 n r ((mw, ke, bo, lk, lb, par, mak, wea, kob, nu, hek, hew, clo, clm, sta), o, R) wrv opv (by omega) (by omega) (by omega) (by omega) hI hL
    rw [if_neg e5]
    exact act_609 hI h hL hn ht hgo hw50 hy hk opv x8
  · rw [if_neg (show ¬ (3 : Int32) ≤ nI y from nI_ge (b := 3) (by omega) (by omega))]
    exact act_key hI h hL hn ht hgo hw50 hk opv x8
theorem act_88 (hI : Inv0 n ((mw, ke, bo, lk, lb, par, mak, wea, kob, nu, hek, hew, clo, clm, sta), o, R) r) (h : Rel n nk nb nw r.1 mw ke bo lk lb par mak wea kob nu hek hew clo clm sta) (hL : LSt r.1 nk nb nw qv kev bov wrv) (hn : n ≤ 3 * t) (ht : t < 18) (hgo : Go k42 t) {k y : Nat} (hy : y < 10) (hk : k < nk ∨ (nk = 0 ∧ k = 0)) (opv : Nat → Int64) (x8 : Int32) : fL_law_b88 L xs k42 qv kev bov wrv opv ((mw, ke, bo, lk, lb, par, mak, wea, kob, nu, hek, hew, clo, clm, sta), o, R) (nI t) x8 (nI y) (nI k) = some 1 := by
  obtain ⟨⟨e1, e2, e3⟩, ⟨t1, t2, t3, t4, t5, t6, t7, t8⟩, ⟨c1, ⟨m0, m1, m2, em⟩, c3⟩, hW, hH, hU, ⟨s0, s1, s2, s3⟩, hK, hBx, hR⟩ := id h
  obtain ⟨⟨⟨a0, a1, a2, a3⟩, ⟨b1, b2, b3⟩, n1, n2, n3⟩, hLK, hZ, hLB, hLW⟩ := id hL
  have g139 : fL_law_b139 L xs k42 qv kev bov wrv opv ((mw, ke, bo, lk, lb, par, mak, wea, kob, nu, hek, hew, clo, clm, sta), o, R) (nI t) x8 (nI y) (nI k) (if bt lk k = true then 1 else 0) (if bt lk k = true then (if wea k < mw then 1 else 0) else 0) = some 1 := by
    unfold fL_law_b139
    rw [if_neg q3i, cl3, a3]
    by_cases hw : nw ≤ 50
    · rw [if_pos (show nI nw ≤ 50 from nI_le (b := 50) hw (by omega))]
      exact act_150 hI h hL hn ht hgo hw hy hk opv x8
    · rw [if_neg (show ¬ nI nw ≤ 50 from nI_ge (a := 50) (by omega) (by omega))]
      exact fin_1229 hI hL (by omega) hgo opv
  unfold fL_law_b88 fL_law_b137
  rw [if_neg q1i, cl1, a1]
  by_cases h0 : nk = 0
  · have hk0 : k = 0 := by omega
    have hl : ¬ bt lk k = true := fun q => by rw [hk0, t5 0 (by omega)] at q; cases q
    rw [if_neg hl, if_neg hl] at g139
    rw [if_pos (show nI nk ≤ 0 from nI_le (b := 0) (by omega) (by omega))]
    exact g139
  · have hkn : k < nk := by omega
    obtain ⟨l0, l1, l2, l3⟩ := hLK k hkn
    rw [if_neg (show ¬ nI nk ≤ 0 from nI_ge (a := 0) (by omega) (by omega)), i4, i4p1, i4p3, if_neg (nI_in (by omega) (by omega)), if_neg (nI_in (by omega) (by omega)), nI_clamp (by omega), nI_clamp (by omega), l1, l3, (hK k hkn).2.1, (hK k hkn).2.2.2, if_neg q0i, cl0, a0, s0]
    by_cases hl : bt lk k = true
    · rw [if_pos hl, if_pos hl] at g139
      rw [if_pos hl, if_pos rfl]
      by_cases hc : mw ≤ wea k
      · have hc' : ¬ wea k < mw := fun q => by
          obtain ⟨-, x, x1, x2⟩ := c3 k hkn
          rw [em, x2] at hc q
          exact absurd hc (not_le_I.mpr q)
        rw [if_neg hc'] at g139
        rw [if_pos hc]
        exact g139
      · rw [if_pos (not_le_I.mp hc)] at g139
        rw [if_neg hc]
        exact g139
    · rw [if_neg hl, if_neg hl] at g139
      rw [if_neg hl, if_neg (show ¬ (0 : Int32) = 1 by decide)]
      exact g139
theorem law_loop (hLn : L ≤ 260) : ∀ d t fuel, t ≤ 18 → 18 ≤ t + d → d < fuel → ∀ (n : Nat) (c : CS) (qv kev bov wrv : Nat → Int32) (opv : Nat → Int64), GI n c qv kev bov wrv → n ≤ 3 * t → fL_law_b42 L xs fuel qv kev bov wrv opv c (nI t) = some 1 := by
  intro d
  induction d with
  | zero =>
    intro t fuel h1 h2 h3 n c qv kev bov wrv opv hG hn
    obtain ⟨f, rfl⟩ : ∃ f, fuel = f + 1 := ⟨fuel - 1, by omega⟩
    rw [fL_law_b42, if_pos (show (18 : Int32) ≤ nI t from nI_le (a := 18) (by omega) (by omega))]
  | succ d ih =>
    intro t fuel h1 h2 h3 n c qv kev bov wrv opv hG hn
    obtain ⟨f, rfl⟩ : ∃ f, fuel = f + 1 := ⟨fuel - 1, by omega⟩
    by_cases h18 : t = 18
    · rw [fL_law_b42, if_pos (show (18 : Int32) ≤ nI t from nI_le (a := 18) (by omega) (by omega))]
    have ht : t < 18 := by omega
    have hgo : Go (fL_law_b42 L xs f) t := fun n c qv kev bov wrv opv hG hn => ih (t + 1) f (by omega) (by omega) (by omega) n c qv kev bov wrv opv hG (by omega)
    obtain ⟨r, nk, nb, nw, hI, hL⟩ := hG
    obtain ⟨mw, ke, bo, lk, lb, par, mak, wea, kob, nu, hek, hew, clo, clm, sta, o, R, rfl, h⟩ := gi_rel hI hL
    obtain ⟨v, ev⟩ := cell_some (L := L) (xs := xs) hLn ht
    obtain ⟨y, hy, ey⟩ := low_eq v (n := 10) (by omega) (by omega)
    have ey' : fL_low v 10 = some (nI y) := ey
    have a1 := hL.1.1.2.1
    have n1 := hL.1.2.2.1
    rw [fL_law_b42, if_neg (show ¬ (18 : Int32) ≤ nI t from nI_ge (b := 18) (by omega) (by omega)), ev, Option.bind_some, ey', Option.bind_some, if_neg q1i, cl1, a1]
    by_cases h0 : nk = 0
    · rw [if_pos (show nI nk = 0 by rw [h0]; rfl)]
      unfold fL_law_b86
      exact act_88 hI h hL hn ht hgo (k := 0) hy (Or.inr ⟨h0, rfl⟩) opv v
    · obtain ⟨k, hk, ek⟩ := low_eq (v >>> ((4 : Int32) &&& 31)) (n := nk) (by omega) (by omega)
      rw [if_neg (nI_ne0 (by omega) (by omega)), if_neg q1j, ek, Option.bind_some]
      unfold fL_law_b86
      exact act_88 hI h hL hn ht hgo hy (Or.inl hk) opv v
theorem law_all (hLn : L ≤ 260) : fL_law_b42 L xs 6000 (upd (fun _ => 0) (0 : Int32).toNatClampNeg 8) (fun _ => 0) (fun _ => 0) (fun _ => 0) (fun _ => 0) cs0 0 = some 1 := by
  have up_ne : ∀ j : Nat, j ≠ 0 → upd (fun _ => (0 : Int32)) (0 : Int32).toNatClampNeg 8 j = 0 := fun j hj => pk_un hj
  refine law_loop hLn 18 0 6000 (by omega) (by omega) (by omega) 0 cs0 _ _ _ _ _ ⟨rs0, 0, 0, 0, inv_0, ?_⟩ (by omega)
  refine ⟨⟨⟨rfl, up_ne 1 (by omega), up_ne 2 (by omega), up_ne 3 (by omega)⟩, ⟨up_ne 1 (by omega), up_ne 2 (by omega), up_ne 3 (by omega)⟩, by omega, by omega, by omega⟩, fun k hk => absurd hk (Nat.not_lt_zero _), fun k hk hk6 => ⟨rfl, rfl⟩, fun b hb => absurd hb (Nat.not_lt_zero _), fun w hw => absurd hw (Nat.not_lt_zero _)⟩
end LOOPL
