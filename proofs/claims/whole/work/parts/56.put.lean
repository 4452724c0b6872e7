/-! the pad: what is put on it (the rows wb_ begin as the kit's starting text) -/
theorem wb_tb (n : Nat) : (lN n).toBitVec = BitVec.ofNat 64 n := rfl
theorem wb_inj {a b : Int64} (h : a.toBitVec = b.toBitVec) : a = b := Int64.toBitVec_inj.mp h
theorem wb_tn {n : Nat} (h : n < 2 ^ 64) : (lN n).toBitVec.toNat = n := by rw [wb_tb, BitVec.toNat_ofNat, Nat.mod_eq_of_lt h]
theorem wb_of (x : Int64) : ∃ n, n < 2 ^ 64 ∧ x = lN n := ⟨x.toBitVec.toNat, x.toBitVec.isLt, wb_inj (by rw [wb_tb]; simp)⟩
theorem wb_cu : ∀ k, k < 64 → ((nI k).toInt64.toUInt64 &&& Int64.toUInt64 63) = UInt64.ofNat k := by decide +kernel
theorem wb_lt2 {a b : Nat} (h : a < b) : 2 ^ a < 2 ^ b := Nat.pow_lt_pow_right (by decide) h
theorem wb_shr {n k : Nat} (hn : n < 2 ^ 64) (hk : k < 64) : ((lN n).toUInt64 >>> ((nI k).toInt64.toUInt64 &&& Int64.toUInt64 63)).toInt64 = lN (n / 2 ^ k) := by
  rw [wb_cu k hk]
  apply wb_inj
  apply BitVec.eq_of_toNat_eq
  show ((lN n).toUInt64 >>> UInt64.ofNat k).toNat = (BitVec.ofNat 64 _).toNat
  have h1 : (UInt64.ofNat k).toNat = k := by
    show (BitVec.ofNat 64 k).toNat = k
    rw [BitVec.toNat_ofNat, Nat.mod_eq_of_lt (by omega)]
  have h2 : (lN n).toUInt64.toNat = n := wb_tn hn
  rw [UInt64.toNat_shiftRight, h1, h2, Nat.mod_eq_of_lt hk, Nat.shiftRight_eq_div_pow, BitVec.toNat_ofNat, Nat.mod_eq_of_lt (Nat.lt_of_le_of_lt (Nat.div_le_self _ _) hn)]
theorem wb_and {a b : Nat} (ha : a < 2 ^ 64) (hb : b < 2 ^ 64) : lN a &&& lN b = lN (a &&& b) := by
  apply wb_inj
  rw [Int64.toBitVec_and, wb_tb, wb_tb, wb_tb]
  apply BitVec.eq_of_toNat_eq
  rw [BitVec.toNat_and, BitVec.toNat_ofNat, BitVec.toNat_ofNat, BitVec.toNat_ofNat, Nat.mod_eq_of_lt ha, Nat.mod_eq_of_lt hb, Nat.mod_eq_of_lt (Nat.and_lt_two_pow _ hb)]
theorem wb_mask {n k : Nat} (hn : n < 2 ^ 64) (hk : k < 64) : lN n &&& lN (2 ^ k - 1) = lN (n % 2 ^ k) := by
  rw [wb_and hn (by have := wb_lt2 hk; omega), Nat.and_two_pow_sub_one_eq_mod]
theorem cmp_0 (x y : Int64) : lg_cmp x y = 0 ↔ x = y := by
  unfold lg_cmp
  by_cases h : x > y
  · rw [if_pos h]
    constructor
    · intro q; exact absurd q (by decide)
    · intro q; subst q; exact absurd (Int64.lt_iff_toInt_lt.mp h) (Int.lt_irrefl _)
  · rw [if_neg h]
    by_cases h2 : x = y
    · rw [if_pos h2]; exact ⟨fun _ => h2, fun _ => rfl⟩
    · rw [if_neg h2]; exact ⟨fun q => absurd q (by decide), fun q => absurd q h2⟩
theorem lN_z {a : Nat} (ha : a < 2 ^ 64) : lg_cmp (lN a) 0 = 0 ↔ a = 0 := by
  rw [cmp_0]
  constructor
  · intro h
    have := congrArg (fun x : Int64 => x.toBitVec.toNat) h
    rw [wb_tn ha] at this
    exact this.trans rfl
  · rintro rfl; rfl
theorem div_lt64 {m : Nat} (hm : m < 2 ^ 64) (k : Nat) : m / k < 2 ^ 64 := Nat.lt_of_le_of_lt (Nat.div_le_self _ _) hm
theorem low8 {a : Nat} (ha : a < 2 ^ 64) : lN a &&& 255 = lN (a % 256) := wb_mask (k := 8) ha (by omega)
theorem shr_at {m i : Nat} (hm : m < 2 ^ 64) (hi : i < 8) : lushr (lN m) (8 * nI i) = lN (m / 2 ^ (8 * i)) := by
  unfold lushr
  have e : (8 : Int32) * nI i = nI (8 * i) := pk_mul 8 i
  rw [e, wb_shr hm (by omega)]
theorem shr_next {m i : Nat} (hm : m < 2 ^ 64) : lushr (lN (m / 2 ^ (8 * i))) 8 = lN (m / 2 ^ (8 * (i + 1))) := by
  have e : lushr (lN (m / 2 ^ (8 * i))) (nI 8) = lN (m / 2 ^ (8 * i) / 2 ^ 8) := wb_shr (div_lt64 hm _) (by omega)
  rw [show (8 : Int32) = nI 8 from rfl, e, Nat.div_div_eq_div_mul, ← Nat.pow_add, Nat.mul_succ]
theorem chr_eq {m i : Nat} (hm : m < 2 ^ 64) (hi : i < 8) : fX3_signFromRight (lN m) (nI i) = nI (m / 2 ^ (8 * i) % 256) := by
  unfold fX3_signFromRight
  rw [shr_at hm hi, low8 (div_lt64 hm _)]
  exact lN_i _
theorem put_bad (pad : Nat → Int32) (pl : Int32) (x : Int64) : ∀ G i a, a < 2 ^ 64 → i ≤ 8 → 1 ≤ i → 8 < i + G → fX8_put_b8 G pad pl x (nI i) (lN a) 0 = some (-2, pad, pl) := by
  intro G
  induction G with
  | zero => intro i a _ _ _ _; omega
  | succ G ih =>
    intro i a ha h1 h2 h3
    rw [fX8_put_b8]
    have hne : ¬ nI i = 0 := nI_ne0 (by omega) (by omega)
    by_cases h8 : i = 8
    · subst h8
      rw [if_pos (show (8 : Int32) ≤ nI 8 by decide), if_neg hne, if_pos rfl]
    · rw [if_neg (show ¬ (8 : Int32) ≤ nI i from nI_ge (b := 8) (by omega) (by omega))]
      by_cases hz : lg_cmp (lN a &&& 255) 0 = 0
      · rw [if_pos hz, if_neg hne, if_pos rfl]
      · have e : lushr (lN a) 8 = lN (a / 2 ^ 8) := wb_shr (k := 8) ha (by omega)
        rw [if_neg hz, if_pos rfl, nI_1, e]
        exact ih (i + 1) _ (div_lt64 ha _) (by omega) (by omega) (by omega)
theorem chars_both {m : Nat} (hm : m < 2 ^ 64) (pad : Nat → Int32) (pl : Int32) : ∀ F G i, i ≤ 8 → 8 < i + F → 8 < i + G →
    (∃ v, v ≤ 8 ∧ i ≤ v ∧ 0 < v ∧ (∀ j, i ≤ j → j < v → 33 ≤ m / 2 ^ (8 * j) % 256 ∧ m / 2 ^ (8 * j) % 256 ≤ 126) ∧ fX3_charactersIn_b2 F (lN m) (nI i) = some (nI v) ∧
      fX8_put_b8 G pad pl (lN m) (nI i) (lN (m / 2 ^ (8 * i))) 1 = (if (pl + nI v) ≤ 60 then fX8_put_b105 6000 pad pl (lN m) (nI v - 1) else (some ((-4), pad, pl)))) ∨
    (fX3_charactersIn_b2 F (lN m) (nI i) = some 0 ∧ fX8_put_b8 G pad pl (lN m) (nI i) (lN (m / 2 ^ (8 * i))) 1 = some (-2, pad, pl)) := by
  intro F
  induction F with
  | zero => intro G i _ _ _; omega
  | succ F ih =>
    intro G i h1 h2 h3
    obtain ⟨G, rfl⟩ : ∃ G', G = G' + 1 := ⟨G - 1, by omega⟩
    rw [fX3_charactersIn_b2, fX8_put_b8]
    have n1 : ¬ ((1 : Int32) = 0) := by decide
    by_cases h8 : i = 8
    · subst h8
      have hz : m / 2 ^ (8 * 8) = 0 := Nat.div_eq_of_lt (by simpa using hm)
      rw [if_pos (show (8 : Int32) ≤ nI 8 by decide), if_pos (show (8 : Int32) ≤ nI 8 by decide), if_neg (show ¬ nI 8 = 0 by decide), if_neg n1, if_pos ((lN_z (div_lt64 hm _)).mpr hz)]
      exact Or.inl ⟨8, Nat.le_refl _, Nat.le_refl _, by omega, fun j a b => by omega, rfl, rfl⟩
    · have hi : i < 8 := by omega
      have hge : ¬ (8 : Int32) ≤ nI i := nI_ge (b := 8) hi (by omega)
      rw [if_neg hge, if_neg hge, chr_eq hm hi, shr_at hm hi, low8 (div_lt64 hm _), shr_next hm]
      have hc : m / 2 ^ (8 * i) % 256 < 256 := Nat.mod_lt _ (by omega)
      have hzc := lN_z (a := m / 2 ^ (8 * i) % 256) (by omega)
      have hzr := lN_z (div_lt64 hm (2 ^ (8 * i)))
      generalize hcc : m / 2 ^ (8 * i) % 256 = c at hc hzc
      by_cases c0 : c = 0
      · rw [if_pos (show nI c = 0 by rw [c0]; rfl), if_pos (hzc.mpr c0)]
        by_cases hr : m / 2 ^ (8 * i) = 0
        · rw [if_pos (hzr.mpr hr), if_pos (hzr.mpr hr)]
          by_cases i0 : i = 0
          · subst i0
            rw [if_pos (show nI 0 = 0 from rfl)]
            exact Or.inr ⟨rfl, rfl⟩
          · rw [if_neg (nI_ne0 (n := i) (by omega) (by omega)), if_neg n1]
            exact Or.inl ⟨i, by omega, Nat.le_refl _, by omega, fun j a b => by omega, rfl, rfl⟩
        · rw [if_neg (fun q => hr (hzr.mp q)), if_neg (fun q => hr (hzr.mp q))]
          refine Or.inr ⟨rfl, ?_⟩
          by_cases i0 : i = 0
          · subst i0
            rw [if_pos (show nI 0 = 0 from rfl)]
          · rw [if_neg (nI_ne0 (n := i) (by omega) (by omega)), if_neg n1]
      · rw [if_neg (show ¬ nI c = 0 from nI_ne0 (by omega) (by omega)), if_neg (fun q => c0 (hzc.mp q)), if_neg n1, lN_i]
        unfold fX8_within
        by_cases c33 : c < 33
        · have q33 : nI c < 33 := nI_lt (b := 33) c33 (by omega)
          rw [if_pos q33, if_pos q33, if_pos rfl, nI_1]
          exact Or.inr ⟨rfl, put_bad pad pl _ G (i + 1) _ (div_lt64 hm _) (by omega) (by omega) (by omega)⟩
        · have q33 : ¬ nI c < 33 := nI_nlt (b := 33) (by omega) (by omega)
          rw [if_neg q33, if_neg q33]
          by_cases c126 : c ≤ 126
          · rw [if_pos (show nI c ≤ 126 from nI_le (b := 126) c126 (by omega)), if_neg (show ¬ (126 : Int32) < nI c from nI_nlt (a := 126) c126 (by omega)), if_neg n1, nI_1]
            rcases ih G (i + 1) (by omega) (by omega) (by omega) with ⟨v, v1, v2, v3, v4, v5, v6⟩ | ⟨v1, v2⟩
            · refine Or.inl ⟨v, v1, by omega, v3, fun j a b => ?_, v5, v6⟩
              by_cases hj : j = i
              · subst hj; rw [hcc]; omega
              · exact v4 j (by omega) b
            · exact Or.inr ⟨v1, v2⟩
          · rw [if_neg (show ¬ nI c ≤ 126 from nI_ge (a := 126) (b := c) (by omega) (by omega)), if_pos (show (126 : Int32) < nI c from nI_lt (a := 126) (by omega) (by omega)), if_pos rfl, nI_1]
            exact Or.inr ⟨rfl, put_bad pad pl _ G (i + 1) _ (div_lt64 hm _) (by omega) (by omega) (by omega)⟩
theorem append_both {n v : Nat} {x : Int64} (R : Int32 → Prop) (hnv : n + v ≤ 60) (hR : ∀ j, j < v → R (fX3_signFromRight x (nI j))) : ∀ d t F G (sg pd : Nat → Int32), t + d = v → d < F → d < G → (∀ i, i < n + t → sg i = pd i ∧ R (sg i)) →
    ∃ sg' pd' : Nat → Int32, fX3_append_b29 F sg (nI n) x (nI v) (nI t) = some (nI (n + v), sg', nI (n + v)) ∧ fX8_put_b105 G pd (nI (n + t)) x (nI d - 1) = some (nI (n + v), pd', nI (n + v)) ∧ ∀ i, i < n + v → sg' i = pd' i ∧ R (sg' i) := by
  intro d
  induction d with
  | zero =>
    intro t F G sg pd h1 h2 h3 h4
    obtain ⟨F, rfl⟩ : ∃ F', F = F' + 1 := ⟨F - 1, by omega⟩
    obtain ⟨G, rfl⟩ : ∃ G', G = G' + 1 := ⟨G - 1, by omega⟩
    have ht : t = v := by omega
    subst ht
    rw [fX3_append_b29, fX8_put_b105, if_pos (nI_le (Nat.le_refl _) (by omega)), if_pos (show nI 0 - 1 < 0 by decide), nI_add]
    exact ⟨sg, pd, rfl, rfl, h4⟩
  | succ d ih =>
    intro t F G sg pd h1 h2 h3 h4
    obtain ⟨F, rfl⟩ : ∃ F', F = F' + 1 := ⟨F - 1, by omega⟩
    obtain ⟨G, rfl⟩ : ∃ G', G = G' + 1 := ⟨G - 1, by omega⟩
    have e1 : nI v - 1 - nI t = nI d := by
      have a1 : nI v - 1 = nI (v - 1) := pk_sub (a := v) (b := 1) (by omega)
      rw [a1, pk_sub (by omega)]
      congr 1; omega
    have e2 : nI d + (-1) = nI d - 1 := (Int32.sub_eq_add_neg (nI d) 1).symm
    rw [fX3_append_b29, fX8_put_b105, if_neg (nI_ge (by omega) (by omega)), nI_pred, if_neg (nI_pos (by omega)), e1, nI_add, rSet_nI (by omega) (by omega), if_neg (nI_in (by omega) (by omega)), nI_clamp (by omega), nI_1, nI_1, e2]
    refine ih (t + 1) F G _ _ (by omega) (by omega) (by omega) (fun i hi => ?_)
    by_cases hit : i = n + t
    · subst hit
      rw [pk_us, pk_us]
      exact ⟨rfl, hR d (by omega)⟩
    · rw [pk_un hit, pk_un hit]
      exact h4 i (by omega)
theorem put_both {n : Nat} {sg pd : Nat → Int32} (hn : n ≤ 60) (h : ∀ i, i < n → sg i = pd i ∧ ∃ ch, 33 ≤ ch ∧ ch ≤ 126 ∧ sg i = nI ch) (x : Int64) :
    ∃ (v : Int32) (n' : Nat) (sg' pd' : Nat → Int32), n' ≤ 60 ∧ fX7_put sg (nI n) x = some (v, sg', nI n') ∧ fX8_put pd (nI n) x = some (v, pd', nI n') ∧ ∀ i, i < n' → sg' i = pd' i ∧ ∃ ch, 33 ≤ ch ∧ ch ≤ 126 ∧ sg' i = nI ch := by
  obtain ⟨m, hm, rfl⟩ := wb_of x
  unfold fX7_put fX8_put fX3_append fX3_charactersIn
  have hdiv : lN m = lN (m / 2 ^ (8 * 0)) := by simp
  have key := chars_both hm pd (nI n) 6000 6000 0 (by omega) (by omega) (by omega)
  rw [← hdiv] at key
  have z : nI 0 = 0 := rfl
  rw [z] at key
  rcases key with ⟨v, v1, v2, v3, v4, v5, v6⟩ | ⟨v1, v2⟩
  · rw [v5, v6, Option.bind_some, if_pos (show (0 : Int32) < nI v from nI_lt (a := 0) v3 (by omega)), nI_add]
    by_cases hfit : n + v ≤ 60
    · rw [if_pos (show nI (n + v) ≤ 60 from nI_le (b := 60) hfit (by omega)), if_pos (show nI (n + v) ≤ 60 from nI_le (b := 60) hfit (by omega))]
      obtain ⟨sg', pd', a1, a2, a3⟩ := append_both (n := n) (v := v) (x := lN m) (fun y => ∃ ch, 33 ≤ ch ∧ ch ≤ 126 ∧ y = nI ch) hfit (fun j hj => by
        rw [chr_eq hm (by omega)]
        exact ⟨_, (v4 j (by omega) hj).1, (v4 j (by omega) hj).2, rfl⟩) v 0 6000 6000 sg pd (by omega) (by omega) (by omega) h
      rw [z] at a1
      rw [Nat.add_zero] at a2
      rw [a1, a2, Option.bind_some]
      exact ⟨_, n + v, sg', pd', hfit, rfl, rfl, a3⟩
    · rw [if_neg (show ¬ nI (n + v) ≤ 60 from nI_ge (b := n + v) (a := 60) (by omega) (by omega)), if_neg (show ¬ nI (n + v) ≤ 60 from nI_ge (b := n + v) (a := 60) (by omega) (by omega)), Option.bind_some]
      exact ⟨_, n, sg, pd, hn, rfl, rfl, h⟩
  · rw [v1, v2, Option.bind_some, if_neg (show ¬ (0 : Int32) < 0 by decide), Option.bind_some]
    exact ⟨_, n, sg, pd, hn, rfl, rfl, h⟩
section OPS
variable {n : Nat} {c : CS} {r : RS}
theorem step_put (h : Inv0 n c r) (a : Int64) : agree Inv0 n (sX7_put c a) (sX8_put r a) := by
  obtain ⟨⟨mw, ke, bo, lk, lb, par, mak, wea, kob, nu, hek, hew, clo, clm, sta⟩, ⟨sm, op⟩, ⟨sg, ln, nx, lt, tg, pc⟩, ⟨spare, kept⟩, hv, on, sv⟩ := c
  obtain ⟨st, hi, rec, slots, isS, pad, pl, opn, at_, le, fi, se⟩ := r
  obtain ⟨hR, hHi, ⟨k, k1, e1, e2, k3⟩, hS⟩ := Inv0_up h
  dsimp only at hR hHi e1 e2 k3 hS
  subst e1 e2
  obtain ⟨v, n', sg', pd', p1, p2, p3, p4⟩ := put_both k1 k3 a
  refine ⟨v, ((mw, ke, bo, lk, lb, par, mak, wea, kob, nu, hek, hew, clo, clm, sta), (sm, op), (sg', nI n', nx, lt, tg, pc), (spare, kept), hv, on, sv), (st, hi, rec, slots, isS, pd', nI n', opn, at_, le, fi, se), ?_, ?_, ⟨hR, hHi, ⟨n', p1, rfl, rfl, p4⟩, hS⟩⟩
  · unfold sX7_put
    dsimp only
    rw [p2]; rfl
  · unfold sX8_put
    dsimp only
    rw [p3]; rfl
end OPS
