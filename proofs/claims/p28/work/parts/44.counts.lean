/-! how many wraps a throwing away takes -/
section COUNTS
variable {B nk nb nw : Nat} {st : Nat → Int32} {mw ke bo lk lb nu : Int32} {par mak wea kob hek hew clo clm sta : Nat → Int32}
/-- what hangs from a key when the thrown ones are gone -/
def cw (nk nb : Nat) (lk lb tK tB : Int32) (par kob : Nat → Int32) (k : Nat) : Nat := fb_ct (fun j => onK nk lk par k j && !bt tK j) 20 + fb_ct (fun j => onK nb lb kob k j && !bt tB j) 20
def inL (n : Nat) (l a : Int32) (p : Nat → Int32) (L : List Nat) (j : Nat) : Bool := decide (j < n) && L.any (fun k => decide (p j = nI k)) && bt l j && !bt a j
theorem inL_cons {n : Nat} {l a : Int32} {p : Nat → Int32} {k : Nat} {L : List Nat} (hk : k < 20) (hL : ∀ i, i ∈ L → i < 20) (hn : ¬ k ∈ L) : fb_ct (inL n l a p (k :: L)) 20 = fb_ct (fun j => onK n l p k j && !bt a j) 20 + fb_ct (inL n l a p L) 20 := by
  rw [← fb_ct_or]
  · refine fb_ct_cong (fun j hj => ?_)
    unfold inL onK
    rw [List.any_cons]
    cases decide (j < n) <;> cases decide (p j = nI k) <;> cases L.any (fun k => decide (p j = nI k)) <;> cases bt l j <;> cases bt a j <;> rfl
  · intro j hj ⟨h1, h2⟩
    simp [onK, inL] at h1 h2
    obtain ⟨i, hi, e⟩ := h2.1.1.2
    have := (nI_eq (by omega) (by have := hL i hi; omega)).mp (h1.1.1.2.symm.trans e)
    subst this
    exact hn hi
theorem sum_L (L : List Nat) (h20 : ∀ i, i ∈ L → i < 20) (hs : L.Pairwise (fun a b => b < a)) (tK tB : Int32) : fb_ct (inL nk lk tK par L) 20 + fb_ct (inL nb lb tB kob L) 20 = (L.map (cw nk nb lk lb tK tB par kob)).sum := by
  induction L with
  | nil =>
    have z : ∀ (n : Nat) (l a : Int32) (p : Nat → Int32), fb_ct (inL n l a p []) 20 = 0 := fun n l a p => fb_ct_zero.mpr (fun k _ => by simp [inL])
    rw [z, z]; rfl
  | cons k L ih =>
    obtain ⟨s1, s2⟩ := List.pairwise_cons.mp hs
    have hk := h20 k List.mem_cons_self
    have hL : ∀ i, i ∈ L → i < 20 := fun i hi => h20 i (List.mem_cons_of_mem _ hi)
    have hn : ¬ k ∈ L := fun h => Nat.lt_irrefl k (s1 k h)
    rw [inL_cons hk hL hn, inL_cons hk hL hn, List.map_cons, List.sum_cons, ← ih hL s2]
    unfold cw
    omega
theorem hs_list {S : Int32} {L : List Nat} (hS : ∀ j, j < 32 → bt S j = decide (j ∈ L)) (h20 : ∀ i, i ∈ L → i < 20) {p : Int32} (hp : p = -6 ∨ ∃ i, i < 32 ∧ p = nI i) : hs S p = L.any (fun k => decide (p = nI k)) := by
  rcases hp with rfl | ⟨i, hi, rfl⟩
  · rw [hs_m6]
    symm
    rw [List.any_eq_false]
    intro k hk
    have := h20 k hk
    simp only [decide_eq_true_eq]
    exact fun e => nI_ne6 (by omega) e.symm
  · rw [hs_nI hi, hS i hi]
    rw [Bool.eq_iff_iff, decide_eq_true_eq, List.any_eq_true]
    constructor
    · exact fun h => ⟨i, h, by simp⟩
    · rintro ⟨k, hk, e⟩
      have := h20 k hk
      have := (nI_eq (by omega) (by omega)).mp (of_decide_eq_true e)
      rw [this]; exact hk
theorem hang_mask (hk : nk ≤ 20) (hb : nb ≤ 20) (hP : PT nk par) (hKB : KB nk nb kob) {S : Int32} {L : List Nat} (hS : ∀ j, j < 32 → bt S j = decide (j ∈ L)) (h20 : ∀ i, i ∈ L → i < 20) (hs : L.Pairwise (fun a b => b < a)) (tK tB : Int32) :
    fX1_hangingWithout (nI nk) (nI nb) lk lb par kob S tK tB = some (nI (L.map (cw nk nb lk lb tK tB par kob)).sum) := by
  rw [hangingWithout_eq hk hb, ← sum_L L h20 hs]
  congr 3
  · refine fb_ct_cong (fun j hj => ?_)
    unfold inK inL
    by_cases hjn : j < nk
    · rw [hs_list hS h20 (PT32 hP hk j hjn)]
    · simp [hjn]
  · refine fb_ct_cong (fun j hj => ?_)
    unfold inK inL
    by_cases hjn : j < nb
    · rw [hs_list hS h20 (KB32 hKB hk j hjn)]
    · simp [hjn]
theorem hang_set (hk : nk ≤ 20) (hb : nb ≤ 20) (hP : PT nk par) (hKB : KB nk nb kob) {k : Nat} (hk2 : k < 32) (tK tB : Int32) : fX1_hangingWithout (nI nk) (nI nb) lk lb par kob (fX7_setOf (nI k)) tK tB = some (nI (cw nk nb lk lb tK tB par kob k)) := by
  rw [hangingWithout_eq hk hb]
  unfold cw
  rw [fb_ct_cong (fun j hj => inK_set (PT32 hP hk) hk2 tK), fb_ct_cong (fun j hj => inK_set (KB32 hKB hk) hk2 tB)]
theorem cw_le {tK tB : Int32} (k : Nat) : cw nk nb lk lb tK tB par kob k ≤ 40 := by
  have h1 := fb_ct_le (fun j => onK nk lk par k j && !bt tK j) 20
  have h2 := fb_ct_le (fun j => onK nb lb kob k j && !bt tB j) 20
  unfold cw; omega
theorem sum_le {c : Nat → Nat} {d : Nat} (hc : ∀ k, c k ≤ d) (L : List Nat) : (L.map c).sum ≤ L.length * d := by
  induction L with
  | nil => simp
  | cons k L ih =>
    rw [List.map_cons, List.sum_cons, List.length_cons, Nat.succ_mul]
    have := hc k
    omega
theorem canWrap_eq (hk : nk ≤ 20) (hb : nb ≤ 20) (hP : PT nk par) (hKB : KB nk nb kob) {S : Int32} {L : List Nat} (hS : ∀ j, j < 32 → bt S j = decide (j ∈ L)) (h20 : ∀ i, i ∈ L → i < 20) (tK tB : Int32) {m : Nat} (hm : m ≤ 30) :
    ((∀ k, k ∈ L → cw nk nb lk lb tK tB par kob k ≤ m) ∧ fX1_canWrapAgain (nI m) (nI nk) (nI nb) lk lb par kob S tK tB = some 1) ∨ ((¬ ∀ k, k ∈ L → cw nk nb lk lb tK tB par kob k ≤ m) ∧ fX1_canWrapAgain (nI m) (nI nk) (nI nb) lk lb par kob S tK tB = some 0) := by
  have key : ∀ fuel i, i ≤ 20 → 20 < i + fuel → ((∀ k, k ∈ L → i ≤ k → cw nk nb lk lb tK tB par kob k ≤ m) ∧ fX1_canWrapAgain_b3 fuel (nI m) (nI nk) (nI nb) lk lb par kob S tK tB (nI i) = some 1) ∨ ((¬ ∀ k, k ∈ L → i ≤ k → cw nk nb lk lb tK tB par kob k ≤ m) ∧ fX1_canWrapAgain_b3 fuel (nI m) (nI nk) (nI nb) lk lb par kob S tK tB (nI i) = some 0) := by
    intro fuel
    induction fuel with
    | zero => intro i h1 h2; omega
    | succ fuel ih =>
      intro i h1 h2
      rw [fX1_canWrapAgain_b3]
      by_cases hi : i < 20
      · rw [if_neg (show ¬ (20 : Int32) ≤ nI i from nI_ge (b := 20) hi (by omega)), has_nI (by omega), hS i (by omega), nI_1]
        by_cases hm2 : i ∈ L
        · rw [decide_eq_true hm2, if_pos rfl, if_neg (show ¬ ((1 : Int32) = 0) by decide), hang_set hk hb hP hKB (by omega), Option.bind_some]
          have hc := cw_le (nk := nk) (nb := nb) (lk := lk) (lb := lb) (par := par) (kob := kob) (tK := tK) (tB := tB) i
          by_cases hcm : cw nk nb lk lb tK tB par kob i ≤ m
          · rw [if_pos (nI_le hcm (by omega))]
            rcases ih (i + 1) hi (by omega) with ⟨q1, q2⟩ | ⟨q1, q2⟩
            · refine Or.inl ⟨fun k hk2 hik => ?_, q2⟩
              by_cases hki : k = i
              · subst hki; exact hcm
              · exact q1 k hk2 (by omega)
            · exact Or.inr ⟨fun q => q1 (fun k hk2 hik => q k hk2 (by omega)), q2⟩
          · rw [if_neg (nI_ge (by omega) (by omega))]
            exact Or.inr ⟨fun q => hcm (q i hm2 (Nat.le_refl _)), rfl⟩
        · rw [decide_eq_false hm2, if_neg (show ¬ false = true by decide), if_pos rfl]
          rcases ih (i + 1) hi (by omega) with ⟨q1, q2⟩ | ⟨q1, q2⟩
          · refine Or.inl ⟨fun k hk2 hik => ?_, q2⟩
            by_cases hki : k = i
            · subst hki; exact absurd hk2 hm2
            · exact q1 k hk2 (by omega)
          · exact Or.inr ⟨fun q => q1 (fun k hk2 hik => q k hk2 (by omega)), q2⟩
      · have : i = 20 := by omega
        subst this
        rw [if_pos (show (20 : Int32) ≤ nI 20 from nI_le (a := 20) (Nat.le_refl _) (by omega))]
        exact Or.inl ⟨fun k hk2 hik => by have := h20 k hk2; omega, rfl⟩
  unfold fX1_canWrapAgain
  rcases key 6000 0 (by omega) (by omega) with ⟨q1, q2⟩ | ⟨q1, q2⟩
  · exact Or.inl ⟨fun k hk2 => q1 k hk2 (Nat.zero_le _), q2⟩
  · exact Or.inr ⟨fun q => q1 (fun k hk2 _ => q k hk2), q2⟩
/-- the reference's counts: the key that the thrown one hangs from counts one less -/
def rc (nk nb : Nat) (lk lb : Int32) (par kob : Nat → Int32) (p : Int32) (k : Nat) : Nat := hf nk nb lk lb par kob k - (if nI k = p then 1 else 0)
theorem rc_le {p : Int32} (k : Nat) : rc nk nb lk lb par kob p k ≤ 40 := by
  have := hf_le (nk := nk) (nb := nb) (lk := lk) (lb := lb) (par := par) (kob := kob) k
  unfold rc; omega
theorem rc_sub {p : Int32} {k : Nat} (h1 : nI k = p → 1 ≤ hf nk nb lk lb par kob k) : nI (hf nk nb lk lb par kob k) - (if nI k = p then 1 else 0) = nI (rc nk nb lk lb par kob p k) := by
  unfold rc
  by_cases h : nI k = p
  · rw [if_pos h, if_pos h]
    exact pk_sub (b := 1) (h1 h)
  · rw [if_neg h, if_neg h]
    exact pk_sub (b := 0) (Nat.zero_le _)
theorem throwMakes_eq (hk : nk ≤ 20) (hb : nb ≤ 20) (h1 : st 1 = nI nk) (h2 : st 2 = nI nb) (hK : RK st nk lk par mak wea) (hBx : RB st nb lb kob) (hP : PT nk par) {m : Nat} (hm : m ≤ 30) (h0 : st 0 = nI m) {p : Int32} (hp : Up nk p)
    (hone : ∀ k, k ∈ up par p → nI k = p → 1 ≤ hf nk nb lk lb par kob k) :
    ((∀ k, k ∈ up par p → rc nk nb lk lb par kob p k ≤ m) ∧ fX8_throwMakes st p = some (nI ((up par p).map (rc nk nb lk lb par kob p)).sum)) ∨ ((¬ ∀ k, k ∈ up par p → rc nk nb lk lb par kob p k ≤ m) ∧ fX8_throwMakes st p = some (-5)) := by
  have key : ∀ cur, Up nk cur → ∀ fuel acc, (up par cur).length < fuel → (∀ k, k ∈ up par cur → nI k = p → 1 ≤ hf nk nb lk lb par kob k) → fX8_throwMakes_b7 fuel st p (nI acc) 0 cur = some (-5) ∧
      (((∀ k, k ∈ up par cur → rc nk nb lk lb par kob p k ≤ m) ∧ fX8_throwMakes_b7 fuel st p (nI acc) 1 cur = some (nI (acc + ((up par cur).map (rc nk nb lk lb par kob p)).sum))) ∨ ((¬ ∀ k, k ∈ up par cur → rc nk nb lk lb par kob p k ≤ m) ∧ fX8_throwMakes_b7 fuel st p (nI acc) 1 cur = some (-5))) := by
    refine up_ind (Q := fun cur => ∀ fuel acc, (up par cur).length < fuel → (∀ k, k ∈ up par cur → nI k = p → 1 ≤ hf nk nb lk lb par kob k) → fX8_throwMakes_b7 fuel st p (nI acc) 0 cur = some (-5) ∧
      (((∀ k, k ∈ up par cur → rc nk nb lk lb par kob p k ≤ m) ∧ fX8_throwMakes_b7 fuel st p (nI acc) 1 cur = some (nI (acc + ((up par cur).map (rc nk nb lk lb par kob p)).sum))) ∨ ((¬ ∀ k, k ∈ up par cur → rc nk nb lk lb par kob p k ≤ m) ∧ fX8_throwMakes_b7 fuel st p (nI acc) 1 cur = some (-5)))) hP ?_ ?_
    · intro fuel acc hf2 hone
      obtain ⟨f, rfl⟩ : ∃ f, fuel = f + 1 := ⟨fuel - 1, by omega⟩
      rw [fX8_throwMakes_b7, if_pos rfl, if_pos rfl, fX8_throwMakes_b7, if_pos rfl, if_neg (show ¬ ((1 : Int32) = 0) by decide), up_6]
      exact ⟨rfl, Or.inl ⟨fun k hk2 => (by cases hk2), rfl⟩⟩
    · intro q hq ih fuel acc hf2 hone
      rw [up_k hP hk hq] at hf2 hone ⊢
      rw [List.length_cons] at hf2
      obtain ⟨f, rfl⟩ : ∃ f, fuel = f + 1 := ⟨fuel - 1, by omega⟩
      have hsub := rc_sub (hone q List.mem_cons_self)
      have hle := rc_le (nk := nk) (nb := nb) (lk := lk) (lb := lb) (par := par) (kob := kob) (p := p) q
      obtain ⟨g1, g2⟩ := ih f (acc + rc nk nb lk lb par kob p q) (by omega) (fun k hk2 => hone k (List.mem_cons_of_mem _ hk2))
      have step : ∀ y3 : Int32, fX8_throwMakes_b7 (f + 1) st p (nI acc) y3 (nI q) = if y3 = 0 then fX8_throwMakes_b7 f st p (nI (acc + rc nk nb lk lb par kob p q)) 0 (par q) else (if nI m < nI (rc nk nb lk lb par kob p q) then fX8_throwMakes_b7 f st p (nI (acc + rc nk nb lk lb par kob p q)) 0 (par q) else fX8_throwMakes_b7 f st p (nI (acc + rc nk nb lk lb par kob p q)) 1 (par q)) := fun y3 => by
        rw [fX8_throwMakes_b7, if_neg (nI_ne6 (by omega)), hangingFrom_eq hk hb h1 h2 hK hBx q, Option.bind_some]
        have e0 := (hK q hq).1
        unfold fX8_throwMakes_b31
        by_cases h : nI q = p
        · rw [if_pos h] at hsub
          rw [if_pos h, key0 (by omega), Option.bind_some, Option.bind_some, if_neg ix0, cl0, h0, e0, hsub, nI_add]
        · rw [if_neg h] at hsub
          rw [if_neg h, key0 (by omega), Option.bind_some, Option.bind_some, if_neg ix0, cl0, h0, e0, hsub, nI_add]
      rw [step 0, step 1, if_pos rfl, if_neg (show ¬ ((1 : Int32) = 0) by decide)]
      refine ⟨g1, ?_⟩
      by_cases hc : rc nk nb lk lb par kob p q ≤ m
      · rw [if_neg (nI_nlt hc (by omega))]
        rcases g2 with ⟨r1, r2⟩ | ⟨r1, r2⟩
        · refine Or.inl ⟨fun k hk2 => ?_, ?_⟩
          · rcases List.mem_cons.mp hk2 with rfl | h
            · exact hc
            · exact r1 k h
          · rw [r2, List.map_cons, List.sum_cons, Nat.add_assoc]
        · exact Or.inr ⟨fun q => r1 (fun k hk2 => q k (List.mem_cons_of_mem _ hk2)), r2⟩
      · rw [if_pos (nI_lt (by omega) (by omega))]
        exact Or.inr ⟨fun r => hc (r q List.mem_cons_self), g1⟩
  unfold fX8_throwMakes
  have hl := up_len20 hP hk hp
  obtain ⟨-, g⟩ := key p hp 6000 0 (by omega) hone
  rcases g with ⟨g1, g2⟩ | ⟨g1, g2⟩
  · refine Or.inl ⟨g1, ?_⟩
    rw [Nat.zero_add] at g2
    exact g2
  · exact Or.inr ⟨g1, g2⟩
theorem whyThrown_eq (hk : nk ≤ 20) (hb : nb ≤ 20) (hw : nw ≤ 120) (h1 : st 1 = nI nk) (h2 : st 2 = nI nb) (h3 : st 3 = nI nw) (hK : RK st nk lk par mak wea) (hBx : RB st nb lb kob) (hP : PT nk par) {m : Nat} (hm : m ≤ 30) (h0 : st 0 = nI m) {p : Int32} (hp : Up nk p)
    (hone : ∀ k, k ∈ up par p → nI k = p → 1 ≤ hf nk nb lk lb par kob k) :
    (¬ nw + ((up par p).map (rc nk nb lk lb par kob p)).sum ≤ 120 → fX8_whyNotThrown st p = some (-4)) ∧ (nw + ((up par p).map (rc nk nb lk lb par kob p)).sum ≤ 120 → (∀ k, k ∈ up par p → rc nk nb lk lb par kob p k ≤ m) → fX8_whyNotThrown st p = some 0) ∧
    (nw + ((up par p).map (rc nk nb lk lb par kob p)).sum ≤ 120 → (¬ ∀ k, k ∈ up par p → rc nk nb lk lb par kob p k ≤ m) → fX8_whyNotThrown st p = some (-5)) := by
  have key : ∀ cur, Up nk cur → ∀ fuel acc, (up par cur).length < fuel → (∀ k, k ∈ up par cur → nI k = p → 1 ≤ hf nk nb lk lb par kob k) → fX8_whyNotThrown_b4 fuel st p (nI acc) cur = if (nI nw + nI (acc + ((up par cur).map (rc nk nb lk lb par kob p)).sum)) ≤ 120 then ((fX8_throwMakes st p).bind fun q4 => (if 0 ≤ q4 then (some 0) else (some (-5)))) else some (-4) := by
    refine up_ind (Q := fun cur => ∀ fuel acc, (up par cur).length < fuel → (∀ k, k ∈ up par cur → nI k = p → 1 ≤ hf nk nb lk lb par kob k) → fX8_whyNotThrown_b4 fuel st p (nI acc) cur = if (nI nw + nI (acc + ((up par cur).map (rc nk nb lk lb par kob p)).sum)) ≤ 120 then ((fX8_throwMakes st p).bind fun q4 => (if 0 ≤ q4 then (some 0) else (some (-5)))) else some (-4)) hP ?_ ?_
    · intro fuel acc hf2 hone
      obtain ⟨f, rfl⟩ : ∃ f, fuel = f + 1 := ⟨fuel - 1, by omega⟩
      rw [fX8_whyNotThrown_b4, if_pos rfl, if_neg ix3, cl3, h3, up_6]
      rfl
    · intro q hq ih fuel acc hf2 hone
      rw [up_k hP hk hq] at hf2 hone ⊢
      rw [List.length_cons] at hf2
      obtain ⟨f, rfl⟩ : ∃ f, fuel = f + 1 := ⟨fuel - 1, by omega⟩
      have hsub := rc_sub (hone q List.mem_cons_self)
      have g := ih f (acc + rc nk nb lk lb par kob p q) (by omega) (fun k hk2 => hone k (List.mem_cons_of_mem _ hk2))
      rw [fX8_whyNotThrown_b4, if_neg (nI_ne6 (by omega)), hangingFrom_eq hk hb h1 h2 hK hBx q, Option.bind_some, key0 (by omega), Option.bind_some, Option.bind_some, (hK q hq).1, List.map_cons, List.sum_cons, ← Nat.add_assoc]
      by_cases h : nI q = p
      · rw [if_pos h] at hsub
        rw [if_pos h, hsub, nI_add]
        exact g
      · rw [if_neg h] at hsub
        rw [if_neg h, hsub, nI_add]
        exact g
  have hl := up_len20 hP hk hp
  have hs := sum_le (c := rc nk nb lk lb par kob p) (d := 40) (fun k => rc_le k) (up par p)
  have hs2 : ((up par p).map (rc nk nb lk lb par kob p)).sum ≤ 800 := by
    have := Nat.mul_le_mul_right 40 hl
    omega
  have g := key p hp 6000 0 (by omega) hone
  rw [Nat.zero_add, nI_add] at g
  have hT := throwMakes_eq hk hb h1 h2 hK hBx hP hm h0 hp hone
  refine ⟨fun q => ?_, fun q r => ?_, fun q r => ?_⟩
  · unfold fX8_whyNotThrown
    exact g.trans (if_neg (show ¬ nI _ ≤ (120 : Int32) from nI_ge (a := 120) (by omega) (by omega)))
  · unfold fX8_whyNotThrown
    refine g.trans ((if_pos (show nI _ ≤ (120 : Int32) from nI_le (b := 120) q (by omega))).trans ?_)
    rcases hT with ⟨e1, e2⟩ | ⟨e1, e2⟩
    · rw [e2, Option.bind_some, if_pos (show (0 : Int32) ≤ nI _ from nI_le (a := 0) (Nat.zero_le _) (by omega))]
    · exact absurd r e1
  · unfold fX8_whyNotThrown
    refine g.trans ((if_pos (show nI _ ≤ (120 : Int32) from nI_le (b := 120) q (by omega))).trans ?_)
    rcases hT with ⟨e1, e2⟩ | ⟨e1, e2⟩
    · exact absurd e1 r
    · rw [e2, Option.bind_some, if_neg (by decide)]
end COUNTS
