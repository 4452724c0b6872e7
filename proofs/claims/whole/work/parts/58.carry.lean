/-! faults of the text; the orders carried out -/
section TEXT
variable {n : Nat} {sg pd : Nat → Int32}
theorem rn_0 {b x1 x2 x3 x4 lt tg pc len : Int32} (hb : b = 0 ∨ b = 1) (h : fX3_readOrder sg len 0 lt tg pc = some (b, x1, x2, x3, x4)) : fX3_readNext sg len 0 lt tg pc = some (b, x1, x2, x3, x4) := by
  unfold fX3_readNext
  rw [if_pos rfl, h, Option.bind_some]
  rcases hb with rfl | rfl
  · rw [if_pos rfl]
  · rw [if_neg (show ¬ ((1 : Int32) = 0) by decide)]
theorem rn_1 {b x1 x2 x3 x4 lt tg pc len nx p : Int32} (hb : b = 0 ∨ b = 1) (h0 : ¬ nx = 0) (hs : fX3_skip sg len nx 59 = some (1, p)) (h : fX3_readOrder sg len p lt tg pc = some (b, x1, x2, x3, x4)) : fX3_readNext sg len nx lt tg pc = some (b, x1, x2, x3, x4) := by
  unfold fX3_readNext
  rw [if_neg h0, hs, Option.bind_some, if_neg (show ¬ ((1 : Int32) = 0) by decide), h, Option.bind_some]
  rcases hb with rfl | rfl
  · rw [if_pos rfl]
  · rw [if_neg (show ¬ ((1 : Int32) = 0) by decide)]
theorem rn_2 {lt tg pc len nx p : Int32} (h0 : ¬ nx = 0) (hs : fX3_skip sg len nx 59 = some (0, p)) : fX3_readNext sg len nx lt tg pc = some (0, p, lt, tg, pc) := by
  unfold fX3_readNext
  rw [if_neg h0, hs, Option.bind_some, if_pos rfl]
/-- the class stands at j0, the reference at p, where an order begins -/
def Beg (sg : Nat → Int32) (n j0 p : Nat) : Prop := (j0 = 0 ∧ p = 0) ∨ (0 < j0 ∧ j0 < n ∧ fX3_skip sg (nI n) (nI j0) 59 = some (1, nI (j0 + 1)) ∧ p = j0 + 1)
theorem rn_beg (hn : n ≤ 60) {j0 p : Nat} (hg : Beg sg n j0 p) {b x1 x2 x3 x4 lt tg pc : Int32} (hb : b = 0 ∨ b = 1) (h : fX3_readOrder sg (nI n) (nI p) lt tg pc = some (b, x1, x2, x3, x4)) : fX3_readNext sg (nI n) (nI j0) lt tg pc = some (b, x1, x2, x3, x4) := by
  rcases hg with ⟨rfl, rfl⟩ | ⟨h1, h2, h3, rfl⟩
  · exact rn_0 hb h
  · exact rn_1 hb (nI_ne0 h1 (by omega)) h3 h
theorem fault_both (hn : n ≤ 60) (hE : ∀ i, i < n → sg i = pd i) : ∀ F G j0 p cnt (lt tg pc lt' tg' pc' : Int32), Beg sg n j0 p → p ≤ n → cnt ≤ j0 → cnt < 60 → n < j0 + F → n < p + G →
    ∃ (v a b c d a' b' c' d' : Int32), fX3_findFault_b6 F sg (nI n) (nI j0) lt tg pc (nI cnt) = some (v, a, b, c, d) ∧ fX8_findFault_b5 G pd (nI n) (nI p) lt' tg' pc' = some (v, a', b', c', d') := by
  intro F
  have n1 : ¬ ((1 : Int32) = 0) := by decide
  induction F with
  | zero =>
    intro G j0 p cnt lt tg pc lt' tg' pc' hg hp h1 h2 h3 h4
    rcases hg with ⟨rfl, rfl⟩ | ⟨g1, g2, g3, rfl⟩ <;> omega
  | succ F ih =>
    intro G j0 p cnt lt tg pc lt' tg' pc' hg hp h1 h2 h3 h4
    obtain ⟨G, rfl⟩ : ∃ G', G = G' + 1 := ⟨G - 1, by omega⟩
    have hj0 : j0 ≤ p := by rcases hg with ⟨rfl, rfl⟩ | ⟨g1, g2, g3, rfl⟩ <;> omega
    obtain ⟨b, j, L, T, P, b1, b2, b3⟩ := order_both hn hE hp
    obtain ⟨L1, T1, P1, L2, T2, P2, c1, c2, -⟩ := b3 lt tg pc lt' tg' pc'
    have hb01 : b = 0 ∨ b = 1 := b2.imp id (fun q => q.1)
    have hr := rn_beg hn hg hb01 c1
    rw [fX3_findFault_b6, fX8_findFault_b5, if_neg (show ¬ (60 : Int32) ≤ nI cnt from nI_ge (a := cnt) (b := 60) h2 (by omega)), hr, c2, Option.bind_some, Option.bind_some]
    dsimp only
    rcases b2 with rfl | ⟨rfl, b4, -⟩
    · rw [if_pos rfl, if_pos rfl]
      exact ⟨_, _, _, _, _, _, _, _, _, rfl, rfl⟩
    · rw [if_neg n1, if_neg n1]
      by_cases hjn : j = n
      · subst hjn
        rw [more_out hn, if_pos rfl, if_pos rfl]
        exact ⟨_, _, _, _, _, _, _, _, _, rfl, rfl⟩
      · rw [more_in hn (by omega), if_neg n1, if_neg (fun q => hjn ((nI_eq (by omega) (by omega)).mp q)), nI_1]
        rcases skip_both hn hE b1 (K := 59) (by decide) (by decide) with ⟨s1, s2, s3⟩ | ⟨s2, s3⟩
        · rw [s3, Option.bind_some]
          dsimp only
          rw [if_neg n1]
          exact ih G j (j + 1) (cnt + 1) _ _ _ _ _ _ (Or.inr ⟨by omega, s1, s2, rfl⟩) s1 (by omega) (by omega) (by omega) (by omega)
        · rw [s3, Option.bind_some]
          dsimp only
          obtain ⟨F, rfl⟩ : ∃ F', F = F' + 1 := ⟨F - 1, by omega⟩
          rw [if_pos rfl, fX3_findFault_b6, if_neg (show ¬ (60 : Int32) ≤ nI (cnt + 1) from nI_ge (a := cnt + 1) (b := 60) (by omega) (by omega)), rn_2 (nI_ne0 (by omega) (by omega)) s2, Option.bind_some]
          dsimp only
          rw [if_pos rfl]
          exact ⟨_, _, _, _, _, _, _, _, _, rfl, rfl⟩
/-- from p on the text has no fault -/
def Good (pd : Nat → Int32) (n Q p : Nat) : Prop := ∃ (lt tg pc a b c d : Int32), fX8_findFault_b5 Q pd (nI n) (nI p) lt tg pc = some (-6, a, b, c, d)
theorem good_step (hn : n ≤ 60) (hE : ∀ i, i < n → sg i = pd i) {Q p j : Nat} (h : Good pd n Q p) {b : Int32} (hb : b = 0 ∨ b = 1) (hj : j ≤ n) (H : ∀ lt' tg' pc', ∃ L2 T2 P2, fX8_readsOrder pd (nI n) (nI p) lt' tg' pc' = some (b, nI j, L2, T2, P2)) :
    b = 1 ∧ (j = n ∨ (j < n ∧ fX3_skip sg (nI n) (nI j) 59 = some (1, nI (j + 1)) ∧ fX8_takes pd (nI n) (nI j) 59 = some (1, nI (j + 1)) ∧ ∃ Q', Good pd n Q' (j + 1))) := by
  obtain ⟨lt, tg, pc, a, b', c, d, e⟩ := h
  cases Q with
  | zero => rw [fX8_findFault_b5] at e; cases e
  | succ Q =>
    obtain ⟨L2, T2, P2, e2⟩ := H lt tg pc
    have n6 : ¬ nI j = -6 := nI_ne6 (by omega)
    rw [fX8_findFault_b5, e2, Option.bind_some] at e
    dsimp only at e
    rcases hb with rfl | rfl
    · rw [if_pos rfl] at e
      exact absurd (Prod.mk.inj (Option.some.inj e)).1 n6
    · refine ⟨rfl, ?_⟩
      rw [if_neg (show ¬ ((1 : Int32) = 0) by decide)] at e
      by_cases hjn : j = n
      · exact Or.inl hjn
      · rw [if_neg (fun q => hjn ((nI_eq (by omega) (by omega)).mp q))] at e
        rcases skip_both hn hE hj (K := 59) (by decide) (by decide) with ⟨s1, s2, s3⟩ | ⟨s2, s3⟩
        · rw [s3, Option.bind_some] at e
          dsimp only at e
          rw [if_neg (show ¬ ((1 : Int32) = 0) by decide)] at e
          exact Or.inr ⟨s1, s2, s3, Q, _, _, _, _, _, _, _, e⟩
        · rw [s3, Option.bind_some] at e
          dsimp only at e
          rw [if_pos rfl] at e
          exact absurd (Prod.mk.inj (Option.some.inj e)).1 n6
end TEXT
section ORDER
variable {B : Nat} {st : Nat → Int32}
theorem order_core (hB : B < 2 ^ 30) {v : HV} (h : RelV B st v) {L P1 P2 : Int32} (T : Int32) (hL : fX8_isOrder L = 1) (hP : L = 99 → P1 = P2) :
    ∃ (x : Int32) (v' : HV), fX7_carryOutOrder v.1 v.2.1 v.2.2.1 v.2.2.2.1 v.2.2.2.2.1 v.2.2.2.2.2.1 v.2.2.2.2.2.2.1 v.2.2.2.2.2.2.2.1 v.2.2.2.2.2.2.2.2.1 v.2.2.2.2.2.2.2.2.2.1 v.2.2.2.2.2.2.2.2.2.2.1 v.2.2.2.2.2.2.2.2.2.2.2.1 v.2.2.2.2.2.2.2.2.2.2.2.2.1 v.2.2.2.2.2.2.2.2.2.2.2.2.2.1 v.2.2.2.2.2.2.2.2.2.2.2.2.2.2 L T P1 = some (x, v'.2) ∧ v'.1 = v.1 ∧ ((x < 0 ∧ v' = v ∧ fX8_whyNotDone st L T P2 = some x) ∨ (¬ x < 0 ∧ fX8_whyNotDone st L T P2 = some 0 ∧ ∃ st', fX8_does st L T P2 = some st' ∧ RelV (B + 1) st' v')) := by
  obtain ⟨mw, ke, bo, lk, lb, par, mak, wea, kob, nu, hek, hew, clo, clm, sta⟩ := v
  unfold fX7_carryOutOrder fX8_whyNotDone fX8_does
  dsimp only
  by_cases h98 : L = 98
  · rw [if_pos h98, if_pos h98, if_pos h98]
    obtain ⟨x, v', e1, e2⟩ := core_box h T
    unfold cBox at e1
    obtain ⟨q, q1, q2⟩ := ob e1
    dsimp only at q1 q2
    obtain ⟨hx1, hv1⟩ := Prod.mk.inj (Option.some.inj q2)
    refine ⟨x, v', ?_, ?_, ?_⟩
    · rw [q1, Option.bind_some, hx1, ← hv1]
    · rw [← hv1]
    · rcases e2 with ⟨a1, a2, a3⟩ | ⟨a1, a3, st', a4, a5⟩
      · rw [a3, Option.bind_some]
        exact Or.inl ⟨a1, a2, rfl⟩
      · rw [a3, a4, Option.bind_some, Option.bind_some]
        exact Or.inr ⟨a1, rfl, st', rfl, a5⟩
  · rw [if_neg h98, if_neg h98, if_neg h98]
    by_cases h107 : L = 107
    · rw [if_pos h107, if_pos h107, if_pos h107]
      obtain ⟨x, v', e1, e2⟩ := core_key h T
      unfold cKey at e1
      obtain ⟨q, q1, q2⟩ := ob e1
      dsimp only at q1 q2
      obtain ⟨hx1, hv1⟩ := Prod.mk.inj (Option.some.inj q2)
      refine ⟨x, v', ?_, ?_, ?_⟩
      · rw [q1, Option.bind_some, hx1, ← hv1]
      · rw [← hv1]
      · rcases e2 with ⟨a1, a2, a3⟩ | ⟨a1, a3, st', a4, a5⟩
        · rw [a3, Option.bind_some]
          exact Or.inl ⟨a1, a2, rfl⟩
        · rw [a3, a4, Option.bind_some, Option.bind_some]
          exact Or.inr ⟨a1, rfl, st', rfl, a5⟩
    · rw [if_neg h107, if_neg h107, if_neg h107]
      by_cases h114 : L = 114
      · rw [if_pos h114, if_pos h114, if_pos h114]
        obtain ⟨x, v', e1, e2⟩ := core_renew hB h T
        unfold cRenew at e1
        obtain ⟨q, q1, q2⟩ := ob e1
        dsimp only at q1 q2
        obtain ⟨hx1, hv1⟩ := Prod.mk.inj (Option.some.inj q2)
        refine ⟨x, v', ?_, ?_, ?_⟩
        · rw [q1, Option.bind_some, hx1, ← hv1]
        · rw [← hv1]
        · rcases e2 with ⟨a1, a2, a3⟩ | ⟨a1, a3, st', a4, a5⟩
          · rw [a3, Option.bind_some]
            exact Or.inl ⟨a1, a2, rfl⟩
          · rw [a3, a4, Option.bind_some, Option.bind_some]
            exact Or.inr ⟨a1, rfl, st', rfl, a5⟩
      · rw [if_neg h114, if_neg h114, if_neg h114]
        by_cases h120 : L = 120
        · rw [if_pos h120, if_pos h120, if_pos h120]
          obtain ⟨x, v', e1, e2⟩ := core_throwKey hB h T
          unfold cThrow at e1
          obtain ⟨q, q1, q2⟩ := ob e1
          dsimp only at q1 q2
          obtain ⟨hx1, hv1⟩ := Prod.mk.inj (Option.some.inj q2)
          refine ⟨x, v', ?_, ?_, ?_⟩
          · rw [q1, Option.bind_some, hx1, ← hv1]
          · rw [← hv1]
          · rcases e2 with ⟨a1, a2, a3⟩ | ⟨a1, a3, st', a4, a5⟩
            · rw [a3, Option.bind_some]
              exact Or.inl ⟨a1, a2, rfl⟩
            · rw [a3, a4, Option.bind_some, Option.bind_some]
              exact Or.inr ⟨a1, rfl, st', rfl, a5⟩
        · rw [if_neg h120, if_neg h120, if_neg h120]
          by_cases h121 : L = 121
          · rw [if_pos h121, if_pos h121, if_pos h121]
            obtain ⟨x, v', e1, e2⟩ := core_throwBox hB h T
            unfold cThrow at e1
            obtain ⟨q, q1, q2⟩ := ob e1
            dsimp only at q1 q2
            obtain ⟨hx1, hv1⟩ := Prod.mk.inj (Option.some.inj q2)
            refine ⟨x, v', ?_, ?_, ?_⟩
            · rw [q1, Option.bind_some, hx1, ← hv1]
            · rw [← hv1]
            · rcases e2 with ⟨a1, a2, a3⟩ | ⟨a1, a3, st', a4, a5⟩
              · rw [a3, Option.bind_some]
                exact Or.inl ⟨a1, a2, rfl⟩
              · rw [a3, a4, Option.bind_some, Option.bind_some]
                exact Or.inr ⟨a1, rfl, st', rfl, a5⟩
          · rw [if_neg h121, if_neg h121, if_neg h121]
            have h99 : L = 99 := by
              unfold fX8_isOrder at hL
              rw [if_neg h107, if_neg h98, if_neg h114, if_neg h120, if_neg h121] at hL
              by_cases h : L = 99
              · exact h
              · rw [if_neg h] at hL; exact absurd hL (by decide)
            rw [hP h99]
            obtain ⟨x, v', e1, e2⟩ := core_copy h T P2
            unfold cCopy at e1
            obtain ⟨q, q1, q2⟩ := ob e1
            dsimp only at q1 q2
            obtain ⟨hx1, hv1⟩ := Prod.mk.inj (Option.some.inj q2)
            refine ⟨x, v', ?_, ?_, ?_⟩
            · rw [q1, Option.bind_some, hx1, ← hv1]
            · rw [← hv1]
            · rcases e2 with ⟨a1, a2, a3⟩ | ⟨a1, a3, st', a4, a5⟩
              · rw [a3, Option.bind_some]
                exact Or.inl ⟨a1, a2, rfl⟩
              · rw [a3, a4, Option.bind_some, Option.bind_some]
                exact Or.inr ⟨a1, rfl, st', rfl, a5⟩
end ORDER
section CARRY
variable {n : Nat} {sg pd : Nat → Int32}
theorem carry_loop {B0 : Nat} (hB0 : B0 < 2 ^ 29) (hn : n ≤ 60) (hE : ∀ i, i < n → sg i = pd i) {sp kp : Nat} (hs : sp < 7) (hk : kp ≤ 6) (hv : Nat → HV) (hi : Nat → Int32) (rec : Int32) : ∀ F G j0 p cnt (st : Nat → Int32) (v : HV) (lt tg pc lt' tg' pc' : Int32), RelV (B0 + cnt) st v → ((Beg sg n j0 p ∧ p ≤ n ∧ ∃ Q, Good pd n Q p) ∨ (j0 = n ∧ p = n)) → cnt ≤ j0 → n + 1 < j0 + F → n + 2 < p + G →
    ∃ (k : Nat) (v' : HV) (nx' L' T' P' : Int32) (st' : Nat → Int32) (a' b' c' d' : Int32), k ≤ 60 ∧ v'.1 = v.1 ∧ RelV (B0 + 60) st' v' ∧
      fX7_carryOut_b35 F v.1 v.2.1 v.2.2.1 v.2.2.2.1 v.2.2.2.2.1 v.2.2.2.2.2.1 v.2.2.2.2.2.2.1 v.2.2.2.2.2.2.2.1 v.2.2.2.2.2.2.2.2.1 v.2.2.2.2.2.2.2.2.2.1 v.2.2.2.2.2.2.2.2.2.2.1 v.2.2.2.2.2.2.2.2.2.2.2.1 v.2.2.2.2.2.2.2.2.2.2.2.2.1 v.2.2.2.2.2.2.2.2.2.2.2.2.2.1 v.2.2.2.2.2.2.2.2.2.2.2.2.2.2 sg (nI n) (nI j0) lt tg pc (nI sp) (nI kp) hv (nI cnt) = some (nI k, v'.2.1, v'.2.2.1, v'.2.2.2.1, v'.2.2.2.2.1, v'.2.2.2.2.2.1, v'.2.2.2.2.2.2.1, v'.2.2.2.2.2.2.2.1, v'.2.2.2.2.2.2.2.2.1, v'.2.2.2.2.2.2.2.2.2.1, v'.2.2.2.2.2.2.2.2.2.2.1, v'.2.2.2.2.2.2.2.2.2.2.2.1, v'.2.2.2.2.2.2.2.2.2.2.2.2.1, v'.2.2.2.2.2.2.2.2.2.2.2.2.2.1, v'.2.2.2.2.2.2.2.2.2.2.2.2.2.2, 0, nx', L', T', P', nI ((sp + 1) % 7), nI (min (kp + 1) 6), hv) ∧
      fX8_carryOut_b25 G st hi rec pd (nI n) (nI p) lt' tg' pc' (nI cnt) 1 = some (nI k, st', hi, rec, 0, a', b', c', d') := by
  intro F
  have n1 : ¬ ((1 : Int32) = 0) := by decide
  have cl : ∀ x : Int32, fX3_clear x = some (x, 0) := fun _ => rfl
  induction F with
  | zero =>
    intro G j0 p cnt st v lt tg pc lt' tg' pc' hR hg h1 h2 h3
    rcases hg with ⟨⟨rfl, rfl⟩ | ⟨g1, g2, g3, rfl⟩, -⟩ | ⟨rfl, rfl⟩ <;> omega
  | succ F ih =>
    intro G j0 p cnt st v lt tg pc lt' tg' pc' hR hg h1 h2 h3
    have hp : p ≤ n := by rcases hg with ⟨-, q, -⟩ | ⟨-, q⟩ <;> omega
    obtain ⟨G, rfl⟩ : ∃ G', G = G' + 1 := ⟨G - 1, by omega⟩
    have hset : cnt ≤ 60 → fX0_settle (nI sp) (nI kp) (nI cnt) = some (nI cnt, nI ((sp + 1) % 7), nI (min (kp + 1) 6)) := fun _ => settle_pos hs hk (nI_pos (by omega))
    rw [fX7_carryOut_b35, fX8_carryOut_b25, if_neg n1]
    rcases hg with ⟨hg, -, Q, hQ⟩ | ⟨rfl, rfl⟩
    · obtain ⟨b, j, L, T, P, b1, b2, b3⟩ := order_both hn hE hp
      have hb01 : b = 0 ∨ b = 1 := b2.imp id (fun q => q.1)
      obtain ⟨rfl, hgo⟩ := good_step hn hE hQ hb01 b1 (fun x y z => by
        obtain ⟨L1, T1, P1, L2, T2, P2, c1, c2, -⟩ := b3 0 0 0 x y z
        exact ⟨L2, T2, P2, c2⟩)
      obtain ⟨b4, hL⟩ : p < j ∧ fX8_isOrder L = 1 := b2.elim (fun q => absurd q (by decide)) (fun q => q.2)
      have hj0 : j0 < n ∧ j0 ≤ p := by rcases hg with ⟨rfl, rfl⟩ | ⟨g1, g2, g3, rfl⟩ <;> omega
      obtain ⟨L1, T1, P1, L2, T2, P2, c1, c2, c3⟩ := b3 lt tg pc lt' tg' pc'
      obtain ⟨rfl, rfl, rfl, rfl, hPP⟩ := c3 rfl
      have hr := rn_beg hn hg (Or.inr rfl) c1
      obtain ⟨x, v', o1, o2, o3⟩ := order_core (by omega) hR (P1 := P1) (P2 := P2) T2 hL (fun q => (hPP q).1.trans (hPP q).2.symm)
      obtain ⟨p', f, t1, t2⟩ : ∃ p' f, fX8_takes pd (nI n) (nI j) 59 = some (f, nI p') ∧ ((Beg sg n j p' ∧ p' ≤ n ∧ (∃ Q, Good pd n Q p') ∧ p < p') ∨ (j = n ∧ p' = n)) := by
        rcases hgo with rfl | ⟨s1, s2, s3, Q', s4⟩
        · rcases skip_both hn hE b1 (K := 59) (by decide) (by decide) with ⟨s1, s2, s3⟩ | ⟨s2, s3⟩
          · omega
          · exact ⟨j, 0, s3, Or.inr ⟨rfl, rfl⟩⟩
        · exact ⟨j + 1, 1, s3, Or.inl ⟨Or.inr ⟨by omega, s1, s2, rfl⟩, s1, ⟨Q', s4⟩, by omega⟩⟩
      have hpp : p < p' := by rcases t2 with ⟨-, -, -, q⟩ | ⟨q, rfl⟩ <;> omega
      rw [if_neg (show ¬ (60 : Int32) ≤ nI cnt from nI_ge (a := cnt) (b := 60) (by omega) (by omega)), more_in hn hj0.1, if_neg n1, hr, Option.bind_some, if_neg (nI_ge (by omega) (by omega)), c2, Option.bind_some]
      dsimp only
      rw [if_neg n1, o1, Option.bind_some, t1, Option.bind_some]
      dsimp only
      rcases o3 with ⟨x1, rfl, x3⟩ | ⟨x1, x3, st', x4, x5⟩
      · rw [if_pos x1, cl, Option.bind_some, hset (by omega), Option.bind_some, x3, Option.bind_some, if_neg (show ¬ x = 0 from fun q => by rw [q] at x1; exact absurd x1 (by decide))]
        dsimp only
        obtain ⟨G, rfl⟩ : ∃ G', G = G' + 1 := ⟨G - 1, by omega⟩
        rw [fX8_carryOut_b25, if_pos rfl]
        exact ⟨cnt, v', _, _, _, _, st, _, _, _, _, by omega, rfl, RelV_mono hR (by omega), rfl, rfl⟩
      · rw [if_neg x1, x3, Option.bind_some, if_pos rfl, x4, Option.bind_some, nI_1, ← o2]
        exact ih G j p' (cnt + 1) st' v' _ _ _ _ _ _ x5 (t2.imp (fun q => ⟨q.1, q.2.1, q.2.2.1⟩) id) (by omega) (by omega) (by omega)
    · have hend : (if (60 : Int32) ≤ nI cnt then True else True) := by split <;> trivial
      rw [more_out hn, if_pos rfl, cl, Option.bind_some, hset (by omega), Option.bind_some, if_pos (nI_le (Nat.le_refl _) (by omega)), ite_self]
      exact ⟨cnt, v, _, _, _, _, st, _, _, _, _, by omega, rfl, RelV_mono hR (by omega), rfl, rfl⟩
end CARRY
section OPS
variable {n : Nat} {c : CS} {r : RS}
theorem step_fault (h : Inv0 n c r) : agree Inv0 n (sX7_fault c) (sX8_fault r) := by
  obtain ⟨⟨mw, ke, bo, lk, lb, par, mak, wea, kob, nu, hek, hew, clo, clm, sta⟩, ⟨sm, op⟩, ⟨sg, ln, nx, lt, tg, pc⟩, ⟨spare, kept⟩, hv, on, sv⟩ := c
  obtain ⟨st, hi, rec, slots, isS, pad, pl, opn, at_, le, fi, se⟩ := r
  obtain ⟨hR, hHi, ⟨k, k1, e1, e2, k3⟩, hS⟩ := Inv0_up h
  dsimp only at hR hHi e1 e2 k3 hS
  subst e1 e2
  obtain ⟨v, a, b, c, d, a', b', c', d', f1, f2⟩ := fault_both k1 (fun i hi => (k3 i hi).1) 6000 6000 0 0 0 lt tg pc le fi se (Or.inl ⟨rfl, rfl⟩) (Nat.zero_le _) (Nat.le_refl _) (by omega) (by omega) (by omega)
  have f1 : fX3_findFault sg (nI k) nx lt tg pc = some (v, a, b, c, d) := f1
  have f2 : fX8_findFault pad (nI k) at_ le fi se = some (v, a', b', c', d') := f2
  refine ⟨v, ((mw, ke, bo, lk, lb, par, mak, wea, kob, nu, hek, hew, clo, clm, sta), (sm, op), (sg, nI k, a, b, c, d), (spare, kept), hv, on, sv), (st, hi, rec, slots, isS, pad, nI k, opn, a', b', c', d'), ?_, ?_, ⟨hR, hHi, ⟨k, k1, rfl, rfl, k3⟩, hS⟩⟩
  · unfold sX7_fault fX7_fault
    dsimp only
    rw [f1]; rfl
  · unfold sX8_fault fX8_fault
    dsimp only
    rw [f2]; rfl
theorem step_carryOut (hn : n ≤ 512) (h : Inv0 n c r) : agree Inv0 n (sX7_carryOut c) (sX8_carryOut r) := by
  obtain ⟨⟨mw, ke, bo, lk, lb, par, mak, wea, kob, nu, hek, hew, clo, clm, sta⟩, ⟨sm, op⟩, ⟨sg, ln, nx, lt, tg, pc⟩, ⟨spare, kept⟩, hv, on, sv⟩ := c
  obtain ⟨st, hi, rec, slots, isS, pad, pl, opn, at_, le, fi, se⟩ := r
  have hup := Inv0_up h
  obtain ⟨hR, ⟨sp, kp, q1, q2, q3, hH⟩, ⟨k, k1, e1, e2, k3⟩, hS⟩ := h
  dsimp only at hR q1 q2 q3 e1 e2 k3 hS
  subst q1 q2 q3 e1 e2
  have hE : ∀ i, i < k → sg i = pad i := fun i hi => (k3 i hi).1
  obtain ⟨v, a, b, c, d, a', b', c', d', f1, f2⟩ := fault_both k1 hE 6000 6000 0 0 0 lt tg pc le fi se (Or.inl ⟨rfl, rfl⟩) (Nat.zero_le _) (Nat.le_refl _) (by omega) (by omega) (by omega)
  have g1 : fX3_findFault sg (nI k) nx lt tg pc = some (v, a, b, c, d) := f1
  have g2 : fX8_findFault pad (nI k) at_ le fi se = some (v, a', b', c', d') := f2
  by_cases h6 : v = -6
  · subst h6
    have hGood : Good pad k 6000 0 := ⟨le, fi, se, a', b', c', d', f2⟩
    obtain ⟨hi', r1, hH'⟩ := hist_add hH hR
    have en := note_eq hH.1 (mw, ke, bo, lk, lb, par, mak, wea, kob, nu, hek, hew, clo, clm, sta) hv
    dsimp only at en
    obtain ⟨z, v', nx', L', T', P', st', a2, b2, c2, d2, z1, z2, z3, z4, z5⟩ := carry_loop (B0 := 60 * n) (by omega) k1 hE hH.1 hH.2.1 (va_up hv sp (copyV (hv sp) (mw, ke, bo, lk, lb, par, mak, wea, kob, nu, hek, hew, clo, clm, sta))) hi' (nI (min (kp + 1) 6)) 6000 6000 0 0 0 st (mw, ke, bo, lk, lb, par, mak, wea, kob, nu, hek, hew, clo, clm, sta) b c d b' c' d' hR (Or.inl ⟨Or.inl ⟨rfl, rfl⟩, Nat.zero_le _, 6000, hGood⟩) (Nat.le_refl _) (by omega) (by omega)
    obtain ⟨mw', ke', bo', lk', lb', par', mak', wea', kob', nu', hek', hew', clo', clm', sta'⟩ := v'
    have z2 : mw' = mw := z2
    subst z2
    dsimp only at z4
    refine ⟨nI z, ((mw', ke', bo', lk', lb', par', mak', wea', kob', nu', hek', hew', clo', clm', sta'), (sm, op), (sg, nI 0, nx', L', T', P'), (nI ((sp + 1) % 7), nI (min (kp + 1) 6)), va_up hv sp (copyV (hv sp) (mw', ke, bo, lk, lb, par, mak, wea, kob, nu, hek, hew, clo, clm, sta)), on, sv), (st', hi', nI (min (kp + 1) 6), slots, isS, pad, nI 0, opn, a2, b2, c2, d2), ?_, ?_, ⟨RelV_mono z3 (by omega), ⟨_, _, rfl, rfl, rfl, HistR_mono hH' (by omega)⟩, ⟨0, Nat.zero_le _, rfl, rfl, fun i hi2 => absurd hi2 (Nat.not_lt_zero _)⟩, slotR_mono hS (by omega)⟩⟩
    · unfold sX7_carryOut fX7_carryOut
      dsimp only
      rw [g1, Option.bind_some]
      dsimp only
      have z4' : fX7_carryOut_b35 6000 mw' ke bo lk lb par mak wea kob nu hek hew clo clm sta sg (nI k) (fX3_startReading a) b c d (nI sp) (nI kp) (va_up hv sp (copyV (hv sp) (mw', ke, bo, lk, lb, par, mak, wea, kob, nu, hek, hew, clo, clm, sta))) 0 = _ := z4
      rw [if_pos rfl, en, Option.bind_some, z4', Option.bind_some]
      rfl
    · unfold sX8_carryOut fX8_carryOut
      dsimp only
      rw [g2, Option.bind_some]
      dsimp only
      have z5' : fX8_carryOut_b25 6000 st hi' (nI (min (kp + 1) 6)) pad (nI k) 0 b' c' d' 0 1 = _ := z5
      rw [if_pos rfl, r1, Option.bind_some]
      dsimp only
      rw [z5', Option.bind_some]
      rfl
  · refine ⟨-3, ((mw, ke, bo, lk, lb, par, mak, wea, kob, nu, hek, hew, clo, clm, sta), (sm, op), (sg, nI k, a, b, c, d), (nI sp, nI kp), hv, on, sv), (st, hi, nI kp, slots, isS, pad, nI k, opn, a', b', c', d'), ?_, ?_, hup⟩
    · unfold sX7_carryOut fX7_carryOut
      dsimp only
      rw [g1, Option.bind_some, if_neg h6]
      rfl
    · unfold sX8_carryOut fX8_carryOut
      dsimp only
      rw [g2, Option.bind_some, if_neg h6]
      rfl
end OPS
