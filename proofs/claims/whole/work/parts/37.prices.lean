/-! prices of sets -/
theorem prices_of {n : Nat} {par : Nat → Nat} {oP oA mP : Nat → Int32} (T : TR n par oP oA mP) {g la yr s w : Int32} (s2 : sp_X6_standing g (nI n) mP = some s) (w1 : sp_X1_twigsOf s (nI n) oP = some w) (w3 : ∀ j, tb w j = twf n par s j) {q : Nat} {st en tx ts : Nat → Int32} (hq : pr_text q st en tx ts) {wh : Nat} (hwh : wh < 3) : ∃ pc : Nat → Nat, (∀ i, i < n → pc i ≤ 100) ∧ (∀ (all : Int32) (stk px facts : Nat → Int32), (∀ i, tb all i = true → i < n) → ∃ stk' px' facts', sp_X5_keepPrices all (nI wh) s (nI n) yr la (nI q) oP oA st en stk px facts = some (stk', px', facts') ∧ ∀ i, i < 12 → px' i = if tb all i = true then nI (pc i) else 0) ∧ (∀ (all aN aD aK aT aL aY b1 b2 b3 b4 b5 b6 b7 b8 : Int32) (tw : Int64) (pm : Nat → Int32), ∃ o, sp_X6_gathers (nI wh) all (nI q) (nI n) la g yr aN aD aK aT aL aY b1 b2 b3 b4 b5 b6 b7 b8 tw tx ts mP pm = some o ∧ ∀ i, i < n → o.2.2.2.2.2.2.2.2.2.2.2.2.2.2.2 i = if tb all i = true then nI (pc i) else 0) := by
  have hn := T.2.1
  have A : ∀ i, ∃ c, i < n → c ≤ 100 ∧ (∀ stk facts, ∃ stk' facts', sp_X5_priceOf (nI i) (nI wh) s (nI n) yr la (nI q) oP oA st en stk facts = some (nI c, stk', facts')) ∧ (∀ (aN aD aK aT aL aY b1 b2 b3 b4 b5 b6 b7 b8 : Int32) (tw : Int64), ∃ o, sp_X6_says (nI wh) (nI i) (nI q) (nI n) la g yr aN aD aK aT aL aY b1 b2 b3 b4 b5 b6 b7 b8 tw tx ts mP = some o ∧ o.1 = nI c) := by
    intro i
    by_cases h : i < n
    · obtain ⟨c, hc⟩ := price_both (la := la) (yr := yr) T s2 w1 w3 hq h hwh
      exact ⟨c, fun _ => hc⟩
    · exact ⟨0, fun q => absurd q h⟩
  obtain ⟨pc, hpc⟩ := Classical.skolem.mp A
  refine ⟨pc, fun i hi => (hpc i hi).1, ?_, ?_⟩
  · intro all stk px facts hall
    have gen : ∀ (k j fuel : Nat) (stk px facts : Nat → Int32), j + k = 12 → k + 1 ≤ fuel → (∀ i, i < j → px i = if tb all i = true then nI (pc i) else 0) → ∃ stk' px' facts', sp_X5_keepPrices_3 all (nI wh) s (nI n) yr la (nI q) oP oA st en fuel (nI j) stk px facts = some (stk', px', facts') ∧ ∀ i, i < 12 → px' i = if tb all i = true then nI (pc i) else 0 := by
      intro k
      induction k with
      | zero =>
        intro j fuel stk px facts hj hf h
        obtain ⟨m, rfl⟩ : ∃ m, fuel = m + 1 := ⟨fuel - 1, by omega⟩
        have : j = 12 := by omega
        subst this
        rw [sp_X5_keepPrices_3, if_pos (by decide)]
        exact ⟨_, _, _, rfl, h⟩
      | succ k ih =>
        intro j fuel stk px facts hj hf h
        obtain ⟨m, rfl⟩ : ∃ m, fuel = m + 1 := ⟨fuel - 1, by omega⟩
        rw [sp_X5_keepPrices_3, if_neg (show ¬ (12 : Int32) ≤ nI j from nI_ge (b := 12) (by omega) (by decide)), nI_1]
        by_cases t : tb all j = true
        · obtain ⟨_, c2, _⟩ := hpc j (hall j t)
          obtain ⟨stk', facts', e⟩ := c2 stk facts
          rw [if_pos (bit1 (by omega) t), e, ob_s, xo_set_nI (by omega) lt31, ob_s]
          apply ih (j + 1) m _ _ _ (by omega) (by omega)
          intro i hi
          by_cases e : i = j
          · subst e; rw [pk_us, if_pos t]
          · rw [pk_un e]; exact h i (by omega)
        · rw [if_neg (bit1n (by omega) (tbf t)), xo_set_nI (by omega) lt31, ob_s]
          apply ih (j + 1) m _ _ _ (by omega) (by omega)
          intro i hi
          by_cases e : i = j
          · subst e; rw [pk_us, if_neg t]
          · rw [pk_un e]; exact h i (by omega)
    exact gen 12 0 5000 stk px facts rfl (by omega) (fun i hi => absurd hi (by omega))
  · intro all aN aD aK aT aL aY b1 b2 b3 b4 b5 b6 b7 b8 tw pm
    have gen : ∀ (k j fuel : Nat) (aN aD aK aT aL aY b1 b2 b3 b4 b5 b6 b7 b8 : Int32) (tw : Int64) (pm : Nat → Int32), j + k = n → k + 1 ≤ fuel → (∀ i, i < j → pm i = if tb all i = true then nI (pc i) else 0) → ∃ o, sp_X6_gathers_2 (nI wh) all (nI q) (nI n) la g yr tx ts mP fuel (nI j) aN aD aK aT aL aY b1 b2 b3 b4 b5 b6 b7 b8 tw pm = some o ∧ ∀ i, i < n → o.2.2.2.2.2.2.2.2.2.2.2.2.2.2.2 i = if tb all i = true then nI (pc i) else 0 := by
      intro k
      induction k with
      | zero =>
        intro j fuel aN aD aK aT aL aY b1 b2 b3 b4 b5 b6 b7 b8 tw pm hj hf h
        obtain ⟨m, rfl⟩ : ∃ m, fuel = m + 1 := ⟨fuel - 1, by omega⟩
        have : j = n := by omega
        subst this
        rw [sp_X6_gathers_2, if_pos (nI_le (Nat.le_refl _) (by omega))]
        exact ⟨_, rfl, h⟩
      | succ k ih =>
        intro j fuel aN aD aK aT aL aY b1 b2 b3 b4 b5 b6 b7 b8 tw pm hj hf h
        obtain ⟨m, rfl⟩ : ∃ m, fuel = m + 1 := ⟨fuel - 1, by omega⟩
        rw [sp_X6_gathers_2, if_neg (nI_ge (by omega) (by omega)), nI_1]
        by_cases t : tb all j = true
        · obtain ⟨_, _, c3⟩ := hpc j (by omega)
          obtain ⟨o, o1, o2⟩ := c3 aN aD aK aT aL aY b1 b2 b3 b4 b5 b6 b7 b8 tw
          rw [if_pos (shr1 (by omega) t), o1, ob_s, xo_set_nI (by omega) lt31, ob_s]
          refine ih (j + 1) m _ _ _ _ _ _ _ _ _ _ _ _ _ _ _ _ (by omega) (by omega) ?_
          intro i hi
          by_cases e : i = j
          · subst e; rw [pk_us, if_pos t, o2]
          · rw [pk_un e]; exact h i (by omega)
        · rw [if_neg (shr1n (by omega) (tbf t)), xo_set_nI (by omega) lt31, ob_s]
          refine ih (j + 1) m _ _ _ _ _ _ _ _ _ _ _ _ _ _ _ _ (by omega) (by omega) ?_
          intro i hi
          by_cases e : i = j
          · subst e; rw [pk_us, if_neg t]
          · rw [pk_un e]; exact h i (by omega)
    have := gen n 0 5000 aN aD aK aT aL aY b1 b2 b3 b4 b5 b6 b7 b8 tw pm (by omega) (by omega) (fun i hi => absurd hi (by omega))
    rw [nI_0] at this
    exact this
theorem ps_both {n : Nat} (hn : n ≤ 12) {x : Int32} {px pm : Nat → Int32} (hx : ∀ i, tb x i = true → i < n ∧ px i = pm i) : ∃ v, sp_X5_priceOfSet x px = some v ∧ sp_X6_priceOf x (nI n) pm = some v := by
  have tail : ∀ (k j fuel : Nat) (a : Int32), j + k = 12 → n ≤ j → k + 1 ≤ fuel → sp_X5_priceOfSet_4 x px fuel a (nI j) = some a := by
    intro k
    induction k with
    | zero =>
      intro j fuel a hj h1 hf
      obtain ⟨m, rfl⟩ : ∃ m, fuel = m + 1 := ⟨fuel - 1, by omega⟩
      have : j = 12 := by omega
      subst this
      rw [sp_X5_priceOfSet_4, if_pos (by decide)]
    | succ k ih =>
      intro j fuel a hj h1 hf
      obtain ⟨m, rfl⟩ : ∃ m, fuel = m + 1 := ⟨fuel - 1, by omega⟩
      have t : tb x j = false := tbf (fun q => by have := (hx j q).1; omega)
      rw [sp_X5_priceOfSet_4, if_neg (show ¬ (12 : Int32) ≤ nI j from nI_ge (b := 12) (by omega) (by decide)), if_neg (bit1n (by omega) t), nI_1]
      exact ih (j + 1) m a (by omega) (by omega) (by omega)
  have gen : ∀ (k j f1 f2 : Nat) (a : Int32), j + k = n → 13 ≤ f1 + j → k + 1 ≤ f2 → ∃ v, sp_X5_priceOfSet_4 x px f1 a (nI j) = some v ∧ sp_X6_priceOf_4 x (nI n) pm f2 a (nI j) = some v := by
    intro k
    induction k with
    | zero =>
      intro j f1 f2 a hj h1 hf
      obtain ⟨m, rfl⟩ : ∃ m, f2 = m + 1 := ⟨f2 - 1, by omega⟩
      have : j = n := by omega
      subst this
      refine ⟨a, tail (12 - j) j f1 a (by omega) (Nat.le_refl _) (by omega), ?_⟩
      rw [sp_X6_priceOf_4, if_pos (nI_le (Nat.le_refl _) (by omega))]
    | succ k ih =>
      intro j f1 f2 a hj h1 hf
      obtain ⟨m1, rfl⟩ : ∃ m, f1 = m + 1 := ⟨f1 - 1, by omega⟩
      obtain ⟨m2, rfl⟩ : ∃ m, f2 = m + 1 := ⟨f2 - 1, by omega⟩
      rw [sp_X5_priceOfSet_4, if_neg (show ¬ (12 : Int32) ≤ nI j from nI_ge (b := 12) (by omega) (by decide)), sp_X6_priceOf_4, if_neg (nI_ge (by omega) (by omega)), xo_at_nI (by omega) lt31, ob_s, shr_nI x (by omega), nI_1]
      by_cases t : tb x j = true
      · rw [if_pos (bit1 (by omega) t), xo_at_nI (by omega) lt31, ob_s, t, (hx j t).2, show bI true = 1 from rfl, Int32.one_mul]
        exact ih (j + 1) m1 m2 _ (by omega) (by omega) (by omega)
      · rw [if_neg (bit1n (by omega) (tbf t)), xo_at_nI (by omega) lt31, ob_s, tbf t, show bI false = 0 from rfl, Int32.zero_mul, Int32.add_zero]
        exact ih (j + 1) m1 m2 _ (by omega) (by omega) (by omega)
  exact gen n 0 5000 5000 0 (by omega) (by omega) (by omega)
def lsN (M : Bool) (best least u cst : Int32) : Int32 × Int32 := if M = true ∧ (best = -1 ∨ ¬ least ≤ cst) then (u, cst) else (best, least)
theorem ls_step {cu v so wt s w W g mi la best least cst sz : Int32} {u k : Nat} {M : Bool} {oP oK oN oA px : Nat → Int32} (hk : ¬ W ≤ nI k) (hbr : ∀ kc ld, ∃ kc' ld', sp_X5_brings cu (nI u) s v sz g mi la oP oK oN oA kc ld = some (bI M, kc', ld')) (c0 : so = 0 → sp_J6_bitCount_0f7a4 (nI u) = cst) (c1 : ¬ so = 0 → sp_X5_priceOfSet (nI u) px = some cst) (f : Nat) (kc ld stk fa : Nat → Int32) : ∃ kc' ld', sp_X5_leastSet_71 cu v so wt s w W sz g mi la oP oK oN oA (f + 1) best least (nI u) (nI k) kc ld stk px fa = sp_X5_leastSet_71 cu v so wt s w W sz g mi la oP oK oN oA f (lsN M best least (nI u) cst).1 (lsN M best least (nI u) cst).2 (sp_X5_nextSet (nI u) w) (nI k + 1) kc' ld' stk px fa := by
  obtain ⟨kc', ld', e⟩ := hbr kc ld
  rw [sp_X5_leastSet_71, if_neg hk]
  by_cases z : so = 0
  · rw [if_pos z, c0 z, e, ob_s]
    dsimp only
    by_cases b : best = -1
    · rw [if_pos b]
      cases M
      · rw [if_pos (show bI false = 0 from rfl), lsN, if_neg (fun q => absurd q.1 (by decide))]
        exact ⟨_, _, rfl⟩
      · rw [if_neg (show ¬ bI true = 0 by decide), lsN, if_pos ⟨rfl, Or.inl b⟩]
        exact ⟨_, _, rfl⟩
    · rw [if_neg b]
      by_cases le : least ≤ cst
      · rw [if_pos le, lsN, if_neg (fun q => q.2.elim b (fun r => r le))]
        exact ⟨_, _, rfl⟩
      · rw [if_neg le]
        cases M
        · rw [if_pos (show bI false = 0 from rfl), lsN, if_neg (fun q => absurd q.1 (by decide))]
          exact ⟨_, _, rfl⟩
        · rw [if_neg (show ¬ bI true = 0 by decide), lsN, if_pos ⟨rfl, Or.inr le⟩]
          exact ⟨_, _, rfl⟩
  · rw [if_neg z, c1 z, ob_s, e, ob_s]
    dsimp only
    by_cases b : best = -1
    · rw [if_pos b]
      cases M
      · rw [if_pos (show bI false = 0 from rfl), lsN, if_neg (fun q => absurd q.1 (by decide))]
        exact ⟨_, _, rfl⟩
      · rw [if_neg (show ¬ bI true = 0 by decide), lsN, if_pos ⟨rfl, Or.inl b⟩]
        exact ⟨_, _, rfl⟩
    · rw [if_neg b]
      by_cases le : least ≤ cst
      · rw [if_pos le, lsN, if_neg (fun q => q.2.elim b (fun r => r le))]
        exact ⟨_, _, rfl⟩
      · rw [if_neg le]
        cases M
        · rw [if_pos (show bI false = 0 from rfl), lsN, if_neg (fun q => absurd q.1 (by decide))]
          exact ⟨_, _, rfl⟩
        · rw [if_neg (show ¬ bI true = 0 by decide), lsN, if_pos ⟨rfl, Or.inr le⟩]
          exact ⟨_, _, rfl⟩
theorem mi_step {n u : Nat} {mP mK mN pm : Nat → Int32} {v so wt w g mi la best least cst : Int32} {L : Bool} (hn2 : xi_shl 1 (nI n) = nI (2 ^ n)) (hu : u < 2 ^ n) (hp : 2 ^ n ≤ 4096) (hs : (nI u &&& (w ^^^ (-1))) = 0)  (hlaw : ∀ ye no, ∃ ye' no', sp_X6_lawOf g (mi ^^^ nI u) (nI n) la mP mK mN ye no = some (bI L, ye', no')) (c0 : so = 0 → sp_X6_bitsOf (nI u) = some cst) (c1 : ¬ so = 0 → sp_X6_priceOf (nI u) (nI n) pm = some cst) (d : best = -1 ∨ ((so = 0 → sp_X6_bitsOf best = some least) ∧ (¬ so = 0 → sp_X6_priceOf best (nI n) pm = some least) ∧ ¬ best = -1)) (f : Nat) (aN aD aK aT aL aY b1 b2 b3 b4 b5 b6 b7 b8 : Int32) (tw : Int64) (ye no : Nat → Int32) : ∃ ye' no', sp_X6_minds_62 v so wt w (nI n) mi la g mP mK mN (f + 1) best (nI u) aN aD aK aT aL aY b1 b2 b3 b4 b5 b6 b7 b8 tw ye no pm = sp_X6_minds_62 v so wt w (nI n) mi la g mP mK mN f (lsN (decide (bI L = v)) best least (nI u) cst).1 (nI u + 1) aN aD aK aT aL aY b1 b2 b3 b4 b5 b6 b7 b8 tw ye' no' pm := by
    obtain ⟨ye', no', e⟩ := hlaw ye no
    rw [sp_X6_minds_62, hn2, if_neg (nI_ge hu (by omega)), if_pos hs]
    rw [e, ob_s]
    dsimp only
    by_cases hm : bI L = v
    · rw [if_pos hm, decide_eq_true hm]
      rcases d with d | ⟨d1, d2, d3⟩
      · rw [if_pos d, lsN, if_pos ⟨rfl, Or.inl d⟩]
        exact ⟨_, _, rfl⟩
      · rw [if_neg d3]
        by_cases z : so = 0
        · rw [if_pos z, c0 z, ob_s, d1 z, ob_s]
          by_cases le : least ≤ cst
          · rw [if_pos le, lsN, if_neg (fun q => q.2.elim d3 (fun r => r le))]
            exact ⟨_, _, rfl⟩
          · rw [if_neg le, lsN, if_pos ⟨rfl, Or.inr le⟩]
            exact ⟨_, _, rfl⟩
        · rw [if_neg z, c1 z, ob_s, d2 z, ob_s]
          by_cases le : least ≤ cst
          · rw [if_pos le, lsN, if_neg (fun q => q.2.elim d3 (fun r => r le))]
            exact ⟨_, _, rfl⟩
          · rw [if_neg le, lsN, if_pos ⟨rfl, Or.inr le⟩]
            exact ⟨_, _, rfl⟩
    · rw [if_neg hm, decide_eq_false hm, lsN, if_neg (fun q => absurd q.1 (by decide))]
      exact ⟨_, _, rfl⟩
theorem cu_step {n u : Nat} {mP mK mN pm : Nat → Int32} {v so wt w g mi la best least cst : Int32} {L : Bool} (nb : Bool) (hn2 : xi_shl 1 (nI n) = nI (2 ^ n)) (hu : u < 2 ^ n) (hp : 2 ^ n ≤ 4096) (hs : (nI u &&& (w ^^^ (-1))) = 0) (hap : sp_X6_areApart (nI u) (nI n) mP = some (bI (!nb))) (hlaw : ∀ ye no, ∃ ye' no', sp_X6_lawOf (g ||| nI u) mi (nI n) la mP mK mN ye no = some (bI L, ye', no')) (c0 : so = 0 → sp_X6_bitsOf (nI u) = some cst) (c1 : ¬ so = 0 → sp_X6_priceOf (nI u) (nI n) pm = some cst) (d : best = -1 ∨ ((so = 0 → sp_X6_bitsOf best = some least) ∧ (¬ so = 0 → sp_X6_priceOf best (nI n) pm = some least) ∧ ¬ best = -1)) (f : Nat) (aN aD aK aT aL aY b1 b2 b3 b4 b5 b6 b7 b8 : Int32) (tw : Int64) (ye no : Nat → Int32) : ∃ ye' no', sp_X6_cuts_58 v so wt w (nI n) mi la g mP mK mN (f + 1) best (nI u) aN aD aK aT aL aY b1 b2 b3 b4 b5 b6 b7 b8 tw ye no pm = sp_X6_cuts_58 v so wt w (nI n) mi la g mP mK mN f (lsN (!nb && decide (bI L = v)) best least (nI u) cst).1 (nI u + 1) aN aD aK aT aL aY b1 b2 b3 b4 b5 b6 b7 b8 tw ye' no' pm := by
    obtain ⟨ye', no', e⟩ := hlaw ye no
    rw [sp_X6_cuts_58, hn2, if_neg (nI_ge hu (by omega)), if_pos hs]
    rw [hap, ob_s]
    cases nb
    rotate_left
    · rw [if_pos (show bI (!true) = 0 from rfl), lsN, if_neg (fun q => absurd q.1 (by simp))]
      exact ⟨_, _, rfl⟩
    rw [if_neg (show ¬ bI (!false) = 0 by decide), Bool.not_false, Bool.true_and]
    rw [e, ob_s]
    dsimp only
    by_cases hm : bI L = v
    · rw [if_pos hm, decide_eq_true hm]
      rcases d with d | ⟨d1, d2, d3⟩
      · rw [if_pos d, lsN, if_pos ⟨rfl, Or.inl d⟩]
        exact ⟨_, _, rfl⟩
      · rw [if_neg d3]
        by_cases z : so = 0
        · rw [if_pos z, c0 z, ob_s, d1 z, ob_s]
          by_cases le : least ≤ cst
          · rw [if_pos le, lsN, if_neg (fun q => q.2.elim d3 (fun r => r le))]
            exact ⟨_, _, rfl⟩
          · rw [if_neg le, lsN, if_pos ⟨rfl, Or.inr le⟩]
            exact ⟨_, _, rfl⟩
        · rw [if_neg z, c1 z, ob_s, d2 z, ob_s]
          by_cases le : least ≤ cst
          · rw [if_pos le, lsN, if_neg (fun q => q.2.elim d3 (fun r => r le))]
            exact ⟨_, _, rfl⟩
          · rw [if_neg le, lsN, if_pos ⟨rfl, Or.inr le⟩]
            exact ⟨_, _, rfl⟩
    · rw [if_neg hm, decide_eq_false hm, lsN, if_neg (fun q => absurd q.1 (by decide))]
      exact ⟨_, _, rfl⟩
