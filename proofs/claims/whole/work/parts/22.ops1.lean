theorem ob_s {α β : Type} (a : α) (f : α → Option β) : (some a).bind f = f a := (Eq.refl (f a)).trans rfl
theorem lt31 : 12 < 2 ^ 31 := by decide
theorem lt31b : 160 < 2 ^ 31 := by decide
theorem lt31c : 4 < 2 ^ 31 := by decide
theorem sub1I {t : Nat} (h : t < 2 ^ 30) : (nI t - 1).toInt = (t : Int) - 1 := pk_sub_toInt (a := t) (b := 1) h (by decide)
theorem q_force : op_force RRv := by
  intro o_size o_year o_gone o_minds o_lasts r_size r_token r_place r_at r_open r_made t_size t_rule i_there i_rule i_size i_year i_gone i_minds i_lasts o_parent o_kind o_number o_odds o_above o_kidCount o_lead r_tape r_steps r_ends t_steps t_ends t_stack s_sort s_size s_items i_number i_odds x_prices x_facts x_laws x_clues m_thrown m_textCount m_rule m_taped m_n m_minds m_lasts m_cutNow m_year m_ofNode m_ofDepth m_ofKids m_ofTwigs m_ofLast m_ofYear m_from m_size m_here m_token m_tokenAt m_open m_bad m_fault m_nKept m_mindsKept m_lastsKept m_cutKept m_yearKept m_ruleKept m_tokenWorth m_texts m_textSize m_tape m_parents m_kinds m_numbers m_odds m_yes m_no m_prices m_numbersKept m_oddsKept m_isThere m_sorts m_sheetSize m_items hR p1
  obtain ⟨n, t, hT, hP, hX, hI, hS⟩ := hR
  obtain ⟨h1, h6, e1, e2, ⟨u, hu, e3, e4⟩, hq⟩ := hX
  have z5 : (0 : Int32).toInt = 0 := by decide
  have z6 : (0 : Int64).toInt = 0 := by decide
  have a5 : sp_X5_isIn p1 0 (t_size - 1) = 0 ↔ ¬ inI p1 0 ((t : Int) - 1) := by rw [in5, e1, sub1I (by omega), z5]
  have a6 : sp_X6_in (Int32.toInt64 p1) 0 (Int32.toInt64 (m_textCount - 1)) = 0 ↔ ¬ inI p1 0 ((t : Int) - 1) := by rw [in6, e2, Int32.toInt_toInt64, sub1I (by omega), z6]
  refine ⟨_, _, rfl, rfl, ?_⟩
  unfold sp_X5_force sp_X6_force
  by_cases h : inI p1 0 ((t : Int) - 1)
  · rw [if_neg (fun q => a5.mp q h), if_neg (fun q => a6.mp q h)]
    obtain ⟨j, hj, ej⟩ := inI_nI (k := t - 1) (by have := h.2; exact ⟨h.1, by omega⟩) (by omega)
    exact ⟨e3.trans e4.symm, n, t, hT, hP, ⟨h1, h6, e1, e2, ⟨j, by omega, ej, ej⟩, hq⟩, hI, hS⟩
  · rw [if_pos (a5.mpr h), if_pos (a6.mpr h)]
    exact ⟨rfl, n, t, hT, hP, ⟨h1, h6, e1, e2, ⟨u, hu, e3, e4⟩, hq⟩, hI, hS⟩
theorem q_feed : op_feed RRv := by
  intro o_size o_year o_gone o_minds o_lasts r_size r_token r_place r_at r_open r_made t_size t_rule i_there i_rule i_size i_year i_gone i_minds i_lasts o_parent o_kind o_number o_odds o_above o_kidCount o_lead r_tape r_steps r_ends t_steps t_ends t_stack s_sort s_size s_items i_number i_odds x_prices x_facts x_laws x_clues m_thrown m_textCount m_rule m_taped m_n m_minds m_lasts m_cutNow m_year m_ofNode m_ofDepth m_ofKids m_ofTwigs m_ofLast m_ofYear m_from m_size m_here m_token m_tokenAt m_open m_bad m_fault m_nKept m_mindsKept m_lastsKept m_cutKept m_yearKept m_ruleKept m_tokenWorth m_texts m_textSize m_tape m_parents m_kinds m_numbers m_odds m_yes m_no m_prices m_numbersKept m_oddsKept m_isThere m_sorts m_sheetSize m_items hR p1
  obtain ⟨n, t, hT, hP, hX, hI, hS⟩ := hR
  obtain ⟨r, hr, e1, e2, hq⟩ := hP
  have a5 : sp_X5_isIn p1 0 255 = 0 ↔ ¬ inI p1 0 255 := by rw [in5]; rfl
  have a6 : sp_X6_in (Int32.toInt64 p1) 0 255 = 0 ↔ ¬ inI p1 0 255 := by rw [in6]; rfl
  subst e1; subst e2
  unfold sp_X5_feed sp_X6_feed
  by_cases h : inI p1 0 255
  · rw [if_neg (fun q => a5.mp q h), if_neg (fun q => a6.mp q h)]
    obtain ⟨c, hc, ec⟩ := inI_nI (k := 255) h (by decide)
    by_cases h160 : r = 160
    · subst h160
      refine ⟨(-4, nI 160, r_tape), (-4, nI 160, m_tape), ?_, ?_, rfl, n, t, hT, ⟨160, hr, rfl, rfl, hq⟩, hX, hI, hS⟩
      · unfold sp_X2_put
        rw [if_neg (by decide)]
        rfl
      · rw [if_pos (by decide)]
    · have hlt : r < 160 := by omega
      refine ⟨(nI (r + 1), nI (r + 1), upd r_tape r p1), (nI (r + 1), nI (r + 1), upd m_tape r p1), ?_, ?_, rfl, n, t, hT, ⟨r + 1, by omega, rfl, rfl, fun i hi => ?_⟩, hX, hI, hS⟩
      · unfold sp_X2_put
        rw [if_pos (show nI r < 160 from nI_lt (b := 160) hlt (by decide)), xo_set_nI hlt (by decide)]
        simp only [ob_s]
        rw [if_neg (by decide), nI_1]
      · rw [if_neg (show ¬ nI r = 160 from fun q => h160 ((nI_eq (by omega) (by decide)).mp q)), xo_set_nI hlt (by decide)]
        simp only [ob_s]
        rw [nI_1]
      · dsimp only
        by_cases hir : i = r
        · subst hir
          rw [pk_us, pk_us]
          exact ⟨rfl, c, hc, ec⟩
        · rw [pk_un hir, pk_un hir]
          exact hq i (by omega)
  · rw [if_pos (a5.mpr h), if_pos (a6.mpr h)]
    exact ⟨_, _, rfl, rfl, rfl, n, t, hT, ⟨r, hr, rfl, rfl, hq⟩, hX, hI, hS⟩
theorem over_r (m : Nat) : ∀ (k : Nat), k ≤ 5 → ∀ (j : Nat), j ≤ 5 → ∀ (nn : Nat → Int32) (p1 v : Int32), xo_at nn 12 p1 = some v → sp_X6_taken_33 p1 (nI j) nn (m + 4) (nI k) = if sp_X5_isUnder (nI k) (nI j) = 0 then some (-13) else some v := by
  intro k hk j hj nn p1 v hv
  have hk' : k = 0 ∨ k = 1 ∨ k = 2 ∨ k = 3 ∨ k = 4 ∨ k = 5 := by omega
  have hj' : j = 0 ∨ j = 1 ∨ j = 2 ∨ j = 3 ∨ j = 4 ∨ j = 5 := by omega
  have e : (xo_at nn 12 p1).bind (fun v => some v) = some v := by rw [hv]; rfl
  rcases hk' with rfl | rfl | rfl | rfl | rfl | rfl <;> rcases hj' with rfl | rfl | rfl | rfl | rfl | rfl <;> first | exact e | rfl
theorem q_taken : op_taken RRv := by
  intro o_size o_year o_gone o_minds o_lasts r_size r_token r_place r_at r_open r_made t_size t_rule i_there i_rule i_size i_year i_gone i_minds i_lasts o_parent o_kind o_number o_odds o_above o_kidCount o_lead r_tape r_steps r_ends t_steps t_ends t_stack s_sort s_size s_items i_number i_odds x_prices x_facts x_laws x_clues m_thrown m_textCount m_rule m_taped m_n m_minds m_lasts m_cutNow m_year m_ofNode m_ofDepth m_ofKids m_ofTwigs m_ofLast m_ofYear m_from m_size m_here m_token m_tokenAt m_open m_bad m_fault m_nKept m_mindsKept m_lastsKept m_cutKept m_yearKept m_ruleKept m_tokenWorth m_texts m_textSize m_tape m_parents m_kinds m_numbers m_odds m_yes m_no m_prices m_numbersKept m_oddsKept m_isThere m_sorts m_sheetSize m_items hR p1 p2
  obtain ⟨n, t, hT, hP, hX, hI, hS⟩ := id hR
  obtain ⟨e1, e2, ⟨t1, t12, tp, tk, tn, to⟩, hab, hpa, hp0, heq, -⟩ := hT
  have a5 : sp_X5_isIn p2 0 5 = 0 ↔ ¬ inI p2 0 5 := by rw [in5]; rfl
  have a6 : sp_X6_in (Int32.toInt64 p2) 0 5 = 0 ↔ ¬ inI p2 0 5 := by rw [in6]; rfl
  subst e1; subst e2
  obtain ⟨r, hr1, hr2⟩ := node6 p1 t1 (by omega)
  have hh := has_iff p1 t1 (by omega)
  unfold sp_X5_taken sp_X6_taken
  by_cases h : inI p2 0 5
  · rw [if_neg (fun q => a5.mp q h), if_neg (fun q => a6.mp q h), hr1]
    show ∃ o o', _ = _ ∧ (if r = 0 then _ else _) = _ ∧ _
    by_cases h2 : inI p1 0 ((n : Int) - 1)
    · rw [if_neg (fun q => hh.mp q h2), if_neg (fun q => hr2.mp q h2)]
      obtain ⟨i, hi, ei⟩ := inI_nI (k := n - 1) (by have := h2.2; exact ⟨h2.1, by omega⟩) (by omega)
      obtain ⟨j, hj, ej⟩ := inI_nI (k := 5) h (by decide)
      subst ei; subst ej
      have hin : i < n := by omega
      obtain ⟨k, hk, ek⟩ := tk i hin
      obtain ⟨q1, q2, -⟩ := heq i hin
      have hi12 : i < 12 := by omega
      simp only [xo_at_nI hi12 lt31, ob_s]
      rw [q1, ek, show (5000 : Nat) = 4996 + 4 from rfl, over_r 4996 k hk j hj m_numbers (nI i) (m_numbers i) (xo_at_nI hi12 lt31), q2]
      by_cases hu : sp_X5_isUnder (nI k) (nI j) = 0
      · rw [if_pos hu]
        exact ⟨_, _, rfl, rfl, rfl, hR⟩
      · rw [if_neg hu]
        exact ⟨_, _, rfl, rfl, rfl, hR⟩
    · rw [if_pos (hh.mpr h2), if_pos (hr2.mpr h2)]
      exact ⟨_, _, rfl, rfl, rfl, hR⟩
  · rw [if_pos (a5.mpr h), if_pos (a6.mpr h)]
    exact ⟨_, _, rfl, rfl, rfl, hR⟩

theorem upd_rng (f a : Nat → Int32) (i j : Nat) : (if i + 1 ≤ j then f j else upd a i (f i) j) = if i ≤ j then f j else a j := by
  by_cases h : j = i
  · subst h
    rw [if_neg (Nat.not_succ_le_self j), if_pos (Nat.le_refl j), pk_us]
  · rw [pk_un h]
    by_cases h2 : i + 1 ≤ j
    · rw [if_pos h2, if_pos (Nat.le_of_succ_le h2)]
    · rw [if_neg h2, if_neg (fun q => h2 (Nat.lt_of_le_of_ne q (fun e => h e.symm)))]
theorem cpy12 (f h : Nat → Int32) : xo_cpy f h 12 12 0 0 12 = some (va_cpy f h 0 0 12) := by
  unfold xo_cpy
  rw [if_neg (by decide)]
  rfl
theorem cpy12_at {f h : Nat → Int32} {j : Nat} (hj : j < 12) : va_cpy f h 0 0 12 j = f j := by
  rw [pk_cpy_in (Nat.zero_le _) (by omega)]
  rw [Nat.zero_add, Nat.sub_zero]
theorem im_loop {rule nn minds lasts cut year : Int32} {num odds : Nat → Int32} : ∀ (k i fuel : Nat) (k1 k2 k3 k4 k5 k6 : Int32) (a b : Nat → Int32), i + k = 12 → k + 1 ≤ fuel → ∃ a' b', sp_X6_image_2 rule nn minds lasts cut year num odds fuel (nI i) k1 k2 k3 k4 k5 k6 a b = some (nn, nn, minds, lasts, cut, year, rule, a', b') ∧ ∀ j, j < 12 → a' j = (if i ≤ j then num j else a j) ∧ b' j = (if i ≤ j then odds j else b j) := by
  intro k
  induction k with
  | zero =>
    intro i fuel k1 k2 k3 k4 k5 k6 a b hi hf
    obtain ⟨m, rfl⟩ : ∃ m, fuel = m + 1 := ⟨fuel - 1, by omega⟩
    have : i = 12 := by omega
    subst this
    refine ⟨a, b, ?_, fun j hj => ?_⟩
    · rw [sp_X6_image_2, if_pos (by decide)]
    · rw [if_neg (by omega), if_neg (by omega)]; exact ⟨rfl, rfl⟩
  | succ k ih =>
    intro i fuel k1 k2 k3 k4 k5 k6 a b hi hf
    obtain ⟨m, rfl⟩ : ∃ m, fuel = m + 1 := ⟨fuel - 1, by omega⟩
    have hi12 : i < 12 := by omega
    obtain ⟨a', b', h1, h2⟩ := ih (i + 1) m k1 k2 k3 k4 k5 k6 (upd a i (num i)) (upd b i (odds i)) (by omega) (by omega)
    refine ⟨a', b', ?_, fun j hj => ?_⟩
    · rw [sp_X6_image_2, if_neg (show ¬ (12 : Int32) ≤ nI i from nI_ge (b := 12) hi12 (by decide))]
      simp only [xo_at_nI hi12 lt31, xo_set_nI hi12 lt31, ob_s]
      rw [nI_1]
      exact h1
    · obtain ⟨q1, q2⟩ := h2 j hj
      rw [q1, q2, upd_rng, upd_rng]
      exact ⟨rfl, rfl⟩
theorem q_image : op_image RRv := by
  intro o_size o_year o_gone o_minds o_lasts r_size r_token r_place r_at r_open r_made t_size t_rule i_there i_rule i_size i_year i_gone i_minds i_lasts o_parent o_kind o_number o_odds o_above o_kidCount o_lead r_tape r_steps r_ends t_steps t_ends t_stack s_sort s_size s_items i_number i_odds x_prices x_facts x_laws x_clues m_thrown m_textCount m_rule m_taped m_n m_minds m_lasts m_cutNow m_year m_ofNode m_ofDepth m_ofKids m_ofTwigs m_ofLast m_ofYear m_from m_size m_here m_token m_tokenAt m_open m_bad m_fault m_nKept m_mindsKept m_lastsKept m_cutKept m_yearKept m_ruleKept m_tokenWorth m_texts m_textSize m_tape m_parents m_kinds m_numbers m_odds m_yes m_no m_prices m_numbersKept m_oddsKept m_isThere m_sorts m_sheetSize m_items hR
  obtain ⟨n, t, hT, hP, hX, hI, hS⟩ := hR
  obtain ⟨e1, e2, ⟨t1, t12, tp, tk, tn, to⟩, hab, hpa, hp0, heq, e3, e4, e5, e6, ⟨y, hy, ey⟩, hg0, hgs⟩ := id hT
  obtain ⟨x1, x6, f1, f2, ⟨u, hu, f3, f4⟩, hq⟩ := id hX
  obtain ⟨a', b', h1, h2⟩ := im_loop (rule := m_rule) (nn := m_n) (minds := m_minds) (lasts := m_lasts) (cut := m_cutNow) (year := m_year) (num := m_numbers) (odds := m_odds) 12 0 5000 m_nKept m_mindsKept m_lastsKept m_cutKept m_yearKept m_ruleKept m_numbersKept m_oddsKept rfl (by decide)
  refine ⟨(o_size, 1, t_rule, o_size, o_year, o_gone, o_minds, o_lasts, va_cpy o_number i_number 0 0 12, va_cpy o_odds i_odds 0 0 12), (m_n, m_n, m_minds, m_lasts, m_cutNow, m_year, m_rule, a', b'), ?_, h1, e1.trans e2.symm, n, t, hT, hP, hX, Or.inr ⟨rfl, n, t1, Nat.le_refl _, e1, e2, fun i hi => ?_, e3, e4, e5, e6, ⟨y, hy, ey⟩, hg0, hgs, u, hu, f3, f4⟩, hS⟩
  · unfold sp_X5_image sp_X0_keep_p1
    rw [cpy12, cpy12]
    rfl
  · have hi12 : i < 12 := by omega
    obtain ⟨q1, q2⟩ := h2 i hi12
    obtain ⟨r1, r2, r3⟩ := heq i hi
    dsimp only
    rw [cpy12_at hi12, cpy12_at hi12, q1, q2, if_pos (Nat.zero_le _), if_pos (Nat.zero_le _)]
    exact ⟨r2, r3, tn i hi, to i hi⟩
theorem bk_loop {n2 mk lk ck yk rk : Int32} {num odds : Nat → Int32} {K : Nat} (hK : K ≤ 12) (hn2 : n2 = nI K) : ∀ (k i fuel : Nat) (k1 k2 k3 k4 k5 k6 : Int32) (a b : Nat → Int32), i + k = K → k + 1 ≤ fuel → ∃ a' b', sp_X6_back_13 n2 mk lk ck yk rk num odds fuel (nI i) k1 k2 k3 k4 k5 k6 a b = some (n2, rk, n2, mk, lk, ck, yk, a', b') ∧ ∀ j, j < K → a' j = (if i ≤ j then num j else a j) ∧ b' j = (if i ≤ j then odds j else b j) := by
  subst hn2
  intro k
  induction k with
  | zero =>
    intro i fuel k1 k2 k3 k4 k5 k6 a b hi hf
    obtain ⟨m, rfl⟩ : ∃ m, fuel = m + 1 := ⟨fuel - 1, by omega⟩
    have : i = K := by omega
    subst this
    refine ⟨a, b, ?_, fun j hj => ?_⟩
    · rw [sp_X6_back_13, if_pos (nI_le (Nat.le_refl _) (by omega))]
    · rw [if_neg (by omega), if_neg (by omega)]; exact ⟨rfl, rfl⟩
  | succ k ih =>
    intro i fuel k1 k2 k3 k4 k5 k6 a b hi hf
    obtain ⟨m, rfl⟩ : ∃ m, fuel = m + 1 := ⟨fuel - 1, by omega⟩
    have hi12 : i < 12 := by omega
    obtain ⟨a', b', h1, h2⟩ := ih (i + 1) m k1 k2 k3 k4 k5 k6 (upd a i (num i)) (upd b i (odds i)) (by omega) (by omega)
    refine ⟨a', b', ?_, fun j hj => ?_⟩
    · rw [sp_X6_back_13, if_neg (nI_ge (by omega) (by omega))]
      simp only [xo_at_nI hi12 lt31, xo_set_nI hi12 lt31, ob_s]
      rw [nI_1]
      exact h1
    · obtain ⟨q1, q2⟩ := h2 j hj
      rw [q1, q2, upd_rng, upd_rng]
      exact ⟨rfl, rfl⟩
theorem q_back : op_back RRv := by
  intro o_size o_year o_gone o_minds o_lasts r_size r_token r_place r_at r_open r_made t_size t_rule i_there i_rule i_size i_year i_gone i_minds i_lasts o_parent o_kind o_number o_odds o_above o_kidCount o_lead r_tape r_steps r_ends t_steps t_ends t_stack s_sort s_size s_items i_number i_odds x_prices x_facts x_laws x_clues m_thrown m_textCount m_rule m_taped m_n m_minds m_lasts m_cutNow m_year m_ofNode m_ofDepth m_ofKids m_ofTwigs m_ofLast m_ofYear m_from m_size m_here m_token m_tokenAt m_open m_bad m_fault m_nKept m_mindsKept m_lastsKept m_cutKept m_yearKept m_ruleKept m_tokenWorth m_texts m_textSize m_tape m_parents m_kinds m_numbers m_odds m_yes m_no m_prices m_numbersKept m_oddsKept m_isThere m_sorts m_sheetSize m_items hR
  obtain ⟨n, t, hT, hP, hX, hI, hS⟩ := id hR
  rcases hI with ⟨g1, g2⟩ | ⟨g1, K, K1, Kn, g3, g4, g5, g6, g7, g8, g9, ⟨y, hy, ey⟩, gg, gs, u, hu, u1, u2⟩
  · refine ⟨(-3, o_size, o_year, o_gone, o_minds, o_lasts, t_rule, o_number, o_odds), (-3, m_rule, m_n, m_minds, m_lasts, m_cutNow, m_year, m_numbers, m_odds), ?_, ?_, rfl, hR⟩
    · unfold sp_X5_back; rw [if_pos g1]
    · unfold sp_X6_back; rw [if_pos g2]
  · obtain ⟨e1, e2, ⟨t1, t12, tp, tk, tn, to⟩, hab, hpa, hp0, heq, -⟩ := id hT
    obtain ⟨x1, x6, f1, f2, -, hq⟩ := id hX
    obtain ⟨a', b', h1, h2⟩ := bk_loop (n2 := m_nKept) (mk := m_mindsKept) (lk := m_lastsKept) (ck := m_cutKept) (yk := m_yearKept) (rk := m_ruleKept) (num := m_numbersKept) (odds := m_oddsKept) (K := K) (by omega) g4 K 0 5000 m_rule m_n m_minds m_lasts m_cutNow m_year m_numbers m_odds (by omega) (by omega)
    refine ⟨(i_size, i_size, i_year, i_gone, i_minds, i_lasts, i_rule, va_cpy i_number o_number 0 0 12, va_cpy i_odds o_odds 0 0 12), (m_nKept, m_ruleKept, m_nKept, m_mindsKept, m_lastsKept, m_cutKept, m_yearKept, a', b'), ?_, ?_, g3.trans g4.symm, K, t, ⟨g3, g4, ⟨K1, by omega, fun i q1 q2 => tp i q1 (by omega), fun i hi => tk i (by omega), fun i hi => ?_, fun i hi => ?_⟩, ⟨hab.1, fun i p q1 q2 => hab.2 i p q1 (by omega)⟩, fun i q1 q2 => hpa i q1 (by omega), hp0, fun i hi => ?_, g6, g7, g8, g9, ⟨y, hy, ey⟩, gg, gs⟩, hP, ⟨x1, x6, f1, f2, ⟨u, hu, u1, u2⟩, hq⟩, Or.inr ⟨g1, K, K1, Nat.le_refl _, g3, g4, g5, g6, g7, g8, g9, ⟨y, hy, ey⟩, gg, gs, u, hu, u1, u2⟩, hS⟩
    · unfold sp_X5_back sp_X0_layBack_p1
      rw [if_neg (by rw [g1]; decide), cpy12, cpy12]
      rfl
    · unfold sp_X6_back
      rw [if_neg (fun q => by rw [g4] at q; exact absurd q (by have h9 : ∀ k : Fin 13, ¬ nI k = -1 := by decide
                                                               exact h9 ⟨K, by omega⟩))]
      exact h1
    · dsimp only
      rw [cpy12_at (by omega)]
      exact (g5 i hi).2.2.1
    · dsimp only
      rw [cpy12_at (by omega)]
      exact (g5 i hi).2.2.2
    · dsimp only
      rw [cpy12_at (by omega), cpy12_at (by omega), (h2 i hi).1, (h2 i hi).2, if_pos (Nat.zero_le _), if_pos (Nat.zero_le _)]
      exact ⟨(heq i (by omega)).1, (g5 i hi).1, (g5 i hi).2.1⟩
