theorem nI_z : nI 0 = 0 := rfl
theorem mul40 (q i : Nat) : nI q * 40 + nI i = nI (q * 40 + i) := by
  rw [show (40 : Int32) = nI 40 from rfl, pk_mul, nI_add]
theorem mul40' (q i : Nat) : 40 * nI q + nI i = nI (40 * q + i) := by
  rw [show (40 : Int32) = nI 40 from rfl, pk_mul, nI_add]
theorem lay_loop {q : Nat} (hq : q < 4) : ∀ (k i fuel : Nat) (so si it : Nat → Int32), i + k = 40 → k + 1 ≤ fuel → ∃ it', sp_X3_lay_17 (nI q) fuel (nI i) so si it = some (so, si, it') ∧ ∀ j, it' j = if 40 * q + i ≤ j ∧ j < 40 * q + 40 then 0 else it j := by
  intro k
  induction k with
  | zero =>
    intro i fuel so si it hi hf
    obtain ⟨m, rfl⟩ : ∃ m, fuel = m + 1 := ⟨fuel - 1, by omega⟩
    have : i = 40 := by omega
    subst this
    refine ⟨it, ?_, fun j => ?_⟩
    · rw [sp_X3_lay_17, if_pos (by decide)]
    · rw [if_neg (by omega)]
  | succ k ih =>
    intro i fuel so si it hi hf
    obtain ⟨m, rfl⟩ : ∃ m, fuel = m + 1 := ⟨fuel - 1, by omega⟩
    obtain ⟨it', h1, h2⟩ := ih (i + 1) m so si (upd it (q * 40 + i) 0) (by omega) (by omega)
    refine ⟨it', ?_, fun j => ?_⟩
    · rw [sp_X3_lay_17, if_neg (show ¬ (40 : Int32) ≤ nI i from nI_ge (b := 40) (by omega) (by decide)), mul40, xo_set_nI (by omega) (by decide)]
      simp only [ob_s]
      rw [nI_1]
      exact h1
    · rw [h2 j]
      by_cases h : j = q * 40 + i
      · subst h
        rw [if_neg (by omega), if_pos (by omega), pk_us]
      · rw [pk_un h]
        by_cases h3 : 40 * q + i ≤ j ∧ j < 40 * q + 40
        · rw [if_pos (by omega), if_pos h3]
        · rw [if_neg (by omega), if_neg h3]
theorem msh_loop {q s z : Nat} (hq : q < 4) (hs : s ≤ 2) (hz : z ≤ 40) : ∀ (k i fuel : Nat) (a b c it : Nat → Int32), i + k = z → k + 1 ≤ fuel → ∃ it', sp_X6_sheet_77 (nI q) (nI s) (nI z) fuel (nI i) a b c it = some (1, a, b, c, it') ∧ ∀ j, it' j = if 40 * q + i ≤ j ∧ j < 40 * q + z then 0 else it j := by
  intro k
  induction k with
  | zero =>
    intro i fuel a b c it hi hf
    obtain ⟨m, rfl⟩ : ∃ m, fuel = m + 1 := ⟨fuel - 1, by omega⟩
    have : i = z := by omega
    subst this
    refine ⟨it, ?_, fun j => ?_⟩
    · rw [sp_X6_sheet_77, if_pos (nI_le (Nat.le_refl _) (by omega))]
    · rw [if_neg (by omega)]
  | succ k ih =>
    intro i fuel a b c it hi hf
    obtain ⟨m, rfl⟩ : ∃ m, fuel = m + 1 := ⟨fuel - 1, by omega⟩
    obtain ⟨it', h1, h2⟩ := ih (i + 1) m a b c (upd it (40 * q + i) 0) (by omega) (by omega)
    refine ⟨it', ?_, fun j => ?_⟩
    · rw [sp_X6_sheet_77, if_neg (nI_ge (by omega) (by omega)), if_neg (nI_pos (by omega)), mul40', xo_set_nI (by omega) (by decide)]
      simp only [ob_s]
      rw [nI_1]
      exact h1
    · rw [h2 j]
      by_cases h : j = 40 * q + i
      · subst h
        rw [if_neg (by omega), if_pos (by omega), pk_us]
      · rw [pk_un h]
        by_cases h3 : 40 * q + i ≤ j ∧ j < 40 * q + z
        · rw [if_pos (by omega), if_pos h3]
        · rw [if_neg (by omega), if_neg h3]
theorem sheet6 (x : Int32) : ∃ r, sp_X6_isSheet x = some r ∧ (r = 0 ↔ ¬ inI x 0 3) := by
  refine ⟨sp_X6_in (Int32.toInt64 x) 0 3, ?_, ?_⟩
  · unfold sp_X6_isSheet
    rw [if_neg (fun h => h (in6_01 _ _ _))]
  · rw [in6]; rfl
theorem inI_m1 {x : Int32} (h : inI x (-1) 2) : x = -1 ∨ ∃ k, k ≤ 2 ∧ x = nI k := by
  by_cases h0 : 0 ≤ x.toInt
  · exact Or.inr (inI_nI (k := 2) ⟨h0, h.2⟩ (by decide))
  · left
    apply Int32.toInt_inj.mp
    have := h.1
    have e : (-1 : Int32).toInt = -1 := by decide
    rw [e]; omega
theorem nI_ne_m1 {k : Nat} (h : k < 2 ^ 31) : ¬ nI k = -1 := by
  intro q
  have := nI_toInt h
  rw [q] at this
  have e : (-1 : Int32).toInt = -1 := by decide
  rw [e] at this
  omega
theorem nar0 : vp_nar .boolean 0 = 0 := (Eq.refl (0 : Int32)).trans rfl
theorem nar1 : vp_nar .boolean 1 = 1 := (Eq.refl (1 : Int32)).trans rfl
theorem msh_miss (q p3 : Int32) (a b c it : Nat → Int32) (f : Nat) (hf : 1 ≤ f) : sp_X6_sheet_77 q (-1) p3 f 0 a b c it = some (1, a, b, c, it) := by
  obtain ⟨m, rfl⟩ : ∃ m, f = m + 1 := ⟨f - 1, by omega⟩
  rw [sp_X6_sheet_77]
  by_cases h : p3 ≤ 0
  · rw [if_pos h]
  · rw [if_neg h, if_pos (by decide)]
theorem q_sheet : op_sheet RRv := by
  intro o_size o_year o_gone o_minds o_lasts r_size r_token r_place r_at r_open r_made t_size t_rule i_there i_rule i_size i_year i_gone i_minds i_lasts o_parent o_kind o_number o_odds o_above o_kidCount o_lead r_tape r_steps r_ends t_steps t_ends t_stack s_sort s_size s_items i_number i_odds x_prices x_facts x_laws x_clues m_thrown m_textCount m_rule m_taped m_n m_minds m_lasts m_cutNow m_year m_ofNode m_ofDepth m_ofKids m_ofTwigs m_ofLast m_ofYear m_from m_size m_here m_token m_tokenAt m_open m_bad m_fault m_nKept m_mindsKept m_lastsKept m_cutKept m_yearKept m_ruleKept m_tokenWorth m_texts m_textSize m_tape m_parents m_kinds m_numbers m_odds m_yes m_no m_prices m_numbersKept m_oddsKept m_isThere m_sorts m_sheetSize m_items hR p1 p2 p3
  obtain ⟨n, t, hT, hP, hX, hI, hS⟩ := id hR
  have a5 : sp_X5_isIn p1 0 3 = 0 ↔ ¬ inI p1 0 3 := by rw [in5]; rfl
  have b5 : sp_X5_isIn p2 (-1) 2 = 0 ↔ ¬ inI p2 (-1) 2 := by rw [in5, show (-1 : Int32).toInt = -1 by decide, show (2 : Int32).toInt = 2 by decide]
  have b6 : sp_X6_in (Int32.toInt64 p2) (-1) 2 = 0 ↔ ¬ inI p2 (-1) 2 := by rw [in6, show (-1 : Int64).toInt = -1 by decide, show (2 : Int64).toInt = 2 by decide]
  obtain ⟨r, hr1, hr2⟩ := sheet6 p1
  unfold sp_X5_sheet sp_X6_sheet
  rw [hr1]
  simp only [ob_s]
  by_cases h1 : inI p1 0 3
  · rw [if_neg (fun q => a5.mp q h1), if_neg (fun q => hr2.mp q h1)]
    by_cases h2 : inI p2 (-1) 2
    · rw [if_neg (fun q => b5.mp q h2), if_neg (fun q => b6.mp q h2)]
      obtain ⟨q, hq, eq⟩ := inI_nI (k := 3) h1 (by decide)
      subst eq
      have hq4 : q < 4 := by omega
      rcases inI_m1 h2 with e | ⟨k, hk, e⟩
      · subst e
        rw [if_pos rfl, if_pos (by decide), if_pos (by decide), if_pos (by decide)]
        unfold sp_X3_lay
        simp only [xo_set_nI hq4 lt31c, ob_s, nar0]
        obtain ⟨it', g1, g2⟩ := lay_loop hq4 40 0 5000 (upd s_sort q (-1)) (upd s_size q 0) s_items rfl (by decide)
        rw [nI_z] at g1
        rw [g1]
        simp only [ob_s]
        refine ⟨_, _, rfl, msh_miss _ _ _ _ _ _ _ (by decide), rfl, n, t, hT, hP, hX, hI, ?_⟩
        intro q' hq'
        dsimp only
        by_cases hqq : q' = q
        · subst hqq
          left
          rw [pk_us, pk_us]
          exact ⟨rfl, rfl⟩
        · rw [pk_un hqq, pk_un hqq, pk_un hqq, pk_un hqq, pk_un hqq]
          rcases hS q' hq' with s1 | ⟨k2, s2, s3, s4, s5, z, s6, s7, s8, s9⟩
          · exact Or.inl s1
          · refine Or.inr ⟨k2, s2, s3, s4, s5, z, s6, s7, s8, fun j hj => ?_⟩
            rw [g2, if_neg (by omega)]
            exact s9 j hj
      · subst e
        rw [if_neg (nI_ne_m1 (by omega)), if_neg (nI_pos (by omega))]
        by_cases h3 : p3 ≤ 40
        · rw [if_pos h3, if_pos h3, if_neg (nI_pos (by omega)), if_neg (nI_pos (by omega))]
          by_cases h4 : 0 ≤ p3
          · rw [if_pos h4, if_pos h4]
            obtain ⟨z, hz, ez⟩ := inI_nI (x := p3) (k := 40) ⟨by have := Int32.le_iff_toInt_le.mp h4; rw [show (0 : Int32).toInt = 0 by decide] at this; exact this, by have := Int32.le_iff_toInt_le.mp h3; rw [show (40 : Int32).toInt = 40 by decide] at this; exact this⟩ (by decide)
            subst ez
            unfold sp_X3_lay
            simp only [xo_set_nI hq4 lt31c, ob_s, nar1]
            obtain ⟨it', g1, g2⟩ := lay_loop hq4 40 0 5000 (upd s_sort q (nI k)) (upd s_size q (nI z)) s_items rfl (by decide)
            obtain ⟨it2, g3, g4⟩ := msh_loop hq4 hk hz z 0 5000 (upd m_isThere q 1) (upd m_sorts q (nI k)) (upd m_sheetSize q (nI z)) m_items (by omega) (by omega)
            rw [nI_z] at g1 g3
            rw [g1]
            simp only [ob_s]
            refine ⟨_, _, rfl, g3, rfl, n, t, hT, hP, hX, hI, ?_⟩
            intro q' hq'
            dsimp only
            by_cases hqq : q' = q
            · subst hqq
              right
              rw [pk_us, pk_us, pk_us, pk_us, pk_us]
              refine ⟨k, hk, rfl, rfl, rfl, z, hz, rfl, rfl, fun j hj => ?_⟩
              rw [g2, g4, if_pos (by omega), if_pos (by omega)]
            · rw [pk_un hqq, pk_un hqq, pk_un hqq, pk_un hqq, pk_un hqq]
              rcases hS q' hq' with s1 | ⟨k2, s2, s3, s4, s5, z2, s6, s7, s8, s9⟩
              · exact Or.inl s1
              · refine Or.inr ⟨k2, s2, s3, s4, s5, z2, s6, s7, s8, fun j hj => ?_⟩
                rw [g2, g4, if_neg (by omega), if_neg (by omega)]
                exact s9 j hj
          · rw [if_neg h4, if_neg h4]
            exact ⟨_, _, rfl, rfl, rfl, hR⟩
        · rw [if_neg h3, if_neg h3]
          exact ⟨_, _, rfl, rfl, rfl, hR⟩
    · rw [if_pos (b5.mpr h2), if_pos (b6.mpr h2)]
      exact ⟨_, _, rfl, rfl, rfl, hR⟩
  · rw [if_pos (a5.mpr h1), if_pos (hr2.mpr h1)]
    exact ⟨_, _, rfl, rfl, rfl, hR⟩
