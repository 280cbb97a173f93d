/-! calls on the tree -/
theorem rt_open {n : Nat} {o_size o_year o_gone o_minds o_lasts : Int32} {o_parent o_kind o_number o_odds o_above : Nat → Int32} {m_n m_minds m_lasts m_cutNow m_year : Int32} {m_parents m_kinds m_numbers m_odds : Nat → Int32} (h : RTree n o_size o_year o_gone o_minds o_lasts o_parent o_kind o_number o_odds o_above m_n m_minds m_lasts m_cutNow m_year m_parents m_kinds m_numbers m_odds) : ∃ par, o_size = nI n ∧ m_n = nI n ∧ TR n par o_parent o_above m_parents ∧ KN n o_kind o_number m_kinds m_numbers ∧ m_minds = o_minds ∧ m_lasts = o_lasts ∧ m_cutNow = o_gone ∧ m_year = o_year ∧ tb o_gone 0 = false ∧ m_parents 0 = -1 ∧ (∀ i, i < n → m_odds i = o_odds i ∧ ∃ c, c ≤ 100 ∧ o_odds i = nI c) ∧ (∃ y, y ≤ 99 ∧ o_year = nI y) ∧ pr_set n o_gone := by
  obtain ⟨h1, h2, ⟨a1, a2, a3, a4, a5, a6⟩, ⟨b1, b2⟩, h5, h6, h7, h8, h9, h10, h11, h12, h13, h14⟩ := h
  refine ⟨fun i => (o_parent i).toNatClampNeg, h1, h2, ⟨a1, a2, b1, fun i g1 g2 => ?_⟩, fun i g => ⟨(h7 i g).1, (h7 i g).2.1, a4 i g, a5 i g⟩, h8, h9, h10, h11, h13, h6, fun i g => ⟨(h7 i g).2.2, a6 i g⟩, h12, h14⟩
  obtain ⟨p, p1, p2⟩ := a3 i g1 g2
  have e : (o_parent i).toNatClampNeg = p := by rw [p2, nI_clamp (by omega)]
  simp only [e]
  exact ⟨p1, p2, (h5 i g1 g2).trans p2, b2 i p g1 g2 p1 p2⟩
theorem or_0 (g : Int32) : g ||| 0 = g := by
  apply tb_ext
  intro i _
  rw [tb_or, tb_0, Bool.or_false]
theorem st_cut {n : Nat} {par : Nat → Nat} {oP oA mP : Nat → Int32} (hT : TR n par oP oA mP) (g c : Int32) (h0 : tb g 0 = false) (hc : tb c 0 = false) : ∃ s, sp_X1_standing c (nI n) g oA = some s ∧ sp_X6_standing (g ||| c) (nI n) mP = some s ∧ pr_st n par (g ||| c) s ∧ tb s 0 = true := by
  have h : tb (g ||| c) 0 = false := by rw [tb_or, h0, hc]; rfl
  obtain ⟨s, s1, s2⟩ := st1 hT g c h
  exact ⟨s, s1, st6 hT s2, s2, st_0 s2 hT.1 h⟩
theorem st_now {n : Nat} {par : Nat → Nat} {oP oA mP : Nat → Int32} (hT : TR n par oP oA mP) (g : Int32) (h0 : tb g 0 = false) : ∃ s, sp_X1_standing 0 (nI n) g oA = some s ∧ sp_X6_standing g (nI n) mP = some s ∧ pr_st n par g s ∧ tb s 0 = true := by
  have := st_cut hT g 0 h0 (tb_0 0)
  rw [or_0] at this
  exact this
theorem bit_z (Y : Int32) : sp_X5_bit Y 0 = Y &&& 1 := by
  rw [and_1]
  exact bit_nI Y (k := 0) (by decide)
theorem tbf {x : Int32} {i : Nat} (h : ¬ tb x i = true) : tb x i = false := by revert h; cases tb x i <;> simp
theorem node_c (x : Int32) {n : Nat} (h1 : 1 ≤ n) (hn : n ≤ 12) : (∃ j, j < n ∧ x = nI j) ∨ ¬ inI x 0 ((n : Int) - 1) := by
  by_cases h : inI x 0 ((n : Int) - 1)
  · left
    obtain ⟨j, hj, e⟩ := inI_nI (k := n - 1) (x := x) ⟨h.1, by have := h.2; omega⟩ (by omega)
    exact ⟨j, by omega, e⟩
  · exact Or.inr h
theorem node_in {n j : Nat} (hj : j < n) (hn : n ≤ 12) : inI (nI j) 0 ((n : Int) - 1) := (nI_inI (by omega)).mpr ⟨by omega, by omega⟩
theorem has1 {n j : Nat} (hj : j < n) (hn : n ≤ 12) : ¬ sp_X1_has (nI j) (nI n) = 0 := fun q => (has_iff _ (by omega) (by omega)).mp q (node_in hj hn)
theorem has0 {x : Int32} {n : Nat} (h1 : 1 ≤ n) (hn : n ≤ 12) (h : ¬ inI x 0 ((n : Int) - 1)) : sp_X1_has x (nI n) = 0 := (has_iff _ h1 (by omega)).mpr h
theorem nd1 {n j : Nat} (hj : j < n) (hn : n ≤ 12) : ∃ r, sp_X6_isNode (nI j) (nI n) = some r ∧ ¬ r = 0 := by
  obtain ⟨r, r1, r2⟩ := node6 (nI j) (n := n) (by omega) (by omega)
  exact ⟨r, r1, fun q => r2.mp q (node_in hj hn)⟩
theorem nd0 {x : Int32} {n : Nat} (h1 : 1 ≤ n) (hn : n ≤ 12) (h : ¬ inI x 0 ((n : Int) - 1)) : sp_X6_isNode x (nI n) = some 0 := by
  obtain ⟨r, r1, r2⟩ := node6 x (n := n) h1 (by omega)
  rw [r1, r2.mpr h]
theorem st_bd {n : Nat} {par : Nat → Nat} {cut s : Int32} (hs : pr_st n par cut s) : ∀ i, tb s i = true → i < n := fun _ h => st_set hs h
theorem q_law : op_law RRv := by
  intro o_size o_year o_gone o_minds o_lasts r_size r_token r_place r_at r_open r_made t_size t_rule i_there i_rule i_size i_year i_gone i_minds i_lasts o_parent o_kind o_number o_odds o_above o_kidCount o_lead r_tape r_steps r_ends t_steps t_ends t_stack s_sort s_size s_items i_number i_odds x_prices x_facts x_laws x_clues m_thrown m_textCount m_rule m_taped m_n m_minds m_lasts m_cutNow m_year m_ofNode m_ofDepth m_ofKids m_ofTwigs m_ofLast m_ofYear m_from m_size m_here m_token m_tokenAt m_open m_bad m_fault m_nKept m_mindsKept m_lastsKept m_cutKept m_yearKept m_ruleKept m_tokenWorth m_texts m_textSize m_tape m_parents m_kinds m_numbers m_odds m_yes m_no m_prices m_numbersKept m_oddsKept m_isThere m_sorts m_sheetSize m_items hR
  obtain ⟨n, t, hT, hP, hX, hI, hS⟩ := id hR
  obtain ⟨par, rfl, rfl, T, K, rfl, rfl, rfl, rfl, g0, pz, hO, hy, hg⟩ := rt_open hT
  obtain ⟨s, s1, s2, s3, s4⟩ := st_now T m_cutNow g0
  obtain ⟨Y, v1, v2, v3⟩ := vote_both T K s m_minds m_lasts s4
  obtain ⟨k1, l1, e1⟩ := v1 o_kidCount o_lead
  obtain ⟨k2, l2, e2⟩ := v2 m_yes m_no
  unfold sp_X5_law sp_X5_lawNow sp_X6_law sp_X6_lawOf
  simp only [s1, s2, ob_s, e1, e2]
  exact ⟨_, _, rfl, rfl, bit_z Y, hR⟩
theorem yr_min {y : Nat} (hy : y ≤ 99) : xi_min (nI y + 1) 99 = (if (99 : Int32) ≤ nI y then 99 else nI y + 1) := by
  unfold xi_min
  rw [nI_1]
  by_cases h : y = 99
  · subst h; rfl
  · rw [if_neg (show ¬ (99 : Int32) < nI (y + 1) from nI_nlt (b := y + 1) (a := 99) (by omega) (by decide)), if_neg (show ¬ (99 : Int32) ≤ nI y from nI_ge (b := 99) (by omega) (by decide))]
theorem q_pass : op_pass RRv := by
  intro o_size o_year o_gone o_minds o_lasts r_size r_token r_place r_at r_open r_made t_size t_rule i_there i_rule i_size i_year i_gone i_minds i_lasts o_parent o_kind o_number o_odds o_above o_kidCount o_lead r_tape r_steps r_ends t_steps t_ends t_stack s_sort s_size s_items i_number i_odds x_prices x_facts x_laws x_clues m_thrown m_textCount m_rule m_taped m_n m_minds m_lasts m_cutNow m_year m_ofNode m_ofDepth m_ofKids m_ofTwigs m_ofLast m_ofYear m_from m_size m_here m_token m_tokenAt m_open m_bad m_fault m_nKept m_mindsKept m_lastsKept m_cutKept m_yearKept m_ruleKept m_tokenWorth m_texts m_textSize m_tape m_parents m_kinds m_numbers m_odds m_yes m_no m_prices m_numbersKept m_oddsKept m_isThere m_sorts m_sheetSize m_items hR
  obtain ⟨n, t, hT, hP, hX, hI, hS⟩ := id hR
  obtain ⟨par, rfl, rfl, T, K, rfl, rfl, rfl, rfl, g0, pz, hO, ⟨y, hy, ey⟩, hg⟩ := rt_open hT
  obtain ⟨h1, h2, h3, h4, h5, h6, h7, h8, h9, h10, h11, h12, h13, h14⟩ := hT
  obtain ⟨s, s1, s2, s3, s4⟩ := st_now T m_cutNow g0
  obtain ⟨Y, v1, v2, v3⟩ := vote_both T K s m_minds m_lasts s4
  obtain ⟨k1, l1, e1⟩ := v1 o_kidCount o_lead
  obtain ⟨k2, l2, e2⟩ := v2 m_yes m_no
  unfold sp_X5_pass sp_X6_pass
  simp only [s1, s2, ob_s, e1, e2]
  subst ey
  rw [yr_min hy]
  by_cases hh : (99 : Int32) ≤ nI y
  · rw [if_pos hh, if_pos hh]
    exact ⟨_, _, rfl, rfl, bit_z Y, n, t, ⟨h1, h2, h3, h4, h5, h6, h7, h8, rfl, h10, rfl, ⟨99, by omega, rfl⟩, h13, h14⟩, hP, hX, hI, hS⟩
  · rw [if_neg hh, if_neg hh]
    have : y < 99 := by
      by_cases q : y < 99
      · exact q
      · have : y = 99 := by omega
        subst this
        exact absurd (by decide) hh
    exact ⟨_, _, rfl, rfl, bit_z Y, n, t, ⟨h1, h2, h3, h4, h5, h6, h7, h8, rfl, h10, rfl, ⟨y + 1, by omega, nI_1 y⟩, h13, h14⟩, hP, hX, hI, hS⟩
theorem wb1 (g : Int32) {j : Nat} (hj : j < 32) : sp_X5_withBit g (nI j) 1 = g ||| xi_shl 1 (nI j) := by
  unfold sp_X5_withBit
  apply tb_ext
  intro i hi
  rw [tb_or, tb_or, tb_and, tb_xor, tb_one hj, tb_m1, decide_eq_true hi]
  cases tb g i <;> cases decide (i = j) <;> rfl
theorem wb0 (g : Int32) {j : Nat} (hj : j < 32) : sp_X5_withBit g (nI j) 0 = g &&& (xi_shl 1 (nI j) ^^^ (-1)) := by
  unfold sp_X5_withBit
  apply tb_ext
  intro i hi
  rw [tb_or, tb_shl 0 hj, tb_0, Bool.and_false, Bool.or_false]
theorem tb_wb0 (g : Int32) {j : Nat} (hj : j < 32) (i : Nat) : tb (sp_X5_withBit g (nI j) 0) i = (tb g i && decide (i ≠ j)) := by
  rw [wb0 g hj]
  by_cases hi : i < 32
  · rw [tb_and, tb_xor, tb_one hj, tb_m1, decide_eq_true hi]
    by_cases e : i = j
    · simp [e]
    · simp [e]
  · rw [tb_big _ (by omega), tb_big g (by omega)]; rfl
theorem tb_wb1 (g : Int32) {j : Nat} (hj : j < 32) (i : Nat) : tb (sp_X5_withBit g (nI j) 1) i = (tb g i || decide (i = j)) := by
  rw [wb1 g hj, tb_or, tb_one hj]
theorem in1 {n : Nat} (x : Int32) (h1 : 1 ≤ n) (hn : n ≤ 12) : sp_X6_in (Int32.toInt64 x) 1 (Int32.toInt64 (nI n - 1)) = 0 ↔ ¬ inI x 1 ((n : Int) - 1) := by
  rw [in6, Int32.toInt_toInt64, sub1I (by omega), show (1 : Int64).toInt = 1 by decide]
theorem q_cut : op_cut RRv := by
  intro o_size o_year o_gone o_minds o_lasts r_size r_token r_place r_at r_open r_made t_size t_rule i_there i_rule i_size i_year i_gone i_minds i_lasts o_parent o_kind o_number o_odds o_above o_kidCount o_lead r_tape r_steps r_ends t_steps t_ends t_stack s_sort s_size s_items i_number i_odds x_prices x_facts x_laws x_clues m_thrown m_textCount m_rule m_taped m_n m_minds m_lasts m_cutNow m_year m_ofNode m_ofDepth m_ofKids m_ofTwigs m_ofLast m_ofYear m_from m_size m_here m_token m_tokenAt m_open m_bad m_fault m_nKept m_mindsKept m_lastsKept m_cutKept m_yearKept m_ruleKept m_tokenWorth m_texts m_textSize m_tape m_parents m_kinds m_numbers m_odds m_yes m_no m_prices m_numbersKept m_oddsKept m_isThere m_sorts m_sheetSize m_items hR p1
  obtain ⟨n, t, hT, hP, hX, hI, hS⟩ := id hR
  obtain ⟨par, rfl, rfl, T, K, rfl, rfl, rfl, rfl, g0, pz, hO, hy, hg⟩ := rt_open hT
  obtain ⟨h1, h2, h3, h4, h5, h6, h7, h8, h9, h10, h11, h12, h13, h14⟩ := hT
  have hn := T.2.1
  have hn1 := T.1
  obtain ⟨s, s1, s2, s3, s4⟩ := st_now T m_cutNow g0
  unfold sp_X5_cut sp_X6_cut
  rcases node_c p1 hn1 hn with ⟨j, hj, e⟩ | hno
  · subst e
    rw [if_neg (has1 hj hn)]
    by_cases z : j = 0
    · subst z
      rw [if_pos nI_0, if_pos ((in1 _ hn1 hn).mpr (by rw [nI_inI (by omega)]; omega))]
      exact ⟨_, _, rfl, rfl, rfl, hR⟩
    · rw [if_neg (nI_ne0 (by omega) (by omega)), if_neg (fun q => (in1 _ hn1 hn).mp q (by rw [nI_inI (by omega)]; omega))]
      simp only [s1, s2, ob_s]
      by_cases b : tb s j = true
      · rw [if_neg (bit0n (by omega) b), if_neg (shr0n (by omega) b)]
        have g0' : tb (sp_X5_withBit m_cutNow (nI j) 1) 0 = false := by
          rw [tb_wb1 _ (by omega), g0, decide_eq_false (by omega)]; rfl
        obtain ⟨s', t1, t2, t3, t4⟩ := st_now T _ g0'
        rw [t1, ob_s]
        rw [wb1 _ (by omega)] at t2
        rw [bc_both hn (st_bd s3), ob_s, t2, ob_s, bc_both hn (st_bd t3), ob_s]
        refine ⟨_, _, rfl, rfl, rfl, n, t, ⟨h1, h2, h3, h4, h5, h6, h7, h8, h9, ?_, h11, h12, g0', ?_⟩, hP, hX, hI, hS⟩
        · exact (wb1 _ (by omega)).symm
        · intro i hi
          dsimp only
          rw [tb_wb1 _ (by omega), h14 i hi, decide_eq_false (by omega)]; rfl
      · rw [if_pos (bit0 (by omega) (tbf b)), if_pos (shr0 (by omega) (tbf b))]
        exact ⟨_, _, rfl, rfl, rfl, hR⟩
  · rw [if_pos (has0 hn1 hn hno), if_pos ((in1 _ hn1 hn).mpr (fun q => hno ⟨by have := q.1; omega, q.2⟩))]
    exact ⟨_, _, rfl, rfl, rfl, hR⟩
theorem q_graft : op_graft RRv := by
  intro o_size o_year o_gone o_minds o_lasts r_size r_token r_place r_at r_open r_made t_size t_rule i_there i_rule i_size i_year i_gone i_minds i_lasts o_parent o_kind o_number o_odds o_above o_kidCount o_lead r_tape r_steps r_ends t_steps t_ends t_stack s_sort s_size s_items i_number i_odds x_prices x_facts x_laws x_clues m_thrown m_textCount m_rule m_taped m_n m_minds m_lasts m_cutNow m_year m_ofNode m_ofDepth m_ofKids m_ofTwigs m_ofLast m_ofYear m_from m_size m_here m_token m_tokenAt m_open m_bad m_fault m_nKept m_mindsKept m_lastsKept m_cutKept m_yearKept m_ruleKept m_tokenWorth m_texts m_textSize m_tape m_parents m_kinds m_numbers m_odds m_yes m_no m_prices m_numbersKept m_oddsKept m_isThere m_sorts m_sheetSize m_items hR p1
  obtain ⟨n, t, hT, hP, hX, hI, hS⟩ := id hR
  obtain ⟨par, rfl, rfl, T, K, rfl, rfl, rfl, rfl, g0, pz, hO, hy, hg⟩ := rt_open hT
  obtain ⟨h1, h2, h3, h4, h5, h6, h7, h8, h9, h10, h11, h12, h13, h14⟩ := hT
  have hn := T.2.1
  have hn1 := T.1
  obtain ⟨s, s1, s2, s3, s4⟩ := st_now T m_cutNow g0
  unfold sp_X5_graft sp_X6_graft
  rcases node_c p1 hn1 hn with ⟨j, hj, e⟩ | hno
  · subst e
    rw [if_neg (has1 hj hn)]
    by_cases z : j = 0
    · subst z
      rw [if_pos nI_0, if_pos ((in1 _ hn1 hn).mpr (by rw [nI_inI (by omega)]; omega))]
      exact ⟨_, _, rfl, rfl, rfl, hR⟩
    · rw [if_neg (nI_ne0 (by omega) (by omega)), if_neg (fun q => (in1 _ hn1 hn).mp q (by rw [nI_inI (by omega)]; omega))]
      obtain ⟨p1, p2, p3, p4⟩ := T.2.2.2 j (by omega) hj
      have hj12 : j < 12 := by omega
      simp only [s1, s2, ob_s, xo_at_nI hj12 lt31, p2, p3]
      by_cases b : tb m_cutNow j = true
      · rw [if_neg (bit0n (by omega) b), if_neg (shr0n (by omega) b)]
        by_cases b2 : tb s (par j) = true
        · rw [if_neg (bit0n (by omega) b2), if_neg (shr0n (by omega) b2)]
          have g0' : tb (sp_X5_withBit m_cutNow (nI j) 0) 0 = false := by
            rw [tb_wb0 _ (by omega), g0]; rfl
          obtain ⟨s', t1, t2, t3, t4⟩ := st_now T _ g0'
          rw [t1, ob_s]
          rw [wb0 _ (by omega)] at t2
          rw [t2, ob_s, bc_both hn (st_bd t3), ob_s, bc_both hn (st_bd s3), ob_s]
          refine ⟨_, _, rfl, rfl, rfl, n, t, ⟨h1, h2, h3, h4, h5, h6, h7, h8, h9, ?_, h11, h12, g0', ?_⟩, hP, hX, hI, hS⟩
          · exact (wb0 _ (by omega)).symm
          · intro i hi
            dsimp only
            rw [tb_wb0 _ (by omega), h14 i hi]; rfl
        · rw [if_pos (bit0 (by omega) (tbf b2)), if_pos (shr0 (by omega) (tbf b2))]
          exact ⟨_, _, rfl, rfl, rfl, hR⟩
      · rw [if_pos (bit0 (by omega) (tbf b)), if_pos (shr0 (by omega) (tbf b))]
        exact ⟨_, _, rfl, rfl, rfl, hR⟩
  · rw [if_pos (has0 hn1 hn hno), if_pos ((in1 _ hn1 hn).mpr (fun q => hno ⟨by have := q.1; omega, q.2⟩))]
    exact ⟨_, _, rfl, rfl, rfl, hR⟩
theorem in_c (x : Int32) (k : Nat) (hk : k < 2 ^ 31) : (∃ j, j ≤ k ∧ x = nI j) ∨ ¬ inI x 0 k := by
  by_cases h : inI x 0 k
  · exact Or.inl (inI_nI h hk)
  · exact Or.inr h
theorem notin {x : Int32} {k : Nat} (h : ¬ inI x 0 k) (hk : k < 2 ^ 31) {j : Nat} (hj : j ≤ k) : ¬ x = nI j := by
  intro e
  apply h
  rw [e, nI_inI (by omega)]
  omega
theorem q_count : op_count RRv := by
  intro o_size o_year o_gone o_minds o_lasts r_size r_token r_place r_at r_open r_made t_size t_rule i_there i_rule i_size i_year i_gone i_minds i_lasts o_parent o_kind o_number o_odds o_above o_kidCount o_lead r_tape r_steps r_ends t_steps t_ends t_stack s_sort s_size s_items i_number i_odds x_prices x_facts x_laws x_clues m_thrown m_textCount m_rule m_taped m_n m_minds m_lasts m_cutNow m_year m_ofNode m_ofDepth m_ofKids m_ofTwigs m_ofLast m_ofYear m_from m_size m_here m_token m_tokenAt m_open m_bad m_fault m_nKept m_mindsKept m_lastsKept m_cutKept m_yearKept m_ruleKept m_tokenWorth m_texts m_textSize m_tape m_parents m_kinds m_numbers m_odds m_yes m_no m_prices m_numbersKept m_oddsKept m_isThere m_sorts m_sheetSize m_items hR p1
  obtain ⟨n, t, hT, hP, hX, hI, hS⟩ := id hR
  obtain ⟨par, rfl, rfl, T, K, rfl, rfl, rfl, rfl, g0, pz, hO, hy, hg⟩ := rt_open hT
  obtain ⟨r, hr, rfl, rfl, hr2⟩ := hP
  obtain ⟨x1, x2, rfl, rfl, ⟨u, hu, rfl, rfl⟩, x5⟩ := hX
  have hn := T.2.1
  obtain ⟨s, s1, s2, s3, s4⟩ := st_now T m_cutNow g0
  obtain ⟨w, w1, w2, w3⟩ := twigs_both T (st_bd s3)
  have wb : ∀ i, tb w i = true → i < n := by
    intro i hi
    rw [w3] at hi
    unfold twf at hi
    by_cases q : tb s i = true
    · exact st_bd s3 i q
    · rw [tbf q] at hi; exact absurd hi (by simp)
  have a6 : sp_X6_in (Int32.toInt64 p1) 0 6 = 0 ↔ ¬ inI p1 0 (6 : Nat) := by rw [in6]; rfl
  unfold sp_X5_count sp_X6_count
  simp only [s1, s2, w1, w2, ob_s, bc_both hn (st_bd s3), bc_both hn wb]
  rcases in_c p1 6 (by decide) with ⟨j, hj, e⟩ | hno
  · rw [if_neg (fun q => a6.mp q (by rw [e, nI_inI (by omega)]; omega))]
    subst e
    have : j = 0 ∨ j = 1 ∨ j = 2 ∨ j = 3 ∨ j = 4 ∨ j = 5 ∨ j = 6 := by omega
    rcases this with rfl | rfl | rfl | rfl | rfl | rfl | rfl
    · rw [if_pos (by decide), if_neg (by decide), if_neg (by decide), if_pos (by decide)]; exact ⟨_, _, rfl, rfl, rfl, hR⟩
    · rw [if_neg (by decide), if_pos (by decide), if_pos (by decide)]; exact ⟨_, _, rfl, rfl, rfl, hR⟩
    · rw [if_neg (by decide), if_neg (by decide), if_pos (by decide), if_neg (by decide), if_pos (by decide)]; exact ⟨_, _, rfl, rfl, rfl, hR⟩
    · repeat (first | rw [if_pos (by decide)] | rw [if_neg (by decide)])
      exact ⟨_, _, rfl, rfl, rfl, hR⟩
    · repeat (first | rw [if_pos (by decide)] | rw [if_neg (by decide)])
      exact ⟨_, _, rfl, rfl, rfl, hR⟩
    · repeat (first | rw [if_pos (by decide)] | rw [if_neg (by decide)])
      exact ⟨_, _, rfl, rfl, rfl, hR⟩
    · repeat (first | rw [if_pos (by decide)] | rw [if_neg (by decide)])
      exact ⟨_, _, rfl, rfl, rfl, hR⟩
  · have nn : ∀ j, j ≤ 6 → ¬ p1 = nI j := fun j hj => notin hno (by decide) hj
    rw [if_pos (a6.mpr hno), if_neg (show ¬ p1 = 0 from nn 0 (by decide)), if_neg (show ¬ p1 = 1 from nn 1 (by decide)), if_neg (show ¬ p1 = 2 from nn 2 (by decide)), if_neg (show ¬ p1 = 3 from nn 3 (by decide)), if_neg (show ¬ p1 = 4 from nn 4 (by decide)), if_neg (show ¬ p1 = 5 from nn 5 (by decide)), if_neg (show ¬ p1 = 6 from nn 6 (by decide))]
    exact ⟨_, _, rfl, rfl, rfl, hR⟩
theorem tw_bd {n : Nat} {par : Nat → Nat} {s w : Int32} (hs : ∀ i, tb s i = true → i < n) (hw : ∀ j, tb w j = twf n par s j) : ∀ i, tb w i = true → i < n ∧ 1 ≤ i := by
  intro i hi
  rw [hw] at hi
  unfold twf at hi
  by_cases q : tb s i = true
  · refine ⟨hs i q, ?_⟩
    by_cases z : i = 0
    · subst z; exact absurd hi (by simp)
    · omega
  · rw [tbf q] at hi; exact absurd hi (by simp)
theorem ks1_loop {n : Nat} {par : Nat → Nat} {oP oA mP : Nat → Int32} (hT : TR n par oP oA mP) {s : Int32} {i : Nat} (hi : i < n) : ∀ (k j fuel : Nat) (x : Int32), j + k = n → 1 ≤ j → k + 1 ≤ fuel → (∀ l, tb x l = (decide (l < j) && kid par s i l)) → ∃ y, sp_X1_kidSet_5 (nI i) s (nI n) oP fuel x (nI j) = some y ∧ ∀ l, tb y l = (decide (l < n) && kid par s i l) := by
  have hn := hT.2.1
  intro k
  induction k with
  | zero =>
    intro j fuel x hj h1 hf hx
    obtain ⟨m, rfl⟩ : ∃ m, fuel = m + 1 := ⟨fuel - 1, by omega⟩
    have : j = n := by omega
    subst this
    exact ⟨x, by rw [sp_X1_kidSet_5, if_pos (nI_le (Nat.le_refl _) (by omega))], hx⟩
  | succ k ih =>
    intro j fuel x hj h1 hf hx
    obtain ⟨m, rfl⟩ : ∃ m, fuel = m + 1 := ⟨fuel - 1, by omega⟩
    obtain ⟨q1, q2, q3, q4⟩ := hT.2.2.2 j h1 (by omega)
    have key0 : kid par s i j = false → ∀ l, tb x l = (decide (l < j + 1) && kid par s i l) := by
      intro q l
      rw [hx l]
      by_cases e : l = j
      · subst e; simp [q]
      · rw [dlt e]
    rw [sp_X1_kidSet_5, if_neg (nI_ge (by omega) (by omega)), nI_1 j]
    by_cases t : tb s j = true
    · rw [if_pos (bit1 (by omega) t), xo_at_nI (by omega) lt31, ob_s, q2]
      by_cases e : par j = i
      · rw [if_pos (by rw [e])]
        apply ih (j + 1) m _ (by omega) (by omega) (by omega)
        intro l
        rw [tb_or, tb_one (by omega), hx l]
        by_cases e2 : l = j
        · subst e2
          have : kid par s i l = true := by unfold kid; simp [t, h1, e]
          simp [this]
        · rw [dlt e2]; simp [e2]
      · rw [if_neg (by rw [nI_eq (by omega) (by omega)]; exact e)]
        exact ih (j + 1) m _ (by omega) (by omega) (by omega) (key0 (by unfold kid; simp [e]))
    · rw [if_neg (bit1n (by omega) (tbf t))]
      exact ih (j + 1) m _ (by omega) (by omega) (by omega) (key0 (by unfold kid; simp [tbf t]))
theorem ks1 {n : Nat} {par : Nat → Nat} {oP oA mP : Nat → Int32} (hT : TR n par oP oA mP) (s : Int32) {i : Nat} (hi : i < n) : ∃ y, sp_X1_kidSet (nI i) s (nI n) oP = some y ∧ ∀ l, tb y l = (decide (l < n) && kid par s i l) := by
  have hn := hT.2.1
  have hn1 := hT.1
  unfold sp_X1_kidSet
  apply ks1_loop hT hi (n - 1) 1 5000 0 (by omega) (by omega) (by omega)
  intro l
  rw [tb_0]
  by_cases z : l = 0
  · subst z; unfold kid; simp
  · rw [decide_eq_false (by omega)]; rfl
theorem kids1 {n : Nat} {par : Nat → Nat} {oP oA mP : Nat → Int32} (hT : TR n par oP oA mP) (s : Int32) {i : Nat} (hi : i < n) : ∃ y, sp_X1_kidSet (nI i) s (nI n) oP = some y ∧ sp_J6_bitCount_0f7a4 y = nI (zcnt (kid par s i) n) := by
  obtain ⟨y, y1, y2⟩ := ks1 hT s hi
  refine ⟨y, y1, ?_⟩
  rw [bc_val (n := n) hT.2.1]
  · congr 1
    apply zcnt_congr
    intro j hj
    rw [y2, decide_eq_true hj]; rfl
  · intro l hl
    rw [y2] at hl
    by_cases q : l < n
    · exact q
    · rw [decide_eq_false q] at hl; exact absurd hl (by simp)
theorem kid_11 {n : Nat} (par : Nat → Nat) (s : Int32) (i : Nat) (hn : n ≤ 12) (h1 : 1 ≤ n) : zcnt (kid par s i) n ≤ 11 := by
  obtain ⟨n', rfl⟩ : ∃ n', n = n' + 1 := ⟨n - 1, by omega⟩
  have hz : zcnt (kid par s i) 1 = 0 := by
    rw [zcnt_s]
    have : ¬ kid par s i 0 = true := by unfold kid; simp
    rw [if_neg this]; rfl
  have gen : ∀ q, zcnt (kid par s i) (q + 1) ≤ q := by
    intro q
    induction q with
    | zero => rw [hz]; exact Nat.le_refl _
    | succ q ihq => rw [zcnt_s]; split <;> omega
  have := gen n'
  omega
theorem q_told : op_told RRv := by
  intro o_size o_year o_gone o_minds o_lasts r_size r_token r_place r_at r_open r_made t_size t_rule i_there i_rule i_size i_year i_gone i_minds i_lasts o_parent o_kind o_number o_odds o_above o_kidCount o_lead r_tape r_steps r_ends t_steps t_ends t_stack s_sort s_size s_items i_number i_odds x_prices x_facts x_laws x_clues m_thrown m_textCount m_rule m_taped m_n m_minds m_lasts m_cutNow m_year m_ofNode m_ofDepth m_ofKids m_ofTwigs m_ofLast m_ofYear m_from m_size m_here m_token m_tokenAt m_open m_bad m_fault m_nKept m_mindsKept m_lastsKept m_cutKept m_yearKept m_ruleKept m_tokenWorth m_texts m_textSize m_tape m_parents m_kinds m_numbers m_odds m_yes m_no m_prices m_numbersKept m_oddsKept m_isThere m_sorts m_sheetSize m_items hR p1 p2
  obtain ⟨n, t, hT, hP, hX, hI, hS⟩ := id hR
  obtain ⟨par, rfl, rfl, T, K, rfl, rfl, rfl, rfl, g0, pz, hO, hy, hg⟩ := rt_open hT
  have hn := T.2.1
  have hn1 := T.1
  obtain ⟨s, s1, s2, s3, s4⟩ := st_now T m_cutNow g0
  obtain ⟨w, w1, w2, w3⟩ := twigs_both T (st_bd s3)
  obtain ⟨Y, v1, v2, v3⟩ := vote_both T K s m_minds m_lasts s4
  obtain ⟨k1, l1, e1⟩ := v1 o_kidCount o_lead
  obtain ⟨k2, l2, e2⟩ := v2 m_yes m_no
  have a6 : sp_X6_in (Int32.toInt64 p2) 0 9 = 0 ↔ ¬ inI p2 0 (9 : Nat) := by rw [in6]; rfl
  unfold sp_X5_told sp_X6_told
  rcases node_c p1 hn1 hn with ⟨j, hj, e⟩ | hno
  · subst e
    obtain ⟨r, r1, r2⟩ := nd1 hj hn
    have hj12 : j < 12 := by omega
    have hj32 : j < 32 := by omega
    obtain ⟨c1, c2, c3, c4⟩ := K j hj
    obtain ⟨kd, kd1, kd2⟩ := kids1 T s hj
    obtain ⟨ww, ww1, ww2, ww3⟩ := weight_both hn K hj (kid_11 par s j hn hn1)
    rw [if_neg (has1 hj hn), r1, ob_s, if_neg r2]
    simp only [s1, s2, w1, w2, ob_s, e1, e2, xo_at_nI hj12 lt31, bit_nI _ hj32, shr_nI _ hj32, kids6 T s hj, kd1, kd2, twig6 T s hj, ww2, ww3, c1, c2, (hO j hj).1, w3 j]
    rcases in_c p2 9 (by decide) with ⟨k, hk, e⟩ | hno
    · rw [if_neg (fun q => a6.mp q (by rw [e, nI_inI (by omega)]; omega))]
      subst e
      have : k = 0 ∨ k = 1 ∨ k = 2 ∨ k = 3 ∨ k = 4 ∨ k = 5 ∨ k = 6 ∨ k = 7 ∨ k = 8 ∨ k = 9 := by omega
      rcases this with rfl | rfl | rfl | rfl | rfl | rfl | rfl | rfl | rfl | rfl
      · repeat (first | rw [if_pos (by decide)] | rw [if_neg (by decide)])
        exact ⟨_, _, rfl, rfl, rfl, hR⟩
      · repeat (first | rw [if_pos (by decide)] | rw [if_neg (by decide)])
        exact ⟨_, _, rfl, rfl, rfl, hR⟩
      · repeat (first | rw [if_pos (by decide)] | rw [if_neg (by decide)])
        exact ⟨_, _, rfl, rfl, rfl, hR⟩
      · repeat (first | rw [if_pos (by decide)] | rw [if_neg (by decide)])
        exact ⟨_, _, rfl, rfl, rfl, hR⟩
      · repeat (first | rw [if_pos (by decide)] | rw [if_neg (by decide)])
        exact ⟨_, _, rfl, rfl, rfl, hR⟩
      · repeat (first | rw [if_pos (by decide)] | rw [if_neg (by decide)])
        by_cases z : j = 0
        · subst z
          rw [if_pos nI_0, pz]
          exact ⟨_, _, rfl, rfl, rfl, hR⟩
        · obtain ⟨p1, p2, p3, p4⟩ := T.2.2.2 j (by omega) hj
          rw [if_neg (nI_ne0 (by omega) (by omega)), p2, p3]
          exact ⟨_, _, rfl, rfl, rfl, hR⟩
      · by_cases b : tb s j = true
        · rw [b]
          repeat (first | rw [if_pos (by decide)] | rw [if_neg (by decide)])
          exact ⟨_, _, rfl, rfl, rfl, hR⟩
        · rw [tbf b]
          repeat (first | rw [if_pos (by decide)] | rw [if_neg (by decide)])
          exact ⟨_, _, rfl, rfl, rfl, hR⟩
      · by_cases b : tb s j = true
        · rw [b]
          by_cases b2 : twf n par s j = true
          · rw [b2]
            repeat (first | rw [if_pos (by decide)] | rw [if_neg (by decide)])
            exact ⟨_, _, rfl, rfl, rfl, hR⟩
          · have b3 : twf n par s j = false := by revert b2; cases twf n par s j <;> simp
            rw [b3]
            repeat (first | rw [if_pos (by decide)] | rw [if_neg (by decide)])
            exact ⟨_, _, rfl, rfl, rfl, hR⟩
        · have b3 : twf n par s j = false := by unfold twf; rw [tbf b]; rfl
          rw [tbf b, b3]
          repeat (first | rw [if_pos (by decide)] | rw [if_neg (by decide)])
          exact ⟨_, _, rfl, rfl, rfl, hR⟩
      · by_cases b : tb s j = true
        · rw [b]
          repeat (first | rw [if_pos (by decide)] | rw [if_neg (by decide)])
          exact ⟨_, _, rfl, rfl, rfl, hR⟩
        · rw [tbf b]
          repeat (first | rw [if_pos (by decide)] | rw [if_neg (by decide)])
          exact ⟨_, _, rfl, rfl, rfl, hR⟩
      · by_cases b : tb s j = true
        · rw [b]
          repeat (first | rw [if_pos (by decide)] | rw [if_neg (by decide)])
          exact ⟨_, _, rfl, rfl, rfl, hR⟩
        · rw [tbf b]
          repeat (first | rw [if_pos (by decide)] | rw [if_neg (by decide)])
          exact ⟨_, _, rfl, rfl, rfl, hR⟩
    · have nn : ∀ j, j ≤ 9 → ¬ p2 = nI j := fun j hj => notin hno (by decide) hj
      rw [if_pos (a6.mpr hno), if_neg (show ¬ p2 = 0 from nn 0 (by decide)), if_neg (show ¬ p2 = 1 from nn 1 (by decide)), if_neg (show ¬ p2 = 2 from nn 2 (by decide)), if_neg (show ¬ p2 = 3 from nn 3 (by decide)), if_neg (show ¬ p2 = 4 from nn 4 (by decide)), if_neg (show ¬ p2 = 5 from nn 5 (by decide)), if_neg (show ¬ p2 = 6 from nn 6 (by decide)), if_neg (show ¬ p2 = 7 from nn 7 (by decide)), if_neg (show ¬ p2 = 8 from nn 8 (by decide)), if_neg (show ¬ p2 = 9 from nn 9 (by decide))]
      exact ⟨_, _, rfl, rfl, rfl, hR⟩
  · rw [if_pos (has0 hn1 hn hno), nd0 hn1 hn hno, ob_s, if_pos rfl]
    exact ⟨_, _, rfl, rfl, rfl, hR⟩
