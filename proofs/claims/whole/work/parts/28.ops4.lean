/-! grow, set, sheets -/
def RTT (n : Nat) (o_year m_year : Int32) (o : Int32 × Int32 × Int32 × Int32 × Int32 × (Nat → Int32) × (Nat → Int32) × (Nat → Int32) × (Nat → Int32) × (Nat → Int32)) (o' : Int32 × Int32 × Int32 × Int32 × Int32 × (Nat → Int32) × (Nat → Int32) × (Nat → Int32) × (Nat → Int32)) : Prop := RTree n o.2.1 o_year o.2.2.1 o.2.2.2.1 o.2.2.2.2.1 o.2.2.2.2.2.1 o.2.2.2.2.2.2.1 o.2.2.2.2.2.2.2.1 o.2.2.2.2.2.2.2.2.1 o.2.2.2.2.2.2.2.2.2 o'.2.1 o'.2.2.1 o'.2.2.2.1 o'.2.2.2.2.1 m_year o'.2.2.2.2.2.1 o'.2.2.2.2.2.2.1 o'.2.2.2.2.2.2.2.1 o'.2.2.2.2.2.2.2.2
theorem grow_core {n : Nat} {o_size o_year o_gone o_minds o_lasts : Int32} {o_parent o_kind o_number o_odds o_above : Nat → Int32} {m_n m_minds m_lasts m_cutNow m_year : Int32} {m_parents m_kinds m_numbers m_odds : Nat → Int32} (hT : RTree n o_size o_year o_gone o_minds o_lasts o_parent o_kind o_number o_odds o_above m_n m_minds m_lasts m_cutNow m_year m_parents m_kinds m_numbers m_odds) (p1 p2 p3 : Int32) : ∃ o o', sp_X1_sprout p1 p2 p3 o_size o_gone o_minds o_lasts o_parent o_kind o_number o_odds o_above = some o ∧ sp_X6_grow p1 p2 p3 m_n m_minds m_lasts m_cutNow m_parents m_kinds m_numbers m_odds = some o' ∧ o.1 = o'.1 ∧ ∃ n', n ≤ n' ∧ RTT n' o_year m_year o o' := by
  have hT' := hT
  obtain ⟨par, rfl, rfl, T, K, rfl, rfl, rfl, rfl, g0, pz, hO, hy, hg⟩ := rt_open hT
  obtain ⟨h1, h2, ⟨a1, a2, a3, a4, a5, a6⟩, ⟨b1, b2⟩, h5, h6, h7, h8, h9, h10, h11, h12, h13, h14⟩ := hT
  have hn := T.2.1
  have hn1 := T.1
  obtain ⟨s, s1, s2, s3, s4⟩ := st_now T m_cutNow g0
  have c5 : sp_X5_isIn p2 0 5 = 0 ↔ ¬ inI p2 0 (5 : Nat) := by rw [in5]; rfl
  have c6 : sp_X6_in (Int32.toInt64 p2) 0 5 = 0 ↔ ¬ inI p2 0 (5 : Nat) := by rw [in6]; rfl
  have d5 : sp_X5_isIn p3 0 91 = 0 ↔ ¬ inI p3 0 (91 : Nat) := by rw [in5]; rfl
  have d6 : sp_X6_in (Int32.toInt64 p3) 0 91 = 0 ↔ ¬ inI p3 0 (91 : Nat) := by rw [in6]; rfl
  unfold sp_X1_sprout sp_X6_grow
  rcases node_c p1 hn1 hn with ⟨j, hj, e⟩ | hno
  · subst e
    obtain ⟨r, r1, r2⟩ := nd1 hj hn
    rw [if_neg (has1 hj hn), r1, ob_s, if_neg r2]
    by_cases i2 : inI p2 0 (5 : Nat)
    · rw [if_neg (fun q => c5.mp q i2), if_neg (fun q => c6.mp q i2)]
      by_cases i3 : inI p3 0 (91 : Nat)
      · rw [if_neg (fun q => d5.mp q i3), if_neg (fun q => d6.mp q i3)]
        obtain ⟨k, hk, ek⟩ := inI_nI i2 (by decide)
        obtain ⟨d, hd, ed⟩ := inI_nI i3 (by decide)
        by_cases r10 : xi_rem p3 10 ≤ 1
        · rw [if_pos r10, if_pos r10, s1, ob_s, s2, ob_s]
          by_cases b : tb s j = true
          · rw [if_neg (bit0n (by omega) b), if_neg (shr0n (by omega) b)]
            by_cases e12 : n = 12
            · subst e12
              rw [if_neg (by decide), if_pos (by decide)]
              exact ⟨_, _, rfl, rfl, rfl, 12, Nat.le_refl _, hT'⟩
            · have n12 : n < 12 := by omega
              have j12 : j < 12 := by omega
              rw [if_pos (show nI n < 12 from nI_lt (b := 12) n12 (by decide)), if_neg (show ¬ nI n = 12 from fun q => e12 ((nI_eq (b := 12) (by omega) (by decide)).mp q))]
              simp only [xo_set_nI n12 lt31, ob_s, xo_at_nI j12 lt31]
              refine ⟨_, _, rfl, rfl, ?_, n + 1, by omega, ?_⟩
              · dsimp only
                rw [Int32.add_sub_cancel]
              · refine ⟨nI_1 n, nI_1 n, ⟨by omega, by omega, ?_, ?_, ?_, ?_⟩, ⟨?_, ?_⟩, ?_, ?_, ?_, rfl, ?_, ?_, rfl, h12, ?_, ?_⟩
                · intro i q1 q2
                  dsimp only
                  by_cases e : i = n
                  · subst e
                    exact ⟨j, hj, pk_us⟩
                  · rw [pk_un e]; exact a3 i q1 (by omega)
                · intro i q1
                  dsimp only
                  by_cases e : i = n
                  · subst e
                    exact ⟨k, hk, by rw [pk_us]; exact ek⟩
                  · rw [pk_un e]; exact a4 i (by omega)
                · intro i q1
                  dsimp only
                  by_cases e : i = n
                  · subst e
                    exact ⟨d / 10, by omega, by rw [pk_us, ed]; exact pk_div (d := 10) (by omega) (by decide) (by decide)⟩
                  · rw [pk_un e]; exact a5 i (by omega)
                · intro i q1
                  dsimp only
                  by_cases e : i = n
                  · subst e
                    exact ⟨50, by omega, by rw [pk_us]; rfl⟩
                  · rw [pk_un e]; exact a6 i (by omega)
                · dsimp only
                  rw [pk_un (by omega)]; exact b1
                · intro i p q1 q2 q3 q4
                  dsimp only at q4 ⊢
                  rw [pk_un (show p ≠ n by omega)]
                  by_cases e : i = n
                  · subst e
                    rw [pk_us] at q4
                    have : j = p := (nI_eq (by omega) (by omega)).mp q4
                    subst this
                    rw [pk_us]
                  · rw [pk_un e]
                    rw [pk_un e] at q4
                    exact b2 i p q1 (by omega) q3 q4
                · intro i q1 q2
                  dsimp only
                  by_cases e : i = n
                  · subst e; rw [pk_us, pk_us]
                  · rw [pk_un e, pk_un e]; exact h5 i q1 (by omega)
                · dsimp only
                  rw [pk_un (by omega)]; exact pz
                · intro i q1
                  dsimp only
                  by_cases e : i = n
                  · subst e
                    rw [pk_us, pk_us, pk_us, pk_us, pk_us, pk_us]; exact ⟨rfl, rfl, rfl⟩
                  · rw [pk_un e, pk_un e, pk_un e, pk_un e, pk_un e, pk_un e]; exact h7 i (by omega)
                · exact (wb0 _ (by omega)).symm
                · exact (wb0 _ (by omega)).symm
                · dsimp only
                  rw [tb_wb0 _ (by omega), g0]; rfl
                · intro i hi
                  dsimp only
                  rw [tb_wb0 _ (by omega), h14 i (by omega)]; rfl
          · rw [if_pos (bit0 (by omega) (tbf b)), if_pos (shr0 (by omega) (tbf b))]
            exact ⟨_, _, rfl, rfl, rfl, n, Nat.le_refl _, hT'⟩
        · rw [if_neg r10, if_neg r10]
          exact ⟨_, _, rfl, rfl, rfl, n, Nat.le_refl _, hT'⟩
      · rw [if_pos (d5.mpr i3), if_pos (d6.mpr i3)]
        exact ⟨_, _, rfl, rfl, rfl, n, Nat.le_refl _, hT'⟩
    · rw [if_pos (c5.mpr i2), if_pos (c6.mpr i2)]
      exact ⟨_, _, rfl, rfl, rfl, n, Nat.le_refl _, hT'⟩
  · rw [if_pos (has0 hn1 hn hno), nd0 hn1 hn hno, ob_s, if_pos rfl]
    exact ⟨_, _, rfl, rfl, rfl, n, Nat.le_refl _, hT'⟩
theorem rimg_up {n n' t : Nat} {i_there i_rule i_size i_year i_gone i_minds i_lasts : Int32} {i_number i_odds : Nat → Int32} {k1 k2 k3 k4 k5 k6 : Int32} {k7 k8 : Nat → Int32} (h : n ≤ n') (hI : RImg n t i_there i_rule i_size i_year i_gone i_minds i_lasts i_number i_odds k1 k2 k3 k4 k5 k6 k7 k8) : RImg n' t i_there i_rule i_size i_year i_gone i_minds i_lasts i_number i_odds k1 k2 k3 k4 k5 k6 k7 k8 := by
  rcases hI with h1 | ⟨h1, k, h2, h3, h4⟩
  · exact Or.inl h1
  · exact Or.inr ⟨h1, k, h2, by omega, h4⟩
theorem q_grow : op_grow RRv := by
  intro o_size o_year o_gone o_minds o_lasts r_size r_token r_place r_at r_open r_made t_size t_rule i_there i_rule i_size i_year i_gone i_minds i_lasts o_parent o_kind o_number o_odds o_above o_kidCount o_lead r_tape r_steps r_ends t_steps t_ends t_stack s_sort s_size s_items i_number i_odds x_prices x_facts x_laws x_clues m_thrown m_textCount m_rule m_taped m_n m_minds m_lasts m_cutNow m_year m_ofNode m_ofDepth m_ofKids m_ofTwigs m_ofLast m_ofYear m_from m_size m_here m_token m_tokenAt m_open m_bad m_fault m_nKept m_mindsKept m_lastsKept m_cutKept m_yearKept m_ruleKept m_tokenWorth m_texts m_textSize m_tape m_parents m_kinds m_numbers m_odds m_yes m_no m_prices m_numbersKept m_oddsKept m_isThere m_sorts m_sheetSize m_items hR p1 p2 p3
  obtain ⟨n, t, hT, hP, hX, hI, hS⟩ := hR
  obtain ⟨o, o', e1, e2, e3, n', hn, hT'⟩ := grow_core hT p1 p2 p3
  unfold sp_X5_grow
  rw [e1, ob_s]
  exact ⟨_, o', rfl, e2, e3, n', t, hT', hP, hX, rimg_up hn hI, hS⟩
theorem mo5 (x : Int32) (k : Nat) (hk : k < 2 ^ 31) : sp_X5_isIn x 0 (nI k) = 0 ↔ ¬ inI x 0 k := by
  rw [in5, nI_toInt hk, show (0 : Int32).toInt = 0 by decide]
theorem q_set : op_set RRv := by
  intro o_size o_year o_gone o_minds o_lasts r_size r_token r_place r_at r_open r_made t_size t_rule i_there i_rule i_size i_year i_gone i_minds i_lasts o_parent o_kind o_number o_odds o_above o_kidCount o_lead r_tape r_steps r_ends t_steps t_ends t_stack s_sort s_size s_items i_number i_odds x_prices x_facts x_laws x_clues m_thrown m_textCount m_rule m_taped m_n m_minds m_lasts m_cutNow m_year m_ofNode m_ofDepth m_ofKids m_ofTwigs m_ofLast m_ofYear m_from m_size m_here m_token m_tokenAt m_open m_bad m_fault m_nKept m_mindsKept m_lastsKept m_cutKept m_yearKept m_ruleKept m_tokenWorth m_texts m_textSize m_tape m_parents m_kinds m_numbers m_odds m_yes m_no m_prices m_numbersKept m_oddsKept m_isThere m_sorts m_sheetSize m_items hR p1 p2 p3
  obtain ⟨n, t, hT, hP, hX, hI, hS⟩ := id hR
  obtain ⟨par, rfl, rfl, T, K, rfl, rfl, rfl, rfl, g0, pz, hO, hy, hg⟩ := rt_open hT
  obtain ⟨h1, h2, ⟨a1, a2, a3, a4, a5, a6⟩, h4, h5, h6, h7, h8, h9, h10, h11, h12, h13, h14⟩ := hT
  have hn := T.2.1
  have hn1 := T.1
  have a6' : sp_X6_in (Int32.toInt64 p1) 0 4 = 0 ↔ ¬ inI p1 0 (4 : Nat) := by rw [in6]; rfl
  have y5 : sp_X5_isIn p3 0 99 = 0 ↔ ¬ inI p3 0 (99 : Nat) := by rw [in5]; rfl
  have y6 : sp_X6_in (Int32.toInt64 p3) 0 99 = 0 ↔ ¬ inI p3 0 (99 : Nat) := by rw [in6]; rfl
  have n5 : sp_X5_isIn p3 0 9 = 0 ↔ ¬ inI p3 0 (9 : Nat) := by rw [in5]; rfl
  have n6 : sp_X6_in (Int32.toInt64 p3) 0 9 = 0 ↔ ¬ inI p3 0 (9 : Nat) := by rw [in6]; rfl
  have z5 : sp_X5_isIn p3 0 100 = 0 ↔ ¬ inI p3 0 (100 : Nat) := by rw [in5]; rfl
  have z6 : sp_X6_in (Int32.toInt64 p3) 0 100 = 0 ↔ ¬ inI p3 0 (100 : Nat) := by rw [in6]; rfl
  have o5 : sp_X5_isIn p3 0 1 = 0 ↔ ¬ inI p3 0 (1 : Nat) := by rw [in5]; rfl
  have o6 : sp_X6_in (Int32.toInt64 p3) 0 1 = 0 ↔ ¬ inI p3 0 (1 : Nat) := by rw [in6]; rfl
  have p5 : sp_X5_isIn p1 0 3 = 0 ↔ ¬ inI p1 0 (3 : Nat) := by rw [in5]; rfl
  unfold sp_X5_set sp_X6_set
  rcases in_c p1 4 (by decide) with ⟨k, hk, e⟩ | hno
  · rw [if_neg (fun q => a6'.mp q (by rw [e, nI_inI (by omega)]; omega))]
    by_cases k4 : k = 4
    · subst k4
      subst e
      rw [if_pos (show nI 4 = 4 by decide), if_pos (show (4 : Int32) ≤ nI 4 by decide)]
      unfold sp_X6_set_25
      rw [if_neg (show ¬ nI 4 = 0 by decide), if_neg (show ¬ nI 4 = 2 by decide), if_pos (show nI 4 = 4 by decide)]
      unfold sp_X6_set_61
      by_cases i3 : inI p3 0 (99 : Nat)
      · rw [if_neg (fun q => y5.mp q i3), if_neg (fun q => y6.mp q i3)]
        obtain ⟨d, hd, ed⟩ := inI_nI i3 (by decide)
        unfold sp_X6_set_70
        rw [if_neg (show ¬ nI 4 = 0 by decide), if_neg (show ¬ nI 4 = 1 by decide), if_neg (show ¬ nI 4 = 2 by decide), if_neg (show ¬ nI 4 = 3 by decide)]
        unfold sp_X6_set_135
        rw [if_neg (show ¬ nI 4 = 0 by decide), if_neg (show ¬ nI 4 = 1 by decide), if_neg (show ¬ nI 4 = 2 by decide), if_neg (show ¬ nI 4 = 3 by decide)]
        exact ⟨_, _, rfl, rfl, rfl, n, t, ⟨h1, h2, ⟨a1, a2, a3, a4, a5, a6⟩, h4, h5, h6, h7, h8, h9, h10, rfl, ⟨d, hd, ed⟩, h13, h14⟩, hP, hX, hI, hS⟩
      · rw [if_pos (y5.mpr i3), if_pos (y6.mpr i3)]
        exact ⟨_, _, rfl, rfl, rfl, hR⟩
    · have k3 : k ≤ 3 := by omega
      subst e
      rw [if_neg (show ¬ nI k = 4 from fun q => k4 ((nI_eq (b := 4) (by omega) (by decide)).mp q)), if_neg (show ¬ (4 : Int32) ≤ nI k from nI_ge (b := 4) (by omega) (by decide))]
      rcases node_c p2 hn1 hn with ⟨j, hj, e⟩ | hno
      · subst e
        obtain ⟨r, r1, r2⟩ := nd1 hj hn
        have j12 : j < 12 := by omega
        have j32 : j < 32 := by omega
        rw [if_neg (has1 hj hn), r1, ob_s, if_neg r2, if_neg (fun q => p5.mp q (by rw [nI_inI (by omega)]; omega))]
        have : k = 0 ∨ k = 1 ∨ k = 2 ∨ k = 3 := by omega
        rcases this with rfl | rfl | rfl | rfl
        · rw [show sp_X5_mostOf (nI 0) = 9 from rfl]
          unfold sp_X6_set_25
          rw [if_pos nI_0]
          unfold sp_X6_set_61
          by_cases i3 : inI p3 0 (9 : Nat)
          · rw [if_neg (fun q => n5.mp q i3), if_neg (fun q => n6.mp q i3)]
            obtain ⟨d, hd, ed⟩ := inI_nI i3 (by decide)
            unfold sp_X6_set_70
            rw [if_pos nI_0]
            unfold sp_X6_set_135
            simp only [xo_at_nI j12 lt31, xo_set_nI j12 lt31, ob_s, if_pos nI_0]
            refine ⟨_, _, rfl, rfl, (h7 j hj).2.1.symm, n, t, ⟨h1, h2, ⟨a1, a2, a3, a4, ?_, a6⟩, h4, h5, h6, ?_, h8, h9, h10, h11, h12, h13, h14⟩, hP, hX, hI, hS⟩
            · intro i hi
              dsimp only
              by_cases e : i = j
              · subst e; exact ⟨d, hd, by rw [pk_us]; exact ed⟩
              · rw [pk_un e]; exact a5 i hi
            · intro i hi
              dsimp only
              by_cases e : i = j
              · subst e; rw [pk_us, pk_us]; exact ⟨(h7 i hi).1, rfl, (h7 i hi).2.2⟩
              · rw [pk_un e, pk_un e]; exact h7 i hi
          · rw [if_pos (n5.mpr i3), if_pos (n6.mpr i3)]
            exact ⟨_, _, rfl, rfl, rfl, hR⟩
        · rw [show sp_X5_mostOf (nI 1) = 1 from rfl]
          unfold sp_X6_set_25
          rw [if_neg (show ¬ nI 1 = 0 by decide), if_neg (show ¬ nI 1 = 2 by decide), if_neg (show ¬ nI 1 = 4 by decide)]
          unfold sp_X6_set_61
          by_cases i3 : inI p3 0 (1 : Nat)
          · rw [if_neg (fun q => o5.mp q i3), if_neg (fun q => o6.mp q i3)]
            unfold sp_X6_set_70
            rw [if_neg (show ¬ nI 1 = 0 by decide), if_pos (show nI 1 = 1 by decide)]
            unfold sp_X6_set_135
            rw [if_neg (show ¬ nI 1 = 0 by decide), if_pos (show nI 1 = 1 by decide)]
            exact ⟨_, _, rfl, rfl, by rw [bit_nI _ j32, shr_nI _ j32], n, t, ⟨h1, h2, ⟨a1, a2, a3, a4, a5, a6⟩, h4, h5, h6, h7, rfl, h9, h10, h11, h12, h13, h14⟩, hP, hX, hI, hS⟩
          · rw [if_pos (o5.mpr i3), if_pos (o6.mpr i3)]
            exact ⟨_, _, rfl, rfl, rfl, hR⟩
        · rw [show sp_X5_mostOf (nI 2) = 100 from rfl]
          unfold sp_X6_set_25
          rw [if_neg (show ¬ nI 2 = 0 by decide), if_pos (show nI 2 = 2 by decide)]
          unfold sp_X6_set_61
          by_cases i3 : inI p3 0 (100 : Nat)
          · rw [if_neg (fun q => z5.mp q i3), if_neg (fun q => z6.mp q i3)]
            obtain ⟨d, hd, ed⟩ := inI_nI i3 (by decide)
            unfold sp_X6_set_70
            rw [if_neg (show ¬ nI 2 = 0 by decide), if_neg (show ¬ nI 2 = 1 by decide), if_pos (show nI 2 = 2 by decide)]
            unfold sp_X6_set_135
            simp only [xo_at_nI j12 lt31, xo_set_nI j12 lt31, ob_s, if_neg (show ¬ nI 2 = 0 by decide), if_neg (show ¬ nI 2 = 1 by decide), if_pos (show nI 2 = 2 by decide)]
            refine ⟨_, _, rfl, rfl, (h7 j hj).2.2.symm, n, t, ⟨h1, h2, ⟨a1, a2, a3, a4, a5, ?_⟩, h4, h5, h6, ?_, h8, h9, h10, h11, h12, h13, h14⟩, hP, hX, hI, hS⟩
            · intro i hi
              dsimp only
              by_cases e : i = j
              · subst e; exact ⟨d, hd, by rw [pk_us]; exact ed⟩
              · rw [pk_un e]; exact a6 i hi
            · intro i hi
              dsimp only
              by_cases e : i = j
              · subst e; rw [pk_us, pk_us]; exact ⟨(h7 i hi).1, (h7 i hi).2.1, rfl⟩
              · rw [pk_un e, pk_un e]; exact h7 i hi
          · rw [if_pos (z5.mpr i3), if_pos (z6.mpr i3)]
            exact ⟨_, _, rfl, rfl, rfl, hR⟩
        · rw [show sp_X5_mostOf (nI 3) = 1 from rfl]
          unfold sp_X6_set_25
          rw [if_neg (show ¬ nI 3 = 0 by decide), if_neg (show ¬ nI 3 = 2 by decide), if_neg (show ¬ nI 3 = 4 by decide)]
          unfold sp_X6_set_61
          by_cases i3 : inI p3 0 (1 : Nat)
          · rw [if_neg (fun q => o5.mp q i3), if_neg (fun q => o6.mp q i3)]
            unfold sp_X6_set_70
            rw [if_neg (show ¬ nI 3 = 0 by decide), if_neg (show ¬ nI 3 = 1 by decide), if_neg (show ¬ nI 3 = 2 by decide), if_pos (show nI 3 = 3 by decide)]
            unfold sp_X6_set_135
            rw [if_neg (show ¬ nI 3 = 0 by decide), if_neg (show ¬ nI 3 = 1 by decide), if_neg (show ¬ nI 3 = 2 by decide), if_pos (show nI 3 = 3 by decide)]
            exact ⟨_, _, rfl, rfl, by rw [bit_nI _ j32, shr_nI _ j32], n, t, ⟨h1, h2, ⟨a1, a2, a3, a4, a5, a6⟩, h4, h5, h6, h7, h8, rfl, h10, h11, h12, h13, h14⟩, hP, hX, hI, hS⟩
          · rw [if_pos (o5.mpr i3), if_pos (o6.mpr i3)]
            exact ⟨_, _, rfl, rfl, rfl, hR⟩
      · rw [if_pos (has0 hn1 hn hno), nd0 hn1 hn hno, ob_s, if_pos rfl]
        exact ⟨_, _, rfl, rfl, rfl, hR⟩
  · have n4 : ¬ p1 = 4 := notin (j := 4) hno (by decide) (by decide)
    have n3 : ¬ inI p1 0 (3 : Nat) := fun q => hno ⟨q.1, by have := q.2; omega⟩
    rw [if_pos (a6'.mpr hno), if_neg n4]
    by_cases hh : sp_X1_has p2 (nI n) = 0
    · rw [if_pos hh]
      exact ⟨_, _, rfl, rfl, rfl, hR⟩
    · rw [if_neg hh, if_pos (p5.mpr n3)]
      exact ⟨_, _, rfl, rfl, rfl, hR⟩
theorem sub40 {z m : Nat} (hz : z ≤ 100) (hm : m < 2 ^ 31) : (nI z - nI m).toInt = (z : Int) - m := by
  rw [Int32.toInt_sub, nI_toInt (by omega), nI_toInt hm]
  apply Int.bmod_eq_of_le <;> omega
theorem holds_c {q z : Nat} {ss : Nat → Int32} (hq : q < 4) (hs : ss q = nI z) (hz : z ≤ 40) (i m : Int32) : (∃ i' m', i = nI i' ∧ m = nI m' ∧ i' + m' ≤ z ∧ sp_X3_holds (nI q) i m ss = some 1) ∨ (sp_X3_holds (nI q) i m ss = some 0 ∧ (i < 0 ∨ m < 0 ∨ (nI z - m) < i)) := by
  unfold sp_X3_holds
  by_cases a : i < 0
  · rw [if_pos a]; exact Or.inr ⟨rfl, Or.inl a⟩
  · by_cases b : m < 0
    · rw [if_neg a, if_pos b]; exact Or.inr ⟨rfl, Or.inr (Or.inl b)⟩
    · rw [if_neg a, if_neg b, xo_at_nI hq lt31c, ob_s, hs]
      by_cases c : (nI z - m) < i
      · rw [if_pos c]; exact Or.inr ⟨rfl, Or.inr (Or.inr c)⟩
      · rw [if_neg c]
        obtain ⟨i', i1, rfl⟩ := nI_of a
        obtain ⟨m', m1, rfl⟩ := nI_of b
        refine Or.inl ⟨i', m', rfl, rfl, ?_, rfl⟩
        rw [Int32.lt_iff_toInt_lt, sub40 (by omega) m1, nI_toInt i1] at c
        omega
theorem sh_c {q : Nat} (hq : q < 4) {s_sort s_size s_items m_isThere m_sorts m_sheetSize m_items : Nat → Int32} (hS : RSh s_sort s_size s_items m_isThere m_sorts m_sheetSize m_items) : (s_sort q = -1 ∧ m_isThere q = 0) ∨ ((¬ s_sort q = -1) ∧ (¬ m_isThere q = 0) ∧ ∃ k, k ≤ 2 ∧ s_sort q = nI k ∧ m_sorts q = nI k ∧ ∃ z, z ≤ 40 ∧ s_size q = nI z ∧ m_sheetSize q = nI z ∧ ∀ j, j < z → m_items (40 * q + j) = s_items (40 * q + j)) := by
  rcases hS q hq with h | ⟨k, h1, h2, h3, h4, h5⟩
  · exact Or.inl h
  · refine Or.inr ⟨?_, ?_, k, h1, h2, h3, h5⟩
    · rw [h2]; exact nI_ne_m1 (by omega)
    · rw [h4]; decide
theorem sx5 (x : Int32) : sp_X5_isIn x 0 3 = 0 ↔ ¬ inI x 0 (3 : Nat) := by rw [in5]; rfl
theorem sheet_c (x : Int32) : (∃ q, q < 4 ∧ x = nI q ∧ (¬ sp_X5_isIn x 0 3 = 0) ∧ ∃ r, sp_X6_isSheet x = some r ∧ ¬ r = 0) ∨ (sp_X5_isIn x 0 3 = 0 ∧ sp_X6_isSheet x = some 0) := by
  obtain ⟨r, r1, r2⟩ := sheet6 x
  by_cases h : inI x 0 (3 : Nat)
  · obtain ⟨q, hq, e⟩ := inI_nI h (by decide)
    exact Or.inl ⟨q, by omega, e, fun g => (sx5 x).mp g h, r, r1, fun g => r2.mp g h⟩
  · refine Or.inr ⟨(sx5 x).mpr h, ?_⟩
    rw [r1, r2.mpr h]
theorem q_cell : op_cell RRv := by
  intro o_size o_year o_gone o_minds o_lasts r_size r_token r_place r_at r_open r_made t_size t_rule i_there i_rule i_size i_year i_gone i_minds i_lasts o_parent o_kind o_number o_odds o_above o_kidCount o_lead r_tape r_steps r_ends t_steps t_ends t_stack s_sort s_size s_items i_number i_odds x_prices x_facts x_laws x_clues m_thrown m_textCount m_rule m_taped m_n m_minds m_lasts m_cutNow m_year m_ofNode m_ofDepth m_ofKids m_ofTwigs m_ofLast m_ofYear m_from m_size m_here m_token m_tokenAt m_open m_bad m_fault m_nKept m_mindsKept m_lastsKept m_cutKept m_yearKept m_ruleKept m_tokenWorth m_texts m_textSize m_tape m_parents m_kinds m_numbers m_odds m_yes m_no m_prices m_numbersKept m_oddsKept m_isThere m_sorts m_sheetSize m_items hR p1 p2 p3
  obtain ⟨n, t, hT, hP, hX, hI, hS⟩ := id hR
  unfold sp_X5_cell sp_X6_cell
  rcases sheet_c p1 with ⟨q, hq, rfl, i5, r, r1, r2⟩ | ⟨i5, i6⟩
  · rw [if_neg i5, r1, ob_s, if_neg r2]
    simp only [xo_at_nI hq lt31c, ob_s]
    rcases sh_c hq hS with ⟨c1, c2⟩ | ⟨c1, c2, k, hk, c3, c4, z, hz, c5, c6, c7⟩
    · rw [if_pos c1, if_pos c2]
      exact ⟨_, _, rfl, rfl, rfl, hR⟩
    · rw [if_neg c1, if_neg c2, c6, c4]
      have a6 : sp_X6_in (Int32.toInt64 p2) 0 (Int32.toInt64 (nI z - 1)) = 0 ↔ ¬ inI p2 0 ((z : Int) - 1) := by
        rw [in6, Int32.toInt_toInt64, sub1I (by omega), show (0 : Int64).toInt = 0 by decide]
      rcases holds_c (ss := s_size) hq c5 hz p2 1 with ⟨i', m', rfl, e2, hle, e3⟩ | ⟨e1, e2⟩
      · have : m' = 1 := by
          have h : nI 1 = nI m' := e2
          by_cases hm : m' < 2 ^ 31
          · exact ((nI_eq (by decide) hm).mp h).symm
          · omega
        subst this
        rw [e3, ob_s, if_neg (by decide), if_neg (fun g => a6.mp g (by rw [nI_inI (by omega)]; omega))]
        unfold sp_X3_write
        simp only [xo_at_nI hq lt31c, ob_s, c3, mul40, mul40', xo_set_nI (show q * 40 + i' < 160 by omega) lt31b, xo_set_nI (show 40 * q + i' < 160 by omega) lt31b]
        have fin : ∀ v : Int32, RRv o_size o_year o_gone o_minds o_lasts r_size t_size t_rule i_there i_rule i_size i_year i_gone i_minds i_lasts o_parent o_kind o_number o_odds o_above r_tape t_steps t_ends s_sort s_size (upd s_items (q * 40 + i') v) i_number i_odds m_textCount m_rule m_taped m_n m_minds m_lasts m_cutNow m_year m_nKept m_mindsKept m_lastsKept m_cutKept m_yearKept m_ruleKept m_texts m_textSize m_tape m_parents m_kinds m_numbers m_odds m_numbersKept m_oddsKept m_isThere m_sorts m_sheetSize (upd m_items (40 * q + i') v) := by
          intro v
          refine ⟨n, t, hT, hP, hX, hI, fun q' hq' => ?_⟩
          rcases hS q' hq' with d | ⟨k2, d2, d3, d4, d5, z2, d6, d7, d8, d9⟩
          · exact Or.inl d
          · refine Or.inr ⟨k2, d2, d3, d4, d5, z2, d6, d7, d8, fun j hj => ?_⟩
            by_cases e : 40 * q' + j = 40 * q + i'
            · rw [e, pk_us, show 40 * q + i' = q * 40 + i' by omega, pk_us]
            · rw [pk_un e, pk_un (by omega)]
              exact d9 j hj
        have : k = 0 ∨ k = 1 ∨ k = 2 := by omega
        rcases this with rfl | rfl | rfl
        · rw [if_pos nI_0, if_pos nI_0]
          simp only [ob_s]
          exact ⟨_, _, rfl, rfl, rfl, fin _⟩
        · rw [if_neg (show ¬ nI 1 = 0 by decide), if_neg (show ¬ nI 1 = 0 by decide), if_pos (show nI 1 = 1 by decide), if_pos (show nI 1 = 1 by decide)]
          simp only [ob_s]
          exact ⟨_, _, rfl, rfl, rfl, fin _⟩
        · rw [if_neg (show ¬ nI 2 = 0 by decide), if_neg (show ¬ nI 2 = 0 by decide), if_neg (show ¬ nI 2 = 1 by decide), if_neg (show ¬ nI 2 = 1 by decide)]
          simp only [ob_s]
          exact ⟨_, _, rfl, rfl, rfl, fin _⟩
      · rw [e1, ob_s, if_pos rfl, if_pos (a6.mpr (fun g => ?_))]
        · exact ⟨_, _, rfl, rfl, rfl, hR⟩
        · rcases e2 with e2 | e2 | e2
          · have := Int32.lt_iff_toInt_lt.mp e2
            rw [show (0 : Int32).toInt = 0 by decide] at this
            have := g.1
            omega
          · exact absurd e2 (by decide)
          · have := Int32.lt_iff_toInt_lt.mp e2
            rw [sub1I (by omega)] at this
            have := g.2
            omega
  · rw [if_pos i5, i6, ob_s, if_pos rfl]
    exact ⟨_, _, rfl, rfl, rfl, hR⟩
