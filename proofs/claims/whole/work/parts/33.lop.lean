/-! how lopsided a law can be -/
theorem xmax (d c : Nat) (hd : d ≤ 100) (hc : c ≤ 100) : xi_max (nI d) (nI c) = if nI c ≤ nI d then nI d else nI c := by
  unfold xi_max
  by_cases h : c ≤ d
  · rw [if_pos (nI_le h (by omega)), if_neg (nI_nlt h (by omega))]
  · rw [if_neg (nI_ge (by omega) (by omega)), if_pos (nI_lt (by omega) (by omega))]
theorem xmax1 : ∀ c : Fin 101, xi_max (-1) (nI c) = nI c := by decide +kernel
theorem pcn_12 (k : Nat) : pcn k ≤ 12 := zcnt_le _ 12
def lopI (L : Nat) (a : Int32 × Int32 × (Nat → Int32) × (Nat → Int32)) (b : Int32 × (Nat → Int32) × (Nat → Int32)) : Prop := (a.1 = -1 ∨ ∃ c, c ≤ 12 ∧ a.1 = nI c) ∧ (a.2.1 = -1 ∨ ∃ c, c ≤ 12 ∧ a.2.1 = nI c) ∧ b.1 = if L = 0 then a.1 else a.2.1
theorem m1_ne {c : Nat} (hc : c ≤ 100) : ¬ nI c = -1 := by
  intro q
  have := congrArg Int32.toInt q
  rw [nI_toInt (by omega)] at this
  have h2 : (-1 : Int32).toInt = -1 := by decide
  omega
theorem lop_sim {n : Nat} {par : Nat → Nat} {oP oA mP oK oN mK mN : Nat → Int32} (T : TR n par oP oA mP) (K : KN n oK oN mK mN) {s w : Int32} (la : Int32) (hs0 : tb s 0 = true) {k : Nat} (E : enP n k w) {L : Nat} (hL : L ≤ 1) (kc ld ye no : Nat → Int32) : ∃ v a b a' b', sp_X5_lopsided_48 (nI L) s w (sp_X5_waysOf w) (nI n) la oP oK oN 5000 (-1) (-1) 0 0 kc ld = some (v, a, b) ∧ sp_X6_lopsided_34 (nI L) s w (nI n) la mP mK mN 5000 (-1) 0 ye no = some (v, a', b') := by
  obtain ⟨h1, h2, h3, h4, h5, h6, h7, h8, h9, h10, h11⟩ := id E
  rw [h4]
  have L01 : L = 0 ∨ L = 1 := by omega
  have H := en_sim (A := Int32 × Int32 × (Nat → Int32) × (Nat → Int32)) (B := Int32 × (Nat → Int32) × (Nat → Int32)) E (lopI L) (fun f1 k' set a f2 u b => ∃ v x y x' y', sp_X5_lopsided_48 (nI L) s w (nI (eK k (2 ^ n))) (nI n) la oP oK oN f1 a.1 a.2.1 (nI set) (nI k') a.2.2.1 a.2.2.2 = some (v, x, y) ∧ sp_X6_lopsided_34 (nI L) s w (nI n) la mP mK mN f2 b.1 (nI u) b.2.1 b.2.2 = some (v, x', y'))
    (by
      intro f1 f2 set a b hI
      rw [sp_X5_lopsided_48, if_pos (nI_le (Nat.le_refl _) (by omega)), sp_X6_lopsided_34, h11, if_pos (nI_le (Nat.le_refl _) (by omega)), hI.2.2]
      rcases L01 with rfl | rfl
      · rw [if_pos nI_0, if_pos rfl]; exact ⟨_, _, _, _, _, rfl, rfl⟩
      · rw [if_neg (by decide), if_neg (by decide)]; exact ⟨_, _, _, _, _, rfl, rfl⟩)
    (by
      intro f1 f2 k' set a u b hu hs hI h
      rw [sp_X6_lopsided_34, h11, if_neg (nI_ge hu (by omega)), if_neg (fun q => by have := (h7 u hu).mp q; rw [hs] at this; exact absurd this (by decide)), nI_1]
      exact h)
    (by
      intro f1 f2 k' a u b hu hs hk hk2 hnx hI h
      obtain ⟨i1, i2, i3⟩ := hI
      obtain ⟨Y, v1, v2, v3⟩ := vote_both T K s (nI u) la hs0
      obtain ⟨kc', ld', e1⟩ := v1 a.2.2.1 a.2.2.2
      obtain ⟨ye', no', e2⟩ := v2 b.2.1 b.2.2
      have hp := pcn_12 u
      rw [sp_X5_lopsided_48, if_neg (nI_ge hk (by omega)), e1, ob_s, sp_X6_lopsided_34, h11, if_neg (nI_ge hu (by omega)), if_pos ((h7 u hu).mpr hs), e2, ob_s, bit_z, and_1, bc6 (by omega), ob_s, bc1 (by omega), hnx, nI_1, nI_1]
      rcases L01 with rfl | rfl
      · rw [if_pos rfl] at i3
        rw [i3]
        cases tb Y 0
        · rw [if_pos (show bI false = 0 from rfl), if_neg (show ¬ bI false = 1 - nI 0 by decide)]
          refine h (a.1, xi_max a.2.1 (nI (pcn u)), kc', ld') (a.1, ye', no') ⟨i1, ?_, rfl⟩
          rcases i2 with q | ⟨c, c1, c2⟩
          · dsimp only; rw [q, xmax1 ⟨pcn u, by omega⟩]; exact Or.inr ⟨_, hp, rfl⟩
          · dsimp only; rw [c2, xmax c _ (by omega) (by omega)]
            by_cases z : nI (pcn u) ≤ nI c
            · rw [if_pos z]; exact Or.inr ⟨_, c1, rfl⟩
            · rw [if_neg z]; exact Or.inr ⟨_, hp, rfl⟩
        · rw [if_neg (show ¬ bI true = 0 by decide), if_pos (show bI true = 1 - nI 0 by decide), if_pos nI_0]
          by_cases q : a.1 = -1
          · rw [if_pos q, if_pos q]
            exact h (nI (pcn u), a.2.1, kc', ld') (nI (pcn u), ye', no') ⟨Or.inr ⟨_, hp, rfl⟩, i2, rfl⟩
          · rw [if_neg q, if_neg q]
            by_cases z : a.1 ≤ nI (pcn u)
            · rw [if_pos z, if_pos z]
              exact h (a.1, a.2.1, kc', ld') (a.1, ye', no') ⟨i1, i2, rfl⟩
            · rw [if_neg z, if_neg z]
              exact h (nI (pcn u), a.2.1, kc', ld') (nI (pcn u), ye', no') ⟨Or.inr ⟨_, hp, rfl⟩, i2, rfl⟩
      · rw [if_neg (by decide)] at i3
        rw [i3]
        cases tb Y 0
        · rw [if_pos (show bI false = 0 from rfl), if_pos (show bI false = 1 - nI 1 by decide), if_neg (show ¬ nI 1 = 0 by decide)]
          rcases i2 with q | ⟨c, c1, c2⟩
          · rw [if_pos q, q, xmax1 ⟨pcn u, by omega⟩]
            exact h (a.1, nI (pcn u), kc', ld') (nI (pcn u), ye', no') ⟨i1, Or.inr ⟨_, hp, rfl⟩, rfl⟩
          · rw [c2, if_neg (m1_ne (by omega)), xmax c _ (by omega) (by omega)]
            by_cases z : nI (pcn u) ≤ nI c
            · rw [if_pos z, if_pos z]
              exact h (a.1, nI c, kc', ld') (nI c, ye', no') ⟨i1, Or.inr ⟨_, c1, rfl⟩, rfl⟩
            · rw [if_neg z, if_neg z]
              exact h (a.1, nI (pcn u), kc', ld') (nI (pcn u), ye', no') ⟨i1, Or.inr ⟨_, hp, rfl⟩, rfl⟩
        · rw [if_neg (show ¬ bI true = 0 by decide), if_neg (show ¬ bI true = 1 - nI 1 by decide)]
          by_cases q : a.1 = -1
          · rw [if_pos q]
            exact h (nI (pcn u), a.2.1, kc', ld') (a.2.1, ye', no') ⟨Or.inr ⟨_, hp, rfl⟩, i2, rfl⟩
          · rw [if_neg q]
            by_cases z : a.1 ≤ nI (pcn u)
            · rw [if_pos z]
              exact h (a.1, a.2.1, kc', ld') (a.2.1, ye', no') ⟨i1, i2, rfl⟩
            · rw [if_neg z]
              exact h (nI (pcn u), a.2.1, kc', ld') (a.2.1, ye', no') ⟨Or.inr ⟨_, hp, rfl⟩, i2, rfl⟩)
    ((-1), (-1), kc, ld) ((-1), ye, no) ⟨Or.inl rfl, Or.inl rfl, by rcases L01 with rfl | rfl <;> rfl⟩
  rw [nI_0] at H
  exact H
theorem q_lopsided : op_lopsided RRv := by
  intro o_size o_year o_gone o_minds o_lasts r_size r_token r_place r_at r_open r_made t_size t_rule i_there i_rule i_size i_year i_gone i_minds i_lasts o_parent o_kind o_number o_odds o_above o_kidCount o_lead r_tape r_steps r_ends t_steps t_ends t_stack s_sort s_size s_items i_number i_odds x_prices x_facts x_laws x_clues m_thrown m_textCount m_rule m_taped m_n m_minds m_lasts m_cutNow m_year m_ofNode m_ofDepth m_ofKids m_ofTwigs m_ofLast m_ofYear m_from m_size m_here m_token m_tokenAt m_open m_bad m_fault m_nKept m_mindsKept m_lastsKept m_cutKept m_yearKept m_ruleKept m_tokenWorth m_texts m_textSize m_tape m_parents m_kinds m_numbers m_odds m_yes m_no m_prices m_numbersKept m_oddsKept m_isThere m_sorts m_sheetSize m_items hR p1
  obtain ⟨n, t, hT, hP, hX, hI, hS⟩ := id hR
  obtain ⟨par, rfl, rfl, T, K, rfl, rfl, rfl, rfl, g0, pz, hO, hy, hg⟩ := rt_open hT
  have hn := T.2.1
  obtain ⟨s, s1, s2, s3, s4⟩ := st_now T m_cutNow g0
  obtain ⟨w, w1, w2, w3⟩ := twigs_both T (st_bd s3)
  have wb := tw_bd (st_bd s3) w3
  have a5 : sp_X5_isIn p1 0 1 = 0 ↔ ¬ inI p1 0 (1 : Nat) := by rw [in5]; rfl
  have a6 : sp_X6_in (Int32.toInt64 p1) 0 1 = 0 ↔ ¬ inI p1 0 (1 : Nat) := by rw [in6]; rfl
  unfold sp_X5_lopsided sp_X6_lopsided
  by_cases h1 : inI p1 0 (1 : Nat)
  · rw [if_neg (fun g => a5.mp g h1), if_neg (fun g => a6.mp g h1)]
    simp only [s1, s2, w1, w2, ob_s]
    obtain ⟨L, hL, rfl⟩ := inI_nI h1 (by decide)
    obtain ⟨k, E⟩ := en_of hn (fun i h => (wb i h).1)
    obtain ⟨v, a, b, a', b', e1, e2⟩ := lop_sim T K m_lasts s4 E hL o_kidCount o_lead m_yes m_no
    exact ⟨_, _, e1, e2, rfl, hR⟩
  · rw [if_pos (a5.mpr h1), if_pos (a6.mpr h1)]
    exact ⟨_, _, rfl, rfl, rfl, hR⟩
