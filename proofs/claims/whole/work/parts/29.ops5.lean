/-! copy and nodes -/
theorem cp_up {q i o j m : Nat} (h1 : 40 * q + i + m ≤ 160) (h2 : 40 * o + j + m ≤ 160) (f : Nat → Int32) (H : ∀ k, k < m → ¬ (40 * o + j ≤ 40 * q + i + k ∧ 40 * q + i + k < 40 * o + j + k)) : ∀ (r k fuel : Nat) (g : Nat → Int32), k + r = m → r + 1 ≤ fuel → (∀ x, g x = if 40 * o + j ≤ x ∧ x < 40 * o + j + k then f (40 * q + i + (x - (40 * o + j))) else f x) → ∃ g', sp_X6_copy_121 (nI q) (nI i) (nI o) (nI j) (nI m) 0 fuel (nI k) g = some (nI m, g') ∧ ∀ x, g' x = if 40 * o + j ≤ x ∧ x < 40 * o + j + m then f (40 * q + i + (x - (40 * o + j))) else f x := by
  intro r
  induction r with
  | zero =>
    intro k fuel g hk hf hg
    obtain ⟨p, rfl⟩ : ∃ p, fuel = p + 1 := ⟨fuel - 1, by omega⟩
    have : k = m := by omega
    subst this
    exact ⟨g, by rw [sp_X6_copy_121, if_pos (nI_le (Nat.le_refl _) (by omega))], hg⟩
  | succ r ih =>
    intro k fuel g hk hf hg
    obtain ⟨p, rfl⟩ : ∃ p, fuel = p + 1 := ⟨fuel - 1, by omega⟩
    rw [sp_X6_copy_121, if_neg (nI_ge (by omega) (by omega)), if_pos rfl, mul40', mul40', nI_add, nI_add, xo_at_nI (by omega) lt31b, ob_s, xo_set_nI (by omega) lt31b, ob_s, nI_1]
    apply ih (k + 1) p _ (by omega) (by omega)
    intro x
    by_cases e : x = 40 * o + j + k
    · subst e
      rw [pk_us, hg, if_neg (H k (by omega)), if_pos (by omega)]
      congr 1
      omega
    · rw [pk_un e, hg]
      by_cases c : 40 * o + j ≤ x ∧ x < 40 * o + j + k
      · rw [if_pos c, if_pos (by omega)]
      · rw [if_neg c, if_neg (by omega)]
theorem cp_dn {q i o j m : Nat} (h1 : 40 * q + i + m ≤ 160) (h2 : 40 * o + j + m ≤ 160) (hle : 40 * q + i ≤ 40 * o + j) (f : Nat → Int32) : ∀ (r k fuel : Nat) (g : Nat → Int32), k + r = m → r + 1 ≤ fuel → (∀ x, g x = if 40 * o + j + (m - k) ≤ x ∧ x < 40 * o + j + m then f (40 * q + i + (x - (40 * o + j))) else f x) → ∃ g', sp_X6_copy_121 (nI q) (nI i) (nI o) (nI j) (nI m) 1 fuel (nI k) g = some (nI m, g') ∧ ∀ x, g' x = if 40 * o + j ≤ x ∧ x < 40 * o + j + m then f (40 * q + i + (x - (40 * o + j))) else f x := by
  intro r
  induction r with
  | zero =>
    intro k fuel g hk hf hg
    obtain ⟨p, rfl⟩ : ∃ p, fuel = p + 1 := ⟨fuel - 1, by omega⟩
    have : k = m := by omega
    subst this
    refine ⟨g, by rw [sp_X6_copy_121, if_pos (nI_le (Nat.le_refl _) (by omega))], fun x => ?_⟩
    rw [hg, Nat.sub_self, Nat.add_zero]
  | succ r ih =>
    intro k fuel g hk hf hg
    obtain ⟨p, rfl⟩ : ∃ p, fuel = p + 1 := ⟨fuel - 1, by omega⟩
    have ix : (nI m - 1) - nI k = nI (m - 1 - k) := by
      rw [show nI m - 1 = nI (m - 1) from pk_sub (b := 1) (by omega), pk_sub (by omega)]
    rw [sp_X6_copy_121, if_neg (nI_ge (by omega) (by omega)), if_neg (by decide), mul40', mul40', ix, nI_add, nI_add, xo_at_nI (by omega) lt31b, ob_s, xo_set_nI (by omega) lt31b, ob_s, nI_1]
    apply ih (k + 1) p _ (by omega) (by omega)
    intro x
    by_cases e : x = 40 * o + j + (m - 1 - k)
    · subst e
      rw [pk_us, hg, if_neg (by omega), if_pos (by omega)]
      congr 1
      omega
    · rw [pk_un e, hg]
      by_cases c : 40 * o + j + (m - k) ≤ x ∧ x < 40 * o + j + m
      · rw [if_pos c, if_pos (by omega)]
      · rw [if_neg c, if_neg (by omega)]
theorem cpy_nI {f h : Nat → Int32} {a b c n0 n1 : Nat} (h0 : n0 < 2 ^ 31) (h1 : n1 < 2 ^ 31) (ha : a + c ≤ n0) (hb : b + c ≤ n1) : xo_cpy f h n0 n1 (nI a) (nI b) (nI c) = some (va_cpy f h a b c) := by
  unfold xo_cpy
  rw [nI_clamp (by omega), nI_clamp (by omega), nI_clamp (by omega), if_neg]
  intro q
  rcases q with q | q | q | q | q
  · exact nI_pos (by omega) q
  · exact nI_pos (by omega) q
  · exact nI_pos (by omega) q
  · omega
  · omega
theorem cpy_at {f : Nat → Int32} {a b c x : Nat} : va_cpy f f a b c x = if b ≤ x ∧ x < b + c then f (a + (x - b)) else f x := by
  by_cases h : b ≤ x ∧ x < b + c
  · rw [if_pos h, pk_cpy_in h.1 h.2]
  · rw [if_neg h, pk_cpy_out (by omega)]
theorem q_copy : op_copy RRv := by
  intro o_size o_year o_gone o_minds o_lasts r_size r_token r_place r_at r_open r_made t_size t_rule i_there i_rule i_size i_year i_gone i_minds i_lasts o_parent o_kind o_number o_odds o_above o_kidCount o_lead r_tape r_steps r_ends t_steps t_ends t_stack s_sort s_size s_items i_number i_odds x_prices x_facts x_laws x_clues m_thrown m_textCount m_rule m_taped m_n m_minds m_lasts m_cutNow m_year m_ofNode m_ofDepth m_ofKids m_ofTwigs m_ofLast m_ofYear m_from m_size m_here m_token m_tokenAt m_open m_bad m_fault m_nKept m_mindsKept m_lastsKept m_cutKept m_yearKept m_ruleKept m_tokenWorth m_texts m_textSize m_tape m_parents m_kinds m_numbers m_odds m_yes m_no m_prices m_numbersKept m_oddsKept m_isThere m_sorts m_sheetSize m_items hR p1 p2 p3 p4 p5
  obtain ⟨n, t, hT, hP, hX, hI, hS⟩ := id hR
  unfold sp_X5_copy sp_X6_copy
  rcases sheet_c p1 with ⟨q, hq, rfl, i5, r, r1, r2⟩ | ⟨i5, i6⟩
  · rw [if_neg i5, r1, ob_s, if_neg r2]
    rcases sheet_c p3 with ⟨o, ho, rfl, j5, r', r3, r4⟩ | ⟨j5, j6⟩
    · rw [if_neg j5, r3, ob_s, if_neg r4]
      simp only [xo_at_nI hq lt31c, xo_at_nI ho lt31c, ob_s]
      rcases sh_c hq hS with ⟨c1, c2⟩ | ⟨c1, c2, k, hk, c3, c4, z, hz, c5, c6, c7⟩
      · rw [if_pos c1, if_pos c2]
        exact ⟨_, _, rfl, rfl, rfl, hR⟩
      · rw [if_neg c1, if_neg c2]
        rcases sh_c ho hS with ⟨d1, d2⟩ | ⟨d1, d2, k', hk', d3, d4, z', hz', d5, d6, d7⟩
        · rw [if_pos d1, if_pos d2]
          exact ⟨_, _, rfl, rfl, rfl, hR⟩
        · rw [if_neg d1, if_neg d2, c3, d3, c4, d4, c6, d6]
          by_cases e : k = k'
          · subst e
            rw [if_pos rfl, if_pos rfl]
            rcases holds_c (ss := s_size) hq c5 hz p2 p5 with ⟨i, m, rfl, rfl, hle, e3⟩ | ⟨e1, e2⟩
            · rcases holds_c (ss := s_size) ho d5 hz' p4 (nI m) with ⟨j, m', rfl, em, hle', e3'⟩ | ⟨e1', e2'⟩
              · have hm31 : m < 2 ^ 31 := by omega
                have : m = m' := (nI_eq hm31 (by omega)).mp em
                subst this
                have t1 : (nI z - nI m).toInt = (z : Int) - m := sub40 (by omega) hm31
                have t2 : (nI z' - nI m).toInt = (z' : Int) - m := sub40 (by omega) hm31
                have ui : (nI i).toInt = i := nI_toInt (by omega)
                have uj : (nI j).toInt = j := nI_toInt (by omega)
                rw [e3, ob_s, if_neg (show ¬ (1 : Int32) = 0 by decide), e3', ob_s, if_neg (show ¬ (1 : Int32) = 0 by decide), if_neg (nI_pos hm31), if_neg (nI_pos (n := i) (by omega)), if_neg (nI_pos (n := j) (by omega)), if_neg (show ¬ (nI z - nI m) < nI i from fun g => by rw [Int32.lt_iff_toInt_lt, t1, ui] at g; omega), if_pos (show nI j ≤ (nI z' - nI m) from Int32.le_iff_toInt_le.mpr (by rw [t2, uj]; omega))]
                unfold sp_X3_move
                rw [mul40, mul40, cpy_nI lt31b lt31b (by omega) (by omega), ob_s, ob_s]
                have key : ∃ g', (if nI q = nI o then if nI j ≤ nI i then sp_X6_copy_121 (nI q) (nI i) (nI o) (nI j) (nI m) 0 5000 0 m_items else sp_X6_copy_121 (nI q) (nI i) (nI o) (nI j) (nI m) 1 5000 0 m_items else sp_X6_copy_121 (nI q) (nI i) (nI o) (nI j) (nI m) 0 5000 0 m_items) = some (nI m, g') ∧ ∀ x, g' x = if 40 * o + j ≤ x ∧ x < 40 * o + j + m then m_items (40 * q + i + (x - (40 * o + j))) else m_items x := by
                  by_cases eq : q = o
                  · rw [if_pos (by rw [eq])]
                    by_cases le : j ≤ i
                    · rw [if_pos (nI_le le (by omega)), ← nI_0]
                      exact cp_up (by omega) (by omega) m_items (fun k _ => by omega) m 0 5000 m_items (by omega) (by omega) (fun x => by rw [if_neg (by omega)])
                    · rw [if_neg (nI_ge (by omega) (by omega))]
                      rw [show (0 : Int32) = nI 0 from rfl]
                      exact cp_dn (by omega) (by omega) (by omega) m_items m 0 5000 m_items (by omega) (by omega) (fun x => by rw [if_neg (by omega)])
                  · rw [if_neg (fun g => eq ((nI_eq (by omega) (by omega)).mp g)), ← nI_0]
                    exact cp_up (by omega) (by omega) m_items (fun k _ => by omega) m 0 5000 m_items (by omega) (by omega) (fun x => by rw [if_neg (by omega)])
                obtain ⟨g', k1, k2⟩ := key
                rw [k1]
                refine ⟨_, _, rfl, rfl, rfl, n, t, hT, hP, hX, hI, fun q' hq' => ?_⟩
                rcases hS q' hq' with f1 | ⟨kk, f2, f3, f4, f5, zz, f6, f7, f8, f9⟩
                · exact Or.inl f1
                · refine Or.inr ⟨kk, f2, f3, f4, f5, zz, f6, f7, f8, fun x hx => ?_⟩
                  dsimp only
                  rw [k2, cpy_at]
                  by_cases c : 40 * o + j ≤ 40 * q' + x ∧ 40 * q' + x < 40 * o + j + m
                  · rw [if_pos c, if_pos (by omega), show 40 * q + i + (40 * q' + x - (40 * o + j)) = 40 * q + (i + (40 * q' + x - (40 * o + j))) by omega, c7 _ (by omega)]
                    congr 1
                    omega
                  · rw [if_neg c, if_neg (by omega)]
                    exact f9 x hx
              · rw [e3, ob_s, if_neg (show ¬ (1 : Int32) = 0 by decide), e1', ob_s, if_pos rfl, if_neg (nI_pos (n := m) (by omega)), if_neg (nI_pos (n := i) (by omega))]
                have t1 : (nI z - nI m).toInt = (z : Int) - m := sub40 (by omega) (by omega)
                rw [if_neg (show ¬ (nI z - nI m) < nI i from fun g => by rw [Int32.lt_iff_toInt_lt, t1, nI_toInt (by omega)] at g; omega)]
                by_cases p0 : p4 < 0
                · rw [if_pos p0]
                  exact ⟨_, _, rfl, rfl, rfl, hR⟩
                · rcases e2' with g | g | g
                  · exact absurd g p0
                  · exact absurd g (nI_pos (by omega))
                  · rw [if_neg p0, if_neg (show ¬ p4 ≤ (nI z' - nI m) from fun h => by
                      have h1 := Int32.lt_iff_toInt_lt.mp g
                      have h2 := Int32.le_iff_toInt_le.mp h
                      omega)]
                    exact ⟨_, _, rfl, rfl, rfl, hR⟩
            · rw [e1, ob_s, if_pos rfl]
              by_cases a : p5 < 0
              · rw [if_pos a]
                exact ⟨_, _, rfl, rfl, rfl, hR⟩
              · by_cases b : p2 < 0
                · rw [if_neg a, if_pos b]
                  exact ⟨_, _, rfl, rfl, rfl, hR⟩
                · rw [if_neg a, if_neg b]
                  rcases e2 with g | g | g
                  · exact absurd g b
                  · exact absurd g a
                  · rw [if_pos g]
                    by_cases c : p4 < 0
                    · rw [if_pos c]
                      exact ⟨_, _, rfl, rfl, rfl, hR⟩
                    · rw [if_neg c]
                      exact ⟨_, _, rfl, rfl, rfl, hR⟩
          · rw [if_neg (fun g => e ((nI_eq (by omega) (by omega)).mp g)), if_neg (fun g => e ((nI_eq (by omega) (by omega)).mp g))]
            exact ⟨_, _, rfl, rfl, rfl, hR⟩
    · rw [if_pos j5, j6, ob_s, if_pos rfl]
      exact ⟨_, _, rfl, rfl, rfl, hR⟩
  · rw [if_pos i5, i6, ob_s, if_pos rfl]
    exact ⟨_, _, rfl, rfl, rfl, hR⟩
theorem nodes_loop {q f z m : Nat} (hq : q < 4) (hz : z ≤ 40) (hf : f ≤ 40) (hm : m ≤ 12) {ss si ms mi : Nat → Int32} (hs1 : ss q = nI z) (hs2 : ms q = nI z) (hit : ∀ j, j < z → mi (40 * q + j) = si (40 * q + j)) {o_year m_year : Int32} : ∀ (r k fuel n : Nat) (came : Int32) (o_size o_gone o_minds o_lasts : Int32) (o_parent o_kind o_number o_odds o_above : Nat → Int32) (m_n m_minds m_lasts m_cutNow : Int32) (m_parents m_kinds m_numbers m_odds : Nat → Int32), k + r = m → r + 1 ≤ fuel → RTree n o_size o_year o_gone o_minds o_lasts o_parent o_kind o_number o_odds o_above m_n m_minds m_lasts m_cutNow m_year m_parents m_kinds m_numbers m_odds → ∃ o o', sp_X5_nodes_83 (nI q) (nI f) (nI m) ss si fuel came (nI k) o_size o_gone o_minds o_lasts o_parent o_kind o_number o_odds o_above = some o ∧ sp_X6_nodes_75 (nI q) (nI f) (nI m) ms mi fuel came (nI k) m_n m_minds m_lasts m_cutNow m_parents m_kinds m_numbers m_odds = some o' ∧ o.1 = o'.1 ∧ ∃ n', n ≤ n' ∧ RTT n' o_year m_year o o' := by
  intro r
  induction r with
  | zero =>
    intro k fuel n came o_size o_gone o_minds o_lasts o_parent o_kind o_number o_odds o_above m_n m_minds m_lasts m_cutNow m_parents m_kinds m_numbers m_odds hk hf1 hT
    obtain ⟨p, rfl⟩ : ∃ p, fuel = p + 1 := ⟨fuel - 1, by omega⟩
    have : k = m := by omega
    subst this
    rw [sp_X5_nodes_83, if_pos (nI_le (Nat.le_refl _) (by omega)), sp_X6_nodes_75, if_pos (nI_le (Nat.le_refl _) (by omega))]
    exact ⟨_, _, rfl, rfl, rfl, n, Nat.le_refl _, hT⟩
  | succ r ih =>
    intro k fuel n came o_size o_gone o_minds o_lasts o_parent o_kind o_number o_odds o_above m_n m_minds m_lasts m_cutNow m_parents m_kinds m_numbers m_odds hk hf1 hT
    obtain ⟨p, rfl⟩ : ∃ p, fuel = p + 1 := ⟨fuel - 1, by omega⟩
    have m3 : (3 : Int32) * nI k = nI (3 * k) := pk_mul 3 k
    have s3 : (nI z - nI (3 * k)) - 3 = nI z - nI (3 * k + 3) := by
      rw [Int32.sub_sub, show (3 : Int32) = nI 3 from rfl, nI_add]
    rw [sp_X5_nodes_83, if_neg (nI_ge (by omega) (by omega)), sp_X6_nodes_75, if_neg (nI_ge (by omega) (by omega)), if_neg (nI_pos (by omega)), xo_at_nI hq lt31c, ob_s, m3, nI_add, hs2, s3]
    have hc := sub40 (z := z) (m := 3 * k + 3) (by omega) (by omega)
    have hff : (nI f).toInt = f := nI_toInt (by omega)
    by_cases g : f + (3 * k + 3) ≤ z
    · have hh : sp_X3_holds (nI q) (nI (f + 3 * k)) 3 ss = some 1 := by
        rcases holds_c (ss := ss) hq hs1 hz (nI (f + 3 * k)) 3 with ⟨i', m', e1, e2, e3, e4⟩ | ⟨e1, e2⟩
        · exact e4
        · exfalso
          rcases e2 with e2 | e2 | e2
          · exact nI_pos (by omega) e2
          · exact absurd e2 (by decide)
          · have := Int32.lt_iff_toInt_lt.mp e2
            rw [show (3 : Int32) = nI 3 from rfl, sub40 (by omega) (by decide), nI_toInt (by omega)] at this
            omega
      rw [hh, ob_s, if_neg (show ¬ (1 : Int32) = 0 by decide), if_pos (Int32.le_iff_toInt_le.mpr (by rw [hc, hff]; omega))]
      unfold sp_X3_read
      have a1 : nI q * 40 + nI (f + 3 * k) = nI (40 * q + (f + 3 * k)) := by rw [mul40, Nat.mul_comm]
      have a2 : nI q * 40 + (nI (f + 3 * k) + 1) = nI (40 * q + (f + 3 * k + 1)) := by rw [nI_1, mul40, Nat.mul_comm]
      have a3 : nI q * 40 + (nI (f + 3 * k) + 2) = nI (40 * q + (f + 3 * k + 2)) := by rw [show (2 : Int32) = nI 2 from rfl, nI_add, mul40, Nat.mul_comm]
      have b1 : 40 * nI q + nI f + nI (3 * k) = nI (40 * q + (f + 3 * k)) := by rw [mul40', nI_add, Nat.add_assoc]
      have b2 : nI (40 * q + (f + 3 * k)) + 1 = nI (40 * q + (f + 3 * k + 1)) := by rw [nI_1, Nat.add_assoc]
      have b3 : nI (40 * q + (f + 3 * k)) + 2 = nI (40 * q + (f + 3 * k + 2)) := by rw [show (2 : Int32) = nI 2 from rfl, nI_add, Nat.add_assoc]
      simp only [a1, a2, a3, b1, b2, b3, ob_s, xo_at_nI (show 40 * q + (f + 3 * k) < 160 by omega) lt31b, xo_at_nI (show 40 * q + (f + 3 * k + 1) < 160 by omega) lt31b, xo_at_nI (show 40 * q + (f + 3 * k + 2) < 160 by omega) lt31b, hit _ (show f + 3 * k < z by omega), hit _ (show f + 3 * k + 1 < z by omega), hit _ (show f + 3 * k + 2 < z by omega)]
      obtain ⟨o, o', e1, e2, e3, n', hn, hT'⟩ := grow_core hT (si (40 * q + (f + 3 * k))) (si (40 * q + (f + 3 * k + 1))) (si (40 * q + (f + 3 * k + 2)))
      rw [e1, ob_s, e2, ob_s, nI_1, e3]
      by_cases neg : o'.1 < 0
      · rw [if_pos neg, if_pos neg, Int32.add_zero]
        obtain ⟨u, u', v1, v2, v3, n2, hn2, hT2⟩ := ih (k + 1) p n' came o.2.1 o.2.2.1 o.2.2.2.1 o.2.2.2.2.1 o.2.2.2.2.2.1 o.2.2.2.2.2.2.1 o.2.2.2.2.2.2.2.1 o.2.2.2.2.2.2.2.2.1 o.2.2.2.2.2.2.2.2.2 o'.2.1 o'.2.2.1 o'.2.2.2.1 o'.2.2.2.2.1 o'.2.2.2.2.2.1 o'.2.2.2.2.2.2.1 o'.2.2.2.2.2.2.2.1 o'.2.2.2.2.2.2.2.2 (by omega) (by omega) hT'
        exact ⟨u, u', v1, v2, v3, n2, by omega, hT2⟩
      · rw [if_neg neg, if_neg neg]
        obtain ⟨u, u', v1, v2, v3, n2, hn2, hT2⟩ := ih (k + 1) p n' (came + 1) o.2.1 o.2.2.1 o.2.2.2.1 o.2.2.2.2.1 o.2.2.2.2.2.1 o.2.2.2.2.2.2.1 o.2.2.2.2.2.2.2.1 o.2.2.2.2.2.2.2.2.1 o.2.2.2.2.2.2.2.2.2 o'.2.1 o'.2.2.1 o'.2.2.2.1 o'.2.2.2.2.1 o'.2.2.2.2.2.1 o'.2.2.2.2.2.2.1 o'.2.2.2.2.2.2.2.1 o'.2.2.2.2.2.2.2.2 (by omega) (by omega) hT'
        exact ⟨u, u', v1, v2, v3, n2, by omega, hT2⟩
    · have hh : sp_X3_holds (nI q) (nI (f + 3 * k)) 3 ss = some 0 := by
        rcases holds_c (ss := ss) hq hs1 hz (nI (f + 3 * k)) 3 with ⟨i', m', e1, e2, e3, e4⟩ | ⟨e1, e2⟩
        · exfalso
          have h1 : f + 3 * k = i' := (nI_eq (by omega) (by omega)).mp e1
          have h2 : 3 = m' := (nI_eq (a := 3) (by decide) (by omega)).mp e2
          omega
        · exact e1
      rw [hh, ob_s, if_pos rfl, if_neg (fun h => by have h2 := Int32.le_iff_toInt_le.mp h; rw [hc, hff] at h2; omega)]
      exact ⟨_, _, rfl, rfl, rfl, n, Nat.le_refl _, hT⟩
theorem q_nodes : op_nodes RRv := by
  intro o_size o_year o_gone o_minds o_lasts r_size r_token r_place r_at r_open r_made t_size t_rule i_there i_rule i_size i_year i_gone i_minds i_lasts o_parent o_kind o_number o_odds o_above o_kidCount o_lead r_tape r_steps r_ends t_steps t_ends t_stack s_sort s_size s_items i_number i_odds x_prices x_facts x_laws x_clues m_thrown m_textCount m_rule m_taped m_n m_minds m_lasts m_cutNow m_year m_ofNode m_ofDepth m_ofKids m_ofTwigs m_ofLast m_ofYear m_from m_size m_here m_token m_tokenAt m_open m_bad m_fault m_nKept m_mindsKept m_lastsKept m_cutKept m_yearKept m_ruleKept m_tokenWorth m_texts m_textSize m_tape m_parents m_kinds m_numbers m_odds m_yes m_no m_prices m_numbersKept m_oddsKept m_isThere m_sorts m_sheetSize m_items hR p1 p2 p3 p4
  obtain ⟨n, t, hT, hP, hX, hI, hS⟩ := id hR
  have c5 : sp_X5_isIn p2 0 2 = 0 ↔ ¬ inI p2 0 (2 : Nat) := by rw [in5]; rfl
  have c6 : sp_X6_in (Int32.toInt64 p2) 0 2 = 0 ↔ ¬ inI p2 0 (2 : Nat) := by rw [in6]; rfl
  have d5 : sp_X5_isIn p4 0 12 = 0 ↔ ¬ inI p4 0 (12 : Nat) := by rw [in5]; rfl
  have d6 : sp_X6_in (Int32.toInt64 p4) 0 12 = 0 ↔ ¬ inI p4 0 (12 : Nat) := by rw [in6]; rfl
  unfold sp_X5_nodes sp_X6_nodes
  rcases sheet_c p1 with ⟨q, hq, rfl, i5, r, r1, r2⟩ | ⟨i5, i6⟩
  · rw [if_neg i5, r1, ob_s, if_neg r2]
    by_cases i2 : inI p2 0 (2 : Nat)
    · rw [if_neg (fun g => c5.mp g i2), if_neg (fun g => c6.mp g i2)]
      by_cases i4 : inI p4 0 (12 : Nat)
      · rw [if_neg (fun g => d5.mp g i4), if_neg (fun g => d6.mp g i4)]
        obtain ⟨m, hm, rfl⟩ := inI_nI i4 (by decide)
        simp only [xo_at_nI hq lt31c, ob_s]
        rcases sh_c hq hS with ⟨c1, c2⟩ | ⟨c1, c2, k, hk, c3, c4, z, hz, cz, c7, c8⟩
        · rw [if_pos c1, if_pos c1, if_pos c2, if_pos c2]
          exact ⟨_, _, rfl, rfl, rfl, hR⟩
        · rw [if_neg c1, if_neg c1, if_neg c2, if_neg c2, c3, c4]
          by_cases e : nI k = p2
          · rw [if_pos e, if_pos e]
            have fin : ∀ o o', sp_X5_nodes_83 (nI q) p3 (nI m) s_size s_items 5000 0 0 o_size o_gone o_minds o_lasts o_parent o_kind o_number o_odds o_above = some o → sp_X6_nodes_75 (nI q) p3 (nI m) m_sheetSize m_items 5000 0 0 m_n m_minds m_lasts m_cutNow m_parents m_kinds m_numbers m_odds = some o' → o.1 = o'.1 → (∃ n', n ≤ n' ∧ RTT n' o_year m_year o o') → ∃ (o : Int32 × Int32 × Int32 × Int32 × Int32 × (Nat → Int32) × (Nat → Int32) × (Nat → Int32) × (Nat → Int32) × (Nat → Int32)) (o' : Int32 × Int32 × Int32 × Int32 × Int32 × (Nat → Int32) × (Nat → Int32) × (Nat → Int32) × (Nat → Int32)), sp_X5_nodes_83 (nI q) p3 (nI m) s_size s_items 5000 0 0 o_size o_gone o_minds o_lasts o_parent o_kind o_number o_odds o_above = some o ∧ sp_X6_nodes_75 (nI q) p3 (nI m) m_sheetSize m_items 5000 0 0 m_n m_minds m_lasts m_cutNow m_parents m_kinds m_numbers m_odds = some o' ∧ o.1 = o'.1 ∧ RRv o.2.1 o_year o.2.2.1 o.2.2.2.1 o.2.2.2.2.1 r_size t_size t_rule i_there i_rule i_size i_year i_gone i_minds i_lasts o.2.2.2.2.2.1 o.2.2.2.2.2.2.1 o.2.2.2.2.2.2.2.1 o.2.2.2.2.2.2.2.2.1 o.2.2.2.2.2.2.2.2.2 r_tape t_steps t_ends s_sort s_size s_items i_number i_odds m_textCount m_rule m_taped o'.2.1 o'.2.2.1 o'.2.2.2.1 o'.2.2.2.2.1 m_year m_nKept m_mindsKept m_lastsKept m_cutKept m_yearKept m_ruleKept m_texts m_textSize m_tape o'.2.2.2.2.2.1 o'.2.2.2.2.2.2.1 o'.2.2.2.2.2.2.2.1 o'.2.2.2.2.2.2.2.2 m_numbersKept m_oddsKept m_isThere m_sorts m_sheetSize m_items := by
              intro o o' e1 e2 e3 ⟨n', hn, hT'⟩
              exact ⟨o, o', e1, e2, e3, n', t, hT', hP, hX, rimg_up hn hI, hS⟩
            rcases holds_c (ss := s_size) hq cz hz p3 3 with ⟨f, m', rfl, e2, e3, e4⟩ | ⟨e1, e2⟩
            · obtain ⟨u, u', v1, v2, v3, v4⟩ := nodes_loop (f := f) (m := m) (o_year := o_year) (m_year := m_year) hq hz (by omega) hm cz c7 c8 m 0 5000 n 0 o_size o_gone o_minds o_lasts o_parent o_kind o_number o_odds o_above m_n m_minds m_lasts m_cutNow m_parents m_kinds m_numbers m_odds (by omega) (by omega) hT
              rw [nI_0] at v1 v2
              exact fin u u' v1 v2 v3 v4
            · have F : ∀ fuel, 1 ≤ fuel → ∃ o o', sp_X5_nodes_83 (nI q) p3 (nI m) s_size s_items fuel 0 0 o_size o_gone o_minds o_lasts o_parent o_kind o_number o_odds o_above = some o ∧ sp_X6_nodes_75 (nI q) p3 (nI m) m_sheetSize m_items fuel 0 0 m_n m_minds m_lasts m_cutNow m_parents m_kinds m_numbers m_odds = some o' ∧ o.1 = o'.1 ∧ (∃ n', n ≤ n' ∧ RTT n' o_year m_year o o') := by
                intro fuel hf
                obtain ⟨p, rfl⟩ : ∃ p, fuel = p + 1 := ⟨fuel - 1, by omega⟩
                have m0 : (3 : Int32) * 0 = 0 := by decide
                rw [sp_X5_nodes_83, sp_X6_nodes_75, m0, Int32.add_zero, e1, ob_s, if_pos rfl, xo_at_nI hq lt31c, ob_s, c7, Int32.sub_zero]
                by_cases h0 : nI m ≤ 0
                · rw [if_pos h0, if_pos h0]
                  exact ⟨_, _, rfl, rfl, rfl, n, Nat.le_refl _, hT⟩
                · rw [if_neg h0, if_neg h0]
                  by_cases a : p3 < 0
                  · rw [if_pos a]
                    exact ⟨_, _, rfl, rfl, rfl, n, Nat.le_refl _, hT⟩
                  · rcases e2 with e2 | e2 | e2
                    · exact absurd e2 a
                    · exact absurd e2 (by decide)
                    · rw [if_neg a, if_neg (show ¬ p3 ≤ nI z - 3 from fun h => by
                        have h1 := Int32.lt_iff_toInt_lt.mp e2
                        have h2 := Int32.le_iff_toInt_le.mp h
                        omega)]
                      exact ⟨_, _, rfl, rfl, rfl, n, Nat.le_refl _, hT⟩
              obtain ⟨u, u', v1, v2, v3, v4⟩ := F 5000 (by omega)
              exact fin u u' v1 v2 v3 v4
          · rw [if_neg e, if_neg e]
            exact ⟨_, _, rfl, rfl, rfl, hR⟩
      · rw [if_pos (d5.mpr i4), if_pos (d6.mpr i4)]
        exact ⟨_, _, rfl, rfl, rfl, hR⟩
    · rw [if_pos (c5.mpr i2), if_pos (c6.mpr i2)]
      exact ⟨_, _, rfl, rfl, rfl, hR⟩
  · rw [if_pos i5, i6, ob_s, if_pos rfl]
    exact ⟨_, _, rfl, rfl, rfl, hR⟩
