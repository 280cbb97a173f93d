/-! fewest minds, cheapest cuts -/
theorem sub_tb {x w : Int32} (h : (x &&& (w ^^^ (-1))) = 0) {i : Nat} (hi : tb x i = true) : tb w i = true := by
  have hi32 : i < 32 := by
    by_cases c : i < 32
    · exact c
    · rw [tb_big x (by omega)] at hi
      exact absurd hi (by decide)
  have := (eq0_iff _).mp h i hi32
  rw [tb_and, tb_xor, tb_m1, decide_eq_true hi32, hi] at this
  revert this
  cases tb w i <;> simp
theorem m1_big {c : Nat} (hc : c < 2 ^ 31) : ¬ nI c = -1 := by
  intro q
  have := congrArg Int32.toInt q
  rw [nI_toInt hc] at this
  have h2 : (-1 : Int32).toInt = -1 := by decide
  omega
def lsI (n : Nat) (w so : Int32) (pm : Nat → Int32) (a : Int32 × Int32 × (Nat → Int32) × (Nat → Int32)) (b : Int32 × (Nat → Int32) × (Nat → Int32)) : Prop := a.1 = b.1 ∧ (b.1 = -1 ∨ ((¬ b.1 = -1) ∧ (∀ i, tb b.1 i = true → tb w i = true) ∧ (so = 0 → sp_X6_bitsOf b.1 = some a.2.1) ∧ (¬ so = 0 → sp_X6_priceOf b.1 (nI n) pm = some a.2.1)))
theorem lsI_s {n : Nat} {w so : Int32} {pm kc ld kc' ld' ye no ye' no' : Nat → Int32} {best least : Int32} {u : Nat} {M : Bool} {cst : Int32} (hu : u < 2 ^ 31) (hI : lsI n w so pm (best, least, kc, ld) (best, ye, no)) (hw : ∀ i, tb (nI u) i = true → tb w i = true) (c0 : so = 0 → sp_X6_bitsOf (nI u) = some cst) (c1 : ¬ so = 0 → sp_X6_priceOf (nI u) (nI n) pm = some cst) : lsI n w so pm ((lsN M best least (nI u) cst).1, (lsN M best least (nI u) cst).2, kc', ld') ((lsN M best least (nI u) cst).1, ye', no') := by
  by_cases h : M = true ∧ (best = -1 ∨ ¬ least ≤ cst)
  · rw [lsN, if_pos h]
    exact ⟨rfl, Or.inr ⟨m1_big hu, hw, c0, c1⟩⟩
  · rw [lsN, if_neg h]
    exact ⟨rfl, hI.2⟩
theorem ls_cost {n u : Nat} (hn : n ≤ 12) (hu : u < 2 ^ n) (hp : 2 ^ n ≤ 4096) {w so : Int32} {px pm : Nat → Int32} (hpx : ∀ i, tb w i = true → i < n ∧ px i = pm i) (hw : ∀ i, tb (nI u) i = true → tb w i = true) : ∃ cst, (so = 0 → sp_J6_bitCount_0f7a4 (nI u) = cst) ∧ (so = 0 → sp_X6_bitsOf (nI u) = some cst) ∧ (¬ so = 0 → sp_X5_priceOfSet (nI u) px = some cst) ∧ (¬ so = 0 → sp_X6_priceOf (nI u) (nI n) pm = some cst) := by
  by_cases z : so = 0
  · exact ⟨nI (pcn u), fun _ => bc1 (by omega), fun _ => bc6 (by omega), fun q => absurd z q, fun q => absurd z q⟩
  · obtain ⟨v, v1, v2⟩ := ps_both (n := n) hn (x := nI u) (px := px) (pm := pm) (fun i h => hpx i (hw i h))
    exact ⟨v, fun q => absurd q z, fun q => absurd q z, fun _ => v1, fun _ => v2⟩
theorem ls_fin {n : Nat} (hn : n ≤ 12) {w : Int32} {px pm : Nat → Int32} (hpx : ∀ i, tb w i = true → i < n ∧ px i = pm i) {best : Int32} (hw : ∀ i, tb best i = true → tb w i = true) : sp_X6_bitsOf best = some (sp_J6_bitCount_0f7a4 best) ∧ ∃ v, sp_X5_priceOfSet best px = some v ∧ sp_X6_priceOf best (nI n) pm = some v :=
  ⟨bc_both hn (fun i h => (hpx i (hw i h)).1), ps_both hn (fun i h => hpx i (hw i h))⟩
theorem wbz {s : Int32} {i : Nat} (h : tb (sp_X5_withBit s 0 0) i = true) : tb s i = true := by
  have e := tb_wb0 s (show 0 < 32 by omega) i
  rw [nI_0] at e
  rw [e] at h
  revert h
  cases tb s i <;> simp
theorem mi_sim {n : Nat} {par : Nat → Nat} {oP oA mP oK oN mK mN : Nat → Int32} (T : TR n par oP oA mP) (K : KN n oK oN mK mN) {g s w : Int32} (mi la v so wt : Int32) (g0 : tb g 0 = false) (s1 : sp_X1_standing 0 (nI n) g oA = some s) (s2 : sp_X6_standing g (nI n) mP = some s) (s4 : tb s 0 = true) {k : Nat} (E : enP n k w) {px pm : Nat → Int32} (hpx : ∀ i, tb w i = true → i < n ∧ px i = pm i) (kc ld stk fa ye no : Nat → Int32) (aN aD aK aT aL aY b1 b2 b3 b4 b5 b6 b7 b8 : Int32) (tw : Int64) : ∃ r x x', sp_X5_leastSet_71 0 v so wt s w (sp_X5_waysOf w) (nI n) g mi la oP oK oN oA 5000 (-1) 0 0 0 kc ld stk px fa = some (r, x) ∧ sp_X6_minds_62 v so wt w (nI n) mi la g mP mK mN 5000 (-1) 0 aN aD aK aT aL aY b1 b2 b3 b4 b5 b6 b7 b8 tw ye no pm = some (r, x') := by
  have hn := T.2.1
  obtain ⟨h1, h2, h3, h4, h5, h6, h7, h8, h9, h10, h11⟩ := id E
  rw [h4]
  have H := en_sim (A := Int32 × Int32 × (Nat → Int32) × (Nat → Int32)) (B := Int32 × (Nat → Int32) × (Nat → Int32)) E (lsI n w so pm) (fun f1 k' set a f2 u b => ∃ r x x', sp_X5_leastSet_71 0 v so wt s w (nI (eK k (2 ^ n))) (nI n) g mi la oP oK oN oA f1 a.1 a.2.1 (nI set) (nI k') a.2.2.1 a.2.2.2 stk px fa = some (r, x) ∧ sp_X6_minds_62 v so wt w (nI n) mi la g mP mK mN f2 b.1 (nI u) aN aD aK aT aL aY b1 b2 b3 b4 b5 b6 b7 b8 tw b.2.1 b.2.2 pm = some (r, x'))
    (by
      intro f1 f2 set a b hI
      obtain ⟨i1, i2⟩ := hI
      rw [sp_X5_leastSet_71, if_pos (nI_le (Nat.le_refl _) (by omega)), sp_X6_minds_62, h11, if_pos (nI_le (Nat.le_refl _) (by omega)), i1]
      by_cases z : b.1 = -1
      · rw [if_pos z, if_pos z]; exact ⟨_, _, _, rfl, rfl⟩
      · rw [if_neg z, if_neg z]
        rcases i2 with i2 | ⟨_, i2, _, _⟩
        · exact absurd i2 z
        obtain ⟨j1, y, j2, j3⟩ := ls_fin hn hpx i2
        by_cases z0 : wt = 0
        · rw [if_pos z0, if_pos z0]; exact ⟨_, _, _, rfl, rfl⟩
        · rw [if_neg z0, if_neg z0]
          by_cases z1 : wt = 1
          · rw [if_pos z1, if_pos z1, j1, ob_s]; exact ⟨_, _, _, rfl, rfl⟩
          · rw [if_neg z1, if_neg z1, j2, j3, ob_s, ob_s]; exact ⟨_, _, _, rfl, rfl⟩)
    (by
      intro f1 f2 k' set a u b hu hs hI h
      rw [sp_X6_minds_62, h11, if_neg (nI_ge hu (by omega)), if_neg (fun q => by have := (h7 u hu).mp q; rw [hs] at this; exact absurd this (by decide)), nI_1]
      exact h)
    (by
      intro f1 f2 k' a u b hu hs hk hk2 hnx hI h
      have i1 := hI.1
      have hsub := (h7 u hu).mpr hs
      have hw : ∀ i, tb (nI u) i = true → tb w i = true := fun i q => sub_tb hsub q
      obtain ⟨cst, d1, d2, d3, d4⟩ := ls_cost (so := so) hn hu h10 hpx hw
      obtain ⟨Y, v1, v2, v3⟩ := vote_both T K s (mi ^^^ nI u) la s4
      have hbr : ∀ kc ld, ∃ kc' ld', sp_X5_brings 0 (nI u) s v (nI n) g mi la oP oK oN oA kc ld = some (bI (decide (bI (tb Y 0) = v)), kc', ld') := by
        intro kc ld
        obtain ⟨kc', ld', e⟩ := v1 kc ld
        refine ⟨kc', ld', ?_⟩
        unfold sp_X5_brings
        rw [if_pos rfl, if_pos rfl, e, ob_s, bit_z, and_1]
        by_cases c : bI (tb Y 0) = v
        · rw [if_pos c, decide_eq_true c]; rfl
        · rw [if_neg c, decide_eq_false c]; rfl
      have hlaw : ∀ ye no, ∃ ye' no', sp_X6_lawOf g (mi ^^^ nI u) (nI n) la mP mK mN ye no = some (bI (tb Y 0), ye', no') := by
        intro ye no
        obtain ⟨ye', no', e⟩ := v2 ye no
        refine ⟨ye', no', ?_⟩
        unfold sp_X6_lawOf
        rw [s2, ob_s, e, ob_s, and_1]
      obtain ⟨kc1, ld1, e1⟩ := ls_step (cu := 0) (v := v) (so := so) (wt := wt) (W := nI (eK k (2 ^ n))) (best := a.1) (least := a.2.1) (nI_ge hk (by omega)) hbr d1 d3 f1 a.2.2.1 a.2.2.2 stk fa
      have hI2 : lsI n w so pm (a.1, a.2.1, a.2.2.1, a.2.2.2) (a.1, b.2.1, b.2.2) := ⟨rfl, by have := hI.2; rw [← i1] at this; exact this⟩
      have dd : a.1 = -1 ∨ ((so = 0 → sp_X6_bitsOf a.1 = some a.2.1) ∧ (¬ so = 0 → sp_X6_priceOf a.1 (nI n) pm = some a.2.1) ∧ ¬ a.1 = -1) := by
        rcases hI2.2 with q | ⟨q1, q2, q3, q4⟩
        · exact Or.inl q
        · exact Or.inr ⟨q3, q4, q1⟩
      obtain ⟨ye1, no1, e2⟩ := mi_step (so := so) (wt := wt) (v := v) (w := w) h11 hu h10 hsub hlaw d2 d4 dd f2 aN aD aK aT aL aY b1 b2 b3 b4 b5 b6 b7 b8 tw b.2.1 b.2.2
      rw [e1, ← i1, e2, hnx, nI_1, nI_1]
      exact h (_, _, kc1, ld1) (_, ye1, no1) (lsI_s (by omega) hI2 hw d2 d4))
    ((-1), 0, kc, ld) ((-1), ye, no) ⟨rfl, Or.inl rfl⟩
  rw [nI_0] at H
  exact H
theorem cu_sim {n : Nat} {par : Nat → Nat} {oP oA mP oK oN mK mN : Nat → Int32} (T : TR n par oP oA mP) (K : KN n oK oN mK mN) {g s : Int32} (mi la v so wt : Int32) (g0 : tb g 0 = false) (s1 : sp_X1_standing 0 (nI n) g oA = some s) (s2 : sp_X6_standing g (nI n) mP = some s) (s4 : tb s 0 = true) {k : Nat} (E : enP n k (sp_X5_withBit s 0 0)) {px pm : Nat → Int32} (hpx : ∀ i, tb (sp_X5_withBit s 0 0) i = true → i < n ∧ px i = pm i) (kc ld stk fa ye no : Nat → Int32) (aN aD aK aT aL aY b1 b2 b3 b4 b5 b6 b7 b8 : Int32) (tw : Int64) : ∃ r x x', sp_X5_leastSet_71 1 v so wt s (sp_X5_withBit s 0 0) (sp_X5_waysOf (sp_X5_withBit s 0 0)) (nI n) g mi la oP oK oN oA 5000 (-1) 0 0 0 kc ld stk px fa = some (r, x) ∧ sp_X6_cuts_58 v so wt s (nI n) mi la g mP mK mN 5000 (-1) 0 aN aD aK aT aL aY b1 b2 b3 b4 b5 b6 b7 b8 tw ye no pm = some (r, x') := by
  have hn := T.2.1
  obtain ⟨h1, h2, h3, h4, h5, h6, h7, h8, h9, h10, h11⟩ := id E
  rw [h4]
  have H := en_sim (A := Int32 × Int32 × (Nat → Int32) × (Nat → Int32)) (B := Int32 × (Nat → Int32) × (Nat → Int32)) E (lsI n (sp_X5_withBit s 0 0) so pm) (fun f1 k' set a f2 u b => ∃ r x x', sp_X5_leastSet_71 1 v so wt s (sp_X5_withBit s 0 0) (nI (eK k (2 ^ n))) (nI n) g mi la oP oK oN oA f1 a.1 a.2.1 (nI set) (nI k') a.2.2.1 a.2.2.2 stk px fa = some (r, x) ∧ sp_X6_cuts_58 v so wt s (nI n) mi la g mP mK mN f2 b.1 (nI u) aN aD aK aT aL aY b1 b2 b3 b4 b5 b6 b7 b8 tw b.2.1 b.2.2 pm = some (r, x'))
    (by
      intro f1 f2 set a b hI
      obtain ⟨i1, i2⟩ := hI
      rw [sp_X5_leastSet_71, if_pos (nI_le (Nat.le_refl _) (by omega)), sp_X6_cuts_58, h11, if_pos (nI_le (Nat.le_refl _) (by omega)), i1]
      by_cases z : b.1 = -1
      · rw [if_pos z, if_pos z]; exact ⟨_, _, _, rfl, rfl⟩
      · rw [if_neg z, if_neg z]
        rcases i2 with i2 | ⟨_, i2, _, _⟩
        · exact absurd i2 z
        obtain ⟨j1, y, j2, j3⟩ := ls_fin hn hpx i2
        by_cases z0 : wt = 0
        · rw [if_pos z0, if_pos z0]; exact ⟨_, _, _, rfl, rfl⟩
        · rw [if_neg z0, if_neg z0]
          by_cases z1 : wt = 1
          · rw [if_pos z1, if_pos z1, j1, ob_s]; exact ⟨_, _, _, rfl, rfl⟩
          · rw [if_neg z1, if_neg z1, j2, j3, ob_s, ob_s]; exact ⟨_, _, _, rfl, rfl⟩)
    (by
      intro f1 f2 k' set a u b hu hs hI h
      rw [sp_X6_cuts_58, h11, if_neg (nI_ge hu (by omega)), nI_1]
      by_cases c : (nI u &&& (s ^^^ (-1))) = 0
      · have t0 : tb (nI u) 0 = true := by
          by_cases z : tb (nI u) 0 = true
          · exact z
          · have := (h7 u hu).mp ((sub_tr (nI u)).mpr ⟨c, tbf z⟩)
            rw [hs] at this
            exact absurd this (by decide)
        rw [if_pos c, apart0 T t0, ob_s, if_pos rfl]
        exact h
      rw [if_neg c]
      exact h)
    (by
      intro f1 f2 k' a u b hu hs hk hk2 hnx hI h
      have i1 := hI.1
      have hsub := (h7 u hu).mpr hs
      have hw : ∀ i, tb (nI u) i = true → tb (sp_X5_withBit s 0 0) i = true := fun i q => sub_tb hsub q
      obtain ⟨cst, d1, d2, d3, d4⟩ := ls_cost (so := so) hn hu h10 hpx hw
      obtain ⟨c1, c2⟩ := (sub_tr (nI u)).mp hsub
      obtain ⟨nb, n1, n2⟩ := nest_both T c2
      obtain ⟨s', L, l1, l2, l3, l4, l5⟩ := law_both T K g (nI u) mi la g0 c2
      have hbr : ∀ kc ld, ∃ kc' ld', sp_X5_brings 1 (nI u) s v (nI n) g mi la oP oK oN oA kc ld = some (bI (!nb && decide (bI L = v)), kc', ld') := by
        intro kc ld
        unfold sp_X5_brings
        rw [if_neg (show ¬ (1 : Int32) = 0 by decide), n1, ob_s]
        cases nb
        · obtain ⟨Y, kc', ld', e, e'⟩ := l4 kc ld
          refine ⟨kc', ld', ?_⟩
          rw [if_pos (show bI false = 0 from rfl), if_neg (show ¬ (1 : Int32) = 0 by decide), l1, ob_s, e, ob_s, e']
          by_cases c : bI L = v
          · rw [if_pos c, decide_eq_true c]; rfl
          · rw [if_neg c, decide_eq_false c]; rfl
        · rw [if_neg (show ¬ bI true = 0 by decide)]
          exact ⟨_, _, rfl⟩
      obtain ⟨kc1, ld1, e1⟩ := ls_step (cu := 1) (v := v) (so := so) (wt := wt) (W := nI (eK k (2 ^ n))) (best := a.1) (least := a.2.1) (nI_ge hk (by omega)) hbr d1 d3 f1 a.2.2.1 a.2.2.2 stk fa
      have hI2 : lsI n (sp_X5_withBit s 0 0) so pm (a.1, a.2.1, a.2.2.1, a.2.2.2) (a.1, b.2.1, b.2.2) := ⟨rfl, by have := hI.2; rw [← i1] at this; exact this⟩
      have dd : a.1 = -1 ∨ ((so = 0 → sp_X6_bitsOf a.1 = some a.2.1) ∧ (¬ so = 0 → sp_X6_priceOf a.1 (nI n) pm = some a.2.1) ∧ ¬ a.1 = -1) := by
        rcases hI2.2 with q | ⟨q1, q2, q3, q4⟩
        · exact Or.inl q
        · exact Or.inr ⟨q3, q4, q1⟩
      obtain ⟨ye1, no1, e2⟩ := cu_step (so := so) (wt := wt) (v := v) (w := s) nb h11 hu h10 c1 n2 l5 d2 d4 dd f2 aN aD aK aT aL aY b1 b2 b3 b4 b5 b6 b7 b8 tw b.2.1 b.2.2
      rw [e1, ← i1, e2, hnx, nI_1, nI_1]
      exact h (_, _, kc1, ld1) (_, ye1, no1) (lsI_s (by omega) hI2 hw d2 d4))
    ((-1), 0, kc, ld) ((-1), ye, no) ⟨rfl, Or.inl rfl⟩
  rw [nI_0] at H
  exact H
theorem q_minds : op_minds RRv := by
  intro o_size o_year o_gone o_minds o_lasts r_size r_token r_place r_at r_open r_made t_size t_rule i_there i_rule i_size i_year i_gone i_minds i_lasts o_parent o_kind o_number o_odds o_above o_kidCount o_lead r_tape r_steps r_ends t_steps t_ends t_stack s_sort s_size s_items i_number i_odds x_prices x_facts x_laws x_clues m_thrown m_textCount m_rule m_taped m_n m_minds m_lasts m_cutNow m_year m_ofNode m_ofDepth m_ofKids m_ofTwigs m_ofLast m_ofYear m_from m_size m_here m_token m_tokenAt m_open m_bad m_fault m_nKept m_mindsKept m_lastsKept m_cutKept m_yearKept m_ruleKept m_tokenWorth m_texts m_textSize m_tape m_parents m_kinds m_numbers m_odds m_yes m_no m_prices m_numbersKept m_oddsKept m_isThere m_sorts m_sheetSize m_items hR p1 p2 p3
  obtain ⟨n, t, hT, hP, hX, hI, hS⟩ := id hR
  obtain ⟨par, rfl, rfl, T, K, rfl, rfl, rfl, rfl, g0, pz, hO, hy, hg⟩ := rt_open hT
  obtain ⟨x1, x2, x3, x4, ⟨u, hu, rfl, rfl⟩, x5⟩ := hX
  have hn := T.2.1
  obtain ⟨s, s1, s2, s3, s4⟩ := st_now T m_cutNow g0
  obtain ⟨w, w1, w2, w3⟩ := twigs_both T (st_bd s3)
  have wb := tw_bd (st_bd s3) w3
  have a5 : sp_X5_isIn p1 0 1 = 0 ↔ ¬ inI p1 0 (1 : Nat) := by rw [in5]; rfl
  have a6 : sp_X6_in (Int32.toInt64 p1) 0 1 = 0 ↔ ¬ inI p1 0 (1 : Nat) := by rw [in6]; rfl
  have b5 : sp_X5_isIn p2 0 1 = 0 ↔ ¬ inI p2 0 (1 : Nat) := by rw [in5]; rfl
  have b6 : sp_X6_in (Int32.toInt64 p2) 0 1 = 0 ↔ ¬ inI p2 0 (1 : Nat) := by rw [in6]; rfl
  have c5 : sp_X5_isIn p3 0 2 = 0 ↔ ¬ inI p3 0 (2 : Nat) := by rw [in5]; rfl
  have c6 : sp_X6_in (Int32.toInt64 p3) 0 2 = 0 ↔ ¬ inI p3 0 (2 : Nat) := by rw [in6]; rfl
  unfold sp_X5_minds sp_X6_minds
  by_cases h1 : inI p1 0 (1 : Nat)
  · rw [if_neg (fun g => a5.mp g h1), if_neg (fun g => a6.mp g h1)]
    by_cases h2 : inI p2 0 (1 : Nat)
    · rw [if_neg (fun g => b5.mp g h2), if_neg (fun g => b6.mp g h2)]
      by_cases h3 : inI p3 0 (2 : Nat)
      · rw [if_neg (fun g => c5.mp g h3), if_neg (fun g => c6.mp g h3)]
        obtain ⟨pc, q1, q2, q3⟩ := prices_of (la := m_lasts) (yr := m_year) T s2 w1 w3 (x5 u hu) (show 2 < 3 by omega)
        obtain ⟨k, E⟩ := en_of hn (fun i h => (wb i h).1)
        obtain ⟨stk', px', fa', e1, e2⟩ := q2 w t_stack x_prices x_facts (fun i h => (wb i h).1)
        obtain ⟨o, o1, o2⟩ := q3 w m_ofNode m_ofDepth m_ofKids m_ofTwigs m_ofLast m_ofYear m_from m_size m_here m_token m_tokenAt m_open m_bad m_fault m_tokenWorth m_prices
        have e1' : sp_X5_keepPrices w 2 s (nI n) m_year m_lasts (nI u) o_parent o_above t_steps t_ends t_stack x_prices x_facts = some (stk', px', fa') := e1
        have o1' : sp_X6_gathers 2 w (nI u) (nI n) m_lasts m_cutNow m_year m_ofNode m_ofDepth m_ofKids m_ofTwigs m_ofLast m_ofYear m_from m_size m_here m_token m_tokenAt m_open m_bad m_fault m_tokenWorth m_texts m_textSize m_parents m_prices = some o := o1
        have hpx : ∀ i, tb w i = true → i < n ∧ px' i = o.2.2.2.2.2.2.2.2.2.2.2.2.2.2.2 i := by
          intro i hi
          have hin := (wb i hi).1
          exact ⟨hin, by rw [e2 i (by omega), o2 i hin]⟩
        obtain ⟨r, x, x', r1, r2⟩ := mi_sim T K m_minds m_lasts p1 p2 p3 g0 s1 s2 s4 E hpx o_kidCount o_lead stk' fa' m_yes m_no o.1 o.2.1 o.2.2.1 o.2.2.2.1 o.2.2.2.2.1 o.2.2.2.2.2.1 o.2.2.2.2.2.2.1 o.2.2.2.2.2.2.2.1 o.2.2.2.2.2.2.2.2.1 o.2.2.2.2.2.2.2.2.2.1 o.2.2.2.2.2.2.2.2.2.2.1 o.2.2.2.2.2.2.2.2.2.2.2.1 o.2.2.2.2.2.2.2.2.2.2.2.2.1 o.2.2.2.2.2.2.2.2.2.2.2.2.2.1 o.2.2.2.2.2.2.2.2.2.2.2.2.2.2.1
        unfold sp_X5_leastSet
        rw [s1, ob_s, if_pos rfl, w1, ob_s, if_pos rfl, e1', ob_s, s2, ob_s, w2, ob_s, o1', ob_s]
        dsimp only
        rw [r1, ob_s, r2]
        exact ⟨_, _, rfl, rfl, rfl, hR⟩
      · rw [if_pos (c5.mpr h3), if_pos (c6.mpr h3)]
        exact ⟨_, _, rfl, rfl, rfl, hR⟩
    · rw [if_pos (b5.mpr h2), if_pos (b6.mpr h2)]
      exact ⟨_, _, rfl, rfl, rfl, hR⟩
  · rw [if_pos (a5.mpr h1), if_pos (a6.mpr h1)]
    exact ⟨_, _, rfl, rfl, rfl, hR⟩
theorem q_cuts : op_cuts RRv := by
  intro o_size o_year o_gone o_minds o_lasts r_size r_token r_place r_at r_open r_made t_size t_rule i_there i_rule i_size i_year i_gone i_minds i_lasts o_parent o_kind o_number o_odds o_above o_kidCount o_lead r_tape r_steps r_ends t_steps t_ends t_stack s_sort s_size s_items i_number i_odds x_prices x_facts x_laws x_clues m_thrown m_textCount m_rule m_taped m_n m_minds m_lasts m_cutNow m_year m_ofNode m_ofDepth m_ofKids m_ofTwigs m_ofLast m_ofYear m_from m_size m_here m_token m_tokenAt m_open m_bad m_fault m_nKept m_mindsKept m_lastsKept m_cutKept m_yearKept m_ruleKept m_tokenWorth m_texts m_textSize m_tape m_parents m_kinds m_numbers m_odds m_yes m_no m_prices m_numbersKept m_oddsKept m_isThere m_sorts m_sheetSize m_items hR p1 p2 p3
  obtain ⟨n, t, hT, hP, hX, hI, hS⟩ := id hR
  obtain ⟨par, rfl, rfl, T, K, rfl, rfl, rfl, rfl, g0, pz, hO, hy, hg⟩ := rt_open hT
  obtain ⟨x1, x2, x3, x4, ⟨u, hu, rfl, rfl⟩, x5⟩ := hX
  have hn := T.2.1
  obtain ⟨s, s1, s2, s3, s4⟩ := st_now T m_cutNow g0
  obtain ⟨w, w1, w2, w3⟩ := twigs_both T (st_bd s3)
  have wb := tw_bd (st_bd s3) w3
  have a5 : sp_X5_isIn p1 0 1 = 0 ↔ ¬ inI p1 0 (1 : Nat) := by rw [in5]; rfl
  have a6 : sp_X6_in (Int32.toInt64 p1) 0 1 = 0 ↔ ¬ inI p1 0 (1 : Nat) := by rw [in6]; rfl
  have b5 : sp_X5_isIn p2 0 1 = 0 ↔ ¬ inI p2 0 (1 : Nat) := by rw [in5]; rfl
  have b6 : sp_X6_in (Int32.toInt64 p2) 0 1 = 0 ↔ ¬ inI p2 0 (1 : Nat) := by rw [in6]; rfl
  have c5 : sp_X5_isIn p3 0 2 = 0 ↔ ¬ inI p3 0 (2 : Nat) := by rw [in5]; rfl
  have c6 : sp_X6_in (Int32.toInt64 p3) 0 2 = 0 ↔ ¬ inI p3 0 (2 : Nat) := by rw [in6]; rfl
  unfold sp_X5_cuts sp_X6_cuts
  by_cases h1 : inI p1 0 (1 : Nat)
  · rw [if_neg (fun g => a5.mp g h1), if_neg (fun g => a6.mp g h1)]
    by_cases h2 : inI p2 0 (1 : Nat)
    · rw [if_neg (fun g => b5.mp g h2), if_neg (fun g => b6.mp g h2)]
      by_cases h3 : inI p3 0 (2 : Nat)
      · rw [if_neg (fun g => c5.mp g h3), if_neg (fun g => c6.mp g h3)]
        obtain ⟨pc, q1, q2, q3⟩ := prices_of (la := m_lasts) (yr := m_year) T s2 w1 w3 (x5 u hu) (show 0 < 3 by omega)
        obtain ⟨k, E⟩ := en_of hn (tr_bd (st_bd s3))
        obtain ⟨stk', px', fa', e1, e2⟩ := q2 (sp_X5_withBit s 0 0) t_stack x_prices x_facts (tr_bd (st_bd s3))
        obtain ⟨o, o1, o2⟩ := q3 s m_ofNode m_ofDepth m_ofKids m_ofTwigs m_ofLast m_ofYear m_from m_size m_here m_token m_tokenAt m_open m_bad m_fault m_tokenWorth m_prices
        have e1' : sp_X5_keepPrices (sp_X5_withBit s 0 0) 0 s (nI n) m_year m_lasts (nI u) o_parent o_above t_steps t_ends t_stack x_prices x_facts = some (stk', px', fa') := e1
        have o1' : sp_X6_gathers 0 s (nI u) (nI n) m_lasts m_cutNow m_year m_ofNode m_ofDepth m_ofKids m_ofTwigs m_ofLast m_ofYear m_from m_size m_here m_token m_tokenAt m_open m_bad m_fault m_tokenWorth m_texts m_textSize m_parents m_prices = some o := o1
        have hpx : ∀ i, tb (sp_X5_withBit s 0 0) i = true → i < n ∧ px' i = o.2.2.2.2.2.2.2.2.2.2.2.2.2.2.2 i := by
          intro i hi
          have hin := tr_bd (st_bd s3) i hi
          have hs : tb s i = true := wbz hi
          exact ⟨hin, by rw [e2 i (by omega), o2 i hin, if_pos hi, if_pos hs]⟩
        obtain ⟨r, x, x', r1, r2⟩ := cu_sim T K m_minds m_lasts p1 p2 p3 g0 s1 s2 s4 E hpx o_kidCount o_lead stk' fa' m_yes m_no o.1 o.2.1 o.2.2.1 o.2.2.2.1 o.2.2.2.2.1 o.2.2.2.2.2.1 o.2.2.2.2.2.2.1 o.2.2.2.2.2.2.2.1 o.2.2.2.2.2.2.2.2.1 o.2.2.2.2.2.2.2.2.2.1 o.2.2.2.2.2.2.2.2.2.2.1 o.2.2.2.2.2.2.2.2.2.2.2.1 o.2.2.2.2.2.2.2.2.2.2.2.2.1 o.2.2.2.2.2.2.2.2.2.2.2.2.2.1 o.2.2.2.2.2.2.2.2.2.2.2.2.2.2.1
        unfold sp_X5_leastSet
        rw [s1, ob_s, if_neg (show ¬ (1 : Int32) = 0 by decide), if_neg (show ¬ (1 : Int32) = 0 by decide), e1', ob_s, s2, ob_s, o1', ob_s]
        dsimp only
        rw [r1, ob_s, r2]
        exact ⟨_, _, rfl, rfl, rfl, hR⟩
      · rw [if_pos (c5.mpr h3), if_pos (c6.mpr h3)]
        exact ⟨_, _, rfl, rfl, rfl, hR⟩
    · rw [if_pos (b5.mpr h2), if_pos (b6.mpr h2)]
      exact ⟨_, _, rfl, rfl, rfl, hR⟩
  · rw [if_pos (a5.mpr h1), if_pos (a6.mpr h1)]
    exact ⟨_, _, rfl, rfl, rfl, hR⟩
