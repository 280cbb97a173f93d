/-! two who prune by turns -/
theorem or_assoc32 (a b c : Int32) : (a ||| b) ||| c = a ||| (b ||| c) := by
  apply tb_ext
  intro i _
  rw [tb_or, tb_or, tb_or, tb_or, Bool.or_assoc]
theorem and_m2 {w : Int32} (h : tb w 0 = false) : w &&& (-2) = w := by
  apply tb_ext
  intro i hi
  rw [tb_and]
  have e : tb (-2) i = decide (1 ≤ i) := by
    have : (-2 : Int32) = (-1) ^^^ 1 := by decide
    rw [this, tb_xor, tb_m1, tb_1, decide_eq_true hi]
    by_cases z : i = 0
    · subst z; rfl
    · rw [decide_eq_false z, decide_eq_true (show 1 ≤ i by omega)]; rfl
  rw [e]
  by_cases z : i = 0
  · subst z; rw [h]; rfl
  · rw [decide_eq_true (show 1 ≤ i by omega), Bool.and_true]
/-- what both sides say of a play -/
def plB (n : Nat) (g mi la : Int32) (oP oA oK oN mP mK mN : Nat → Int32) (F F' : Nat) (c : Int32) (L : Nat) (w : Bool) : Prop := ∃ v : Int32, (∀ kc ld, ∃ kc' ld', sp_gXP F c (nI L) (bI w) (nI n) g mi la oP oK oN oA kc ld = some (v, kc', ld')) ∧ (∀ ye no, ∃ ye' no', sp_gXV F' (g ||| c) (nI L) (bI w) (nI n) mi la mP mK mN ye no = some (v, ye', no'))
theorem pl_tail {R : Int32 → Int32 → Int32 → Int32 → Int32 → Int32 → Int32 → (Nat → Int32) → (Nat → Int32) → (Nat → Int32) → (Nat → Int32) → (Nat → Int32) → (Nat → Int32) → Option (Int32 × (Nat → Int32) × (Nat → Int32))} {u1 u2 u3 w sz g mi la : Int32} {oP oK oN oA : Nat → Int32} : ∀ (k i fuel : Nat) (kc ld : Nat → Int32), i + k = 12 → k + 1 ≤ fuel → (∀ j, i ≤ j → tb w j = false) → sp_X5_playedOut_p1_46 R u1 u2 u3 w sz g mi la oP oK oN oA fuel (nI i) kc ld = some (1 - u3, kc, ld) := by
  intro k
  induction k with
  | zero =>
    intro i fuel kc ld hi hf _
    obtain ⟨m, rfl⟩ : ∃ m, fuel = m + 1 := ⟨fuel - 1, by omega⟩
    have : i = 12 := by omega
    subst this
    rw [sp_X5_playedOut_p1_46, if_pos (by decide)]
  | succ k ih =>
    intro i fuel kc ld hi hf h
    obtain ⟨m, rfl⟩ : ∃ m, fuel = m + 1 := ⟨fuel - 1, by omega⟩
    rw [sp_X5_playedOut_p1_46, if_neg (show ¬ (12 : Int32) ≤ nI i from nI_ge (b := 12) (by omega) (by decide)), if_neg (bit1n (by omega) (h i (Nat.le_refl _))), nI_1]
    exact ih _ _ _ _ (by omega) (by omega) (fun j hj => h j (by omega))
theorem pl_loop {n : Nat} {g mi la : Int32} {oP oA oK oN mP mK mN : Nat → Int32} (hn : n ≤ 12) {F F' L : Nat} {c w : Int32} {b : Bool} (hw : ∀ i, tb w i = true → i < n) (H : ∀ i, 1 ≤ i → i < n → plB n g mi la oP oA oK oN mP mK mN F F' (c ||| xi_shl 1 (nI i)) L (!b)) : ∀ (k i f1 f2 : Nat), i + k = n → 1 ≤ i → 13 ≤ f1 + i → k + 1 ≤ f2 → ∃ v : Int32, (∀ kc ld, ∃ kc' ld', sp_X5_playedOut_p1_46 (sp_gXP F) c (nI (L + 1)) (bI b) w (nI n) g mi la oP oK oN oA f1 (nI i) kc ld = some (v, kc', ld')) ∧ (∀ ye no, ∃ ye' no', sp_X6_value_36 (sp_gXV F') (g ||| c) (nI (L + 1)) (bI b) w (nI n) mi la mP mK mN f2 (nI i) ye no = some (v, ye', no')) := by
  intro k
  induction k with
  | zero =>
    intro i f1 f2 hi h1 hf1 hf2
    obtain ⟨m, rfl⟩ : ∃ m, f2 = m + 1 := ⟨f2 - 1, by omega⟩
    have : i = n := by omega
    subst this
    refine ⟨1 - bI b, fun kc ld => ⟨kc, ld, ?_⟩, fun ye no => ⟨ye, no, ?_⟩⟩
    · apply pl_tail (12 - i) i f1 kc ld (by omega) (by omega)
      intro j hj
      by_cases q : tb w j = true
      · exact absurd (hw j q) (by omega)
      · exact tbf q
    · rw [sp_X6_value_36, if_pos (nI_le (Nat.le_refl _) (by omega))]
  | succ k ih =>
    intro i f1 f2 hi h1 hf1 hf2
    obtain ⟨m1, rfl⟩ : ∃ m, f1 = m + 1 := ⟨f1 - 1, by omega⟩
    obtain ⟨m2, rfl⟩ : ∃ m, f2 = m + 1 := ⟨f2 - 1, by omega⟩
    obtain ⟨v, v1, v2⟩ := ih (i + 1) m1 m2 (by omega) (by omega) (by omega) (by omega)
    by_cases t : tb w i = true
    · obtain ⟨u, u1, u2⟩ := H i h1 (by omega)
      have hL : nI (L + 1) - 1 = nI L := nI_pred L
      by_cases e : u = bI b
      · refine ⟨bI b, fun kc ld => ?_, fun ye no => ?_⟩
        · obtain ⟨a1, a2, a3⟩ := u1 kc ld
          refine ⟨a1, a2, ?_⟩
          rw [sp_X5_playedOut_p1_46, if_neg (show ¬ (12 : Int32) ≤ nI i from nI_ge (b := 12) (by omega) (by decide)), if_pos (bit1 (by omega) t), hL, bI_not, a3, ob_s, if_pos e]
        · obtain ⟨a1, a2, a3⟩ := u2 ye no
          refine ⟨a1, a2, ?_⟩
          rw [sp_X6_value_36, if_neg (nI_ge (by omega) (by omega)), if_pos (shr1 (by omega) t), hL, bI_not, or_assoc32, a3, ob_s, if_pos e]
      · refine ⟨v, fun kc ld => ?_, fun ye no => ?_⟩
        · obtain ⟨a1, a2, a3⟩ := u1 kc ld
          obtain ⟨b1, b2, b3⟩ := v1 a1 a2
          refine ⟨b1, b2, ?_⟩
          rw [sp_X5_playedOut_p1_46, if_neg (show ¬ (12 : Int32) ≤ nI i from nI_ge (b := 12) (by omega) (by decide)), if_pos (bit1 (by omega) t), hL, bI_not, a3, ob_s, if_neg e, nI_1]
          exact b3
        · obtain ⟨a1, a2, a3⟩ := u2 ye no
          obtain ⟨b1, b2, b3⟩ := v2 a1 a2
          refine ⟨b1, b2, ?_⟩
          rw [sp_X6_value_36, if_neg (nI_ge (by omega) (by omega)), if_pos (shr1 (by omega) t), hL, bI_not, or_assoc32, a3, ob_s, if_neg e, nI_1]
          exact b3
    · refine ⟨v, fun kc ld => ?_, fun ye no => ?_⟩
      · obtain ⟨b1, b2, b3⟩ := v1 kc ld
        refine ⟨b1, b2, ?_⟩
        rw [sp_X5_playedOut_p1_46, if_neg (show ¬ (12 : Int32) ≤ nI i from nI_ge (b := 12) (by omega) (by decide)), if_neg (bit1n (by omega) (tbf t)), nI_1]
        exact b3
      · obtain ⟨b1, b2, b3⟩ := v2 ye no
        refine ⟨b1, b2, ?_⟩
        rw [sp_X6_value_36, if_neg (nI_ge (by omega) (by omega)), if_neg (shr1n (by omega) (tbf t)), nI_1]
        exact b3
theorem play_both {n : Nat} {par : Nat → Nat} {oP oA mP oK oN mK mN : Nat → Int32} (T : TR n par oP oA mP) (K : KN n oK oN mK mN) (g mi la : Int32) (h0 : tb g 0 = false) : ∀ (L F F' : Nat) (c : Int32) (b : Bool), L ≤ 100 → L + 1 ≤ F → L + 1 ≤ F' → tb c 0 = false → plB n g mi la oP oA oK oN mP mK mN F F' c L b := by
  have hn := T.2.1
  have hn1 := T.1
  intro L
  induction L with
  | zero =>
    intro F F' c b _ hF hF' hc
    obtain ⟨f, rfl⟩ : ∃ m, F = m + 1 := ⟨F - 1, by omega⟩
    obtain ⟨f', rfl⟩ : ∃ m, F' = m + 1 := ⟨F' - 1, by omega⟩
    obtain ⟨s, v, e1, e2, e3, e4, e5⟩ := law_both T K g c mi la h0 hc
    obtain ⟨w, w1, w2, w3⟩ := twigs_both T (st_bd e2)
    have s2 := st6 T e2
    refine ⟨bI v, fun kc ld => ?_, fun ye no => ?_⟩
    · obtain ⟨Y, k, l, f1, f2⟩ := e4 kc ld
      refine ⟨k, l, ?_⟩
      rw [sp_gXP]
      unfold sp_X5_playedOut_p1
      rw [e1, ob_s, if_pos (by decide), if_pos rfl, f1, ob_s, f2]
    · obtain ⟨k, l, f⟩ := e5 ye no
      refine ⟨k, l, ?_⟩
      rw [sp_gXV]
      unfold sp_X6_value
      rw [s2, ob_s, w2, ob_s, if_pos nI_0, f, ob_s]
  | succ L ih =>
    intro F F' c b hL hF hF' hc
    obtain ⟨f, rfl⟩ : ∃ m, F = m + 1 := ⟨F - 1, by omega⟩
    obtain ⟨f', rfl⟩ : ∃ m, F' = m + 1 := ⟨F' - 1, by omega⟩
    obtain ⟨s, v, e1, e2, e3, e4, e5⟩ := law_both T K g c mi la h0 hc
    obtain ⟨w, w1, w2, w3⟩ := twigs_both T (st_bd e2)
    have s2 := st6 T e2
    have wb := tw_bd (st_bd e2) w3
    have w0 : tb w 0 = false := by
      by_cases q : tb w 0 = true
      · exact absurd (wb 0 q).2 (by omega)
      · exact tbf q
    by_cases wz : w = 0
    · refine ⟨bI v, fun kc ld => ?_, fun ye no => ?_⟩
      · obtain ⟨Y, k, l, f1, f2⟩ := e4 kc ld
        refine ⟨k, l, ?_⟩
        rw [sp_gXP]
        unfold sp_X5_playedOut_p1
        rw [e1, ob_s, if_neg (nI_nle (by omega) (by omega)), w1, ob_s, if_pos wz, f1, ob_s, f2]
      · obtain ⟨k, l, f⟩ := e5 ye no
        refine ⟨k, l, ?_⟩
        rw [sp_gXV]
        unfold sp_X6_value
        rw [s2, ob_s, w2, ob_s, if_neg (nI_ne0 (by omega) (by omega)), and_m2 w0, if_pos wz, f, ob_s]
    · obtain ⟨u, u1, u2⟩ := pl_loop (g := g) (mi := mi) (la := la) (oP := oP) (oA := oA) (oK := oK) (oN := oN) (mP := mP) (mK := mK) (mN := mN) (F := f) (F' := f') (L := L) (c := c) (w := w) (b := b) hn (fun i h => (wb i h).1) (fun i h1 h2 => ih f f' (c ||| xi_shl 1 (nI i)) (!b) (by omega) (by omega) (by omega) (by rw [tb_or, hc, tb_one (by omega), decide_eq_false (by omega)]; rfl)) (n - 1) 1 5000 5000 (by omega) (by omega) (by omega) (by omega)
      refine ⟨u, fun kc ld => ?_, fun ye no => ?_⟩
      · obtain ⟨a1, a2, a3⟩ := u1 kc ld
        refine ⟨a1, a2, ?_⟩
        rw [sp_gXP]
        unfold sp_X5_playedOut_p1
        rw [e1, ob_s, if_neg (nI_nle (by omega) (by omega)), w1, ob_s, if_neg wz]
        exact a3
      · obtain ⟨a1, a2, a3⟩ := u2 ye no
        refine ⟨a1, a2, ?_⟩
        rw [sp_gXV]
        unfold sp_X6_value
        rw [s2, ob_s, w2, ob_s, if_neg (nI_ne0 (by omega) (by omega)), and_m2 w0, if_neg wz]
        exact a3
theorem tn_tail {u1 w u4 sz g mi la : Int32} {oP oK oN oA : Nat → Int32} : ∀ (k i fuel : Nat) (kc ld : Nat → Int32), i + k = 12 → k + 1 ≤ fuel → (∀ j, i ≤ j → tb w j = false) → sp_X5_turns_75 u1 w u4 sz g mi la oP oK oN oA fuel (nI i) kc ld = some (-1, kc, ld) := by
  intro k
  induction k with
  | zero =>
    intro i fuel kc ld hi hf _
    obtain ⟨m, rfl⟩ : ∃ m, fuel = m + 1 := ⟨fuel - 1, by omega⟩
    have : i = 12 := by omega
    subst this
    rw [sp_X5_turns_75, if_pos (by decide)]
  | succ k ih =>
    intro i fuel kc ld hi hf h
    obtain ⟨m, rfl⟩ : ∃ m, fuel = m + 1 := ⟨fuel - 1, by omega⟩
    rw [sp_X5_turns_75, if_neg (show ¬ (12 : Int32) ≤ nI i from nI_ge (b := 12) (by omega) (by decide)), if_neg (bit1n (by omega) (h i (Nat.le_refl _))), nI_1]
    exact ih _ _ _ _ (by omega) (by omega) (fun j hj => h j (by omega))
theorem tn_loop {n : Nat} {g mi la : Int32} {oP oA oK oN mP mK mN : Nat → Int32} (hn : n ≤ 12) {L : Nat} (hL4 : L ≤ 4) {w u4 : Int32} (hw : ∀ i, tb w i = true → i < n) (H : ∀ i, 1 ≤ i → i < n → plB n g mi la oP oA oK oN mP mK mN 8 8 (xi_shl 1 (nI i)) L false) : ∀ (k i f1 f2 : Nat) (kc ld ye no : Nat → Int32), i + k = n → 1 ≤ i → 13 ≤ f1 + i → k + 1 ≤ f2 → ∃ v a b a' b', sp_X5_turns_75 (nI (L + 1)) w u4 (nI n) g mi la oP oK oN oA f1 (nI i) kc ld = some (v, a, b) ∧ sp_X6_turns_72 (nI (L + 1)) w u4 (nI n) mi la g mP mK mN f2 (nI i) ye no = some (v, a', b') := by
  intro k
  induction k with
  | zero =>
    intro i f1 f2 kc ld ye no hi h1 hf1 hf2
    obtain ⟨m, rfl⟩ : ∃ m, f2 = m + 1 := ⟨f2 - 1, by omega⟩
    have : i = n := by omega
    subst this
    refine ⟨-1, kc, ld, ye, no, ?_, ?_⟩
    · apply tn_tail (12 - i) i f1 kc ld (by omega) (by omega)
      intro j hj
      by_cases q : tb w j = true
      · exact absurd (hw j q) (by omega)
      · exact tbf q
    · rw [sp_X6_turns_72, if_pos (nI_le (Nat.le_refl _) (by omega))]
  | succ k ih =>
    intro i f1 f2 kc ld ye no hi h1 hf1 hf2
    obtain ⟨m1, rfl⟩ : ∃ m, f1 = m + 1 := ⟨f1 - 1, by omega⟩
    obtain ⟨m2, rfl⟩ : ∃ m, f2 = m + 1 := ⟨f2 - 1, by omega⟩
    have hL : nI (L + 1) - 1 = nI L := nI_pred L
    rw [sp_X5_turns_75, sp_X6_turns_72, if_neg (show ¬ (12 : Int32) ≤ nI i from nI_ge (b := 12) (by omega) (by decide)), if_neg (nI_ge (by omega) (by omega)), if_neg (nI_nle (n := L + 1) (by omega) (by omega)), hL, nI_1]
    by_cases t : tb w i = true
    · obtain ⟨u, u1, u2⟩ := H i h1 (by omega)
      obtain ⟨a1, a2, a3⟩ := u1 kc ld
      obtain ⟨b1, b2, b3⟩ := u2 ye no
      rw [show bI false = 0 from rfl] at a3 b3
      rw [if_pos (bit1 (by omega) t), if_pos (shr1 (by omega) t), a3, b3, ob_s, ob_s]
      by_cases e : u = u4
      · rw [if_pos e, if_pos e]
        exact ⟨_, _, _, _, _, rfl, rfl⟩
      · rw [if_neg e, if_neg e]
        exact ih (i + 1) m1 m2 a1 a2 b1 b2 (by omega) (by omega) (by omega) (by omega)
    · rw [if_neg (bit1n (by omega) (tbf t)), if_neg (shr1n (by omega) (tbf t))]
      exact ih (i + 1) m1 m2 kc ld ye no (by omega) (by omega) (by omega) (by omega)
theorem q_turns : op_turns RRv := by
  intro o_size o_year o_gone o_minds o_lasts r_size r_token r_place r_at r_open r_made t_size t_rule i_there i_rule i_size i_year i_gone i_minds i_lasts o_parent o_kind o_number o_odds o_above o_kidCount o_lead r_tape r_steps r_ends t_steps t_ends t_stack s_sort s_size s_items i_number i_odds x_prices x_facts x_laws x_clues m_thrown m_textCount m_rule m_taped m_n m_minds m_lasts m_cutNow m_year m_ofNode m_ofDepth m_ofKids m_ofTwigs m_ofLast m_ofYear m_from m_size m_here m_token m_tokenAt m_open m_bad m_fault m_nKept m_mindsKept m_lastsKept m_cutKept m_yearKept m_ruleKept m_tokenWorth m_texts m_textSize m_tape m_parents m_kinds m_numbers m_odds m_yes m_no m_prices m_numbersKept m_oddsKept m_isThere m_sorts m_sheetSize m_items hR p1 p2
  obtain ⟨n, t, hT, hP, hX, hI, hS⟩ := id hR
  obtain ⟨par, rfl, rfl, T, K, rfl, rfl, rfl, rfl, g0, pz, hO, hy, hg⟩ := rt_open hT
  have hn := T.2.1
  have hn1 := T.1
  obtain ⟨s, s1, s2, s3, s4⟩ := st_now T m_cutNow g0
  obtain ⟨w, w1, w2, w3⟩ := twigs_both T (st_bd s3)
  have wb := tw_bd (st_bd s3) w3
  have a5 : sp_X5_isIn p1 0 4 = 0 ↔ ¬ inI p1 0 (4 : Nat) := by rw [in5]; rfl
  have a6 : sp_X6_in (Int32.toInt64 p1) 0 4 = 0 ↔ ¬ inI p1 0 (4 : Nat) := by rw [in6]; rfl
  have b5 : sp_X5_isIn p2 0 1 = 0 ↔ ¬ inI p2 0 (1 : Nat) := by rw [in5]; rfl
  have b6 : sp_X6_in (Int32.toInt64 p2) 0 1 = 0 ↔ ¬ inI p2 0 (1 : Nat) := by rw [in6]; rfl
  unfold sp_X5_turns sp_X6_turns
  by_cases h1 : inI p1 0 (4 : Nat)
  · rw [if_neg (fun g => a5.mp g h1), if_neg (fun g => a6.mp g h1)]
    by_cases h2 : inI p2 0 (1 : Nat)
    · rw [if_neg (fun g => b5.mp g h2), if_neg (fun g => b6.mp g h2)]
      simp only [s1, s2, w1, w2, ob_s, bc_both hn (fun i h => (wb i h).1)]
      by_cases h6 : sp_J6_bitCount_0f7a4 w ≤ 6
      · rw [if_pos h6, if_pos h6]
        obtain ⟨L, hL, rfl⟩ := inI_nI h1 (by decide)
        obtain ⟨v, v1, v2⟩ := play_both T K m_cutNow m_minds m_lasts g0 L 8 8 0 true (by omega) (by omega) (by omega) (tb_0 0)
        rw [or_0] at v2
        rw [show bI true = 1 from rfl] at v1 v2
        obtain ⟨a1, a2, a3⟩ := v1 o_kidCount o_lead
        obtain ⟨c1, c2, c3⟩ := v2 m_yes m_no
        rw [a3, c3, ob_s, ob_s]
        by_cases z : p2 = 0
        · rw [if_pos z, if_pos z]
          exact ⟨_, _, rfl, rfl, rfl, hR⟩
        · rw [if_neg z, if_neg z]
          by_cases L0 : L = 0
          · subst L0
            have F : ∀ fuel, 2 ≤ fuel → ∃ a b, sp_X6_turns_72 (nI 0) w v (nI n) m_minds m_lasts m_cutNow m_parents m_kinds m_numbers fuel 1 c1 c2 = some (-1, a, b) := by
              intro fuel hf
              obtain ⟨m, rfl⟩ : ∃ m, fuel = m + 1 := ⟨fuel - 1, by omega⟩
              rw [sp_X6_turns_72]
              by_cases q : nI n ≤ 1
              · rw [if_pos q]; exact ⟨_, _, rfl⟩
              · rw [if_neg q, if_pos (by decide)]; exact ⟨_, _, rfl⟩
            obtain ⟨x1, x2, x3⟩ := F 5000 (by omega)
            rw [if_pos (by decide)]
            exact ⟨_, _, rfl, x3, rfl, hR⟩
          · obtain ⟨L', rfl⟩ : ∃ L', L = L' + 1 := ⟨L - 1, by omega⟩
            rw [if_neg (nI_nle (by omega) (by omega))]
            obtain ⟨u, x1, x2, x3, x4, y1, y2⟩ := tn_loop (g := m_cutNow) (mi := m_minds) (la := m_lasts) (oP := o_parent) (oA := o_above) (oK := o_kind) (oN := o_number) (mP := m_parents) (mK := m_kinds) (mN := m_numbers) (L := L') (w := w) (u4 := v) hn (by omega) (fun i h => (wb i h).1) (fun i h1 h2 => play_both T K m_cutNow m_minds m_lasts g0 L' 8 8 (xi_shl 1 (nI i)) false (by omega) (by omega) (by omega) (by rw [tb_one (by omega), decide_eq_false (by omega)])) (n - 1) 1 5000 5000 a1 a2 c1 c2 (by omega) (by omega) (by omega) (by omega)
            exact ⟨_, _, y1, y2, rfl, hR⟩
      · rw [if_neg h6, if_neg h6]
        exact ⟨_, _, rfl, rfl, rfl, hR⟩
    · rw [if_pos (b5.mpr h2), if_pos (b6.mpr h2)]
      exact ⟨_, _, rfl, rfl, rfl, hR⟩
  · rw [if_pos (a5.mpr h1), if_pos (a6.mpr h1)]
    exact ⟨_, _, rfl, rfl, rfl, hR⟩
