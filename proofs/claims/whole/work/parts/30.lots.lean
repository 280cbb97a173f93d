/-! drawn years, lowest terms -/
def lotS (w : Int32) (od : Nat → Int32) : Nat → Nat → Int32 → Int32 → Int32
  | 0, _, _, x => x
  | k + 1, i, z, x => if tb w i = true then (if od i ≤ (xi_rem (xi_ushr ((z * 1103515245) + 12345) 10) 100) then lotS w od k (i + 1) ((z * 1103515245) + 12345) x else lotS w od k (i + 1) ((z * 1103515245) + 12345) (x ||| xi_shl 1 (nI i))) else lotS w od k (i + 1) z x
theorem lot_id {w : Int32} {od : Nat → Int32} : ∀ (m i : Nat) (z x : Int32), (∀ j, i ≤ j → tb w j = false) → lotS w od m i z x = x := by
  intro m
  induction m with
  | zero => intro i z x _; rfl
  | succ m ih =>
    intro i z x h
    rw [lotS, if_neg (by rw [h i (Nat.le_refl _)]; decide)]
    exact ih (i + 1) z x (fun j hj => h j (by omega))
theorem lot_more {w : Int32} {od : Nat → Int32} {n : Nat} (h : ∀ j, n ≤ j → tb w j = false) (m : Nat) : ∀ (k i : Nat) (z x : Int32), n ≤ i + k → lotS w od (k + m) i z x = lotS w od k i z x := by
  intro k
  induction k with
  | zero => intro i z x hi; rw [Nat.zero_add, lot_id m i z x (fun j hj => h j (by omega))]; rfl
  | succ k ih =>
    intro i z x hi
    rw [show k + 1 + m = (k + m) + 1 by omega, lotS, lotS]
    rw [ih (i + 1) _ _ (by omega), ih (i + 1) _ _ (by omega), ih (i + 1) _ _ (by omega)]
theorem lot1 {s w sz la : Int32} {oP oK oN od : Nat → Int32} : ∀ (k i fuel : Nat) (z x : Int32) (kc ld : Nat → Int32), i + k = 12 → k + 1 ≤ fuel → sp_X5_lawByLot_9 s w sz la oP oK oN od fuel z x (nI i) kc ld = (sp_X1_vote s (lotS w od k i z x) sz la oP oK oN kc ld).bind fun r1 => some (sp_X5_bit r1.1 0, r1.2.1, r1.2.2) := by
  intro k
  induction k with
  | zero =>
    intro i fuel z x kc ld hi hf
    obtain ⟨m, rfl⟩ : ∃ m, fuel = m + 1 := ⟨fuel - 1, by omega⟩
    have : i = 12 := by omega
    subst this
    rw [sp_X5_lawByLot_9, if_pos (by decide)]
    rfl
  | succ k ih =>
    intro i fuel z x kc ld hi hf
    obtain ⟨m, rfl⟩ : ∃ m, fuel = m + 1 := ⟨fuel - 1, by omega⟩
    rw [sp_X5_lawByLot_9, if_neg (show ¬ (12 : Int32) ≤ nI i from nI_ge (b := 12) (by omega) (by decide)), lotS, nI_1]
    by_cases t : tb w i = true
    · rw [if_pos (bit1 (by omega) t), if_pos t, xo_at_nI (by omega) lt31, ob_s]
      by_cases c : od i ≤ (xi_rem (xi_ushr ((z * 1103515245) + 12345) 10) 100)
      · rw [if_pos c, if_pos c]; exact ih _ _ _ _ _ _ (by omega) (by omega)
      · rw [if_neg c, if_neg c]; exact ih _ _ _ _ _ _ (by omega) (by omega)
    · rw [if_neg (bit1n (by omega) (tbf t)), if_neg t]; exact ih _ _ _ _ _ _ (by omega) (by omega)
theorem or_s0 (x : Int32) {i : Nat} (hi : i < 32) : x ||| xi_shl 0 (nI i) = x := by
  apply tb_ext
  intro j _
  rw [tb_or, tb_shl 0 hi, tb_0, Bool.and_false, Bool.or_false]
theorem lot6 {n : Nat} {w la cut : Int32} {mP mK mN od md : Nat → Int32} (hn : n ≤ 12) (ho : ∀ i, i < n → md i = od i) : ∀ (k i fuel : Nat) (z x : Int32) (ye no : Nat → Int32), i + k = n → k + 1 ≤ fuel → sp_X6_drawn_21 w (nI n) la cut mP mK mN md fuel z x (nI i) ye no = (sp_X6_lawOf cut (lotS w od k i z x) (nI n) la mP mK mN ye no).bind fun r3 => some (r3.1, r3.2.1, r3.2.2) := by
  intro k
  induction k with
  | zero =>
    intro i fuel z x kc ld hi hf
    obtain ⟨m, rfl⟩ : ∃ m, fuel = m + 1 := ⟨fuel - 1, by omega⟩
    have : i = n := by omega
    subst this
    rw [sp_X6_drawn_21, if_pos (nI_le (Nat.le_refl _) (by omega))]
    rfl
  | succ k ih =>
    intro i fuel z x kc ld hi hf
    obtain ⟨m, rfl⟩ : ∃ m, fuel = m + 1 := ⟨fuel - 1, by omega⟩
    rw [sp_X6_drawn_21, if_neg (nI_ge (by omega) (by omega)), lotS, nI_1]
    by_cases t : tb w i = true
    · rw [if_pos (shr1 (by omega) t), if_pos t, xo_at_nI (by omega) lt31, ob_s, ho i (by omega)]
      by_cases c : od i ≤ (xi_rem (xi_ushr ((z * 1103515245) + 12345) 10) 100)
      · rw [if_pos c, if_pos c, or_s0 x (by omega)]; exact ih _ _ _ _ _ _ (by omega) (by omega)
      · rw [if_neg c, if_neg c]; exact ih _ _ _ _ _ _ (by omega) (by omega)
    · rw [if_neg (shr1n (by omega) (tbf t)), if_neg t]; exact ih _ _ _ _ _ _ (by omega) (by omega)
theorem and1_01 (Y : Int32) : ∃ b : Bool, Y &&& 1 = bI b := ⟨_, and_1 Y⟩
theorem law_both {n : Nat} {par : Nat → Nat} {oP oA mP oK oN mK mN : Nat → Int32} (T : TR n par oP oA mP) (K : KN n oK oN mK mN) (g c mind la : Int32) (h0 : tb g 0 = false) (hc : tb c 0 = false) : ∃ (s : Int32) (b : Bool), sp_X1_standing c (nI n) g oA = some s ∧ pr_st n par (g ||| c) s ∧ tb s 0 = true ∧ (∀ kc ld, ∃ Y kc' ld', sp_X1_vote s mind (nI n) la oP oK oN kc ld = some (Y, kc', ld') ∧ sp_X5_bit Y 0 = bI b) ∧ (∀ ye no, ∃ ye' no', sp_X6_lawOf (g ||| c) mind (nI n) la mP mK mN ye no = some (bI b, ye', no')) := by
  obtain ⟨s, s1, s2, s3, s4⟩ := st_cut T g c h0 hc
  obtain ⟨Y, v1, v2, v3⟩ := vote_both T K s mind la s4
  refine ⟨s, tb Y 0, s1, s3, s4, fun kc ld => ?_, fun ye no => ?_⟩
  · obtain ⟨k, l, e⟩ := v1 kc ld
    exact ⟨Y, k, l, e, by rw [bit_z, and_1]⟩
  · obtain ⟨k, l, e⟩ := v2 ye no
    refine ⟨k, l, ?_⟩
    unfold sp_X6_lawOf
    rw [s2, ob_s, e, ob_s, and_1]
theorem drawn_both {n : Nat} {par : Nat → Nat} {oP oA mP oK oN mK mN od md : Nat → Int32} (T : TR n par oP oA mP) (K : KN n oK oN mK mN) (g la : Int32) (h0 : tb g 0 = false) (ho : ∀ i, i < n → md i = od i) (seed : Int32) {s w : Int32} (s1 : sp_X1_standing 0 (nI n) g oA = some s) (s2 : sp_X6_standing g (nI n) mP = some s) (s3 : pr_st n par g s) (w2 : sp_X6_twigs s (nI n) mP = some w) (w3 : ∀ j, tb w j = twf n par s j) : ∃ b : Bool, (∀ kc ld, ∃ kc' ld', sp_X5_lawByLot seed s w (nI n) la oP oK oN od kc ld = some (bI b, kc', ld')) ∧ (∀ ye no, ∃ ye' no', sp_X6_drawn seed (nI n) la g mP mK mN md ye no = some (bI b, ye', no')) := by
  have hn := T.2.1
  have hn1 := T.1
  have wb := tw_bd (st_bd s3) w3
  have wn : ∀ j, n ≤ j → tb w j = false := by
    intro j hj
    by_cases q : tb w j = true
    · exact absurd (wb j q).1 (by omega)
    · exact tbf q
  have w0 : tb w 0 = false := by
    by_cases q : tb w 0 = true
    · exact absurd (wb 0 q).2 (by omega)
    · exact tbf q
  have eq : lotS w od 11 1 seed 0 = lotS w od n 0 seed 0 := by
    obtain ⟨n', rfl⟩ : ∃ n', n = n' + 1 := ⟨n - 1, by omega⟩
    have e1 : lotS w od (n' + 1) 0 seed 0 = lotS w od n' 1 seed 0 := by rw [lotS, if_neg (by rw [w0]; decide)]
    have e2 := lot_more (od := od) wn (11 - n') n' 1 seed 0 (by omega)
    rw [show n' + (11 - n') = 11 by omega] at e2
    rw [e1, e2]
  obtain ⟨s', b, e1, e2, e3, e4, e5⟩ := law_both T K g 0 (lotS w od n 0 seed 0) la h0 (tb_0 0)
  rw [s1] at e1
  have : s' = s := (Option.some.inj e1).symm
  subst this
  rw [or_0] at e5
  refine ⟨b, fun kc ld => ?_, fun ye no => ?_⟩
  · obtain ⟨Y, k, l, f1, f2⟩ := e4 kc ld
    refine ⟨k, l, ?_⟩
    unfold sp_X5_lawByLot
    rw [show (1 : Int32) = nI 1 from rfl, lot1 11 1 5000 seed 0 kc ld rfl (by decide), eq, f1, ob_s, f2]
  · obtain ⟨k, l, f⟩ := e5 ye no
    refine ⟨k, l, ?_⟩
    unfold sp_X6_drawn
    rw [s2, ob_s, w2, ob_s]
    have := lot6 (w := w) (la := la) (cut := g) (mP := mP) (mK := mK) (mN := mN) hn ho n 0 5000 seed 0 ye no (by omega) (by omega)
    rw [nI_0] at this
    rw [this, f, ob_s]
theorem q_drawn : op_drawn RRv := by
  intro o_size o_year o_gone o_minds o_lasts r_size r_token r_place r_at r_open r_made t_size t_rule i_there i_rule i_size i_year i_gone i_minds i_lasts o_parent o_kind o_number o_odds o_above o_kidCount o_lead r_tape r_steps r_ends t_steps t_ends t_stack s_sort s_size s_items i_number i_odds x_prices x_facts x_laws x_clues m_thrown m_textCount m_rule m_taped m_n m_minds m_lasts m_cutNow m_year m_ofNode m_ofDepth m_ofKids m_ofTwigs m_ofLast m_ofYear m_from m_size m_here m_token m_tokenAt m_open m_bad m_fault m_nKept m_mindsKept m_lastsKept m_cutKept m_yearKept m_ruleKept m_tokenWorth m_texts m_textSize m_tape m_parents m_kinds m_numbers m_odds m_yes m_no m_prices m_numbersKept m_oddsKept m_isThere m_sorts m_sheetSize m_items hR p1
  obtain ⟨n, t, hT, hP, hX, hI, hS⟩ := id hR
  obtain ⟨par, rfl, rfl, T, K, rfl, rfl, rfl, rfl, g0, pz, hO, hy, hg⟩ := rt_open hT
  obtain ⟨s, s1, s2, s3, s4⟩ := st_now T m_cutNow g0
  obtain ⟨w, w1, w2, w3⟩ := twigs_both T (st_bd s3)
  obtain ⟨b, b1, b2⟩ := drawn_both T K m_cutNow m_lasts g0 (fun i h => (hO i h).1) p1 s1 s2 s3 w2 w3
  obtain ⟨k, l, e⟩ := b1 o_kidCount o_lead
  obtain ⟨k', l', e'⟩ := b2 m_yes m_no
  unfold sp_X5_drawn
  simp only [s1, w1, ob_s, e]
  exact ⟨_, _, rfl, e', rfl, hR⟩
theorem div_loop : ∀ (m a b k fuel : Nat), a < 2 ^ 63 → b < 2 ^ 63 → b < 2 ^ m → k + (2 * m + 1) ≤ 200 → 2 * m + 1 ≤ fuel → sp_X5_divisorOf_3 fuel (lN a) (lN b) (nI k) = some (lN (Nat.gcd a b)) := by
  have z : ∀ (a k fuel : Nat), k < 200 → 1 ≤ fuel → sp_X5_divisorOf_3 fuel (lN a) (lN 0) (nI k) = some (lN a) := by
    intro a k fuel hk hf
    obtain ⟨q, rfl⟩ : ∃ q, fuel = q + 1 := ⟨fuel - 1, by omega⟩
    rw [sp_X5_divisorOf_3, if_neg (show ¬ (200 : Int32) ≤ nI k from nI_ge (b := 200) hk (by decide)), if_pos ((lg_cmp_eq (lN 0) 0).mpr rfl)]
  have st : ∀ (a b k fuel : Nat), a < 2 ^ 63 → b < 2 ^ 63 → 0 < b → k < 200 → sp_X5_divisorOf_3 (fuel + 1) (lN a) (lN b) (nI k) = sp_X5_divisorOf_3 fuel (lN b) (lN (a % b)) (nI (k + 1)) := by
    intro a b k fuel ha hb h0 hk
    have nz : ¬ lN b = 0 := fun q => by have := (pk_lEQ (b := 0) hb (by decide)).mp q; omega
    rw [sp_X5_divisorOf_3, if_neg (show ¬ (200 : Int32) ≤ nI k from nI_ge (b := 200) hk (by decide)), if_neg (fun q => nz ((lg_cmp_eq _ _).mp q)), if_neg nz, nI_1]
    unfold xl_rem
    rw [pk_lRem ha h0 hb]
  intro m
  induction m with
  | zero =>
    intro a b k fuel ha hb h hk hf
    have : b = 0 := by simp at h; exact h
    subst this
    rw [z a k fuel (by omega) (by omega), Nat.gcd_zero_right]
  | succ m ih =>
    intro a b k fuel ha hb h hk hf
    obtain ⟨q, rfl⟩ : ∃ q, fuel = q + 2 := ⟨fuel - 2, by omega⟩
    by_cases b0 : b = 0
    · subst b0
      rw [z a k _ (by omega) (by omega), Nat.gcd_zero_right]
    · have h1 : a % b < b := Nat.mod_lt _ (by omega)
      rw [st a b k (q + 1) ha hb (by omega) (by omega), Nat.gcd_comm, Nat.gcd_rec]
      by_cases r0 : a % b = 0
      · rw [r0, z b (k + 1) _ (by omega) (by omega), Nat.gcd_zero_left]
      · rw [st b (a % b) (k + 1) q hb (by omega) (by omega) (by omega)]
        have h2 : b % (a % b) < a % b := Nat.mod_lt _ (by omega)
        have h3 : b % (a % b) + a % b ≤ b := by
          have := Nat.mod_add_div b (a % b)
          have h5 : 1 ≤ b / (a % b) := Nat.div_pos (by omega) (by omega)
          have h6 : a % b * 1 ≤ a % b * (b / (a % b)) := Nat.mul_le_mul_left _ h5
          omega
        rw [Nat.pow_succ] at h
        rw [ih (a % b) (b % (a % b)) (k + 2) q (by omega) (by omega) (by omega) (by omega) (by omega), Nat.gcd_comm (a % b) (b % (a % b)), ← Nat.gcd_rec (a % b) b]
theorem low_loop (A B : Int64) (p : Int32) : ∀ (m a b fuel : Nat), a < 2 ^ 63 → b < 2 ^ 63 → b < 2 ^ m → 2 * m + 1 ≤ fuel → sp_X6_lowest_6 A B p fuel (lN a) (lN b) = (if p = 0 then if lN (Nat.gcd a b) = 0 then none else some (A / lN (Nat.gcd a b)) else if lN (Nat.gcd a b) = 0 then none else some (B / lN (Nat.gcd a b))) := by
  have z : ∀ (a fuel : Nat), 1 ≤ fuel → sp_X6_lowest_6 A B p fuel (lN a) (lN 0) = (if p = 0 then if lN a = 0 then none else some (A / lN a) else if lN a = 0 then none else some (B / lN a)) := by
    intro a fuel hf
    obtain ⟨q, rfl⟩ : ∃ q, fuel = q + 1 := ⟨fuel - 1, by omega⟩
    rw [sp_X6_lowest_6, if_pos ((lg_cmp_eq (lN 0) 0).mpr rfl)]
  have st : ∀ (a b fuel : Nat), a < 2 ^ 63 → b < 2 ^ 63 → 0 < b → sp_X6_lowest_6 A B p (fuel + 1) (lN a) (lN b) = sp_X6_lowest_6 A B p fuel (lN b) (lN (a % b)) := by
    intro a b fuel ha hb h0
    have nz : ¬ lN b = 0 := fun q => by have := (pk_lEQ (b := 0) hb (by decide)).mp q; omega
    rw [sp_X6_lowest_6, if_neg (fun q => nz ((lg_cmp_eq _ _).mp q)), if_neg nz]
    unfold xl_rem
    rw [pk_lRem ha h0 hb]
  intro m
  induction m with
  | zero =>
    intro a b fuel ha hb h hf
    have : b = 0 := by simp at h; exact h
    subst this
    rw [z a fuel (by omega), Nat.gcd_zero_right]
  | succ m ih =>
    intro a b fuel ha hb h hf
    obtain ⟨q, rfl⟩ : ∃ q, fuel = q + 2 := ⟨fuel - 2, by omega⟩
    by_cases b0 : b = 0
    · subst b0
      rw [z a _ (by omega), Nat.gcd_zero_right]
    · have h1 : a % b < b := Nat.mod_lt _ (by omega)
      have gg : Nat.gcd a b = Nat.gcd (a % b) b := by rw [Nat.gcd_comm, Nat.gcd_rec]
      rw [st a b (q + 1) ha hb (by omega), gg]
      by_cases r0 : a % b = 0
      · rw [r0, z b _ (by omega), Nat.gcd_zero_left]
      · rw [st b (a % b) q hb (by omega) (by omega)]
        have h2 : b % (a % b) < a % b := Nat.mod_lt _ (by omega)
        have h3 : b % (a % b) + a % b ≤ b := by
          have := Nat.mod_add_div b (a % b)
          have h5 : 1 ≤ b / (a % b) := Nat.div_pos (by omega) (by omega)
          have h6 : a % b * 1 ≤ a % b * (b / (a % b)) := Nat.mul_le_mul_left _ h5
          omega
        rw [Nat.pow_succ] at h
        have g2 : Nat.gcd (a % b) b = Nat.gcd (a % b) (b % (a % b)) := by rw [Nat.gcd_rec, Nat.gcd_comm]
        rw [ih (a % b) (b % (a % b)) q (by omega) (by omega) (by omega) (by omega), g2]
theorem low_both {a b : Nat} (p : Int32) (ha : a < 2 ^ 63) (hb : b < 2 ^ 60) (h0 : 0 < b) : ∃ v, sp_X5_lowest (lN a) (lN b) p = some v ∧ sp_X6_lowest (lN a) (lN b) p = some v := by
  have hg : 0 < Nat.gcd a b := Nat.gcd_pos_of_pos_right _ h0
  have hg2 : Nat.gcd a b ≤ b := Nat.gcd_le_right _ h0
  have nz : ¬ lN (Nat.gcd a b) = 0 := fun q => by have := (pk_lEQ (b := 0) (by omega) (by decide)).mp q; omega
  have d := div_loop 60 a b 0 5000 ha (by omega) hb (by omega) (by omega)
  have l := low_loop (lN a) (lN b) p 60 a b 5000 ha (by omega) hb (by omega)
  unfold sp_X5_lowest sp_X5_divisorOf sp_X6_lowest
  rw [nI_0] at d
  rw [d, ob_s, l, if_pos (show 0 < lg_cmp (lN (a.gcd b)) 0 from (lg_cmp_gt _ _).mpr ((pk_lLT (a := 0) (by decide) (by omega)).mpr hg)), if_neg nz, if_neg nz]
  by_cases q : p = 0
  · rw [if_pos q]; exact ⟨_, rfl, rfl⟩
  · rw [if_neg q]; exact ⟨_, rfl, rfl⟩
theorem q_chance : op_chance RRv := by
  intro o_size o_year o_gone o_minds o_lasts r_size r_token r_place r_at r_open r_made t_size t_rule i_there i_rule i_size i_year i_gone i_minds i_lasts o_parent o_kind o_number o_odds o_above o_kidCount o_lead r_tape r_steps r_ends t_steps t_ends t_stack s_sort s_size s_items i_number i_odds x_prices x_facts x_laws x_clues m_thrown m_textCount m_rule m_taped m_n m_minds m_lasts m_cutNow m_year m_ofNode m_ofDepth m_ofKids m_ofTwigs m_ofLast m_ofYear m_from m_size m_here m_token m_tokenAt m_open m_bad m_fault m_nKept m_mindsKept m_lastsKept m_cutKept m_yearKept m_ruleKept m_tokenWorth m_texts m_textSize m_tape m_parents m_kinds m_numbers m_odds m_yes m_no m_prices m_numbersKept m_oddsKept m_isThere m_sorts m_sheetSize m_items hR p1 p2 p3
  obtain ⟨n, t, hT, hP, hX, hI, hS⟩ := id hR
  obtain ⟨par, rfl, rfl, T, K, rfl, rfl, rfl, rfl, g0, pz, hO, hy, hg⟩ := rt_open hT
  obtain ⟨s, s1, s2, s3, s4⟩ := st_now T m_cutNow g0
  obtain ⟨w, w1, w2, w3⟩ := twigs_both T (st_bd s3)
  have a5 : sp_X5_isIn p2 1 20 = 0 ↔ ¬ inI p2 1 20 := by rw [in5]; rfl
  have a6 : sp_X6_in (Int32.toInt64 p2) 1 20 = 0 ↔ ¬ inI p2 1 20 := by rw [in6]; rfl
  have b5 : sp_X5_isIn p3 0 1 = 0 ↔ ¬ inI p3 0 (1 : Nat) := by rw [in5]; rfl
  have b6 : sp_X6_in (Int32.toInt64 p3) 0 1 = 0 ↔ ¬ inI p3 0 (1 : Nat) := by rw [in6]; rfl
  unfold sp_X5_chance sp_X6_chance
  by_cases h2 : inI p2 1 20
  · rw [if_neg (fun g => a5.mp g h2), if_neg (fun g => a6.mp g h2)]
    by_cases h3 : inI p3 0 (1 : Nat)
    · rw [if_neg (fun g => b5.mp g h3), if_neg (fun g => b6.mp g h3)]
      simp only [s1, w1, ob_s]
      obtain ⟨m, hm, rfl⟩ := inI_nI (x := p2) (k := 20) ⟨by have := h2.1; omega, h2.2⟩ (by decide)
      have hm1 : 1 ≤ m := by
        have := h2.1
        rw [nI_toInt (by omega)] at this
        omega
      have loop : ∀ (r k fuel c : Nat) (kc ld ye no : Nat → Int32), k + r = m → r + 1 ≤ fuel → c ≤ k → ∃ v a b a' b', sp_X5_chance_50 p1 (nI m) p3 s w (nI n) m_lasts o_parent o_kind o_number o_odds fuel (nI c) (nI k) kc ld = some (v, a, b) ∧ sp_X6_chance_32 p1 (nI m) p3 (nI n) m_lasts m_cutNow m_parents m_kinds m_numbers m_odds fuel (lN c) (nI k) ye no = some (v, a', b') := by
        intro r
        induction r with
        | zero =>
          intro k fuel c kc ld ye no hk hf hc
          obtain ⟨q, rfl⟩ : ∃ q, fuel = q + 1 := ⟨fuel - 1, by omega⟩
          have : k = m := by omega
          subst this
          obtain ⟨v, v1, v2⟩ := low_both (a := c) (b := k) p3 (by omega) (by omega) (by omega)
          rw [sp_X5_chance_50, sp_X6_chance_32, if_pos (nI_le (Nat.le_refl _) (by omega)), if_pos (nI_le (Nat.le_refl _) (by omega)), nI_l (by omega), nI_l (by omega), v1, v2, ob_s, ob_s]
          exact ⟨v, _, _, _, _, rfl, rfl⟩
        | succ r ih =>
          intro k fuel c kc ld ye no hk hf hc
          obtain ⟨q, rfl⟩ : ∃ q, fuel = q + 1 := ⟨fuel - 1, by omega⟩
          obtain ⟨b, b1, b2⟩ := drawn_both T K m_cutNow m_lasts g0 (fun i h => (hO i h).1) (p1 + nI k) s1 s2 s3 w2 w3
          obtain ⟨kk, ll, e⟩ := b1 kc ld
          obtain ⟨kk', ll', e'⟩ := b2 ye no
          rw [sp_X5_chance_50, sp_X6_chance_32, if_neg (nI_ge (by omega) (by omega)), if_neg (nI_ge (by omega) (by omega)), e, e', ob_s, ob_s]
          dsimp only
          rw [nI_1]
          cases b
          · have h1 : nI c + bI false = nI c := by show nI c + 0 = _; rw [Int32.add_zero]
            have h2 : lN c + Int32.toInt64 (bI false) = lN c := by show lN c + lN 0 = _; rw [lN_add, Nat.add_zero]
            rw [h1, h2]
            exact ih (k + 1) q c kk ll kk' ll' (by omega) (by omega) (by omega)
          · have h1 : nI c + bI true = nI (c + 1) := nI_1 c
            have h2 : lN c + Int32.toInt64 (bI true) = lN (c + 1) := by show lN c + lN 1 = _; rw [lN_add]
            rw [h1, h2]
            exact ih (k + 1) q (c + 1) kk ll kk' ll' (by omega) (by omega) (by omega)
      obtain ⟨v, a, b, a', b', e1, e2⟩ := loop m 0 5000 0 o_kidCount o_lead m_yes m_no (by omega) (by omega) (by omega)
      rw [nI_0] at e1
      rw [nI_0, show lN 0 = 0 from rfl] at e2
      exact ⟨_, _, e1, e2, rfl, hR⟩
    · rw [if_pos (b5.mpr h3), if_pos (b6.mpr h3)]
      exact ⟨_, _, rfl, rfl, rfl, hR⟩
  · rw [if_pos (a5.mpr h2), if_pos (a6.mpr h2)]
    exact ⟨_, _, rfl, rfl, rfl, hR⟩
