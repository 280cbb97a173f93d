/-! the row of text, the start -/
theorem pr_congr {q : Nat} {st en tx ts st2 en2 tx2 ts2 : Nat → Int32} (h : pr_text q st en tx ts) (h1 : ∀ j, 160 * q ≤ j → j < 160 * q + 160 → st2 j = st j ∧ tx2 j = tx j) (h2 : ∀ j, 3 * q ≤ j → j < 3 * q + 3 → en2 j = en j) (h3 : ts2 q = ts q) : pr_text q st2 en2 tx2 ts2 := by
  intro st' en' tx' ts' a b c
  refine h st' en' tx' ts' (fun j j1 j2 => ?_) (fun j j1 j2 => ?_) (by rw [c, h3])
  · obtain ⟨a1, a2⟩ := a j j1 j2
    obtain ⟨b1, b2⟩ := h1 j j1 j2
    exact ⟨by rw [a1, b1], by rw [a2, b2]⟩
  · rw [b j j1 j2, h2 j j1 j2]
theorem vl_go {f st S : Nat → Int32} {base a b : Nat} {v : Int32} (E : EM f st a b v) (hS : ∀ j, a ≤ j → j < b → S (base + j) = st j) (hb : b ≤ 160) (hB : base + b ≤ 960) (stk : Nat → Int32) : ∃ o, sp_X4_value_p25_52 (nI (base + b)) S f 5000 0 (nI (base + a)) stk = some o ∧ o.1 = v := by
  obtain ⟨stk', s1, s2, s3⟩ := E.2 S base (base + b) 0 (5000 - (b - a)) stk hS (Nat.le_refl _) hB (by omega)
  obtain ⟨m, hm⟩ : ∃ m, 5000 - (b - a) = m + 1 := ⟨5000 - (b - a) - 1, by omega⟩
  rw [nI_0, Nat.sub_add_cancel (by omega), hm] at s3
  have x0 : xo_at stk' 160 0 = some (stk' 0) := xo_at_nI (j := 0) (by decide) (by decide)
  rw [s3, sp_X4_value_p25_52, if_pos (nI_le (Nat.le_refl _) (by omega)), if_pos (show nI (0 + 1) = (1 : Int32) from rfl), x0, ob_s]
  exact ⟨_, rfl, s2⟩
theorem tx_new {tp tx : Nat → Int32} {q r R : Nat} (X : TX tp tx q r R) {st en st3 en3 : Nat → Int32} {t0 p0 a0 o0 mm c2 c3 c4 c5 c6 : Int32} (hcl : sp_X2_isText (nI r) t0 p0 a0 o0 mm tp st en = some (1, c2, c3, c4, c5, c6, st3, en3)) {S T ts : Nat → Int32} (hS : ∀ j, j < 160 → S (160 * q + j) = st3 j) (hT : ∀ i, i < 3 → T (3 * q + i) = nI q * 160 + en3 i) (hts : ts q = nI R) {w : Nat} (hw : w < 3) (f : Nat → Int32) : ∃ v : Int32, (∀ stk : Nat → Int32, ∃ o, sp_X4_value_p25 (nI w) (nI q) S T stk f = some o ∧ o.1 = v) ∧ ∀ (a1 a2 a3 a4 a5 a6 a7 a8 : Int32) (tw : Int64), ∃ o, sp_X6_read (nI q) (nI w) (f 0) (f 1) (f 2) (f 3) (f 4) (f 5) a1 a2 a3 a4 a5 a6 a7 a8 tw tx ts = some o ∧ o.1 = v := by
  have hq := X.2.2.1
  rcases rd_both X st en with ⟨m1, m2, m3, st3', l1, l2, l3, l4, cc, sem⟩ | ⟨p', _, cc, _⟩
  · obtain ⟨d2, d3, d4, d5, e⟩ := cc t0 p0 a0 o0 mm
    rw [hcl] at e
    have e' := Option.some.inj e
    simp only [Prod.mk.injEq] at e'
    obtain ⟨_, _, _, _, _, _, es, ee⟩ := e'
    subst es
    obtain ⟨v1, v2, v3, E1, E2, E3, rd⟩ := sem f
    have e160 : nI q * 160 = nI (160 * q) := by
      show nI q * nI 160 = _
      rw [pk_mul, Nat.mul_comm]
    have ix : ∀ i, nI q * 3 + nI i = nI (3 * q + i) := by
      intro i
      show nI q * nI 3 + nI i = _
      rw [pk_mul, nI_add, Nat.mul_comm]
    have T0 : T (3 * q) = nI (160 * q + m1) := by
      have := hT 0 (by omega)
      rw [ee, e160] at this
      exact this.trans (nI_add _ _)
    have T1 : T (3 * q + 1) = nI (160 * q + m2) := by
      have := hT 1 (by omega)
      rw [ee, e160] at this
      exact this.trans (nI_add _ _)
    have T2 : T (3 * q + 2) = nI (160 * q + m3) := by
      have := hT 2 (by omega)
      rw [ee, e160] at this
      exact this.trans (nI_add _ _)
    refine ⟨if nI w = 0 then v1 else if nI w = 1 then v2 else v3, fun stk => ?_, fun a1 a2 a3 a4 a5 a6 a7 a8 tw => ?_⟩
    · unfold sp_X4_value_p25
      rw [ix, e160]
      have w3 : w = 0 ∨ w = 1 ∨ w = 2 := by omega
      rcases w3 with rfl | rfl | rfl
      · rw [if_pos nI_0, if_pos nI_0, Nat.add_zero, xo_at_nI (by omega) (by decide), ob_s, T0]
        exact vl_go E1 (fun j j1 j2 => hS j (by omega)) (by omega) (by omega) stk
      · rw [if_neg (show ¬ nI 1 = 0 by decide), if_neg (show ¬ nI 1 = 0 by decide), if_pos (show nI 1 = 1 from rfl), nI_pred, xo_at_nI (by omega) (by decide), ob_s, xo_at_nI (by omega) (by decide), ob_s, T0, T1]
        exact vl_go E2 (fun j j1 j2 => hS j (by omega)) (by omega) (by omega) stk
      · rw [if_neg (show ¬ nI 2 = 0 by decide), if_neg (show ¬ nI 2 = 0 by decide), if_neg (show ¬ nI 2 = 1 by decide), show nI (3 * q + 2) - 1 = nI (3 * q + 1) from nI_pred (3 * q + 1), xo_at_nI (by omega) (by decide), ob_s, xo_at_nI (by omega) (by decide), ob_s, T1, T2]
        exact vl_go E3 (fun j j1 j2 => hS j (by omega)) (by omega) (by omega) stk
    · obtain ⟨o, o1, o2, _⟩ := rd a1 a2 a3 a4 a5 a6 a7 a8 tw ts w hts
      exact ⟨o, o1, o2⟩
  · obtain ⟨d2, d4, d5, d6, d7, d8, e⟩ := cc t0 p0 a0 o0 mm
    rw [hcl] at e
    have e' := Option.some.inj e
    simp only [Prod.mk.injEq] at e'
    exact absurd e'.1 one0
theorem add_go {t : Nat} (ht : t < 6) (rs re ts te : Nat → Int32) : sp_X4_add_p9 (nI t) rs re ts te = some ((nI t + 1) - 1, nI t + 1, va_cpy rs ts 0 (160 * t) 160, upd (upd (upd te (3 * t + 0) (nI t * 160 + re 0)) (3 * t + 1) (nI t * 160 + re 1)) (3 * t + 2) (nI t * 160 + re 2)) := by
  have e160 : nI t * 160 = nI (160 * t) := by
    show nI t * nI 160 = _
    rw [pk_mul, Nat.mul_comm]
  have ix : ∀ i, nI t * 3 + nI i = nI (3 * t + i) := by
    intro i
    show nI t * nI 3 + nI i = _
    rw [pk_mul, nI_add, Nat.mul_comm]
  have lp : ∀ (m : Nat) (s : Nat → Int32), sp_X4_add_p9_37 re (m + 4) (nI 0) (nI t) s te = some ((nI t + 1) - 1, nI t + 1, s, upd (upd (upd te (3 * t + 0) (nI t * 160 + re 0)) (3 * t + 1) (nI t * 160 + re 1)) (3 * t + 2) (nI t * 160 + re 2)) := by
    intro m s
    rw [sp_X4_add_p9_37, if_neg (by decide), xo_at_nI (by decide) (by decide), ob_s, ix, xo_set_nI (by omega) (by decide), ob_s, nI_1 0]
    rw [sp_X4_add_p9_37, if_neg (by decide), xo_at_nI (by decide) (by decide), ob_s, ix, xo_set_nI (by omega) (by decide), ob_s, nI_1]
    rw [sp_X4_add_p9_37, if_neg (by decide), xo_at_nI (by decide) (by decide), ob_s, ix, xo_set_nI (by omega) (by decide), ob_s, nI_1]
    rw [sp_X4_add_p9_37, if_pos (by decide)]
  unfold sp_X4_add_p9
  have c := cpy_nI (f := rs) (h := ts) (a := 0) (b := 160 * t) (c := 160) (n0 := 160) (n1 := 960) (by decide) (by decide) (by omega) (by omega)
  rw [if_pos (show nI t < (6 : Int32) from nI_lt (b := 6) ht (by decide)), e160, show xo_cpy rs ts 160 960 0 (nI (160 * t)) 160 = some (va_cpy rs ts 0 (160 * t) 160) from c, ob_s]
  have := lp 4996 (va_cpy rs ts 0 (160 * t) 160)
  rw [e160] at this
  exact this
theorem tx_loop {r t : Nat} (hr : r ≤ 160) (ht : t < 6) (g0 g1 g2 g3 g4 g5 a1 a2 a3 a4 a5 a6 a7 a8 : Int32) (tw : Int64) (tape ts : Nat → Int32) : ∀ (d u fuel : Nat) (tx : Nat → Int32), u + d = r → d + 1 ≤ fuel → (∀ i, i < u → tx (160 * t + i) = tape i) → ∃ tx', (∀ i, i < r → tx' (160 * t + i) = tape i) ∧ (∀ j, j < 160 * t → tx' j = tx j) ∧ sp_X6_text_14 g0 g1 g2 g3 g4 g5 tape fuel (nI u) (nI t) (nI r) a1 a2 a3 a4 a5 a6 a7 a8 tw tx ts = (xo_set ts 6 (nI t) (nI r)).bind fun f1 => (sp_X6_read (nI t) 0 g0 g1 g2 g3 g4 g5 a1 a2 a3 a4 a5 a6 a7 a8 tw tx' f1).bind fun r2 => if r2.2.2.2.2.2.2.2.1 = 0 then some (((nI t + 1) - 1), (nI t + 1), 0, r2.2.1, r2.2.2.1, r2.2.2.2.1, r2.2.2.2.2.1, r2.2.2.2.2.2.1, r2.2.2.2.2.2.2.1, r2.2.2.2.2.2.2.2.1, r2.2.2.2.2.2.2.2.2.1, r2.2.2.2.2.2.2.2.2.2, tx', f1) else some (((-100) - r2.2.2.2.2.2.2.2.2.1), nI t, 0, r2.2.1, r2.2.2.1, r2.2.2.2.1, r2.2.2.2.2.1, r2.2.2.2.2.2.1, r2.2.2.2.2.2.2.1, r2.2.2.2.2.2.2.2.1, r2.2.2.2.2.2.2.2.2.1, r2.2.2.2.2.2.2.2.2.2, tx', f1) := by
  intro d
  induction d with
  | zero =>
    intro u fuel tx hu hf h
    obtain ⟨m, rfl⟩ : ∃ m, fuel = m + 1 := ⟨fuel - 1, by omega⟩
    have : u = r := by omega
    subst this
    refine ⟨tx, h, fun _ _ => rfl, ?_⟩
    rw [sp_X6_text_14, if_pos (nI_le (Nat.le_refl _) (by omega))]
  | succ d ih =>
    intro u fuel tx hu hf h
    obtain ⟨m, rfl⟩ : ∃ m, fuel = m + 1 := ⟨fuel - 1, by omega⟩
    have ix : (160 : Int32) * nI t + nI u = nI (160 * t + u) := by
      show nI 160 * nI t + nI u = _
      rw [pk_mul, nI_add]
    obtain ⟨tx', t1, t2, t3⟩ := ih (u + 1) m (upd tx (160 * t + u) (tape u)) (by omega) (by omega) (fun i hi => by
      by_cases e : i = u
      · subst e; rw [pk_us]
      · rw [pk_un (by omega)]; exact h i (by omega))
    refine ⟨tx', t1, fun j hj => by rw [t2 j hj, pk_un (by omega)], ?_⟩
    rw [sp_X6_text_14, if_neg (nI_ge (by omega) (by omega)), xo_at_nI (by omega) (by decide), ob_s, ix, xo_set_nI (by omega) (by decide), ob_s, nI_1, t3]
theorem rimg_t {n t t' : Nat} {i_there i_rule i_size i_year i_gone i_minds i_lasts : Int32} {i_number i_odds : Nat → Int32} {k1 k2 k3 k4 k5 k6 : Int32} {k7 k8 : Nat → Int32} (h : t ≤ t') (hI : RImg n t i_there i_rule i_size i_year i_gone i_minds i_lasts i_number i_odds k1 k2 k3 k4 k5 k6 k7 k8) : RImg n t' i_there i_rule i_size i_year i_gone i_minds i_lasts i_number i_odds k1 k2 k3 k4 k5 k6 k7 k8 := by
  rcases hI with hI | ⟨a, k, b1, b2, b3, b4, b5, b6, b7, b8, b9, b10, b11, b12, u, b13, b14⟩
  · exact Or.inl hI
  · exact Or.inr ⟨a, k, b1, b2, b3, b4, b5, b6, b7, b8, b9, b10, b11, b12, u, by omega, b14⟩
theorem q_text : op_text RRv := by
  intro o_size o_year o_gone o_minds o_lasts r_size r_token r_place r_at r_open r_made t_size t_rule i_there i_rule i_size i_year i_gone i_minds i_lasts o_parent o_kind o_number o_odds o_above o_kidCount o_lead r_tape r_steps r_ends t_steps t_ends t_stack s_sort s_size s_items i_number i_odds x_prices x_facts x_laws x_clues m_thrown m_textCount m_rule m_taped m_n m_minds m_lasts m_cutNow m_year m_ofNode m_ofDepth m_ofKids m_ofTwigs m_ofLast m_ofYear m_from m_size m_here m_token m_tokenAt m_open m_bad m_fault m_nKept m_mindsKept m_lastsKept m_cutKept m_yearKept m_ruleKept m_tokenWorth m_texts m_textSize m_tape m_parents m_kinds m_numbers m_odds m_yes m_no m_prices m_numbersKept m_oddsKept m_isThere m_sorts m_sheetSize m_items hR
  obtain ⟨n, t, hT, hP, hX, hI, hS⟩ := id hR
  obtain ⟨r, hr, rfl, rfl, hq⟩ := hP
  obtain ⟨x1, x2, rfl, rfl, x4, x5⟩ := hX
  unfold sp_X5_text sp_X6_text
  by_cases h6 : t = 6
  · subst h6
    rw [if_neg (show ¬ nI 6 < (6 : Int32) by decide), if_pos (show nI 6 = (6 : Int32) from rfl)]
    exact ⟨_, _, rfl, rfl, rfl, hR⟩
  · have ht : t < 6 := by omega
    rw [if_pos (show nI t < (6 : Int32) from nI_lt (b := 6) ht (by decide)), if_neg (show ¬ nI t = (6 : Int32) from tne (c := 6) h6 (by omega) (by decide))]
    obtain ⟨tx', t1, t2, t3⟩ := tx_loop hr ht m_ofNode m_ofDepth m_ofKids m_ofTwigs m_ofLast m_ofYear m_from m_size m_here m_token m_tokenAt m_open m_bad m_fault m_tokenWorth m_tape m_textSize r 0 5000 m_texts (by omega) (by omega) (fun i hi => absurd hi (by omega))
    rw [nI_0, xo_set_nI ht (by decide), ob_s] at t3
    rw [t3]
    have X : TX r_tape tx' t r r := ⟨Nat.le_refl _, hr, ht, fun i hi => ⟨by rw [t1 i hi, (hq i hi).1], (hq i hi).2⟩, fun i i1 i2 => absurd i1 (by omega)⟩
    have hts : upd m_textSize t (nI r) t = nI r := pk_us
    have fz : ∃ f : Nat → Int32, f 0 = m_ofNode ∧ f 1 = m_ofDepth ∧ f 2 = m_ofKids ∧ f 3 = m_ofTwigs ∧ f 4 = m_ofLast ∧ f 5 = m_ofYear := ⟨fun i => if i = 0 then m_ofNode else if i = 1 then m_ofDepth else if i = 2 then m_ofKids else if i = 3 then m_ofTwigs else if i = 4 then m_ofLast else m_ofYear, rfl, rfl, rfl, rfl, rfl, rfl⟩
    obtain ⟨f, f0, f1, f2, f3, f4, f5⟩ := fz
    have old : ∀ (S T ts' : Nat → Int32), (∀ j, j < 160 * t → S j = t_steps j) → (∀ j, j < 3 * t → T j = t_ends j) → (∀ j, j < t → ts' j = m_textSize j) → ∀ q, q < t → pr_text q S T tx' ts' := by
      intro S T ts' s1 s2 s3 q hq
      exact pr_congr (x5 q hq) (fun j j1 j2 => ⟨s1 j (by omega), t2 j (by omega)⟩) (fun j j1 j2 => s2 j (by omega)) (s3 q hq)
    rcases rd_both X r_steps r_ends with ⟨m1, m2, m3, st3, l1, l2, l3, l4, cc, sem⟩ | ⟨p', hp', cc, sem⟩
    · obtain ⟨c2, c3, c4, c5, e⟩ := cc r_token r_place r_at r_open r_made
      obtain ⟨v1, v2, v3, E1, E2, E3, rd⟩ := sem f
      obtain ⟨o, o1, o2, o3⟩ := rd m_from m_size m_here m_token m_tokenAt m_open m_bad m_fault m_tokenWorth (upd m_textSize t (nI r)) 0 hts
      rw [f0, f1, f2, f3, f4, f5, nI_0] at o1
      rw [e, ob_s, if_neg one0, add_go ht, ob_s, o1, ob_s, if_pos o3]
      refine ⟨_, _, rfl, rfl, rfl, n, t + 1, hT, ⟨0, by omega, rfl, rfl, fun i hi => absurd hi (by omega)⟩, ⟨by omega, by omega, nI_1 t, nI_1 t, ?_, ?_⟩, rimg_t (by omega) hI, hS⟩
      · obtain ⟨u, hu, u1, u2⟩ := x4
        exact ⟨u, by omega, u1, u2⟩
      · intro q hqt
        by_cases eq : q = t
        · subst eq
          intro st' en' tx2 ts2 b1 b2 b3 w hw ff
          have X2 : TX r_tape tx2 q r r := ⟨Nat.le_refl _, hr, ht, fun i hi => ⟨by rw [(b1 (160 * q + i) (by omega) (by omega)).2]; exact X.2.2.2.1 i hi |>.1, (hq i hi).2⟩, fun i i1 i2 => absurd i1 (by omega)⟩
          refine tx_new X2 e (fun j hj => ?_) (fun i hi => ?_) (by rw [b3]; exact hts) hw ff
          · rw [(b1 (160 * q + j) (by omega) (by omega)).1]
            show va_cpy st3 t_steps 0 (160 * q) 160 (160 * q + j) = _
            unfold va_cpy
            rw [if_pos ⟨by omega, by omega⟩, Nat.zero_add, Nat.add_sub_cancel_left]
          · rw [b2 (3 * q + i) (by omega) (by omega)]
            have i3 : i = 0 ∨ i = 1 ∨ i = 2 := by omega
            rcases i3 with rfl | rfl | rfl
            · exact (pk_un (by omega)).trans ((pk_un (by omega)).trans pk_us)
            · exact (pk_un (by omega)).trans pk_us
            · exact pk_us
        · refine old _ _ _ (fun j hj => ?_) (fun j hj => ?_) (fun j hj => pk_un (by omega)) q (by omega)
          · show va_cpy st3 t_steps 0 (160 * t) 160 j = _
            unfold va_cpy
            rw [if_neg (by omega)]
          · exact (pk_un (by omega)).trans ((pk_un (by omega)).trans (pk_un (by omega)))
    · obtain ⟨c2, c4, c5, c6, c7, c8, e⟩ := cc r_token r_place r_at r_open r_made
      obtain ⟨o, o1, o2, o3⟩ := sem f m_from m_size m_here m_token m_tokenAt m_open m_bad m_fault m_tokenWorth (upd m_textSize t (nI r)) 0 hts
      rw [f0, f1, f2, f3, f4, f5, nI_0] at o1
      have o4 : o.2.2.2.2.2.2.2.2.1 = nI p' := by
        rcases o3 with g | ⟨g1, g2⟩
        · exact g
        · rw [g2, g1]
      rw [e, ob_s, if_pos rfl, o1, ob_s, if_neg (by rw [o2]; decide), o4]
      exact ⟨_, _, rfl, rfl, rfl, n, t, hT, ⟨0, by omega, rfl, rfl, fun i hi => absurd hi (by omega)⟩, ⟨x1, x2, rfl, rfl, x4, old _ _ _ (fun _ _ => rfl) (fun _ _ => rfl) (fun j hj => pk_un (by omega))⟩, hI, hS⟩
def tp0 : Nat → Int32 := fun i => if i < 49 then (([99, 111, 115, 116, 115, 32, 116, 119, 105, 103, 115, 32, 42, 32, 51, 32, 43, 32, 49, 32, 59, 32, 102, 97, 108, 108, 115, 32, 100, 101, 112, 116, 104, 32, 42, 32, 53, 32, 59, 32, 119, 111, 114, 116, 104, 32, 49, 32, 59] : List Int32)).getD i 0 else 0
theorem ch0 : ∀ u : Fin 49, sp_J0_charAt_5068e_p1012 (nI u) = some (tp0 u) := by decide +kernel
theorem tp0_c : ∀ u : Fin 49, tp0 u = nI (tp0 u).toNatClampNeg ∧ (tp0 u).toNatClampNeg ≤ 255 := by decide +kernel
theorem in_loop : ∀ (d u fuel : Nat) (tape : Nat → Int32), u + d = 49 → d + 1 ≤ fuel → (∀ i, tape i = if i < u then tp0 i else 0) → sp_X5_init_tail_92 fuel (nI u) (nI u) 10031 0 0 0 0 0 tape (fun _ => 0) (fun _ => 0) (fun _ => 0) (fun _ => 0) = (sp_X2_isText (nI 49) 10031 0 0 0 0 tp0 (fun _ => 0) (fun _ => 0)).bind fun r1 =>
      if r1.1 = 0 then
        some ((sp_X2_empty (nI 49)), r1.2.1, r1.2.2.1, r1.2.2.2.1, r1.2.2.2.2.1, r1.2.2.2.2.2.1, 0, tp0, r1.2.2.2.2.2.2.1, r1.2.2.2.2.2.2.2, (fun _ => 0), (fun _ => 0))
      else
        (sp_X4_add_p9 0 r1.2.2.2.2.2.2.1 r1.2.2.2.2.2.2.2 (fun _ => 0) (fun _ => 0)).bind fun r2 =>
        some ((sp_X2_empty (nI 49)), r1.2.1, r1.2.2.1, r1.2.2.2.1, r1.2.2.2.2.1, r1.2.2.2.2.2.1, r2.2.1, tp0, r1.2.2.2.2.2.2.1, r1.2.2.2.2.2.2.2, r2.2.2.1, r2.2.2.2) := by
  have hl : sp_J0_length_8abf5_p1012 = nI 49 := by decide +kernel
  intro d
  induction d with
  | zero =>
    intro u fuel tape hu hf h
    obtain ⟨m, rfl⟩ : ∃ m, fuel = m + 1 := ⟨fuel - 1, by omega⟩
    have : u = 49 := by omega
    subst this
    have et : tape = tp0 := by
      funext i
      rw [h i]
      by_cases c : i < 49
      · rw [if_pos c]
      · rw [if_neg c]; unfold tp0; rw [if_neg c]
    subst et
    rw [sp_X5_init_tail_92, hl, if_pos (nI_le (Nat.le_refl _) (by decide))]
  | succ d ih =>
    intro u fuel tape hu hf h
    obtain ⟨m, rfl⟩ : ∃ m, fuel = m + 1 := ⟨fuel - 1, by omega⟩
    rw [sp_X5_init_tail_92, hl, if_neg (nI_ge (by omega) (by decide)), ch0 ⟨u, by omega⟩, ob_s]
    unfold sp_X2_put
    rw [if_pos (show nI u < (160 : Int32) from nI_lt (b := 160) (by omega) (by decide)), xo_set_nI (by omega) (by decide), ob_s, ob_s, nI_1]
    refine ih (u + 1) m _ (by omega) (by omega) (fun i => ?_)
    by_cases e : i = u
    · subst e
      rw [if_pos (by omega)]; exact pk_us
    · have := h i
      by_cases c : i < u
      · rw [if_pos c] at this
        rw [if_pos (by omega)]; exact (pk_un e).trans this
      · rw [if_neg c] at this
        rw [if_neg (by omega)]; exact (pk_un e).trans this
theorem good0 : (sp_X2_isText (nI 49) 10031 0 0 0 0 tp0 (fun _ => 0) (fun _ => 0)).map (fun o => o.1) = some 1 := by decide +kernel
theorem in6_is : (sp_X6_init_tail 0 (fun _ => 0) (fun _ => 0) (fun _ => 0) (fun _ => 0)).isSome = true := by decide +kernel
theorem in6_tx : ∀ i : Fin 56, ((sp_X6_init_tail 0 (fun _ => 0) (fun _ => 0) (fun _ => 0) (fun _ => 0)).get in6_is).2.1 i = if i.val < 49 then tp0 i else 32 := by decide +kernel
theorem in6_ts : ((sp_X6_init_tail 0 (fun _ => 0) (fun _ => 0) (fun _ => 0) (fun _ => 0)).get in6_is).2.2.1 0 = nI 56 := by decide +kernel
theorem in6_1 : ((sp_X6_init_tail 0 (fun _ => 0) (fun _ => 0) (fun _ => 0) (fun _ => 0)).get in6_is).1 = nI 1 := by decide +kernel
theorem in6_p : ((sp_X6_init_tail 0 (fun _ => 0) (fun _ => 0) (fun _ => 0) (fun _ => 0)).get in6_is).2.2.2.1 0 = -1 := by decide +kernel
theorem in6_o : ((sp_X6_init_tail 0 (fun _ => 0) (fun _ => 0) (fun _ => 0) (fun _ => 0)).get in6_is).2.2.2.2 0 = nI 50 := by decide +kernel
theorem q_init : op_init RRv := by
  have E0 := in_loop 49 0 5000 (fun _ => 0) (by omega) (by omega) (fun i => by rw [if_neg (by omega)])
  rw [nI_0] at E0
  cases hc : sp_X2_isText (nI 49) 10031 0 0 0 0 tp0 (fun _ => 0) (fun _ => 0) with
  | none => have := good0; rw [hc] at this; cases this
  | some c =>
    obtain ⟨c1, c2, c3, c4, c5, c6, st3, en3⟩ := c
    have g1 : c1 = 1 := by
      have := good0
      rw [hc] at this
      exact Option.some.inj this
    subst g1
    have ad := add_go (t := 0) (by omega) st3 en3 (fun _ => 0) (fun _ => 0)
    rw [nI_0] at ad
    rw [hc, ob_s, if_neg one0, ad, ob_s] at E0
    refine ⟨_, (sp_X6_init_tail 0 (fun _ => 0) (fun _ => 0) (fun _ => 0) (fun _ => 0)).get in6_is, E0, (Option.some_get in6_is).symm, fun f18 h18 => ?_⟩
    refine ⟨1, 1, ⟨rfl, rfl, ⟨by omega, by omega, fun i i1 i2 => by omega, fun i hi => ⟨0, by omega, rfl⟩, fun i hi => ⟨0, by omega, rfl⟩, fun i hi => ?_⟩, ⟨rfl, fun i p i1 i2 => by omega⟩, fun i i1 i2 => by omega, in6_p, fun i hi => ?_, rfl, rfl, rfl, rfl, ⟨0, by omega, rfl⟩, tb_0 0, fun i _ => tb_0 i⟩, ⟨0, by omega, rfl, rfl, fun i hi => absurd hi (by omega)⟩, ⟨by omega, by omega, rfl, in6_1, ⟨0, by omega, rfl, rfl⟩, ?_⟩, Or.inl ⟨rfl, rfl⟩, fun q hq => Or.inl ⟨h18 q hq, rfl⟩⟩
    · have : i = 0 := by omega
      subst this
      exact ⟨50, by omega, rfl⟩
    · have : i = 0 := by omega
      subst this
      exact ⟨rfl, rfl, in6_o⟩
    · intro q hq
      have : q = 0 := by omega
      subst this
      intro st' en' tx2 ts2 b1 b2 b3 w hw ff
      have X2 : TX tp0 tx2 0 49 56 := by
        refine ⟨by omega, by omega, by omega, fun i hi => ⟨?_, (tp0 i).toNatClampNeg, (tp0_c ⟨i, hi⟩).2, (tp0_c ⟨i, hi⟩).1⟩, fun i i1 i2 => ?_⟩
        · rw [(b1 (160 * 0 + i) (by omega) (by omega)).2]
          have := in6_tx ⟨i, by omega⟩
          rw [if_pos hi] at this
          rw [Nat.mul_zero, Nat.zero_add]
          exact this
        · rw [(b1 (160 * 0 + i) (by omega) (by omega)).2]
          have := in6_tx ⟨i, i2⟩
          rw [if_neg (by show ¬ i < 49; omega)] at this
          rw [Nat.mul_zero, Nat.zero_add]
          exact this
      refine tx_new X2 hc (fun j hj => ?_) (fun i hi => ?_) (by rw [b3]; exact in6_ts) hw ff
      · rw [(b1 (160 * 0 + j) (by omega) (by omega)).1]
        show va_cpy st3 (fun _ => 0) 0 (160 * 0) 160 (160 * 0 + j) = _
        unfold va_cpy
        rw [if_pos ⟨by omega, by omega⟩, Nat.zero_add, Nat.add_sub_cancel_left]
      · rw [b2 (3 * 0 + i) (by omega) (by omega), nI_0]
        have i3 : i = 0 ∨ i = 1 ∨ i = 2 := by omega
        rcases i3 with rfl | rfl | rfl
        · rfl
        · rfl
        · rfl
