/-! a part by itself, and a text as three parts: the loop of the three, laid open -/
def rd_part (p1 : Int32) (p2 : Int32) (r_size : Int32) (r_token : Int32) (r_place : Int32) (r_at : Int32) (r_open : Int32) (r_made : Int32) (r_tape : Nat → Int32) (r_steps : Nat → Int32) (r_ends : Nat → Int32) : Option (Int32 × Int32 × Int32 × Int32 × Int32 × Int32 × (Nat → Int32) × (Nat → Int32)) :=
  (sp_X2_takes p1 r_size r_token r_place r_at r_tape).bind fun r1 =>
  if r1.1 = 0 then
    some (0, r1.2.1, r1.2.2.1, r1.2.2.2, r_open, r_made, r_steps, r_ends)
  else
    (sp_gX2 80 0 r_size r1.2.1 r1.2.2.1 r1.2.2.2 r_open r_made r_tape r_steps).bind fun r2 =>
    if r2.1 = 0 then
      some (0, r2.2.1, r2.2.2.1, r2.2.2.2.1, r2.2.2.2.2.1, r2.2.2.2.2.2.1, r2.2.2.2.2.2.2, r_ends)
    else
      (sp_X2_takes 10022 r_size r2.2.1 r2.2.2.1 r2.2.2.2.1 r_tape).bind fun r3 =>
      if r3.1 = 0 then
        some (0, r3.2.1, r3.2.2.1, r3.2.2.2, r2.2.2.2.2.1, r2.2.2.2.2.2.1, r2.2.2.2.2.2.2, r_ends)
      else
        (xo_set r_ends 3 p2 r2.2.2.2.2.2.1).bind fun f4 =>
        some (1, r3.2.1, r3.2.2.1, r3.2.2.2, r2.2.2.2.2.1, r2.2.2.2.2.2.1, r2.2.2.2.2.2.2, f4)
def rd_text (r_size : Int32) (r_token : Int32) (r_place : Int32) (r_tape : Nat → Int32) (r_steps : Nat → Int32) (r_ends : Nat → Int32) : Option (Int32 × Int32 × Int32 × Int32 × Int32 × Int32 × (Nat → Int32) × (Nat → Int32)) :=
  (sp_X2_next r_size r_token r_place 0 r_tape).bind fun r1 =>
  (rd_part 10010 0 r_size r1.1 r1.2.1 r1.2.2 0 0 r_tape r_steps r_ends).bind fun r2 =>
  if r2.1 = 0 then
    some (0, r2.2.1, r2.2.2.1, r2.2.2.2.1, r2.2.2.2.2.1, r2.2.2.2.2.2.1, r2.2.2.2.2.2.2.1, r2.2.2.2.2.2.2.2)
  else
    (rd_part 10011 1 r_size r2.2.1 r2.2.2.1 r2.2.2.2.1 r2.2.2.2.2.1 r2.2.2.2.2.2.1 r_tape r2.2.2.2.2.2.2.1 r2.2.2.2.2.2.2.2).bind fun r3 =>
    if r3.1 = 0 then
      some (0, r3.2.1, r3.2.2.1, r3.2.2.2.1, r3.2.2.2.2.1, r3.2.2.2.2.2.1, r3.2.2.2.2.2.2.1, r3.2.2.2.2.2.2.2)
    else
      (rd_part 10012 2 r_size r3.2.1 r3.2.2.1 r3.2.2.2.1 r3.2.2.2.2.1 r3.2.2.2.2.2.1 r_tape r3.2.2.2.2.2.2.1 r3.2.2.2.2.2.2.2).bind fun r4 =>
      if r4.1 = 0 then
        some (0, r4.2.1, r4.2.2.1, r4.2.2.2.1, r4.2.2.2.2.1, r4.2.2.2.2.2.1, r4.2.2.2.2.2.2.1, r4.2.2.2.2.2.2.2)
      else
        if r4.2.1 = 10031 then
          some (1, r4.2.1, r4.2.2.1, r4.2.2.2.1, r4.2.2.2.2.1, r4.2.2.2.2.2.1, r4.2.2.2.2.2.2.1, r4.2.2.2.2.2.2.2)
        else
          some (0, r4.2.1, r4.2.2.1, r4.2.2.2.1, r4.2.2.2.2.1, r4.2.2.2.2.2.1, r4.2.2.2.2.2.2.1, r4.2.2.2.2.2.2.2)
theorem rd_step (rs : Int32) (tp : Nat → Int32) (n : Nat) {u : Int32} (hu : ¬ 3 ≤ u) (t p a o m : Int32) (st en : Nat → Int32) : sp_X2_isText_21 rs tp (n + 1) u t p a o m st en = (rd_part (10010 + u) u rs t p a o m tp st en).bind fun r => if r.1 = 0 then some (0, r.2.1, r.2.2.1, r.2.2.2.1, r.2.2.2.2.1, r.2.2.2.2.2.1, r.2.2.2.2.2.2.1, r.2.2.2.2.2.2.2) else sp_X2_isText_21 rs tp n (u + 1) r.2.1 r.2.2.1 r.2.2.2.1 r.2.2.2.2.1 r.2.2.2.2.2.1 r.2.2.2.2.2.2.1 r.2.2.2.2.2.2.2 := by
  rw [sp_X2_isText_21, if_neg hu]
  unfold rd_part
  cases sp_X2_takes (10010 + u) rs t p a tp with
  | none => rfl
  | some r1 =>
    rw [ob_s, ob_s]
    by_cases z1 : r1.1 = 0
    · rw [if_pos z1, if_pos z1, ob_s, if_pos rfl]
    rw [if_neg z1, if_neg z1]
    cases sp_gX2 80 0 rs r1.2.1 r1.2.2.1 r1.2.2.2 o m tp st with
    | none => rfl
    | some r2 =>
      rw [ob_s, ob_s]
      by_cases z2 : r2.1 = 0
      · rw [if_pos z2, if_pos z2, ob_s, if_pos rfl]
      rw [if_neg z2, if_neg z2]
      cases sp_X2_takes 10022 rs r2.2.1 r2.2.2.1 r2.2.2.2.1 tp with
      | none => rfl
      | some r3 =>
        rw [ob_s, ob_s]
        by_cases z3 : r3.1 = 0
        · rw [if_pos z3, if_pos z3, ob_s, if_pos rfl]
        rw [if_neg z3, if_neg z3]
        cases xo_set en 3 u r2.2.2.2.2.2.1 with
        | none => rfl
        | some f4 => rw [ob_s, ob_s, ob_s, if_neg one0]
theorem rd_eq (r_size r_token r_place r_at r_open r_made : Int32) (r_tape r_steps r_ends : Nat → Int32) : sp_X2_isText r_size r_token r_place r_at r_open r_made r_tape r_steps r_ends = rd_text r_size r_token r_place r_tape r_steps r_ends := by
  unfold sp_X2_isText rd_text
  cases sp_X2_next r_size r_token r_place 0 r_tape with
  | none => rfl
  | some r1 =>
    rw [ob_s, ob_s, show (5000 : Nat) = 4996 + 1 + 1 + 1 + 1 from rfl, rd_step (u := 0) _ _ _ (by decide), show (10010 : Int32) + 0 = 10010 from rfl, show (0 : Int32) + 1 = 1 from rfl]
    cases rd_part 10010 0 r_size r1.1 r1.2.1 r1.2.2 0 0 r_tape r_steps r_ends with
    | none => rfl
    | some r2 =>
      rw [ob_s, ob_s]
      by_cases z2 : r2.1 = 0
      · rw [if_pos z2, if_pos z2]
      rw [if_neg z2, if_neg z2, rd_step (u := 1) _ _ _ (by decide), show (10010 : Int32) + 1 = 10011 from rfl, show (1 : Int32) + 1 = 2 from rfl]
      cases rd_part 10011 1 r_size r2.2.1 r2.2.2.1 r2.2.2.2.1 r2.2.2.2.2.1 r2.2.2.2.2.2.1 r_tape r2.2.2.2.2.2.2.1 r2.2.2.2.2.2.2.2 with
      | none => rfl
      | some r3 =>
        rw [ob_s, ob_s]
        by_cases z3 : r3.1 = 0
        · rw [if_pos z3, if_pos z3]
        rw [if_neg z3, if_neg z3, rd_step (u := 2) _ _ _ (by decide), show (10010 : Int32) + 2 = 10012 from rfl, show (2 : Int32) + 1 = 3 from rfl]
        cases rd_part 10012 2 r_size r3.2.1 r3.2.2.1 r3.2.2.2.1 r3.2.2.2.2.1 r3.2.2.2.2.2.1 r_tape r3.2.2.2.2.2.2.1 r3.2.2.2.2.2.2.2 with
        | none => rfl
        | some r4 =>
          rw [ob_s, ob_s]
          by_cases z4 : r4.1 = 0
          · rw [if_pos z4, if_pos z4]
          rw [if_neg z4, if_neg z4, sp_X2_isText_21, if_pos (by decide)]
/-! a text, read by both -/
theorem pt_both {tp tx : Nat → Int32} {q r R : Nat} (X : TX tp tx q r R) {kc i : Nat} (hkc : kc ≤ 10015) (hi : i < 3) : ∀ (tv p : Nat) (ax : Int32) (mk : Nat) (st en : Nat → Int32), CT r tv p ax → mk ≤ p → (∃ (tv' p' : Nat) (ax' : Int32) (mk' : Nat) (st' : Nat → Int32), rd_part (nI kc) (nI i) (nI r) (nI tv) (nI p) ax (nI 0) (nI mk) tp st en = some (1, nI tv', nI p', ax', nI 0, nI mk', st', upd en i (nI mk')) ∧ CT r tv' p' ax' ∧ p < p' ∧ mk < mk' ∧ mk' + p ≤ mk + p' ∧ (∀ j, j < mk → st' j = st j) ∧ ∀ f : Nat → Int32, ∃ v, EM f st' mk mk' v ∧ ∀ h t ta w ft, TK tx q R tv p ax h t ta w → ∃ h' t' ta' w' ft', sp_X6_part (bI (decide (tv = kc))) (f 0) (f 1) (f 2) (f 3) (f 4) (f 5) (nI (160 * q)) (nI R) h t ta (nI 0) 0 ft w tx = some (v, h', t', ta', nI 0, 0, ft', w') ∧ TK tx q R tv' p' ax' h' t' ta' w') ∨ (∃ (c2 : Int32) (p' : Nat) (c4 c5 c6 : Int32) (c7 c8 : Nat → Int32), rd_part (nI kc) (nI i) (nI r) (nI tv) (nI p) ax (nI 0) (nI mk) tp st en = some (0, c2, nI p', c4, c5, c6, c7, c8) ∧ p' ≤ r ∧ ∀ (f : Nat → Int32) h t ta w ft, TK tx q R tv p ax h t ta w → ∃ v h' t' ta' op' ft' w', sp_X6_part (bI (decide (tv = kc))) (f 0) (f 1) (f 2) (f 3) (f 4) (f 5) (nI (160 * q)) (nI R) h t ta (nI 0) 0 ft w tx = some (v, h', t', ta', op', 1, ft', w') ∧ (ft' = nI p' ∨ (p' = r ∧ ft' = nI R))) := by
  have h1 := X.1
  have h2 := X.2.1
  intro tv p ax mk st en C hm
  have tl := ct_le C
  have SE : SIM tp tx q r R 0 80 0 80 0 := si_all X 5 (by omega) 80 80 (by omega) (by omega)
  by_cases s0 : tv = kc
  · subst s0
    obtain ⟨e, e1, e2, rfl⟩ := ct_e C (by omega)
    obtain ⟨tv1, p1, ax1, x2, C1, hp1, x6⟩ := lex X e2
    have tk0 : sp_X2_takes (nI tv) (nI r) (nI tv) (nI p) (nI e) tp = some (1, nI tv1, nI p1, ax1) := by
      unfold sp_X2_takes
      rw [if_pos rfl, x2, ob_s]
    have rf : ∀ (f : Nat → Int32) h t ta w ft, TK tx q R tv p (nI e) h t ta w → ∃ h1 t1 ta1 w1, TK tx q R tv1 p1 ax1 h1 t1 ta1 w1 ∧ sp_X6_part (bI (decide (tv = tv))) (f 0) (f 1) (f 2) (f 3) (f 4) (f 5) (nI (160 * q)) (nI R) h t ta (nI 0) 0 ft w tx = (sp_gX6 80 0 (f 0) (f 1) (f 2) (f 3) (f 4) (f 5) (nI (160 * q)) (nI R) h1 t1 ta1 (nI 0) 0 ft w1 tx).bind fun r7 =>
        if (sp_X6_isSign 59 r7.2.2.1 r7.2.2.2.2.2.1 r7.2.2.2.2.2.2.2) = 0 then
          if (sp_X6_fail r7.2.2.2.1 r7.2.2.2.2.2.1 r7.2.2.2.2.2.2.1).1 = 0 then
            (sp_X6_next (nI (160 * q)) (nI R) r7.2.1 r7.2.2.1 r7.2.2.2.1 r7.2.2.2.2.2.2.2 tx).bind fun r9 =>
            some (r7.1, r9.1, r9.2.1, r9.2.2.1, r7.2.2.2.2.1, (sp_X6_fail r7.2.2.2.1 r7.2.2.2.2.2.1 r7.2.2.2.2.2.2.1).1, (sp_X6_fail r7.2.2.2.1 r7.2.2.2.2.2.1 r7.2.2.2.2.2.2.1).2, r9.2.2.2)
          else
            some (r7.1, r7.2.1, r7.2.2.1, r7.2.2.2.1, r7.2.2.2.2.1, (sp_X6_fail r7.2.2.2.1 r7.2.2.2.2.2.1 r7.2.2.2.2.2.2.1).1, (sp_X6_fail r7.2.2.2.1 r7.2.2.2.2.2.1 r7.2.2.2.2.2.2.1).2, r7.2.2.2.2.2.2.2)
        else
          if r7.2.2.2.2.2.1 = 0 then
            (sp_X6_next (nI (160 * q)) (nI R) r7.2.1 r7.2.2.1 r7.2.2.2.1 r7.2.2.2.2.2.2.2 tx).bind fun r8 =>
            some (r7.1, r8.1, r8.2.1, r8.2.2.1, r7.2.2.2.2.1, r7.2.2.2.2.2.1, r7.2.2.2.2.2.2.1, r8.2.2.2)
          else
            some (r7.1, r7.2.1, r7.2.2.1, r7.2.2.2.1, r7.2.2.2.2.1, r7.2.2.2.2.2.1, r7.2.2.2.2.2.2.1, r7.2.2.2.2.2.2.2) := by
      intro f h t ta w ft H
      obtain ⟨h1, t1, ta1, w1, y1, y2⟩ := x6 t ta w
      refine ⟨h1, t1, ta1, w1, y2, ?_⟩
      have hh : h = nI e := tk_h H (by omega)
      unfold sp_X6_part
      rw [decide_eq_true rfl, if_neg bt0, if_pos rfl, hh, y1, ob_s, if_pos rfl]
    rcases SE tv1 p1 ax1 mk st C1 (by omega) with ⟨tv2, p2, ax2, mk2, st2, a1, a2, a3, a4, a5, a6, a7⟩ | ⟨c2, p2, c4, c5, c6, c7, a1, a2, a3⟩
    · have tl2 := ct_le a2
      by_cases s3 : tv2 = 10022
      · subst s3
        left
        obtain ⟨e', e1', e2', rfl⟩ := ct_e a2 (by omega)
        obtain ⟨tv3, p3, ax3, z2, C3, hp3, z6⟩ := lex X e2'
        refine ⟨tv3, p3, ax3, mk2, st2, ?_, C3, by omega, by omega, by omega, a6, fun f => ?_⟩
        · unfold rd_part
          rw [tk0, ob_s, if_neg one0, a1, ob_s, if_neg one0]
          unfold sp_X2_takes
          rw [if_pos (show nI 10022 = (10022 : Int32) from rfl), z2, ob_s, ob_s, if_neg one0, xo_set_nI hi (by decide), ob_s]
        · obtain ⟨v1, E1, s1'⟩ := a7 f
          refine ⟨v1, E1, fun h t ta w ft H => ?_⟩
          obtain ⟨h1', t1', ta1', w1', H1, rr⟩ := rf f h t ta w ft H
          obtain ⟨h2', t2', ta2', w2', ft2', g2, H2⟩ := s1' _ _ _ _ ft H1
          obtain ⟨h3', t3', ta3', w3', y1, y2⟩ := z6 t2' ta2' w2'
          refine ⟨h3', t3', ta3', w3', ft2', ?_, y2⟩
          have hh : h2' = nI e' := tk_h H2 (by omega)
          rw [rr, g2, ob_s]
          dsimp only
          rw [show sp_X6_isSign 59 t2' 0 w2' = bI (decide (10022 = 10022)) from tk_s H2 (x := (59, 10022)) (by decide), decide_eq_true rfl, if_neg bt0, if_pos rfl, hh, y1, ob_s]
      · right
        refine ⟨nI tv2, p2, ax2, nI 0, nI mk2, st2, en, ?_, a2.1, fun f h t ta w ft H => ?_⟩
        · unfold rd_part
          rw [tk0, ob_s, if_neg one0, a1, ob_s, if_neg one0]
          unfold sp_X2_takes
          rw [if_neg (show ¬ nI tv2 = (10022 : Int32) from tne (c := 10022) s3 (by omega) (by decide)), ob_s, if_pos rfl]
        · obtain ⟨v1, E1, s1'⟩ := a7 f
          obtain ⟨h1', t1', ta1', w1', H1, rr⟩ := rf f h t ta w ft H
          obtain ⟨h2', t2', ta2', w2', ft2', g2, H2⟩ := s1' _ _ _ _ ft H1
          rw [rr, g2, ob_s]
          dsimp only
          rw [show sp_X6_isSign 59 t2' 0 w2' = bI (decide (tv2 = 10022)) from tk_s H2 (x := (59, 10022)) (by decide), decide_eq_false s3, if_pos bf0, fl_0, if_neg one0]
          exact ⟨_, _, _, _, _, _, _, rfl, tk_ta H2 a2⟩
    · right
      refine ⟨c2, p2, c4, c5, c6, c7, en, ?_, a2, fun f h t ta w ft H => ?_⟩
      · unfold rd_part
        rw [tk0, ob_s, if_neg one0, a1, ob_s, if_pos rfl]
      · obtain ⟨h1', t1', ta1', w1', H1, rr⟩ := rf f h t ta w ft H
        obtain ⟨v1, h2', t2', ta2', op2', ft2', w2', g2, g3⟩ := a3 f _ _ _ _ ft H1
        rw [rr, g2, ob_s]
        dsimp only
        rw [is_bad, if_pos rfl, fl_1, if_neg one0]
        exact ⟨_, _, _, _, _, _, _, rfl, g3⟩
  · right
    refine ⟨nI tv, p, ax, nI 0, nI mk, st, en, ?_, C.1, fun f h t ta w ft H => ?_⟩
    · unfold rd_part sp_X2_takes
      rw [if_neg (tne s0 (by omega) (by omega)), ob_s, if_pos rfl]
    · unfold sp_X6_part
      rw [decide_eq_false s0, if_pos bf0, fl_0, if_neg one0, if_neg one0, is_bad, if_pos rfl, fl_1, if_neg one0]
      exact ⟨_, _, _, _, _, _, _, rfl, tk_ta H C⟩
theorem rd_both {tp tx : Nat → Int32} {q r R : Nat} (X : TX tp tx q r R) (st en : Nat → Int32) : (∃ (m1 m2 m3 : Nat) (st3 : Nat → Int32), 0 < m1 ∧ m1 < m2 ∧ m2 < m3 ∧ m3 ≤ 160 ∧ (∀ t0 p0 a0 o0 mm, ∃ c2 c3 c4 c5, sp_X2_isText (nI r) t0 p0 a0 o0 mm tp st en = some (1, c2, c3, c4, c5, nI m3, st3, upd (upd (upd en 0 (nI m1)) 1 (nI m2)) 2 (nI m3))) ∧ ∀ f : Nat → Int32, ∃ v1 v2 v3, EM f st3 0 m1 v1 ∧ EM f st3 m1 m2 v2 ∧ EM f st3 m2 m3 v3 ∧ ∀ (a1 a2 a3 a4 a5 a6 a7 a8 : Int32) (tw : Int64) (ts : Nat → Int32) (wh : Nat), ts q = nI R → ∃ o, sp_X6_read (nI q) (nI wh) (f 0) (f 1) (f 2) (f 3) (f 4) (f 5) a1 a2 a3 a4 a5 a6 a7 a8 tw tx ts = some o ∧ o.1 = (if nI wh = 0 then v1 else if nI wh = 1 then v2 else v3) ∧ o.2.2.2.2.2.2.2.1 = 0) ∨ (∃ p', p' ≤ r ∧ (∀ t0 p0 a0 o0 mm, ∃ c2 c4 c5 c6 c7 c8, sp_X2_isText (nI r) t0 p0 a0 o0 mm tp st en = some (0, c2, nI p', c4, c5, c6, c7, c8)) ∧ ∀ (f : Nat → Int32) (a1 a2 a3 a4 a5 a6 a7 a8 : Int32) (tw : Int64) (ts : Nat → Int32) (wh : Nat), ts q = nI R → ∃ o, sp_X6_read (nI q) (nI wh) (f 0) (f 1) (f 2) (f 3) (f 4) (f 5) a1 a2 a3 a4 a5 a6 a7 a8 tw tx ts = some o ∧ o.2.2.2.2.2.2.2.1 = 1 ∧ (o.2.2.2.2.2.2.2.2.1 = nI p' ∨ (p' = r ∧ o.2.2.2.2.2.2.2.2.1 = nI R))) := by
  have h1 := X.1
  have h2 := X.2.1
  have hq := X.2.2.1
  have e160 : (160 : Int32) * nI q = nI (160 * q) := pk_mul 160 q
  obtain ⟨tv0, p0, ax0, x2, C0, hp0, x6⟩ := lex X (Nat.zero_le r)
  rw [nI_0] at x2 x6
  have rs : ∀ (f : Nat → Int32) (a1 a2 a3 a4 a5 a6 a7 a8 : Int32) (tw : Int64) (ts : Nat → Int32) (wh : Nat), ts q = nI R → ∃ h t ta w, TK tx q R tv0 p0 ax0 h t ta w ∧ xo_at ts 6 (nI q) = some (nI R) ∧ sp_X6_next (nI (160 * q)) (nI R) 0 a4 a5 tw tx = some (h, t, ta, w) := by
    intro f a1 a2 a3 a4 a5 a6 a7 a8 tw ts wh hts
    obtain ⟨h, t, ta, w, y1, y2⟩ := x6 a4 a5 tw
    exact ⟨h, t, ta, w, y2, by rw [xo_at_nI hq (by decide), hts], y1⟩
  rcases pt_both X (kc := 10010) (i := 0) (by omega) (by omega) tv0 p0 ax0 0 st en C0 (by omega) with ⟨tv1, p1, ax1, m1, st1, a1, a2, a3, a4, a5, a6, a7⟩ | ⟨c2, p1, c4, c5, c6, c7, c8, a1, a2, a3⟩
  · rcases pt_both X (kc := 10011) (i := 1) (by omega) (by omega) tv1 p1 ax1 m1 st1 (upd en 0 (nI m1)) a2 (by omega) with ⟨tv2, p2, ax2, m2, st2, b1, b2, b3, b4, b5, b6, b7⟩ | ⟨d2, p2, d4, d5, d6, d7, d8, b1, b2, b3⟩
    · rcases pt_both X (kc := 10012) (i := 2) (by omega) (by omega) tv2 p2 ax2 m2 st2 (upd (upd en 0 (nI m1)) 1 (nI m2)) b2 (by omega) with ⟨tv3, p3, ax3, m3, st3, k1, k2, k3, k4, k5, k6, k7⟩ | ⟨f2, p3, f4, f5, f6, f7, f8, k1, k2, k3⟩
      · have tl3 := ct_le k2
        have hp3 := k2.1
        rw [nI_0] at a1 b1 k1
        have kc0 : nI 10010 = (10010 : Int32) := rfl
        have kc1 : nI 10011 = (10011 : Int32) := rfl
        have kc2 : nI 10012 = (10012 : Int32) := rfl
        have i1 : nI 1 = (1 : Int32) := rfl
        have i2 : nI 2 = (2 : Int32) := rfl
        rw [kc0] at a1
        rw [kc1, i1] at b1
        rw [kc2, i2] at k1
        by_cases s : tv3 = 10031
        · subst s
          left
          refine ⟨m1, m2, m3, st3, by omega, b4, k4, by omega, fun t0 q0 a0 o0 mm => ⟨nI 10031, nI p3, ax3, 0, ?_⟩, fun f => ?_⟩
          · rw [rd_eq]; unfold rd_text
            rw [x2, ob_s, a1, ob_s, if_neg one0, b1, ob_s, if_neg one0, k1, ob_s, if_neg one0, if_pos (show nI 10031 = (10031 : Int32) from rfl)]
          · obtain ⟨v1, E1, s1⟩ := a7 f
            obtain ⟨v2, E2, s2⟩ := b7 f
            obtain ⟨v3, E3, s3⟩ := k7 f
            refine ⟨v1, v2, v3, em_congr E1 (fun j _ j2 => by rw [k6 j (by omega), b6 j j2]), em_congr E2 (fun j _ j2 => k6 j j2), E3, fun a1 a2 a3 a4 a5 a6 a7 a8 tw ts wh hts => ?_⟩
            obtain ⟨h, t, ta, w, H0, y1, y2⟩ := rs f a1 a2 a3 a4 a5 a6 a7 a8 tw ts wh hts
            obtain ⟨h1', t1', ta1', w1', ft1', g1, H1⟩ := s1 h t ta w a8 H0
            obtain ⟨h2', t2', ta2', w2', ft2', g2, H2⟩ := s2 _ _ _ _ ft1' H1
            obtain ⟨h3', t3', ta3', w3', ft3', g3, H3⟩ := s3 _ _ _ _ ft2' H2
            rw [nI_0] at g1 g2 g3
            unfold sp_X6_read
            rw [y1, ob_s, e160, y2, ob_s]
            dsimp only
            rw [show sp_X6_isWord 99 111 115 116 115 0 0 0 (nI (160 * q)) (nI R) h t ta 0 tx = some (bI (decide (tv0 = 10010))) from tk_w H0 (x := ([99, 111, 115, 116, 115], 10010)) (by decide), ob_s, g1, ob_s]
            dsimp only
            rw [if_pos rfl, show sp_X6_isWord 102 97 108 108 115 0 0 0 (nI (160 * q)) (nI R) h1' t1' ta1' 0 tx = some (bI (decide (tv1 = 10011))) from tk_w H1 (x := ([102, 97, 108, 108, 115], 10011)) (by decide), ob_s, g2, ob_s]
            dsimp only
            rw [if_pos rfl, show sp_X6_isWord 119 111 114 116 104 0 0 0 (nI (160 * q)) (nI R) h2' t2' ta2' 0 tx = some (bI (decide (tv2 = 10012))) from tk_w H2 (x := ([119, 111, 114, 116, 104], 10012)) (by decide), ob_s, g3, ob_s]
            dsimp only
            rw [if_pos rfl, if_pos ((tk_0 H3).mpr rfl)]
            by_cases w0 : nI wh = 0
            · rw [if_pos w0, if_pos w0]; exact ⟨_, rfl, rfl, rfl⟩
            · rw [if_neg w0, if_neg w0]
              by_cases w1 : nI wh = 1
              · rw [if_pos w1, if_pos w1]; exact ⟨_, rfl, rfl, rfl⟩
              · rw [if_neg w1, if_neg w1]; exact ⟨_, rfl, rfl, rfl⟩
        · right
          refine ⟨p3, hp3, fun t0 q0 a0 o0 mm => ⟨nI tv3, ax3, 0, nI m3, st3, upd (upd (upd en 0 (nI m1)) 1 (nI m2)) 2 (nI m3), ?_⟩, fun f a1 a2 a3 a4 a5 a6 a7' a8 tw ts wh hts => ?_⟩
          · rw [rd_eq]; unfold rd_text
            rw [x2, ob_s, a1, ob_s, if_neg one0, b1, ob_s, if_neg one0, k1, ob_s, if_neg one0, if_neg (show ¬ nI tv3 = (10031 : Int32) from tne (c := 10031) s (by omega) (by decide))]
          · obtain ⟨v1, E1, s1⟩ := a7 f
            obtain ⟨v2, E2, s2⟩ := b7 f
            obtain ⟨v3, E3, s3⟩ := k7 f
            obtain ⟨h, t, ta, w, H0, y1, y2⟩ := rs f a1 a2 a3 a4 a5 a6 a7' a8 tw ts wh hts
            obtain ⟨h1', t1', ta1', w1', ft1', g1, H1⟩ := s1 h t ta w a8 H0
            obtain ⟨h2', t2', ta2', w2', ft2', g2, H2⟩ := s2 _ _ _ _ ft1' H1
            obtain ⟨h3', t3', ta3', w3', ft3', g3, H3⟩ := s3 _ _ _ _ ft2' H2
            rw [nI_0] at g1 g2 g3
            unfold sp_X6_read
            rw [y1, ob_s, e160, y2, ob_s]
            dsimp only
            rw [show sp_X6_isWord 99 111 115 116 115 0 0 0 (nI (160 * q)) (nI R) h t ta 0 tx = some (bI (decide (tv0 = 10010))) from tk_w H0 (x := ([99, 111, 115, 116, 115], 10010)) (by decide), ob_s, g1, ob_s]
            dsimp only
            rw [if_pos rfl, show sp_X6_isWord 102 97 108 108 115 0 0 0 (nI (160 * q)) (nI R) h1' t1' ta1' 0 tx = some (bI (decide (tv1 = 10011))) from tk_w H1 (x := ([102, 97, 108, 108, 115], 10011)) (by decide), ob_s, g2, ob_s]
            dsimp only
            rw [if_pos rfl, show sp_X6_isWord 119 111 114 116 104 0 0 0 (nI (160 * q)) (nI R) h2' t2' ta2' 0 tx = some (bI (decide (tv2 = 10012))) from tk_w H2 (x := ([119, 111, 114, 116, 104], 10012)) (by decide), ob_s, g3, ob_s]
            dsimp only
            rw [if_pos rfl, if_neg (fun e => s ((tk_0 H3).mp e)), fl_0]
            have gf := tk_ta H3 k2
            by_cases w0 : nI wh = 0
            · rw [if_pos w0]; exact ⟨_, rfl, rfl, gf⟩
            · rw [if_neg w0]
              by_cases w1 : nI wh = 1
              · rw [if_pos w1]; exact ⟨_, rfl, rfl, gf⟩
              · rw [if_neg w1]; exact ⟨_, rfl, rfl, gf⟩
      · rw [nI_0] at a1 b1 k1
        right
        refine ⟨p3, k2, fun t0 q0 a0 o0 mm => ⟨f2, f4, f5, f6, f7, f8, ?_⟩, fun f a1 a2 a3 a4 a5 a6 a7' a8 tw ts wh hts => ?_⟩
        · rw [rd_eq]; unfold rd_text
          have kc0 : nI 10010 = (10010 : Int32) := rfl
          have kc1 : nI 10011 = (10011 : Int32) := rfl
          have kc2 : nI 10012 = (10012 : Int32) := rfl
          have i1 : nI 1 = (1 : Int32) := rfl
          have i2 : nI 2 = (2 : Int32) := rfl
          rw [kc0] at a1
          rw [kc1, i1] at b1
          rw [kc2, i2] at k1
          rw [x2, ob_s, a1, ob_s, if_neg one0, b1, ob_s, if_neg one0, k1, ob_s, if_pos rfl]
        · obtain ⟨v1, E1, s1⟩ := a7 f
          obtain ⟨v2, E2, s2⟩ := b7 f
          obtain ⟨h, t, ta, w, H0, y1, y2⟩ := rs f a1 a2 a3 a4 a5 a6 a7' a8 tw ts wh hts
          obtain ⟨h1', t1', ta1', w1', ft1', g1, H1⟩ := s1 h t ta w a8 H0
          obtain ⟨h2', t2', ta2', w2', ft2', g2, H2⟩ := s2 _ _ _ _ ft1' H1
          obtain ⟨v3, h3', t3', ta3', op3', ft3', w3', g3, gf⟩ := k3 f _ _ _ _ ft2' H2
          rw [nI_0] at g1 g2 g3
          unfold sp_X6_read
          rw [y1, ob_s, e160, y2, ob_s]
          dsimp only
          rw [show sp_X6_isWord 99 111 115 116 115 0 0 0 (nI (160 * q)) (nI R) h t ta 0 tx = some (bI (decide (tv0 = 10010))) from tk_w H0 (x := ([99, 111, 115, 116, 115], 10010)) (by decide), ob_s, g1, ob_s]
          dsimp only
          rw [if_pos rfl, show sp_X6_isWord 102 97 108 108 115 0 0 0 (nI (160 * q)) (nI R) h1' t1' ta1' 0 tx = some (bI (decide (tv1 = 10011))) from tk_w H1 (x := ([102, 97, 108, 108, 115], 10011)) (by decide), ob_s, g2, ob_s]
          dsimp only
          rw [if_pos rfl, show sp_X6_isWord 119 111 114 116 104 0 0 0 (nI (160 * q)) (nI R) h2' t2' ta2' 0 tx = some (bI (decide (tv2 = 10012))) from tk_w H2 (x := ([119, 111, 114, 116, 104], 10012)) (by decide), ob_s, g3, ob_s]
          dsimp only
          rw [if_neg one0]
          by_cases w0 : nI wh = 0
          · rw [if_pos w0]; exact ⟨_, rfl, rfl, gf⟩
          · rw [if_neg w0]
            by_cases w1 : nI wh = 1
            · rw [if_pos w1]; exact ⟨_, rfl, rfl, gf⟩
            · rw [if_neg w1]; exact ⟨_, rfl, rfl, gf⟩
    · rw [nI_0] at a1 b1
      right
      refine ⟨p2, b2, fun t0 q0 a0 o0 mm => ⟨d2, d4, d5, d6, d7, d8, ?_⟩, fun f a1 a2 a3 a4 a5 a6 a7' a8 tw ts wh hts => ?_⟩
      · rw [rd_eq]; unfold rd_text
        have kc0 : nI 10010 = (10010 : Int32) := rfl
        have kc1 : nI 10011 = (10011 : Int32) := rfl
        have i1 : nI 1 = (1 : Int32) := rfl
        rw [kc0] at a1
        rw [kc1, i1] at b1
        rw [x2, ob_s, a1, ob_s, if_neg one0, b1, ob_s, if_pos rfl]
      · obtain ⟨v1, E1, s1⟩ := a7 f
        obtain ⟨h, t, ta, w, H0, y1, y2⟩ := rs f a1 a2 a3 a4 a5 a6 a7' a8 tw ts wh hts
        obtain ⟨h1', t1', ta1', w1', ft1', g1, H1⟩ := s1 h t ta w a8 H0
        obtain ⟨v2, h2', t2', ta2', op2', ft2', w2', g2, gf⟩ := b3 f _ _ _ _ ft1' H1
        rw [nI_0] at g1 g2
        unfold sp_X6_read
        rw [y1, ob_s, e160, y2, ob_s]
        dsimp only
        rw [show sp_X6_isWord 99 111 115 116 115 0 0 0 (nI (160 * q)) (nI R) h t ta 0 tx = some (bI (decide (tv0 = 10010))) from tk_w H0 (x := ([99, 111, 115, 116, 115], 10010)) (by decide), ob_s, g1, ob_s]
        dsimp only
        rw [if_pos rfl, show sp_X6_isWord 102 97 108 108 115 0 0 0 (nI (160 * q)) (nI R) h1' t1' ta1' 0 tx = some (bI (decide (tv1 = 10011))) from tk_w H1 (x := ([102, 97, 108, 108, 115], 10011)) (by decide), ob_s, g2, ob_s]
        dsimp only
        rw [if_neg one0, if_neg one0]
        by_cases w0 : nI wh = 0
        · rw [if_pos w0]; exact ⟨_, rfl, rfl, gf⟩
        · rw [if_neg w0]
          by_cases w1 : nI wh = 1
          · rw [if_pos w1]; exact ⟨_, rfl, rfl, gf⟩
          · rw [if_neg w1]; exact ⟨_, rfl, rfl, gf⟩
  · rw [nI_0] at a1
    right
    refine ⟨p1, a2, fun t0 q0 a0 o0 mm => ⟨c2, c4, c5, c6, c7, c8, ?_⟩, fun f a1 a2 a3' a4 a5 a6 a7' a8 tw ts wh hts => ?_⟩
    · rw [rd_eq]; unfold rd_text
      have kc0 : nI 10010 = (10010 : Int32) := rfl
      rw [kc0] at a1
      rw [x2, ob_s, a1, ob_s, if_pos rfl]
    · obtain ⟨h, t, ta, w, H0, y1, y2⟩ := rs f a1 a2 a3' a4 a5 a6 a7' a8 tw ts wh hts
      obtain ⟨v1, h1', t1', ta1', op1', ft1', w1', g1, gf⟩ := a3 f h t ta w a8 H0
      rw [nI_0] at g1
      unfold sp_X6_read
      rw [y1, ob_s, e160, y2, ob_s]
      dsimp only
      rw [show sp_X6_isWord 99 111 115 116 115 0 0 0 (nI (160 * q)) (nI R) h t ta 0 tx = some (bI (decide (tv0 = 10010))) from tk_w H0 (x := ([99, 111, 115, 116, 115], 10010)) (by decide), ob_s, g1, ob_s]
      dsimp only
      rw [if_neg one0, if_neg one0, if_neg one0]
      by_cases w0 : nI wh = 0
      · rw [if_pos w0]; exact ⟨_, rfl, rfl, gf⟩
      · rw [if_neg w0]
        by_cases w1 : nI wh = 1
        · rw [if_pos w1]; exact ⟨_, rfl, rfl, gf⟩
        · rw [if_neg w1]; exact ⟨_, rfl, rfl, gf⟩
