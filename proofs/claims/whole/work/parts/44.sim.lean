/-! both readers of a text, side by side -/
def SOK (tp tx : Nat → Int32) (q r R k n tc m tm tv p : Nat) (ax : Int32) (mk : Nat) (st : Nat → Int32) : Prop := ∃ (tv' p' : Nat) (ax' : Int32) (mk' : Nat) (st' : Nat → Int32), sp_gX2 n tc (nI r) (nI tv) (nI p) ax (nI k) (nI mk) tp st = some (1, nI tv', nI p', ax', nI k, nI mk', st') ∧ CT r tv' p' ax' ∧ p < p' ∧ mk < mk' ∧ mk' + p ≤ mk + p' ∧ (∀ j, j < mk → st' j = st j) ∧ ∀ f : Nat → Int32, ∃ v, EM f st' mk mk' v ∧ ∀ h t ta w ft, TK tx q R tv p ax h t ta w → ∃ h' t' ta' w' ft', sp_gX6 m tm (f 0) (f 1) (f 2) (f 3) (f 4) (f 5) (nI (160 * q)) (nI R) h t ta (nI k) 0 ft w tx = some (v, h', t', ta', nI k, 0, ft', w') ∧ TK tx q R tv' p' ax' h' t' ta' w'
def SFL (tp tx : Nat → Int32) (q r R k n tc m tm tv p : Nat) (ax : Int32) (mk : Nat) (st : Nat → Int32) : Prop := ∃ (c2 : Int32) (p' : Nat) (c4 c5 c6 : Int32) (c7 : Nat → Int32), sp_gX2 n tc (nI r) (nI tv) (nI p) ax (nI k) (nI mk) tp st = some (0, c2, nI p', c4, c5, c6, c7) ∧ p' ≤ r ∧ ∀ (f : Nat → Int32) h t ta w ft, TK tx q R tv p ax h t ta w → ∃ v h' t' ta' op' ft' w', sp_gX6 m tm (f 0) (f 1) (f 2) (f 3) (f 4) (f 5) (nI (160 * q)) (nI R) h t ta (nI k) 0 ft w tx = some (v, h', t', ta', op', 1, ft', w') ∧ (ft' = nI p' ∨ (p' = r ∧ ft' = nI R))
def SIM (tp tx : Nat → Int32) (q r R k n tc m tm : Nat) : Prop := ∀ (tv p : Nat) (ax : Int32) (mk : Nat) (st : Nat → Int32), CT r tv p ax → mk ≤ p → SOK tp tx q r R k n tc m tm tv p ax mk st ∨ SFL tp tx q r R k n tc m tm tv p ax mk st
theorem one0 : ¬ (1 : Int32) = 0 := by decide
theorem bt0 : ¬ bI true = 0 := by decide
theorem bf0 : bI false = 0 := rfl
theorem sl_i : ∀ x ∈ sl, ∀ y ∈ sl, x.2 = y.2 → x.1 = y.1 := by decide +kernel
theorem tk_sv {tx : Nat → Int32} {q R tv p : Nat} {ax h t ta : Int32} {w : Int64} (H : TK tx q R tv p ax h t ta w) {x : Nat × Nat} (hx : x ∈ sl) (e : tv = x.2) : w = lN x.1 := by
  have hb := sl_c x hx
  rcases H with ⟨a, b, _⟩ | ⟨a, b, _⟩ | ⟨a, b, _⟩ | ⟨⟨c, a, a2⟩, b, _⟩ | ⟨_, a, b, _⟩
  · omega
  · omega
  · omega
  · rw [a2, show c = x.1 from sl_i _ a x hx e]
  · omega
theorem ct_e {r tv p : Nat} {ax : Int32} (C : CT r tv p ax) (h : tv ≤ 10027) : ∃ e, p < e ∧ e ≤ r ∧ ax = nI e := by
  rcases C.2 with ⟨a, _⟩ | a | ⟨_, a⟩
  · omega
  · omega
  · exact a
theorem jn_or (a b : Int32) : sp_X4_joined (nI 10013) a b = if a = 0 then (if b = 0 then 0 else 1) else 1 := rfl
theorem jn_and (a b : Int32) : sp_X4_joined (nI 10014) a b = if a = 0 then 0 else (if b = 0 then 0 else 1) := rfl
theorem jn_add (a b : Int32) : sp_X4_joined (nI 10023) a b = a + b := rfl
theorem jn_sub (a b : Int32) : sp_X4_joined (nI 10024) a b = a - b := rfl
theorem jn_mul (a b : Int32) : sp_X4_joined (nI 10025) a b = a * b := rfl
theorem jn_lt (a b : Int32) : sp_X4_joined (nI 10026) a b = if b ≤ a then 0 else 1 := rfl
theorem jn_eq (a b : Int32) : sp_X4_joined (nI 10027) a b = if a = b then 1 else 0 := rfl
theorem bd_T {tx : Nat → Int32} {q R m : Nat} (f : Nat → Int32) (fm : Nat) (v0 h t ta o ft : Int32) (w : Int64) : sp_X6_term_5 (sp_gX6 m) (f 0) (f 1) (f 2) (f 3) (f 4) (f 5) (nI (160 * q)) (nI R) tx (fm + 1) v0 h t ta o 1 ft w = some (v0, h, t, ta, o, 1, ft, w) := by
  rw [sp_X6_term_5, is_bad, if_pos rfl]
theorem stp_T {tp tx : Nat → Int32} {q r R : Nat} (X : TX tp tx q r R) {k n m : Nat} : ∀ (tv p : Nat) (ax : Int32) (mk mk0 : Nat) (st : Nat → Int32) (u fc fm : Nat), ¬ tv = 10025 → CT r tv p ax → 1 ≤ fc → 1 ≤ fm → (∃ (tv' p' : Nat) (ax' : Int32) (mk' : Nat) (st' : Nat → Int32), sp_X2_readsTerm_11 (sp_gX2 n) (nI r) tp fc (nI u) (nI tv) (nI p) ax (nI k) (nI mk) st = some (1, nI tv', nI p', ax', nI k, nI mk', st') ∧ CT r tv' p' ax' ∧ p ≤ p' ∧ mk ≤ mk' ∧ mk' + p ≤ mk + p' ∧ (∀ j, j < mk → st' j = st j) ∧ ∀ (f : Nat → Int32) v0, EM f st mk0 mk v0 → ∃ v, EM f st' mk0 mk' v ∧ ∀ h t ta w ft, TK tx q R tv p ax h t ta w → ∃ h' t' ta' w' ft', sp_X6_term_5 (sp_gX6 m) (f 0) (f 1) (f 2) (f 3) (f 4) (f 5) (nI (160 * q)) (nI R) tx fm v0 h t ta (nI k) 0 ft w = some (v, h', t', ta', nI k, 0, ft', w') ∧ TK tx q R tv' p' ax' h' t' ta' w') := by
  intro tv p ax mk mk0 st u fc fm n0 C hfc hfm
  have tl := ct_le C
  obtain ⟨c, rfl⟩ : ∃ m, fc = m + 1 := ⟨fc - 1, by omega⟩
  obtain ⟨m', rfl⟩ : ∃ m, fm = m + 1 := ⟨fm - 1, by omega⟩
  refine ⟨tv, p, ax, mk, st, ?_, C, Nat.le_refl _, Nat.le_refl _, Nat.le_refl _, fun j _ => rfl, fun f v0 E => ⟨v0, E, fun h t ta w ft H => ⟨h, t, ta, w, ft, ?_, H⟩⟩⟩
  · rw [sp_X2_readsTerm_11]
    by_cases z : (160 : Int32) ≤ nI u
    · rw [if_pos z]
    · rw [if_neg z, if_neg (show ¬ nI tv = (10025 : Int32) from tne (c := 10025) n0 (by omega) (by decide))]
  · rw [sp_X6_term_5, show sp_X6_isSign 42 t 0 w = bI (decide (tv = 10025)) from tk_s H (x := (42, 10025)) (by decide), decide_eq_false n0, if_pos bf0]
theorem lp_T {tp tx : Nat → Int32} {q r R : Nat} (X : TX tp tx q r R) {k n m : Nat} (HA : SIM tp tx q r R k n 6 m 5) : ∀ (d tv p : Nat) (ax : Int32) (mk mk0 : Nat) (st : Nat → Int32) (u fc fm : Nat), r ≤ p + d → CT r tv p ax → mk ≤ p → mk0 < mk → u ≤ p → d + 2 ≤ fc → d + 2 ≤ fm → (∃ (tv' p' : Nat) (ax' : Int32) (mk' : Nat) (st' : Nat → Int32), sp_X2_readsTerm_11 (sp_gX2 n) (nI r) tp fc (nI u) (nI tv) (nI p) ax (nI k) (nI mk) st = some (1, nI tv', nI p', ax', nI k, nI mk', st') ∧ CT r tv' p' ax' ∧ p ≤ p' ∧ mk ≤ mk' ∧ mk' + p ≤ mk + p' ∧ (∀ j, j < mk → st' j = st j) ∧ ∀ (f : Nat → Int32) v0, EM f st mk0 mk v0 → ∃ v, EM f st' mk0 mk' v ∧ ∀ h t ta w ft, TK tx q R tv p ax h t ta w → ∃ h' t' ta' w' ft', sp_X6_term_5 (sp_gX6 m) (f 0) (f 1) (f 2) (f 3) (f 4) (f 5) (nI (160 * q)) (nI R) tx fm v0 h t ta (nI k) 0 ft w = some (v, h', t', ta', nI k, 0, ft', w') ∧ TK tx q R tv' p' ax' h' t' ta' w') ∨ (∃ (c2 : Int32) (p' : Nat) (c4 c5 c6 : Int32) (c7 : Nat → Int32), sp_X2_readsTerm_11 (sp_gX2 n) (nI r) tp fc (nI u) (nI tv) (nI p) ax (nI k) (nI mk) st = some (0, c2, nI p', c4, c5, c6, c7) ∧ p' ≤ r ∧ ∀ (f : Nat → Int32) v0 h t ta w ft, TK tx q R tv p ax h t ta w → ∃ v h' t' ta' op' ft' w', sp_X6_term_5 (sp_gX6 m) (f 0) (f 1) (f 2) (f 3) (f 4) (f 5) (nI (160 * q)) (nI R) tx fm v0 h t ta (nI k) 0 ft w = some (v, h', t', ta', op', 1, ft', w') ∧ (ft' = nI p' ∨ (p' = r ∧ ft' = nI R))) := by
  have h1 := X.1
  have h2 := X.2.1
  intro d
  induction d with
  | zero =>
    intro tv p ax mk mk0 st u fc fm hd C hm h0 hu hfc hfm
    have hx : ∀ o, o ≤ 10027 → ¬ tv = o := by
      intro o ho e
      obtain ⟨e, e1, e2, _⟩ := ct_e C (by omega)
      omega
    exact Or.inl (stp_T X tv p ax mk mk0 st u fc fm (hx 10025 (by omega)) C (by omega) (by omega))
  | succ d ih =>
    intro tv p ax mk mk0 st u fc fm hd C hm h0 hu hfc hfm
    by_cases n0 : tv = 10025
    · subst n0
      obtain ⟨e, e1, e2, rfl⟩ := ct_e C (by omega)
      obtain ⟨tv1, p1, ax1, x2, C1, hp1, x6⟩ := lex X e2
      obtain ⟨c, rfl⟩ : ∃ m, fc = m + 1 := ⟨fc - 1, by omega⟩
      obtain ⟨mm, rfl⟩ : ∃ m, fm = m + 1 := ⟨fm - 1, by omega⟩
      have hu160 : ¬ (160 : Int32) ≤ nI u := nI_ge (b := 160) (by omega) (by decide)
      have rf : ∀ (f : Nat → Int32) v0 h t ta w ft, TK tx q R 10025 p (nI e) h t ta w → ∃ h1 t1 ta1 w1, TK tx q R tv1 p1 ax1 h1 t1 ta1 w1 ∧ sp_X6_term_5 (sp_gX6 m) (f 0) (f 1) (f 2) (f 3) (f 4) (f 5) (nI (160 * q)) (nI R) tx (mm + 1) v0 h t ta (nI k) 0 ft w = (sp_gX6 m 5 (f 0) (f 1) (f 2) (f 3) (f 4) (f 5) (nI (160 * q)) (nI R) h1 t1 ta1 (nI k) 0 ft w1 tx).bind fun r4 => sp_X6_term_5 (sp_gX6 m) (f 0) (f 1) (f 2) (f 3) (f 4) (f 5) (nI (160 * q)) (nI R) tx mm (v0 * r4.1) r4.2.1 r4.2.2.1 r4.2.2.2.1 r4.2.2.2.2.1 r4.2.2.2.2.2.1 r4.2.2.2.2.2.2.1 r4.2.2.2.2.2.2.2 := by
        intro f v0 h t ta w ft H
        obtain ⟨h1, t1, ta1, w1, y1, y2⟩ := x6 t ta w
        refine ⟨h1, t1, ta1, w1, y2, ?_⟩
        have hh : h = nI e := tk_h H (by omega)
        rw [sp_X6_term_5, show sp_X6_isSign 42 t 0 w = bI (decide (10025 = 10025)) from tk_s H (x := (42, 10025)) (by decide), decide_eq_true rfl, if_neg bt0]
        rw [hh, y1, ob_s]
      rcases HA tv1 p1 ax1 mk st C1 (by omega) with ⟨tv2, p2, ax2, mk2, st2, a1, a2, a3, a4, a5, a6, a7⟩ | ⟨c2, p2, c4, c5, c6, c7, a1, a2, a3⟩
      · have hp2 := a2.1
        have cl : sp_X2_readsTerm_11 (sp_gX2 n) (nI r) tp (c + 1) (nI u) (nI 10025) (nI p) (nI e) (nI k) (nI mk) st = sp_X2_readsTerm_11 (sp_gX2 n) (nI r) tp c (nI (u + 1)) (nI tv2) (nI p2) ax2 (nI k) (nI (mk2 + 1)) (upd st2 mk2 10025) := by
          rw [sp_X2_readsTerm_11, if_neg hu160, if_pos (show nI 10025 = (10025 : Int32) from rfl), x2, ob_s, a1, ob_s, if_neg one0, mk_go (by omega), ob_s, nI_1]
        rcases ih tv2 p2 ax2 (mk2 + 1) mk0 (upd st2 mk2 10025) (u + 1) c mm (by omega) a2 (by omega) (by omega) (by omega) (by omega) (by omega) with ⟨tv3, p3, ax3, mk3, st3, b1, b2, b3, b4, b5, b6, b7⟩ | ⟨d2, p3, d4, d5, d6, d7, b1, b2, b3⟩
        · left
          refine ⟨tv3, p3, ax3, mk3, st3, by rw [cl, b1], b2, by omega, by omega, by omega, fun j hj => by rw [b6 j (by omega), pk_un (by omega), a6 j hj], fun f v0 E => ?_⟩
          obtain ⟨v1, E1, s1⟩ := a7 f
          have E2 : EM f (upd st2 mk2 10025) mk0 (mk2 + 1) (sp_X4_joined (nI 10025) v0 v1) := em_bin (em_congr E (fun j j1 j2 => by rw [pk_un (by omega), a6 j j2])) (em_congr E1 (fun j j1 j2 => pk_un (by omega))) pk_us (by omega)
          obtain ⟨v, E3, s3⟩ := b7 f _ E2
          refine ⟨v, E3, fun h t ta w ft H => ?_⟩
          obtain ⟨h1', t1', ta1', w1', H1, rr⟩ := rf f v0 h t ta w ft H
          obtain ⟨h2', t2', ta2', w2', ft2', g2, H2⟩ := s1 _ _ _ _ ft H1
          obtain ⟨h3', t3', ta3', w3', ft3', g3, H3⟩ := s3 _ _ _ _ ft2' H2
          refine ⟨h3', t3', ta3', w3', ft3', ?_, H3⟩
          rw [rr, g2, ob_s]
          rw [jn_mul] at g3
          dsimp only
          exact g3
        · right
          refine ⟨d2, p3, d4, d5, d6, d7, by rw [cl, b1], b2, fun f v0 h t ta w ft H => ?_⟩
          obtain ⟨v1, E1, s1⟩ := a7 f
          obtain ⟨h1', t1', ta1', w1', H1, rr⟩ := rf f v0 h t ta w ft H
          obtain ⟨h2', t2', ta2', w2', ft2', g2, H2⟩ := s1 _ _ _ _ ft H1
          obtain ⟨v, h3', t3', ta3', op3', ft3', w3', g3, g4⟩ := b3 f (sp_X4_joined (nI 10025) v0 v1) _ _ _ _ ft2' H2
          refine ⟨v, h3', t3', ta3', op3', ft3', w3', ?_, g4⟩
          rw [rr, g2, ob_s]
          rw [jn_mul] at g3
          dsimp only
          exact g3
      · right
        refine ⟨c2, p2, c4, c5, c6, c7, ?_, a2, fun f v0 h t ta w ft H => ?_⟩
        · rw [sp_X2_readsTerm_11, if_neg hu160, if_pos (show nI 10025 = (10025 : Int32) from rfl), x2, ob_s, a1, ob_s, if_pos rfl]
        · obtain ⟨h1', t1', ta1', w1', H1, rr⟩ := rf f v0 h t ta w ft H
          obtain ⟨v1, h2', t2', ta2', op2', ft2', w2', g2, g3⟩ := a3 f _ _ _ _ ft H1
          obtain ⟨m3, rfl⟩ : ∃ m, mm = m + 1 := ⟨mm - 1, by omega⟩
          rw [rr, g2, ob_s]
          dsimp only
          rw [bd_T]; exact ⟨_, _, _, _, _, _, _, rfl, g3⟩
    exact Or.inl (stp_T X tv p ax mk mk0 st u fc fm n0 C (by omega) (by omega))
theorem si_T {tp tx : Nat → Int32} {q r R : Nat} (X : TX tp tx q r R) {k n m : Nat} (HA : SIM tp tx q r R k n 6 m 5) : SIM tp tx q r R k (n + 1) 5 (m + 1) 4 := by
  have h1 := X.1
  have h2 := X.2.1
  intro tv p ax mk st C hm
  have cl : sp_gX2 (n + 1) 5 (nI r) (nI tv) (nI p) ax (nI k) (nI mk) tp st = sp_X2_readsTerm (sp_gX2 n) (nI r) (nI tv) (nI p) ax (nI k) (nI mk) tp st := rfl
  have rc : ∀ (f : Nat → Int32) h t ta w ft, sp_gX6 (m + 1) 4 (f 0) (f 1) (f 2) (f 3) (f 4) (f 5) (nI (160 * q)) (nI R) h t ta (nI k) 0 ft w tx = sp_X6_term (sp_gX6 m) (f 0) (f 1) (f 2) (f 3) (f 4) (f 5) (nI (160 * q)) (nI R) h t ta (nI k) 0 ft w tx := fun _ _ _ _ _ _ => rfl
  rcases HA tv p ax mk st C hm with ⟨tv1, p1, ax1, mk1, st1, a1, a2, a3, a4, a5, a6, a7⟩ | ⟨c2, p1, c4, c5, c6, c7, a1, a2, a3⟩
  · have LP := lp_T X HA r tv1 p1 ax1 mk1 mk st1 0 5000 5000 (by omega) a2 (by omega) a4 (by omega) (by omega) (by omega)
    rw [nI_0] at LP
    rcases LP with ⟨tv2, p2, ax2, mk2, st2, b1, b2, b3, b4, b5, b6, b7⟩ | ⟨d2, p2, d4, d5, d6, d7, b1, b2, b3⟩
    · left
      refine ⟨tv2, p2, ax2, mk2, st2, ?_, b2, by omega, by omega, by omega, fun j hj => by rw [b6 j (by omega), a6 j hj], fun f => ?_⟩
      · rw [cl]
        unfold sp_X2_readsTerm
        rw [a1, ob_s, if_neg one0, b1]
      · obtain ⟨v1, E1, s1⟩ := a7 f
        obtain ⟨v, E2, s2⟩ := b7 f v1 E1
        refine ⟨v, E2, fun h t ta w ft H => ?_⟩
        obtain ⟨h1', t1', ta1', w1', ft1', g1, H1⟩ := s1 h t ta w ft H
        obtain ⟨h2', t2', ta2', w2', ft2', g2, H2⟩ := s2 _ _ _ _ ft1' H1
        refine ⟨h2', t2', ta2', w2', ft2', ?_, H2⟩
        rw [rc]
        unfold sp_X6_term
        rw [g1, ob_s]
        exact g2
    · right
      refine ⟨d2, p2, d4, d5, d6, d7, ?_, b2, fun f h t ta w ft H => ?_⟩
      · rw [cl]
        unfold sp_X2_readsTerm
        rw [a1, ob_s, if_neg one0, b1]
      · obtain ⟨v1, E1, s1⟩ := a7 f
        obtain ⟨h1', t1', ta1', w1', ft1', g1, H1⟩ := s1 h t ta w ft H
        obtain ⟨v, h2', t2', ta2', op2', ft2', w2', g2, g3⟩ := b3 f v1 _ _ _ _ ft1' H1
        refine ⟨v, h2', t2', ta2', op2', ft2', w2', ?_, g3⟩
        rw [rc]
        unfold sp_X6_term
        rw [g1, ob_s]
        exact g2
  · right
    refine ⟨c2, p1, c4, c5, c6, c7, ?_, a2, fun f h t ta w ft H => ?_⟩
    · rw [cl]
      unfold sp_X2_readsTerm
      rw [a1, ob_s, if_pos rfl]
    · obtain ⟨v1, h1', t1', ta1', op1', ft1', w1', g1, g2⟩ := a3 f h t ta w ft H
      refine ⟨v1, h1', t1', ta1', op1', ft1', w1', ?_, g2⟩
      rw [rc]
      unfold sp_X6_term
      rw [g1, ob_s]
      exact bd_T f 4999 v1 h1' t1' ta1' op1' ft1' w1'
theorem bd_S {tx : Nat → Int32} {q R m : Nat} (f : Nat → Int32) (fm : Nat) (v0 h t ta o ft : Int32) (w : Int64) : sp_X6_added_5 (sp_gX6 m) (f 0) (f 1) (f 2) (f 3) (f 4) (f 5) (nI (160 * q)) (nI R) tx (fm + 1) v0 h t ta o 1 ft w = some (v0, h, t, ta, o, 1, ft, w) := by
  rw [sp_X6_added_5, is_bad, if_pos rfl, is_bad, if_pos rfl]
theorem stp_S {tp tx : Nat → Int32} {q r R : Nat} (X : TX tp tx q r R) {k n m : Nat} : ∀ (tv p : Nat) (ax : Int32) (mk mk0 : Nat) (st : Nat → Int32) (u fc fm : Nat), ¬ tv = 10023 → ¬ tv = 10024 → CT r tv p ax → 1 ≤ fc → 1 ≤ fm → (∃ (tv' p' : Nat) (ax' : Int32) (mk' : Nat) (st' : Nat → Int32), sp_X2_readsSum_11 (sp_gX2 n) (nI r) tp fc (nI u) (nI tv) (nI p) ax (nI k) (nI mk) st = some (1, nI tv', nI p', ax', nI k, nI mk', st') ∧ CT r tv' p' ax' ∧ p ≤ p' ∧ mk ≤ mk' ∧ mk' + p ≤ mk + p' ∧ (∀ j, j < mk → st' j = st j) ∧ ∀ (f : Nat → Int32) v0, EM f st mk0 mk v0 → ∃ v, EM f st' mk0 mk' v ∧ ∀ h t ta w ft, TK tx q R tv p ax h t ta w → ∃ h' t' ta' w' ft', sp_X6_added_5 (sp_gX6 m) (f 0) (f 1) (f 2) (f 3) (f 4) (f 5) (nI (160 * q)) (nI R) tx fm v0 h t ta (nI k) 0 ft w = some (v, h', t', ta', nI k, 0, ft', w') ∧ TK tx q R tv' p' ax' h' t' ta' w') := by
  intro tv p ax mk mk0 st u fc fm n0 n1 C hfc hfm
  have tl := ct_le C
  obtain ⟨c, rfl⟩ : ∃ m, fc = m + 1 := ⟨fc - 1, by omega⟩
  obtain ⟨m', rfl⟩ : ∃ m, fm = m + 1 := ⟨fm - 1, by omega⟩
  refine ⟨tv, p, ax, mk, st, ?_, C, Nat.le_refl _, Nat.le_refl _, Nat.le_refl _, fun j _ => rfl, fun f v0 E => ⟨v0, E, fun h t ta w ft H => ⟨h, t, ta, w, ft, ?_, H⟩⟩⟩
  · rw [sp_X2_readsSum_11]
    by_cases z : (160 : Int32) ≤ nI u
    · rw [if_pos z]
    · rw [if_neg z, if_neg (show ¬ nI tv = (10023 : Int32) from tne (c := 10023) n0 (by omega) (by decide)), if_neg (show ¬ nI tv = (10024 : Int32) from tne (c := 10024) n1 (by omega) (by decide))]
  · rw [sp_X6_added_5, show sp_X6_isSign 43 t 0 w = bI (decide (tv = 10023)) from tk_s H (x := (43, 10023)) (by decide), decide_eq_false n0, if_pos bf0, show sp_X6_isSign 45 t 0 w = bI (decide (tv = 10024)) from tk_s H (x := (45, 10024)) (by decide), decide_eq_false n1, if_pos bf0]
theorem lp_S {tp tx : Nat → Int32} {q r R : Nat} (X : TX tp tx q r R) {k n m : Nat} (HA : SIM tp tx q r R k n 5 m 4) : ∀ (d tv p : Nat) (ax : Int32) (mk mk0 : Nat) (st : Nat → Int32) (u fc fm : Nat), r ≤ p + d → CT r tv p ax → mk ≤ p → mk0 < mk → u ≤ p → d + 2 ≤ fc → d + 2 ≤ fm → (∃ (tv' p' : Nat) (ax' : Int32) (mk' : Nat) (st' : Nat → Int32), sp_X2_readsSum_11 (sp_gX2 n) (nI r) tp fc (nI u) (nI tv) (nI p) ax (nI k) (nI mk) st = some (1, nI tv', nI p', ax', nI k, nI mk', st') ∧ CT r tv' p' ax' ∧ p ≤ p' ∧ mk ≤ mk' ∧ mk' + p ≤ mk + p' ∧ (∀ j, j < mk → st' j = st j) ∧ ∀ (f : Nat → Int32) v0, EM f st mk0 mk v0 → ∃ v, EM f st' mk0 mk' v ∧ ∀ h t ta w ft, TK tx q R tv p ax h t ta w → ∃ h' t' ta' w' ft', sp_X6_added_5 (sp_gX6 m) (f 0) (f 1) (f 2) (f 3) (f 4) (f 5) (nI (160 * q)) (nI R) tx fm v0 h t ta (nI k) 0 ft w = some (v, h', t', ta', nI k, 0, ft', w') ∧ TK tx q R tv' p' ax' h' t' ta' w') ∨ (∃ (c2 : Int32) (p' : Nat) (c4 c5 c6 : Int32) (c7 : Nat → Int32), sp_X2_readsSum_11 (sp_gX2 n) (nI r) tp fc (nI u) (nI tv) (nI p) ax (nI k) (nI mk) st = some (0, c2, nI p', c4, c5, c6, c7) ∧ p' ≤ r ∧ ∀ (f : Nat → Int32) v0 h t ta w ft, TK tx q R tv p ax h t ta w → ∃ v h' t' ta' op' ft' w', sp_X6_added_5 (sp_gX6 m) (f 0) (f 1) (f 2) (f 3) (f 4) (f 5) (nI (160 * q)) (nI R) tx fm v0 h t ta (nI k) 0 ft w = some (v, h', t', ta', op', 1, ft', w') ∧ (ft' = nI p' ∨ (p' = r ∧ ft' = nI R))) := by
  have h1 := X.1
  have h2 := X.2.1
  intro d
  induction d with
  | zero =>
    intro tv p ax mk mk0 st u fc fm hd C hm h0 hu hfc hfm
    have hx : ∀ o, o ≤ 10027 → ¬ tv = o := by
      intro o ho e
      obtain ⟨e, e1, e2, _⟩ := ct_e C (by omega)
      omega
    exact Or.inl (stp_S X tv p ax mk mk0 st u fc fm (hx 10023 (by omega)) (hx 10024 (by omega)) C (by omega) (by omega))
  | succ d ih =>
    intro tv p ax mk mk0 st u fc fm hd C hm h0 hu hfc hfm
    by_cases n0 : tv = 10023
    · subst n0
      obtain ⟨e, e1, e2, rfl⟩ := ct_e C (by omega)
      obtain ⟨tv1, p1, ax1, x2, C1, hp1, x6⟩ := lex X e2
      obtain ⟨c, rfl⟩ : ∃ m, fc = m + 1 := ⟨fc - 1, by omega⟩
      obtain ⟨mm, rfl⟩ : ∃ m, fm = m + 1 := ⟨fm - 1, by omega⟩
      have hu160 : ¬ (160 : Int32) ≤ nI u := nI_ge (b := 160) (by omega) (by decide)
      have rf : ∀ (f : Nat → Int32) v0 h t ta w ft, TK tx q R 10023 p (nI e) h t ta w → ∃ h1 t1 ta1 w1, TK tx q R tv1 p1 ax1 h1 t1 ta1 w1 ∧ sp_X6_added_5 (sp_gX6 m) (f 0) (f 1) (f 2) (f 3) (f 4) (f 5) (nI (160 * q)) (nI R) tx (mm + 1) v0 h t ta (nI k) 0 ft w = (sp_gX6 m 4 (f 0) (f 1) (f 2) (f 3) (f 4) (f 5) (nI (160 * q)) (nI R) h1 t1 ta1 (nI k) 0 ft w1 tx).bind fun r4 => if (1 : Int32) = 0 then sp_X6_added_5 (sp_gX6 m) (f 0) (f 1) (f 2) (f 3) (f 4) (f 5) (nI (160 * q)) (nI R) tx mm (v0 - r4.1) r4.2.1 r4.2.2.1 r4.2.2.2.1 r4.2.2.2.2.1 r4.2.2.2.2.2.1 r4.2.2.2.2.2.2.1 r4.2.2.2.2.2.2.2 else sp_X6_added_5 (sp_gX6 m) (f 0) (f 1) (f 2) (f 3) (f 4) (f 5) (nI (160 * q)) (nI R) tx mm (v0 + r4.1) r4.2.1 r4.2.2.1 r4.2.2.2.1 r4.2.2.2.2.1 r4.2.2.2.2.2.1 r4.2.2.2.2.2.2.1 r4.2.2.2.2.2.2.2 := by
        intro f v0 h t ta w ft H
        obtain ⟨h1, t1, ta1, w1, y1, y2⟩ := x6 t ta w
        refine ⟨h1, t1, ta1, w1, y2, ?_⟩
        have hh : h = nI e := tk_h H (by omega)
        rw [sp_X6_added_5, show sp_X6_isSign 43 t 0 w = bI (decide (10023 = 10023)) from tk_s H (x := (43, 10023)) (by decide), decide_eq_true rfl, if_neg bt0, tk_sv H (x := (43, 10023)) (by decide) rfl, if_pos (show lg_cmp (lN 43) 43 = 0 by decide)]
        rw [← tk_sv H (x := (43, 10023)) (by decide) rfl, hh, y1, ob_s]
      rcases HA tv1 p1 ax1 mk st C1 (by omega) with ⟨tv2, p2, ax2, mk2, st2, a1, a2, a3, a4, a5, a6, a7⟩ | ⟨c2, p2, c4, c5, c6, c7, a1, a2, a3⟩
      · have hp2 := a2.1
        have cl : sp_X2_readsSum_11 (sp_gX2 n) (nI r) tp (c + 1) (nI u) (nI 10023) (nI p) (nI e) (nI k) (nI mk) st = sp_X2_readsSum_11 (sp_gX2 n) (nI r) tp c (nI (u + 1)) (nI tv2) (nI p2) ax2 (nI k) (nI (mk2 + 1)) (upd st2 mk2 (nI 10023)) := by
          rw [sp_X2_readsSum_11, if_neg hu160, if_pos (show nI 10023 = (10023 : Int32) from rfl), x2, ob_s, a1, ob_s, if_neg one0, mk_go (by omega), ob_s, nI_1]
        rcases ih tv2 p2 ax2 (mk2 + 1) mk0 (upd st2 mk2 (nI 10023)) (u + 1) c mm (by omega) a2 (by omega) (by omega) (by omega) (by omega) (by omega) with ⟨tv3, p3, ax3, mk3, st3, b1, b2, b3, b4, b5, b6, b7⟩ | ⟨d2, p3, d4, d5, d6, d7, b1, b2, b3⟩
        · left
          refine ⟨tv3, p3, ax3, mk3, st3, by rw [cl, b1], b2, by omega, by omega, by omega, fun j hj => by rw [b6 j (by omega), pk_un (by omega), a6 j hj], fun f v0 E => ?_⟩
          obtain ⟨v1, E1, s1⟩ := a7 f
          have E2 : EM f (upd st2 mk2 (nI 10023)) mk0 (mk2 + 1) (sp_X4_joined (nI 10023) v0 v1) := em_bin (em_congr E (fun j j1 j2 => by rw [pk_un (by omega), a6 j j2])) (em_congr E1 (fun j j1 j2 => pk_un (by omega))) pk_us (by omega)
          obtain ⟨v, E3, s3⟩ := b7 f _ E2
          refine ⟨v, E3, fun h t ta w ft H => ?_⟩
          obtain ⟨h1', t1', ta1', w1', H1, rr⟩ := rf f v0 h t ta w ft H
          obtain ⟨h2', t2', ta2', w2', ft2', g2, H2⟩ := s1 _ _ _ _ ft H1
          obtain ⟨h3', t3', ta3', w3', ft3', g3, H3⟩ := s3 _ _ _ _ ft2' H2
          refine ⟨h3', t3', ta3', w3', ft3', ?_, H3⟩
          rw [rr, g2, ob_s]
          rw [jn_add] at g3
          dsimp only
          rw [if_neg one0]
          exact g3
        · right
          refine ⟨d2, p3, d4, d5, d6, d7, by rw [cl, b1], b2, fun f v0 h t ta w ft H => ?_⟩
          obtain ⟨v1, E1, s1⟩ := a7 f
          obtain ⟨h1', t1', ta1', w1', H1, rr⟩ := rf f v0 h t ta w ft H
          obtain ⟨h2', t2', ta2', w2', ft2', g2, H2⟩ := s1 _ _ _ _ ft H1
          obtain ⟨v, h3', t3', ta3', op3', ft3', w3', g3, g4⟩ := b3 f (sp_X4_joined (nI 10023) v0 v1) _ _ _ _ ft2' H2
          refine ⟨v, h3', t3', ta3', op3', ft3', w3', ?_, g4⟩
          rw [rr, g2, ob_s]
          rw [jn_add] at g3
          dsimp only
          rw [if_neg one0]
          exact g3
      · right
        refine ⟨c2, p2, c4, c5, c6, c7, ?_, a2, fun f v0 h t ta w ft H => ?_⟩
        · rw [sp_X2_readsSum_11, if_neg hu160, if_pos (show nI 10023 = (10023 : Int32) from rfl), x2, ob_s, a1, ob_s, if_pos rfl]
        · obtain ⟨h1', t1', ta1', w1', H1, rr⟩ := rf f v0 h t ta w ft H
          obtain ⟨v1, h2', t2', ta2', op2', ft2', w2', g2, g3⟩ := a3 f _ _ _ _ ft H1
          obtain ⟨m3, rfl⟩ : ∃ m, mm = m + 1 := ⟨mm - 1, by omega⟩
          rw [rr, g2, ob_s]
          dsimp only
          rw [if_neg one0]
          rw [bd_S]; exact ⟨_, _, _, _, _, _, _, rfl, g3⟩
    by_cases n1 : tv = 10024
    · subst n1
      obtain ⟨e, e1, e2, rfl⟩ := ct_e C (by omega)
      obtain ⟨tv1, p1, ax1, x2, C1, hp1, x6⟩ := lex X e2
      obtain ⟨c, rfl⟩ : ∃ m, fc = m + 1 := ⟨fc - 1, by omega⟩
      obtain ⟨mm, rfl⟩ : ∃ m, fm = m + 1 := ⟨fm - 1, by omega⟩
      have hu160 : ¬ (160 : Int32) ≤ nI u := nI_ge (b := 160) (by omega) (by decide)
      have rf : ∀ (f : Nat → Int32) v0 h t ta w ft, TK tx q R 10024 p (nI e) h t ta w → ∃ h1 t1 ta1 w1, TK tx q R tv1 p1 ax1 h1 t1 ta1 w1 ∧ sp_X6_added_5 (sp_gX6 m) (f 0) (f 1) (f 2) (f 3) (f 4) (f 5) (nI (160 * q)) (nI R) tx (mm + 1) v0 h t ta (nI k) 0 ft w = (sp_gX6 m 4 (f 0) (f 1) (f 2) (f 3) (f 4) (f 5) (nI (160 * q)) (nI R) h1 t1 ta1 (nI k) 0 ft w1 tx).bind fun r4 => if (0 : Int32) = 0 then sp_X6_added_5 (sp_gX6 m) (f 0) (f 1) (f 2) (f 3) (f 4) (f 5) (nI (160 * q)) (nI R) tx mm (v0 - r4.1) r4.2.1 r4.2.2.1 r4.2.2.2.1 r4.2.2.2.2.1 r4.2.2.2.2.2.1 r4.2.2.2.2.2.2.1 r4.2.2.2.2.2.2.2 else sp_X6_added_5 (sp_gX6 m) (f 0) (f 1) (f 2) (f 3) (f 4) (f 5) (nI (160 * q)) (nI R) tx mm (v0 + r4.1) r4.2.1 r4.2.2.1 r4.2.2.2.1 r4.2.2.2.2.1 r4.2.2.2.2.2.1 r4.2.2.2.2.2.2.1 r4.2.2.2.2.2.2.2 := by
        intro f v0 h t ta w ft H
        obtain ⟨h1, t1, ta1, w1, y1, y2⟩ := x6 t ta w
        refine ⟨h1, t1, ta1, w1, y2, ?_⟩
        have hh : h = nI e := tk_h H (by omega)
        rw [sp_X6_added_5, show sp_X6_isSign 43 t 0 w = bI (decide (10024 = 10023)) from tk_s H (x := (43, 10023)) (by decide), decide_eq_false (by decide), if_pos bf0, show sp_X6_isSign 45 t 0 w = bI (decide (10024 = 10024)) from tk_s H (x := (45, 10024)) (by decide), decide_eq_true rfl, if_neg bt0, tk_sv H (x := (45, 10024)) (by decide) rfl, if_neg (show ¬ lg_cmp (lN 45) 43 = 0 by decide)]
        rw [← tk_sv H (x := (45, 10024)) (by decide) rfl, hh, y1, ob_s]
      rcases HA tv1 p1 ax1 mk st C1 (by omega) with ⟨tv2, p2, ax2, mk2, st2, a1, a2, a3, a4, a5, a6, a7⟩ | ⟨c2, p2, c4, c5, c6, c7, a1, a2, a3⟩
      · have hp2 := a2.1
        have cl : sp_X2_readsSum_11 (sp_gX2 n) (nI r) tp (c + 1) (nI u) (nI 10024) (nI p) (nI e) (nI k) (nI mk) st = sp_X2_readsSum_11 (sp_gX2 n) (nI r) tp c (nI (u + 1)) (nI tv2) (nI p2) ax2 (nI k) (nI (mk2 + 1)) (upd st2 mk2 (nI 10024)) := by
          rw [sp_X2_readsSum_11, if_neg hu160, if_neg (show ¬ nI 10024 = (10023 : Int32) by decide), if_pos (show nI 10024 = (10024 : Int32) from rfl), x2, ob_s, a1, ob_s, if_neg one0, mk_go (by omega), ob_s, nI_1]
        rcases ih tv2 p2 ax2 (mk2 + 1) mk0 (upd st2 mk2 (nI 10024)) (u + 1) c mm (by omega) a2 (by omega) (by omega) (by omega) (by omega) (by omega) with ⟨tv3, p3, ax3, mk3, st3, b1, b2, b3, b4, b5, b6, b7⟩ | ⟨d2, p3, d4, d5, d6, d7, b1, b2, b3⟩
        · left
          refine ⟨tv3, p3, ax3, mk3, st3, by rw [cl, b1], b2, by omega, by omega, by omega, fun j hj => by rw [b6 j (by omega), pk_un (by omega), a6 j hj], fun f v0 E => ?_⟩
          obtain ⟨v1, E1, s1⟩ := a7 f
          have E2 : EM f (upd st2 mk2 (nI 10024)) mk0 (mk2 + 1) (sp_X4_joined (nI 10024) v0 v1) := em_bin (em_congr E (fun j j1 j2 => by rw [pk_un (by omega), a6 j j2])) (em_congr E1 (fun j j1 j2 => pk_un (by omega))) pk_us (by omega)
          obtain ⟨v, E3, s3⟩ := b7 f _ E2
          refine ⟨v, E3, fun h t ta w ft H => ?_⟩
          obtain ⟨h1', t1', ta1', w1', H1, rr⟩ := rf f v0 h t ta w ft H
          obtain ⟨h2', t2', ta2', w2', ft2', g2, H2⟩ := s1 _ _ _ _ ft H1
          obtain ⟨h3', t3', ta3', w3', ft3', g3, H3⟩ := s3 _ _ _ _ ft2' H2
          refine ⟨h3', t3', ta3', w3', ft3', ?_, H3⟩
          rw [rr, g2, ob_s]
          rw [jn_sub] at g3
          dsimp only
          rw [if_pos rfl]
          exact g3
        · right
          refine ⟨d2, p3, d4, d5, d6, d7, by rw [cl, b1], b2, fun f v0 h t ta w ft H => ?_⟩
          obtain ⟨v1, E1, s1⟩ := a7 f
          obtain ⟨h1', t1', ta1', w1', H1, rr⟩ := rf f v0 h t ta w ft H
          obtain ⟨h2', t2', ta2', w2', ft2', g2, H2⟩ := s1 _ _ _ _ ft H1
          obtain ⟨v, h3', t3', ta3', op3', ft3', w3', g3, g4⟩ := b3 f (sp_X4_joined (nI 10024) v0 v1) _ _ _ _ ft2' H2
          refine ⟨v, h3', t3', ta3', op3', ft3', w3', ?_, g4⟩
          rw [rr, g2, ob_s]
          rw [jn_sub] at g3
          dsimp only
          rw [if_pos rfl]
          exact g3
      · right
        refine ⟨c2, p2, c4, c5, c6, c7, ?_, a2, fun f v0 h t ta w ft H => ?_⟩
        · rw [sp_X2_readsSum_11, if_neg hu160, if_neg (show ¬ nI 10024 = (10023 : Int32) by decide), if_pos (show nI 10024 = (10024 : Int32) from rfl), x2, ob_s, a1, ob_s, if_pos rfl]
        · obtain ⟨h1', t1', ta1', w1', H1, rr⟩ := rf f v0 h t ta w ft H
          obtain ⟨v1, h2', t2', ta2', op2', ft2', w2', g2, g3⟩ := a3 f _ _ _ _ ft H1
          obtain ⟨m3, rfl⟩ : ∃ m, mm = m + 1 := ⟨mm - 1, by omega⟩
          rw [rr, g2, ob_s]
          dsimp only
          rw [if_pos rfl]
          rw [bd_S]; exact ⟨_, _, _, _, _, _, _, rfl, g3⟩
    exact Or.inl (stp_S X tv p ax mk mk0 st u fc fm n0 n1 C (by omega) (by omega))
theorem si_S {tp tx : Nat → Int32} {q r R : Nat} (X : TX tp tx q r R) {k n m : Nat} (HA : SIM tp tx q r R k n 5 m 4) : SIM tp tx q r R k (n + 1) 4 (m + 1) 3 := by
  have h1 := X.1
  have h2 := X.2.1
  intro tv p ax mk st C hm
  have cl : sp_gX2 (n + 1) 4 (nI r) (nI tv) (nI p) ax (nI k) (nI mk) tp st = sp_X2_readsSum (sp_gX2 n) (nI r) (nI tv) (nI p) ax (nI k) (nI mk) tp st := rfl
  have rc : ∀ (f : Nat → Int32) h t ta w ft, sp_gX6 (m + 1) 3 (f 0) (f 1) (f 2) (f 3) (f 4) (f 5) (nI (160 * q)) (nI R) h t ta (nI k) 0 ft w tx = sp_X6_added (sp_gX6 m) (f 0) (f 1) (f 2) (f 3) (f 4) (f 5) (nI (160 * q)) (nI R) h t ta (nI k) 0 ft w tx := fun _ _ _ _ _ _ => rfl
  rcases HA tv p ax mk st C hm with ⟨tv1, p1, ax1, mk1, st1, a1, a2, a3, a4, a5, a6, a7⟩ | ⟨c2, p1, c4, c5, c6, c7, a1, a2, a3⟩
  · have LP := lp_S X HA r tv1 p1 ax1 mk1 mk st1 0 5000 5000 (by omega) a2 (by omega) a4 (by omega) (by omega) (by omega)
    rw [nI_0] at LP
    rcases LP with ⟨tv2, p2, ax2, mk2, st2, b1, b2, b3, b4, b5, b6, b7⟩ | ⟨d2, p2, d4, d5, d6, d7, b1, b2, b3⟩
    · left
      refine ⟨tv2, p2, ax2, mk2, st2, ?_, b2, by omega, by omega, by omega, fun j hj => by rw [b6 j (by omega), a6 j hj], fun f => ?_⟩
      · rw [cl]
        unfold sp_X2_readsSum
        rw [a1, ob_s, if_neg one0, b1]
      · obtain ⟨v1, E1, s1⟩ := a7 f
        obtain ⟨v, E2, s2⟩ := b7 f v1 E1
        refine ⟨v, E2, fun h t ta w ft H => ?_⟩
        obtain ⟨h1', t1', ta1', w1', ft1', g1, H1⟩ := s1 h t ta w ft H
        obtain ⟨h2', t2', ta2', w2', ft2', g2, H2⟩ := s2 _ _ _ _ ft1' H1
        refine ⟨h2', t2', ta2', w2', ft2', ?_, H2⟩
        rw [rc]
        unfold sp_X6_added
        rw [g1, ob_s]
        exact g2
    · right
      refine ⟨d2, p2, d4, d5, d6, d7, ?_, b2, fun f h t ta w ft H => ?_⟩
      · rw [cl]
        unfold sp_X2_readsSum
        rw [a1, ob_s, if_neg one0, b1]
      · obtain ⟨v1, E1, s1⟩ := a7 f
        obtain ⟨h1', t1', ta1', w1', ft1', g1, H1⟩ := s1 h t ta w ft H
        obtain ⟨v, h2', t2', ta2', op2', ft2', w2', g2, g3⟩ := b3 f v1 _ _ _ _ ft1' H1
        refine ⟨v, h2', t2', ta2', op2', ft2', w2', ?_, g3⟩
        rw [rc]
        unfold sp_X6_added
        rw [g1, ob_s]
        exact g2
  · right
    refine ⟨c2, p1, c4, c5, c6, c7, ?_, a2, fun f h t ta w ft H => ?_⟩
    · rw [cl]
      unfold sp_X2_readsSum
      rw [a1, ob_s, if_pos rfl]
    · obtain ⟨v1, h1', t1', ta1', op1', ft1', w1', g1, g2⟩ := a3 f h t ta w ft H
      refine ⟨v1, h1', t1', ta1', op1', ft1', w1', ?_, g2⟩
      rw [rc]
      unfold sp_X6_added
      rw [g1, ob_s]
      exact bd_S f 4999 v1 h1' t1' ta1' op1' ft1' w1'
theorem bd_A {tx : Nat → Int32} {q R m : Nat} (f : Nat → Int32) (fm : Nat) (v0 h t ta o ft : Int32) (w : Int64) : sp_X6_both_5 (sp_gX6 m) (f 0) (f 1) (f 2) (f 3) (f 4) (f 5) (nI (160 * q)) (nI R) tx (fm + 1) v0 h t ta o 1 ft w = some (v0, h, t, ta, o, 1, ft, w) := by
  rw [sp_X6_both_5, show sp_X6_isWord 97 110 100 0 0 0 0 0 (nI (160 * q)) (nI R) h t ta 1 tx = some 0 from iw_bad [97, 110, 100] _ _ _ _ _ _, ob_s, if_pos rfl]
theorem stp_A {tp tx : Nat → Int32} {q r R : Nat} (X : TX tp tx q r R) {k n m : Nat} : ∀ (tv p : Nat) (ax : Int32) (mk mk0 : Nat) (st : Nat → Int32) (u fc fm : Nat), ¬ tv = 10014 → CT r tv p ax → 1 ≤ fc → 1 ≤ fm → (∃ (tv' p' : Nat) (ax' : Int32) (mk' : Nat) (st' : Nat → Int32), sp_X2_readsAnd_11 (sp_gX2 n) (nI r) tp fc (nI u) (nI tv) (nI p) ax (nI k) (nI mk) st = some (1, nI tv', nI p', ax', nI k, nI mk', st') ∧ CT r tv' p' ax' ∧ p ≤ p' ∧ mk ≤ mk' ∧ mk' + p ≤ mk + p' ∧ (∀ j, j < mk → st' j = st j) ∧ ∀ (f : Nat → Int32) v0, EM f st mk0 mk v0 → ∃ v, EM f st' mk0 mk' v ∧ ∀ h t ta w ft, TK tx q R tv p ax h t ta w → ∃ h' t' ta' w' ft', sp_X6_both_5 (sp_gX6 m) (f 0) (f 1) (f 2) (f 3) (f 4) (f 5) (nI (160 * q)) (nI R) tx fm v0 h t ta (nI k) 0 ft w = some (v, h', t', ta', nI k, 0, ft', w') ∧ TK tx q R tv' p' ax' h' t' ta' w') := by
  intro tv p ax mk mk0 st u fc fm n0 C hfc hfm
  have tl := ct_le C
  obtain ⟨c, rfl⟩ : ∃ m, fc = m + 1 := ⟨fc - 1, by omega⟩
  obtain ⟨m', rfl⟩ : ∃ m, fm = m + 1 := ⟨fm - 1, by omega⟩
  refine ⟨tv, p, ax, mk, st, ?_, C, Nat.le_refl _, Nat.le_refl _, Nat.le_refl _, fun j _ => rfl, fun f v0 E => ⟨v0, E, fun h t ta w ft H => ⟨h, t, ta, w, ft, ?_, H⟩⟩⟩
  · rw [sp_X2_readsAnd_11]
    by_cases z : (160 : Int32) ≤ nI u
    · rw [if_pos z]
    · rw [if_neg z, if_neg (show ¬ nI tv = (10014 : Int32) from tne (c := 10014) n0 (by omega) (by decide))]
  · rw [sp_X6_both_5, show sp_X6_isWord 97 110 100 0 0 0 0 0 (nI (160 * q)) (nI R) h t ta 0 tx = some (bI (decide (tv = 10014))) from tk_w H (x := ([97, 110, 100], 10014)) (by decide), decide_eq_false n0, ob_s, if_pos bf0]
theorem lp_A {tp tx : Nat → Int32} {q r R : Nat} (X : TX tp tx q r R) {k n m : Nat} (HA : SIM tp tx q r R k n 2 m 2) : ∀ (d tv p : Nat) (ax : Int32) (mk mk0 : Nat) (st : Nat → Int32) (u fc fm : Nat), r ≤ p + d → CT r tv p ax → mk ≤ p → mk0 < mk → u ≤ p → d + 2 ≤ fc → d + 2 ≤ fm → (∃ (tv' p' : Nat) (ax' : Int32) (mk' : Nat) (st' : Nat → Int32), sp_X2_readsAnd_11 (sp_gX2 n) (nI r) tp fc (nI u) (nI tv) (nI p) ax (nI k) (nI mk) st = some (1, nI tv', nI p', ax', nI k, nI mk', st') ∧ CT r tv' p' ax' ∧ p ≤ p' ∧ mk ≤ mk' ∧ mk' + p ≤ mk + p' ∧ (∀ j, j < mk → st' j = st j) ∧ ∀ (f : Nat → Int32) v0, EM f st mk0 mk v0 → ∃ v, EM f st' mk0 mk' v ∧ ∀ h t ta w ft, TK tx q R tv p ax h t ta w → ∃ h' t' ta' w' ft', sp_X6_both_5 (sp_gX6 m) (f 0) (f 1) (f 2) (f 3) (f 4) (f 5) (nI (160 * q)) (nI R) tx fm v0 h t ta (nI k) 0 ft w = some (v, h', t', ta', nI k, 0, ft', w') ∧ TK tx q R tv' p' ax' h' t' ta' w') ∨ (∃ (c2 : Int32) (p' : Nat) (c4 c5 c6 : Int32) (c7 : Nat → Int32), sp_X2_readsAnd_11 (sp_gX2 n) (nI r) tp fc (nI u) (nI tv) (nI p) ax (nI k) (nI mk) st = some (0, c2, nI p', c4, c5, c6, c7) ∧ p' ≤ r ∧ ∀ (f : Nat → Int32) v0 h t ta w ft, TK tx q R tv p ax h t ta w → ∃ v h' t' ta' op' ft' w', sp_X6_both_5 (sp_gX6 m) (f 0) (f 1) (f 2) (f 3) (f 4) (f 5) (nI (160 * q)) (nI R) tx fm v0 h t ta (nI k) 0 ft w = some (v, h', t', ta', op', 1, ft', w') ∧ (ft' = nI p' ∨ (p' = r ∧ ft' = nI R))) := by
  have h1 := X.1
  have h2 := X.2.1
  intro d
  induction d with
  | zero =>
    intro tv p ax mk mk0 st u fc fm hd C hm h0 hu hfc hfm
    have hx : ∀ o, o ≤ 10027 → ¬ tv = o := by
      intro o ho e
      obtain ⟨e, e1, e2, _⟩ := ct_e C (by omega)
      omega
    exact Or.inl (stp_A X tv p ax mk mk0 st u fc fm (hx 10014 (by omega)) C (by omega) (by omega))
  | succ d ih =>
    intro tv p ax mk mk0 st u fc fm hd C hm h0 hu hfc hfm
    by_cases n0 : tv = 10014
    · subst n0
      obtain ⟨e, e1, e2, rfl⟩ := ct_e C (by omega)
      obtain ⟨tv1, p1, ax1, x2, C1, hp1, x6⟩ := lex X e2
      obtain ⟨c, rfl⟩ : ∃ m, fc = m + 1 := ⟨fc - 1, by omega⟩
      obtain ⟨mm, rfl⟩ : ∃ m, fm = m + 1 := ⟨fm - 1, by omega⟩
      have hu160 : ¬ (160 : Int32) ≤ nI u := nI_ge (b := 160) (by omega) (by decide)
      have rf : ∀ (f : Nat → Int32) v0 h t ta w ft, TK tx q R 10014 p (nI e) h t ta w → ∃ h1 t1 ta1 w1, TK tx q R tv1 p1 ax1 h1 t1 ta1 w1 ∧ sp_X6_both_5 (sp_gX6 m) (f 0) (f 1) (f 2) (f 3) (f 4) (f 5) (nI (160 * q)) (nI R) tx (mm + 1) v0 h t ta (nI k) 0 ft w = (sp_gX6 m 2 (f 0) (f 1) (f 2) (f 3) (f 4) (f 5) (nI (160 * q)) (nI R) h1 t1 ta1 (nI k) 0 ft w1 tx).bind fun r4 => if v0 = 0 then sp_X6_both_5 (sp_gX6 m) (f 0) (f 1) (f 2) (f 3) (f 4) (f 5) (nI (160 * q)) (nI R) tx mm 0 r4.2.1 r4.2.2.1 r4.2.2.2.1 r4.2.2.2.2.1 r4.2.2.2.2.2.1 r4.2.2.2.2.2.2.1 r4.2.2.2.2.2.2.2 else if r4.1 = 0 then sp_X6_both_5 (sp_gX6 m) (f 0) (f 1) (f 2) (f 3) (f 4) (f 5) (nI (160 * q)) (nI R) tx mm 0 r4.2.1 r4.2.2.1 r4.2.2.2.1 r4.2.2.2.2.1 r4.2.2.2.2.2.1 r4.2.2.2.2.2.2.1 r4.2.2.2.2.2.2.2 else sp_X6_both_5 (sp_gX6 m) (f 0) (f 1) (f 2) (f 3) (f 4) (f 5) (nI (160 * q)) (nI R) tx mm 1 r4.2.1 r4.2.2.1 r4.2.2.2.1 r4.2.2.2.2.1 r4.2.2.2.2.2.1 r4.2.2.2.2.2.2.1 r4.2.2.2.2.2.2.2 := by
        intro f v0 h t ta w ft H
        obtain ⟨h1, t1, ta1, w1, y1, y2⟩ := x6 t ta w
        refine ⟨h1, t1, ta1, w1, y2, ?_⟩
        have hh : h = nI e := tk_h H (by omega)
        rw [sp_X6_both_5, show sp_X6_isWord 97 110 100 0 0 0 0 0 (nI (160 * q)) (nI R) h t ta 0 tx = some (bI (decide (10014 = 10014))) from tk_w H (x := ([97, 110, 100], 10014)) (by decide), decide_eq_true rfl, ob_s, if_neg bt0]
        rw [hh, y1, ob_s]
      rcases HA tv1 p1 ax1 mk st C1 (by omega) with ⟨tv2, p2, ax2, mk2, st2, a1, a2, a3, a4, a5, a6, a7⟩ | ⟨c2, p2, c4, c5, c6, c7, a1, a2, a3⟩
      · have hp2 := a2.1
        have cl : sp_X2_readsAnd_11 (sp_gX2 n) (nI r) tp (c + 1) (nI u) (nI 10014) (nI p) (nI e) (nI k) (nI mk) st = sp_X2_readsAnd_11 (sp_gX2 n) (nI r) tp c (nI (u + 1)) (nI tv2) (nI p2) ax2 (nI k) (nI (mk2 + 1)) (upd st2 mk2 10014) := by
          rw [sp_X2_readsAnd_11, if_neg hu160, if_pos (show nI 10014 = (10014 : Int32) from rfl), x2, ob_s, a1, ob_s, if_neg one0, mk_go (by omega), ob_s, nI_1]
        rcases ih tv2 p2 ax2 (mk2 + 1) mk0 (upd st2 mk2 10014) (u + 1) c mm (by omega) a2 (by omega) (by omega) (by omega) (by omega) (by omega) with ⟨tv3, p3, ax3, mk3, st3, b1, b2, b3, b4, b5, b6, b7⟩ | ⟨d2, p3, d4, d5, d6, d7, b1, b2, b3⟩
        · left
          refine ⟨tv3, p3, ax3, mk3, st3, by rw [cl, b1], b2, by omega, by omega, by omega, fun j hj => by rw [b6 j (by omega), pk_un (by omega), a6 j hj], fun f v0 E => ?_⟩
          obtain ⟨v1, E1, s1⟩ := a7 f
          have E2 : EM f (upd st2 mk2 10014) mk0 (mk2 + 1) (sp_X4_joined (nI 10014) v0 v1) := em_bin (em_congr E (fun j j1 j2 => by rw [pk_un (by omega), a6 j j2])) (em_congr E1 (fun j j1 j2 => pk_un (by omega))) pk_us (by omega)
          obtain ⟨v, E3, s3⟩ := b7 f _ E2
          refine ⟨v, E3, fun h t ta w ft H => ?_⟩
          obtain ⟨h1', t1', ta1', w1', H1, rr⟩ := rf f v0 h t ta w ft H
          obtain ⟨h2', t2', ta2', w2', ft2', g2, H2⟩ := s1 _ _ _ _ ft H1
          obtain ⟨h3', t3', ta3', w3', ft3', g3, H3⟩ := s3 _ _ _ _ ft2' H2
          refine ⟨h3', t3', ta3', w3', ft3', ?_, H3⟩
          rw [rr, g2, ob_s]
          rw [jn_and] at g3
          dsimp only
          by_cases z0 : v0 = 0
          · rw [if_pos z0] at g3; rw [if_pos z0]; exact g3
          · by_cases z1 : v1 = 0
            · rw [if_neg z0, if_pos z1] at g3; rw [if_neg z0, if_pos z1]; exact g3
            · rw [if_neg z0, if_neg z1] at g3; rw [if_neg z0, if_neg z1]; exact g3
        · right
          refine ⟨d2, p3, d4, d5, d6, d7, by rw [cl, b1], b2, fun f v0 h t ta w ft H => ?_⟩
          obtain ⟨v1, E1, s1⟩ := a7 f
          obtain ⟨h1', t1', ta1', w1', H1, rr⟩ := rf f v0 h t ta w ft H
          obtain ⟨h2', t2', ta2', w2', ft2', g2, H2⟩ := s1 _ _ _ _ ft H1
          obtain ⟨v, h3', t3', ta3', op3', ft3', w3', g3, g4⟩ := b3 f (sp_X4_joined (nI 10014) v0 v1) _ _ _ _ ft2' H2
          refine ⟨v, h3', t3', ta3', op3', ft3', w3', ?_, g4⟩
          rw [rr, g2, ob_s]
          rw [jn_and] at g3
          dsimp only
          by_cases z0 : v0 = 0
          · rw [if_pos z0] at g3; rw [if_pos z0]; exact g3
          · by_cases z1 : v1 = 0
            · rw [if_neg z0, if_pos z1] at g3; rw [if_neg z0, if_pos z1]; exact g3
            · rw [if_neg z0, if_neg z1] at g3; rw [if_neg z0, if_neg z1]; exact g3
      · right
        refine ⟨c2, p2, c4, c5, c6, c7, ?_, a2, fun f v0 h t ta w ft H => ?_⟩
        · rw [sp_X2_readsAnd_11, if_neg hu160, if_pos (show nI 10014 = (10014 : Int32) from rfl), x2, ob_s, a1, ob_s, if_pos rfl]
        · obtain ⟨h1', t1', ta1', w1', H1, rr⟩ := rf f v0 h t ta w ft H
          obtain ⟨v1, h2', t2', ta2', op2', ft2', w2', g2, g3⟩ := a3 f _ _ _ _ ft H1
          obtain ⟨m3, rfl⟩ : ∃ m, mm = m + 1 := ⟨mm - 1, by omega⟩
          rw [rr, g2, ob_s]
          dsimp only
          by_cases z0 : v0 = 0
          · rw [if_pos z0, bd_A]; exact ⟨_, _, _, _, _, _, _, rfl, g3⟩
          · by_cases z1 : v1 = 0
            · rw [if_neg z0, if_pos z1, bd_A]; exact ⟨_, _, _, _, _, _, _, rfl, g3⟩
            · rw [if_neg z0, if_neg z1, bd_A]; exact ⟨_, _, _, _, _, _, _, rfl, g3⟩
    exact Or.inl (stp_A X tv p ax mk mk0 st u fc fm n0 C (by omega) (by omega))
theorem si_A {tp tx : Nat → Int32} {q r R : Nat} (X : TX tp tx q r R) {k n m : Nat} (HA : SIM tp tx q r R k n 2 m 2) : SIM tp tx q r R k (n + 1) 1 (m + 1) 1 := by
  have h1 := X.1
  have h2 := X.2.1
  intro tv p ax mk st C hm
  have cl : sp_gX2 (n + 1) 1 (nI r) (nI tv) (nI p) ax (nI k) (nI mk) tp st = sp_X2_readsAnd (sp_gX2 n) (nI r) (nI tv) (nI p) ax (nI k) (nI mk) tp st := rfl
  have rc : ∀ (f : Nat → Int32) h t ta w ft, sp_gX6 (m + 1) 1 (f 0) (f 1) (f 2) (f 3) (f 4) (f 5) (nI (160 * q)) (nI R) h t ta (nI k) 0 ft w tx = sp_X6_both (sp_gX6 m) (f 0) (f 1) (f 2) (f 3) (f 4) (f 5) (nI (160 * q)) (nI R) h t ta (nI k) 0 ft w tx := fun _ _ _ _ _ _ => rfl
  rcases HA tv p ax mk st C hm with ⟨tv1, p1, ax1, mk1, st1, a1, a2, a3, a4, a5, a6, a7⟩ | ⟨c2, p1, c4, c5, c6, c7, a1, a2, a3⟩
  · have LP := lp_A X HA r tv1 p1 ax1 mk1 mk st1 0 5000 5000 (by omega) a2 (by omega) a4 (by omega) (by omega) (by omega)
    rw [nI_0] at LP
    rcases LP with ⟨tv2, p2, ax2, mk2, st2, b1, b2, b3, b4, b5, b6, b7⟩ | ⟨d2, p2, d4, d5, d6, d7, b1, b2, b3⟩
    · left
      refine ⟨tv2, p2, ax2, mk2, st2, ?_, b2, by omega, by omega, by omega, fun j hj => by rw [b6 j (by omega), a6 j hj], fun f => ?_⟩
      · rw [cl]
        unfold sp_X2_readsAnd
        rw [a1, ob_s, if_neg one0, b1]
      · obtain ⟨v1, E1, s1⟩ := a7 f
        obtain ⟨v, E2, s2⟩ := b7 f v1 E1
        refine ⟨v, E2, fun h t ta w ft H => ?_⟩
        obtain ⟨h1', t1', ta1', w1', ft1', g1, H1⟩ := s1 h t ta w ft H
        obtain ⟨h2', t2', ta2', w2', ft2', g2, H2⟩ := s2 _ _ _ _ ft1' H1
        refine ⟨h2', t2', ta2', w2', ft2', ?_, H2⟩
        rw [rc]
        unfold sp_X6_both
        rw [g1, ob_s]
        exact g2
    · right
      refine ⟨d2, p2, d4, d5, d6, d7, ?_, b2, fun f h t ta w ft H => ?_⟩
      · rw [cl]
        unfold sp_X2_readsAnd
        rw [a1, ob_s, if_neg one0, b1]
      · obtain ⟨v1, E1, s1⟩ := a7 f
        obtain ⟨h1', t1', ta1', w1', ft1', g1, H1⟩ := s1 h t ta w ft H
        obtain ⟨v, h2', t2', ta2', op2', ft2', w2', g2, g3⟩ := b3 f v1 _ _ _ _ ft1' H1
        refine ⟨v, h2', t2', ta2', op2', ft2', w2', ?_, g3⟩
        rw [rc]
        unfold sp_X6_both
        rw [g1, ob_s]
        exact g2
  · right
    refine ⟨c2, p1, c4, c5, c6, c7, ?_, a2, fun f h t ta w ft H => ?_⟩
    · rw [cl]
      unfold sp_X2_readsAnd
      rw [a1, ob_s, if_pos rfl]
    · obtain ⟨v1, h1', t1', ta1', op1', ft1', w1', g1, g2⟩ := a3 f h t ta w ft H
      refine ⟨v1, h1', t1', ta1', op1', ft1', w1', ?_, g2⟩
      rw [rc]
      unfold sp_X6_both
      rw [g1, ob_s]
      exact bd_A f 4999 v1 h1' t1' ta1' op1' ft1' w1'
theorem bd_E {tx : Nat → Int32} {q R m : Nat} (f : Nat → Int32) (fm : Nat) (v0 h t ta o ft : Int32) (w : Int64) : sp_X6_either_5 (sp_gX6 m) (f 0) (f 1) (f 2) (f 3) (f 4) (f 5) (nI (160 * q)) (nI R) tx (fm + 1) v0 h t ta o 1 ft w = some (v0, h, t, ta, o, 1, ft, w) := by
  rw [sp_X6_either_5, show sp_X6_isWord 111 114 0 0 0 0 0 0 (nI (160 * q)) (nI R) h t ta 1 tx = some 0 from iw_bad [111, 114] _ _ _ _ _ _, ob_s, if_pos rfl]
theorem stp_E {tp tx : Nat → Int32} {q r R : Nat} (X : TX tp tx q r R) {k n m : Nat} : ∀ (tv p : Nat) (ax : Int32) (mk mk0 : Nat) (st : Nat → Int32) (u fc fm : Nat), ¬ tv = 10013 → CT r tv p ax → 1 ≤ fc → 1 ≤ fm → (∃ (tv' p' : Nat) (ax' : Int32) (mk' : Nat) (st' : Nat → Int32), sp_X2_readsE_11 (sp_gX2 n) (nI r) tp fc (nI u) (nI tv) (nI p) ax (nI k) (nI mk) st = some (1, nI tv', nI p', ax', nI k, nI mk', st') ∧ CT r tv' p' ax' ∧ p ≤ p' ∧ mk ≤ mk' ∧ mk' + p ≤ mk + p' ∧ (∀ j, j < mk → st' j = st j) ∧ ∀ (f : Nat → Int32) v0, EM f st mk0 mk v0 → ∃ v, EM f st' mk0 mk' v ∧ ∀ h t ta w ft, TK tx q R tv p ax h t ta w → ∃ h' t' ta' w' ft', sp_X6_either_5 (sp_gX6 m) (f 0) (f 1) (f 2) (f 3) (f 4) (f 5) (nI (160 * q)) (nI R) tx fm v0 h t ta (nI k) 0 ft w = some (v, h', t', ta', nI k, 0, ft', w') ∧ TK tx q R tv' p' ax' h' t' ta' w') := by
  intro tv p ax mk mk0 st u fc fm n0 C hfc hfm
  have tl := ct_le C
  obtain ⟨c, rfl⟩ : ∃ m, fc = m + 1 := ⟨fc - 1, by omega⟩
  obtain ⟨m', rfl⟩ : ∃ m, fm = m + 1 := ⟨fm - 1, by omega⟩
  refine ⟨tv, p, ax, mk, st, ?_, C, Nat.le_refl _, Nat.le_refl _, Nat.le_refl _, fun j _ => rfl, fun f v0 E => ⟨v0, E, fun h t ta w ft H => ⟨h, t, ta, w, ft, ?_, H⟩⟩⟩
  · rw [sp_X2_readsE_11]
    by_cases z : (160 : Int32) ≤ nI u
    · rw [if_pos z]
    · rw [if_neg z, if_neg (show ¬ nI tv = (10013 : Int32) from tne (c := 10013) n0 (by omega) (by decide))]
  · rw [sp_X6_either_5, show sp_X6_isWord 111 114 0 0 0 0 0 0 (nI (160 * q)) (nI R) h t ta 0 tx = some (bI (decide (tv = 10013))) from tk_w H (x := ([111, 114], 10013)) (by decide), decide_eq_false n0, ob_s, if_pos bf0]
theorem lp_E {tp tx : Nat → Int32} {q r R : Nat} (X : TX tp tx q r R) {k n m : Nat} (HA : SIM tp tx q r R k n 1 m 1) : ∀ (d tv p : Nat) (ax : Int32) (mk mk0 : Nat) (st : Nat → Int32) (u fc fm : Nat), r ≤ p + d → CT r tv p ax → mk ≤ p → mk0 < mk → u ≤ p → d + 2 ≤ fc → d + 2 ≤ fm → (∃ (tv' p' : Nat) (ax' : Int32) (mk' : Nat) (st' : Nat → Int32), sp_X2_readsE_11 (sp_gX2 n) (nI r) tp fc (nI u) (nI tv) (nI p) ax (nI k) (nI mk) st = some (1, nI tv', nI p', ax', nI k, nI mk', st') ∧ CT r tv' p' ax' ∧ p ≤ p' ∧ mk ≤ mk' ∧ mk' + p ≤ mk + p' ∧ (∀ j, j < mk → st' j = st j) ∧ ∀ (f : Nat → Int32) v0, EM f st mk0 mk v0 → ∃ v, EM f st' mk0 mk' v ∧ ∀ h t ta w ft, TK tx q R tv p ax h t ta w → ∃ h' t' ta' w' ft', sp_X6_either_5 (sp_gX6 m) (f 0) (f 1) (f 2) (f 3) (f 4) (f 5) (nI (160 * q)) (nI R) tx fm v0 h t ta (nI k) 0 ft w = some (v, h', t', ta', nI k, 0, ft', w') ∧ TK tx q R tv' p' ax' h' t' ta' w') ∨ (∃ (c2 : Int32) (p' : Nat) (c4 c5 c6 : Int32) (c7 : Nat → Int32), sp_X2_readsE_11 (sp_gX2 n) (nI r) tp fc (nI u) (nI tv) (nI p) ax (nI k) (nI mk) st = some (0, c2, nI p', c4, c5, c6, c7) ∧ p' ≤ r ∧ ∀ (f : Nat → Int32) v0 h t ta w ft, TK tx q R tv p ax h t ta w → ∃ v h' t' ta' op' ft' w', sp_X6_either_5 (sp_gX6 m) (f 0) (f 1) (f 2) (f 3) (f 4) (f 5) (nI (160 * q)) (nI R) tx fm v0 h t ta (nI k) 0 ft w = some (v, h', t', ta', op', 1, ft', w') ∧ (ft' = nI p' ∨ (p' = r ∧ ft' = nI R))) := by
  have h1 := X.1
  have h2 := X.2.1
  intro d
  induction d with
  | zero =>
    intro tv p ax mk mk0 st u fc fm hd C hm h0 hu hfc hfm
    have hx : ∀ o, o ≤ 10027 → ¬ tv = o := by
      intro o ho e
      obtain ⟨e, e1, e2, _⟩ := ct_e C (by omega)
      omega
    exact Or.inl (stp_E X tv p ax mk mk0 st u fc fm (hx 10013 (by omega)) C (by omega) (by omega))
  | succ d ih =>
    intro tv p ax mk mk0 st u fc fm hd C hm h0 hu hfc hfm
    by_cases n0 : tv = 10013
    · subst n0
      obtain ⟨e, e1, e2, rfl⟩ := ct_e C (by omega)
      obtain ⟨tv1, p1, ax1, x2, C1, hp1, x6⟩ := lex X e2
      obtain ⟨c, rfl⟩ : ∃ m, fc = m + 1 := ⟨fc - 1, by omega⟩
      obtain ⟨mm, rfl⟩ : ∃ m, fm = m + 1 := ⟨fm - 1, by omega⟩
      have hu160 : ¬ (160 : Int32) ≤ nI u := nI_ge (b := 160) (by omega) (by decide)
      have rf : ∀ (f : Nat → Int32) v0 h t ta w ft, TK tx q R 10013 p (nI e) h t ta w → ∃ h1 t1 ta1 w1, TK tx q R tv1 p1 ax1 h1 t1 ta1 w1 ∧ sp_X6_either_5 (sp_gX6 m) (f 0) (f 1) (f 2) (f 3) (f 4) (f 5) (nI (160 * q)) (nI R) tx (mm + 1) v0 h t ta (nI k) 0 ft w = (sp_gX6 m 1 (f 0) (f 1) (f 2) (f 3) (f 4) (f 5) (nI (160 * q)) (nI R) h1 t1 ta1 (nI k) 0 ft w1 tx).bind fun r4 => if v0 = 0 then (if r4.1 = 0 then sp_X6_either_5 (sp_gX6 m) (f 0) (f 1) (f 2) (f 3) (f 4) (f 5) (nI (160 * q)) (nI R) tx mm 0 r4.2.1 r4.2.2.1 r4.2.2.2.1 r4.2.2.2.2.1 r4.2.2.2.2.2.1 r4.2.2.2.2.2.2.1 r4.2.2.2.2.2.2.2 else sp_X6_either_5 (sp_gX6 m) (f 0) (f 1) (f 2) (f 3) (f 4) (f 5) (nI (160 * q)) (nI R) tx mm 1 r4.2.1 r4.2.2.1 r4.2.2.2.1 r4.2.2.2.2.1 r4.2.2.2.2.2.1 r4.2.2.2.2.2.2.1 r4.2.2.2.2.2.2.2) else sp_X6_either_5 (sp_gX6 m) (f 0) (f 1) (f 2) (f 3) (f 4) (f 5) (nI (160 * q)) (nI R) tx mm 1 r4.2.1 r4.2.2.1 r4.2.2.2.1 r4.2.2.2.2.1 r4.2.2.2.2.2.1 r4.2.2.2.2.2.2.1 r4.2.2.2.2.2.2.2 := by
        intro f v0 h t ta w ft H
        obtain ⟨h1, t1, ta1, w1, y1, y2⟩ := x6 t ta w
        refine ⟨h1, t1, ta1, w1, y2, ?_⟩
        have hh : h = nI e := tk_h H (by omega)
        rw [sp_X6_either_5, show sp_X6_isWord 111 114 0 0 0 0 0 0 (nI (160 * q)) (nI R) h t ta 0 tx = some (bI (decide (10013 = 10013))) from tk_w H (x := ([111, 114], 10013)) (by decide), decide_eq_true rfl, ob_s, if_neg bt0]
        rw [hh, y1, ob_s]
      rcases HA tv1 p1 ax1 mk st C1 (by omega) with ⟨tv2, p2, ax2, mk2, st2, a1, a2, a3, a4, a5, a6, a7⟩ | ⟨c2, p2, c4, c5, c6, c7, a1, a2, a3⟩
      · have hp2 := a2.1
        have cl : sp_X2_readsE_11 (sp_gX2 n) (nI r) tp (c + 1) (nI u) (nI 10013) (nI p) (nI e) (nI k) (nI mk) st = sp_X2_readsE_11 (sp_gX2 n) (nI r) tp c (nI (u + 1)) (nI tv2) (nI p2) ax2 (nI k) (nI (mk2 + 1)) (upd st2 mk2 10013) := by
          rw [sp_X2_readsE_11, if_neg hu160, if_pos (show nI 10013 = (10013 : Int32) from rfl), x2, ob_s, a1, ob_s, if_neg one0, mk_go (by omega), ob_s, nI_1]
        rcases ih tv2 p2 ax2 (mk2 + 1) mk0 (upd st2 mk2 10013) (u + 1) c mm (by omega) a2 (by omega) (by omega) (by omega) (by omega) (by omega) with ⟨tv3, p3, ax3, mk3, st3, b1, b2, b3, b4, b5, b6, b7⟩ | ⟨d2, p3, d4, d5, d6, d7, b1, b2, b3⟩
        · left
          refine ⟨tv3, p3, ax3, mk3, st3, by rw [cl, b1], b2, by omega, by omega, by omega, fun j hj => by rw [b6 j (by omega), pk_un (by omega), a6 j hj], fun f v0 E => ?_⟩
          obtain ⟨v1, E1, s1⟩ := a7 f
          have E2 : EM f (upd st2 mk2 10013) mk0 (mk2 + 1) (sp_X4_joined (nI 10013) v0 v1) := em_bin (em_congr E (fun j j1 j2 => by rw [pk_un (by omega), a6 j j2])) (em_congr E1 (fun j j1 j2 => pk_un (by omega))) pk_us (by omega)
          obtain ⟨v, E3, s3⟩ := b7 f _ E2
          refine ⟨v, E3, fun h t ta w ft H => ?_⟩
          obtain ⟨h1', t1', ta1', w1', H1, rr⟩ := rf f v0 h t ta w ft H
          obtain ⟨h2', t2', ta2', w2', ft2', g2, H2⟩ := s1 _ _ _ _ ft H1
          obtain ⟨h3', t3', ta3', w3', ft3', g3, H3⟩ := s3 _ _ _ _ ft2' H2
          refine ⟨h3', t3', ta3', w3', ft3', ?_, H3⟩
          rw [rr, g2, ob_s]
          rw [jn_or] at g3
          dsimp only
          by_cases z0 : v0 = 0
          · by_cases z1 : v1 = 0
            · rw [if_pos z0, if_pos z1] at g3; rw [if_pos z0, if_pos z1]; exact g3
            · rw [if_pos z0, if_neg z1] at g3; rw [if_pos z0, if_neg z1]; exact g3
          · rw [if_neg z0] at g3; rw [if_neg z0]; exact g3
        · right
          refine ⟨d2, p3, d4, d5, d6, d7, by rw [cl, b1], b2, fun f v0 h t ta w ft H => ?_⟩
          obtain ⟨v1, E1, s1⟩ := a7 f
          obtain ⟨h1', t1', ta1', w1', H1, rr⟩ := rf f v0 h t ta w ft H
          obtain ⟨h2', t2', ta2', w2', ft2', g2, H2⟩ := s1 _ _ _ _ ft H1
          obtain ⟨v, h3', t3', ta3', op3', ft3', w3', g3, g4⟩ := b3 f (sp_X4_joined (nI 10013) v0 v1) _ _ _ _ ft2' H2
          refine ⟨v, h3', t3', ta3', op3', ft3', w3', ?_, g4⟩
          rw [rr, g2, ob_s]
          rw [jn_or] at g3
          dsimp only
          by_cases z0 : v0 = 0
          · by_cases z1 : v1 = 0
            · rw [if_pos z0, if_pos z1] at g3; rw [if_pos z0, if_pos z1]; exact g3
            · rw [if_pos z0, if_neg z1] at g3; rw [if_pos z0, if_neg z1]; exact g3
          · rw [if_neg z0] at g3; rw [if_neg z0]; exact g3
      · right
        refine ⟨c2, p2, c4, c5, c6, c7, ?_, a2, fun f v0 h t ta w ft H => ?_⟩
        · rw [sp_X2_readsE_11, if_neg hu160, if_pos (show nI 10013 = (10013 : Int32) from rfl), x2, ob_s, a1, ob_s, if_pos rfl]
        · obtain ⟨h1', t1', ta1', w1', H1, rr⟩ := rf f v0 h t ta w ft H
          obtain ⟨v1, h2', t2', ta2', op2', ft2', w2', g2, g3⟩ := a3 f _ _ _ _ ft H1
          obtain ⟨m3, rfl⟩ : ∃ m, mm = m + 1 := ⟨mm - 1, by omega⟩
          rw [rr, g2, ob_s]
          dsimp only
          by_cases z0 : v0 = 0
          · by_cases z1 : v1 = 0
            · rw [if_pos z0, if_pos z1, bd_E]; exact ⟨_, _, _, _, _, _, _, rfl, g3⟩
            · rw [if_pos z0, if_neg z1, bd_E]; exact ⟨_, _, _, _, _, _, _, rfl, g3⟩
          · rw [if_neg z0, bd_E]; exact ⟨_, _, _, _, _, _, _, rfl, g3⟩
    exact Or.inl (stp_E X tv p ax mk mk0 st u fc fm n0 C (by omega) (by omega))
theorem si_E {tp tx : Nat → Int32} {q r R : Nat} (X : TX tp tx q r R) {k n m : Nat} (HA : SIM tp tx q r R k n 1 m 1) : SIM tp tx q r R k (n + 1) 0 (m + 1) 0 := by
  have h1 := X.1
  have h2 := X.2.1
  intro tv p ax mk st C hm
  have cl : sp_gX2 (n + 1) 0 (nI r) (nI tv) (nI p) ax (nI k) (nI mk) tp st = sp_X2_readsE (sp_gX2 n) (nI r) (nI tv) (nI p) ax (nI k) (nI mk) tp st := rfl
  have rc : ∀ (f : Nat → Int32) h t ta w ft, sp_gX6 (m + 1) 0 (f 0) (f 1) (f 2) (f 3) (f 4) (f 5) (nI (160 * q)) (nI R) h t ta (nI k) 0 ft w tx = sp_X6_either (sp_gX6 m) (f 0) (f 1) (f 2) (f 3) (f 4) (f 5) (nI (160 * q)) (nI R) h t ta (nI k) 0 ft w tx := fun _ _ _ _ _ _ => rfl
  rcases HA tv p ax mk st C hm with ⟨tv1, p1, ax1, mk1, st1, a1, a2, a3, a4, a5, a6, a7⟩ | ⟨c2, p1, c4, c5, c6, c7, a1, a2, a3⟩
  · have LP := lp_E X HA r tv1 p1 ax1 mk1 mk st1 0 5000 5000 (by omega) a2 (by omega) a4 (by omega) (by omega) (by omega)
    rw [nI_0] at LP
    rcases LP with ⟨tv2, p2, ax2, mk2, st2, b1, b2, b3, b4, b5, b6, b7⟩ | ⟨d2, p2, d4, d5, d6, d7, b1, b2, b3⟩
    · left
      refine ⟨tv2, p2, ax2, mk2, st2, ?_, b2, by omega, by omega, by omega, fun j hj => by rw [b6 j (by omega), a6 j hj], fun f => ?_⟩
      · rw [cl]
        unfold sp_X2_readsE
        rw [a1, ob_s, if_neg one0, b1]
      · obtain ⟨v1, E1, s1⟩ := a7 f
        obtain ⟨v, E2, s2⟩ := b7 f v1 E1
        refine ⟨v, E2, fun h t ta w ft H => ?_⟩
        obtain ⟨h1', t1', ta1', w1', ft1', g1, H1⟩ := s1 h t ta w ft H
        obtain ⟨h2', t2', ta2', w2', ft2', g2, H2⟩ := s2 _ _ _ _ ft1' H1
        refine ⟨h2', t2', ta2', w2', ft2', ?_, H2⟩
        rw [rc]
        unfold sp_X6_either
        rw [g1, ob_s]
        exact g2
    · right
      refine ⟨d2, p2, d4, d5, d6, d7, ?_, b2, fun f h t ta w ft H => ?_⟩
      · rw [cl]
        unfold sp_X2_readsE
        rw [a1, ob_s, if_neg one0, b1]
      · obtain ⟨v1, E1, s1⟩ := a7 f
        obtain ⟨h1', t1', ta1', w1', ft1', g1, H1⟩ := s1 h t ta w ft H
        obtain ⟨v, h2', t2', ta2', op2', ft2', w2', g2, g3⟩ := b3 f v1 _ _ _ _ ft1' H1
        refine ⟨v, h2', t2', ta2', op2', ft2', w2', ?_, g3⟩
        rw [rc]
        unfold sp_X6_either
        rw [g1, ob_s]
        exact g2
  · right
    refine ⟨c2, p1, c4, c5, c6, c7, ?_, a2, fun f h t ta w ft H => ?_⟩
    · rw [cl]
      unfold sp_X2_readsE
      rw [a1, ob_s, if_pos rfl]
    · obtain ⟨v1, h1', t1', ta1', op1', ft1', w1', g1, g2⟩ := a3 f h t ta w ft H
      refine ⟨v1, h1', t1', ta1', op1', ft1', w1', ?_, g2⟩
      rw [rc]
      unfold sp_X6_either
      rw [g1, ob_s]
      exact bd_E f 4999 v1 h1' t1' ta1' op1' ft1' w1'
