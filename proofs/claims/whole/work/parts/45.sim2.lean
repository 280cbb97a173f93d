theorem fl_0 (a b : Int32) : sp_X6_fail a 0 b = (1, a) := rfl
theorem fl_1 (a b : Int32) : sp_X6_fail a 1 b = (1, b) := rfl
theorem nm_6 {tx : Nat → Int32} {q R tv p : Nat} {ax h t ta : Int32} {w : Int64} (H : TK tx q R tv p ax h t ta w) (f : Nat → Int32) (ft : Int32) : sp_X6_name (f 0) (f 1) (f 2) (f 3) (f 4) (f 5) (nI (160 * q)) (nI R) h t ta 0 ft tx = if tv = 10000 then some (f 0, 0, ft) else if tv = 10001 then some (f 1, 0, ft) else if tv = 10002 then some (f 2, 0, ft) else if tv = 10003 then some (f 3, 0, ft) else if tv = 10004 then some (f 4, 0, ft) else if tv = 10005 then some (f 5, 0, ft) else some (0, 1, ta) := by
  unfold sp_X6_name
  have o0 : sp_X6_isWord 110 111 100 101 0 0 0 0 (nI (160 * q)) (nI R) h t ta 0 tx = some (bI (decide (tv = 10000))) := tk_w H (x := ([110, 111, 100, 101], 10000)) (by decide)
  have o1 : sp_X6_isWord 100 101 112 116 104 0 0 0 (nI (160 * q)) (nI R) h t ta 0 tx = some (bI (decide (tv = 10001))) := tk_w H (x := ([100, 101, 112, 116, 104], 10001)) (by decide)
  have o2 : sp_X6_isWord 107 105 100 115 0 0 0 0 (nI (160 * q)) (nI R) h t ta 0 tx = some (bI (decide (tv = 10002))) := tk_w H (x := ([107, 105, 100, 115], 10002)) (by decide)
  have o3 : sp_X6_isWord 116 119 105 103 115 0 0 0 (nI (160 * q)) (nI R) h t ta 0 tx = some (bI (decide (tv = 10003))) := tk_w H (x := ([116, 119, 105, 103, 115], 10003)) (by decide)
  have o4 : sp_X6_isWord 108 97 115 116 0 0 0 0 (nI (160 * q)) (nI R) h t ta 0 tx = some (bI (decide (tv = 10004))) := tk_w H (x := ([108, 97, 115, 116], 10004)) (by decide)
  have o5 : sp_X6_isWord 121 101 97 114 0 0 0 0 (nI (160 * q)) (nI R) h t ta 0 tx = some (bI (decide (tv = 10005))) := tk_w H (x := ([121, 101, 97, 114], 10005)) (by decide)
  rw [o0, ob_s]
  by_cases z0 : tv = 10000
  · rw [decide_eq_true z0, if_neg bt0, if_pos z0]
  rw [decide_eq_false z0, if_pos bf0, if_neg z0]
  rw [o1, ob_s]
  by_cases z1 : tv = 10001
  · rw [decide_eq_true z1, if_neg bt0, if_pos z1]
  rw [decide_eq_false z1, if_pos bf0, if_neg z1]
  rw [o2, ob_s]
  by_cases z2 : tv = 10002
  · rw [decide_eq_true z2, if_neg bt0, if_pos z2]
  rw [decide_eq_false z2, if_pos bf0, if_neg z2]
  rw [o3, ob_s]
  by_cases z3 : tv = 10003
  · rw [decide_eq_true z3, if_neg bt0, if_pos z3]
  rw [decide_eq_false z3, if_pos bf0, if_neg z3]
  rw [o4, ob_s]
  by_cases z4 : tv = 10004
  · rw [decide_eq_true z4, if_neg bt0, if_pos z4]
  rw [decide_eq_false z4, if_pos bf0, if_neg z4]
  rw [o5, ob_s]
  by_cases z5 : tv = 10005
  · rw [decide_eq_true z5, if_neg bt0, if_pos z5]
  rw [decide_eq_false z5, if_pos bf0, if_neg z5]
  rfl
theorem op_5 {q R : Nat} {tx : Nat → Int32} (h t ta ft : Int32) (w : Int64) : sp_X6_opens (nI (160 * q)) (nI R) h t ta (nI 5) 0 ft w tx = some (0, h, t, ta, nI 5, 1, ta, w) := by
  unfold sp_X6_opens
  rw [if_pos (show nI 5 = (5 : Int32) from rfl)]
  rfl
theorem op_k {q R k : Nat} {tx : Nat → Int32} (hk : k < 5) (h t ta ft : Int32) (w : Int64) : sp_X6_opens (nI (160 * q)) (nI R) h t ta (nI k) 0 ft w tx = (sp_X6_next (nI (160 * q)) (nI R) h t ta w tx).bind fun r1 => some (1, r1.1, r1.2.1, r1.2.2.1, nI (k + 1), 0, ft, r1.2.2.2) := by
  unfold sp_X6_opens
  rw [if_neg (show ¬ nI k = (5 : Int32) from tne (c := 5) (by omega) (by omega) (by decide)), nI_1]
/-- a ONE that no - is ahead of -/
theorem si_P {tp tx : Nat → Int32} {q r R : Nat} (X : TX tp tx q r R) {k n m : Nat} (hk : k ≤ 5) (HE : k < 5 → SIM tp tx q r R (k + 1) n 0 m 0) : ∀ (tv p : Nat) (ax : Int32) (mk : Nat) (st : Nat → Int32), CT r tv p ax → mk ≤ p → (¬ tv = 10024 ∨ k = 5) → SOK tp tx q r R k (n + 1) 7 (m + 1) 5 tv p ax mk st ∨ SFL tp tx q r R k (n + 1) 7 (m + 1) 5 tv p ax mk st := by
  have h1 := X.1
  have h2 := X.2.1
  intro tv p ax mk st C hm hdue
  have tl := ct_le C
  have cl : sp_gX2 (n + 1) 7 (nI r) (nI tv) (nI p) ax (nI k) (nI mk) tp st = sp_X2_readsPlainOne (sp_gX2 n) (nI r) (nI tv) (nI p) ax (nI k) (nI mk) tp st := rfl
  have rc : ∀ (f : Nat → Int32) h t ta w ft, sp_gX6 (m + 1) 5 (f 0) (f 1) (f 2) (f 3) (f 4) (f 5) (nI (160 * q)) (nI R) h t ta (nI k) 0 ft w tx = sp_X6_atom (sp_gX6 m) (f 0) (f 1) (f 2) (f 3) (f 4) (f 5) (nI (160 * q)) (nI R) h t ta (nI k) 0 ft w tx := fun _ _ _ _ _ _ => rfl
  unfold SOK SFL
  rw [cl]
  simp only [rc]
  unfold sp_X2_readsPlainOne
  by_cases s1 : tv ≤ 10005
  · left
    obtain ⟨e, e1, e2, rfl⟩ := ct_e C (by omega)
    obtain ⟨tv1, p1, ax1, x2, C1, hp1, x6⟩ := lex X e2
    rw [if_neg (show ¬ (10006 : Int32) ≤ nI tv from nI_ge (b := 10006) (by omega) (by decide)), mk_go (by omega), ob_s, x2, ob_s]
    refine ⟨tv1, p1, ax1, mk + 1, upd st mk (nI tv), rfl, C1, by omega, by omega, by omega, fun j hj => pk_un (by omega), fun f => ?_⟩
    by_cases s2 : tv ≤ 9999
    · refine ⟨nI tv, em_num pk_us s2, fun h t ta w ft H => ?_⟩
      obtain ⟨h1', t1', ta1', w1', y1, y2⟩ := x6 t ta w
      refine ⟨h1', t1', ta1', w1', ft, ?_, y2⟩
      have hh : h = nI e := tk_h H (by omega)
      rcases tk_2 H with ⟨k1, k2, k3⟩ | ⟨k1, k2⟩
      · unfold sp_X6_atom
        rw [show sp_X6_isSign 45 t 0 w = bI (decide (tv = 10024)) from tk_s H (x := (45, 10024)) (by decide), decide_eq_false (by omega), if_pos bf0, show sp_X6_isSign 40 t 0 w = bI (decide (tv = 10020)) from tk_s H (x := (40, 10020)) (by decide), decide_eq_false (by omega), if_pos bf0, if_pos rfl, if_pos k1, hh, y1, ob_s, k3, lN_i]
      · omega
    · obtain ⟨i, hi, rfl⟩ : ∃ i, i < 6 ∧ tv = 10000 + i := ⟨tv - 10000, by omega, by omega⟩
      refine ⟨f i, em_name pk_us hi, fun h t ta w ft H => ?_⟩
      obtain ⟨h1', t1', ta1', w1', y1, y2⟩ := x6 t ta w
      refine ⟨h1', t1', ta1', w1', ft, ?_, y2⟩
      have hh : h = nI e := tk_h H (by omega)
      have t1 := tk_1 H (by omega) (by omega)
      have nm : sp_X6_name (f 0) (f 1) (f 2) (f 3) (f 4) (f 5) (nI (160 * q)) (nI R) h t ta 0 ft tx = some (f i, 0, ft) := by
        rw [nm_6 H]
        have : i = 0 ∨ i = 1 ∨ i = 2 ∨ i = 3 ∨ i = 4 ∨ i = 5 := by omega
        rcases this with rfl | rfl | rfl | rfl | rfl | rfl <;> rfl
      unfold sp_X6_atom
      rw [show sp_X6_isSign 45 t 0 w = bI (decide (10000 + i = 10024)) from tk_s H (x := (45, 10024)) (by decide), decide_eq_false (by omega), if_pos bf0, show sp_X6_isSign 40 t 0 w = bI (decide (10000 + i = 10020)) from tk_s H (x := (40, 10020)) (by decide), decide_eq_false (by omega), if_pos bf0, if_pos rfl, if_neg (show ¬ t = 2 by rw [t1]; decide), if_pos rfl, if_pos t1, nm, ob_s, if_pos rfl, hh, y1, ob_s]
  · rw [if_pos (show (10006 : Int32) ≤ nI tv from nI_le (a := 10006) (by omega) (by omega))]
    by_cases s2 : tv = 10020
    · subst s2
      rw [if_pos (show nI 10020 = (10020 : Int32) from rfl)]
      by_cases k5 : k < 5
      · rw [if_pos (show nI k < (5 : Int32) from nI_lt (b := 5) k5 (by decide))]
        obtain ⟨e, e1, e2, rfl⟩ := ct_e C (by omega)
        obtain ⟨tv1, p1, ax1, x2, C1, hp1, x6⟩ := lex X e2
        rw [x2, ob_s, nI_1]
        have rf : ∀ (f : Nat → Int32) h t ta w ft, TK tx q R 10020 p (nI e) h t ta w → ∃ h1 t1 ta1 w1, TK tx q R tv1 p1 ax1 h1 t1 ta1 w1 ∧ sp_X6_atom (sp_gX6 m) (f 0) (f 1) (f 2) (f 3) (f 4) (f 5) (nI (160 * q)) (nI R) h t ta (nI k) 0 ft w tx = (sp_gX6 m 0 (f 0) (f 1) (f 2) (f 3) (f 4) (f 5) (nI (160 * q)) (nI R) h1 t1 ta1 (nI (k + 1)) 0 ft w1 tx).bind fun r7 => if (sp_X6_isSign 41 r7.2.2.1 r7.2.2.2.2.2.1 r7.2.2.2.2.2.2.2) = 0 then
          if (sp_X6_fail r7.2.2.2.1 r7.2.2.2.2.2.1 r7.2.2.2.2.2.2.1).1 = 0 then
            (sp_X6_next (nI (160 * q)) (nI R) r7.2.1 r7.2.2.1 r7.2.2.2.1 r7.2.2.2.2.2.2.2 tx).bind fun r9 =>
            some (r7.1, r9.1, r9.2.1, r9.2.2.1, (r7.2.2.2.2.1 - 1), (sp_X6_fail r7.2.2.2.1 r7.2.2.2.2.2.1 r7.2.2.2.2.2.2.1).1, (sp_X6_fail r7.2.2.2.1 r7.2.2.2.2.2.1 r7.2.2.2.2.2.2.1).2, r9.2.2.2)
          else
            some (r7.1, r7.2.1, r7.2.2.1, r7.2.2.2.1, (r7.2.2.2.2.1 - 1), (sp_X6_fail r7.2.2.2.1 r7.2.2.2.2.2.1 r7.2.2.2.2.2.2.1).1, (sp_X6_fail r7.2.2.2.1 r7.2.2.2.2.2.1 r7.2.2.2.2.2.2.1).2, r7.2.2.2.2.2.2.2)
        else
          if r7.2.2.2.2.2.1 = 0 then
            (sp_X6_next (nI (160 * q)) (nI R) r7.2.1 r7.2.2.1 r7.2.2.2.1 r7.2.2.2.2.2.2.2 tx).bind fun r8 =>
            some (r7.1, r8.1, r8.2.1, r8.2.2.1, (r7.2.2.2.2.1 - 1), r7.2.2.2.2.2.1, r7.2.2.2.2.2.2.1, r8.2.2.2)
          else
            some (r7.1, r7.2.1, r7.2.2.1, r7.2.2.2.1, (r7.2.2.2.2.1 - 1), r7.2.2.2.2.2.1, r7.2.2.2.2.2.2.1, r7.2.2.2.2.2.2.2) := by
          intro f h t ta w ft H
          obtain ⟨h1, t1, ta1, w1, y1, y2⟩ := x6 t ta w
          refine ⟨h1, t1, ta1, w1, y2, ?_⟩
          have hh : h = nI e := tk_h H (by omega)
          unfold sp_X6_atom
          rw [show sp_X6_isSign 45 t 0 w = bI (decide (10020 = 10024)) from tk_s H (x := (45, 10024)) (by decide), decide_eq_false (by decide), if_pos bf0, show sp_X6_isSign 40 t 0 w = bI (decide (10020 = 10020)) from tk_s H (x := (40, 10020)) (by decide), decide_eq_true rfl, if_neg bt0, op_k k5, hh, y1, ob_s, ob_s, if_neg one0]
        rcases HE k5 tv1 p1 ax1 mk st C1 (by omega) with ⟨tv2, p2, ax2, mk2, st2, a1, a2, a3, a4, a5, a6, a7⟩ | ⟨c2, p2, c4, c5, c6, c7, a1, a2, a3⟩
        · rw [a1, ob_s, if_neg one0]
          unfold sp_X2_takes
          by_cases s3 : tv2 = 10021
          · subst s3
            left
            obtain ⟨e', e1', e2', rfl⟩ := ct_e a2 (by omega)
            obtain ⟨tv3, p3, ax3, z2, C3, hp3, z6⟩ := lex X e2'
            rw [if_pos (show nI 10021 = (10021 : Int32) from rfl), z2, ob_s, ob_s, if_neg one0, nI_pred]
            refine ⟨tv3, p3, ax3, mk2, st2, rfl, C3, by omega, by omega, by omega, a6, fun f => ?_⟩
            obtain ⟨v1, E1, s1'⟩ := a7 f
            refine ⟨v1, E1, fun h t ta w ft H => ?_⟩
            obtain ⟨h1', t1', ta1', w1', H1, rr⟩ := rf f h t ta w ft H
            obtain ⟨h2', t2', ta2', w2', ft2', g2, H2⟩ := s1' _ _ _ _ ft H1
            obtain ⟨h3', t3', ta3', w3', y1, y2⟩ := z6 t2' ta2' w2'
            refine ⟨h3', t3', ta3', w3', ft2', ?_, y2⟩
            have hh : h2' = nI e' := tk_h H2 (by omega)
            rw [rr, g2, ob_s]
            dsimp only
            rw [show sp_X6_isSign 41 t2' 0 w2' = bI (decide (10021 = 10021)) from tk_s H2 (x := (41, 10021)) (by decide), decide_eq_true rfl, if_neg bt0, if_pos rfl, hh, y1, ob_s, nI_pred]
          · right
            have tl2 := ct_le a2
            rw [if_neg (show ¬ nI tv2 = (10021 : Int32) from tne (c := 10021) s3 (by omega) (by decide)), ob_s, if_pos rfl]
            refine ⟨_, p2, _, _, _, _, rfl, a2.1, fun f h t ta w ft H => ?_⟩
            obtain ⟨v1, E1, s1'⟩ := a7 f
            obtain ⟨h1', t1', ta1', w1', H1, rr⟩ := rf f h t ta w ft H
            obtain ⟨h2', t2', ta2', w2', ft2', g2, H2⟩ := s1' _ _ _ _ ft H1
            rw [rr, g2, ob_s]
            dsimp only
            rw [show sp_X6_isSign 41 t2' 0 w2' = bI (decide (tv2 = 10021)) from tk_s H2 (x := (41, 10021)) (by decide), decide_eq_false s3, if_pos bf0, fl_0, if_neg one0]
            exact ⟨_, _, _, _, _, _, _, rfl, tk_ta H2 a2⟩
        · right
          rw [a1, ob_s, if_pos rfl]
          refine ⟨_, p2, _, _, _, _, rfl, a2, fun f h t ta w ft H => ?_⟩
          obtain ⟨h1', t1', ta1', w1', H1, rr⟩ := rf f h t ta w ft H
          obtain ⟨v1, h2', t2', ta2', op2', ft2', w2', g2, g3⟩ := a3 f _ _ _ _ ft H1
          rw [rr, g2, ob_s]
          dsimp only
          rw [is_bad, if_pos rfl, fl_1, if_neg one0]
          exact ⟨_, _, _, _, _, _, _, rfl, g3⟩
      · right
        have k5' : k = 5 := by omega
        subst k5'
        rw [if_neg (show ¬ nI 5 < (5 : Int32) by decide)]
        refine ⟨_, p, _, _, _, _, rfl, C.1, fun f h t ta w ft H => ?_⟩
        unfold sp_X6_atom
        rw [show sp_X6_isSign 45 t 0 w = bI (decide (10020 = 10024)) from tk_s H (x := (45, 10024)) (by decide), decide_eq_false (by decide), if_pos bf0, show sp_X6_isSign 40 t 0 w = bI (decide (10020 = 10020)) from tk_s H (x := (40, 10020)) (by decide), decide_eq_true rfl, if_neg bt0, op_5, ob_s, if_pos rfl]
        exact ⟨_, _, _, _, _, _, _, rfl, tk_ta H C⟩
    · right
      rw [if_neg (show ¬ nI tv = (10020 : Int32) from tne (c := 10020) s2 (by omega) (by decide))]
      refine ⟨_, p, _, _, _, _, rfl, C.1, fun f h t ta w ft H => ?_⟩
      unfold sp_X6_atom
      by_cases s3 : tv = 10024
      · have k5 : k = 5 := by
          rcases hdue with g | g
          · exact absurd s3 g
          · exact g
        subst k5
        rw [show sp_X6_isSign 45 t 0 w = bI (decide (tv = 10024)) from tk_s H (x := (45, 10024)) (by decide), decide_eq_true s3, if_neg bt0, op_5, ob_s, if_pos rfl]
        exact ⟨_, _, _, _, _, _, _, rfl, tk_ta H C⟩
      · rw [show sp_X6_isSign 45 t 0 w = bI (decide (tv = 10024)) from tk_s H (x := (45, 10024)) (by decide), decide_eq_false s3, if_pos bf0, show sp_X6_isSign 40 t 0 w = bI (decide (tv = 10020)) from tk_s H (x := (40, 10020)) (by decide), decide_eq_false s2, if_pos bf0, if_pos rfl]
        rcases tk_2 H with ⟨_, k2, _⟩ | ⟨k1, k2⟩
        · omega
        · rw [if_neg k1, if_pos rfl]
          by_cases t1 : t = 1
          · rw [if_pos t1, nm_6 H, if_neg (by omega), if_neg (by omega), if_neg (by omega), if_neg (by omega), if_neg (by omega), if_neg (by omega), ob_s, if_neg one0]
            exact ⟨_, _, _, _, _, _, _, rfl, tk_ta H C⟩
          · rw [if_neg t1, fl_0]
            exact ⟨_, _, _, _, _, _, _, rfl, tk_ta H C⟩
theorem oc_N {tp tx : Nat → Int32} {q r R : Nat} (X : TX tp tx q r R) : ∀ (j k tv p : Nat) (ax : Int32), k + j = 5 → CT r tv p ax → ∃ (c tv1 p1 : Nat) (ax1 : Int32), c ≤ j ∧ (∀ b fuel, b ≤ k → j + 1 ≤ fuel → sp_X2_opensAll_5 10024 (nI b) (nI r) tp fuel (nI tv) (nI p) ax (nI k) = some (nI (k + c - b), nI tv1, nI p1, ax1, nI (k + c))) ∧ CT r tv1 p1 ax1 ∧ p + c ≤ p1 ∧ (¬ tv1 = 10024 ∨ k + c = 5) ∧ ∀ (f : Nat → Int32) h t ta w ft, TK tx q R tv p ax h t ta w → ∃ h1 t1 ta1 w1, TK tx q R tv1 p1 ax1 h1 t1 ta1 w1 ∧ ∀ m v h' t' ta' op' bd' ft' w', sp_gX6 m 5 (f 0) (f 1) (f 2) (f 3) (f 4) (f 5) (nI (160 * q)) (nI R) h1 t1 ta1 (nI (k + c)) 0 ft w1 tx = some (v, h', t', ta', op', bd', ft', w') → sp_gX6 (m + c) 5 (f 0) (f 1) (f 2) (f 3) (f 4) (f 5) (nI (160 * q)) (nI R) h t ta (nI k) 0 ft w tx = some (itr (fun v => -v) c v, h', t', ta', op' - nI c, bd', ft', w') := by
  have h1 := X.1
  have h2 := X.2.1
  intro j
  induction j with
  | zero =>
    intro k tv p ax hk C
    have : k = 5 := by omega
    subst this
    refine ⟨0, tv, p, ax, Nat.le_refl _, fun b fuel hb hf => ?_, C, by omega, Or.inr rfl, fun f h t ta w ft H => ⟨h, t, ta, w, H, fun m v h' t' ta' op' bd' ft' w' g => ?_⟩⟩
    · obtain ⟨m, rfl⟩ : ∃ m, fuel = m + 1 := ⟨fuel - 1, by omega⟩
      rw [sp_X2_opensAll_5, if_pos (show (5 : Int32) ≤ nI 5 by decide), pk_sub hb]
    · rw [nI_0, Int32.sub_zero]; exact g
  | succ j ih =>
    intro k tv p ax hk C
    have tl := ct_le C
    have k5 : ¬ (5 : Int32) ≤ nI k := nI_ge (b := 5) (by omega) (by decide)
    by_cases d : tv = 10024
    · subst d
      obtain ⟨e, e1, e2, rfl⟩ := ct_e C (by omega)
      obtain ⟨tv0, p0, ax0, x2, C0, hp0, x6⟩ := lex X e2
      obtain ⟨c, tv1, p1, ax1, i1, i2, i3, i4, i5, i6⟩ := ih (k + 1) tv0 p0 ax0 (by omega) C0
      refine ⟨c + 1, tv1, p1, ax1, by omega, fun b fuel hb hf => ?_, i3, by omega, by omega, fun f h t ta w ft H => ?_⟩
      · obtain ⟨m, rfl⟩ : ∃ m, fuel = m + 1 := ⟨fuel - 1, by omega⟩
        rw [sp_X2_opensAll_5, if_neg k5, if_pos (show nI 10024 = (10024 : Int32) from rfl), x2, ob_s, nI_1, i2 b m (by omega) (by omega), show k + 1 + c - b = k + (c + 1) - b by omega, show k + 1 + c = k + (c + 1) by omega]
      · obtain ⟨h0, t0, ta0, w0, y1, y2⟩ := x6 t ta w
        obtain ⟨h1, t1, ta1, w1, H1, K⟩ := i6 f h0 t0 ta0 w0 ft y2
        refine ⟨h1, t1, ta1, w1, H1, fun m v h' t' ta' op' bd' ft' w' g => ?_⟩
        rw [show k + (c + 1) = k + 1 + c by omega] at g
        have gg := K m v h' t' ta' op' bd' ft' w' g
        have hh : h = nI e := tk_h H (by omega)
        show sp_gX6 (m + c + 1) 5 (f 0) (f 1) (f 2) (f 3) (f 4) (f 5) (nI (160 * q)) (nI R) h t ta (nI k) 0 ft w tx = _
        rw [show sp_gX6 (m + c + 1) 5 (f 0) (f 1) (f 2) (f 3) (f 4) (f 5) (nI (160 * q)) (nI R) h t ta (nI k) 0 ft w tx = sp_X6_atom (sp_gX6 (m + c)) (f 0) (f 1) (f 2) (f 3) (f 4) (f 5) (nI (160 * q)) (nI R) h t ta (nI k) 0 ft w tx from rfl]
        unfold sp_X6_atom
        rw [show sp_X6_isSign 45 t 0 w = bI (decide (10024 = 10024)) from tk_s H (x := (45, 10024)) (by decide), decide_eq_true rfl, if_neg bt0, op_k (by omega), hh, y1, ob_s, ob_s, if_neg one0]
        dsimp only
        rw [gg, ob_s]
        dsimp only
        rw [Int32.sub_sub, nI_1]
        rfl
    · refine ⟨0, tv, p, ax, by omega, fun b fuel hb hf => ?_, C, by omega, Or.inl d, fun f h t ta w ft H => ⟨h, t, ta, w, H, fun m v h' t' ta' op' bd' ft' w' g => ?_⟩⟩
      · obtain ⟨m, rfl⟩ : ∃ m, fuel = m + 1 := ⟨fuel - 1, by omega⟩
        rw [sp_X2_opensAll_5, if_neg k5, if_neg (show ¬ nI tv = (10024 : Int32) from tne (c := 10024) d (by omega) (by decide)), pk_sub hb]
        rfl
      · rw [nI_0, Int32.sub_zero]; exact g
theorem oc_O {tp tx : Nat → Int32} {q r R : Nat} (X : TX tp tx q r R) : ∀ (j k tv p : Nat) (ax : Int32), k + j = 5 → CT r tv p ax → ∃ (c tv1 p1 : Nat) (ax1 : Int32), c ≤ j ∧ (∀ b fuel, b ≤ k → j + 1 ≤ fuel → sp_X2_opensAll_5 10015 (nI b) (nI r) tp fuel (nI tv) (nI p) ax (nI k) = some (nI (k + c - b), nI tv1, nI p1, ax1, nI (k + c))) ∧ CT r tv1 p1 ax1 ∧ p + c ≤ p1 ∧ (¬ tv1 = 10015 ∨ k + c = 5) ∧ ∀ (f : Nat → Int32) h t ta w ft, TK tx q R tv p ax h t ta w → ∃ h1 t1 ta1 w1, TK tx q R tv1 p1 ax1 h1 t1 ta1 w1 ∧ ∀ m v h' t' ta' op' bd' ft' w', sp_gX6 m 2 (f 0) (f 1) (f 2) (f 3) (f 4) (f 5) (nI (160 * q)) (nI R) h1 t1 ta1 (nI (k + c)) 0 ft w1 tx = some (v, h', t', ta', op', bd', ft', w') → sp_gX6 (m + c) 2 (f 0) (f 1) (f 2) (f 3) (f 4) (f 5) (nI (160 * q)) (nI R) h t ta (nI k) 0 ft w tx = some (itr (fun v => if v = 0 then 1 else 0) c v, h', t', ta', op' - nI c, bd', ft', w') := by
  have h1 := X.1
  have h2 := X.2.1
  intro j
  induction j with
  | zero =>
    intro k tv p ax hk C
    have : k = 5 := by omega
    subst this
    refine ⟨0, tv, p, ax, Nat.le_refl _, fun b fuel hb hf => ?_, C, by omega, Or.inr rfl, fun f h t ta w ft H => ⟨h, t, ta, w, H, fun m v h' t' ta' op' bd' ft' w' g => ?_⟩⟩
    · obtain ⟨m, rfl⟩ : ∃ m, fuel = m + 1 := ⟨fuel - 1, by omega⟩
      rw [sp_X2_opensAll_5, if_pos (show (5 : Int32) ≤ nI 5 by decide), pk_sub hb]
    · rw [nI_0, Int32.sub_zero]; exact g
  | succ j ih =>
    intro k tv p ax hk C
    have tl := ct_le C
    have k5 : ¬ (5 : Int32) ≤ nI k := nI_ge (b := 5) (by omega) (by decide)
    by_cases d : tv = 10015
    · subst d
      obtain ⟨e, e1, e2, rfl⟩ := ct_e C (by omega)
      obtain ⟨tv0, p0, ax0, x2, C0, hp0, x6⟩ := lex X e2
      obtain ⟨c, tv1, p1, ax1, i1, i2, i3, i4, i5, i6⟩ := ih (k + 1) tv0 p0 ax0 (by omega) C0
      refine ⟨c + 1, tv1, p1, ax1, by omega, fun b fuel hb hf => ?_, i3, by omega, by omega, fun f h t ta w ft H => ?_⟩
      · obtain ⟨m, rfl⟩ : ∃ m, fuel = m + 1 := ⟨fuel - 1, by omega⟩
        rw [sp_X2_opensAll_5, if_neg k5, if_pos (show nI 10015 = (10015 : Int32) from rfl), x2, ob_s, nI_1, i2 b m (by omega) (by omega), show k + 1 + c - b = k + (c + 1) - b by omega, show k + 1 + c = k + (c + 1) by omega]
      · obtain ⟨h0, t0, ta0, w0, y1, y2⟩ := x6 t ta w
        obtain ⟨h1, t1, ta1, w1, H1, K⟩ := i6 f h0 t0 ta0 w0 ft y2
        refine ⟨h1, t1, ta1, w1, H1, fun m v h' t' ta' op' bd' ft' w' g => ?_⟩
        rw [show k + (c + 1) = k + 1 + c by omega] at g
        have gg := K m v h' t' ta' op' bd' ft' w' g
        have hh : h = nI e := tk_h H (by omega)
        show sp_gX6 (m + c + 1) 2 (f 0) (f 1) (f 2) (f 3) (f 4) (f 5) (nI (160 * q)) (nI R) h t ta (nI k) 0 ft w tx = _
        rw [show sp_gX6 (m + c + 1) 2 (f 0) (f 1) (f 2) (f 3) (f 4) (f 5) (nI (160 * q)) (nI R) h t ta (nI k) 0 ft w tx = sp_X6_not (sp_gX6 (m + c)) (f 0) (f 1) (f 2) (f 3) (f 4) (f 5) (nI (160 * q)) (nI R) h t ta (nI k) 0 ft w tx from rfl]
        unfold sp_X6_not
        rw [show sp_X6_isWord 110 111 116 0 0 0 0 0 (nI (160 * q)) (nI R) h t ta 0 tx = some (bI (decide (10015 = 10015))) from tk_w H (x := ([110, 111, 116], 10015)) (by decide), decide_eq_true rfl, ob_s, if_neg bt0, op_k (by omega), hh, y1, ob_s, ob_s, if_neg one0]
        dsimp only
        rw [gg, ob_s]
        dsimp only
        rw [Int32.sub_sub, nI_1, itr]
        by_cases z : itr (fun v => if v = 0 then 1 else 0) c v = 0
        · rw [if_pos z, if_pos z]
        · rw [if_neg z, if_neg z]
    · refine ⟨0, tv, p, ax, by omega, fun b fuel hb hf => ?_, C, by omega, Or.inl d, fun f h t ta w ft H => ⟨h, t, ta, w, H, fun m v h' t' ta' op' bd' ft' w' g => ?_⟩⟩
      · obtain ⟨m, rfl⟩ : ∃ m, fuel = m + 1 := ⟨fuel - 1, by omega⟩
        rw [sp_X2_opensAll_5, if_neg k5, if_neg (show ¬ nI tv = (10015 : Int32) from tne (c := 10015) d (by omega) (by decide)), pk_sub hb]
        rfl
      · rw [nI_0, Int32.sub_zero]; exact g
theorem si_1 {tp tx : Nat → Int32} {q r R : Nat} (X : TX tp tx q r R) {k n m : Nat} (hk : k ≤ 5) (HP : ∀ c, k + c ≤ 5 → c ≤ m → ∀ (tv p : Nat) (ax : Int32) (mk : Nat) (st : Nat → Int32), CT r tv p ax → mk ≤ p → (¬ tv = 10024 ∨ k + c = 5) → SOK tp tx q r R (k + c) n 7 (m - c) 5 tv p ax mk st ∨ SFL tp tx q r R (k + c) n 7 (m - c) 5 tv p ax mk st) (hm5 : 5 ≤ k + m) : SIM tp tx q r R k (n + 1) 6 m 5 := by
  have h1 := X.1
  have h2 := X.2.1
  intro tv p ax mk st C hm
  have cl : sp_gX2 (n + 1) 6 (nI r) (nI tv) (nI p) ax (nI k) (nI mk) tp st = sp_X2_readsOne (sp_gX2 n) (nI r) (nI tv) (nI p) ax (nI k) (nI mk) tp st := rfl
  obtain ⟨c, tv1, p1, ax1, i1, i2, i3, i4, i5, i6⟩ := oc_N X (5 - k) k tv p ax (by omega) C
  have op : sp_X2_opensAll 10024 (nI r) (nI tv) (nI p) ax (nI k) tp = some (nI c, nI tv1, nI p1, ax1, nI (k + c)) := by
    unfold sp_X2_opensAll
    rw [i2 k 5000 (Nat.le_refl _) (by omega), Nat.add_sub_cancel_left]
  have em : m - c + c = m := by omega
  rcases HP c (by omega) (by omega) tv1 p1 ax1 mk st i3 (by omega) i5 with ⟨tv2, p2, ax2, mk2, st2, a1, a2, a3, a4, a5, a6, a7⟩ | ⟨c2, p2, c4, c5, c6, c7, a1, a2, a3⟩
  · left
    have hp2 := a2.1
    refine ⟨tv2, p2, ax2, mk2 + c, clS 10030 c mk2 st2, ?_, a2, by omega, by omega, by omega, fun j hj => by rw [clS_lo c mk2 st2 j (by omega), a6 j hj], fun f => ?_⟩
    · rw [cl]
      unfold sp_X2_readsOne sp_X2_closes
      have cg := closes_go (o := 10030) (N := c) (by omega) c 0 mk2 (k + c) st2 5000 (by omega) (by omega) (by omega) (by omega)
      rw [nI_0] at cg
      rw [op, ob_s, a1, ob_s, if_neg one0, cg, ob_s, if_neg one0, Nat.add_sub_cancel]
    · obtain ⟨v1, E1, s1⟩ := a7 f
      refine ⟨itr (fun v => -v) c v1, ?_, fun h t ta w ft H => ?_⟩
      · have := cl_em (f := f) (o := 10030) (g := (fun v => -v)) (fun st a b v E e => em_neg E e) c st2 mk mk2 v1 0 E1
        rw [Nat.zero_add] at this
        exact this
      · obtain ⟨h1', t1', ta1', w1', H1, K⟩ := i6 f h t ta w ft H
        obtain ⟨h2', t2', ta2', w2', ft2', g2, H2⟩ := s1 _ _ _ _ ft H1
        have g3 := K _ _ _ _ _ _ _ _ _ g2
        rw [em, pk_sub (by omega), Nat.add_sub_cancel] at g3
        exact ⟨h2', t2', ta2', w2', ft2', g3, H2⟩
  · right
    refine ⟨c2, p2, c4, c5, c6, c7, ?_, a2, fun f h t ta w ft H => ?_⟩
    · rw [cl]
      unfold sp_X2_readsOne
      rw [op, ob_s, a1, ob_s, if_pos rfl]
    · obtain ⟨h1', t1', ta1', w1', H1, K⟩ := i6 f h t ta w ft H
      obtain ⟨v1, h2', t2', ta2', op2', ft2', w2', g2, g3⟩ := a3 f _ _ _ _ ft H1
      have g4 := K _ _ _ _ _ _ _ _ _ g2
      rw [em] at g4
      exact ⟨_, _, _, _, _, _, _, g4, g3⟩
theorem si_N {tp tx : Nat → Int32} {q r R : Nat} (X : TX tp tx q r R) {k n m : Nat} (hk : k ≤ 5) (HP : ∀ c, k + c ≤ 5 → c ≤ m → ∀ (tv p : Nat) (ax : Int32) (mk : Nat) (st : Nat → Int32), CT r tv p ax → mk ≤ p → (¬ tv = 10015 ∨ k + c = 5) → SOK tp tx q r R (k + c) n 3 (m - c) 2 tv p ax mk st ∨ SFL tp tx q r R (k + c) n 3 (m - c) 2 tv p ax mk st) (hm5 : 5 ≤ k + m) : SIM tp tx q r R k (n + 1) 2 m 2 := by
  have h1 := X.1
  have h2 := X.2.1
  intro tv p ax mk st C hm
  have cl : sp_gX2 (n + 1) 2 (nI r) (nI tv) (nI p) ax (nI k) (nI mk) tp st = sp_X2_readsNot (sp_gX2 n) (nI r) (nI tv) (nI p) ax (nI k) (nI mk) tp st := rfl
  obtain ⟨c, tv1, p1, ax1, i1, i2, i3, i4, i5, i6⟩ := oc_O X (5 - k) k tv p ax (by omega) C
  have op : sp_X2_opensAll 10015 (nI r) (nI tv) (nI p) ax (nI k) tp = some (nI c, nI tv1, nI p1, ax1, nI (k + c)) := by
    unfold sp_X2_opensAll
    rw [i2 k 5000 (Nat.le_refl _) (by omega), Nat.add_sub_cancel_left]
  have em : m - c + c = m := by omega
  rcases HP c (by omega) (by omega) tv1 p1 ax1 mk st i3 (by omega) i5 with ⟨tv2, p2, ax2, mk2, st2, a1, a2, a3, a4, a5, a6, a7⟩ | ⟨c2, p2, c4, c5, c6, c7, a1, a2, a3⟩
  · left
    have hp2 := a2.1
    refine ⟨tv2, p2, ax2, mk2 + c, clS 10015 c mk2 st2, ?_, a2, by omega, by omega, by omega, fun j hj => by rw [clS_lo c mk2 st2 j (by omega), a6 j hj], fun f => ?_⟩
    · rw [cl]
      unfold sp_X2_readsNot sp_X2_closes
      have cg := closes_go (o := 10015) (N := c) (by omega) c 0 mk2 (k + c) st2 5000 (by omega) (by omega) (by omega) (by omega)
      rw [nI_0] at cg
      rw [op, ob_s, a1, ob_s, if_neg one0, cg, ob_s, if_neg one0, Nat.add_sub_cancel]
    · obtain ⟨v1, E1, s1⟩ := a7 f
      refine ⟨itr (fun v => if v = 0 then 1 else 0) c v1, ?_, fun h t ta w ft H => ?_⟩
      · have := cl_em (f := f) (o := 10015) (g := (fun v => if v = 0 then 1 else 0)) (fun st a b v E e => em_not E e) c st2 mk mk2 v1 0 E1
        rw [Nat.zero_add] at this
        exact this
      · obtain ⟨h1', t1', ta1', w1', H1, K⟩ := i6 f h t ta w ft H
        obtain ⟨h2', t2', ta2', w2', ft2', g2, H2⟩ := s1 _ _ _ _ ft H1
        have g3 := K _ _ _ _ _ _ _ _ _ g2
        rw [em, pk_sub (by omega), Nat.add_sub_cancel] at g3
        exact ⟨h2', t2', ta2', w2', ft2', g3, H2⟩
  · right
    refine ⟨c2, p2, c4, c5, c6, c7, ?_, a2, fun f h t ta w ft H => ?_⟩
    · rw [cl]
      unfold sp_X2_readsNot
      rw [op, ob_s, a1, ob_s, if_pos rfl]
    · obtain ⟨h1', t1', ta1', w1', H1, K⟩ := i6 f h t ta w ft H
      obtain ⟨v1, h2', t2', ta2', op2', ft2', w2', g2, g3⟩ := a3 f _ _ _ _ ft H1
      have g4 := K _ _ _ _ _ _ _ _ _ g2
      rw [em] at g4
      exact ⟨_, _, _, _, _, _, _, g4, g3⟩
theorem ff_7 {r n k p mk : Nat} {tp st : Nat → Int32} (ax : Int32) : sp_gX2 (n + 1) 7 (nI r) (nI 10015) (nI p) ax (nI k) (nI mk) tp st = some (0, nI 10015, nI p, ax, nI k, nI mk, st) := by
  show sp_X2_readsPlainOne (sp_gX2 n) (nI r) (nI 10015) (nI p) ax (nI k) (nI mk) tp st = _
  unfold sp_X2_readsPlainOne
  rw [if_pos (by decide), if_neg (by decide)]
theorem ff_6 {r n k p mk : Nat} {tp st : Nat → Int32} (ax : Int32) : sp_gX2 (n + 2) 6 (nI r) (nI 10015) (nI p) ax (nI k) (nI mk) tp st = some (0, nI 10015, nI p, ax, nI k, nI mk, st) := by
  show sp_X2_readsOne (sp_gX2 (n + 1)) (nI r) (nI 10015) (nI p) ax (nI k) (nI mk) tp st = _
  unfold sp_X2_readsOne sp_X2_opensAll
  have o : ∀ m, sp_X2_opensAll_5 10024 (nI k) (nI r) tp (m + 1) (nI 10015) (nI p) ax (nI k) = some (nI k - nI k, nI 10015, nI p, ax, nI k) := by
    intro m
    rw [sp_X2_opensAll_5]
    by_cases z : (5 : Int32) ≤ nI k
    · rw [if_pos z]
    · rw [if_neg z, if_neg (by decide)]
  rw [o 4999, ob_s, ff_7, ob_s, if_pos rfl]
theorem ff_5 {r n k p mk : Nat} {tp st : Nat → Int32} (ax : Int32) : sp_gX2 (n + 3) 5 (nI r) (nI 10015) (nI p) ax (nI k) (nI mk) tp st = some (0, nI 10015, nI p, ax, nI k, nI mk, st) := by
  show sp_X2_readsTerm (sp_gX2 (n + 2)) (nI r) (nI 10015) (nI p) ax (nI k) (nI mk) tp st = _
  unfold sp_X2_readsTerm
  rw [ff_6, ob_s, if_pos rfl]
theorem ff_4 {r n k p mk : Nat} {tp st : Nat → Int32} (ax : Int32) : sp_gX2 (n + 4) 4 (nI r) (nI 10015) (nI p) ax (nI k) (nI mk) tp st = some (0, nI 10015, nI p, ax, nI k, nI mk, st) := by
  show sp_X2_readsSum (sp_gX2 (n + 3)) (nI r) (nI 10015) (nI p) ax (nI k) (nI mk) tp st = _
  unfold sp_X2_readsSum
  rw [ff_5, ob_s, if_pos rfl]
theorem si_C {tp tx : Nat → Int32} {q r R : Nat} (X : TX tp tx q r R) {k n m : Nat} (HS : SIM tp tx q r R k (n + 4) 4 m 3) : ∀ (tv p : Nat) (ax : Int32) (mk : Nat) (st : Nat → Int32), CT r tv p ax → mk ≤ p → (¬ tv = 10015 ∨ k = 5) → SOK tp tx q r R k (n + 5) 3 (m + 1) 2 tv p ax mk st ∨ SFL tp tx q r R k (n + 5) 3 (m + 1) 2 tv p ax mk st := by
  have h1 := X.1
  have h2 := X.2.1
  intro tv p ax mk st C hm hdue
  have cl : sp_gX2 (n + 5) 3 (nI r) (nI tv) (nI p) ax (nI k) (nI mk) tp st = sp_X2_readsComparison (sp_gX2 (n + 4)) (nI r) (nI tv) (nI p) ax (nI k) (nI mk) tp st := rfl
  by_cases s0 : tv = 10015
  · right
    have k5 : k = 5 := by
      rcases hdue with g | g
      · exact absurd s0 g
      · exact g
    subst k5
    subst s0
    refine ⟨nI 10015, p, ax, nI 5, nI mk, st, ?_, C.1, fun f h t ta w ft H => ?_⟩
    · rw [cl]
      unfold sp_X2_readsComparison
      rw [ff_4, ob_s, if_pos rfl]
    · rw [show sp_gX6 (m + 1) 2 (f 0) (f 1) (f 2) (f 3) (f 4) (f 5) (nI (160 * q)) (nI R) h t ta (nI 5) 0 ft w tx = sp_X6_not (sp_gX6 m) (f 0) (f 1) (f 2) (f 3) (f 4) (f 5) (nI (160 * q)) (nI R) h t ta (nI 5) 0 ft w tx from rfl]
      unfold sp_X6_not
      rw [show sp_X6_isWord 110 111 116 0 0 0 0 0 (nI (160 * q)) (nI R) h t ta 0 tx = some (bI (decide (10015 = 10015))) from tk_w H (x := ([110, 111, 116], 10015)) (by decide), decide_eq_true rfl, ob_s, if_neg bt0, op_5, ob_s, if_pos rfl]
      exact ⟨_, _, _, _, _, _, _, rfl, tk_ta H C⟩
  · obtain ⟨CM, hCM⟩ : ∃ CM : (Nat → Int32) → Int32 × Int32 × Int32 × Int32 × Int32 × Int32 × Int32 × Int64 → Option (Int32 × Int32 × Int32 × Int32 × Int32 × Int32 × Int32 × Int64), CM = fun f r2 =>
    if (sp_X6_isSign 60 r2.2.2.1 r2.2.2.2.2.2.1 r2.2.2.2.2.2.2.2) = 0 then
      if (sp_X6_isSign 61 r2.2.2.1 r2.2.2.2.2.2.1 r2.2.2.2.2.2.2.2) = 0 then
        some (r2.1, r2.2.1, r2.2.2.1, r2.2.2.2.1, r2.2.2.2.2.1, r2.2.2.2.2.2.1, r2.2.2.2.2.2.2.1, r2.2.2.2.2.2.2.2)
      else
        if (lg_cmp r2.2.2.2.2.2.2.2 60) = 0 then
          (sp_X6_next (nI (160 * q)) (nI R) r2.2.1 r2.2.2.1 r2.2.2.2.1 r2.2.2.2.2.2.2.2 tx).bind fun r9 =>
          (sp_gX6 m 3 (f 0) (f 1) (f 2) (f 3) (f 4) (f 5) (nI (160 * q)) (nI R) r9.1 r9.2.1 r9.2.2.1 r2.2.2.2.2.1 r2.2.2.2.2.2.1 r2.2.2.2.2.2.2.1 r9.2.2.2 tx).bind fun r10 =>
          if (1 : Int32) = 0 then
            if r2.1 = r10.1 then
              some (1, r10.2.1, r10.2.2.1, r10.2.2.2.1, r10.2.2.2.2.1, r10.2.2.2.2.2.1, r10.2.2.2.2.2.2.1, r10.2.2.2.2.2.2.2)
            else
              some (0, r10.2.1, r10.2.2.1, r10.2.2.2.1, r10.2.2.2.2.1, r10.2.2.2.2.2.1, r10.2.2.2.2.2.2.1, r10.2.2.2.2.2.2.2)
          else
            if r10.1 ≤ r2.1 then
              some (0, r10.2.1, r10.2.2.1, r10.2.2.2.1, r10.2.2.2.2.1, r10.2.2.2.2.2.1, r10.2.2.2.2.2.2.1, r10.2.2.2.2.2.2.2)
            else
              some (1, r10.2.1, r10.2.2.1, r10.2.2.2.1, r10.2.2.2.2.1, r10.2.2.2.2.2.1, r10.2.2.2.2.2.2.1, r10.2.2.2.2.2.2.2)
        else
          (sp_X6_next (nI (160 * q)) (nI R) r2.2.1 r2.2.2.1 r2.2.2.2.1 r2.2.2.2.2.2.2.2 tx).bind fun r7 =>
          (sp_gX6 m 3 (f 0) (f 1) (f 2) (f 3) (f 4) (f 5) (nI (160 * q)) (nI R) r7.1 r7.2.1 r7.2.2.1 r2.2.2.2.2.1 r2.2.2.2.2.2.1 r2.2.2.2.2.2.2.1 r7.2.2.2 tx).bind fun r8 =>
          if (0 : Int32) = 0 then
            if r2.1 = r8.1 then
              some (1, r8.2.1, r8.2.2.1, r8.2.2.2.1, r8.2.2.2.2.1, r8.2.2.2.2.2.1, r8.2.2.2.2.2.2.1, r8.2.2.2.2.2.2.2)
            else
              some (0, r8.2.1, r8.2.2.1, r8.2.2.2.1, r8.2.2.2.2.1, r8.2.2.2.2.2.1, r8.2.2.2.2.2.2.1, r8.2.2.2.2.2.2.2)
          else
            if r8.1 ≤ r2.1 then
              some (0, r8.2.1, r8.2.2.1, r8.2.2.2.1, r8.2.2.2.2.1, r8.2.2.2.2.2.1, r8.2.2.2.2.2.2.1, r8.2.2.2.2.2.2.2)
            else
              some (1, r8.2.1, r8.2.2.1, r8.2.2.2.1, r8.2.2.2.2.1, r8.2.2.2.2.2.1, r8.2.2.2.2.2.2.1, r8.2.2.2.2.2.2.2)
    else
      if (lg_cmp r2.2.2.2.2.2.2.2 60) = 0 then
        (sp_X6_next (nI (160 * q)) (nI R) r2.2.1 r2.2.2.1 r2.2.2.2.1 r2.2.2.2.2.2.2.2 tx).bind fun r5 =>
        (sp_gX6 m 3 (f 0) (f 1) (f 2) (f 3) (f 4) (f 5) (nI (160 * q)) (nI R) r5.1 r5.2.1 r5.2.2.1 r2.2.2.2.2.1 r2.2.2.2.2.2.1 r2.2.2.2.2.2.2.1 r5.2.2.2 tx).bind fun r6 =>
        if (1 : Int32) = 0 then
          if r2.1 = r6.1 then
            some (1, r6.2.1, r6.2.2.1, r6.2.2.2.1, r6.2.2.2.2.1, r6.2.2.2.2.2.1, r6.2.2.2.2.2.2.1, r6.2.2.2.2.2.2.2)
          else
            some (0, r6.2.1, r6.2.2.1, r6.2.2.2.1, r6.2.2.2.2.1, r6.2.2.2.2.2.1, r6.2.2.2.2.2.2.1, r6.2.2.2.2.2.2.2)
        else
          if r6.1 ≤ r2.1 then
            some (0, r6.2.1, r6.2.2.1, r6.2.2.2.1, r6.2.2.2.2.1, r6.2.2.2.2.2.1, r6.2.2.2.2.2.2.1, r6.2.2.2.2.2.2.2)
          else
            some (1, r6.2.1, r6.2.2.1, r6.2.2.2.1, r6.2.2.2.2.1, r6.2.2.2.2.2.1, r6.2.2.2.2.2.2.1, r6.2.2.2.2.2.2.2)
      else
        (sp_X6_next (nI (160 * q)) (nI R) r2.2.1 r2.2.2.1 r2.2.2.2.1 r2.2.2.2.2.2.2.2 tx).bind fun r3 =>
        (sp_gX6 m 3 (f 0) (f 1) (f 2) (f 3) (f 4) (f 5) (nI (160 * q)) (nI R) r3.1 r3.2.1 r3.2.2.1 r2.2.2.2.2.1 r2.2.2.2.2.2.1 r2.2.2.2.2.2.2.1 r3.2.2.2 tx).bind fun r4 =>
        if (0 : Int32) = 0 then
          if r2.1 = r4.1 then
            some (1, r4.2.1, r4.2.2.1, r4.2.2.2.1, r4.2.2.2.2.1, r4.2.2.2.2.2.1, r4.2.2.2.2.2.2.1, r4.2.2.2.2.2.2.2)
          else
            some (0, r4.2.1, r4.2.2.1, r4.2.2.2.1, r4.2.2.2.2.1, r4.2.2.2.2.2.1, r4.2.2.2.2.2.2.1, r4.2.2.2.2.2.2.2)
        else
          if r4.1 ≤ r2.1 then
            some (0, r4.2.1, r4.2.2.1, r4.2.2.2.1, r4.2.2.2.2.1, r4.2.2.2.2.2.1, r4.2.2.2.2.2.2.1, r4.2.2.2.2.2.2.2)
          else
            some (1, r4.2.1, r4.2.2.1, r4.2.2.2.1, r4.2.2.2.2.1, r4.2.2.2.2.2.1, r4.2.2.2.2.2.2.1, r4.2.2.2.2.2.2.2)
      := ⟨_, rfl⟩
    have rc : ∀ (f : Nat → Int32) h t ta w ft, TK tx q R tv p ax h t ta w → sp_gX6 (m + 1) 2 (f 0) (f 1) (f 2) (f 3) (f 4) (f 5) (nI (160 * q)) (nI R) h t ta (nI k) 0 ft w tx = (sp_gX6 m 3 (f 0) (f 1) (f 2) (f 3) (f 4) (f 5) (nI (160 * q)) (nI R) h t ta (nI k) 0 ft w tx).bind (CM f) := by
      intro f h t ta w ft H
      rw [show sp_gX6 (m + 1) 2 (f 0) (f 1) (f 2) (f 3) (f 4) (f 5) (nI (160 * q)) (nI R) h t ta (nI k) 0 ft w tx = sp_X6_not (sp_gX6 m) (f 0) (f 1) (f 2) (f 3) (f 4) (f 5) (nI (160 * q)) (nI R) h t ta (nI k) 0 ft w tx from rfl]
      unfold sp_X6_not
      rw [show sp_X6_isWord 110 111 116 0 0 0 0 0 (nI (160 * q)) (nI R) h t ta 0 tx = some (bI (decide (tv = 10015))) from tk_w H (x := ([110, 111, 116], 10015)) (by decide), decide_eq_false s0, ob_s, if_pos bf0, hCM]
    rcases HS tv p ax mk st C hm with ⟨tv1, p1, ax1, mk1, st1, a1, a2, a3, a4, a5, a6, a7⟩ | ⟨c2, p1, c4, c5, c6, c7, a1, a2, a3⟩
    · have tl1 := ct_le a2
      by_cases s1 : tv1 = 10026
      · subst s1
        obtain ⟨e, e1, e2, rfl⟩ := ct_e a2 (by omega)
        obtain ⟨tv2, p2, ax2, x2, C2, hp2, x6⟩ := lex X e2
        have rf : ∀ (f : Nat → Int32) (v1 h1 t1 ta1 ft1 : Int32) (w1 : Int64), TK tx q R 10026 p1 (nI e) h1 t1 ta1 w1 → ∃ h2 t2 ta2 w2, TK tx q R tv2 p2 ax2 h2 t2 ta2 w2 ∧ CM f (v1, h1, t1, ta1, nI k, 0, ft1, w1) = (sp_gX6 m 3 (f 0) (f 1) (f 2) (f 3) (f 4) (f 5) (nI (160 * q)) (nI R) h2 t2 ta2 (nI k) 0 ft1 w2 tx).bind fun r6 => if r6.1 ≤ v1 then some (0, r6.2.1, r6.2.2.1, r6.2.2.2.1, r6.2.2.2.2.1, r6.2.2.2.2.2.1, r6.2.2.2.2.2.2.1, r6.2.2.2.2.2.2.2) else some (1, r6.2.1, r6.2.2.1, r6.2.2.2.1, r6.2.2.2.2.1, r6.2.2.2.2.2.1, r6.2.2.2.2.2.2.1, r6.2.2.2.2.2.2.2) := by
          intro f v1 h1 t1 ta1 ft1 w1 H1
          obtain ⟨h2, t2, ta2, w2, y1, y2⟩ := x6 t1 ta1 w1
          refine ⟨h2, t2, ta2, w2, y2, ?_⟩
          have hh : h1 = nI e := tk_h H1 (by omega)
          rw [hCM]
          dsimp only
          rw [show sp_X6_isSign 60 t1 0 w1 = bI (decide (10026 = 10026)) from tk_s H1 (x := (60, 10026)) (by decide), decide_eq_true rfl, if_neg bt0, tk_sv H1 (x := (60, 10026)) (by decide) rfl, if_pos (show lg_cmp (lN 60) 60 = 0 by decide), ← tk_sv H1 (x := (60, 10026)) (by decide) rfl, hh, y1, ob_s]
          dsimp only
          simp only [if_neg one0]
        rcases HS tv2 p2 ax2 mk1 st1 C2 (by omega) with ⟨tv3, p3, ax3, mk3, st3, b1, b2, b3, b4, b5, b6, b7⟩ | ⟨d2, p3, d4, d5, d6, d7, b1, b2, b3⟩
        · left
          have hp3 := b2.1
          refine ⟨tv3, p3, ax3, mk3 + 1, upd st3 mk3 (nI 10026), ?_, b2, by omega, by omega, by omega, fun j hj => by rw [pk_un (by omega), b6 j (by omega), a6 j hj], fun f => ?_⟩
          · rw [cl]
            unfold sp_X2_readsComparison
            rw [a1, ob_s, if_neg one0, if_pos (show nI 10026 = (10026 : Int32) from rfl), x2, ob_s, b1, ob_s, if_neg one0, mk_go (by omega), ob_s]
          · obtain ⟨v1, E1, s1⟩ := a7 f
            obtain ⟨v2, E2, s2⟩ := b7 f
            refine ⟨sp_X4_joined (nI 10026) v1 v2, em_bin (em_congr E1 (fun j j1 j2 => by rw [pk_un (by omega), b6 j j2])) (em_congr E2 (fun j j1 j2 => pk_un (by omega))) pk_us (by omega), fun h t ta w ft H => ?_⟩
            obtain ⟨h1', t1', ta1', w1', ft1', g1, H1⟩ := s1 h t ta w ft H
            obtain ⟨h2', t2', ta2', w2', H2, rr⟩ := rf f v1 _ _ _ ft1' _ H1
            obtain ⟨h3', t3', ta3', w3', ft3', g3, H3⟩ := s2 _ _ _ _ ft1' H2
            refine ⟨h3', t3', ta3', w3', ft3', ?_, H3⟩
            rw [rc f h t ta w ft H, g1, ob_s, rr, g3, ob_s, jn_lt]
            dsimp only
            by_cases z : v2 ≤ v1
            · rw [if_pos z, if_pos z]
            · rw [if_neg z, if_neg z]
        · right
          refine ⟨d2, p3, d4, d5, d6, d7, ?_, b2, fun f h t ta w ft H => ?_⟩
          · rw [cl]
            unfold sp_X2_readsComparison
            rw [a1, ob_s, if_neg one0, if_pos (show nI 10026 = (10026 : Int32) from rfl), x2, ob_s, b1, ob_s, if_pos rfl]
          · obtain ⟨v1, E1, s1⟩ := a7 f
            obtain ⟨h1', t1', ta1', w1', ft1', g1, H1⟩ := s1 h t ta w ft H
            obtain ⟨h2', t2', ta2', w2', H2, rr⟩ := rf f v1 _ _ _ ft1' _ H1
            obtain ⟨v2, h3', t3', ta3', op3', ft3', w3', g3, g4⟩ := b3 f _ _ _ _ ft1' H2
            rw [rc f h t ta w ft H, g1, ob_s, rr, g3, ob_s]
            dsimp only
            by_cases z : v2 ≤ v1
            · rw [if_pos z]; exact ⟨_, _, _, _, _, _, _, rfl, g4⟩
            · rw [if_neg z]; exact ⟨_, _, _, _, _, _, _, rfl, g4⟩
      by_cases s2 : tv1 = 10027
      · subst s2
        obtain ⟨e, e1, e2, rfl⟩ := ct_e a2 (by omega)
        obtain ⟨tv2, p2, ax2, x2, C2, hp2, x6⟩ := lex X e2
        have rf : ∀ (f : Nat → Int32) (v1 h1 t1 ta1 ft1 : Int32) (w1 : Int64), TK tx q R 10027 p1 (nI e) h1 t1 ta1 w1 → ∃ h2 t2 ta2 w2, TK tx q R tv2 p2 ax2 h2 t2 ta2 w2 ∧ CM f (v1, h1, t1, ta1, nI k, 0, ft1, w1) = (sp_gX6 m 3 (f 0) (f 1) (f 2) (f 3) (f 4) (f 5) (nI (160 * q)) (nI R) h2 t2 ta2 (nI k) 0 ft1 w2 tx).bind fun r6 => if v1 = r6.1 then some (1, r6.2.1, r6.2.2.1, r6.2.2.2.1, r6.2.2.2.2.1, r6.2.2.2.2.2.1, r6.2.2.2.2.2.2.1, r6.2.2.2.2.2.2.2) else some (0, r6.2.1, r6.2.2.1, r6.2.2.2.1, r6.2.2.2.2.1, r6.2.2.2.2.2.1, r6.2.2.2.2.2.2.1, r6.2.2.2.2.2.2.2) := by
          intro f v1 h1 t1 ta1 ft1 w1 H1
          obtain ⟨h2, t2, ta2, w2, y1, y2⟩ := x6 t1 ta1 w1
          refine ⟨h2, t2, ta2, w2, y2, ?_⟩
          have hh : h1 = nI e := tk_h H1 (by omega)
          rw [hCM]
          dsimp only
          rw [show sp_X6_isSign 60 t1 0 w1 = bI (decide (10027 = 10026)) from tk_s H1 (x := (60, 10026)) (by decide), decide_eq_false (by decide), if_pos bf0, show sp_X6_isSign 61 t1 0 w1 = bI (decide (10027 = 10027)) from tk_s H1 (x := (61, 10027)) (by decide), decide_eq_true rfl, if_neg bt0, tk_sv H1 (x := (61, 10027)) (by decide) rfl, if_neg (show ¬ lg_cmp (lN 61) 60 = 0 by decide), ← tk_sv H1 (x := (61, 10027)) (by decide) rfl, hh, y1, ob_s]
          dsimp only
          simp only [if_true]
        rcases HS tv2 p2 ax2 mk1 st1 C2 (by omega) with ⟨tv3, p3, ax3, mk3, st3, b1, b2, b3, b4, b5, b6, b7⟩ | ⟨d2, p3, d4, d5, d6, d7, b1, b2, b3⟩
        · left
          have hp3 := b2.1
          refine ⟨tv3, p3, ax3, mk3 + 1, upd st3 mk3 (nI 10027), ?_, b2, by omega, by omega, by omega, fun j hj => by rw [pk_un (by omega), b6 j (by omega), a6 j hj], fun f => ?_⟩
          · rw [cl]
            unfold sp_X2_readsComparison
            rw [a1, ob_s, if_neg one0, if_neg (show ¬ nI 10027 = (10026 : Int32) by decide), if_pos (show nI 10027 = (10027 : Int32) from rfl), x2, ob_s, b1, ob_s, if_neg one0, mk_go (by omega), ob_s]
          · obtain ⟨v1, E1, s1⟩ := a7 f
            obtain ⟨v2, E2, s2⟩ := b7 f
            refine ⟨sp_X4_joined (nI 10027) v1 v2, em_bin (em_congr E1 (fun j j1 j2 => by rw [pk_un (by omega), b6 j j2])) (em_congr E2 (fun j j1 j2 => pk_un (by omega))) pk_us (by omega), fun h t ta w ft H => ?_⟩
            obtain ⟨h1', t1', ta1', w1', ft1', g1, H1⟩ := s1 h t ta w ft H
            obtain ⟨h2', t2', ta2', w2', H2, rr⟩ := rf f v1 _ _ _ ft1' _ H1
            obtain ⟨h3', t3', ta3', w3', ft3', g3, H3⟩ := s2 _ _ _ _ ft1' H2
            refine ⟨h3', t3', ta3', w3', ft3', ?_, H3⟩
            rw [rc f h t ta w ft H, g1, ob_s, rr, g3, ob_s, jn_eq]
            dsimp only
            by_cases z : v1 = v2
            · rw [if_pos z, if_pos z]
            · rw [if_neg z, if_neg z]
        · right
          refine ⟨d2, p3, d4, d5, d6, d7, ?_, b2, fun f h t ta w ft H => ?_⟩
          · rw [cl]
            unfold sp_X2_readsComparison
            rw [a1, ob_s, if_neg one0, if_neg (show ¬ nI 10027 = (10026 : Int32) by decide), if_pos (show nI 10027 = (10027 : Int32) from rfl), x2, ob_s, b1, ob_s, if_pos rfl]
          · obtain ⟨v1, E1, s1⟩ := a7 f
            obtain ⟨h1', t1', ta1', w1', ft1', g1, H1⟩ := s1 h t ta w ft H
            obtain ⟨h2', t2', ta2', w2', H2, rr⟩ := rf f v1 _ _ _ ft1' _ H1
            obtain ⟨v2, h3', t3', ta3', op3', ft3', w3', g3, g4⟩ := b3 f _ _ _ _ ft1' H2
            rw [rc f h t ta w ft H, g1, ob_s, rr, g3, ob_s]
            dsimp only
            by_cases z : v1 = v2
            · rw [if_pos z]; exact ⟨_, _, _, _, _, _, _, rfl, g4⟩
            · rw [if_neg z]; exact ⟨_, _, _, _, _, _, _, rfl, g4⟩
      left
      refine ⟨tv1, p1, ax1, mk1, st1, ?_, a2, a3, a4, a5, a6, fun f => ?_⟩
      · rw [cl]
        unfold sp_X2_readsComparison
        rw [a1, ob_s, if_neg one0, if_neg (show ¬ nI tv1 = (10026 : Int32) from tne (c := 10026) s1 (by omega) (by decide)), if_neg (show ¬ nI tv1 = (10027 : Int32) from tne (c := 10027) s2 (by omega) (by decide))]
      · obtain ⟨v1, E1, t1⟩ := a7 f
        refine ⟨v1, E1, fun h t ta w ft H => ?_⟩
        obtain ⟨h1', t1', ta1', w1', ft1', g1, H1⟩ := t1 h t ta w ft H
        refine ⟨h1', t1', ta1', w1', ft1', ?_, H1⟩
        rw [rc f h t ta w ft H, g1, ob_s, hCM]
        dsimp only
        rw [show sp_X6_isSign 60 t1' 0 w1' = bI (decide (tv1 = 10026)) from tk_s H1 (x := (60, 10026)) (by decide), decide_eq_false s1, if_pos bf0, show sp_X6_isSign 61 t1' 0 w1' = bI (decide (tv1 = 10027)) from tk_s H1 (x := (61, 10027)) (by decide), decide_eq_false s2, if_pos bf0]
    · right
      refine ⟨c2, p1, c4, c5, c6, c7, ?_, a2, fun f h t ta w ft H => ?_⟩
      · rw [cl]
        unfold sp_X2_readsComparison
        rw [a1, ob_s, if_pos rfl]
      · obtain ⟨v1, h1', t1', ta1', op1', ft1', w1', g1, g2⟩ := a3 f h t ta w ft H
        rw [rc f h t ta w ft H, g1, ob_s, hCM]
        dsimp only
        rw [is_bad, if_pos rfl, is_bad, if_pos rfl]
        exact ⟨_, _, _, _, _, _, _, rfl, g2⟩
/-- every level, at every depth -/
theorem si_all {tp tx : Nat → Int32} {q r R : Nat} (X : TX tp tx q r R) : ∀ j, j ≤ 5 → ∀ n m, 8 * j + 8 ≤ n → 6 * j + 6 ≤ m → SIM tp tx q r R (5 - j) n 0 m 0 := by
  intro j
  induction j using Nat.strongRecOn with
  | ind j ih =>
    intro hj n m hn hm
    have plain : ∀ k' n' m', 5 - j ≤ k' → k' ≤ 5 → 8 * (5 - k') + 1 ≤ n' → 6 * (5 - k') + 1 ≤ m' → ∀ (tv p : Nat) (ax : Int32) (mk : Nat) (st : Nat → Int32), CT r tv p ax → mk ≤ p → (¬ tv = 10024 ∨ k' = 5) → SOK tp tx q r R k' n' 7 m' 5 tv p ax mk st ∨ SFL tp tx q r R k' n' 7 m' 5 tv p ax mk st := by
      intro k' n' m' k1 k2 k3 k4
      obtain ⟨n0, rfl⟩ : ∃ x, n' = x + 1 := ⟨n' - 1, by omega⟩
      obtain ⟨m0, rfl⟩ : ∃ x, m' = x + 1 := ⟨m' - 1, by omega⟩
      refine si_P X k2 (fun k5 => ?_)
      have := ih (5 - (k' + 1)) (by omega) (by omega) n0 m0 (by omega) (by omega)
      rw [show 5 - (5 - (k' + 1)) = k' + 1 by omega] at this
      exact this
    have one : ∀ k' n' m', 5 - j ≤ k' → k' ≤ 5 → 8 * (5 - k') + 2 ≤ n' → 6 * (5 - k') + 1 ≤ m' → SIM tp tx q r R k' n' 6 m' 5 := by
      intro k' n' m' k1 k2 k3 k4
      obtain ⟨n0, rfl⟩ : ∃ x, n' = x + 1 := ⟨n' - 1, by omega⟩
      exact si_1 X k2 (fun c hc hc2 => plain (k' + c) n0 (m' - c) (by omega) hc (by omega) (by omega)) (by omega)
    have sum : ∀ k' n' m', 5 - j ≤ k' → k' ≤ 5 → 8 * (5 - k') + 4 ≤ n' → 6 * (5 - k') + 3 ≤ m' → SIM tp tx q r R k' n' 4 m' 3 := by
      intro k' n' m' k1 k2 k3 k4
      obtain ⟨n0, rfl⟩ : ∃ x, n' = x + 1 + 1 := ⟨n' - 2, by omega⟩
      obtain ⟨m0, rfl⟩ : ∃ x, m' = x + 1 + 1 := ⟨m' - 2, by omega⟩
      exact si_S X (si_T X (one k' n0 m0 k1 k2 (by omega) (by omega)))
    have cmp : ∀ k' n' m', 5 - j ≤ k' → k' ≤ 5 → 8 * (5 - k') + 5 ≤ n' → 6 * (5 - k') + 4 ≤ m' → ∀ (tv p : Nat) (ax : Int32) (mk : Nat) (st : Nat → Int32), CT r tv p ax → mk ≤ p → (¬ tv = 10015 ∨ k' = 5) → SOK tp tx q r R k' n' 3 m' 2 tv p ax mk st ∨ SFL tp tx q r R k' n' 3 m' 2 tv p ax mk st := by
      intro k' n' m' k1 k2 k3 k4
      obtain ⟨n0, rfl⟩ : ∃ x, n' = x + 5 := ⟨n' - 5, by omega⟩
      obtain ⟨m0, rfl⟩ : ∃ x, m' = x + 1 := ⟨m' - 1, by omega⟩
      exact si_C X (sum k' (n0 + 4) m0 k1 k2 (by omega) (by omega))
    obtain ⟨n0, rfl⟩ : ∃ x, n = x + 1 + 1 + 1 := ⟨n - 3, by omega⟩
    obtain ⟨m0, rfl⟩ : ∃ x, m = x + 1 + 1 := ⟨m - 2, by omega⟩
    refine si_E X (si_A X ?_)
    exact si_N X (by omega) (fun c hc hc2 => cmp (5 - j + c) n0 (m0 - c) (by omega) hc (by omega) (by omega)) (by omega)
