theorem word_both {tp tx : Nat → Int32} {q r R : Nat} (X : TX tp tx q r R) (a : Nat) : ∀ d b, b + d = r → a ≤ b → (∀ j, a ≤ j → j < b → ¬ tp j = 0) → ∀ fc fm, d + 1 ≤ fc → d + 1 ≤ fm → ∃ e, b ≤ e ∧ e ≤ r ∧ (∀ j, a ≤ j → j < e → ¬ tp j = 0) ∧ (∀ c, b < r → c ≤ 255 → tp b = nI c → isLb c = true → b < e) ∧ sp_X2_word_0 (nI r) (nI a) tp fc (nI b) = some (nI (wvL tp a e wl), nI e) ∧ ∀ tk ta w, sp_X6_next_100 (nI (160 * q)) (nI R) tx fm (nI b) tk ta w = some (nI e, tk, ta, w) := by
  have h1 := X.1
  have h2 := X.2.1
  intro d
  induction d with
  | zero =>
    intro b hb hab hz fc fm hfc hfm
    obtain ⟨c, rfl⟩ : ∃ m, fc = m + 1 := ⟨fc - 1, by omega⟩
    obtain ⟨m, rfl⟩ : ∃ m, fm = m + 1 := ⟨fm - 1, by omega⟩
    have : b = r := by omega
    subst this
    refine ⟨b, Nat.le_refl _, Nat.le_refl _, hz, fun c hc => absurd hc (by omega), ?_, fun tk ta w => ?_⟩
    · rw [sp_X2_word_0, if_pos (nI_le (Nat.le_refl _) (by omega))]
      exact wchain hab (by omega)
    · obtain ⟨x, x1, x2⟩ := by_off X
      rw [sp_X6_next_100, x1, ob_s]
      rcases x2 with rfl | rfl
      · rw [let6 (by omega), if_pos (by decide)]
      · rw [let6m, if_pos rfl]
  | succ d ih =>
    intro b hb hab hz fc fm hfc hfm
    obtain ⟨c, rfl⟩ : ∃ m, fc = m + 1 := ⟨fc - 1, by omega⟩
    obtain ⟨m, rfl⟩ : ∃ m, fm = m + 1 := ⟨fm - 1, by omega⟩
    obtain ⟨x1, k, hk, x2⟩ := X.2.2.2.1 b (by omega)
    by_cases l : isLb k = true
    · have nz : ¬ tp b = 0 := by
        rw [x2]
        refine nI_ne0 ?_ (by omega)
        unfold isLb at l
        rw [Bool.and_eq_true] at l
        have := of_decide_eq_true l.1
        omega
      obtain ⟨e, e1, e2, e3, e4, e5, e6⟩ := ih (b + 1) (by omega) (by omega) (fun j j1 j2 => by
        by_cases z : j = b
        · rw [z]; exact nz
        · exact hz j j1 (by omega)) c m (by omega) (by omega)
      refine ⟨e, by omega, e2, e3, fun _ _ _ _ _ => by omega, ?_, fun tk ta w => ?_⟩
      · rw [sp_X2_word_0, if_neg (nI_ge (by omega) (by omega)), xo_at_nI (by omega) (by decide), ob_s, x2, let2 hk, l, if_neg (show ¬ bI true = 0 by decide), nI_1, e5]
      · rw [sp_X6_next_100, by_at X (by omega), ob_s, x2, let6 hk, l, if_neg (show ¬ bI true = 0 by decide), nI_1, e6]
    · refine ⟨b, Nat.le_refl _, by omega, hz, fun c hc hc2 hc3 hc4 => ?_, ?_, fun tk ta w => ?_⟩
      · have : k = c := (nI_eq (by omega) (by omega)).mp (by rw [← x2, hc3])
        rw [this] at l
        exact absurd hc4 l
      · rw [sp_X2_word_0, if_neg (nI_ge (by omega) (by omega)), xo_at_nI (by omega) (by decide), ob_s, x2, let2 hk, bff l, if_pos (show bI false = 0 from rfl)]
        exact wchain hab (by omega)
      · rw [sp_X6_next_100, by_at X (by omega), ob_s, x2, let6 hk, bff l, if_pos (show bI false = 0 from rfl)]
def fgV (n : Nat) (u : Int32) (w : Int64) : Prop := (n ≤ 4 ∧ ∃ V, V < 10 ^ n ∧ u = nI V ∧ w = lN V) ∨ 4 < n
theorem fg_fin {n b : Nat} {u : Int32} {w : Int64} {A T : Int32} (hn : n ≤ 200) (h : fgV n u w) : ∃ tv tk' w', (if nI n ≤ 4 then some (u, nI b) else some (10032, nI b)) = some (nI tv, nI b) ∧ (if nI n ≤ 4 then some (A, (2 : Int32), T, w) else some (A, 4, T, w)) = some (A, tk', T, w') ∧ ((tv ≤ 9999 ∧ tk' = 2 ∧ w' = lN tv) ∨ (tv = 10032 ∧ tk' = 4)) := by
  rcases h with ⟨h1, V, h2, h3, h4⟩ | h
  · have : nI n ≤ 4 := nI_le (b := 4) h1 (by decide)
    rw [if_pos this, if_pos this, h3, h4]
    have h5 : 10 ^ n ≤ 10 ^ 4 := Nat.pow_le_pow_right (by decide) h1
    exact ⟨V, 2, _, rfl, rfl, Or.inl ⟨by omega, rfl, rfl⟩⟩
  · have : ¬ nI n ≤ 4 := nI_ge (a := 4) h (by omega)
    rw [if_neg this, if_neg this]
    exact ⟨10032, 4, _, rfl, rfl, Or.inr ⟨rfl, rfl⟩⟩
theorem fg_step {n c : Nat} {u : Int32} {w : Int64} (hn : n ≤ 200) (hd : isDb c = true) (h : fgV n u w) : fgV (n + 1) (((u * 10) + nI c) - 48) (if 4 ≤ nI n then w else (((10 * w) + (lN c)) - 48)) := by
  unfold isDb at hd
  rw [Bool.and_eq_true] at hd
  have c1 := of_decide_eq_true hd.1
  have c2 := of_decide_eq_true hd.2
  rcases h with ⟨h1, V, h2, h3, h4⟩ | h
  · by_cases z : n = 4
    · exact Or.inr (by omega)
    · left
      refine ⟨by omega, V * 10 + c - 48, ?_, ?_, ?_⟩
      · rw [Nat.pow_succ]; omega
      · rw [h3]
        show nI V * nI 10 + nI c - nI 48 = _
        rw [pk_mul, nI_add, pk_sub (by omega)]
      · rw [if_neg (show ¬ (4 : Int32) ≤ nI n from nI_ge (b := 4) (by omega) (by decide)), h4]
        show lN 10 * lN V + lN c - lN 48 = _
        rw [lN_mul, lN_add, lN_sub (by omega), Nat.mul_comm]
  · exact Or.inr (by omega)
theorem fig_both {tp tx : Nat → Int32} {q r R : Nat} (X : TX tp tx q r R) (a : Nat) : ∀ d b, b + d = r → a ≤ b → ∀ (u : Int32) (w : Int64), fgV (b - a) u w → ∀ fc fm, d + 1 ≤ fc → d + 1 ≤ fm → ∃ e tv, b ≤ e ∧ e ≤ r ∧ (∀ c, b < r → c ≤ 255 → tp b = nI c → isDb c = true → b < e) ∧ sp_X2_figure_2 (nI r) (nI a) tp fc u (nI b) = some (nI tv, nI e) ∧ ∀ tk, ∃ tk' w', sp_X6_next_160 (nI (160 * q)) (nI R) tx fm (nI (b - a)) (nI b) tk (nI a) w = some (nI e, tk', nI a, w') ∧ ((tv ≤ 9999 ∧ tk' = 2 ∧ w' = lN tv) ∨ (tv = 10032 ∧ tk' = 4)) := by
  have h1 := X.1
  have h2 := X.2.1
  intro d
  induction d with
  | zero =>
    intro b hb hab u w hv fc fm hfc hfm
    obtain ⟨c, rfl⟩ : ∃ m, fc = m + 1 := ⟨fc - 1, by omega⟩
    obtain ⟨m, rfl⟩ : ∃ m, fm = m + 1 := ⟨fm - 1, by omega⟩
    have : b = r := by omega
    subst this
    obtain ⟨tv, tk', w', f1, f2, f3⟩ := fg_fin (b := b) (A := nI b) (T := nI a) (by omega) hv
    refine ⟨b, tv, Nat.le_refl _, Nat.le_refl _, fun c hc => absurd hc (by omega), ?_, fun tk => ⟨tk', w', ?_, f3⟩⟩
    · rw [sp_X2_figure_2, if_pos (nI_le (Nat.le_refl _) (by omega)), pk_sub hab]
      exact f1
    · obtain ⟨x, x1, x2⟩ := by_off X
      rw [sp_X6_next_160, x1, ob_s]
      have : sp_X6_in (Int32.toInt64 x) 48 57 = 0 := by
        rcases x2 with rfl | rfl
        · rw [dig6 (by omega)]; decide
        · exact dig6m
      rw [if_pos this]
      exact f2
  | succ d ih =>
    intro b hb hab u w hv fc fm hfc hfm
    obtain ⟨c, rfl⟩ : ∃ m, fc = m + 1 := ⟨fc - 1, by omega⟩
    obtain ⟨m, rfl⟩ : ∃ m, fm = m + 1 := ⟨fm - 1, by omega⟩
    obtain ⟨x1, k, hk, x2⟩ := X.2.2.2.1 b (by omega)
    by_cases l : isDb k = true
    · have S := fg_step (n := b - a) (by omega) l hv
      rw [show b - a + 1 = b + 1 - a by omega] at S
      obtain ⟨e, tv, e1, e2, e4, e5, e6⟩ := ih (b + 1) (by omega) (by omega) _ _ S c m (by omega) (by omega)
      refine ⟨e, tv, by omega, e2, fun _ _ _ _ _ => by omega, ?_, fun tk => ?_⟩
      · rw [sp_X2_figure_2, if_neg (nI_ge (by omega) (by omega)), xo_at_nI (by omega) (by decide), ob_s, ob_s, x2, dig2 hk, l, if_neg (show ¬ bI true = 0 by decide), nI_1, e5]
      · obtain ⟨tk', w', g1, g2⟩ := e6 tk
        refine ⟨tk', w', ?_, g2⟩
        rw [sp_X6_next_160, by_at X (by omega), ob_s, ob_s, x2, dig6 hk, l, if_neg (show ¬ bI true = 0 by decide), nI_1, nI_1, nI_l (by omega), show b - a + 1 = b + 1 - a by omega]
        by_cases z : (4 : Int32) ≤ nI (b - a)
        · rw [if_pos z] at g1 ⊢
          exact g1
        · rw [if_neg z] at g1 ⊢
          exact g1
    · obtain ⟨tv, tk', w', f1, f2, f3⟩ := fg_fin (b := b) (A := nI b) (T := nI a) (by omega) hv
      refine ⟨b, tv, Nat.le_refl _, by omega, fun c hc hc2 hc3 hc4 => ?_, ?_, fun tk => ⟨tk', w', ?_, f3⟩⟩
      · have : k = c := (nI_eq (by omega) (by omega)).mp (by rw [← x2, hc3])
        rw [this] at l
        exact absurd hc4 l
      · rw [sp_X2_figure_2, if_neg (nI_ge (by omega) (by omega)), xo_at_nI (by omega) (by decide), ob_s, ob_s, x2, dig2 hk, bff l, if_pos (show bI false = 0 from rfl), pk_sub hab]
        exact f1
      · rw [sp_X6_next_160, by_at X (by omega), ob_s, x2, dig6 hk, bff l, if_pos (show bI false = 0 from rfl)]
        exact f2
/-- the class's token under way: its value, its place, what comes next -/
def CT (r tv p : Nat) (ax : Int32) : Prop := p ≤ r ∧ ((tv = 10031 ∧ p = r) ∨ tv = 10032 ∨ (tv ≤ 10027 ∧ ∃ e, p < e ∧ e ≤ r ∧ ax = nI e))
/-- the reference's token beside it -/
def TK (tx : Nat → Int32) (q R tv p : Nat) (ax h t ta : Int32) (w : Int64) : Prop := (tv = 10031 ∧ t = 0 ∧ ta = nI R) ∨ (tv = 10032 ∧ t = 4 ∧ ta = nI p) ∨ (tv ≤ 9999 ∧ t = 2 ∧ ta = nI p ∧ w = lN tv ∧ h = ax) ∨ ((∃ c, (c, tv) ∈ sl ∧ w = lN c) ∧ t = 3 ∧ ta = nI p ∧ h = ax) ∨ ((∀ x ∈ wl, isW x.1 (nI (160 * q)) (nI R) h 1 ta 0 tx = some (bI (decide (tv = x.2)))) ∧ (tv = 10032 ∨ (10000 ≤ tv ∧ tv ≤ 10015)) ∧ t = 1 ∧ ta = nI p ∧ h = ax)
theorem ct_le {r tv p : Nat} {ax : Int32} (h : CT r tv p ax) : tv ≤ 10032 := by
  rcases h.2 with ⟨h, _⟩ | h | ⟨h, _⟩ <;> omega
theorem end6 {tp tx : Nat → Int32} {q r R : Nat} (X : TX tp tx q r R) : ∀ d b, b + d = R → r ≤ b → ∀ fm, d + 1 ≤ fm → ∀ (t0 ta0 : Int32) (w0 : Int64), sp_X6_next_0 (nI (160 * q)) (nI R) tx fm (nI b) t0 ta0 w0 = some (nI R, 0, nI R, w0) := by
  have h2 := X.2.1
  intro d
  induction d with
  | zero =>
    intro b hb hr fm hf t0 ta0 w0
    obtain ⟨m, rfl⟩ : ∃ m, fm = m + 1 := ⟨fm - 1, by omega⟩
    have : b = R := by omega
    subst this
    have e := by_en (tx := tx) (q := q) (Nat.le_refl b) (by omega)
    rw [sp_X6_next_0, e, ob_s, if_neg (by decide), ob_s, if_neg (by decide), ob_s, if_neg (by decide)]
  | succ d ih =>
    intro b hb hr fm hf t0 ta0 w0
    obtain ⟨m, rfl⟩ : ∃ m, fm = m + 1 := ⟨fm - 1, by omega⟩
    rw [sp_X6_next_0, by_bl X hr (by omega), ob_s, if_pos (show nI 32 = 32 from rfl), nI_1]
    exact ih (b + 1) (by omega) (by omega) m (by omega) t0 ta0 w0
theorem sgn_sl : ∀ c : Fin 256, sgn c = 10032 ∨ (c.val, sgn c) ∈ sl := by decide +kernel
theorem sgn_n {c : Nat} (h : sgn c = 10032) : ¬ c = 40 ∧ ¬ c = 41 ∧ ¬ c = 59 ∧ ¬ c = 43 ∧ ¬ c = 45 ∧ ¬ c = 42 ∧ ¬ c = 60 ∧ ¬ c = 61 := by
  refine ⟨?_, ?_, ?_, ?_, ?_, ?_, ?_, ?_⟩ <;> (intro e; subst e; revert h; decide)
theorem sg6 {c : Nat} (hc : c ≤ 255) (A B : Int32) (w w0 : Int64) : (if nI c = 40 then some (A, (3 : Int32), B, w) else if nI c = 41 then some (A, 3, B, w) else if nI c = 59 then some (A, 3, B, w) else if nI c = 43 then some (A, 3, B, w) else if nI c = 45 then some (A, 3, B, w) else if nI c = 42 then some (A, 3, B, w) else if nI c = 60 then some (A, 3, B, w) else if nI c = 61 then some (A, 3, B, w) else some (B, 4, B, w0)) = (if sgn c = 10032 then some (B, 4, B, w0) else some (A, 3, B, w)) := by
  by_cases h : sgn c = 10032
  · obtain ⟨n1, n2, n3, n4, n5, n6, n7, n8⟩ := sgn_n h
    rw [if_pos h, if_neg (show ¬ nI c = (40 : Int32) from tne (c := 40) n1 (by omega) (by decide)), if_neg (show ¬ nI c = (41 : Int32) from tne (c := 41) n2 (by omega) (by decide)), if_neg (show ¬ nI c = (59 : Int32) from tne (c := 59) n3 (by omega) (by decide)), if_neg (show ¬ nI c = (43 : Int32) from tne (c := 43) n4 (by omega) (by decide)), if_neg (show ¬ nI c = (45 : Int32) from tne (c := 45) n5 (by omega) (by decide)), if_neg (show ¬ nI c = (42 : Int32) from tne (c := 42) n6 (by omega) (by decide)), if_neg (show ¬ nI c = (60 : Int32) from tne (c := 60) n7 (by omega) (by decide)), if_neg (show ¬ nI c = (61 : Int32) from tne (c := 61) n8 (by omega) (by decide))]
  · rw [if_neg h]
    rcases sgn_sl ⟨c, by omega⟩ with g | g
    · exact absurd g h
    · simp only [sl, List.mem_cons, Prod.mk.injEq, List.not_mem_nil, or_false] at g
      rcases g with ⟨g, _⟩ | ⟨g, _⟩ | ⟨g, _⟩ | ⟨g, _⟩ | ⟨g, _⟩ | ⟨g, _⟩ | ⟨g, _⟩ | ⟨g, _⟩ <;> (rw [g]; rfl)
theorem lex0 {tp tx : Nat → Int32} {q r R : Nat} (X : TX tp tx q r R) : ∀ d a, a + d = r → ∃ tv p ax, (∀ t0 p0 fc, d + 1 ≤ fc → sp_X2_next_0 (nI r) tp fc t0 p0 (nI a) = some (nI tv, nI p, ax)) ∧ CT r tv p ax ∧ a ≤ p ∧ ∀ fm t0 ta0 w0, R - a + 1 ≤ fm → ∃ h t ta w, sp_X6_next_0 (nI (160 * q)) (nI R) tx fm (nI a) t0 ta0 w0 = some (h, t, ta, w) ∧ TK tx q R tv p ax h t ta w := by
  have h1 := X.1
  have h2 := X.2.1
  intro d
  induction d with
  | zero =>
    intro a ha
    have : a = r := by omega
    subst this
    refine ⟨10031, a, nI a, fun t0 p0 fc hf => ?_, ⟨Nat.le_refl _, Or.inl ⟨rfl, rfl⟩⟩, Nat.le_refl _, fun fm t0 ta0 w0 hf => ?_⟩
    · obtain ⟨m, rfl⟩ : ∃ m, fc = m + 1 := ⟨fc - 1, by omega⟩
      rw [sp_X2_next_0, if_pos (nI_le (Nat.le_refl _) (by omega)), if_neg (nI_nlt (Nat.le_refl _) (by omega))]
      rfl
    · exact ⟨_, _, _, _, end6 X (R - a) a (by omega) (Nat.le_refl _) fm (by omega) t0 ta0 w0, Or.inl ⟨rfl, rfl, rfl⟩⟩
  | succ d ih =>
    intro a ha
    obtain ⟨x1, c, hc, x2⟩ := X.2.2.2.1 a (by omega)
    by_cases bl : c = 32 ∨ c = 10
    · obtain ⟨tv, p, ax, c1, c2, c3, c4⟩ := ih (a + 1) (by omega)
      refine ⟨tv, p, ax, fun t0 p0 fc hf => ?_, c2, by omega, fun fm t0 ta0 w0 hf => ?_⟩
      · obtain ⟨m, rfl⟩ : ∃ m, fc = m + 1 := ⟨fc - 1, by omega⟩
        rw [sp_X2_next_0, if_neg (nI_ge (by omega) (by omega)), xo_at_nI (by omega) (by decide), ob_s, ob_s, x2, nI_1]
        rcases bl with rfl | rfl
        · rw [if_pos (show nI 32 = 32 from rfl)]; exact c1 _ _ m (by omega)
        · rw [if_neg (show ¬ nI 10 = 32 by decide), if_pos (show nI 10 = 10 from rfl)]; exact c1 _ _ m (by omega)
      · obtain ⟨m, rfl⟩ : ∃ m, fm = m + 1 := ⟨fm - 1, by omega⟩
        rw [sp_X6_next_0, by_at X (by omega), ob_s, ob_s, x2, nI_1]
        rcases bl with rfl | rfl
        · rw [if_pos (show nI 32 = 32 from rfl)]; exact c4 m _ _ _ (by omega)
        · rw [if_neg (show ¬ nI 10 = 32 by decide), if_pos (show nI 10 = 10 from rfl)]; exact c4 m _ _ _ (by omega)
    · have b1 : ¬ nI c = 32 := tne (c := 32) (fun q => bl (Or.inl q)) (by omega) (by decide)
      have b2 : ¬ nI c = 10 := tne (c := 10) (fun q => bl (Or.inr q)) (by omega) (by decide)
      have b0 : 0 ≤ nI c := nI_pos' (by omega)
      have U2 : ∀ t0 p0 m, sp_X2_next_0 (nI r) tp (m + 1) t0 p0 (nI a) = if bI (isLb c) = 0 then (if bI (isDb c) = 0 then some (nI (sgn c), nI a, nI (a + 1)) else (sp_X2_figure (nI r) (nI a) (nI a) tp).bind fun r11 => some (r11.1, nI a, r11.2)) else (sp_X2_word (nI r) (nI a) (nI a) tp).bind fun r12 => some (r12.1, nI a, r12.2) := by
        intro t0 p0 m
        rw [sp_X2_next_0, if_neg (nI_ge (by omega) (by omega)), xo_at_nI (by omega) (by decide), ob_s, ob_s, x2, if_neg b1, if_neg b2, if_pos (nI_lt (by omega) (by omega)), ob_s, ob_s, ob_s, let2 hc, dig2 hc, sg2 hc, nI_1]
      have U6 : ∀ t0 ta0 w0 m, sp_X6_next_0 (nI (160 * q)) (nI R) tx (m + 1) (nI a) t0 ta0 w0 = if bI (isLb c) = 0 then (if bI (isDb c) = 0 then (if sgn c = 10032 then some (nI a, 4, nI a, w0) else some (nI (a + 1), 3, nI a, lN c)) else sp_X6_next_160 (nI (160 * q)) (nI R) tx 5000 0 (nI a) 2 (nI a) 0) else sp_X6_next_100 (nI (160 * q)) (nI R) tx 5000 (nI a) 1 (nI a) w0 := by
        intro t0 ta0 w0 m
        rw [sp_X6_next_0, by_at X (by omega), ob_s, ob_s, ob_s, x2, if_neg b1, if_neg b2, if_pos b0, let6 hc, dig6 hc, nI_l (by omega), nI_1]
        rw [sg6 hc]
      by_cases l : isLb c = true
      · obtain ⟨e, e1, e2, e3, e4, e5, e6⟩ := word_both X a (r - a) a (by omega) (Nat.le_refl _) (fun j j1 j2 => absurd j2 (by omega)) 5000 5000 (by omega) (by omega)
        have he := e4 c (by omega) hc x2 l
        have cod := wv_cod (tp := tp) (a := a) (e := e) wl
        have cod2 : wvL tp a e wl = 10032 ∨ (10000 ≤ wvL tp a e wl ∧ wvL tp a e wl ≤ 10015) := by
          rcases cod with g | ⟨x, g1, g2⟩
          · exact Or.inl g
          · rw [g2]; exact Or.inr (wl_c x g1)
        refine ⟨wvL tp a e wl, a, nI e, fun t0 p0 fc hf => ?_, ⟨by omega, ?_⟩, Nat.le_refl _, fun fm t0 ta0 w0 hf => ?_⟩
        · obtain ⟨m, rfl⟩ : ∃ m, fc = m + 1 := ⟨fc - 1, by omega⟩
          rw [U2, l, if_neg (show ¬ bI true = 0 by decide)]
          unfold sp_X2_word
          rw [e5, ob_s]
        · rcases cod2 with g | g
          · exact Or.inr (Or.inl g)
          · exact Or.inr (Or.inr ⟨by omega, e, he, e2, rfl⟩)
        · obtain ⟨m, rfl⟩ : ∃ m, fm = m + 1 := ⟨fm - 1, by omega⟩
          refine ⟨nI e, 1, nI a, w0, ?_, Or.inr (Or.inr (Or.inr (Or.inr ⟨fun x hx => ?_, cod2, rfl, rfl, rfl⟩)))⟩
          · rw [U6, l, if_neg (show ¬ bI true = 0 by decide), e6]
          · rw [isw_spl X (by omega) e2 (fun j hj => e3 (a + j) (by omega) hj) x hx, wv_iff wl wl_p (fun y hy => by have := wl_c y hy; omega) x hx]
      · by_cases g : isDb c = true
        · obtain ⟨e, tv, e1, e2, e4, e5, e6⟩ := fig_both X a (r - a) a (by omega) (Nat.le_refl _) 0 0 (Or.inl ⟨by omega, 0, Nat.pow_pos (by decide), rfl, rfl⟩) 5000 5000 (by omega) (by omega)
          have he := e4 c (by omega) hc x2 g
          obtain ⟨tk', w', g1, g2⟩ := e6 2
          rw [Nat.sub_self, nI_0] at g1
          refine ⟨tv, a, nI e, fun t0 p0 fc hf => ?_, ⟨by omega, ?_⟩, Nat.le_refl _, fun fm t0 ta0 w0 hf => ?_⟩
          · obtain ⟨m, rfl⟩ : ∃ m, fc = m + 1 := ⟨fc - 1, by omega⟩
            rw [U2, bff l, if_pos (show bI false = 0 from rfl), g, if_neg (show ¬ bI true = 0 by decide)]
            unfold sp_X2_figure
            rw [e5, ob_s]
          · rcases g2 with ⟨g, _⟩ | ⟨g, _⟩
            · exact Or.inr (Or.inr ⟨by omega, e, he, e2, rfl⟩)
            · exact Or.inr (Or.inl g)
          · obtain ⟨m, rfl⟩ : ∃ m, fm = m + 1 := ⟨fm - 1, by omega⟩
            refine ⟨nI e, tk', nI a, w', ?_, ?_⟩
            · rw [U6, bff l, if_pos (show bI false = 0 from rfl), g, if_neg (show ¬ bI true = 0 by decide), g1]
            · rcases g2 with ⟨k1, k2, k3⟩ | ⟨k1, k2⟩
              · exact Or.inr (Or.inr (Or.inl ⟨k1, k2, rfl, k3, rfl⟩))
              · exact Or.inr (Or.inl ⟨k1, k2, rfl⟩)
        · refine ⟨sgn c, a, nI (a + 1), fun t0 p0 fc hf => ?_, ⟨by omega, ?_⟩, Nat.le_refl _, fun fm t0 ta0 w0 hf => ?_⟩
          · obtain ⟨m, rfl⟩ : ∃ m, fc = m + 1 := ⟨fc - 1, by omega⟩
            rw [U2, bff l, if_pos (show bI false = 0 from rfl), bff g, if_pos (show bI false = 0 from rfl)]
          · rcases sgn_sl ⟨c, by omega⟩ with g | g
            · exact Or.inr (Or.inl g)
            · exact Or.inr (Or.inr ⟨(sl_c _ g).2.1, a + 1, by omega, by omega, rfl⟩)
          · obtain ⟨m, rfl⟩ : ∃ m, fm = m + 1 := ⟨fm - 1, by omega⟩
            rw [U6, bff l, if_pos (show bI false = 0 from rfl), bff g, if_pos (show bI false = 0 from rfl)]
            rcases sgn_sl ⟨c, by omega⟩ with g | g
            · have g' : sgn c = 10032 := g
              rw [if_pos g']
              exact ⟨_, _, _, _, rfl, Or.inr (Or.inl ⟨g', rfl, rfl⟩)⟩
            · have g' : (c, sgn c) ∈ sl := g
              have := (sl_c _ g').2.1
              rw [if_neg (by omega)]
              exact ⟨_, _, _, _, rfl, Or.inr (Or.inr (Or.inr (Or.inl ⟨⟨c, g', rfl⟩, rfl, rfl, rfl⟩)))⟩
theorem lex {tp tx : Nat → Int32} {q r R : Nat} (X : TX tp tx q r R) {a : Nat} (ha : a ≤ r) : ∃ tv p ax, (∀ t0 p0, sp_X2_next (nI r) t0 p0 (nI a) tp = some (nI tv, nI p, ax)) ∧ CT r tv p ax ∧ a ≤ p ∧ ∀ t0 ta0 w0, ∃ h t ta w, sp_X6_next (nI (160 * q)) (nI R) (nI a) t0 ta0 w0 tx = some (h, t, ta, w) ∧ TK tx q R tv p ax h t ta w := by
  have h1 := X.1
  have h2 := X.2.1
  obtain ⟨tv, p, ax, c1, c2, c3, c4⟩ := lex0 X (r - a) a (by omega)
  exact ⟨tv, p, ax, fun t0 p0 => c1 t0 p0 5000 (by omega), c2, c3, fun t0 ta0 w0 => c4 5000 t0 ta0 w0 (by omega)⟩
/-! what the reference sees of the token under way -/
theorem ss_all : ∀ x ∈ sl, ∀ y ∈ sl, sp_X6_isSign (nI x.1) 3 0 (lN y.1) = bI (decide (y.2 = x.2)) := by decide +kernel
theorem is_not3 {s t : Int32} {w : Int64} (h : ¬ t = 3) : sp_X6_isSign s t 0 w = 0 := by
  unfold sp_X6_isSign
  rw [if_pos rfl, if_neg h]
theorem is_bad {s t : Int32} {w : Int64} : sp_X6_isSign s t 1 w = 0 := by
  unfold sp_X6_isSign
  rw [if_neg (by decide)]
theorem iw_bad (W : List Int32) (fr sz h t ta : Int32) (tx : Nat → Int32) : isW W fr sz h t ta 1 tx = some 0 := by
  unfold isW sp_X6_isWord
  rw [if_neg (by decide)]
theorem iw_not1 (W : List Int32) {t : Int32} (ht : ¬ t = 1) (fr sz h ta : Int32) (tx : Nat → Int32) : isW W fr sz h t ta 0 tx = some 0 := by
  unfold isW sp_X6_isWord
  rw [if_pos rfl, if_neg ht]
theorem tk_s {tx : Nat → Int32} {q R tv p : Nat} {ax h t ta : Int32} {w : Int64} (H : TK tx q R tv p ax h t ta w) {x : Nat × Nat} (hx : x ∈ sl) : sp_X6_isSign (nI x.1) t 0 w = bI (decide (tv = x.2)) := by
  have hb := sl_c x hx
  have f : ¬ tv = x.2 → ¬ t = 3 → sp_X6_isSign (nI x.1) t 0 w = bI (decide (tv = x.2)) := by
    intro h1 h2
    rw [is_not3 h2, decide_eq_false h1]; rfl
  rcases H with ⟨a, b, _⟩ | ⟨a, b, _⟩ | ⟨a, b, _⟩ | ⟨⟨c, a, a2⟩, b, _⟩ | ⟨_, a, b, _⟩
  · exact f (by omega) (by rw [b]; decide)
  · exact f (by omega) (by rw [b]; decide)
  · exact f (by omega) (by rw [b]; decide)
  · rw [b, a2]; exact ss_all x hx _ a
  · exact f (by omega) (by rw [b]; decide)
theorem tk_w {tx : Nat → Int32} {q R tv p : Nat} {ax h t ta : Int32} {w : Int64} (H : TK tx q R tv p ax h t ta w) {x : List Int32 × Nat} (hx : x ∈ wl) : isW x.1 (nI (160 * q)) (nI R) h t ta 0 tx = some (bI (decide (tv = x.2))) := by
  have hb := wl_c x hx
  have f : ¬ tv = x.2 → ¬ t = 1 → isW x.1 (nI (160 * q)) (nI R) h t ta 0 tx = some (bI (decide (tv = x.2))) := by
    intro h1 h2
    rw [iw_not1 _ h2, decide_eq_false h1]; rfl
  rcases H with ⟨a, b, _⟩ | ⟨a, b, _⟩ | ⟨a, b, _⟩ | ⟨⟨c, a, a2⟩, b, _⟩ | ⟨a, _, b, _⟩
  · exact f (by omega) (by rw [b]; decide)
  · exact f (by omega) (by rw [b]; decide)
  · exact f (by omega) (by rw [b]; decide)
  · have := sl_c _ a
    exact f (by dsimp only at this; omega) (by rw [b]; decide)
  · rw [b]; exact a x hx
theorem tk_h {tx : Nat → Int32} {q R tv p : Nat} {ax h t ta : Int32} {w : Int64} (H : TK tx q R tv p ax h t ta w) (hv : tv ≤ 10027) : h = ax := by
  rcases H with ⟨a, _⟩ | ⟨a, _⟩ | ⟨_, _, _, _, a⟩ | ⟨_, _, _, a⟩ | ⟨_, _, _, _, a⟩
  · omega
  · omega
  · exact a
  · exact a
  · exact a
theorem tk_ta {tx : Nat → Int32} {q r R tv p : Nat} {ax h t ta : Int32} {w : Int64} (H : TK tx q R tv p ax h t ta w) (C : CT r tv p ax) : ta = nI p ∨ (p = r ∧ ta = nI R) := by
  rcases H with ⟨a, _, b⟩ | ⟨_, _, a⟩ | ⟨_, _, a, _⟩ | ⟨_, _, a, _⟩ | ⟨_, _, _, a, _⟩
  · rcases C.2 with ⟨_, c⟩ | c | ⟨c, _⟩
    · exact Or.inr ⟨c, b⟩
    · omega
    · omega
  · exact Or.inl a
  · exact Or.inl a
  · exact Or.inl a
  · exact Or.inl a
theorem tk_0 {tx : Nat → Int32} {q R tv p : Nat} {ax h t ta : Int32} {w : Int64} (H : TK tx q R tv p ax h t ta w) : t = 0 ↔ tv = 10031 := by
  rcases H with ⟨a, b, _⟩ | ⟨a, b, _⟩ | ⟨a, b, _⟩ | ⟨⟨c, a, _⟩, b, _⟩ | ⟨_, a, b, _⟩
  · rw [a, b]; exact ⟨fun _ => rfl, fun _ => rfl⟩
  · rw [a, b]; exact ⟨fun q => absurd q (by decide), fun q => absurd q (by decide)⟩
  · rw [b]; exact ⟨fun q => absurd q (by decide), fun q => by omega⟩
  · have := sl_c _ a
    dsimp only at this
    rw [b]; exact ⟨fun q => absurd q (by decide), fun q => by omega⟩
  · rw [b]; exact ⟨fun q => absurd q (by decide), fun q => by omega⟩
theorem tk_2 {tx : Nat → Int32} {q R tv p : Nat} {ax h t ta : Int32} {w : Int64} (H : TK tx q R tv p ax h t ta w) : (t = 2 ∧ tv ≤ 9999 ∧ w = lN tv) ∨ ((¬ t = 2) ∧ 10000 ≤ tv) := by
  rcases H with ⟨a, b, _⟩ | ⟨a, b, _⟩ | ⟨a, b, _, c, _⟩ | ⟨⟨c, a, _⟩, b, _⟩ | ⟨_, a, b, _⟩
  · exact Or.inr ⟨by rw [b]; decide, by omega⟩
  · exact Or.inr ⟨by rw [b]; decide, by omega⟩
  · exact Or.inl ⟨b, a, c⟩
  · have := sl_c _ a
    dsimp only at this
    exact Or.inr ⟨by rw [b]; decide, by omega⟩
  · exact Or.inr ⟨by rw [b]; decide, by omega⟩
theorem tk_1 {tx : Nat → Int32} {q R tv p : Nat} {ax h t ta : Int32} {w : Int64} (H : TK tx q R tv p ax h t ta w) (hv : 10000 ≤ tv) (hv2 : tv ≤ 10005) : t = 1 := by
  rcases H with ⟨a, b, _⟩ | ⟨a, b, _⟩ | ⟨a, b, _, c, _⟩ | ⟨⟨c, a, _⟩, b, _⟩ | ⟨_, a, b, _⟩
  · omega
  · omega
  · omega
  · have := sl_c _ a
    dsimp only at this
    omega
  · exact b
