/-! who cut -/
def ckP (nd hw : Nat → Nat) (j : Nat) (cl : Nat → Int32) : Prop := ∀ h, h < 3 → ∀ i, (tb (cl h) i = true ↔ ∃ l, l < j ∧ nd l = i ∧ hw l = h)
def clV (n q j : Nat) (nd hw : Nat → Nat) (it : Nat → Int32) : Prop := ∀ l, l < j → nd l < n ∧ hw l ≤ 2 ∧ it (40 * q + 2 * l) = nI (nd l) ∧ it (40 * q + (2 * l + 1)) = nI (hw l)
def fitF (m : Nat) (nd hw : Nat → Nat) (s Y : Int32) (j : Nat) : Prop := ∀ l, j ≤ l → l < m → (tb s (nd l) = false ∧ hw l = 2) ∨ (tb s (nd l) = true ∧ tb Y (nd l) = false ∧ hw l = 0) ∨ (tb s (nd l) = true ∧ tb Y (nd l) = true ∧ hw l = 1)
theorem at40 (q j : Nat) : nI q * 40 + nI j = nI (40 * q + j) := by
  show nI q * nI 40 + nI j = _
  rw [pk_mul, nI_add, Nat.mul_comm]
theorem at40' (q j : Nat) : 40 * nI q + nI j = nI (40 * q + j) := by
  show nI 40 * nI q + nI j = _
  rw [pk_mul, nI_add]
theorem clue_loop {n q m : Nat} (hn1 : 1 ≤ n) (hn : n ≤ 12) (hq : q < 4) (hm : 2 * m ≤ 40) {si it ss : Nat → Int32} (hit : ∀ j, j < 2 * m → it (40 * q + j) = si (40 * q + j)) (hss : ss q = nI (2 * m)) (p2 mi la g : Int32) (mP mK mN ye no : Nat → Int32) : ∀ (k j f1 f2 : Nat) (cl : Nat → Int32) (nd hw : Nat → Nat), j + k = m → k + 1 ≤ f1 → k + 1 ≤ f2 → clV n q j nd hw it → ckP nd hw j cl →
    (∃ cl', sp_X5_readsClues_28 (nI q) (nI (2 * m)) (nI n) si f1 (nI (2 * j)) cl = some (0, cl') ∧ sp_X6_whoCut_49 (nI q) p2 (nI n) mi la g mP mK mN ss it f2 (nI (2 * j)) ye no = some (-2, ye, no)) ∨
    (∃ cl' nd' hw', sp_X5_readsClues_28 (nI q) (nI (2 * m)) (nI n) si f1 (nI (2 * j)) cl = some (1, cl') ∧ clV n q m nd' hw' it ∧ ckP nd' hw' m cl' ∧ sp_X6_whoCut_49 (nI q) p2 (nI n) mi la g mP mK mN ss it f2 (nI (2 * j)) ye no = (sp_X6_standing g (nI n) mP).bind fun r5 => sp_X6_whoCut_128 (nI q) p2 r5 (nI n) mi la g mP mK mN ss it 5000 0 (-1) 0 ye no) := by
  intro k
  induction k with
  | zero =>
    intro j f1 f2 cl nd hw hj hf1 hf2 hv hc
    obtain ⟨m1, rfl⟩ : ∃ m, f1 = m + 1 := ⟨f1 - 1, by omega⟩
    obtain ⟨m2, rfl⟩ : ∃ m, f2 = m + 1 := ⟨f2 - 1, by omega⟩
    have : j = m := by omega
    subst this
    refine Or.inr ⟨cl, nd, hw, ?_, hv, hc, ?_⟩
    · rw [sp_X5_readsClues_28, nI_1, if_pos (nI_le (by omega) (by omega))]
    · rw [sp_X6_whoCut_49, xo_at_nI hq lt31c, ob_s, hss, if_pos (nI_le (Nat.le_refl _) (by omega))]
  | succ k ih =>
    intro j f1 f2 cl nd hw hj hf1 hf2 hv hc
    obtain ⟨m1, rfl⟩ : ∃ m, f1 = m + 1 := ⟨f1 - 1, by omega⟩
    obtain ⟨m2, rfl⟩ : ∃ m, f2 = m + 1 := ⟨f2 - 1, by omega⟩
    have e1 := hit (2 * j) (by omega)
    have e2 := hit (2 * j + 1) (by omega)
    have n2 : nI (2 * j) + 2 = nI (2 * (j + 1)) := by show nI (2 * j) + nI 2 = _; rw [nI_add]; rfl
    have ha : nI (40 * q + 2 * j) + 1 = nI (40 * q + (2 * j + 1)) := by rw [nI_1]; rfl
    rw [sp_X5_readsClues_28, nI_1, if_neg (nI_ge (by omega) (by omega)), sp_X6_whoCut_49, xo_at_nI hq lt31c, ob_s, hss, if_neg (nI_ge (by omega) (by omega))]
    unfold sp_X3_read
    simp only [at40, at40', ha, xo_at_nI (show 40 * q + 2 * j < 160 by omega) lt31b, xo_at_nI (show 40 * q + (2 * j + 1) < 160 by omega) lt31b, ob_s, e1, e2, n2]
    generalize hx : si (40 * q + 2 * j) = x at e1 ⊢
    generalize hy : si (40 * q + (2 * j + 1)) = y at e2 ⊢
    have b5 : sp_X5_isIn y 0 2 = 0 ↔ ¬ inI y 0 (2 : Nat) := by rw [in5]; rfl
    have b6 : sp_X6_in (Int32.toInt64 y) 0 2 = 0 ↔ ¬ inI y 0 (2 : Nat) := by rw [in6]; rfl
    rcases node_c x hn1 hn with ⟨i, hi, rfl⟩ | hno
    · obtain ⟨r, r1, r2⟩ := nd1 hi hn
      rw [if_neg (has1 hi hn), r1, ob_s, if_neg r2]
      by_cases h2 : inI y 0 (2 : Nat)
      · obtain ⟨h, hh, rfl⟩ := inI_nI h2 (by decide)
        rw [if_neg (fun g => b5.mp g h2), if_neg (fun g => b6.mp g h2), xo_at_nI (show h < 3 by omega) (by decide), ob_s, xo_set_nI (show h < 3 by omega) (by decide), ob_s]
        apply ih (j + 1) m1 m2 _ (fun l => if l = j then i else nd l) (fun l => if l = j then h else hw l) (by omega) (by omega) (by omega)
        · intro l hl
          by_cases e : l = j
          · subst e
            simp only [if_pos]
            exact ⟨hi, hh, e1, e2⟩
          · simp only [if_neg e]
            exact hv l (by omega)
        · intro h' hh' i'
          have hc' := hc h' hh' i'
          by_cases eh : h' = h
          · subst eh
            rw [pk_us, tb_or, tb_one (by omega), Bool.or_eq_true, hc', decide_eq_true_iff]
            dsimp only
            constructor
            · rintro (⟨l, l1, l2, l3⟩ | rfl)
              · refine ⟨l, by omega, ?_, ?_⟩
                · rw [if_neg (by omega)]; exact l2
                · rw [if_neg (by omega)]; exact l3
              · exact ⟨j, by omega, if_pos rfl, if_pos rfl⟩
            · rintro ⟨l, l1, l2, l3⟩
              by_cases e : l = j
              · right; rw [if_pos e] at l2; exact l2.symm
              · left
                rw [if_neg e] at l2 l3
                exact ⟨l, by omega, l2, l3⟩
          · rw [pk_un eh, hc']
            dsimp only
            constructor
            · rintro ⟨l, l1, l2, l3⟩
              refine ⟨l, by omega, ?_, ?_⟩
              · rw [if_neg (by omega)]; exact l2
              · rw [if_neg (by omega)]; exact l3
            · rintro ⟨l, l1, l2, l3⟩
              by_cases e : l = j
              · rw [if_pos e] at l3; exact absurd l3.symm eh
              · rw [if_neg e] at l2 l3
                exact ⟨l, by omega, l2, l3⟩
      · rw [if_pos (b5.mpr h2), if_pos (b6.mpr h2)]
        exact Or.inl ⟨_, rfl, rfl⟩
    · rw [if_pos (has0 hn1 hn hno), nd0 hn1 hn hno, ob_s, if_pos rfl]
      exact Or.inl ⟨_, rfl, rfl⟩
theorem so_loop {n q m : Nat} (hn : n ≤ 12) (hq : q < 4) (hm : 2 * m ≤ 40) {it ss : Nat → Int32} {nd hw : Nat → Nat} (hv : clV n q m nd hw it) (hss : ss q = nI (2 * m)) (s Y : Int32) : ∀ (k j f : Nat) (ye no : Nat → Int32), j + k = m → k + 1 ≤ f → (fitF m nd hw s Y j → sp_X6_isSo_13 (nI q) s Y ss it f (nI (2 * j)) ye no = some (1, ye, no)) ∧ (¬ fitF m nd hw s Y j → sp_X6_isSo_13 (nI q) s Y ss it f (nI (2 * j)) ye no = some (0, ye, no)) := by
  intro k
  induction k with
  | zero =>
    intro j f ye no hj hf
    obtain ⟨m1, rfl⟩ : ∃ m, f = m + 1 := ⟨f - 1, by omega⟩
    have : j = m := by omega
    subst this
    refine ⟨fun _ => ?_, fun h => absurd (fun l h1 h2 => by omega) h⟩
    rw [sp_X6_isSo_13, xo_at_nI hq lt31c, ob_s, hss, if_pos (nI_le (Nat.le_refl _) (by omega))]
  | succ k ih =>
    intro j f ye no hj hf
    obtain ⟨m1, rfl⟩ : ∃ m, f = m + 1 := ⟨f - 1, by omega⟩
    obtain ⟨i1, i2⟩ := ih (j + 1) m1 ye no (by omega) (by omega)
    obtain ⟨v1, v2, v3, v4⟩ := hv j (by omega)
    have n2 : nI (2 * j) + 2 = nI (2 * (j + 1)) := by show nI (2 * j) + nI 2 = _; rw [nI_add]; rfl
    have ha : nI (40 * q + 2 * j) + 1 = nI (40 * q + (2 * j + 1)) := by rw [nI_1]; rfl
    have up : fitF m nd hw s Y j ↔ ((tb s (nd j) = false ∧ hw j = 2) ∨ (tb s (nd j) = true ∧ tb Y (nd j) = false ∧ hw j = 0) ∨ (tb s (nd j) = true ∧ tb Y (nd j) = true ∧ hw j = 1)) ∧ fitF m nd hw s Y (j + 1) := by
      constructor
      · intro h; exact ⟨h j (Nat.le_refl _) (by omega), fun l h1 h2 => h l (by omega) h2⟩
      · rintro ⟨h1, h2⟩ l h3 h4
        by_cases e : l = j
        · subst e; exact h1
        · exact h2 l (by omega) h4
    rw [sp_X6_isSo_13, xo_at_nI hq lt31c, ob_s, hss, if_neg (nI_ge (by omega) (by omega))]
    simp only [at40', ha, xo_at_nI (show 40 * q + 2 * j < 160 by omega) lt31b, xo_at_nI (show 40 * q + (2 * j + 1) < 160 by omega) lt31b, ob_s, v3, v4, n2, shr_nI s (show nd j < 32 by omega), shr_nI Y (show nd j < 32 by omega)]
    have fin : ∀ (C : Prop) [Decidable C], (C ↔ ((tb s (nd j) = false ∧ hw j = 2) ∨ (tb s (nd j) = true ∧ tb Y (nd j) = false ∧ hw j = 0) ∨ (tb s (nd j) = true ∧ tb Y (nd j) = true ∧ hw j = 1))) → (fitF m nd hw s Y j → (if C then sp_X6_isSo_13 (nI q) s Y ss it m1 (nI (2 * (j + 1))) ye no else some (0, ye, no)) = some (1, ye, no)) ∧ (¬ fitF m nd hw s Y j → (if C then sp_X6_isSo_13 (nI q) s Y ss it m1 (nI (2 * (j + 1))) ye no else some (0, ye, no)) = some (0, ye, no)) := by
      intro C _ hC
      by_cases c : C
      · rw [if_pos c]
        exact ⟨fun h => i1 (up.mp h).2, fun h => i2 (fun h2 => h (up.mpr ⟨hC.mp c, h2⟩))⟩
      · rw [if_neg c]
        exact ⟨fun h => absurd (hC.mpr (up.mp h).1) c, fun _ => rfl⟩
    by_cases b : tb s (nd j) = true
    · rw [b, if_neg (show ¬ bI true = 0 by decide)]
      apply fin
      by_cases y : tb Y (nd j) = true
      · rw [y, show bI true = nI 1 from rfl, nI_eq (by decide) (by omega), b]
        constructor
        · intro h; exact Or.inr (Or.inr ⟨rfl, rfl, h.symm⟩)
        · rintro (⟨h, _⟩ | ⟨_, h, _⟩ | ⟨_, _, h⟩)
          · exact absurd h (by decide)
          · exact absurd h (by decide)
          · exact h.symm
      · rw [tbf y, show bI false = nI 0 from rfl, nI_eq (by decide) (by omega), b]
        constructor
        · intro h; exact Or.inr (Or.inl ⟨rfl, rfl, h.symm⟩)
        · rintro (⟨h, _⟩ | ⟨_, _, h⟩ | ⟨_, h, _⟩)
          · exact absurd h (by decide)
          · exact h.symm
          · exact absurd h (by decide)
    · rw [tbf b, if_pos (show bI false = 0 from rfl)]
      apply fin
      rw [show (2 : Int32) = nI 2 from rfl, nI_eq (by decide) (by omega), tbf b]
      constructor
      · intro h; exact Or.inl ⟨rfl, h.symm⟩
      · rintro (⟨_, h⟩ | ⟨h, _⟩ | ⟨h, _⟩)
        · exact h.symm
        · exact absurd h (by decide)
        · exact absurd h (by decide)
theorem fits_cl {n m : Nat} {nd hw : Nat → Nat} {cl : Nat → Int32} {q : Nat} {it : Nat → Int32} (hn : n ≤ 12) (hv : clV n q m nd hw it) (hc : ckP nd hw m cl) {p g mi la s Y : Int32} {oP oK oN oA : Nat → Int32} (e : sp_X1_standing p (nI n) g oA = some s) (hV : ∀ kc ld, ∃ kc' ld', sp_X1_vote s mi (nI n) la oP oK oN kc ld = some (Y, kc', ld')) (kc ld : Nat → Int32) : ∃ kc' ld', (fitF m nd hw s Y 0 → sp_X5_fitsClues p (nI n) g mi la oP oK oN oA kc ld cl = some (1, kc', ld')) ∧ (¬ fitF m nd hw s Y 0 → sp_X5_fitsClues p (nI n) g mi la oP oK oN oA kc ld cl = some (0, kc', ld')) := by
  have x0 : xo_at cl 3 0 = some (cl 0) := xo_at_nI (j := 0) (by decide) (by decide)
  have x1 : xo_at cl 3 1 = some (cl 1) := xo_at_nI (j := 1) (by decide) (by decide)
  have x2 : xo_at cl 3 2 = some (cl 2) := xo_at_nI (j := 2) (by decide) (by decide)
  have key : fitF m nd hw s Y 0 ↔ (s &&& cl 2) = 0 ∧ ((s ^^^ (-1)) &&& (cl 0 ||| cl 1)) = 0 ∧ (Y &&& cl 0) = 0 ∧ ((Y ^^^ (-1)) &&& cl 1) = 0 := by
    simp only [eq0_iff]
    constructor
    · intro h
      refine ⟨fun i hi => ?_, fun i hi => ?_, fun i hi => ?_, fun i hi => ?_⟩
      · rw [tb_and]
        by_cases c : tb (cl 2) i = true
        · obtain ⟨l, l1, l2, l3⟩ := (hc 2 (by omega) i).mp c
          rcases h l (by omega) l1 with ⟨a, _⟩ | ⟨_, _, a⟩ | ⟨_, _, a⟩
          · rw [← l2, a]; rfl
          · omega
          · omega
        · rw [tbf c, Bool.and_false]
      · rw [tb_and, tb_xor, tb_m1, decide_eq_true hi, tb_or]
        have : ∀ z, z < 2 → tb (cl z) i = true → tb s i = true := by
          intro z hz c
          obtain ⟨l, l1, l2, l3⟩ := (hc z (by omega) i).mp c
          rcases h l (by omega) l1 with ⟨_, a⟩ | ⟨a, _, _⟩ | ⟨a, _, _⟩
          · omega
          · rw [← l2]; exact a
          · rw [← l2]; exact a
        by_cases c : tb s i = true
        · rw [c]; rfl
        · have c0 : tb (cl 0) i = false := tbf (fun q => c (this 0 (by omega) q))
          have c1 : tb (cl 1) i = false := tbf (fun q => c (this 1 (by omega) q))
          rw [c0, c1, tbf c]; rfl
      · rw [tb_and]
        by_cases c : tb (cl 0) i = true
        · obtain ⟨l, l1, l2, l3⟩ := (hc 0 (by omega) i).mp c
          rcases h l (by omega) l1 with ⟨_, a⟩ | ⟨_, a, _⟩ | ⟨_, _, a⟩
          · omega
          · rw [← l2, a]; rfl
          · omega
        · rw [tbf c, Bool.and_false]
      · rw [tb_and, tb_xor, tb_m1, decide_eq_true hi]
        by_cases c : tb (cl 1) i = true
        · obtain ⟨l, l1, l2, l3⟩ := (hc 1 (by omega) i).mp c
          rcases h l (by omega) l1 with ⟨_, a⟩ | ⟨_, _, a⟩ | ⟨_, a, _⟩
          · omega
          · omega
          · rw [← l2, a]; rfl
        · rw [tbf c, Bool.and_false]
    · rintro ⟨h1, h2, h3, h4⟩ l _ hl
      obtain ⟨v1, v2, v3, v4⟩ := hv l hl
      have hcl := (hc (hw l) (by omega) (nd l)).mpr ⟨l, hl, rfl, rfl⟩
      have g1 := h1 (nd l) (by omega)
      have g2 := h2 (nd l) (by omega)
      have g3 := h3 (nd l) (by omega)
      have g4 := h4 (nd l) (by omega)
      rw [tb_and] at g1 g2 g3 g4
      rw [tb_xor, tb_m1, decide_eq_true (show nd l < 32 by omega)] at g2 g4
      rw [tb_or] at g2
      have : hw l = 0 ∨ hw l = 1 ∨ hw l = 2 := by omega
      rcases this with c | c | c
      · rw [c] at hcl
        rw [hcl] at g2 g3
        right; left
        refine ⟨?_, ?_, c⟩
        · revert g2; cases tb s (nd l) <;> simp
        · revert g3; cases tb Y (nd l) <;> simp
      · rw [c] at hcl
        rw [hcl] at g2 g4
        right; right
        refine ⟨?_, ?_, c⟩
        · revert g2; cases tb s (nd l) <;> simp
        · revert g4; cases tb Y (nd l) <;> simp
      · rw [c] at hcl
        rw [hcl] at g1
        left
        refine ⟨?_, c⟩
        revert g1; cases tb s (nd l) <;> simp
  obtain ⟨kc', ld', eV⟩ := hV kc ld
  unfold sp_X5_fitsClues
  simp only [e, ob_s, x0, x1, x2, eV]
  rw [key]
  by_cases a1 : (s &&& cl 2) = 0
  · rw [if_pos a1]
    by_cases a2 : ((s ^^^ (-1)) &&& (cl 0 ||| cl 1)) = 0
    · rw [if_pos a2]
      by_cases a3 : (Y &&& cl 0) = 0
      · rw [if_pos a3]
        by_cases a4 : ((Y ^^^ (-1)) &&& cl 1) = 0
        · rw [if_pos a4]
          exact ⟨kc', ld', fun _ => rfl, fun h => absurd ⟨a1, a2, a3, a4⟩ h⟩
        · rw [if_neg a4]
          exact ⟨kc', ld', fun h => absurd h.2.2.2 a4, fun _ => rfl⟩
      · rw [if_neg a3]
        exact ⟨kc', ld', fun h => absurd h.2.2.1 a3, fun _ => rfl⟩
    · rw [if_neg a2]
      exact ⟨kc, ld, fun h => absurd h.2.1 a2, fun _ => rfl⟩
  · rw [if_neg a1]
    exact ⟨kc, ld, fun h => absurd h.1 a1, fun _ => rfl⟩
theorem who_sim {n : Nat} {par : Nat → Nat} {oP oA mP oK oN mK mN : Nat → Int32} (T : TR n par oP oA mP) (K : KN n oK oN mK mN) {g mi la s : Int32} (g0 : tb g 0 = false) {k : Nat} (E : enP n k (sp_X5_withBit s 0 0)) {m q : Nat} {nd hw : Nat → Nat} {cl it ss : Nat → Int32} (hq : q < 4) (hm : 2 * m ≤ 40) (hv : clV n q m nd hw it) (hc : ckP nd hw m cl) (hss : ss q = nI (2 * m)) (p2 : Int32) (kc ld ye no : Nat → Int32) : ∃ v a b a' b', sp_X5_whoCut_80 p2 (sp_X5_withBit s 0 0) (sp_X5_waysOf (sp_X5_withBit s 0 0)) (nI n) g mi la oP oK oN oA 5000 0 (-1) 0 0 kc ld cl = some (v, a, b, cl) ∧ sp_X6_whoCut_128 (nI q) p2 s (nI n) mi la g mP mK mN ss it 5000 0 (-1) 0 ye no = some (v, a', b') := by
  have hn := T.2.1
  obtain ⟨h1, h2, h3, h4, h5, h6, h7, h8, h9, h10, h11⟩ := id E
  rw [h4]
  have H := en_sim (A := Int32 × Int32 × (Nat → Int32) × (Nat → Int32)) (B := Int32 × Int32 × (Nat → Int32) × (Nat → Int32)) E (fun a b => a.1 = b.1 ∧ a.2.1 = b.2.1) (fun f1 k' set a f2 u b => ∃ v x y x' y', sp_X5_whoCut_80 p2 (sp_X5_withBit s 0 0) (nI (eK k (2 ^ n))) (nI n) g mi la oP oK oN oA f1 a.1 a.2.1 (nI set) (nI k') a.2.2.1 a.2.2.2 cl = some (v, x, y, cl) ∧ sp_X6_whoCut_128 (nI q) p2 s (nI n) mi la g mP mK mN ss it f2 b.1 b.2.1 (nI u) b.2.2.1 b.2.2.2 = some (v, x', y'))
    (by
      intro f1 f2 set a b hI
      rw [sp_X5_whoCut_80, if_pos (nI_le (Nat.le_refl _) (by omega)), sp_X6_whoCut_128, h11, if_pos (nI_le (Nat.le_refl _) (by omega)), hI.1, hI.2]
      by_cases z : p2 = 0
      · rw [if_pos z, if_pos z]; exact ⟨_, _, _, _, _, rfl, rfl⟩
      · rw [if_neg z, if_neg z]; exact ⟨_, _, _, _, _, rfl, rfl⟩)
    (by
      intro f1 f2 k' set a u b hu hs hI h
      rw [sp_X6_whoCut_128, h11, if_neg (nI_ge hu (by omega)), nI_1]
      by_cases c : (nI u &&& (s ^^^ (-1))) = 0
      · have t0 : tb (nI u) 0 = true := by
          by_cases z : tb (nI u) 0 = true
          · exact z
          · have := (h7 u hu).mp ((sub_tr (nI u)).mpr ⟨c, tbf z⟩)
            rw [hs] at this
            exact absurd this (by decide)
        rw [if_pos c, apart0 T t0, ob_s, if_pos rfl]
        exact h
      · rw [if_neg c]
        exact h)
    (by
      intro f1 f2 k' a u b hu hs hk hk2 hnx hI h
      obtain ⟨i1, i2⟩ := hI
      obtain ⟨c1, c2⟩ := (sub_tr (nI u)).mp ((h7 u hu).mpr hs)
      obtain ⟨nb, n1, n2⟩ := nest_both T c2
      rw [sp_X5_whoCut_80, if_neg (nI_ge hk (by omega)), n1, ob_s, sp_X6_whoCut_128, h11, if_neg (nI_ge hu (by omega)), if_pos c1, n2, ob_s, hnx, nI_1, nI_1]
      cases nb
      · rw [if_pos (show bI false = 0 from rfl), if_neg (show ¬ bI (!false) = 0 by decide)]
        obtain ⟨s', t1, t2, t3, t4⟩ := st_cut T g (nI u) g0 c2
        obtain ⟨Y, v1, v2, v3⟩ := vote_both T K s' mi la t4
        obtain ⟨kc', ld', f1', f2'⟩ := fits_cl hn hv hc t1 v1 a.2.2.1 a.2.2.2
        obtain ⟨ye', no', e2⟩ := v2 b.2.2.1 b.2.2.2
        obtain ⟨l1, l2⟩ := so_loop hn hq hm hv hss s' Y m 0 5000 ye' no' (by omega) (by omega)
        rw [t2, ob_s]
        unfold sp_X6_isSo
        rw [e2, ob_s]
        have z0 : nI (2 * 0) = 0 := rfl
        rw [z0] at l1 l2
        by_cases G : fitF m nd hw s' Y 0
        · rw [f1' G, ob_s, l1 G, ob_s]
          dsimp only
          rw [if_neg (show ¬ (1 : Int32) = 0 by decide), if_neg (show ¬ (1 : Int32) = 0 by decide), i1, i2]
          by_cases z : b.2.1 = -1
          · rw [if_pos z, if_pos z]
            exact h (b.1 + 1, nI u, kc', ld') (b.1 + 1, nI u, ye', no') ⟨rfl, rfl⟩
          · rw [if_neg z, if_neg z]
            exact h (b.1 + 1, b.2.1, kc', ld') (b.1 + 1, b.2.1, ye', no') ⟨rfl, rfl⟩
        · rw [f2' G, ob_s, l2 G, ob_s, if_pos rfl, if_pos rfl]
          exact h (a.1, a.2.1, kc', ld') (b.1, b.2.1, ye', no') ⟨i1, i2⟩
      · rw [if_neg (show ¬ bI true = 0 by decide), if_pos (show bI (!true) = 0 from rfl)]
        exact h a b ⟨i1, i2⟩)
    (0, (-1), kc, ld) (0, (-1), ye, no) ⟨rfl, rfl⟩
  rw [nI_0] at H
  exact H
theorem fill27 (f : Nat → Int32) : ∃ g, sp_J7_fill_53178_p27 0 f = some g ∧ ∀ j, j < 3 → g j = 0 := by
  have gen : ∀ (k i fuel : Nat) (f : Nat → Int32), i + k = 3 → k + 1 ≤ fuel → (∀ j, j < i → f j = 0) → ∃ g, sp_J7_fill_53178_p27_5 0 3 fuel (nI i) f = some g ∧ ∀ j, j < 3 → g j = 0 := by
    intro k
    induction k with
    | zero =>
      intro i fuel f hi hf h
      obtain ⟨m, rfl⟩ : ∃ m, fuel = m + 1 := ⟨fuel - 1, by omega⟩
      have : i = 3 := by omega
      subst this
      exact ⟨f, by rw [sp_J7_fill_53178_p27_5, if_pos (by decide)], h⟩
    | succ k ih =>
      intro i fuel f hi hf h
      obtain ⟨m, rfl⟩ : ∃ m, fuel = m + 1 := ⟨fuel - 1, by omega⟩
      rw [sp_J7_fill_53178_p27_5, if_neg (show ¬ (3 : Int32) ≤ nI i from nI_ge (b := 3) (by omega) (by decide)), xo_set_nI (by omega) (by decide), ob_s, nI_1]
      apply ih (i + 1) m _ (by omega) (by omega)
      intro j hj
      by_cases e : j = i
      · subst e; rw [pk_us]
      · rw [pk_un e]; exact h j (by omega)
  exact gen 3 0 5000 f rfl (by omega) (fun j hj => absurd hj (by omega))
theorem q_whoCut : op_whoCut RRv := by
  intro o_size o_year o_gone o_minds o_lasts r_size r_token r_place r_at r_open r_made t_size t_rule i_there i_rule i_size i_year i_gone i_minds i_lasts o_parent o_kind o_number o_odds o_above o_kidCount o_lead r_tape r_steps r_ends t_steps t_ends t_stack s_sort s_size s_items i_number i_odds x_prices x_facts x_laws x_clues m_thrown m_textCount m_rule m_taped m_n m_minds m_lasts m_cutNow m_year m_ofNode m_ofDepth m_ofKids m_ofTwigs m_ofLast m_ofYear m_from m_size m_here m_token m_tokenAt m_open m_bad m_fault m_nKept m_mindsKept m_lastsKept m_cutKept m_yearKept m_ruleKept m_tokenWorth m_texts m_textSize m_tape m_parents m_kinds m_numbers m_odds m_yes m_no m_prices m_numbersKept m_oddsKept m_isThere m_sorts m_sheetSize m_items hR p1 p2
  obtain ⟨n, t, hT, hP, hX, hI, hS⟩ := id hR
  obtain ⟨par, rfl, rfl, T, K, rfl, rfl, rfl, rfl, g0, pz, hO, hy, hg⟩ := rt_open hT
  have hn := T.2.1
  have hn1 := T.1
  obtain ⟨s, s1, s2, s3, s4⟩ := st_now T m_cutNow g0
  have b5 : sp_X5_isIn p2 0 1 = 0 ↔ ¬ inI p2 0 (1 : Nat) := by rw [in5]; rfl
  have b6 : sp_X6_in (Int32.toInt64 p2) 0 1 = 0 ↔ ¬ inI p2 0 (1 : Nat) := by rw [in6]; rfl
  unfold sp_X5_whoCut sp_X6_whoCut
  rcases sheet_c p1 with ⟨q, hq, rfl, i5, r, r1, r2⟩ | ⟨i5, i6⟩
  · rw [if_neg i5, r1, ob_s, if_neg r2]
    by_cases h2 : inI p2 0 (1 : Nat)
    · rw [if_neg (fun g => b5.mp g h2), if_neg (fun g => b6.mp g h2)]
      simp only [xo_at_nI hq lt31c, ob_s]
      rcases sh_c hq hS with ⟨c1, c2⟩ | ⟨c1, c2, k, hk, c3, c4, z, hz, c5, c6, c7⟩
      · rw [if_pos c1, if_pos c2]
        exact ⟨_, _, rfl, rfl, rfl, hR⟩
      · rw [if_neg c1, if_neg c2, c6]
        obtain ⟨f0, f1, f2⟩ := fill27 x_clues
        unfold sp_X5_readsClues
        rw [f1, ob_s, xo_at_nI hq lt31c, ob_s, c5, rem2 (by omega)]
        by_cases zo : z % 2 = 1
        · rw [zo, if_neg (show ¬ nI 1 = 0 by decide), if_pos (show nI 1 = 1 by decide), ob_s, if_pos rfl]
          exact ⟨_, _, rfl, rfl, rfl, hR⟩
        · obtain ⟨m, rfl⟩ : ∃ m, z = 2 * m := ⟨z / 2, by omega⟩
          rw [show 2 * m % 2 = 0 by omega, if_pos nI_0, if_neg (show ¬ nI 0 = 1 by decide)]
          have L := clue_loop (n := n) (q := q) (m := m) hn1 hn hq hz (si := s_items) (it := m_items) (ss := m_sheetSize) (fun j hj => c7 j hj) c6 p2 m_minds m_lasts m_cutNow m_parents m_kinds m_numbers m_yes m_no m 0 5000 5000 f0 (fun _ => 0) (fun _ => 0) (by omega) (by omega) (by omega) (fun l hl => absurd hl (by omega)) (fun h hh i => ⟨fun c => by rw [f2 h hh, tb_0] at c; exact absurd c (by decide), fun ⟨l, hl, _⟩ => absurd hl (by omega)⟩)
          rw [show nI (2 * 0) = 0 from rfl] at L
          rcases L with ⟨cl', d1, d2⟩ | ⟨cl', nd', hw', d1, d2, d3, d4⟩
          · rw [d1, d2, ob_s, if_pos rfl]
            exact ⟨_, _, rfl, rfl, rfl, hR⟩
          · rw [d1, d4, ob_s]
            dsimp only
            rw [if_neg (show ¬ (1 : Int32) = 0 by decide), s1, s2, ob_s, ob_s]
            obtain ⟨kk, E⟩ := en_of hn (tr_bd (st_bd s3))
            obtain ⟨v, a, b, a', b', e1, e2⟩ := who_sim (mi := m_minds) (la := m_lasts) T K g0 E hq hz d2 d3 c6 p2 o_kidCount o_lead m_yes m_no
            exact ⟨_, _, e1, e2, rfl, hR⟩
    · rw [if_pos (b5.mpr h2), if_pos (b6.mpr h2)]
      exact ⟨_, _, rfl, rfl, rfl, hR⟩
  · rw [if_pos i5, i6, ob_s, if_pos rfl]
    exact ⟨_, _, rfl, rfl, rfl, hR⟩
