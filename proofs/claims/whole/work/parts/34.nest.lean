/-! whether one of a set is above another one -/
theorem ap_in {n : Nat} {par : Nat → Nat} {oP oA mP : Nat → Int32} (T : TR n par oP oA mP) {x : Int32} (h0 : tb x 0 = false) {c : Int32 → Option Int32} {r : Option Int32} (hc : ∀ y, c y = r) (i1 N : Int32) : ∀ v, v < n → ∀ fuel, v + 1 ≤ fuel → sp_X6_areApart_26 c x i1 N mP fuel (nI v) = if okf oA x v = true then r else some 0 := by
  have hn := T.2.1
  intro v
  induction v using Nat.strongRecOn with
  | ind v ih =>
    intro hv fuel hf
    obtain ⟨m, rfl⟩ : ∃ m, fuel = m + 1 := ⟨fuel - 1, by omega⟩
    by_cases z : v = 0
    · subst z
      rw [sp_X6_areApart_26, if_pos (by decide), hc, okf_z T, h0]; rfl
    · obtain ⟨q1, q2, q3, q4⟩ := T.2.2.2 v (by omega) hv
      rw [sp_X6_areApart_26, if_neg (nI_nle (by omega) (by omega)), okf_s T x (by omega) hv]
      by_cases t : tb x v = true
      · rw [if_pos (shr1 (by omega) t), t, if_neg (by simp)]
      · rw [if_neg (shr1n (by omega) (tbf t)), xo_at_nI (by omega) lt31, ob_s, q3, ih (par v) q1 (by omega) m (by omega), tbf t, Bool.not_false, Bool.true_and]
theorem ap_in0 {n : Nat} {par : Nat → Nat} {oP oA mP : Nat → Int32} (T : TR n par oP oA mP) {x : Int32} {c : Int32 → Option Int32} {r : Option Int32} (hc : ∀ y, c y = r) (i1 N : Int32) : ∀ v, v < n → ∀ fuel, v + 1 ≤ fuel → sp_X6_areApart_26 c x i1 N mP fuel (nI v) = r ∨ sp_X6_areApart_26 c x i1 N mP fuel (nI v) = some 0 := by
  have hn := T.2.1
  intro v
  induction v using Nat.strongRecOn with
  | ind v ih =>
    intro hv fuel hf
    obtain ⟨m, rfl⟩ : ∃ m, fuel = m + 1 := ⟨fuel - 1, by omega⟩
    by_cases z : v = 0
    · subst z
      rw [sp_X6_areApart_26, if_pos (by decide), hc]
      exact Or.inl rfl
    · obtain ⟨q1, q2, q3, q4⟩ := T.2.2.2 v (by omega) hv
      rw [sp_X6_areApart_26, if_neg (nI_nle (by omega) (by omega))]
      by_cases t : tb x v = true
      · rw [if_pos (shr1 (by omega) t)]; exact Or.inr rfl
      · rw [if_neg (shr1n (by omega) (tbf t)), xo_at_nI (by omega) lt31, ob_s, q3]
        exact ih (par v) q1 (by omega) m (by omega)
theorem nest_loop {n : Nat} {par : Nat → Nat} {oP oA mP : Nat → Int32} (T : TR n par oP oA mP) {x : Int32} (h0 : tb x 0 = false) : ∀ k i f1 f2, i + k = n → 1 ≤ i → k + 1 ≤ f1 → k + 1 ≤ f2 → ∃ b, sp_X1_isNested_2 x (nI n) oA f1 (nI i) = some (bI b) ∧ sp_X6_areApart_2 x (nI n) mP f2 (nI i) = some (bI (!b)) := by
  have hn := T.2.1
  intro k
  induction k with
  | zero =>
    intro i f1 f2 hi h1 hf1 hf2
    obtain ⟨m1, rfl⟩ : ∃ m, f1 = m + 1 := ⟨f1 - 1, by omega⟩
    obtain ⟨m2, rfl⟩ : ∃ m, f2 = m + 1 := ⟨f2 - 1, by omega⟩
    have : i = n := by omega
    subst this
    refine ⟨false, ?_, ?_⟩
    · rw [sp_X1_isNested_2, if_pos (nI_le (Nat.le_refl _) (by omega))]; rfl
    · rw [sp_X6_areApart_2, if_pos (nI_le (Nat.le_refl _) (by omega)), if_pos (by rw [and_1, h0]; rfl)]; rfl
  | succ k ih =>
    intro i f1 f2 hi h1 hf1 hf2
    obtain ⟨m1, rfl⟩ : ∃ m, f1 = m + 1 := ⟨f1 - 1, by omega⟩
    obtain ⟨m2, rfl⟩ : ∃ m, f2 = m + 1 := ⟨f2 - 1, by omega⟩
    obtain ⟨b, b1, b2⟩ := ih (i + 1) m1 m2 (by omega) (by omega) (by omega) (by omega)
    obtain ⟨q1, q2, q3, q4⟩ := T.2.2.2 i h1 (by omega)
    rw [sp_X1_isNested_2, if_neg (nI_ge (by omega) (by omega)), sp_X6_areApart_2, if_neg (nI_ge (by omega) (by omega)), nI_1]
    by_cases t : tb x i = true
    · rw [if_pos (bit1 (by omega) t), if_pos (shr1 (by omega) t), xo_at_nI (by omega) lt31, ob_s, xo_at_nI (by omega) lt31, ob_s, q3, ap_in T h0 (r := some (bI (!b))) (fun _ => b2) _ _ (par i) (by omega) 5000 (by omega)]
      by_cases o : (oA i &&& x) = 0
      · have : okf oA x (par i) = true := by unfold okf; rw [← q4]; exact decide_eq_true o
        rw [if_pos o, if_pos this]
        exact ⟨b, b1, rfl⟩
      · have : ¬ okf oA x (par i) = true := by unfold okf; rw [← q4]; intro q; exact o (of_decide_eq_true q)
        rw [if_neg o, if_neg this]
        exact ⟨true, rfl, rfl⟩
    · rw [if_neg (bit1n (by omega) (tbf t)), if_neg (shr1n (by omega) (tbf t))]
      exact ⟨b, b1, b2⟩
theorem nest_both {n : Nat} {par : Nat → Nat} {oP oA mP : Nat → Int32} (T : TR n par oP oA mP) {x : Int32} (h0 : tb x 0 = false) : ∃ b, sp_X1_isNested x (nI n) oA = some (bI b) ∧ sp_X6_areApart x (nI n) mP = some (bI (!b)) := by
  have hn := T.2.1
  have hn1 := T.1
  exact nest_loop T h0 (n - 1) 1 5000 5000 (by omega) (by omega) (by omega) (by omega)
theorem apart0 {n : Nat} {par : Nat → Nat} {oP oA mP : Nat → Int32} (T : TR n par oP oA mP) {x : Int32} (h0 : tb x 0 = true) : sp_X6_areApart x (nI n) mP = some 0 := by
  have hn := T.2.1
  have hn1 := T.1
  have gen : ∀ k i f2, i + k = n → 1 ≤ i → k + 1 ≤ f2 → sp_X6_areApart_2 x (nI n) mP f2 (nI i) = some 0 := by
    intro k
    induction k with
    | zero =>
      intro i f2 hi h1 hf2
      obtain ⟨m2, rfl⟩ : ∃ m, f2 = m + 1 := ⟨f2 - 1, by omega⟩
      have : i = n := by omega
      subst this
      rw [sp_X6_areApart_2, if_pos (nI_le (Nat.le_refl _) (by omega)), if_neg (by rw [and_1, h0]; decide)]
    | succ k ih =>
      intro i f2 hi h1 hf2
      obtain ⟨m2, rfl⟩ : ∃ m, f2 = m + 1 := ⟨f2 - 1, by omega⟩
      have b2 := ih (i + 1) m2 (by omega) (by omega) (by omega)
      obtain ⟨q1, q2, q3, q4⟩ := T.2.2.2 i h1 (by omega)
      rw [sp_X6_areApart_2, if_neg (nI_ge (by omega) (by omega)), nI_1]
      by_cases t : tb x i = true
      · rw [if_pos (shr1 (by omega) t), xo_at_nI (by omega) lt31, ob_s, q3]
        rcases ap_in0 T (x := x) (r := some 0) (fun _ => b2) (nI i) (nI n) (par i) (by omega) 5000 (by omega) with q | q <;> exact q
      · rw [if_neg (shr1n (by omega) (tbf t))]
        exact b2
  exact gen (n - 1) 1 5000 (by omega) (by omega) (by omega)
/-- a set without the trunk, and one with it -/
theorem sub_tr {s : Int32} (u : Int32) : ((u &&& (sp_X5_withBit s 0 0 ^^^ (-1))) = 0 ↔ (u &&& (s ^^^ (-1))) = 0 ∧ tb u 0 = false) := by
  have e : ∀ i, tb (sp_X5_withBit s 0 0) i = (tb s i && decide (i ≠ 0)) := fun i => tb_wb0 s (j := 0) (by decide) i
  rw [eq0_iff, eq0_iff]
  constructor
  · intro h
    refine ⟨fun i hi => ?_, ?_⟩
    · have := h i hi
      rw [tb_and, tb_xor, tb_m1, decide_eq_true hi, e] at this
      rw [tb_and, tb_xor, tb_m1, decide_eq_true hi]
      revert this
      cases tb u i <;> cases tb s i <;> simp
    · have := h 0 (by decide)
      rw [tb_and, tb_xor, tb_m1, e] at this
      revert this
      cases tb u 0 <;> cases tb s 0 <;> simp
  · rintro ⟨h, hz⟩ i hi
    have := h i hi
    rw [tb_and, tb_xor, tb_m1, decide_eq_true hi] at this
    rw [tb_and, tb_xor, tb_m1, decide_eq_true hi, e]
    by_cases z : i = 0
    · subst z; rw [hz]; rfl
    · rw [decide_eq_true z]
      revert this
      cases tb u i <;> cases tb s i <;> simp
theorem tr_bd {n : Nat} {s : Int32} (h : ∀ i, tb s i = true → i < n) : ∀ i, tb (sp_X5_withBit s 0 0) i = true → i < n := by
  intro i hi
  have e : tb (sp_X5_withBit s 0 0) i = (tb s i && decide (i ≠ 0)) := tb_wb0 s (j := 0) (by decide) i
  rw [e] at hi
  apply h
  revert hi
  cases tb s i <;> simp
