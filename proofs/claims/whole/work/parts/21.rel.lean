/-! the relation that each call keeps -/
def pr_set (n : Nat) (x : Int32) : Prop := ∀ i, n ≤ i → tb x i = false
def pr_tree (n : Nat) (parent kind number odds : Nat → Int32) : Prop := 1 ≤ n ∧ n ≤ 12 ∧ (∀ i, 1 ≤ i → i < n → ∃ p, p < i ∧ parent i = nI p) ∧ (∀ i, i < n → ∃ k, k ≤ 5 ∧ kind i = nI k) ∧ (∀ i, i < n → ∃ k, k ≤ 9 ∧ number i = nI k) ∧ (∀ i, i < n → ∃ k, k ≤ 100 ∧ odds i = nI k)
def pr_above (n : Nat) (parent above : Nat → Int32) : Prop := above 0 = 0 ∧ ∀ i p, 1 ≤ i → i < n → p < i → parent i = nI p → above i = (above p ||| xi_shl 1 (nI p))
def RTree (n : Nat) (o_size : Int32) (o_year : Int32) (o_gone : Int32) (o_minds : Int32) (o_lasts : Int32) (o_parent : Nat → Int32) (o_kind : Nat → Int32) (o_number : Nat → Int32) (o_odds : Nat → Int32) (o_above : Nat → Int32) (m_n : Int32) (m_minds : Int32) (m_lasts : Int32) (m_cutNow : Int32) (m_year : Int32) (m_parents : Nat → Int32) (m_kinds : Nat → Int32) (m_numbers : Nat → Int32) (m_odds : Nat → Int32) : Prop := o_size = nI n ∧ m_n = nI n ∧ pr_tree n o_parent o_kind o_number o_odds ∧ pr_above n o_parent o_above ∧ (∀ i, 1 ≤ i → i < n → m_parents i = o_parent i) ∧ m_parents 0 = -1 ∧ (∀ i, i < n → m_kinds i = o_kind i ∧ m_numbers i = o_number i ∧ m_odds i = o_odds i) ∧ m_minds = o_minds ∧ m_lasts = o_lasts ∧ m_cutNow = o_gone ∧ m_year = o_year ∧ (∃ y, y ≤ 99 ∧ o_year = nI y) ∧ tb o_gone 0 = false ∧ pr_set n o_gone
def RTape (r_size : Int32) (r_tape : Nat → Int32) (m_taped : Int32) (m_tape : Nat → Int32) : Prop := ∃ r, r ≤ 160 ∧ r_size = nI r ∧ m_taped = nI r ∧ ∀ i, i < r → m_tape i = r_tape i ∧ ∃ c, c ≤ 255 ∧ r_tape i = nI c
def pr_text (q : Nat) (steps ends texts ts : Nat → Int32) : Prop := ∀ steps' ends' texts' ts' : Nat → Int32, (∀ j, 160 * q ≤ j → j < 160 * q + 160 → steps' j = steps j ∧ texts' j = texts j) → (∀ j, 3 * q ≤ j → j < 3 * q + 3 → ends' j = ends j) → ts' q = ts q → ∀ w, w < 3 → ∀ f : Nat → Int32, ∃ v : Int32, (∀ st : Nat → Int32, ∃ o, sp_X4_value_p25 (nI w) (nI q) steps' ends' st f = some o ∧ o.1 = v) ∧ ∀ (a1 a2 a3 a4 a5 a6 a7 a8 : Int32) (tw : Int64), ∃ o, sp_X6_read (nI q) (nI w) (f 0) (f 1) (f 2) (f 3) (f 4) (f 5) a1 a2 a3 a4 a5 a6 a7 a8 tw texts' ts' = some o ∧ o.1 = v
def RText (t : Nat) (t_size : Int32) (t_rule : Int32) (t_steps : Nat → Int32) (t_ends : Nat → Int32) (m_textCount : Int32) (m_rule : Int32) (m_texts : Nat → Int32) (m_textSize : Nat → Int32) : Prop := 1 ≤ t ∧ t ≤ 6 ∧ t_size = nI t ∧ m_textCount = nI t ∧ (∃ u, u < t ∧ t_rule = nI u ∧ m_rule = nI u) ∧ ∀ q, q < t → pr_text q t_steps t_ends m_texts m_textSize
def RImg (n t : Nat) (i_there : Int32) (i_rule : Int32) (i_size : Int32) (i_year : Int32) (i_gone : Int32) (i_minds : Int32) (i_lasts : Int32) (i_number : Nat → Int32) (i_odds : Nat → Int32) (m_nKept : Int32) (m_mindsKept : Int32) (m_lastsKept : Int32) (m_cutKept : Int32) (m_yearKept : Int32) (m_ruleKept : Int32) (m_numbersKept : Nat → Int32) (m_oddsKept : Nat → Int32) : Prop := (i_there = 0 ∧ m_nKept = -1) ∨ (i_there = 1 ∧ ∃ k, 1 ≤ k ∧ k ≤ n ∧ i_size = nI k ∧ m_nKept = nI k ∧ (∀ i, i < k → m_numbersKept i = i_number i ∧ m_oddsKept i = i_odds i ∧ (∃ c, c ≤ 9 ∧ i_number i = nI c) ∧ ∃ c, c ≤ 100 ∧ i_odds i = nI c) ∧ m_mindsKept = i_minds ∧ m_lastsKept = i_lasts ∧ m_cutKept = i_gone ∧ m_yearKept = i_year ∧ (∃ y, y ≤ 99 ∧ i_year = nI y) ∧ tb i_gone 0 = false ∧ pr_set k i_gone ∧ ∃ u, u < t ∧ i_rule = nI u ∧ m_ruleKept = nI u)
def RSh (s_sort : Nat → Int32) (s_size : Nat → Int32) (s_items : Nat → Int32) (m_isThere : Nat → Int32) (m_sorts : Nat → Int32) (m_sheetSize : Nat → Int32) (m_items : Nat → Int32) : Prop := ∀ q, q < 4 → (s_sort q = -1 ∧ m_isThere q = 0) ∨ (∃ k, k ≤ 2 ∧ s_sort q = nI k ∧ m_sorts q = nI k ∧ m_isThere q = 1 ∧ ∃ z, z ≤ 40 ∧ s_size q = nI z ∧ m_sheetSize q = nI z ∧ ∀ j, j < z → m_items (40 * q + j) = s_items (40 * q + j))
def RRv (o_size : Int32) (o_year : Int32) (o_gone : Int32) (o_minds : Int32) (o_lasts : Int32) (r_size : Int32) (t_size : Int32) (t_rule : Int32) (i_there : Int32) (i_rule : Int32) (i_size : Int32) (i_year : Int32) (i_gone : Int32) (i_minds : Int32) (i_lasts : Int32) (o_parent : Nat → Int32) (o_kind : Nat → Int32) (o_number : Nat → Int32) (o_odds : Nat → Int32) (o_above : Nat → Int32) (r_tape : Nat → Int32) (t_steps : Nat → Int32) (t_ends : Nat → Int32) (s_sort : Nat → Int32) (s_size : Nat → Int32) (s_items : Nat → Int32) (i_number : Nat → Int32) (i_odds : Nat → Int32) (m_textCount : Int32) (m_rule : Int32) (m_taped : Int32) (m_n : Int32) (m_minds : Int32) (m_lasts : Int32) (m_cutNow : Int32) (m_year : Int32) (m_nKept : Int32) (m_mindsKept : Int32) (m_lastsKept : Int32) (m_cutKept : Int32) (m_yearKept : Int32) (m_ruleKept : Int32) (m_texts : Nat → Int32) (m_textSize : Nat → Int32) (m_tape : Nat → Int32) (m_parents : Nat → Int32) (m_kinds : Nat → Int32) (m_numbers : Nat → Int32) (m_odds : Nat → Int32) (m_numbersKept : Nat → Int32) (m_oddsKept : Nat → Int32) (m_isThere : Nat → Int32) (m_sorts : Nat → Int32) (m_sheetSize : Nat → Int32) (m_items : Nat → Int32) : Prop := ∃ n t : Nat, RTree n o_size o_year o_gone o_minds o_lasts o_parent o_kind o_number o_odds o_above m_n m_minds m_lasts m_cutNow m_year m_parents m_kinds m_numbers m_odds ∧ RTape r_size r_tape m_taped m_tape ∧ RText t t_size t_rule t_steps t_ends m_textCount m_rule m_texts m_textSize ∧ RImg n t i_there i_rule i_size i_year i_gone i_minds i_lasts i_number i_odds m_nKept m_mindsKept m_lastsKept m_cutKept m_yearKept m_ruleKept m_numbersKept m_oddsKept ∧ RSh s_sort s_size s_items m_isThere m_sorts m_sheetSize m_items
/-- in a range -/
def inI (x : Int32) (a b : Int) : Prop := a ≤ x.toInt ∧ x.toInt ≤ b
theorem if2 {P Q R : Prop} [Decidable P] [Decidable Q] (h : ¬ R ↔ P ∨ Q) : ((if P then (0 : Int32) else if Q then 0 else 1) = 0 ↔ ¬ R) := by
  by_cases h1 : P
  · rw [if_pos h1]; exact ⟨fun _ => h.mpr (Or.inl h1), fun _ => rfl⟩
  · rw [if_neg h1]
    by_cases h2 : Q
    · rw [if_pos h2]; exact ⟨fun _ => h.mpr (Or.inr h2), fun _ => rfl⟩
    · rw [if_neg h2]
      exact ⟨fun q => absurd q (by decide), fun q => ((h.mp q).elim h1 h2).elim⟩
theorem in5 (x a b : Int32) : (sp_X5_isIn x a b = 0 ↔ ¬ inI x a.toInt b.toInt) := by
  unfold sp_X5_isIn inI
  apply if2
  rw [Int32.lt_iff_toInt_lt, Int32.lt_iff_toInt_lt]
  omega
theorem in6 (x : Int32) (a b : Int64) : (sp_X6_in (Int32.toInt64 x) a b = 0 ↔ ¬ inI x a.toInt b.toInt) := by
  unfold sp_X6_in inI
  apply if2
  rw [lg_cmp_lt, lg_cmp_gt, Int64.lt_iff_toInt_lt, Int64.lt_iff_toInt_lt, Int32.toInt_toInt64]
  omega
theorem in6_01 (x : Int32) (a b : Int64) : sp_X6_in (Int32.toInt64 x) a b = 0 ∨ sp_X6_in (Int32.toInt64 x) a b = 1 := by
  unfold sp_X6_in
  split
  · exact Or.inl rfl
  · split
    · exact Or.inl rfl
    · exact Or.inr rfl
theorem inI_nI {x : Int32} {k : Nat} (h : inI x 0 k) (hk : k < 2 ^ 31) : ∃ j, j ≤ k ∧ x = nI j := by
  have h1 : ¬ x < 0 := by
    intro q
    have := Int32.lt_iff_toInt_lt.mp q
    have h2 : (0 : Int32).toInt = 0 := by decide
    have := h.1
    omega
  obtain ⟨j, hj, e⟩ := nI_of h1
  refine ⟨j, ?_, e⟩
  have := h.2
  rw [e, nI_toInt hj] at this
  omega
theorem nI_inI {j : Nat} (hj : j < 2 ^ 31) {a b : Int} : inI (nI j) a b ↔ a ≤ j ∧ (j : Int) ≤ b := by
  unfold inI
  rw [nI_toInt hj]
theorem has_iff (x : Int32) {n : Nat} (h1 : 1 ≤ n) (hn : n < 2 ^ 31) : (sp_X1_has x (nI n) = 0 ↔ ¬ inI x 0 ((n : Int) - 1)) := by
  unfold sp_X1_has inI
  apply if2
  rw [Int32.lt_iff_toInt_lt, Int32.le_iff_toInt_le, nI_toInt hn]
  have h0 : (0 : Int32).toInt = 0 := by decide
  rw [h0]
  omega
theorem node6 (x : Int32) {n : Nat} (h1 : 1 ≤ n) (hn : n < 2 ^ 30) : ∃ r, sp_X6_isNode x (nI n) = some r ∧ (r = 0 ↔ ¬ inI x 0 ((n : Int) - 1)) := by
  have e : (Int32.toInt64 (nI n - 1)).toInt = (n : Int) - 1 := by
    rw [Int32.toInt_toInt64]
    exact pk_sub_toInt (a := n) (b := 1) hn (by decide)
  refine ⟨sp_X6_in (Int32.toInt64 x) 0 (Int32.toInt64 (nI n - 1)), ?_, ?_⟩
  · unfold sp_X6_isNode
    rw [if_neg (fun h => h (in6_01 _ _ _))]
  · rw [in6, e]
    have : (0 : Int64).toInt = 0 := by decide
    rw [this]
theorem nI_in' {c N : Nat} (h : c < N) (hN : N < 2 ^ 31) : ¬ (nI c < 0 ∨ N ≤ (nI c).toNatClampNeg) := nI_in h hN
theorem xo_at_nI {f : Nat → Int32} {n j : Nat} (h : j < n) (hn : n < 2 ^ 31) : xo_at f n (nI j) = some (f j) := by
  unfold xo_at
  rw [if_neg (nI_in' h hn), nI_clamp (Nat.lt_trans h hn)]
theorem xo_set_nI {f : Nat → Int32} {n j : Nat} {x : Int32} (h : j < n) (hn : n < 2 ^ 31) : xo_set f n (nI j) x = some (upd f j x) := by
  unfold xo_set
  rw [if_neg (nI_in' h hn), nI_clamp (Nat.lt_trans h hn)]
