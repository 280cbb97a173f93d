/-! the tree: standing, twigs, kids -/
def zcnt (P : Nat → Bool) : Nat → Nat
  | 0 => 0
  | k + 1 => zcnt P k + (if P k then 1 else 0)
theorem zcnt_s (P : Nat → Bool) (k : Nat) : zcnt P (k + 1) = zcnt P k + (if P k then 1 else 0) := rfl
theorem zcnt_0 {P : Nat → Bool} : ∀ k, (∀ j, j < k → P j = false) → zcnt P k = 0 := by
  intro k
  induction k with
  | zero => intro _; rfl
  | succ k ih =>
    intro h
    rw [zcnt_s, ih (fun j hj => h j (by omega)), h k (by omega)]
    rfl
theorem zcnt_le (P : Nat → Bool) : ∀ k, zcnt P k ≤ k := by
  intro k
  induction k with
  | zero => exact Nat.le_refl _
  | succ k ih =>
    rw [zcnt_s]
    split <;> omega
theorem zcnt_mono (P : Nat → Bool) {a : Nat} : ∀ b, a ≤ b → zcnt P a ≤ zcnt P b := by
  intro b
  induction b with
  | zero => intro h; have : a = 0 := by omega
            subst this; exact Nat.le_refl _
  | succ b ih =>
    intro h
    by_cases e : a = b + 1
    · subst e; exact Nat.le_refl _
    · have := ih (by omega)
      rw [zcnt_s]
      omega
theorem zcnt_congr {P Q : Nat → Bool} : ∀ k, (∀ j, j < k → P j = Q j) → zcnt P k = zcnt Q k := by
  intro k
  induction k with
  | zero => intro _; rfl
  | succ k ih =>
    intro h
    rw [zcnt_s, zcnt_s, ih (fun j hj => h j (by omega)), h k (by omega)]
theorem zcnt_same {P : Nat → Bool} {a : Nat} : ∀ b, a ≤ b → (∀ j, a ≤ j → j < b → P j = false) → zcnt P b = zcnt P a := by
  intro b
  induction b with
  | zero => intro h _; have : a = 0 := by omega
            subst this; rfl
  | succ b ih =>
    intro h hp
    by_cases e : a = b + 1
    · subst e; rfl
    · rw [zcnt_s, ih (by omega) (fun j h1 h2 => hp j h1 (by omega)), hp b (by omega) (by omega)]
      rfl
theorem shr0 {x : Int32} {k : Nat} (hk : k < 32) (h : tb x k = false) : ((xi_shr x (nI k)) &&& 1) = 0 := by rw [shr_nI x hk, h]; rfl
theorem shr1 {x : Int32} {k : Nat} (hk : k < 32) (h : tb x k = true) : ((xi_shr x (nI k)) &&& 1) = 1 := by rw [shr_nI x hk, h]; rfl
theorem shr0n {x : Int32} {k : Nat} (hk : k < 32) (h : tb x k = true) : ¬ ((xi_shr x (nI k)) &&& 1) = 0 := by rw [shr_nI x hk, h]; decide
theorem shr1n {x : Int32} {k : Nat} (hk : k < 32) (h : tb x k = false) : ¬ ((xi_shr x (nI k)) &&& 1) = 1 := by rw [shr_nI x hk, h]; decide
theorem bit0 {x : Int32} {k : Nat} (hk : k < 32) (h : tb x k = false) : sp_X5_bit x (nI k) = 0 := by rw [bit_nI x hk, h]; rfl
theorem bit1 {x : Int32} {k : Nat} (hk : k < 32) (h : tb x k = true) : sp_X5_bit x (nI k) = 1 := by rw [bit_nI x hk, h]; rfl
theorem bit0n {x : Int32} {k : Nat} (hk : k < 32) (h : tb x k = true) : ¬ sp_X5_bit x (nI k) = 0 := by rw [bit_nI x hk, h]; decide
theorem bit1n {x : Int32} {k : Nat} (hk : k < 32) (h : tb x k = false) : ¬ sp_X5_bit x (nI k) = 1 := by rw [bit_nI x hk, h]; decide
theorem dlt {i j : Nat} (e : j ≠ i) : decide (j < i + 1) = decide (j < i) := by
  by_cases q : j < i
  · rw [decide_eq_true q, decide_eq_true (show j < i + 1 by omega)]
  · rw [decide_eq_false q, decide_eq_false (show ¬ j < i + 1 by omega)]
theorem sh_and {j : Nat} (hj : j < 32) (u : Int32) : (xi_shl 1 (nI j) &&& u) = 0 ↔ tb u j = false := by
  rw [eq0_iff]
  constructor
  · intro h
    have := h j hj
    rw [tb_and, tb_one hj] at this
    simpa using this
  · intro h i hi
    rw [tb_and, tb_one hj]
    by_cases e : i = j
    · subst e; simp [h]
    · simp [e]
theorem or_and (a b u : Int32) : ((a ||| b) &&& u) = 0 ↔ (a &&& u) = 0 ∧ (b &&& u) = 0 := by
  rw [eq0_iff, eq0_iff, eq0_iff]
  constructor
  · intro h
    refine ⟨fun i hi => ?_, fun i hi => ?_⟩
    · have := h i hi
      rw [tb_and, tb_or] at this
      rw [tb_and]
      revert this
      cases tb a i <;> cases tb b i <;> cases tb u i <;> simp
    · have := h i hi
      rw [tb_and, tb_or] at this
      rw [tb_and]
      revert this
      cases tb a i <;> cases tb b i <;> cases tb u i <;> simp
  · intro h i hi
    have h1 := h.1 i hi
    have h2 := h.2 i hi
    rw [tb_and] at h1 h2
    rw [tb_and, tb_or]
    revert h1 h2
    cases tb a i <;> cases tb b i <;> cases tb u i <;> simp
def TR (n : Nat) (par : Nat → Nat) (oP oA mP : Nat → Int32) : Prop := 1 ≤ n ∧ n ≤ 12 ∧ oA 0 = 0 ∧ ∀ i, 1 ≤ i → i < n → par i < i ∧ oP i = nI (par i) ∧ mP i = nI (par i) ∧ oA i = (oA (par i) ||| xi_shl 1 (nI (par i)))
def pr_st (n : Nat) (par : Nat → Nat) (cut s : Int32) : Prop := ∀ i, tb s i = (decide (i < n) && (!tb cut i && (decide (i = 0) || tb s (par i))))
def okf (oA : Nat → Int32) (u : Int32) (j : Nat) : Bool := decide (((oA j ||| xi_shl 1 (nI j)) &&& u) = 0)
theorem st1_loop {n : Nat} {oA : Nat → Int32} {u : Int32} (hn : n ≤ 12) : ∀ (k i fuel : Nat) (x : Int32), i + k = n → k + 1 ≤ fuel → (∀ j, tb x j = (decide (j < i) && okf oA u j)) → ∃ s, sp_X1_standing_12 u (nI n) oA fuel x (nI i) = some s ∧ ∀ j, tb s j = (decide (j < n) && okf oA u j) := by
  intro k
  induction k with
  | zero =>
    intro i fuel x hi hf hx
    obtain ⟨m, rfl⟩ : ∃ m, fuel = m + 1 := ⟨fuel - 1, by omega⟩
    have : i = n := by omega
    subst this
    exact ⟨x, by rw [sp_X1_standing_12, if_pos (nI_le (Nat.le_refl _) (by omega))], hx⟩
  | succ k ih =>
    intro i fuel x hi hf hx
    obtain ⟨m, rfl⟩ : ∃ m, fuel = m + 1 := ⟨fuel - 1, by omega⟩
    rw [sp_X1_standing_12, if_neg (nI_ge (by omega) (by omega)), xo_at_nI (by omega) lt31, ob_s, nI_1]
    by_cases h : ((oA i ||| xi_shl 1 (nI i)) &&& u) = 0
    · rw [if_pos h]
      apply ih (i + 1) m _ (by omega) (by omega)
      intro j
      rw [tb_or, tb_one (by omega), hx j]
      by_cases e : j = i
      · subst e
        have : okf oA u j = true := decide_eq_true h
        simp [this]
      · rw [dlt e]
        simp [e]
    · rw [if_neg h]
      apply ih (i + 1) m _ (by omega) (by omega)
      intro j
      rw [hx j]
      by_cases e : j = i
      · subst e
        have : okf oA u j = false := decide_eq_false h
        simp [this]
      · rw [dlt e]
theorem okf_s {n : Nat} {par : Nat → Nat} {oP oA mP : Nat → Int32} (hT : TR n par oP oA mP) (u : Int32) {i : Nat} (h1 : 1 ≤ i) (h2 : i < n) : okf oA u i = (!tb u i && okf oA u (par i)) := by
  obtain ⟨g1, g2, g3, g4⟩ := hT
  obtain ⟨q1, q2, q3, q4⟩ := g4 i h1 h2
  unfold okf
  rw [← q4]
  by_cases h : tb u i = false
  · by_cases h3 : (oA i &&& u) = 0
    · rw [decide_eq_true ((or_and _ _ _).mpr ⟨h3, (sh_and (by omega) u).mpr h⟩), decide_eq_true h3, h]; rfl
    · rw [decide_eq_false (fun q => h3 ((or_and _ _ _).mp q).1), decide_eq_false h3, h]; rfl
  · rw [decide_eq_false (fun q => h ((sh_and (by omega) u).mp ((or_and _ _ _).mp q).2))]
    have : tb u i = true := by revert h; cases tb u i <;> simp
    rw [this]; rfl
theorem okf_z {n : Nat} {par : Nat → Nat} {oP oA mP : Nat → Int32} (hT : TR n par oP oA mP) (u : Int32) : okf oA u 0 = !tb u 0 := by
  obtain ⟨g1, g2, g3, g4⟩ := hT
  unfold okf
  rw [g3]
  have z : ((0 : Int32) &&& u) = 0 := by
    rw [eq0_iff]; intro i _; rw [tb_and, tb_0]; rfl
  by_cases h : tb u 0 = false
  · rw [decide_eq_true ((or_and _ _ _).mpr ⟨z, (sh_and (by omega) u).mpr h⟩), h]; rfl
  · rw [decide_eq_false (fun q => h ((sh_and (by omega) u).mp ((or_and _ _ _).mp q).2))]
    have : tb u 0 = true := by revert h; cases tb u 0 <;> simp
    rw [this]; rfl
theorem st1 {n : Nat} {par : Nat → Nat} {oP oA mP : Nat → Int32} (hT : TR n par oP oA mP) (g c : Int32) (h0 : tb (g ||| c) 0 = false) : ∃ s, sp_X1_standing c (nI n) g oA = some s ∧ pr_st n par (g ||| c) s := by
  have hT' := hT
  obtain ⟨g1, g2, g3, g4⟩ := hT
  obtain ⟨s, e1, e2⟩ := st1_loop (oA := oA) (u := g ||| c) g2 (n - 1) 1 5000 1 (by omega) (by omega) (by
    intro j
    rw [tb_1]
    by_cases e : j = 0
    · subst e
      rw [okf_z hT', h0]; rfl
    · rw [decide_eq_false e, decide_eq_false (show ¬ j < 1 by omega)]; rfl)
  refine ⟨s, e1, fun i => ?_⟩
  rw [e2 i]
  by_cases hi : i < n
  · by_cases hz : i = 0
    · subst hz
      rw [okf_z hT']
      simp
    · obtain ⟨q1, q2, q3, q4⟩ := g4 i (by omega) hi
      rw [okf_s hT' _ (by omega) hi, e2 (par i), decide_eq_true (show par i < n by omega), decide_eq_false hz]
      simp
  · rw [decide_eq_false hi]; rfl
theorem st6_loop {n : Nat} {par : Nat → Nat} {mP : Nat → Int32} {cut s : Int32} (hn : n ≤ 12) (hp : ∀ i, 1 ≤ i → i < n → par i < i ∧ mP i = nI (par i)) (hs : pr_st n par cut s) : ∀ (k i fuel : Nat) (x : Int32), i + k = n → k + 1 ≤ fuel → (∀ j, tb x j = (decide (j < i) && tb s j)) → sp_X6_standing_4 cut (nI n) mP fuel x (nI i) = some s := by
  intro k
  induction k with
  | zero =>
    intro i fuel x hi hf hx
    obtain ⟨m, rfl⟩ : ∃ m, fuel = m + 1 := ⟨fuel - 1, by omega⟩
    have : i = n := by omega
    subst this
    rw [sp_X6_standing_4, if_pos (nI_le (Nat.le_refl _) (by omega))]
    congr 1
    apply tb_ext
    intro j _
    rw [hx j, hs j]
    cases decide (j < i) <;> rfl
  | succ k ih =>
    intro i fuel x hi hf hx
    obtain ⟨m, rfl⟩ : ∃ m, fuel = m + 1 := ⟨fuel - 1, by omega⟩
    have key1 : tb s i = true → ∀ j, tb (x ||| xi_shl 1 (nI i)) j = (decide (j < i + 1) && tb s j) := by
      intro q j
      rw [tb_or, tb_one (by omega), hx j]
      by_cases e : j = i
      · subst e; simp [q]
      · rw [dlt e]; simp [e]
    have key0 : tb s i = false → ∀ j, tb x j = (decide (j < i + 1) && tb s j) := by
      intro q j
      rw [hx j]
      by_cases e : j = i
      · subst e; simp [q]
      · rw [dlt e]
    have hsi := hs i
    rw [decide_eq_true (show i < n by omega)] at hsi
    rw [sp_X6_standing_4, if_neg (nI_ge (by omega) (by omega)), nI_1]
    by_cases hc : tb cut i = false
    · rw [if_pos (shr0 (by omega) hc)]
      by_cases hz : i = 0
      · subst hz
        rw [if_pos nI_0]
        exact ih _ m _ (by omega) (by omega) (key1 (by rw [hsi, hc]; rfl))
      · obtain ⟨q1, q2⟩ := hp i (by omega) (by omega)
        rw [if_neg (nI_ne0 (by omega) (by omega)), xo_at_nI (by omega) lt31, ob_s, q2]
        have hx2 : tb x (par i) = tb s (par i) := by rw [hx, decide_eq_true q1]; rfl
        rw [hc, decide_eq_false hz] at hsi
        by_cases hpp : tb s (par i) = true
        · rw [if_pos (shr1 (by omega) (hx2.trans hpp))]
          exact ih _ m _ (by omega) (by omega) (key1 (by rw [hsi, hpp]; rfl))
        · have hpp' : tb s (par i) = false := by revert hpp; cases tb s (par i) <;> simp
          rw [if_neg (shr1n (by omega) (hx2.trans hpp'))]
          exact ih _ m _ (by omega) (by omega) (key0 (by rw [hsi, hpp']; rfl))
    · have hc' : tb cut i = true := by revert hc; cases tb cut i <;> simp
      rw [if_neg (shr0n (by omega) hc')]
      exact ih _ m _ (by omega) (by omega) (key0 (by rw [hsi, hc']; rfl))
theorem st6 {n : Nat} {par : Nat → Nat} {oP oA mP : Nat → Int32} (hT : TR n par oP oA mP) {cut s : Int32} (hs : pr_st n par cut s) : sp_X6_standing cut (nI n) mP = some s := by
  obtain ⟨g1, g2, g3, g4⟩ := hT
  unfold sp_X6_standing
  exact st6_loop g2 (fun i h1 h2 => ⟨(g4 i h1 h2).1, (g4 i h1 h2).2.2.1⟩) hs n 0 5000 0 (by omega) (by omega) (by intro j; rw [tb_0, decide_eq_false (by omega)]; rfl)
theorem st_set {n : Nat} {par : Nat → Nat} {cut s : Int32} (hs : pr_st n par cut s) {i : Nat} (h : tb s i = true) : i < n := by
  have := hs i
  rw [h] at this
  by_cases q : i < n
  · exact q
  · rw [decide_eq_false q] at this
    simp at this
theorem st_0 {n : Nat} {par : Nat → Nat} {cut s : Int32} (hs : pr_st n par cut s) (h1 : 1 ≤ n) (h0 : tb cut 0 = false) : tb s 0 = true := by
  rw [hs 0, h0, decide_eq_true (show 0 < n by omega)]; rfl
/-- k is a kid of i that stands -/
def kid (par : Nat → Nat) (s : Int32) (i k : Nat) : Bool := tb s k && (decide (1 ≤ k) && decide (par k = i))
def twf (n : Nat) (par : Nat → Nat) (s : Int32) (i : Nat) : Bool := tb s i && (decide (i ≠ 0) && decide (zcnt (kid par s i) n = 0))
theorem kids6_loop {n : Nat} {par : Nat → Nat} {mP : Nat → Int32} {s : Int32} (hn : n ≤ 12) (hp : ∀ i, 1 ≤ i → i < n → par i < i ∧ mP i = nI (par i)) {i : Nat} (hi : i < n) : ∀ (k j fuel : Nat), j + k = n → 1 ≤ j → k + 1 ≤ fuel → sp_X6_kidsOf_7 (nI i) s (nI n) mP fuel (nI (zcnt (kid par s i) j)) (nI j) = some (nI (zcnt (kid par s i) n)) := by
  intro k
  induction k with
  | zero =>
    intro j fuel hj h1 hf
    obtain ⟨m, rfl⟩ : ∃ m, fuel = m + 1 := ⟨fuel - 1, by omega⟩
    have : j = n := by omega
    subst this
    rw [sp_X6_kidsOf_7, if_pos (nI_le (Nat.le_refl _) (by omega))]
  | succ k ih =>
    intro j fuel hj h1 hf
    obtain ⟨m, rfl⟩ : ∃ m, fuel = m + 1 := ⟨fuel - 1, by omega⟩
    obtain ⟨q1, q2⟩ := hp j h1 (by omega)
    have hI := ih (j + 1) m (by omega) (by omega) (by omega)
    rw [zcnt_s] at hI
    rw [sp_X6_kidsOf_7, if_neg (nI_ge (by omega) (by omega)), xo_at_nI (by omega) lt31, ob_s, q2, nI_1 j]
    by_cases e : par j = i
    · rw [if_pos (by rw [e])]
      by_cases t : tb s j = true
      · rw [if_pos (shr1 (by omega) t)]
        have : kid par s i j = true := by unfold kid; simp [t, h1, e]
        rw [if_pos this] at hI
        rw [nI_1]
        exact hI
      · have t' : tb s j = false := by revert t; cases tb s j <;> simp
        rw [if_neg (shr1n (by omega) t')]
        have : ¬ kid par s i j = true := by unfold kid; simp [t']
        rw [if_neg this] at hI
        rw [Int32.add_zero]
        exact hI
    · rw [if_neg (by rw [nI_eq (by omega) (by omega)]; exact e)]
      have : ¬ kid par s i j = true := by unfold kid; simp [e]
      rw [if_neg this] at hI
      rw [Int32.add_zero]
      exact hI
theorem kid_low {n : Nat} {par : Nat → Nat} {oP oA mP : Nat → Int32} (hT : TR n par oP oA mP) (s : Int32) {i : Nat} (hi : i < n) : zcnt (kid par s i) (i + 1) = 0 := by
  apply zcnt_0
  intro j hj
  unfold kid
  by_cases h1 : 1 ≤ j
  · have := (hT.2.2.2 j h1 (by omega)).1
    have : ¬ par j = i := by omega
    simp [this]
  · simp [h1]
theorem kids6 {n : Nat} {par : Nat → Nat} {oP oA mP : Nat → Int32} (hT : TR n par oP oA mP) (s : Int32) {i : Nat} (hi : i < n) : sp_X6_kidsOf (nI i) s (nI n) mP = some (nI (zcnt (kid par s i) n)) := by
  have hn := hT.2.1
  have h := kids6_loop (par := par) (mP := mP) (s := s) hT.2.1 (fun i h1 h2 => ⟨(hT.2.2.2 i h1 h2).1, (hT.2.2.2 i h1 h2).2.2.1⟩) hi (n - (i + 1)) (i + 1) 5000 (by omega) (by omega) (by omega)
  rw [kid_low hT s hi] at h
  unfold sp_X6_kidsOf
  rw [nI_1]
  exact h
theorem twig6 {n : Nat} {par : Nat → Nat} {oP oA mP : Nat → Int32} (hT : TR n par oP oA mP) (s : Int32) {i : Nat} (hi : i < n) : sp_X6_isTwig (nI i) s (nI n) mP = some (bI (twf n par s i)) := by
  have hn := hT.2.1
  unfold sp_X6_isTwig twf
  by_cases t : tb s i = true
  · rw [if_pos (shr1 (by omega) t), kids6 hT s hi, ob_s]
    by_cases c : zcnt (kid par s i) n = 0
    · rw [c, if_pos nI_0]
      by_cases z : i = 0
      · subst z
        rw [if_pos (by decide)]
        simp [bI]
      · rw [if_neg (nI_nle (by omega) (by omega))]
        simp [bI, t, z]
    · have := zcnt_le (kid par s i) n
      rw [if_neg (nI_ne0 (by omega) (by omega))]
      simp [bI, c]
  · have t' : tb s i = false := by revert t; cases tb s i <;> simp
    rw [if_neg (shr1n (by omega) t'), t']
    rfl
theorem tw6_loop {n : Nat} {par : Nat → Nat} {oP oA mP : Nat → Int32} (hT : TR n par oP oA mP) {s : Int32} : ∀ (k i fuel : Nat) (x : Int32), i + k = n → k + 1 ≤ fuel → (∀ j, tb x j = (decide (j < i) && twf n par s j)) → ∃ y, sp_X6_twigs_4 s (nI n) mP fuel x (nI i) = some y ∧ ∀ j, tb y j = (decide (j < n) && twf n par s j) := by
  have hn := hT.2.1
  intro k
  induction k with
  | zero =>
    intro i fuel x hi hf hx
    obtain ⟨m, rfl⟩ : ∃ m, fuel = m + 1 := ⟨fuel - 1, by omega⟩
    have : i = n := by omega
    subst this
    exact ⟨x, by rw [sp_X6_twigs_4, if_pos (nI_le (Nat.le_refl _) (by omega))], hx⟩
  | succ k ih =>
    intro i fuel x hi hf hx
    obtain ⟨m, rfl⟩ : ∃ m, fuel = m + 1 := ⟨fuel - 1, by omega⟩
    rw [sp_X6_twigs_4, if_neg (nI_ge (by omega) (by omega)), twig6 hT s (by omega), ob_s, nI_1]
    have key : ∀ b, twf n par s i = b → ∀ j, tb (x ||| xi_shl (bI b) (nI i)) j = (decide (j < i + 1) && twf n par s j) := by
      intro b hb j
      rw [tb_or, tb_bIs b (by omega), hx j]
      by_cases e : j = i
      · subst e; simp [hb]
      · rw [dlt e]; simp [e]
    by_cases t : twf n par s i = true
    · rw [if_neg (by rw [t]; decide)]
      exact ih (i + 1) m _ (by omega) (by omega) (key true t)
    · have t' : twf n par s i = false := by revert t; cases twf n par s i <;> simp
      rw [if_pos (by rw [t']; rfl)]
      exact ih (i + 1) m _ (by omega) (by omega) (key false t')
theorem tw1_loop {n : Nat} {par : Nat → Nat} {oP oA mP : Nat → Int32} (hT : TR n par oP oA mP) {s : Int32} : ∀ (k i fuel : Nat) (x : Int32), i + k = n → 1 ≤ i → k + 1 ≤ fuel → (∀ j, tb x j = (decide (j = 0) || decide (0 < zcnt (kid par s j) i))) → ∃ y, sp_X1_twigsOf_4 s (nI n) oP fuel x (nI i) = some y ∧ ∀ j, tb y j = twf n par s j := by
  have hn := hT.2.1
  intro k
  induction k with
  | zero =>
    intro i fuel x hi h1 hf hx
    obtain ⟨m, rfl⟩ : ∃ m, fuel = m + 1 := ⟨fuel - 1, by omega⟩
    have : i = n := by omega
    subst this
    refine ⟨_, by rw [sp_X1_twigsOf_4, if_pos (nI_le (Nat.le_refl _) (by omega))], fun j => ?_⟩
    unfold twf
    by_cases hj : j < 32
    · rw [tb_and, tb_xor, tb_m1, hx j, decide_eq_true hj]
      by_cases z : j = 0
      · simp [z]
      · by_cases c : zcnt (kid par s j) i = 0
        · simp [z, c]
        · have : 0 < zcnt (kid par s j) i := by omega
          simp [z, c, this]
    · rw [tb_big _ (by omega), tb_big s (by omega)]; rfl
  | succ k ih =>
    intro i fuel x hi h1 hf hx
    obtain ⟨m, rfl⟩ : ∃ m, fuel = m + 1 := ⟨fuel - 1, by omega⟩
    obtain ⟨q1, q2, q3, q4⟩ := hT.2.2.2 i h1 (by omega)
    rw [sp_X1_twigsOf_4, if_neg (nI_ge (by omega) (by omega)), nI_1]
    by_cases t : tb s i = true
    · rw [if_pos (bit1 (by omega) t), xo_at_nI (by omega) lt31, ob_s, q2]
      apply ih (i + 1) m _ (by omega) (by omega) (by omega)
      intro j
      rw [tb_or, tb_one (by omega), hx j, zcnt_s]
      by_cases e : j = par i
      · have : kid par s j i = true := by unfold kid; simp [t, h1, e]
        rw [if_pos this]
        simp [e]
      · have : ¬ kid par s j i = true := by unfold kid; simp [Ne.symm e]
        rw [if_neg this]
        simp [e]
    · have t' : tb s i = false := by revert t; cases tb s i <;> simp
      rw [if_neg (bit1n (by omega) t')]
      apply ih (i + 1) m _ (by omega) (by omega) (by omega)
      intro j
      rw [hx j, zcnt_s]
      have : ¬ kid par s j i = true := by unfold kid; simp [t']
      rw [if_neg this]
      rfl
theorem twigs_both {n : Nat} {par : Nat → Nat} {oP oA mP : Nat → Int32} (hT : TR n par oP oA mP) {s : Int32} (hs : ∀ i, tb s i = true → i < n) : ∃ y, sp_X1_twigsOf s (nI n) oP = some y ∧ sp_X6_twigs s (nI n) mP = some y ∧ ∀ j, tb y j = twf n par s j := by
  obtain ⟨y, e1, e2⟩ := tw1_loop hT (s := s) (n - 1) 1 5000 1 (by have := hT.1; omega) (by omega) (by have := hT.2.1; omega) (by
    intro j
    rw [tb_1]
    have : zcnt (kid par s j) 1 = 0 := by
      rw [zcnt_s]
      have : ¬ kid par s j 0 = true := by unfold kid; simp
      rw [if_neg this]
      rfl
    rw [this]
    simp)
  obtain ⟨y2, f1, f2⟩ := tw6_loop hT (s := s) n 0 5000 0 (by omega) (by have := hT.2.1; omega) (by intro j; rw [tb_0, decide_eq_false (by omega)]; rfl)
  refine ⟨y, e1, ?_, e2⟩
  have : y2 = y := by
    apply tb_ext
    intro j _
    rw [e2 j, f2 j]
    by_cases h : j < n
    · rw [decide_eq_true h]; rfl
    · have : tb s j = false := by
        by_cases q : tb s j = true
        · exact absurd (hs j q) h
        · revert q; cases tb s j <;> simp
      unfold twf
      rw [this]
      simp
  rw [← this]
  exact f1
