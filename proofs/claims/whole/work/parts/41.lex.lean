/-! tokens of the tape, as both read them -/
def TX (tp tx : Nat → Int32) (q r R : Nat) : Prop := r ≤ R ∧ R ≤ 160 ∧ q < 6 ∧ (∀ i, i < r → tx (160 * q + i) = tp i ∧ ∃ c, c ≤ 255 ∧ tp i = nI c) ∧ (∀ i, r ≤ i → i < R → tx (160 * q + i) = nI 32)
theorem by_at {tp tx : Nat → Int32} {q r R : Nat} (X : TX tp tx q r R) {a : Nat} (ha : a < r) : sp_X6_byteAt (nI a) (nI (160 * q)) (nI R) tx = some (tp a) := by
  obtain ⟨x1, x2, x3, x4, x5⟩ := X
  unfold sp_X6_byteAt
  rw [if_neg (nI_ge (by omega) (by omega)), nI_add, xo_at_nI (by omega) (by decide), ob_s, (x4 a ha).1]
theorem by_bl {tp tx : Nat → Int32} {q r R : Nat} (X : TX tp tx q r R) {a : Nat} (h1 : r ≤ a) (h2 : a < R) : sp_X6_byteAt (nI a) (nI (160 * q)) (nI R) tx = some (nI 32) := by
  obtain ⟨x1, x2, x3, x4, x5⟩ := X
  unfold sp_X6_byteAt
  rw [if_neg (nI_ge (by omega) (by omega)), nI_add, xo_at_nI (by omega) (by decide), ob_s, x5 a h1 h2]
theorem by_en {tx : Nat → Int32} {q R a : Nat} (h : R ≤ a) (ha : a < 2 ^ 31) : sp_X6_byteAt (nI a) (nI (160 * q)) (nI R) tx = some (-1) := by
  unfold sp_X6_byteAt
  rw [if_pos (nI_le h ha)]
theorem by_off {tp tx : Nat → Int32} {q r R : Nat} (X : TX tp tx q r R) : ∃ x, sp_X6_byteAt (nI r) (nI (160 * q)) (nI R) tx = some x ∧ (x = nI 32 ∨ x = -1) := by
  by_cases h : r < R
  · exact ⟨_, by_bl X (Nat.le_refl _) h, Or.inl rfl⟩
  · have := X.1
    have := X.2.1
    exact ⟨_, by_en (by omega) (by omega), Or.inr rfl⟩
def isLb (c : Nat) : Bool := decide (97 ≤ c) && decide (c ≤ 122)
def isDb (c : Nat) : Bool := decide (48 ≤ c) && decide (c ≤ 57)
def sgn (c : Nat) : Nat := if c = 40 then 10020 else if c = 41 then 10021 else if c = 42 then 10025 else if c = 43 then 10023 else if c = 45 then 10024 else if c = 59 then 10022 else if c = 60 then 10026 else if c = 61 then 10027 else 10032
theorem let2f : ∀ c : Fin 256, sp_X2_isLetter (nI c) = bI (isLb c) := by decide +kernel
theorem let6f : ∀ c : Fin 256, sp_X6_in (Int32.toInt64 (nI c)) 97 122 = bI (isLb c) := by decide +kernel
theorem dig2f : ∀ c : Fin 256, sp_X2_isDigit (nI c) = bI (isDb c) := by decide +kernel
theorem dig6f : ∀ c : Fin 256, sp_X6_in (Int32.toInt64 (nI c)) 48 57 = bI (isDb c) := by decide +kernel
theorem sg2f : ∀ c : Fin 256, sp_X2_sign (nI c) = nI (sgn c) := by decide +kernel
theorem let2 {c : Nat} (h : c ≤ 255) : sp_X2_isLetter (nI c) = bI (isLb c) := let2f ⟨c, by omega⟩
theorem let6 {c : Nat} (h : c ≤ 255) : sp_X6_in (Int32.toInt64 (nI c)) 97 122 = bI (isLb c) := let6f ⟨c, by omega⟩
theorem dig2 {c : Nat} (h : c ≤ 255) : sp_X2_isDigit (nI c) = bI (isDb c) := dig2f ⟨c, by omega⟩
theorem dig6 {c : Nat} (h : c ≤ 255) : sp_X6_in (Int32.toInt64 (nI c)) 48 57 = bI (isDb c) := dig6f ⟨c, by omega⟩
theorem sg2 {c : Nat} (h : c ≤ 255) : sp_X2_sign (nI c) = nI (sgn c) := sg2f ⟨c, by omega⟩
theorem let6m : sp_X6_in (Int32.toInt64 (-1)) 97 122 = 0 := by decide +kernel
theorem dig6m : sp_X6_in (Int32.toInt64 (-1)) 48 57 = 0 := by decide +kernel
theorem bff {b : Bool} (h : ¬ b = true) : b = false := by revert h; cases b <;> simp
theorem tne {a c : Nat} (h : a ≠ c) (h1 : a < 2 ^ 31) (h2 : c < 2 ^ 31) : ¬ nI a = nI c := fun q => h ((nI_eq h1 h2).mp q)
/-- the letters W, from place a + i on to e -/
def spl (tp : Nat → Int32) (a e : Nat) : Nat → List Int32 → Bool
  | i, [] => decide (a + i = e)
  | i, x :: xs => decide (a + i < e) && (decide (tp (a + i) = x) && spl tp a e (i + 1) xs)
theorem spl_inj {tp : Nat → Int32} {a e : Nat} : ∀ (W V : List Int32) (i : Nat), spl tp a e i W = true → spl tp a e i V = true → W = V := by
  intro W
  induction W with
  | nil =>
    intro V i h1 h2
    cases V with
    | nil => rfl
    | cons y V =>
      simp only [spl] at h1 h2
      have := of_decide_eq_true h1
      rw [decide_eq_false (by omega)] at h2
      exact absurd h2 (by simp)
  | cons x W ih =>
    intro V i h1 h2
    cases V with
    | nil =>
      simp only [spl] at h1 h2
      have := of_decide_eq_true h2
      rw [decide_eq_false (by omega)] at h1
      exact absurd h1 (by simp)
    | cons y V =>
      rw [spl, Bool.and_eq_true, Bool.and_eq_true] at h1 h2
      have e1 := of_decide_eq_true h1.2.1
      have e2 := of_decide_eq_true h2.2.1
      rw [ih V (i + 1) h1.2.2 h2.2.2, ← e1, e2]
theorem spl_len {tp : Nat → Int32} {a e : Nat} : ∀ (W : List Int32) (i : Nat), spl tp a e i W = true → e = a + i + W.length := by
  intro W
  induction W with
  | nil => intro i h; rw [spl] at h; have := of_decide_eq_true h; simp; omega
  | cons x W ih =>
    intro i h
    rw [spl, Bool.and_eq_true, Bool.and_eq_true] at h
    have := ih (i + 1) h.2.2
    rw [List.length_cons]
    omega

def wl : List (List Int32 × Nat) := [([110, 111, 100, 101], 10000), ([100, 101, 112, 116, 104], 10001), ([107, 105, 100, 115], 10002), ([116, 119, 105, 103, 115], 10003), ([108, 97, 115, 116], 10004), ([121, 101, 97, 114], 10005), ([99, 111, 115, 116, 115], 10010), ([102, 97, 108, 108, 115], 10011), ([119, 111, 114, 116, 104], 10012), ([111, 114], 10013), ([97, 110, 100], 10014), ([110, 111, 116], 10015)]
def sl : List (Nat × Nat) := [(40, 10020), (41, 10021), (42, 10025), (43, 10023), (45, 10024), (59, 10022), (60, 10026), (61, 10027)]
def wvL (tp : Nat → Int32) (a e : Nat) : List (List Int32 × Nat) → Nat
  | [] => 10032
  | x :: xs => if spl tp a e 0 x.1 then x.2 else wvL tp a e xs
theorem wv_cod {tp : Nat → Int32} {a e : Nat} : ∀ l : List (List Int32 × Nat), wvL tp a e l = 10032 ∨ ∃ x ∈ l, wvL tp a e l = x.2 := by
  intro l
  induction l with
  | nil => exact Or.inl rfl
  | cons x l ih =>
    rw [wvL]
    by_cases h : spl tp a e 0 x.1 = true
    · rw [if_pos h]; exact Or.inr ⟨x, List.mem_cons_self, rfl⟩
    · rw [if_neg h]
      rcases ih with h | ⟨y, h1, h2⟩
      · exact Or.inl h
      · exact Or.inr ⟨y, List.mem_cons_of_mem _ h1, h2⟩
theorem wv_iff {tp : Nat → Int32} {a e : Nat} : ∀ l : List (List Int32 × Nat), l.Pairwise (fun x y => x.1 ≠ y.1 ∧ x.2 ≠ y.2) → (∀ x ∈ l, x.2 ≠ 10032) → ∀ x ∈ l, decide (wvL tp a e l = x.2) = spl tp a e 0 x.1 := by
  intro l
  induction l with
  | nil => intro _ _ x hx; cases hx
  | cons y l ih =>
    intro hp hc x hx
    obtain ⟨p1, p2⟩ := List.pairwise_cons.mp hp
    have hc' : ∀ x ∈ l, x.2 ≠ 10032 := fun z hz => hc z (List.mem_cons_of_mem _ hz)
    rw [wvL]
    by_cases h : spl tp a e 0 y.1 = true
    · rw [if_pos h]
      rcases List.mem_cons.mp hx with rfl | hx
      · rw [decide_eq_true rfl, h]
      · rw [decide_eq_false (p1 x hx).2]
        exact (bff (fun q => (p1 x hx).1 (spl_inj _ _ 0 h q))).symm
    · rw [if_neg h]
      rcases List.mem_cons.mp hx with rfl | hx
      · rw [bff h]
        apply decide_eq_false
        intro q
        rcases wv_cod (tp := tp) (a := a) (e := e) l with g | ⟨z, z1, z2⟩
        · exact hc x List.mem_cons_self (by rw [← q, g])
        · exact (p1 z z1).2 (by rw [← q, z2])
      · exact ih p2 hc' x hx
theorem wl_p : wl.Pairwise (fun x y => x.1 ≠ y.1 ∧ x.2 ≠ y.2) := by decide +kernel
theorem wl_c : ∀ x ∈ wl, 10000 ≤ x.2 ∧ x.2 ≤ 10015 := by decide +kernel
theorem sl_c : ∀ x ∈ sl, 10020 ≤ x.2 ∧ x.2 ≤ 10027 ∧ x.1 ≤ 61 := by decide +kernel
theorem spst {tp : Nat → Int32} {x : Int32} {xs : List Int32} {a e i : Nat} {y : Option Int32} (hae : a + i < e) (hy : y = some (bI (spl tp a e (i + 1) xs))) : (if tp (a + i) = x then y else some 0) = some (bI (spl tp a e i (x :: xs))) := by
  rw [spl, decide_eq_true hae, Bool.true_and]
  by_cases c : tp (a + i) = x
  · rw [if_pos c, decide_eq_true c, Bool.true_and]; exact hy
  · rw [if_neg c, decide_eq_false c, Bool.false_and]; rfl
theorem wd_0 {tp : Nat → Int32} {a e : Nat} (ha : a ≤ e) (he : e ≤ 160) : sp_X2_spells_p1000 (nI a) (nI e) tp = some (bI (spl tp a e 0 [110, 111, 100, 101])) := by
  unfold sp_X2_spells_p1000
  have hl : sp_J0_length_8abf5_p1000 = nI 4 := by decide +kernel
  rw [pk_sub ha, hl]
  by_cases h : e = a + 4
  · subst h
    rw [if_pos (by rw [Nat.add_sub_cancel_left])]
    have s4 : ∀ m, sp_X2_spells_p1000_20 (nI a) tp (m + 1) (nI 4) = some (bI (spl tp a (a + 4) 4 [])) := by
      intro m
      rw [sp_X2_spells_p1000_20, hl, if_pos (nI_le (Nat.le_refl _) (by decide)), spl, decide_eq_true rfl]; rfl
    have s3 : ∀ m, sp_X2_spells_p1000_20 (nI a) tp (m + 2) (nI 3) = some (bI (spl tp a (a + 4) 3 [101])) := by
      intro m
      have ch : sp_J0_charAt_5068e_p1000 (nI 3) = some 101 := by decide +kernel
      rw [sp_X2_spells_p1000_20, hl, if_neg (nI_ge (show 3 < 4 by decide) (by decide)), nI_add, xo_at_nI (by omega) (by decide), ob_s, ch, ob_s, nI_1]
      exact spst (by omega) (s4 m)
    have s2 : ∀ m, sp_X2_spells_p1000_20 (nI a) tp (m + 3) (nI 2) = some (bI (spl tp a (a + 4) 2 [100, 101])) := by
      intro m
      have ch : sp_J0_charAt_5068e_p1000 (nI 2) = some 100 := by decide +kernel
      rw [sp_X2_spells_p1000_20, hl, if_neg (nI_ge (show 2 < 4 by decide) (by decide)), nI_add, xo_at_nI (by omega) (by decide), ob_s, ch, ob_s, nI_1]
      exact spst (by omega) (s3 m)
    have s1 : ∀ m, sp_X2_spells_p1000_20 (nI a) tp (m + 4) (nI 1) = some (bI (spl tp a (a + 4) 1 [111, 100, 101])) := by
      intro m
      have ch : sp_J0_charAt_5068e_p1000 (nI 1) = some 111 := by decide +kernel
      rw [sp_X2_spells_p1000_20, hl, if_neg (nI_ge (show 1 < 4 by decide) (by decide)), nI_add, xo_at_nI (by omega) (by decide), ob_s, ch, ob_s, nI_1]
      exact spst (by omega) (s2 m)
    have s0 : ∀ m, sp_X2_spells_p1000_20 (nI a) tp (m + 5) (nI 0) = some (bI (spl tp a (a + 4) 0 [110, 111, 100, 101])) := by
      intro m
      have ch : sp_J0_charAt_5068e_p1000 (nI 0) = some 110 := by decide +kernel
      rw [sp_X2_spells_p1000_20, hl, if_neg (nI_ge (show 0 < 4 by decide) (by decide)), nI_add, xo_at_nI (by omega) (by decide), ob_s, ch, ob_s, nI_1]
      exact spst (by omega) (s1 m)
    exact s0 4995
  · rw [if_neg (tne (by omega) (by omega) (by decide)), bff (b := spl tp a e 0 [110, 111, 100, 101]) (fun q => h (spl_len _ 0 q))]; rfl
theorem wd_1 {tp : Nat → Int32} {a e : Nat} (ha : a ≤ e) (he : e ≤ 160) : sp_X2_spells_p1001 (nI a) (nI e) tp = some (bI (spl tp a e 0 [100, 101, 112, 116, 104])) := by
  unfold sp_X2_spells_p1001
  have hl : sp_J0_length_8abf5_p1001 = nI 5 := by decide +kernel
  rw [pk_sub ha, hl]
  by_cases h : e = a + 5
  · subst h
    rw [if_pos (by rw [Nat.add_sub_cancel_left])]
    have s5 : ∀ m, sp_X2_spells_p1001_20 (nI a) tp (m + 1) (nI 5) = some (bI (spl tp a (a + 5) 5 [])) := by
      intro m
      rw [sp_X2_spells_p1001_20, hl, if_pos (nI_le (Nat.le_refl _) (by decide)), spl, decide_eq_true rfl]; rfl
    have s4 : ∀ m, sp_X2_spells_p1001_20 (nI a) tp (m + 2) (nI 4) = some (bI (spl tp a (a + 5) 4 [104])) := by
      intro m
      have ch : sp_J0_charAt_5068e_p1001 (nI 4) = some 104 := by decide +kernel
      rw [sp_X2_spells_p1001_20, hl, if_neg (nI_ge (show 4 < 5 by decide) (by decide)), nI_add, xo_at_nI (by omega) (by decide), ob_s, ch, ob_s, nI_1]
      exact spst (by omega) (s5 m)
    have s3 : ∀ m, sp_X2_spells_p1001_20 (nI a) tp (m + 3) (nI 3) = some (bI (spl tp a (a + 5) 3 [116, 104])) := by
      intro m
      have ch : sp_J0_charAt_5068e_p1001 (nI 3) = some 116 := by decide +kernel
      rw [sp_X2_spells_p1001_20, hl, if_neg (nI_ge (show 3 < 5 by decide) (by decide)), nI_add, xo_at_nI (by omega) (by decide), ob_s, ch, ob_s, nI_1]
      exact spst (by omega) (s4 m)
    have s2 : ∀ m, sp_X2_spells_p1001_20 (nI a) tp (m + 4) (nI 2) = some (bI (spl tp a (a + 5) 2 [112, 116, 104])) := by
      intro m
      have ch : sp_J0_charAt_5068e_p1001 (nI 2) = some 112 := by decide +kernel
      rw [sp_X2_spells_p1001_20, hl, if_neg (nI_ge (show 2 < 5 by decide) (by decide)), nI_add, xo_at_nI (by omega) (by decide), ob_s, ch, ob_s, nI_1]
      exact spst (by omega) (s3 m)
    have s1 : ∀ m, sp_X2_spells_p1001_20 (nI a) tp (m + 5) (nI 1) = some (bI (spl tp a (a + 5) 1 [101, 112, 116, 104])) := by
      intro m
      have ch : sp_J0_charAt_5068e_p1001 (nI 1) = some 101 := by decide +kernel
      rw [sp_X2_spells_p1001_20, hl, if_neg (nI_ge (show 1 < 5 by decide) (by decide)), nI_add, xo_at_nI (by omega) (by decide), ob_s, ch, ob_s, nI_1]
      exact spst (by omega) (s2 m)
    have s0 : ∀ m, sp_X2_spells_p1001_20 (nI a) tp (m + 6) (nI 0) = some (bI (spl tp a (a + 5) 0 [100, 101, 112, 116, 104])) := by
      intro m
      have ch : sp_J0_charAt_5068e_p1001 (nI 0) = some 100 := by decide +kernel
      rw [sp_X2_spells_p1001_20, hl, if_neg (nI_ge (show 0 < 5 by decide) (by decide)), nI_add, xo_at_nI (by omega) (by decide), ob_s, ch, ob_s, nI_1]
      exact spst (by omega) (s1 m)
    exact s0 4994
  · rw [if_neg (tne (by omega) (by omega) (by decide)), bff (b := spl tp a e 0 [100, 101, 112, 116, 104]) (fun q => h (spl_len _ 0 q))]; rfl
theorem wd_2 {tp : Nat → Int32} {a e : Nat} (ha : a ≤ e) (he : e ≤ 160) : sp_X2_spells_p1002 (nI a) (nI e) tp = some (bI (spl tp a e 0 [107, 105, 100, 115])) := by
  unfold sp_X2_spells_p1002
  have hl : sp_J0_length_8abf5_p1002 = nI 4 := by decide +kernel
  rw [pk_sub ha, hl]
  by_cases h : e = a + 4
  · subst h
    rw [if_pos (by rw [Nat.add_sub_cancel_left])]
    have s4 : ∀ m, sp_X2_spells_p1002_20 (nI a) tp (m + 1) (nI 4) = some (bI (spl tp a (a + 4) 4 [])) := by
      intro m
      rw [sp_X2_spells_p1002_20, hl, if_pos (nI_le (Nat.le_refl _) (by decide)), spl, decide_eq_true rfl]; rfl
    have s3 : ∀ m, sp_X2_spells_p1002_20 (nI a) tp (m + 2) (nI 3) = some (bI (spl tp a (a + 4) 3 [115])) := by
      intro m
      have ch : sp_J0_charAt_5068e_p1002 (nI 3) = some 115 := by decide +kernel
      rw [sp_X2_spells_p1002_20, hl, if_neg (nI_ge (show 3 < 4 by decide) (by decide)), nI_add, xo_at_nI (by omega) (by decide), ob_s, ch, ob_s, nI_1]
      exact spst (by omega) (s4 m)
    have s2 : ∀ m, sp_X2_spells_p1002_20 (nI a) tp (m + 3) (nI 2) = some (bI (spl tp a (a + 4) 2 [100, 115])) := by
      intro m
      have ch : sp_J0_charAt_5068e_p1002 (nI 2) = some 100 := by decide +kernel
      rw [sp_X2_spells_p1002_20, hl, if_neg (nI_ge (show 2 < 4 by decide) (by decide)), nI_add, xo_at_nI (by omega) (by decide), ob_s, ch, ob_s, nI_1]
      exact spst (by omega) (s3 m)
    have s1 : ∀ m, sp_X2_spells_p1002_20 (nI a) tp (m + 4) (nI 1) = some (bI (spl tp a (a + 4) 1 [105, 100, 115])) := by
      intro m
      have ch : sp_J0_charAt_5068e_p1002 (nI 1) = some 105 := by decide +kernel
      rw [sp_X2_spells_p1002_20, hl, if_neg (nI_ge (show 1 < 4 by decide) (by decide)), nI_add, xo_at_nI (by omega) (by decide), ob_s, ch, ob_s, nI_1]
      exact spst (by omega) (s2 m)
    have s0 : ∀ m, sp_X2_spells_p1002_20 (nI a) tp (m + 5) (nI 0) = some (bI (spl tp a (a + 4) 0 [107, 105, 100, 115])) := by
      intro m
      have ch : sp_J0_charAt_5068e_p1002 (nI 0) = some 107 := by decide +kernel
      rw [sp_X2_spells_p1002_20, hl, if_neg (nI_ge (show 0 < 4 by decide) (by decide)), nI_add, xo_at_nI (by omega) (by decide), ob_s, ch, ob_s, nI_1]
      exact spst (by omega) (s1 m)
    exact s0 4995
  · rw [if_neg (tne (by omega) (by omega) (by decide)), bff (b := spl tp a e 0 [107, 105, 100, 115]) (fun q => h (spl_len _ 0 q))]; rfl
theorem wd_3 {tp : Nat → Int32} {a e : Nat} (ha : a ≤ e) (he : e ≤ 160) : sp_X2_spells_p1003 (nI a) (nI e) tp = some (bI (spl tp a e 0 [116, 119, 105, 103, 115])) := by
  unfold sp_X2_spells_p1003
  have hl : sp_J0_length_8abf5_p1003 = nI 5 := by decide +kernel
  rw [pk_sub ha, hl]
  by_cases h : e = a + 5
  · subst h
    rw [if_pos (by rw [Nat.add_sub_cancel_left])]
    have s5 : ∀ m, sp_X2_spells_p1003_20 (nI a) tp (m + 1) (nI 5) = some (bI (spl tp a (a + 5) 5 [])) := by
      intro m
      rw [sp_X2_spells_p1003_20, hl, if_pos (nI_le (Nat.le_refl _) (by decide)), spl, decide_eq_true rfl]; rfl
    have s4 : ∀ m, sp_X2_spells_p1003_20 (nI a) tp (m + 2) (nI 4) = some (bI (spl tp a (a + 5) 4 [115])) := by
      intro m
      have ch : sp_J0_charAt_5068e_p1003 (nI 4) = some 115 := by decide +kernel
      rw [sp_X2_spells_p1003_20, hl, if_neg (nI_ge (show 4 < 5 by decide) (by decide)), nI_add, xo_at_nI (by omega) (by decide), ob_s, ch, ob_s, nI_1]
      exact spst (by omega) (s5 m)
    have s3 : ∀ m, sp_X2_spells_p1003_20 (nI a) tp (m + 3) (nI 3) = some (bI (spl tp a (a + 5) 3 [103, 115])) := by
      intro m
      have ch : sp_J0_charAt_5068e_p1003 (nI 3) = some 103 := by decide +kernel
      rw [sp_X2_spells_p1003_20, hl, if_neg (nI_ge (show 3 < 5 by decide) (by decide)), nI_add, xo_at_nI (by omega) (by decide), ob_s, ch, ob_s, nI_1]
      exact spst (by omega) (s4 m)
    have s2 : ∀ m, sp_X2_spells_p1003_20 (nI a) tp (m + 4) (nI 2) = some (bI (spl tp a (a + 5) 2 [105, 103, 115])) := by
      intro m
      have ch : sp_J0_charAt_5068e_p1003 (nI 2) = some 105 := by decide +kernel
      rw [sp_X2_spells_p1003_20, hl, if_neg (nI_ge (show 2 < 5 by decide) (by decide)), nI_add, xo_at_nI (by omega) (by decide), ob_s, ch, ob_s, nI_1]
      exact spst (by omega) (s3 m)
    have s1 : ∀ m, sp_X2_spells_p1003_20 (nI a) tp (m + 5) (nI 1) = some (bI (spl tp a (a + 5) 1 [119, 105, 103, 115])) := by
      intro m
      have ch : sp_J0_charAt_5068e_p1003 (nI 1) = some 119 := by decide +kernel
      rw [sp_X2_spells_p1003_20, hl, if_neg (nI_ge (show 1 < 5 by decide) (by decide)), nI_add, xo_at_nI (by omega) (by decide), ob_s, ch, ob_s, nI_1]
      exact spst (by omega) (s2 m)
    have s0 : ∀ m, sp_X2_spells_p1003_20 (nI a) tp (m + 6) (nI 0) = some (bI (spl tp a (a + 5) 0 [116, 119, 105, 103, 115])) := by
      intro m
      have ch : sp_J0_charAt_5068e_p1003 (nI 0) = some 116 := by decide +kernel
      rw [sp_X2_spells_p1003_20, hl, if_neg (nI_ge (show 0 < 5 by decide) (by decide)), nI_add, xo_at_nI (by omega) (by decide), ob_s, ch, ob_s, nI_1]
      exact spst (by omega) (s1 m)
    exact s0 4994
  · rw [if_neg (tne (by omega) (by omega) (by decide)), bff (b := spl tp a e 0 [116, 119, 105, 103, 115]) (fun q => h (spl_len _ 0 q))]; rfl
theorem wd_4 {tp : Nat → Int32} {a e : Nat} (ha : a ≤ e) (he : e ≤ 160) : sp_X2_spells_p1004 (nI a) (nI e) tp = some (bI (spl tp a e 0 [108, 97, 115, 116])) := by
  unfold sp_X2_spells_p1004
  have hl : sp_J0_length_8abf5_p1004 = nI 4 := by decide +kernel
  rw [pk_sub ha, hl]
  by_cases h : e = a + 4
  · subst h
    rw [if_pos (by rw [Nat.add_sub_cancel_left])]
    have s4 : ∀ m, sp_X2_spells_p1004_20 (nI a) tp (m + 1) (nI 4) = some (bI (spl tp a (a + 4) 4 [])) := by
      intro m
      rw [sp_X2_spells_p1004_20, hl, if_pos (nI_le (Nat.le_refl _) (by decide)), spl, decide_eq_true rfl]; rfl
    have s3 : ∀ m, sp_X2_spells_p1004_20 (nI a) tp (m + 2) (nI 3) = some (bI (spl tp a (a + 4) 3 [116])) := by
      intro m
      have ch : sp_J0_charAt_5068e_p1004 (nI 3) = some 116 := by decide +kernel
      rw [sp_X2_spells_p1004_20, hl, if_neg (nI_ge (show 3 < 4 by decide) (by decide)), nI_add, xo_at_nI (by omega) (by decide), ob_s, ch, ob_s, nI_1]
      exact spst (by omega) (s4 m)
    have s2 : ∀ m, sp_X2_spells_p1004_20 (nI a) tp (m + 3) (nI 2) = some (bI (spl tp a (a + 4) 2 [115, 116])) := by
      intro m
      have ch : sp_J0_charAt_5068e_p1004 (nI 2) = some 115 := by decide +kernel
      rw [sp_X2_spells_p1004_20, hl, if_neg (nI_ge (show 2 < 4 by decide) (by decide)), nI_add, xo_at_nI (by omega) (by decide), ob_s, ch, ob_s, nI_1]
      exact spst (by omega) (s3 m)
    have s1 : ∀ m, sp_X2_spells_p1004_20 (nI a) tp (m + 4) (nI 1) = some (bI (spl tp a (a + 4) 1 [97, 115, 116])) := by
      intro m
      have ch : sp_J0_charAt_5068e_p1004 (nI 1) = some 97 := by decide +kernel
      rw [sp_X2_spells_p1004_20, hl, if_neg (nI_ge (show 1 < 4 by decide) (by decide)), nI_add, xo_at_nI (by omega) (by decide), ob_s, ch, ob_s, nI_1]
      exact spst (by omega) (s2 m)
    have s0 : ∀ m, sp_X2_spells_p1004_20 (nI a) tp (m + 5) (nI 0) = some (bI (spl tp a (a + 4) 0 [108, 97, 115, 116])) := by
      intro m
      have ch : sp_J0_charAt_5068e_p1004 (nI 0) = some 108 := by decide +kernel
      rw [sp_X2_spells_p1004_20, hl, if_neg (nI_ge (show 0 < 4 by decide) (by decide)), nI_add, xo_at_nI (by omega) (by decide), ob_s, ch, ob_s, nI_1]
      exact spst (by omega) (s1 m)
    exact s0 4995
  · rw [if_neg (tne (by omega) (by omega) (by decide)), bff (b := spl tp a e 0 [108, 97, 115, 116]) (fun q => h (spl_len _ 0 q))]; rfl
theorem wd_5 {tp : Nat → Int32} {a e : Nat} (ha : a ≤ e) (he : e ≤ 160) : sp_X2_spells_p1005 (nI a) (nI e) tp = some (bI (spl tp a e 0 [121, 101, 97, 114])) := by
  unfold sp_X2_spells_p1005
  have hl : sp_J0_length_8abf5_p1005 = nI 4 := by decide +kernel
  rw [pk_sub ha, hl]
  by_cases h : e = a + 4
  · subst h
    rw [if_pos (by rw [Nat.add_sub_cancel_left])]
    have s4 : ∀ m, sp_X2_spells_p1005_20 (nI a) tp (m + 1) (nI 4) = some (bI (spl tp a (a + 4) 4 [])) := by
      intro m
      rw [sp_X2_spells_p1005_20, hl, if_pos (nI_le (Nat.le_refl _) (by decide)), spl, decide_eq_true rfl]; rfl
    have s3 : ∀ m, sp_X2_spells_p1005_20 (nI a) tp (m + 2) (nI 3) = some (bI (spl tp a (a + 4) 3 [114])) := by
      intro m
      have ch : sp_J0_charAt_5068e_p1005 (nI 3) = some 114 := by decide +kernel
      rw [sp_X2_spells_p1005_20, hl, if_neg (nI_ge (show 3 < 4 by decide) (by decide)), nI_add, xo_at_nI (by omega) (by decide), ob_s, ch, ob_s, nI_1]
      exact spst (by omega) (s4 m)
    have s2 : ∀ m, sp_X2_spells_p1005_20 (nI a) tp (m + 3) (nI 2) = some (bI (spl tp a (a + 4) 2 [97, 114])) := by
      intro m
      have ch : sp_J0_charAt_5068e_p1005 (nI 2) = some 97 := by decide +kernel
      rw [sp_X2_spells_p1005_20, hl, if_neg (nI_ge (show 2 < 4 by decide) (by decide)), nI_add, xo_at_nI (by omega) (by decide), ob_s, ch, ob_s, nI_1]
      exact spst (by omega) (s3 m)
    have s1 : ∀ m, sp_X2_spells_p1005_20 (nI a) tp (m + 4) (nI 1) = some (bI (spl tp a (a + 4) 1 [101, 97, 114])) := by
      intro m
      have ch : sp_J0_charAt_5068e_p1005 (nI 1) = some 101 := by decide +kernel
      rw [sp_X2_spells_p1005_20, hl, if_neg (nI_ge (show 1 < 4 by decide) (by decide)), nI_add, xo_at_nI (by omega) (by decide), ob_s, ch, ob_s, nI_1]
      exact spst (by omega) (s2 m)
    have s0 : ∀ m, sp_X2_spells_p1005_20 (nI a) tp (m + 5) (nI 0) = some (bI (spl tp a (a + 4) 0 [121, 101, 97, 114])) := by
      intro m
      have ch : sp_J0_charAt_5068e_p1005 (nI 0) = some 121 := by decide +kernel
      rw [sp_X2_spells_p1005_20, hl, if_neg (nI_ge (show 0 < 4 by decide) (by decide)), nI_add, xo_at_nI (by omega) (by decide), ob_s, ch, ob_s, nI_1]
      exact spst (by omega) (s1 m)
    exact s0 4995
  · rw [if_neg (tne (by omega) (by omega) (by decide)), bff (b := spl tp a e 0 [121, 101, 97, 114]) (fun q => h (spl_len _ 0 q))]; rfl
theorem wd_6 {tp : Nat → Int32} {a e : Nat} (ha : a ≤ e) (he : e ≤ 160) : sp_X2_spells_p1006 (nI a) (nI e) tp = some (bI (spl tp a e 0 [99, 111, 115, 116, 115])) := by
  unfold sp_X2_spells_p1006
  have hl : sp_J0_length_8abf5_p1006 = nI 5 := by decide +kernel
  rw [pk_sub ha, hl]
  by_cases h : e = a + 5
  · subst h
    rw [if_pos (by rw [Nat.add_sub_cancel_left])]
    have s5 : ∀ m, sp_X2_spells_p1006_20 (nI a) tp (m + 1) (nI 5) = some (bI (spl tp a (a + 5) 5 [])) := by
      intro m
      rw [sp_X2_spells_p1006_20, hl, if_pos (nI_le (Nat.le_refl _) (by decide)), spl, decide_eq_true rfl]; rfl
    have s4 : ∀ m, sp_X2_spells_p1006_20 (nI a) tp (m + 2) (nI 4) = some (bI (spl tp a (a + 5) 4 [115])) := by
      intro m
      have ch : sp_J0_charAt_5068e_p1006 (nI 4) = some 115 := by decide +kernel
      rw [sp_X2_spells_p1006_20, hl, if_neg (nI_ge (show 4 < 5 by decide) (by decide)), nI_add, xo_at_nI (by omega) (by decide), ob_s, ch, ob_s, nI_1]
      exact spst (by omega) (s5 m)
    have s3 : ∀ m, sp_X2_spells_p1006_20 (nI a) tp (m + 3) (nI 3) = some (bI (spl tp a (a + 5) 3 [116, 115])) := by
      intro m
      have ch : sp_J0_charAt_5068e_p1006 (nI 3) = some 116 := by decide +kernel
      rw [sp_X2_spells_p1006_20, hl, if_neg (nI_ge (show 3 < 5 by decide) (by decide)), nI_add, xo_at_nI (by omega) (by decide), ob_s, ch, ob_s, nI_1]
      exact spst (by omega) (s4 m)
    have s2 : ∀ m, sp_X2_spells_p1006_20 (nI a) tp (m + 4) (nI 2) = some (bI (spl tp a (a + 5) 2 [115, 116, 115])) := by
      intro m
      have ch : sp_J0_charAt_5068e_p1006 (nI 2) = some 115 := by decide +kernel
      rw [sp_X2_spells_p1006_20, hl, if_neg (nI_ge (show 2 < 5 by decide) (by decide)), nI_add, xo_at_nI (by omega) (by decide), ob_s, ch, ob_s, nI_1]
      exact spst (by omega) (s3 m)
    have s1 : ∀ m, sp_X2_spells_p1006_20 (nI a) tp (m + 5) (nI 1) = some (bI (spl tp a (a + 5) 1 [111, 115, 116, 115])) := by
      intro m
      have ch : sp_J0_charAt_5068e_p1006 (nI 1) = some 111 := by decide +kernel
      rw [sp_X2_spells_p1006_20, hl, if_neg (nI_ge (show 1 < 5 by decide) (by decide)), nI_add, xo_at_nI (by omega) (by decide), ob_s, ch, ob_s, nI_1]
      exact spst (by omega) (s2 m)
    have s0 : ∀ m, sp_X2_spells_p1006_20 (nI a) tp (m + 6) (nI 0) = some (bI (spl tp a (a + 5) 0 [99, 111, 115, 116, 115])) := by
      intro m
      have ch : sp_J0_charAt_5068e_p1006 (nI 0) = some 99 := by decide +kernel
      rw [sp_X2_spells_p1006_20, hl, if_neg (nI_ge (show 0 < 5 by decide) (by decide)), nI_add, xo_at_nI (by omega) (by decide), ob_s, ch, ob_s, nI_1]
      exact spst (by omega) (s1 m)
    exact s0 4994
  · rw [if_neg (tne (by omega) (by omega) (by decide)), bff (b := spl tp a e 0 [99, 111, 115, 116, 115]) (fun q => h (spl_len _ 0 q))]; rfl
theorem wd_7 {tp : Nat → Int32} {a e : Nat} (ha : a ≤ e) (he : e ≤ 160) : sp_X2_spells_p1007 (nI a) (nI e) tp = some (bI (spl tp a e 0 [102, 97, 108, 108, 115])) := by
  unfold sp_X2_spells_p1007
  have hl : sp_J0_length_8abf5_p1007 = nI 5 := by decide +kernel
  rw [pk_sub ha, hl]
  by_cases h : e = a + 5
  · subst h
    rw [if_pos (by rw [Nat.add_sub_cancel_left])]
    have s5 : ∀ m, sp_X2_spells_p1007_20 (nI a) tp (m + 1) (nI 5) = some (bI (spl tp a (a + 5) 5 [])) := by
      intro m
      rw [sp_X2_spells_p1007_20, hl, if_pos (nI_le (Nat.le_refl _) (by decide)), spl, decide_eq_true rfl]; rfl
    have s4 : ∀ m, sp_X2_spells_p1007_20 (nI a) tp (m + 2) (nI 4) = some (bI (spl tp a (a + 5) 4 [115])) := by
      intro m
      have ch : sp_J0_charAt_5068e_p1007 (nI 4) = some 115 := by decide +kernel
      rw [sp_X2_spells_p1007_20, hl, if_neg (nI_ge (show 4 < 5 by decide) (by decide)), nI_add, xo_at_nI (by omega) (by decide), ob_s, ch, ob_s, nI_1]
      exact spst (by omega) (s5 m)
    have s3 : ∀ m, sp_X2_spells_p1007_20 (nI a) tp (m + 3) (nI 3) = some (bI (spl tp a (a + 5) 3 [108, 115])) := by
      intro m
      have ch : sp_J0_charAt_5068e_p1007 (nI 3) = some 108 := by decide +kernel
      rw [sp_X2_spells_p1007_20, hl, if_neg (nI_ge (show 3 < 5 by decide) (by decide)), nI_add, xo_at_nI (by omega) (by decide), ob_s, ch, ob_s, nI_1]
      exact spst (by omega) (s4 m)
    have s2 : ∀ m, sp_X2_spells_p1007_20 (nI a) tp (m + 4) (nI 2) = some (bI (spl tp a (a + 5) 2 [108, 108, 115])) := by
      intro m
      have ch : sp_J0_charAt_5068e_p1007 (nI 2) = some 108 := by decide +kernel
      rw [sp_X2_spells_p1007_20, hl, if_neg (nI_ge (show 2 < 5 by decide) (by decide)), nI_add, xo_at_nI (by omega) (by decide), ob_s, ch, ob_s, nI_1]
      exact spst (by omega) (s3 m)
    have s1 : ∀ m, sp_X2_spells_p1007_20 (nI a) tp (m + 5) (nI 1) = some (bI (spl tp a (a + 5) 1 [97, 108, 108, 115])) := by
      intro m
      have ch : sp_J0_charAt_5068e_p1007 (nI 1) = some 97 := by decide +kernel
      rw [sp_X2_spells_p1007_20, hl, if_neg (nI_ge (show 1 < 5 by decide) (by decide)), nI_add, xo_at_nI (by omega) (by decide), ob_s, ch, ob_s, nI_1]
      exact spst (by omega) (s2 m)
    have s0 : ∀ m, sp_X2_spells_p1007_20 (nI a) tp (m + 6) (nI 0) = some (bI (spl tp a (a + 5) 0 [102, 97, 108, 108, 115])) := by
      intro m
      have ch : sp_J0_charAt_5068e_p1007 (nI 0) = some 102 := by decide +kernel
      rw [sp_X2_spells_p1007_20, hl, if_neg (nI_ge (show 0 < 5 by decide) (by decide)), nI_add, xo_at_nI (by omega) (by decide), ob_s, ch, ob_s, nI_1]
      exact spst (by omega) (s1 m)
    exact s0 4994
  · rw [if_neg (tne (by omega) (by omega) (by decide)), bff (b := spl tp a e 0 [102, 97, 108, 108, 115]) (fun q => h (spl_len _ 0 q))]; rfl
theorem wd_8 {tp : Nat → Int32} {a e : Nat} (ha : a ≤ e) (he : e ≤ 160) : sp_X2_spells_p1008 (nI a) (nI e) tp = some (bI (spl tp a e 0 [119, 111, 114, 116, 104])) := by
  unfold sp_X2_spells_p1008
  have hl : sp_J0_length_8abf5_p1008 = nI 5 := by decide +kernel
  rw [pk_sub ha, hl]
  by_cases h : e = a + 5
  · subst h
    rw [if_pos (by rw [Nat.add_sub_cancel_left])]
    have s5 : ∀ m, sp_X2_spells_p1008_20 (nI a) tp (m + 1) (nI 5) = some (bI (spl tp a (a + 5) 5 [])) := by
      intro m
      rw [sp_X2_spells_p1008_20, hl, if_pos (nI_le (Nat.le_refl _) (by decide)), spl, decide_eq_true rfl]; rfl
    have s4 : ∀ m, sp_X2_spells_p1008_20 (nI a) tp (m + 2) (nI 4) = some (bI (spl tp a (a + 5) 4 [104])) := by
      intro m
      have ch : sp_J0_charAt_5068e_p1008 (nI 4) = some 104 := by decide +kernel
      rw [sp_X2_spells_p1008_20, hl, if_neg (nI_ge (show 4 < 5 by decide) (by decide)), nI_add, xo_at_nI (by omega) (by decide), ob_s, ch, ob_s, nI_1]
      exact spst (by omega) (s5 m)
    have s3 : ∀ m, sp_X2_spells_p1008_20 (nI a) tp (m + 3) (nI 3) = some (bI (spl tp a (a + 5) 3 [116, 104])) := by
      intro m
      have ch : sp_J0_charAt_5068e_p1008 (nI 3) = some 116 := by decide +kernel
      rw [sp_X2_spells_p1008_20, hl, if_neg (nI_ge (show 3 < 5 by decide) (by decide)), nI_add, xo_at_nI (by omega) (by decide), ob_s, ch, ob_s, nI_1]
      exact spst (by omega) (s4 m)
    have s2 : ∀ m, sp_X2_spells_p1008_20 (nI a) tp (m + 4) (nI 2) = some (bI (spl tp a (a + 5) 2 [114, 116, 104])) := by
      intro m
      have ch : sp_J0_charAt_5068e_p1008 (nI 2) = some 114 := by decide +kernel
      rw [sp_X2_spells_p1008_20, hl, if_neg (nI_ge (show 2 < 5 by decide) (by decide)), nI_add, xo_at_nI (by omega) (by decide), ob_s, ch, ob_s, nI_1]
      exact spst (by omega) (s3 m)
    have s1 : ∀ m, sp_X2_spells_p1008_20 (nI a) tp (m + 5) (nI 1) = some (bI (spl tp a (a + 5) 1 [111, 114, 116, 104])) := by
      intro m
      have ch : sp_J0_charAt_5068e_p1008 (nI 1) = some 111 := by decide +kernel
      rw [sp_X2_spells_p1008_20, hl, if_neg (nI_ge (show 1 < 5 by decide) (by decide)), nI_add, xo_at_nI (by omega) (by decide), ob_s, ch, ob_s, nI_1]
      exact spst (by omega) (s2 m)
    have s0 : ∀ m, sp_X2_spells_p1008_20 (nI a) tp (m + 6) (nI 0) = some (bI (spl tp a (a + 5) 0 [119, 111, 114, 116, 104])) := by
      intro m
      have ch : sp_J0_charAt_5068e_p1008 (nI 0) = some 119 := by decide +kernel
      rw [sp_X2_spells_p1008_20, hl, if_neg (nI_ge (show 0 < 5 by decide) (by decide)), nI_add, xo_at_nI (by omega) (by decide), ob_s, ch, ob_s, nI_1]
      exact spst (by omega) (s1 m)
    exact s0 4994
  · rw [if_neg (tne (by omega) (by omega) (by decide)), bff (b := spl tp a e 0 [119, 111, 114, 116, 104]) (fun q => h (spl_len _ 0 q))]; rfl
theorem wd_9 {tp : Nat → Int32} {a e : Nat} (ha : a ≤ e) (he : e ≤ 160) : sp_X2_spells_p1009 (nI a) (nI e) tp = some (bI (spl tp a e 0 [111, 114])) := by
  unfold sp_X2_spells_p1009
  have hl : sp_J0_length_8abf5_p1009 = nI 2 := by decide +kernel
  rw [pk_sub ha, hl]
  by_cases h : e = a + 2
  · subst h
    rw [if_pos (by rw [Nat.add_sub_cancel_left])]
    have s2 : ∀ m, sp_X2_spells_p1009_20 (nI a) tp (m + 1) (nI 2) = some (bI (spl tp a (a + 2) 2 [])) := by
      intro m
      rw [sp_X2_spells_p1009_20, hl, if_pos (nI_le (Nat.le_refl _) (by decide)), spl, decide_eq_true rfl]; rfl
    have s1 : ∀ m, sp_X2_spells_p1009_20 (nI a) tp (m + 2) (nI 1) = some (bI (spl tp a (a + 2) 1 [114])) := by
      intro m
      have ch : sp_J0_charAt_5068e_p1009 (nI 1) = some 114 := by decide +kernel
      rw [sp_X2_spells_p1009_20, hl, if_neg (nI_ge (show 1 < 2 by decide) (by decide)), nI_add, xo_at_nI (by omega) (by decide), ob_s, ch, ob_s, nI_1]
      exact spst (by omega) (s2 m)
    have s0 : ∀ m, sp_X2_spells_p1009_20 (nI a) tp (m + 3) (nI 0) = some (bI (spl tp a (a + 2) 0 [111, 114])) := by
      intro m
      have ch : sp_J0_charAt_5068e_p1009 (nI 0) = some 111 := by decide +kernel
      rw [sp_X2_spells_p1009_20, hl, if_neg (nI_ge (show 0 < 2 by decide) (by decide)), nI_add, xo_at_nI (by omega) (by decide), ob_s, ch, ob_s, nI_1]
      exact spst (by omega) (s1 m)
    exact s0 4997
  · rw [if_neg (tne (by omega) (by omega) (by decide)), bff (b := spl tp a e 0 [111, 114]) (fun q => h (spl_len _ 0 q))]; rfl
theorem wd_10 {tp : Nat → Int32} {a e : Nat} (ha : a ≤ e) (he : e ≤ 160) : sp_X2_spells_p1010 (nI a) (nI e) tp = some (bI (spl tp a e 0 [97, 110, 100])) := by
  unfold sp_X2_spells_p1010
  have hl : sp_J0_length_8abf5_p1010 = nI 3 := by decide +kernel
  rw [pk_sub ha, hl]
  by_cases h : e = a + 3
  · subst h
    rw [if_pos (by rw [Nat.add_sub_cancel_left])]
    have s3 : ∀ m, sp_X2_spells_p1010_20 (nI a) tp (m + 1) (nI 3) = some (bI (spl tp a (a + 3) 3 [])) := by
      intro m
      rw [sp_X2_spells_p1010_20, hl, if_pos (nI_le (Nat.le_refl _) (by decide)), spl, decide_eq_true rfl]; rfl
    have s2 : ∀ m, sp_X2_spells_p1010_20 (nI a) tp (m + 2) (nI 2) = some (bI (spl tp a (a + 3) 2 [100])) := by
      intro m
      have ch : sp_J0_charAt_5068e_p1010 (nI 2) = some 100 := by decide +kernel
      rw [sp_X2_spells_p1010_20, hl, if_neg (nI_ge (show 2 < 3 by decide) (by decide)), nI_add, xo_at_nI (by omega) (by decide), ob_s, ch, ob_s, nI_1]
      exact spst (by omega) (s3 m)
    have s1 : ∀ m, sp_X2_spells_p1010_20 (nI a) tp (m + 3) (nI 1) = some (bI (spl tp a (a + 3) 1 [110, 100])) := by
      intro m
      have ch : sp_J0_charAt_5068e_p1010 (nI 1) = some 110 := by decide +kernel
      rw [sp_X2_spells_p1010_20, hl, if_neg (nI_ge (show 1 < 3 by decide) (by decide)), nI_add, xo_at_nI (by omega) (by decide), ob_s, ch, ob_s, nI_1]
      exact spst (by omega) (s2 m)
    have s0 : ∀ m, sp_X2_spells_p1010_20 (nI a) tp (m + 4) (nI 0) = some (bI (spl tp a (a + 3) 0 [97, 110, 100])) := by
      intro m
      have ch : sp_J0_charAt_5068e_p1010 (nI 0) = some 97 := by decide +kernel
      rw [sp_X2_spells_p1010_20, hl, if_neg (nI_ge (show 0 < 3 by decide) (by decide)), nI_add, xo_at_nI (by omega) (by decide), ob_s, ch, ob_s, nI_1]
      exact spst (by omega) (s1 m)
    exact s0 4996
  · rw [if_neg (tne (by omega) (by omega) (by decide)), bff (b := spl tp a e 0 [97, 110, 100]) (fun q => h (spl_len _ 0 q))]; rfl
theorem wd_11 {tp : Nat → Int32} {a e : Nat} (ha : a ≤ e) (he : e ≤ 160) : sp_X2_spells_p1011 (nI a) (nI e) tp = some (bI (spl tp a e 0 [110, 111, 116])) := by
  unfold sp_X2_spells_p1011
  have hl : sp_J0_length_8abf5_p1011 = nI 3 := by decide +kernel
  rw [pk_sub ha, hl]
  by_cases h : e = a + 3
  · subst h
    rw [if_pos (by rw [Nat.add_sub_cancel_left])]
    have s3 : ∀ m, sp_X2_spells_p1011_20 (nI a) tp (m + 1) (nI 3) = some (bI (spl tp a (a + 3) 3 [])) := by
      intro m
      rw [sp_X2_spells_p1011_20, hl, if_pos (nI_le (Nat.le_refl _) (by decide)), spl, decide_eq_true rfl]; rfl
    have s2 : ∀ m, sp_X2_spells_p1011_20 (nI a) tp (m + 2) (nI 2) = some (bI (spl tp a (a + 3) 2 [116])) := by
      intro m
      have ch : sp_J0_charAt_5068e_p1011 (nI 2) = some 116 := by decide +kernel
      rw [sp_X2_spells_p1011_20, hl, if_neg (nI_ge (show 2 < 3 by decide) (by decide)), nI_add, xo_at_nI (by omega) (by decide), ob_s, ch, ob_s, nI_1]
      exact spst (by omega) (s3 m)
    have s1 : ∀ m, sp_X2_spells_p1011_20 (nI a) tp (m + 3) (nI 1) = some (bI (spl tp a (a + 3) 1 [111, 116])) := by
      intro m
      have ch : sp_J0_charAt_5068e_p1011 (nI 1) = some 111 := by decide +kernel
      rw [sp_X2_spells_p1011_20, hl, if_neg (nI_ge (show 1 < 3 by decide) (by decide)), nI_add, xo_at_nI (by omega) (by decide), ob_s, ch, ob_s, nI_1]
      exact spst (by omega) (s2 m)
    have s0 : ∀ m, sp_X2_spells_p1011_20 (nI a) tp (m + 4) (nI 0) = some (bI (spl tp a (a + 3) 0 [110, 111, 116])) := by
      intro m
      have ch : sp_J0_charAt_5068e_p1011 (nI 0) = some 110 := by decide +kernel
      rw [sp_X2_spells_p1011_20, hl, if_neg (nI_ge (show 0 < 3 by decide) (by decide)), nI_add, xo_at_nI (by omega) (by decide), ob_s, ch, ob_s, nI_1]
      exact spst (by omega) (s1 m)
    exact s0 4996
  · rw [if_neg (tne (by omega) (by omega) (by decide)), bff (b := spl tp a e 0 [110, 111, 116]) (fun q => h (spl_len _ 0 q))]; rfl
def Lq (tp : Nat → Int32) (a e i : Nat) (p : Int32) : Bool := if e ≤ a + i then decide (p = 0) else decide (tp (a + i) = p)
def mtc (tp : Nat → Int32) (a e : Nat) : Nat → List Int32 → Bool
  | i, [] => decide (e ≤ a + i)
  | i, x :: xs => Lq tp a e i x && mtc tp a e (i + 1) xs
theorem mtc_z {tp : Nat → Int32} {a e : Nat} : ∀ (z i : Nat), e ≤ a + i → mtc tp a e i (List.replicate z 0) = true := by
  intro z
  induction z with
  | zero => intro i h; rw [List.replicate_zero, mtc, decide_eq_true h]
  | succ z ih =>
    intro i h
    rw [List.replicate_succ, mtc, Lq, if_pos h, decide_eq_true rfl, Bool.true_and]
    exact ih (i + 1) (by omega)
theorem mtc_spl {tp : Nat → Int32} {a e : Nat} (hz : ∀ j, a + j < e → ¬ tp (a + j) = 0) : ∀ (W : List Int32) (i z : Nat), (∀ x ∈ W, ¬ x = 0) → a + i ≤ e → mtc tp a e i (W ++ List.replicate z 0) = spl tp a e i W := by
  intro W
  induction W with
  | nil =>
    intro i z _ hi
    rw [List.nil_append, spl]
    by_cases h : a + i = e
    · rw [decide_eq_true h]
      exact mtc_z z i (by omega)
    · rw [decide_eq_false h]
      cases z with
      | zero => rw [List.replicate_zero, mtc, decide_eq_false (by omega)]
      | succ z => rw [List.replicate_succ, mtc, Lq, if_neg (by omega), decide_eq_false (hz i (by omega)), Bool.false_and]
  | cons x W ih =>
    intro i z hw hi
    rw [List.cons_append, mtc, spl, Lq]
    by_cases h : a + i < e
    · rw [if_neg (by omega), decide_eq_true h, Bool.true_and, ih (i + 1) z (fun y hy => hw y (List.mem_cons_of_mem _ hy)) (by omega)]
    · rw [if_pos (by omega), decide_eq_false h, decide_eq_false (hw x List.mem_cons_self), Bool.false_and, Bool.false_and]
theorem il6 {tp tx : Nat → Int32} {q r R : Nat} (X : TX tp tx q r R) {a e i : Nat} (p : Int32) (ha : a ≤ 160) (hi : i ≤ 8) (he : e ≤ r) : sp_X6_isLetter (nI i) p (nI (160 * q)) (nI R) (nI e) (nI a) tx = some (bI (Lq tp a e i p)) := by
  have h1 := X.1
  have h2 := X.2.1
  unfold sp_X6_isLetter Lq
  rw [nI_add]
  by_cases h : e ≤ a + i
  · rw [if_pos (nI_le h (by omega)), if_pos h]
    by_cases c : p = 0
    · rw [if_pos c, decide_eq_true c]; rfl
    · rw [if_neg c, decide_eq_false c]; rfl
  · rw [if_neg (nI_ge (by omega) (by omega)), if_neg h, by_at X (by omega), ob_s]
    by_cases c : tp (a + i) = p
    · rw [if_pos c, decide_eq_true c]; rfl
    · rw [if_neg c, decide_eq_false c]; rfl
theorem iw_st {b c : Bool} {y : Option Int32} (hy : y = some (bI c)) : (if bI b = 0 then some 0 else y) = some (bI (b && c)) := by
  cases b
  · rw [if_pos (show bI false = 0 from rfl)]; rfl
  · rw [if_neg (show ¬ bI true = 0 by decide), hy, Bool.true_and]
theorem isw_mtc {tp tx : Nat → Int32} {q r R : Nat} (X : TX tp tx q r R) {a e : Nat} (ha : a ≤ e) (he : e ≤ r) (p1 p2 p3 p4 p5 p6 p7 p8 : Int32) : sp_X6_isWord p1 p2 p3 p4 p5 p6 p7 p8 (nI (160 * q)) (nI R) (nI e) 1 (nI a) 0 tx = some (bI (Lq tp a e 0 p1 && (Lq tp a e 1 p2 && (Lq tp a e 2 p3 && (Lq tp a e 3 p4 && (Lq tp a e 4 p5 && (Lq tp a e 5 p6 && (Lq tp a e 6 p7 && (Lq tp a e 7 p8 && decide (e ≤ a + 8)))))))))) := by
  have h1 := X.1
  have h2 := X.2.1
  have e8 : nI a + 8 = nI (a + 8) := nI_add a 8
  unfold sp_X6_isWord
  rw [if_pos rfl, if_pos rfl, e8]
  by_cases h : e ≤ a + 8
  · rw [if_neg (nI_nlt h (by omega))]
    have l0 : sp_X6_isLetter 0 p1 (nI (160 * q)) (nI R) (nI e) (nI a) tx = some (bI (Lq tp a e 0 p1)) := il6 X (i := 0) p1 (by omega) (by omega) he
    have l1 : sp_X6_isLetter 1 p2 (nI (160 * q)) (nI R) (nI e) (nI a) tx = some (bI (Lq tp a e 1 p2)) := il6 X (i := 1) p2 (by omega) (by omega) he
    have l2 : sp_X6_isLetter 2 p3 (nI (160 * q)) (nI R) (nI e) (nI a) tx = some (bI (Lq tp a e 2 p3)) := il6 X (i := 2) p3 (by omega) (by omega) he
    have l3 : sp_X6_isLetter 3 p4 (nI (160 * q)) (nI R) (nI e) (nI a) tx = some (bI (Lq tp a e 3 p4)) := il6 X (i := 3) p4 (by omega) (by omega) he
    have l4 : sp_X6_isLetter 4 p5 (nI (160 * q)) (nI R) (nI e) (nI a) tx = some (bI (Lq tp a e 4 p5)) := il6 X (i := 4) p5 (by omega) (by omega) he
    have l5 : sp_X6_isLetter 5 p6 (nI (160 * q)) (nI R) (nI e) (nI a) tx = some (bI (Lq tp a e 5 p6)) := il6 X (i := 5) p6 (by omega) (by omega) he
    have l6 : sp_X6_isLetter 6 p7 (nI (160 * q)) (nI R) (nI e) (nI a) tx = some (bI (Lq tp a e 6 p7)) := il6 X (i := 6) p7 (by omega) (by omega) he
    have l7 : sp_X6_isLetter 7 p8 (nI (160 * q)) (nI R) (nI e) (nI a) tx = some (bI (Lq tp a e 7 p8)) := il6 X (i := 7) p8 (by omega) (by omega) he
    rw [l0, ob_s]
    refine iw_st ?_
    rw [l1, ob_s]
    refine iw_st ?_
    rw [l2, ob_s]
    refine iw_st ?_
    rw [l3, ob_s]
    refine iw_st ?_
    rw [l4, ob_s]
    refine iw_st ?_
    rw [l5, ob_s]
    refine iw_st ?_
    rw [l6, ob_s]
    refine iw_st ?_
    rw [l7, ob_s]
    exact iw_st (by rw [decide_eq_true h]; rfl)
  · rw [if_pos (nI_lt (by omega) (by omega)), decide_eq_false h]
    simp [bI]
def isW (W : List Int32) (fr sz h t ta bd : Int32) (tx : Nat → Int32) : Option Int32 := sp_X6_isWord (W.getD 0 0) (W.getD 1 0) (W.getD 2 0) (W.getD 3 0) (W.getD 4 0) (W.getD 5 0) (W.getD 6 0) (W.getD 7 0) fr sz h t ta bd tx
theorem wl_g : ∀ x ∈ wl, [x.1.getD 0 0, x.1.getD 1 0, x.1.getD 2 0, x.1.getD 3 0, x.1.getD 4 0, x.1.getD 5 0, x.1.getD 6 0, x.1.getD 7 0] = x.1 ++ List.replicate (8 - x.1.length) 0 := by decide +kernel
theorem wl_z : ∀ x ∈ wl, ∀ y ∈ x.1, ¬ y = 0 := by decide +kernel
theorem isw_spl {tp tx : Nat → Int32} {q r R : Nat} (X : TX tp tx q r R) {a e : Nat} (ha : a ≤ e) (he : e ≤ r) (hz : ∀ j, a + j < e → ¬ tp (a + j) = 0) : ∀ x ∈ wl, isW x.1 (nI (160 * q)) (nI R) (nI e) 1 (nI a) 0 tx = some (bI (spl tp a e 0 x.1)) := by
  intro x hx
  unfold isW
  rw [isw_mtc X ha he, ← mtc_spl hz x.1 0 (8 - x.1.length) (wl_z x hx) (by omega), ← wl_g x hx]
  rfl
theorem wst {b : Bool} {y : Option (Int32 × Int32)} {cn rest : Nat} {ax : Int32} (hy : y = some (nI rest, ax)) : (if bI b = 0 then y else some (nI cn, ax)) = some (nI (if b then cn else rest), ax) := by
  cases b
  · rw [if_pos (show bI false = 0 from rfl), hy]; rfl
  · rw [if_neg (show ¬ bI true = 0 by decide)]; rfl
theorem wchain {tp : Nat → Int32} {a e : Nat} (ha : a ≤ e) (he : e ≤ 160) : 
  ((sp_X2_spells_p1000 (nI a) (nI e) tp).bind fun r1 =>
  if r1 = 0 then
    ((sp_X2_spells_p1001 (nI a) (nI e) tp).bind fun r2 =>
    if r2 = 0 then
      ((sp_X2_spells_p1002 (nI a) (nI e) tp).bind fun r3 =>
      if r3 = 0 then
        ((sp_X2_spells_p1003 (nI a) (nI e) tp).bind fun r4 =>
        if r4 = 0 then
          ((sp_X2_spells_p1004 (nI a) (nI e) tp).bind fun r5 =>
          if r5 = 0 then
            ((sp_X2_spells_p1005 (nI a) (nI e) tp).bind fun r6 =>
            if r6 = 0 then
              ((sp_X2_spells_p1006 (nI a) (nI e) tp).bind fun r7 =>
              if r7 = 0 then
                ((sp_X2_spells_p1007 (nI a) (nI e) tp).bind fun r8 =>
                if r8 = 0 then
                  ((sp_X2_spells_p1008 (nI a) (nI e) tp).bind fun r9 =>
                  if r9 = 0 then
                    ((sp_X2_spells_p1009 (nI a) (nI e) tp).bind fun r10 =>
                    if r10 = 0 then
                      ((sp_X2_spells_p1010 (nI a) (nI e) tp).bind fun r11 =>
                      if r11 = 0 then
                        ((sp_X2_spells_p1011 (nI a) (nI e) tp).bind fun r12 =>
                        if r12 = 0 then
                          some (10032, nI e)
                        else
                          some (10015, nI e))
                      else
                        some (10014, nI e))
                    else
                      some (10013, nI e))
                  else
                    some (10012, nI e))
                else
                  some (10011, nI e))
              else
                some (10010, nI e))
            else
              some (10005, nI e))
          else
            some (10004, nI e))
        else
          some (10003, nI e))
      else
        some (10002, nI e))
    else
      some (10001, nI e))
  else
    some (10000, nI e)) = some (nI (wvL tp a e wl), nI e) := by
  have hw : wvL tp a e wl = (if spl tp a e 0 [110, 111, 100, 101] then 10000 else (if spl tp a e 0 [100, 101, 112, 116, 104] then 10001 else (if spl tp a e 0 [107, 105, 100, 115] then 10002 else (if spl tp a e 0 [116, 119, 105, 103, 115] then 10003 else (if spl tp a e 0 [108, 97, 115, 116] then 10004 else (if spl tp a e 0 [121, 101, 97, 114] then 10005 else (if spl tp a e 0 [99, 111, 115, 116, 115] then 10010 else (if spl tp a e 0 [102, 97, 108, 108, 115] then 10011 else (if spl tp a e 0 [119, 111, 114, 116, 104] then 10012 else (if spl tp a e 0 [111, 114] then 10013 else (if spl tp a e 0 [97, 110, 100] then 10014 else (if spl tp a e 0 [110, 111, 116] then 10015 else 10032)))))))))))) := rfl
  rw [hw]
  rw [wd_0 ha he, ob_s]
  refine wst (cn := 10000) ?_
  rw [wd_1 ha he, ob_s]
  refine wst (cn := 10001) ?_
  rw [wd_2 ha he, ob_s]
  refine wst (cn := 10002) ?_
  rw [wd_3 ha he, ob_s]
  refine wst (cn := 10003) ?_
  rw [wd_4 ha he, ob_s]
  refine wst (cn := 10004) ?_
  rw [wd_5 ha he, ob_s]
  refine wst (cn := 10005) ?_
  rw [wd_6 ha he, ob_s]
  refine wst (cn := 10010) ?_
  rw [wd_7 ha he, ob_s]
  refine wst (cn := 10011) ?_
  rw [wd_8 ha he, ob_s]
  refine wst (cn := 10012) ?_
  rw [wd_9 ha he, ob_s]
  refine wst (cn := 10013) ?_
  rw [wd_10 ha he, ob_s]
  refine wst (cn := 10014) ?_
  rw [wd_11 ha he, ob_s]
  exact wst (cn := 10015) (rest := 10032) rfl
