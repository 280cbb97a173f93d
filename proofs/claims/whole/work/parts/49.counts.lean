theorem or_k {k j : Nat} (hk : k < 4096) (hj : j < 12) : (nI k ||| xi_shl 1 (nI j)) = nI (oN k j) := by
  have := or_all ⟨k / 64, by omega⟩ ⟨k % 64, by omega⟩ ⟨j, hj⟩
  dsimp only at this
  rw [show 64 * (k / 64) + k % 64 = k by omega] at this
  exact this
theorem xrr_k {k j : Nat} (hk : k < 4096) (hj : j < 12) : (nI k ^^^ xi_shl 1 (nI j)) = nI (xN k j) := by
  have := xr_all ⟨k / 64, by omega⟩ ⟨k % 64, by omega⟩ ⟨j, hj⟩
  dsimp only at this
  rw [show 64 * (k / 64) + k % 64 = k by omega] at this
  exact this
theorem xN_s {x b i : Nat} (hb : b < 2) : xN (2 * x + b) (i + 1) = 2 * xN x i + b := by
  have e : (2 * x + b) / 2 ^ (i + 1) = x / 2 ^ i := by
    rw [Nat.pow_succ', ← Nat.div_div_eq_div_mul, show (2 * x + b) / 2 = x by omega]
  unfold xN
  rw [e, Nat.pow_succ']
  by_cases c : x / 2 ^ i % 2 = 0
  · rw [if_pos c, if_pos c]; omega
  · rw [if_neg c, if_neg c]
    have h1 : 1 ≤ x / 2 ^ i := Nat.pos_of_ne_zero (fun z => c (by rw [z]))
    have h2 : 2 ^ i ≤ x := by
      have := (Nat.le_div_iff_mul_le (Nat.pow_pos (n := i) (show 0 < 2 by decide))).mp h1
      omega
    omega
theorem xN_0 {x b : Nat} (hb : b < 2) : xN (2 * x + b) 0 = 2 * x + (1 - b) := by
  unfold xN
  rw [Nat.pow_zero, Nat.div_one]
  by_cases c : (2 * x + b) % 2 = 0
  · rw [if_pos c]; omega
  · rw [if_neg c]; omega
theorem eD_x : ∀ n w i k, i < n → w.testBit i = true → eD n w (xN k (zcnt (fun j => w.testBit j) i)) = xN (eD n w k) i := by
  intro n
  induction n with
  | zero => intro w i k hi; omega
  | succ n ih =>
    intro w i k hi ht
    have kk : k = 2 * (k / 2) + k % 2 := by omega
    cases i with
    | zero =>
      rw [Nat.testBit_zero] at ht
      have c := of_decide_eq_true ht
      have x0 : xN k 0 = 2 * (k / 2) + (1 - k % 2) := by
        have := xN_0 (x := k / 2) (b := k % 2) (by omega)
        rw [← kk] at this
        exact this
      rw [show zcnt (fun j => w.testBit j) 0 = 0 from rfl, eD, eD, if_pos c, if_pos c, x0, xN_0 (by omega), show (2 * (k / 2) + (1 - k % 2)) / 2 = k / 2 by omega, show (2 * (k / 2) + (1 - k % 2)) % 2 = 1 - k % 2 by omega]
    | succ i =>
      have ht' : (w / 2).testBit i = true := by rw [Nat.testBit_div_two]; exact ht
      have ez : zcnt (fun j => w.testBit (j + 1)) i = zcnt (fun j => (w / 2).testBit j) i := zcnt_congr i (fun j _ => by rw [Nat.testBit_div_two])
      rw [zcnt_lo, ez, eD, eD, Nat.testBit_zero]
      by_cases c : w % 2 = 1
      · have xs : xN k (zcnt (fun j => (w / 2).testBit j) i + 1) = 2 * xN (k / 2) (zcnt (fun j => (w / 2).testBit j) i) + k % 2 := by
          have := xN_s (x := k / 2) (b := k % 2) (i := zcnt (fun j => (w / 2).testBit j) i) (by omega)
          rw [← kk] at this
          exact this
        rw [if_pos c, if_pos c, decide_eq_true c, if_pos rfl, Nat.add_comm 1, xs, xN_s (by omega), ← ih (w / 2) i (k / 2) (by omega) ht', show (2 * xN (k / 2) (zcnt (fun j => (w / 2).testBit j) i) + k % 2) / 2 = xN (k / 2) (zcnt (fun j => (w / 2).testBit j) i) by omega, show (2 * xN (k / 2) (zcnt (fun j => (w / 2).testBit j) i) + k % 2) % 2 = k % 2 by omega]
      · have := xN_s (x := eD n (w / 2) k) (b := 0) (i := i) (by omega)
        simp only [Nat.add_zero] at this
        rw [if_neg c, if_neg c, decide_eq_false c, if_neg (by decide), Nat.zero_add, ih (w / 2) i k (by omega) ht', this]
theorem zc_add (P : Nat → Bool) (a : Nat) : ∀ b, zcnt P (a + b) = zcnt P a + zcnt (fun i => P (a + i)) b := by
  intro b
  induction b with
  | zero => rfl
  | succ b ih => rw [← Nat.add_assoc, zcnt_s, ih, zcnt_s]; omega
theorem pairs (f : Nat → Bool) (j : Nat) : ∀ t, zcnt (fun k => f k != f (xN k j)) (t * 2 ^ (j + 1)) = 2 * zcnt (fun k => decide (k / 2 ^ j % 2 = 0) && (f k != f (k + 2 ^ j))) (t * 2 ^ (j + 1)) := by
  have hp : 0 < 2 ^ j := Nat.pow_pos (by decide)
  intro t
  induction t with
  | zero => rw [Nat.zero_mul]; rfl
  | succ t ih =>
    have e2 : (t + 1) * 2 ^ (j + 1) = t * 2 ^ (j + 1) + (2 ^ j + 2 ^ j) := by rw [Nat.succ_mul, Nat.pow_succ]; omega
    have eb : t * 2 ^ (j + 1) = 2 ^ j * (2 * t) := by rw [Nat.pow_succ, Nat.mul_comm t, Nat.mul_assoc]
    have d0 : ∀ i, i < 2 ^ j → (t * 2 ^ (j + 1) + i) / 2 ^ j = 2 * t := by
      intro i hi
      rw [eb, Nat.add_comm, Nat.add_mul_div_left _ _ hp, Nat.div_eq_of_lt hi, Nat.zero_add]
    have d1 : ∀ i, i < 2 ^ j → (t * 2 ^ (j + 1) + (2 ^ j + i)) / 2 ^ j = 2 * t + 1 := by
      intro i hi
      rw [eb, Nat.add_comm, Nat.add_mul_div_left _ _ hp, Nat.add_comm (2 ^ j) i, Nat.add_div_right _ hp, Nat.div_eq_of_lt hi]
      omega
    rw [e2, zc_add, zc_add, ih, zc_add (fun k => decide (k / 2 ^ j % 2 = 0) && (f k != f (k + 2 ^ j))), zc_add (fun i => (fun k => decide (k / 2 ^ j % 2 = 0) && (f k != f (k + 2 ^ j))) (t * 2 ^ (j + 1) + i))]
    have A : zcnt (fun i => f (t * 2 ^ (j + 1) + i) != f (xN (t * 2 ^ (j + 1) + i) j)) (2 ^ j) = zcnt (fun i => f (t * 2 ^ (j + 1) + i) != f (t * 2 ^ (j + 1) + i + 2 ^ j)) (2 ^ j) := zcnt_congr _ (fun i hi => by
      unfold xN
      rw [d0 i hi, if_pos (by omega)])
    have B : zcnt (fun i => f (t * 2 ^ (j + 1) + (2 ^ j + i)) != f (xN (t * 2 ^ (j + 1) + (2 ^ j + i)) j)) (2 ^ j) = zcnt (fun i => f (t * 2 ^ (j + 1) + i) != f (t * 2 ^ (j + 1) + i + 2 ^ j)) (2 ^ j) := zcnt_congr _ (fun i hi => by
      unfold xN
      rw [d1 i hi, if_neg (by omega), show t * 2 ^ (j + 1) + (2 ^ j + i) - 2 ^ j = t * 2 ^ (j + 1) + i by omega, show t * 2 ^ (j + 1) + (2 ^ j + i) = t * 2 ^ (j + 1) + i + 2 ^ j by omega]
      cases f (t * 2 ^ (j + 1) + i) <;> cases f (t * 2 ^ (j + 1) + i + 2 ^ j) <;> rfl)
    have C : zcnt (fun i => decide ((t * 2 ^ (j + 1) + i) / 2 ^ j % 2 = 0) && (f (t * 2 ^ (j + 1) + i) != f (t * 2 ^ (j + 1) + i + 2 ^ j))) (2 ^ j) = zcnt (fun i => f (t * 2 ^ (j + 1) + i) != f (t * 2 ^ (j + 1) + i + 2 ^ j)) (2 ^ j) := zcnt_congr _ (fun i hi => by
      rw [d0 i hi, decide_eq_true (by omega), Bool.true_and])
    have D : zcnt (fun i => decide ((t * 2 ^ (j + 1) + (2 ^ j + i)) / 2 ^ j % 2 = 0) && (f (t * 2 ^ (j + 1) + (2 ^ j + i)) != f (t * 2 ^ (j + 1) + (2 ^ j + i) + 2 ^ j))) (2 ^ j) = 0 := zcnt_0 _ (fun i hi => by
      rw [d1 i hi, decide_eq_false (by omega), Bool.false_and])
    rw [A, B]
    dsimp only
    rw [C, D]
    omega
theorem lt_pw {k j m : Nat} (hk : k < 2 ^ m) (hj : j < m) (h : k / 2 ^ j % 2 = 0) : k + 2 ^ j < 2 ^ m := by
  have hp : 0 < 2 ^ j := Nat.pow_pos (by decide)
  obtain ⟨s, hs⟩ : ∃ s, 2 ^ m = 2 ^ j * (2 * s) := ⟨2 ^ (m - j - 1), by rw [← Nat.pow_succ', ← Nat.pow_add]; congr 1; omega⟩
  have hq : k / 2 ^ j < 2 * s := by
    rw [Nat.div_lt_iff_lt_mul hp, Nat.mul_comm]
    omega
  have h1 : k / 2 ^ j + 2 ≤ 2 * s := by omega
  have h2 : 2 ^ j * (k / 2 ^ j + 2) ≤ 2 ^ j * (2 * s) := Nat.mul_le_mul_left _ h1
  have h3 := Nat.mod_add_div k (2 ^ j)
  have h4 := Nat.mod_lt k hp
  rw [Nat.mul_add] at h2
  omega
def sH (f : Nat → Bool) (M j k : Nat) : Bool := decide (k / 2 ^ j % 2 = 0) && (decide (k + 2 ^ j < M) && (f k != f (k + 2 ^ j)))
def sC (f : Nat → Bool) (M j : Nat) : Nat := 2 * zcnt (sH f M j) M
theorem sC_eq (f : Nat → Bool) {m j : Nat} (hj : j < m) : zcnt (fun k => f k != f (xN k j)) (2 ^ m) = sC f (2 ^ m) j := by
  have e : 2 ^ m = 2 ^ (m - j - 1) * 2 ^ (j + 1) := by rw [← Nat.pow_add]; congr 1; omega
  have P := pairs f j (2 ^ (m - j - 1))
  rw [← e] at P
  rw [P, sC]
  congr 1
  apply zcnt_congr
  intro k hk
  unfold sH
  by_cases c : k / 2 ^ j % 2 = 0
  · rw [decide_eq_true c, decide_eq_true (lt_pw hk hj c), Bool.true_and, Bool.true_and]
  · rw [decide_eq_false c, Bool.false_and, Bool.false_and]
theorem zc_D {n w : Nat} (g : Nat → Bool) : ∀ u, u ≤ 2 ^ n → zcnt (fun v => sb w v && g v) u = zcnt (fun k => g (eD n w k)) (eK w u) := by
  intro u
  induction u with
  | zero => intro _; rfl
  | succ u ih =>
    intro hu
    rw [zcnt_s, ih (by omega), eK_s]
    by_cases c : sb w u = true
    · rw [if_pos c, zcnt_s, eD_K n w u (by omega) c, c, Bool.true_and]
    · rw [if_neg c, Nat.add_zero, bff c, Bool.false_and, if_neg (by decide), Nat.add_zero]
theorem co_loop {n : Nat} (hn : n ≤ 12) {s w la : Int32} {mP mK mN : Nat → Int32} {kw : Nat} (E : enP n kw w) {Y : Nat → Int32} (hY : ∀ u ye no, ∃ ye' no', sp_X6_goes s (nI u) (nI n) la mP mK mN ye no = some (Y u, ye', no')) {i : Nat} (hi : i < n) : ∀ (d u fuel : Nat) (ye no : Nat → Int32), u + d = 2 ^ n → d + 1 ≤ fuel → ∃ ye' no', sp_X6_countOf_6 (nI i) s w (nI n) la mP mK mN fuel (nI (zcnt (fun v => sb kw v && (tb (Y v) 0 != tb (Y (xN v i)) 0)) u)) (nI u) ye no = some (nI (zcnt (fun v => sb kw v && (tb (Y v) 0 != tb (Y (xN v i)) 0)) (2 ^ n)), ye', no') := by
  obtain ⟨h1, h2, h3, h4, h5, h6, h7, h8, h9, h10, h11⟩ := id E
  intro d
  induction d with
  | zero =>
    intro u fuel ye no hu hf
    obtain ⟨m, rfl⟩ : ∃ m, fuel = m + 1 := ⟨fuel - 1, by omega⟩
    have : u = 2 ^ n := by omega
    subst this
    rw [sp_X6_countOf_6, h11, if_pos (nI_le (Nat.le_refl _) (by omega))]
    exact ⟨_, _, rfl⟩
  | succ d ih =>
    intro u fuel ye no hu hf
    obtain ⟨m, rfl⟩ : ∃ m, fuel = m + 1 := ⟨fuel - 1, by omega⟩
    have I := fun ye no => ih (u + 1) m ye no (by omega) (by omega)
    rw [zcnt_s] at I
    rw [sp_X6_countOf_6, h11, if_neg (nI_ge (by omega) (by omega)), nI_1 u]
    by_cases c : sb kw u = true
    · obtain ⟨ye1, no1, e1⟩ := hY u ye no
      obtain ⟨ye2, no2, e2⟩ := hY (xN u i) ye1 no1
      rw [if_pos ((h7 u (by omega)).mpr c), e1, ob_s]
      dsimp only
      rw [xrr_k (by omega) (by omega), e2, ob_s]
      dsimp only
      rw [and_1, and_1]
      rw [c, Bool.true_and] at I
      by_cases q : tb (Y u) 0 = tb (Y (xN u i)) 0
      · rw [q, if_pos rfl, Int32.add_zero]
        rw [q, bne_self_eq_false, if_neg (by decide), Nat.add_zero] at I
        exact I _ _
      · have qb : (tb (Y u) 0 != tb (Y (xN u i)) 0) = true := by
          revert q; cases tb (Y u) 0 <;> cases tb (Y (xN u i)) 0 <;> simp
        rw [if_neg (fun z => q (by revert z; cases tb (Y u) 0 <;> cases tb (Y (xN u i)) 0 <;> decide)), nI_1]
        rw [qb, if_pos rfl] at I
        exact I _ _
    · rw [if_neg (fun q => c ((h7 u (by omega)).mp q))]
      rw [bff c, Bool.false_and, if_neg (by decide), Nat.add_zero] at I
      exact I _ _
theorem dv32 {k : Nat} (h : k < 2 ^ 31) : nI k / 32 = nI (k / 32) := pk_div (d := 32) h (by decide) (by decide)
theorem rm32 {k : Nat} (h : k < 2 ^ 31) : xi_rem (nI k) 32 = nI (k % 32) := pk_rem (d := 32) h (by decide) (by decide)
def lwI (f : Nat → Bool) (k : Nat) (laws : Nat → Int32) : Prop := ∀ j, j < 2048 → tb (laws (j / 32)) (j % 32) = (decide (j < k) && f j)
theorem kl_loop {n : Nat} {s w la : Int32} {oP oK oN : Nat → Int32} {kw : Nat} (E : enP n kw w) {Y : Nat → Int32} (hY : ∀ u kc ld, ∃ kc' ld', sp_X1_vote s (nI u) (nI n) la oP oK oN kc ld = some (Y u, kc', ld')) {M : Nat} (hM : M ≤ 2048) : ∀ (d k fuel : Nat) (kc ld laws : Nat → Int32), k + d = M → d + 1 ≤ fuel → lwI (fun k => tb (Y (eD n kw k)) 0) k laws → ∃ kc' ld' laws', sp_X5_keepLaws_39 w s (nI M) (nI n) la oP oK oN fuel (nI (eD n kw k)) (nI k) kc ld laws = some (kc', ld', laws') ∧ lwI (fun k => tb (Y (eD n kw k)) 0) M laws' := by
  obtain ⟨h1, h2, h3, h4, h5, h6, h7, h8, h9, h10, h11⟩ := id E
  intro d
  induction d with
  | zero =>
    intro k fuel kc ld laws hk hf h
    obtain ⟨m, rfl⟩ : ∃ m, fuel = m + 1 := ⟨fuel - 1, by omega⟩
    have : k = M := by omega
    subst this
    rw [sp_X5_keepLaws_39, if_pos (nI_le (Nat.le_refl _) (by omega))]
    exact ⟨_, _, _, rfl, h⟩
  | succ d ih =>
    intro k fuel kc ld laws hk hf h
    obtain ⟨m, rfl⟩ : ∃ m, fuel = m + 1 := ⟨fuel - 1, by omega⟩
    obtain ⟨kc1, ld1, e1⟩ := hY (eD n kw k) kc ld
    rw [sp_X5_keepLaws_39, if_neg (nI_ge (by omega) (by omega)), dv32 (by omega), xo_at_nI (by omega) (by decide), ob_s, e1, ob_s, xo_set_nI (by omega) (by decide), ob_s, h6, nI_1, bit_z, and_1, rm32 (by omega)]
    refine ih (k + 1) m _ _ _ (by omega) (by omega) (fun j hj => ?_)
    have hkk := h k (by omega)
    have hjj := h j hj
    by_cases e : j / 32 = k / 32
    · rw [e, pk_us, tb_or, tb_bIs _ (by omega)]
      rw [e] at hjj
      rw [hjj]
      by_cases ek : j = k
      · subst ek
        rw [decide_eq_false (show ¬ j < j by omega), decide_eq_true (show j % 32 = j % 32 from rfl), decide_eq_true (show j < j + 1 by omega), Bool.false_and, Bool.false_or]
      · rw [decide_eq_false (show ¬ j % 32 = k % 32 by omega), Bool.false_and, Bool.or_false, dlt ek]
    · rw [pk_un e, hjj, dlt (by intro q; exact e (by rw [q]))]
theorem fill26 (f : Nat → Int32) : ∃ g, sp_J7_fill_53178_p26 0 f = some g ∧ ∀ j, j < 64 → g j = 0 := by
  have gen : ∀ (k i fuel : Nat) (f : Nat → Int32), i + k = 64 → k + 1 ≤ fuel → (∀ j, j < i → f j = 0) → ∃ g, sp_J7_fill_53178_p26_5 0 64 fuel (nI i) f = some g ∧ ∀ j, j < 64 → g j = 0 := by
    intro k
    induction k with
    | zero =>
      intro i fuel f hi hf h
      obtain ⟨m, rfl⟩ : ∃ m, fuel = m + 1 := ⟨fuel - 1, by omega⟩
      have : i = 64 := by omega
      subst this
      exact ⟨f, by rw [sp_J7_fill_53178_p26_5, if_pos (by decide)], h⟩
    | succ k ih =>
      intro i fuel f hi hf h
      obtain ⟨m, rfl⟩ : ∃ m, fuel = m + 1 := ⟨fuel - 1, by omega⟩
      rw [sp_J7_fill_53178_p26_5, if_neg (show ¬ (64 : Int32) ≤ nI i from nI_ge (b := 64) (by omega) (by decide)), xo_set_nI (by omega) (by decide), ob_s, nI_1]
      apply ih (i + 1) m _ (by omega) (by omega)
      intro j hj
      by_cases e : j = i
      · subst e; rw [pk_us]
      · rw [pk_un e]; exact h j (by omega)
  exact gen 64 0 5000 f rfl (by omega) (fun j hj => absurd hj (by omega))
theorem sw_loop {f : Nat → Bool} {M j : Nat} (hM : M ≤ 2048) (hj : j < 12) {laws : Nat → Int32} (HL : lwI f M laws) : ∀ (d k fuel : Nat), k + d = M → d + 1 ≤ fuel → sp_X5_swings_22 (nI j) (nI M) laws fuel (nI (2 * zcnt (sH f M j) k)) (nI k) = some (nI (sC f M j)) := by
  intro d
  induction d with
  | zero =>
    intro k fuel hk hf
    obtain ⟨m, rfl⟩ : ∃ m, fuel = m + 1 := ⟨fuel - 1, by omega⟩
    have : k = M := by omega
    subst this
    rw [sp_X5_swings_22, if_pos (nI_le (Nat.le_refl _) (by omega))]
    rfl
  | succ d ih =>
    intro k fuel hk hf
    obtain ⟨m, rfl⟩ : ∃ m, fuel = m + 1 := ⟨fuel - 1, by omega⟩
    have hp : 0 < 2 ^ j := Nat.pow_pos (by decide)
    have hp2 : 2 ^ j ≤ 2 ^ 11 := Nat.pow_le_pow_right (by decide) (by omega)
    have I := ih (k + 1) m (by omega) (by omega)
    rw [zcnt_s] at I
    rw [sp_X5_swings_22, if_neg (nI_ge (by omega) (by omega)), or_k (by omega) hj, nI_1]
    by_cases c : k / 2 ^ j % 2 = 0
    · have eo : oN k j = k + 2 ^ j := if_pos c
      rw [eo, if_neg (tne (by omega) (by omega) (by omega))]
      by_cases l : k + 2 ^ j < M
      · have es : sH f M j k = (f k != f (k + 2 ^ j)) := by
          unfold sH
          rw [decide_eq_true c, decide_eq_true l, Bool.true_and, Bool.true_and]
        have a1 := HL k (by omega)
        have a2 := HL (k + 2 ^ j) (by omega)
        rw [decide_eq_true (by omega), Bool.true_and] at a1 a2
        rw [if_neg (nI_ge l (by omega)), dv32 (by omega), dv32 (by omega), xo_at_nI (by omega) (by decide), ob_s, xo_at_nI (by omega) (by decide), ob_s, rm32 (by omega), rm32 (by omega), bit_nI _ (by omega), bit_nI _ (by omega), a1, a2]
        rw [es] at I
        by_cases q : f k = f (k + 2 ^ j)
        · rw [q, if_pos rfl]
          rw [q, bne_self_eq_false, if_neg (by decide), Nat.add_zero] at I
          exact I
        · have qb : (f k != f (k + 2 ^ j)) = true := by
            revert q; cases f k <;> cases f (k + 2 ^ j) <;> simp
          rw [if_neg (fun z => q (by revert z; cases f k <;> cases f (k + 2 ^ j) <;> decide))]
          rw [qb, if_pos rfl] at I
          have e2 : nI (2 * zcnt (sH f M j) k) + 2 = nI (2 * (zcnt (sH f M j) k + 1)) := nI_add _ 2
          rw [e2]
          exact I
      · have es : sH f M j k = false := by
          unfold sH
          rw [decide_eq_false l, Bool.false_and, Bool.and_false]
        rw [if_pos (nI_le (by omega) (by omega))]
        rw [es, if_neg (by decide), Nat.add_zero] at I
        exact I
    · have eo : oN k j = k := if_neg c
      have es : sH f M j k = false := by
        unfold sH
        rw [decide_eq_false c, Bool.false_and]
      rw [eo, if_pos rfl]
      rw [es, if_neg (by decide), Nat.add_zero] at I
      exact I
theorem mn_2048 {M : Nat} (h : M ≤ 2048) : xi_min (nI M) (64 * 32) = nI M := by
  have e : (64 * 32 : Int32) = nI 2048 := by decide
  rw [e]
  unfold xi_min
  by_cases c : M < 2048
  · first
    | rw [if_neg (nI_nlt (by omega) (by omega))]
    | rw [if_pos (nI_le (by omega) (by omega))]
    | (rw [if_pos (nI_lt c (by omega))])
  · have : M = 2048 := by omega
    subst this
    first
    | rfl
    | (split <;> rfl)
theorem sC_lt (f : Nat → Bool) {M : Nat} (hM : M ≤ 2048) (j : Nat) : sC f M j < 2 ^ 31 := by
  unfold sC
  have := zcnt_le (sH f M j) M
  omega
theorem fa_loop {f : Nat → Bool} {M m : Nat} (hM : M ≤ 2048) (hm : m ≤ 11) {w : Int32} (hw : sp_X5_waysOf w = nI M) {laws : Nat → Int32} (HL : lwI f M laws) : ∀ (d j fuel : Nat), m ≤ j + d → j ≤ 12 → d + 1 ≤ fuel → ∃ r, sp_X5_isFair_15 w (nI m) (nI (sC f M 0)) laws fuel (nI j) = some r ∧ ((r = 1 ∧ ∀ j', j ≤ j' → j' < m → sC f M j' = sC f M 0) ∨ (r = 0 ∧ ∃ j', j' < m ∧ ¬ sC f M j' = sC f M 0)) := by
  intro d
  induction d with
  | zero =>
    intro j fuel hj hj2 hf
    obtain ⟨x, rfl⟩ : ∃ m, fuel = m + 1 := ⟨fuel - 1, by omega⟩
    rw [sp_X5_isFair_15, if_pos (nI_le (by omega) (by omega))]
    exact ⟨1, rfl, Or.inl ⟨rfl, fun j' a b => by omega⟩⟩
  | succ d ih =>
    intro j fuel hj hj2 hf
    obtain ⟨x, rfl⟩ : ∃ m, fuel = m + 1 := ⟨fuel - 1, by omega⟩
    rw [sp_X5_isFair_15]
    by_cases c : m ≤ j
    · rw [if_pos (nI_le c (by omega))]
      exact ⟨1, rfl, Or.inl ⟨rfl, fun j' a b => by omega⟩⟩
    · have S := sw_loop hM (show j < 12 by omega) HL M 0 5000 (by omega) (by omega)
      rw [show 2 * zcnt (sH f M j) 0 = 0 from rfl, nI_0] at S
      rw [if_neg (nI_ge (by omega) (by omega))]
      unfold sp_X5_swings
      rw [hw, mn_2048 hM, S, ob_s, nI_1]
      by_cases q : sC f M j = sC f M 0
      · rw [if_pos (by rw [q])]
        obtain ⟨r, r1, r2⟩ := ih (j + 1) x (by omega) (by omega) (by omega)
        refine ⟨r, r1, ?_⟩
        rcases r2 with ⟨r2, r3⟩ | r2
        · refine Or.inl ⟨r2, fun j' a b => ?_⟩
          by_cases e : j' = j
          · rw [e]; exact q
          · exact r3 j' (by omega) b
        · exact Or.inr r2
      · rw [if_neg (tne q (sC_lt f hM j) (sC_lt f hM 0))]
        exact ⟨0, rfl, Or.inr ⟨rfl, j, by omega, q⟩⟩
theorem cf_loop {n : Nat} (hn : n ≤ 12) {s w la : Int32} {mP mK mN : Nat → Int32} {f : Nat → Bool} {M m : Nat} (hM : M ≤ 2048) (hm : m = zcnt (tb w) n) (hco : ∀ i, i < n → tb w i = true → ∀ ye no, ∃ ye' no', sp_X6_countOf (nI i) s w (nI n) la mP mK mN ye no = some (nI (sC f M (zcnt (tb w) i)), ye', no')) : ∀ (d i fuel : Nat) (first : Int32) (ye no : Nat → Int32), i + d = n → d + 1 ≤ fuel → ((zcnt (tb w) i = 0 ∧ first = -1) ∨ (0 < zcnt (tb w) i ∧ first = nI (sC f M 0))) → ∃ r ye' no', sp_X6_counts_56 s w (nI n) la mP mK mN fuel first (nI i) ye no = some (r, ye', no') ∧ ((r = 1 ∧ ∀ j', zcnt (tb w) i ≤ j' → j' < m → sC f M j' = sC f M 0) ∨ (r = 0 ∧ ∃ j', j' < m ∧ ¬ sC f M j' = sC f M 0)) := by
  intro d
  induction d with
  | zero =>
    intro i fuel first ye no hi hf h
    obtain ⟨x, rfl⟩ : ∃ m, fuel = m + 1 := ⟨fuel - 1, by omega⟩
    have : i = n := by omega
    subst this
    rw [sp_X6_counts_56, if_pos (nI_le (Nat.le_refl _) (by omega))]
    exact ⟨1, _, _, rfl, Or.inl ⟨rfl, fun j' a b => by omega⟩⟩
  | succ d ih =>
    intro i fuel first ye no hi hf h
    obtain ⟨x, rfl⟩ : ∃ m, fuel = m + 1 := ⟨fuel - 1, by omega⟩
    rw [sp_X6_counts_56, if_neg (nI_ge (by omega) (by omega)), nI_1]
    by_cases t : tb w i = true
    · have hz : zcnt (tb w) (i + 1) = zcnt (tb w) i + 1 := by rw [zcnt_s, if_pos t]
      have hmo := zcnt_mono (tb w) (a := i + 1) n (by omega)
      obtain ⟨ye1, no1, e1⟩ := hco i (by omega) t ye no
      rw [if_pos (shr1 (by omega) t), e1, ob_s]
      dsimp only
      rcases h with ⟨h1, h2⟩ | ⟨h1, h2⟩
      · rw [if_pos h2, h1]
        obtain ⟨r, y1, y2, r1, r2⟩ := ih (i + 1) x (nI (sC f M 0)) ye1 no1 (by omega) (by omega) (Or.inr ⟨by omega, rfl⟩)
        refine ⟨r, y1, y2, r1, ?_⟩
        rcases r2 with ⟨r2, r3⟩ | r2
        · refine Or.inl ⟨r2, fun j' a b => ?_⟩
          by_cases e : j' = 0
          · rw [e]
          · exact r3 j' (by omega) b
        · exact Or.inr r2
      · rw [h2, if_neg (m1_big (sC_lt f hM 0))]
        by_cases q : sC f M (zcnt (tb w) i) = sC f M 0
        · rw [q, if_pos rfl]
          obtain ⟨r, y1, y2, r1, r2⟩ := ih (i + 1) x (nI (sC f M 0)) ye1 no1 (by omega) (by omega) (Or.inr ⟨by omega, rfl⟩)
          refine ⟨r, y1, y2, r1, ?_⟩
          rcases r2 with ⟨r2, r3⟩ | r2
          · refine Or.inl ⟨r2, fun j' a b => ?_⟩
            by_cases e : j' = zcnt (tb w) i
            · rw [e]; exact q
            · exact r3 j' (by omega) b
          · exact Or.inr r2
        · rw [if_neg (tne q (sC_lt f hM _) (sC_lt f hM 0))]
          exact ⟨0, _, _, rfl, Or.inr ⟨rfl, _, by omega, q⟩⟩
    · have hz : zcnt (tb w) (i + 1) = zcnt (tb w) i := by rw [zcnt_s, if_neg t, Nat.add_zero]
      rw [if_neg (shr1n (by omega) (tbf t))]
      have I := ih (i + 1) x first ye no (by omega) (by omega)
      rw [hz] at I
      exact I h
theorem msk : ∀ i : Fin 12, ∀ j : Fin 32, tb (xi_shl 1 (nI i.val) - 1) j.val = decide (j.val < i.val) := by decide +kernel
theorem rank_i {n i : Nat} (hn : n ≤ 12) (hi : i < n) {w : Int32} (hw : ∀ i, tb w i = true → i < n) : sp_J6_bitCount_0f7a4 (w &&& (xi_shl 1 (nI i) - 1)) = nI (zcnt (tb w) i) := by
  have hb : ∀ j, tb (w &&& (xi_shl 1 (nI i) - 1)) j = (tb w j && decide (j < i)) := by
    intro j
    by_cases h : j < 32
    · have := msk ⟨i, by omega⟩ ⟨j, h⟩
      dsimp only at this
      rw [tb_and, this]
    · rw [tb_big _ (by omega), tb_big w (by omega), Bool.false_and]
  rw [bc_val hn (fun j h => by rw [hb j, Bool.and_eq_true] at h; exact hw j h.1)]
  congr 1
  rw [zcnt_same (P := tb (w &&& (xi_shl 1 (nI i) - 1))) (a := i) n (by omega) (fun j j1 j2 => by rw [hb j, decide_eq_false (by omega), Bool.and_false])]
  exact zcnt_congr i (fun j hj => by rw [hb j, decide_eq_true hj, Bool.and_true])
theorem q_counts : op_counts RRv := by
  intro o_size o_year o_gone o_minds o_lasts r_size r_token r_place r_at r_open r_made t_size t_rule i_there i_rule i_size i_year i_gone i_minds i_lasts o_parent o_kind o_number o_odds o_above o_kidCount o_lead r_tape r_steps r_ends t_steps t_ends t_stack s_sort s_size s_items i_number i_odds x_prices x_facts x_laws x_clues m_thrown m_textCount m_rule m_taped m_n m_minds m_lasts m_cutNow m_year m_ofNode m_ofDepth m_ofKids m_ofTwigs m_ofLast m_ofYear m_from m_size m_here m_token m_tokenAt m_open m_bad m_fault m_nKept m_mindsKept m_lastsKept m_cutKept m_yearKept m_ruleKept m_tokenWorth m_texts m_textSize m_tape m_parents m_kinds m_numbers m_odds m_yes m_no m_prices m_numbersKept m_oddsKept m_isThere m_sorts m_sheetSize m_items hR p1
  obtain ⟨n, t, hT, hP, hX, hI, hS⟩ := id hR
  obtain ⟨par, rfl, rfl, T, K, rfl, rfl, rfl, rfl, g0, pz, hO, hy, hg⟩ := rt_open hT
  have hn := T.2.1
  have hn1 := T.1
  obtain ⟨s, s1, s2, s3, s4⟩ := st_now T m_cutNow g0
  obtain ⟨w, w1, w2, w3⟩ := twigs_both T (st_bd s3)
  have wb := tw_bd (st_bd s3) w3
  have hwn : ∀ i, tb w i = true → i < n := fun i h => (wb i h).1
  obtain ⟨kw, E⟩ := en_of hn hwn
  obtain ⟨h1, h2, h3, h4, h5, h6, h7, h8, h9, h10, h11⟩ := id E
  obtain ⟨Y, hYY⟩ := Classical.skolem.mp (fun u : Nat => vote_both T K s (nI u) m_lasts s4)
  have hY5 : ∀ u kc ld, ∃ kc' ld', sp_X1_vote s (nI u) (nI n) m_lasts o_parent o_kind o_number kc ld = some (Y u, kc', ld') := fun u => (hYY u).1
  have hY6 : ∀ u ye no, ∃ ye' no', sp_X6_goes s (nI u) (nI n) m_lasts m_parents m_kinds m_numbers ye no = some (Y u, ye', no') := fun u => (hYY u).2.1
  obtain ⟨m, hm⟩ : ∃ m, m = zcnt (tb w) n := ⟨_, rfl⟩
  have w0 : tb w 0 = false := tbf (fun q => by have := (wb 0 q).2; omega)
  have hm11 : m ≤ 11 := by
    obtain ⟨n', rfl⟩ : ∃ n', n = n' + 1 := ⟨n - 1, by omega⟩
    rw [hm, zcnt_lo, w0, if_neg (by decide)]
    have := zcnt_le (fun i => tb w (i + 1)) n'
    omega
  have eb : ∀ i, zcnt (fun j => kw.testBit j) i = zcnt (tb w) i := fun i => zcnt_congr i (fun j _ => by rw [h3, tb_nI (by omega)])
  have hM : eK kw (2 ^ n) = 2 ^ m := by rw [eK_full n kw h1, eb, hm]
  have hM2 : 2 ^ m ≤ 2048 := by
    have : (2 : Nat) ^ m ≤ 2 ^ 11 := Nat.pow_le_pow_right (by decide) hm11
    omega
  rw [hM] at h4
  have hco : ∀ i, i < n → tb w i = true → ∀ ye no, ∃ ye' no', sp_X6_countOf (nI i) s w (nI n) m_lasts m_parents m_kinds m_numbers ye no = some (nI (sC (fun k => tb (Y (eD n kw k)) 0) (2 ^ m) (zcnt (tb w) i)), ye', no') := by
    intro i hi ti ye no
    have hz : zcnt (tb w) (i + 1) = zcnt (tb w) i + 1 := by rw [zcnt_s, if_pos ti]
    have hmo := zcnt_mono (tb w) (a := i + 1) n (by omega)
    obtain ⟨ye', no', e⟩ := co_loop hn E hY6 hi (2 ^ n) 0 5000 ye no (by omega) (by omega)
    refine ⟨ye', no', ?_⟩
    unfold sp_X6_countOf
    rw [show zcnt (fun v => sb kw v && (tb (Y v) 0 != tb (Y (xN v i)) 0)) 0 = 0 from rfl, nI_0] at e
    rw [e, zc_D (n := n) (fun v => tb (Y v) 0 != tb (Y (xN v i)) 0) (2 ^ n) (Nat.le_refl _), hM, ← sC_eq _ (show zcnt (tb w) i < m by omega)]
    congr 3
    apply zcnt_congr
    intro k _
    rw [← eb i, eD_x n kw i k hi (by rw [← tb_nI (by omega), ← h3]; exact ti)]
  have hkeep : ∀ kc ld laws, ∃ kc' ld' laws', sp_X5_keepLaws w (nI n) m_cutNow m_lasts o_parent o_kind o_number o_above kc ld laws = some (kc', ld', laws') ∧ lwI (fun k => tb (Y (eD n kw k)) 0) (2 ^ m) laws' := by
    intro kc ld laws
    obtain ⟨l0, f1, f2⟩ := fill26 laws
    unfold sp_X5_keepLaws
    rw [f1, ob_s, s1, ob_s, h4, mn_2048 hM2]
    have := kl_loop E hY5 hM2 (2 ^ m) 0 5000 kc ld l0 (by omega) (by omega) (fun j hj => by rw [f2 (j / 32) (by omega), tb_0, decide_eq_false (by omega), Bool.false_and])
    rw [h8, nI_0] at this
    exact this
  have hsw : ∀ laws', lwI (fun k => tb (Y (eD n kw k)) 0) (2 ^ m) laws' → ∀ j, j < 12 → sp_X5_swings w (nI j) laws' = some (nI (sC (fun k => tb (Y (eD n kw k)) 0) (2 ^ m) j)) := by
    intro laws' HL j hj
    have S := sw_loop hM2 hj HL (2 ^ m) 0 5000 (by omega) (by omega)
    rw [show 2 * zcnt (sH (fun k => tb (Y (eD n kw k)) 0) (2 ^ m) j) 0 = 0 from rfl, nI_0] at S
    unfold sp_X5_swings
    rw [h4, mn_2048 hM2, S]
  unfold sp_X5_counts sp_X6_counts
  rw [s1, ob_s, w1, ob_s, s2, ob_s, w2, ob_s]
  by_cases pm : p1 = -1
  · rw [if_pos pm, if_pos pm]
    obtain ⟨kc', ld', laws', e1, HL⟩ := hkeep o_kidCount o_lead x_laws
    obtain ⟨r, r1, r2⟩ := fa_loop hM2 hm11 h4 HL m 1 5000 (by omega) (by omega) (by omega)
    obtain ⟨r', y1, y2, r1', r2'⟩ := cf_loop hn hM2 hm hco n 0 5000 (-1) m_yes m_no (by omega) (by omega) (Or.inl ⟨rfl, rfl⟩)
    rw [nI_0] at r1'
    have hs0 := hsw laws' HL 0 (by omega)
    rw [nI_0] at hs0
    rw [e1, ob_s]
    unfold sp_X5_isFair
    rw [hs0, ob_s, bc_val hn hwn, ← hm, show nI 1 = (1 : Int32) from rfl] at *
    rw [r1, ob_s, r1']
    refine ⟨_, _, rfl, rfl, ?_, hR⟩
    show r = r'
    rcases r2 with ⟨a, b⟩ | ⟨a, j, b1, b2⟩
    · rcases r2' with ⟨a', b'⟩ | ⟨a', j', b1', b2'⟩
      · rw [a, a']
      · exfalso
        by_cases z : j' = 0
        · exact b2' (by rw [z])
        · exact b2' (b j' (by omega) b1')
    · rcases r2' with ⟨a', b'⟩ | ⟨a', j', b1', b2'⟩
      · exact absurd (b' j (Nat.zero_le _) b1) b2
      · rw [a, a']
  · rw [if_neg pm, if_neg pm]
    rcases node_c p1 hn1 hn with ⟨i, hi, rfl⟩ | hno
    · obtain ⟨r, r1, r2⟩ := nd1 hi hn
      rw [if_neg (has1 hi hn), r1, ob_s, if_neg r2]
      by_cases ti : tb w i = true
      · rw [if_neg (bit0n (by omega) ti), if_pos (shr1 (by omega) ti)]
        obtain ⟨kc', ld', laws', e1, HL⟩ := hkeep o_kidCount o_lead x_laws
        obtain ⟨ye', no', e2⟩ := hco i hi ti m_yes m_no
        have hzi := zcnt_le (tb w) i
        rw [e1, ob_s, rank_i hn hi hwn, hsw laws' HL _ (by omega), ob_s, e2, ob_s]
        exact ⟨_, _, rfl, rfl, rfl, hR⟩
      · rw [if_pos (bit0 (by omega) (tbf ti)), if_neg (shr1n (by omega) (tbf ti))]
        exact ⟨_, _, rfl, rfl, rfl, hR⟩
    · rw [if_pos (has0 hn1 hn hno), nd0 hn1 hn hno, ob_s, if_pos rfl]
      exact ⟨_, _, rfl, rfl, rfl, hR⟩
