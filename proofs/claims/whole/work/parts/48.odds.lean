/-! how sure a law is, which bough to prop -/
def odF (w x : Int32) (pc : Nat → Nat) : Nat → Nat → Nat → Nat
  | 0, _, acc => acc
  | k + 1, i, acc => odF w x pc k (i + 1) (if tb w i = true then acc * (if tb x i = true then pc i else 100 - pc i) else acc)
theorem od_id {w x : Int32} {pc : Nat → Nat} : ∀ (k i acc : Nat), (∀ j, i ≤ j → tb w j = false) → odF w x pc k i acc = acc := by
  intro k
  induction k with
  | zero => intro i acc _; rfl
  | succ k ih =>
    intro i acc h
    rw [odF, if_neg (by rw [h i (Nat.le_refl _)]; decide)]
    exact ih (i + 1) acc (fun j hj => h j (by omega))
theorem od_more {w x : Int32} {pc : Nat → Nat} {n : Nat} (h : ∀ j, n ≤ j → tb w j = false) (m : Nat) : ∀ (k i acc : Nat), n ≤ i + k → odF w x pc (k + m) i acc = odF w x pc k i acc := by
  intro k
  induction k with
  | zero => intro i acc hi; rw [Nat.zero_add, od_id m i acc (fun j hj => h j (by omega))]; rfl
  | succ k ih =>
    intro i acc hi
    rw [show k + 1 + m = (k + m) + 1 by omega, odF, odF, ih (i + 1) _ (by omega)]
theorem od_le {w x : Int32} {pc : Nat → Nat} (hp : ∀ i, tb w i = true → pc i ≤ 100) : ∀ (k i acc : Nat), odF w x pc k i acc ≤ acc * 100 ^ (zcnt (tb w) (i + k) - zcnt (tb w) i) := by
  intro k
  induction k with
  | zero => intro i acc; rw [odF, Nat.add_zero, Nat.sub_self]; omega
  | succ k ih =>
    intro i acc
    have I := ih (i + 1) (if tb w i = true then acc * (if tb x i = true then pc i else 100 - pc i) else acc)
    rw [odF]
    have hm := zcnt_mono (tb w) (a := i + 1) (i + 1 + k) (by omega)
    rw [show i + (k + 1) = i + 1 + k by omega]
    by_cases t : tb w i = true
    · have hz : zcnt (tb w) (i + 1) = zcnt (tb w) i + 1 := by rw [zcnt_s, if_pos t]
      have h100 : (if tb x i = true then pc i else 100 - pc i) ≤ 100 := by
        have := hp i t
        by_cases y : tb x i = true
        · rw [if_pos y]; exact this
        · rw [if_neg y]; omega
      rw [if_pos t] at I ⊢
      refine Nat.le_trans I ?_
      have e : 100 ^ (zcnt (tb w) (i + 1 + k) - zcnt (tb w) i) = 100 * 100 ^ (zcnt (tb w) (i + 1 + k) - zcnt (tb w) (i + 1)) := by
        rw [← Nat.pow_succ', show zcnt (tb w) (i + 1 + k) - zcnt (tb w) i = (zcnt (tb w) (i + 1 + k) - zcnt (tb w) (i + 1)).succ by omega]
      rw [e, ← Nat.mul_assoc]
      exact Nat.mul_le_mul_right _ (Nat.mul_le_mul_left _ h100)
    · have hz : zcnt (tb w) (i + 1) = zcnt (tb w) i := by rw [zcnt_s, if_neg t, Nat.add_zero]
      rw [if_neg t] at I ⊢
      rw [hz] at I
      exact I
theorem h100 {p : Nat} (h : p ≤ 100) : Int32.toInt64 (100 - nI p) = lN (100 - p) := by
  have : (100 : Int32) - nI p = nI (100 - p) := pk_sub (a := 100) h
  rw [this, nI_l (by omega)]
theorem od_p24 {w x : Int32} {pc : Nat → Nat} {px : Nat → Int32} (hp : ∀ i, i < 12 → tb w i = true → pc i ≤ 100 ∧ px i = nI (pc i)) : ∀ (k i fuel acc : Nat), i + k = 12 → k + 1 ≤ fuel → sp_X5_oddsOf_p24_5 x w px fuel (lN acc) (nI i) = some (lN (odF w x pc k i acc)) := by
  intro k
  induction k with
  | zero =>
    intro i fuel acc hi hf
    obtain ⟨m, rfl⟩ : ∃ m, fuel = m + 1 := ⟨fuel - 1, by omega⟩
    have : i = 12 := by omega
    subst this
    rw [sp_X5_oddsOf_p24_5, if_pos (by decide)]; rfl
  | succ k ih =>
    intro i fuel acc hi hf
    obtain ⟨m, rfl⟩ : ∃ m, fuel = m + 1 := ⟨fuel - 1, by omega⟩
    rw [sp_X5_oddsOf_p24_5, if_neg (show ¬ (12 : Int32) ≤ nI i from nI_ge (b := 12) (by omega) (by decide)), nI_1, odF]
    by_cases t : tb w i = true
    · obtain ⟨p1, p2⟩ := hp i (by omega) t
      rw [if_pos (bit1 (by omega) t), if_pos t]
      by_cases y : tb x i = true
      · rw [if_pos (bit1 (by omega) y), if_pos y, xo_at_nI (by omega) lt31, ob_s, p2, nI_l (by omega), lN_mul]
        exact ih (i + 1) m _ (by omega) (by omega)
      · rw [if_neg (bit1n (by omega) (tbf y)), if_neg y, xo_at_nI (by omega) lt31, ob_s, p2, h100 p1, lN_mul]
        exact ih (i + 1) m _ (by omega) (by omega)
    · rw [if_neg (bit1n (by omega) (tbf t)), if_neg t]
      exact ih (i + 1) m _ (by omega) (by omega)
theorem od_p5 {w x : Int32} {pc : Nat → Nat} {px : Nat → Int32} (hp : ∀ i, i < 12 → tb w i = true → pc i ≤ 100 ∧ px i = nI (pc i)) : ∀ (k i fuel acc : Nat), i + k = 12 → k + 1 ≤ fuel → sp_X5_oddsOf_p5_5 x w px fuel (lN acc) (nI i) = some (lN (odF w x pc k i acc)) := by
  intro k
  induction k with
  | zero =>
    intro i fuel acc hi hf
    obtain ⟨m, rfl⟩ : ∃ m, fuel = m + 1 := ⟨fuel - 1, by omega⟩
    have : i = 12 := by omega
    subst this
    rw [sp_X5_oddsOf_p5_5, if_pos (by decide)]; rfl
  | succ k ih =>
    intro i fuel acc hi hf
    obtain ⟨m, rfl⟩ : ∃ m, fuel = m + 1 := ⟨fuel - 1, by omega⟩
    rw [sp_X5_oddsOf_p5_5, if_neg (show ¬ (12 : Int32) ≤ nI i from nI_ge (b := 12) (by omega) (by decide)), nI_1, odF]
    by_cases t : tb w i = true
    · obtain ⟨p1, p2⟩ := hp i (by omega) t
      rw [if_pos (bit1 (by omega) t), if_pos t]
      by_cases y : tb x i = true
      · rw [if_pos (bit1 (by omega) y), if_pos y, xo_at_nI (by omega) lt31, ob_s, p2, nI_l (by omega), lN_mul]
        exact ih (i + 1) m _ (by omega) (by omega)
      · rw [if_neg (bit1n (by omega) (tbf y)), if_neg y, xo_at_nI (by omega) lt31, ob_s, p2, h100 p1, lN_mul]
        exact ih (i + 1) m _ (by omega) (by omega)
    · rw [if_neg (bit1n (by omega) (tbf t)), if_neg t]
      exact ih (i + 1) m _ (by omega) (by omega)
theorem od_6 {n : Nat} (hn : n ≤ 12) {k0 : Int64 → Int32 → (Nat → Int32) → (Nat → Int32) → Option (Int64 × (Nat → Int32) × (Nat → Int32))} {w x u2 u3 la g : Int32} {u4 : Int64} {mP mK mN pm : Nat → Int32} {pc : Nat → Nat} (hp : ∀ i, i < n → tb w i = true → pc i ≤ 100 ∧ pm i = nI (pc i)) : ∀ (k i fuel acc : Nat) (ye no : Nat → Int32), i + k = n → k + 1 ≤ fuel → sp_X6_allBy_68 k0 w u2 u3 u4 x (nI n) la g mP mK mN pm fuel (lN acc) (nI i) ye no = k0 (lN (odF w x pc k i acc)) (nI n) ye no := by
  intro k
  induction k with
  | zero =>
    intro i fuel acc ye no hi hf
    obtain ⟨m, rfl⟩ : ∃ m, fuel = m + 1 := ⟨fuel - 1, by omega⟩
    have : i = n := by omega
    subst this
    rw [sp_X6_allBy_68, if_pos (nI_le (Nat.le_refl _) (by omega))]; rfl
  | succ k ih =>
    intro i fuel acc ye no hi hf
    obtain ⟨m, rfl⟩ : ∃ m, fuel = m + 1 := ⟨fuel - 1, by omega⟩
    rw [sp_X6_allBy_68, if_neg (nI_ge (by omega) (by omega)), nI_1, odF]
    by_cases t : tb w i = true
    · obtain ⟨p1, p2⟩ := hp i (by omega) t
      rw [if_pos (shr1 (by omega) t), if_pos t]
      by_cases y : tb x i = true
      · rw [if_pos (shr1 (by omega) y), if_pos y, xo_at_nI (by omega) lt31, ob_s, p2, nI_l (by omega), lN_mul]
        exact ih (i + 1) m _ _ _ (by omega) (by omega)
      · rw [if_neg (shr1n (by omega) (tbf y)), if_neg y, xo_at_nI (by omega) lt31, ob_s, p2, h100 p1, lN_mul]
        exact ih (i + 1) m _ _ _ (by omega) (by omega)
    · rw [if_neg (shr1n (by omega) (tbf t)), if_neg t]
      exact ih (i + 1) m _ _ _ (by omega) (by omega)
theorem lc_0 {W : Nat} (hW : W < 2 ^ 63) : lg_cmp (lN W) 0 ≤ 0 ↔ W = 0 := by
  rw [lg_cmp_le]
  constructor
  · intro h
    by_cases z : W = 0
    · exact z
    · have lt : (0 : Int64) < lN W := (pk_lLT (a := 0) (by decide) hW).mpr (by omega)
      have a := Int64.le_iff_toInt_le.mp h
      have b := Int64.lt_iff_toInt_lt.mp lt
      omega
  · intro h
    subst h
    exact Int64.le_iff_toInt_le.mpr (Int.le_refl _)
/-- the weight of a set, of at most 8 -/
theorem od_both {n : Nat} (hn : n ≤ 12) {w : Int32} (hw : ∀ i, tb w i = true → i < n) (h8 : zcnt (tb w) n ≤ 8) {pc : Nat → Nat} (hpc : ∀ i, tb w i = true → pc i ≤ 100) (x : Int32) : odF w x pc 12 0 1 = odF w x pc n 0 1 ∧ odF w x pc n 0 1 ≤ 10 ^ 16 := by
  constructor
  · have := od_more (w := w) (x := x) (pc := pc) (n := n) (fun j hj => tbf (fun q => by have := hw j q; omega)) (12 - n) n 0 1 (by omega)
    rw [show n + (12 - n) = 12 by omega] at this
    exact this
  · have := od_le (x := x) hpc n 0 1
    rw [Nat.zero_add, Nat.one_mul, show zcnt (tb w) 0 = 0 from rfl, Nat.sub_zero] at this
    have h2 : (100 : Nat) ^ (zcnt (tb w) n) ≤ 100 ^ 8 := Nat.pow_le_pow_right (by decide) h8
    have h3 : (100 : Nat) ^ 8 = 10 ^ 16 := by decide
    omega
theorem ek_8 {n k : Nat} {w : Int32} (hn : n ≤ 12) (E : enP n k w) (h8 : zcnt (tb w) n ≤ 8) : eK k (2 ^ n) ≤ 256 := by
  obtain ⟨h1, h2, h3, h4, h5, h6, h7, h8', h9, h10, h11⟩ := E
  rw [eK_full n k h1]
  have e : zcnt (fun i => k.testBit i) n = zcnt (tb w) n := zcnt_congr n (fun j _ => by rw [h3, tb_nI (by omega)])
  rw [e]
  have : (2 : Nat) ^ (zcnt (tb w) n) ≤ 2 ^ 8 := Nat.pow_le_pow_right (by decide) h8
  omega
theorem su1 {S a k M : Nat} (h : a = k) (j : S ≤ a * M) : S ≤ (k + 1) * M := by
  subst h
  exact Nat.le_trans j (Nat.mul_le_mul_right _ (Nat.le_succ _))
theorem su2 {S W a k M : Nat} (h : a = k) (j : S ≤ a * M) (w : W ≤ M) : S + W ≤ (k + 1) * M := by
  subst h
  rw [Nat.succ_mul]
  exact Nat.add_le_add j w
def suI (a : Nat × Int64 × (Nat → Int32) × (Nat → Int32)) (b : Int64 × (Nat → Int32) × (Nat → Int32)) : Prop := ∃ S, S ≤ a.1 * 10 ^ 16 ∧ a.2.1 = lN S ∧ b.1 = lN S
theorem so_sim {n : Nat} {par : Nat → Nat} {oP oA mP oK oN mK mN : Nat → Int32} (T : TR n par oP oA mP) (K : KN n oK oN mK mN) {g w : Int32} (mi la : Int32) (g0 : tb g 0 = false) (w0 : tb w 0 = false) (v : Int32) {k : Nat} (E : enP n k w) (hw : ∀ i, tb w i = true → i < n) (h8 : zcnt (tb w) n ≤ 8) {pc : Nat → Nat} {px pm : Nat → Int32} (hp : ∀ i, tb w i = true → pc i ≤ 100 ∧ px i = nI (pc i) ∧ pm i = nI (pc i)) (kc ld ye no : Nat → Int32) : ∃ S a b a' b', S ≤ 256 * 10 ^ 16 ∧ sp_X5_stormOdds_14 w v (sp_X5_waysOf w) (nI n) g mi la oP oK oN oA px 5000 0 0 0 kc ld = some (lN S, a, b) ∧ sp_X6_allBy_6 w 1 v (nI n) mi la g mP mK mN pm 5000 0 0 ye no = some (lN S, a', b') := by
  have hn := T.2.1
  obtain ⟨h1, h2, h3, h4, h5, h6, h7, h8', h9, h10, h11⟩ := id E
  have e256 := ek_8 hn E h8
  rw [h4]
  have H := en_sim (A := Nat × Int64 × (Nat → Int32) × (Nat → Int32)) (B := Int64 × (Nat → Int32) × (Nat → Int32)) E suI (fun f1 k' set a f2 u b => a.1 = k' → ∃ S c d c' d', S ≤ 256 * 10 ^ 16 ∧ sp_X5_stormOdds_14 w v (nI (eK k (2 ^ n))) (nI n) g mi la oP oK oN oA px f1 a.2.1 (nI set) (nI k') a.2.2.1 a.2.2.2 = some (lN S, c, d) ∧ sp_X6_allBy_6 w 1 v (nI n) mi la g mP mK mN pm f2 b.1 (nI u) b.2.1 b.2.2 = some (lN S, c', d'))
    (by
      intro f1 f2 set a b hI ha
      obtain ⟨S, j1, j2, j3⟩ := hI
      rw [ha] at j1
      have : eK k (2 ^ n) * 10 ^ 16 ≤ 256 * 10 ^ 16 := Nat.mul_le_mul_right _ e256
      rw [sp_X5_stormOdds_14, if_pos (nI_le (Nat.le_refl _) (by omega)), sp_X6_allBy_6, h11, if_pos (nI_le (Nat.le_refl _) (by omega)), j2, j3]
      exact ⟨S, _, _, _, _, Nat.le_trans j1 this, rfl, rfl⟩)
    (by
      intro f1 f2 k' set a u b hu hs hI h ha
      rw [sp_X6_allBy_6, h11, if_neg (nI_ge hu (by omega)), if_neg (fun q => by have := (h7 u hu).mp q; rw [hs] at this; exact absurd this (by decide)), nI_1]
      exact h ha)
    (by
      intro f1 f2 k' a u b hu hs hk hk2 hnx hI h ha
      obtain ⟨S, j1, j2, j3⟩ := hI
      have hsub := (h7 u hu).mpr hs
      obtain ⟨q1, q2⟩ := od_both hn hw h8 (fun i t => (hp i t).1) (nI u)
      have o5 : sp_X5_oddsOf_p24 (nI u) w px = some (lN (odF w (nI u) pc n 0 1)) := by
        have := od_p24 (x := nI u) (w := w) (pc := pc) (px := px) (fun i _ t => ⟨(hp i t).1, (hp i t).2.1⟩) 12 0 5000 1 (by omega) (by omega)
        rw [q1, nI_0] at this
        exact this
      rw [sp_X5_stormOdds_14, if_neg (nI_ge hk (by omega)), sp_X6_allBy_6, h11, if_neg (nI_ge hu (by omega)), if_pos hsub, if_neg one0, hnx, nI_1, nI_1]
      have c2 : tb (nI u) 0 = false := tbf (fun q => by have := sub_tb hsub q; rw [w0] at this; exact absurd this (by decide))
      obtain ⟨s', L, l1, l2, l3, l4, l5⟩ := law_both T K g (nI u) mi la g0 c2
      obtain ⟨ye1, no1, e2⟩ := l5 b.2.1 b.2.2
      have O6 : ∀ (k0 : Int64 → Int32 → (Nat → Int32) → (Nat → Int32) → Option (Int64 × (Nat → Int32) × (Nat → Int32))), sp_X6_allBy_68 k0 w 1 v b.1 (nI u) (nI n) la g mP mK mN pm 5000 1 0 ye1 no1 = k0 (lN (odF w (nI u) pc n 0 1)) (nI n) ye1 no1 := fun k0 => od_6 hn (fun i _ t => ⟨(hp i t).1, (hp i t).2.2⟩) n 0 5000 1 ye1 no1 (by omega) (by omega)
      rw [o5, ob_s, e2, ob_s]
      dsimp only
      by_cases z : odF w (nI u) pc n 0 1 = 0
      · rw [if_pos ((lc_0 (by omega)).mpr z)]
        by_cases hv : bI L = v
        · rw [if_pos hv, O6, z, j3, lN_add, Nat.add_zero, j2]
          exact h (k' + 1, lN S, a.2.2.1, a.2.2.2) (lN S, ye1, no1) ⟨S, su1 ha j1, rfl, rfl⟩ rfl
        · rw [if_neg hv, j2, j3]
          exact h (k' + 1, lN S, a.2.2.1, a.2.2.2) (lN S, ye1, no1) ⟨S, su1 ha j1, rfl, rfl⟩ rfl
      · rw [if_neg (fun q => z ((lc_0 (by omega)).mp q))]
        obtain ⟨Y, kc1, ld1, e1, e1'⟩ := l4 a.2.2.1 a.2.2.2
        unfold sp_X5_lawIfCut
        rw [l1, ob_s, e1, ob_s, ob_s, e1']
        by_cases hv : bI L = v
        · rw [if_pos hv, if_pos hv, O6, j2, j3, lN_add]
          exact h (k' + 1, lN (S + odF w (nI u) pc n 0 1), kc1, ld1) (lN (S + odF w (nI u) pc n 0 1), ye1, no1) ⟨_, su2 ha j1 q2, rfl, rfl⟩ rfl
        · rw [if_neg hv, if_neg hv, j2, j3]
          exact h (k' + 1, lN S, kc1, ld1) (lN S, ye1, no1) ⟨S, su1 ha j1, rfl, rfl⟩ rfl)
    (0, 0, kc, ld) (0, ye, no) ⟨0, by omega, rfl, rfl⟩ rfl
  rw [nI_0] at H
  exact H
theorem md_sim {n : Nat} {par : Nat → Nat} {oP oA mP oK oN mK mN : Nat → Int32} (T : TR n par oP oA mP) (K : KN n oK oN mK mN) {g s w : Int32} (mi la : Int32) (s2 : sp_X6_standing g (nI n) mP = some s) (s4 : tb s 0 = true) {k : Nat} (E : enP n k w) (hw : ∀ i, tb w i = true → i < n) (h8 : zcnt (tb w) n ≤ 8) {pc : Nat → Nat} {px pm : Nat → Int32} (hp : ∀ i, tb w i = true → pc i ≤ 100 ∧ px i = nI (pc i) ∧ pm i = nI (pc i)) (kc ld ye no : Nat → Int32) : ∃ S a b a' b', S ≤ 256 * 10 ^ 16 ∧ sp_X5_mindOdds_14 s w (sp_X5_waysOf w) (nI n) la oP oK oN px 5000 0 0 0 kc ld = some (lN S, a, b) ∧ sp_X6_allBy_6 w 0 1 (nI n) mi la g mP mK mN pm 5000 0 0 ye no = some (lN S, a', b') := by
  have hn := T.2.1
  obtain ⟨h1, h2, h3, h4, h5, h6, h7, h8', h9, h10, h11⟩ := id E
  have e256 := ek_8 hn E h8
  rw [h4]
  have H := en_sim (A := Nat × Int64 × (Nat → Int32) × (Nat → Int32)) (B := Int64 × (Nat → Int32) × (Nat → Int32)) E suI (fun f1 k' set a f2 u b => a.1 = k' → ∃ S c d c' d', S ≤ 256 * 10 ^ 16 ∧ sp_X5_mindOdds_14 s w (nI (eK k (2 ^ n))) (nI n) la oP oK oN px f1 a.2.1 (nI set) (nI k') a.2.2.1 a.2.2.2 = some (lN S, c, d) ∧ sp_X6_allBy_6 w 0 1 (nI n) mi la g mP mK mN pm f2 b.1 (nI u) b.2.1 b.2.2 = some (lN S, c', d'))
    (by
      intro f1 f2 set a b hI ha
      obtain ⟨S, j1, j2, j3⟩ := hI
      rw [ha] at j1
      have : eK k (2 ^ n) * 10 ^ 16 ≤ 256 * 10 ^ 16 := Nat.mul_le_mul_right _ e256
      rw [sp_X5_mindOdds_14, if_pos (nI_le (Nat.le_refl _) (by omega)), sp_X6_allBy_6, h11, if_pos (nI_le (Nat.le_refl _) (by omega)), j2, j3]
      exact ⟨S, _, _, _, _, Nat.le_trans j1 this, rfl, rfl⟩)
    (by
      intro f1 f2 k' set a u b hu hs hI h ha
      rw [sp_X6_allBy_6, h11, if_neg (nI_ge hu (by omega)), if_neg (fun q => by have := (h7 u hu).mp q; rw [hs] at this; exact absurd this (by decide)), nI_1]
      exact h ha)
    (by
      intro f1 f2 k' a u b hu hs hk hk2 hnx hI h ha
      obtain ⟨S, j1, j2, j3⟩ := hI
      have hsub := (h7 u hu).mpr hs
      obtain ⟨q1, q2⟩ := od_both hn hw h8 (fun i t => (hp i t).1) (nI u)
      have o5 : sp_X5_oddsOf_p5 (nI u) w px = some (lN (odF w (nI u) pc n 0 1)) := by
        have := od_p5 (x := nI u) (w := w) (pc := pc) (px := px) (fun i _ t => ⟨(hp i t).1, (hp i t).2.1⟩) 12 0 5000 1 (by omega) (by omega)
        rw [q1, nI_0] at this
        exact this
      rw [sp_X5_mindOdds_14, if_neg (nI_ge hk (by omega)), sp_X6_allBy_6, h11, if_neg (nI_ge hu (by omega)), if_pos hsub, if_pos rfl, hnx, nI_1, nI_1]
      obtain ⟨Y, v1, v2, v3⟩ := vote_both T K s (nI u) la s4
      obtain ⟨kc1, ld1, e1⟩ := v1 a.2.2.1 a.2.2.2
      obtain ⟨ye1, no1, e2'⟩ := v2 b.2.1 b.2.2
      have e2 : sp_X6_lawOf g (nI u) (nI n) la mP mK mN b.2.1 b.2.2 = some (bI (tb Y 0), ye1, no1) := by
        unfold sp_X6_lawOf
        rw [s2, ob_s, e2', ob_s, and_1]
      have O6 : ∀ (k0 : Int64 → Int32 → (Nat → Int32) → (Nat → Int32) → Option (Int64 × (Nat → Int32) × (Nat → Int32))), sp_X6_allBy_68 k0 w 0 1 b.1 (nI u) (nI n) la g mP mK mN pm 5000 1 0 ye1 no1 = k0 (lN (odF w (nI u) pc n 0 1)) (nI n) ye1 no1 := fun k0 => od_6 hn (fun i _ t => ⟨(hp i t).1, (hp i t).2.2⟩) n 0 5000 1 ye1 no1 (by omega) (by omega)
      rw [e1, ob_s, e2, ob_s]
      dsimp only
      rw [bit_z, and_1]
      cases tb Y 0
      · rw [if_neg (show ¬ bI false = 1 by decide), if_neg (show ¬ bI false = 1 by decide), j2, j3]
        exact h (k' + 1, lN S, kc1, ld1) (lN S, ye1, no1) ⟨S, su1 ha j1, rfl, rfl⟩ rfl
      · rw [if_pos (show bI true = 1 from rfl), if_pos (show bI true = 1 from rfl), o5, ob_s, O6, j2, j3, lN_add]
        exact h (k' + 1, lN (S + odF w (nI u) pc n 0 1), kc1, ld1) (lN (S + odF w (nI u) pc n 0 1), ye1, no1) ⟨_, su2 ha j1 q2, rfl, rfl⟩ rfl)
    (0, 0, kc, ld) (0, ye, no) ⟨0, by omega, rfl, rfl⟩ rfl
  rw [nI_0] at H
  exact H
theorem hu_5 {c : Nat} (hc : c ≤ 12) : ∀ (k i fuel acc : Nat), i + k = c → k + 1 ≤ fuel → sp_X5_hundreds_10 (nI c) fuel (lN acc) (nI i) = some (lN (acc * 100 ^ k)) := by
  intro k
  induction k with
  | zero =>
    intro i fuel acc hi hf
    obtain ⟨m, rfl⟩ : ∃ m, fuel = m + 1 := ⟨fuel - 1, by omega⟩
    rw [sp_X5_hundreds_10, if_pos (nI_le (by omega) (by omega)), Nat.pow_zero, Nat.mul_one]
  | succ k ih =>
    intro i fuel acc hi hf
    obtain ⟨m, rfl⟩ : ∃ m, fuel = m + 1 := ⟨fuel - 1, by omega⟩
    rw [sp_X5_hundreds_10, if_neg (nI_ge (by omega) (by omega)), nI_1, show lN acc * 100 = lN (acc * 100) from lN_mul acc 100, ih (i + 1) m _ (by omega) (by omega), Nat.pow_succ', Nat.mul_assoc]
theorem hu_6 {c : Nat} (hc : c ≤ 12) : ∀ (k i fuel acc : Nat), i + k = c → k + 1 ≤ fuel → sp_X6_hundreds_4 (nI c) fuel (lN acc) (nI i) = some (lN (acc * 100 ^ k)) := by
  intro k
  induction k with
  | zero =>
    intro i fuel acc hi hf
    obtain ⟨m, rfl⟩ : ∃ m, fuel = m + 1 := ⟨fuel - 1, by omega⟩
    rw [sp_X6_hundreds_4, if_pos (nI_le (by omega) (by omega)), Nat.pow_zero, Nat.mul_one]
  | succ k ih =>
    intro i fuel acc hi hf
    obtain ⟨m, rfl⟩ : ∃ m, fuel = m + 1 := ⟨fuel - 1, by omega⟩
    rw [sp_X6_hundreds_4, if_neg (nI_ge (by omega) (by omega)), nI_1, show lN acc * 100 = lN (acc * 100) from lN_mul acc 100, ih (i + 1) m _ (by omega) (by omega), Nat.pow_succ', Nat.mul_assoc]
theorem hu_both {n : Nat} (hn : n ≤ 12) {w : Int32} (hw : ∀ i, tb w i = true → i < n) : sp_X5_hundreds w = some (lN (100 ^ zcnt (tb w) n)) ∧ sp_X6_hundreds (sp_J6_bitCount_0f7a4 w) = some (lN (100 ^ zcnt (tb w) n)) := by
  have hz := zcnt_le (tb w) n
  have a := hu_5 (c := zcnt (tb w) n) (by omega) (zcnt (tb w) n) 0 5000 1 (by omega) (by omega)
  have b := hu_6 (c := zcnt (tb w) n) (by omega) (zcnt (tb w) n) 0 5000 1 (by omega) (by omega)
  rw [nI_0, Nat.one_mul] at a b
  unfold sp_X5_hundreds sp_X6_hundreds
  rw [bc_val hn hw]
  exact ⟨a, b⟩
theorem bo_loop {n : Nat} {par : Nat → Nat} {oP oA mP : Nat → Int32} (T : TR n par oP oA mP) {s : Int32} : ∀ (k i fuel : Nat) (x : Int32), i + k = n → 1 ≤ i → k + 1 ≤ fuel → (∀ l, tb x l = (decide (l < i) && kid par s 0 l)) → ∃ y, sp_X6_boughs_13 s (nI n) mP fuel x (nI i) = some y ∧ ∀ l, tb y l = (decide (l < n) && kid par s 0 l) := by
  have hn := T.2.1
  intro k
  induction k with
  | zero =>
    intro i fuel x hi h1 hf h
    obtain ⟨m, rfl⟩ : ∃ m, fuel = m + 1 := ⟨fuel - 1, by omega⟩
    have : i = n := by omega
    subst this
    rw [sp_X6_boughs_13, if_pos (nI_le (Nat.le_refl _) (by omega))]
    exact ⟨x, rfl, h⟩
  | succ k ih =>
    intro i fuel x hi h1 hf h
    obtain ⟨m, rfl⟩ : ∃ m, fuel = m + 1 := ⟨fuel - 1, by omega⟩
    obtain ⟨q1, q2, q3, q4⟩ := T.2.2.2 i h1 (by omega)
    have step : ∀ b : Bool, b = kid par s 0 i → ∃ y, sp_X6_boughs_13 s (nI n) mP m (x ||| xi_shl (bI b) (nI i)) (nI (i + 1)) = some y ∧ ∀ l, tb y l = (decide (l < n) && kid par s 0 l) := by
      intro b hb
      refine ih (i + 1) m _ (by omega) (by omega) (by omega) (fun l => ?_)
      rw [tb_or, tb_bIs b (by omega), h l, hb]
      by_cases e : l = i
      · subst e
        rw [decide_eq_false (by omega), decide_eq_true rfl, decide_eq_true (by omega)]
        cases kid par s 0 l <;> rfl
      · rw [decide_eq_false e, dlt e]
        cases (decide (l < i) && kid par s 0 l) <;> rfl
    rw [sp_X6_boughs_13, if_neg (nI_ge (by omega) (by omega)), xo_at_nI (by omega) lt31, ob_s, q3, nI_1]
    by_cases p0 : par i = 0
    · rw [if_pos (show nI (par i) = 0 by rw [p0]; rfl)]
      by_cases t : tb s i = true
      · rw [if_pos (shr1 (by omega) t)]
        exact step true (by unfold kid; rw [t, p0, decide_eq_true h1]; rfl)
      · rw [if_neg (shr1n (by omega) (tbf t))]
        exact step false (by unfold kid; rw [tbf t]; rfl)
    · rw [if_neg (show ¬ nI (par i) = (0 : Int32) from fun q => p0 ((nI_eq (b := 0) (by omega) (by decide)).mp q))]
      exact step false (by unfold kid; rw [decide_eq_false p0]; simp)
theorem bo_both {n : Nat} {par : Nat → Nat} {oP oA mP : Nat → Int32} (T : TR n par oP oA mP) {g s : Int32} (s2 : sp_X6_standing g (nI n) mP = some s) : ∃ y, sp_X1_kidSet 0 s (nI n) oP = some y ∧ sp_X6_boughs (nI n) g mP = some y ∧ (∀ l, tb y l = (decide (l < n) && kid par s 0 l)) ∧ (∀ i, tb y i = true → i < n ∧ 1 ≤ i) := by
  have hn := T.2.1
  have hn1 := T.1
  obtain ⟨y, y1, y2⟩ := ks1 T s (i := 0) (by omega)
  obtain ⟨z, z1, z2⟩ := bo_loop T (s := s) (n - 1) 1 5000 0 (by omega) (by omega) (by omega) (fun l => by
    rw [tb_0]
    by_cases e : l = 0
    · subst e; unfold kid; simp
    · rw [decide_eq_false (by omega)]; rfl)
  have e : z = y := tb_ext (fun i _ => by rw [z2, y2])
  subst e
  refine ⟨z, y1, ?_, y2, fun i h => ?_⟩
  · unfold sp_X6_boughs
    rw [s2, ob_s]
    exact z1
  · rw [y2 i, Bool.and_eq_true] at h
    refine ⟨of_decide_eq_true h.1, ?_⟩
    have h2 := h.2
    unfold kid at h2
    rw [Bool.and_eq_true, Bool.and_eq_true] at h2
    exact of_decide_eq_true h2.2.1
theorem su_loop {n : Nat} (hn : n ≤ 12) {p2 w mi la g : Int32} {mP mK mN od : Nat → Int32} (aN aD aK aT aL aY b1 b2 b3 b4 b5 b6 b7 b8 : Int32) (tw : Int64) (ye no : Nat → Int32) : ∀ (k i fuel : Nat) (pm : Nat → Int32), i + k = n → k + 1 ≤ fuel → (∀ j, j < i → pm j = od j) → ∃ pm', (∀ j, j < n → pm' j = od j) ∧ sp_X6_sure_70 0 p2 w (nI n) mi la g mP mK mN od fuel (nI i) aN aD aK aT aL aY b1 b2 b3 b4 b5 b6 b7 b8 tw ye no pm = (sp_X6_allBy w 0 1 (nI n) mi la g mP mK mN ye no pm').bind fun r4 => (sp_X6_bitsOf w).bind fun r5 => (sp_X6_hundreds r5).bind fun r6 => (sp_X6_lowest r4.1 r6 p2).bind fun r7 => some (r7, aN, aD, aK, aT, aL, aY, b1, b2, b3, b4, b5, b6, b7, b8, tw, r4.2.1, r4.2.2, pm') := by
  intro k
  induction k with
  | zero =>
    intro i fuel pm hi hf h
    obtain ⟨m, rfl⟩ : ∃ m, fuel = m + 1 := ⟨fuel - 1, by omega⟩
    have : i = n := by omega
    subst this
    refine ⟨pm, h, ?_⟩
    rw [sp_X6_sure_70, if_pos (nI_le (Nat.le_refl _) (by omega)), if_neg (show ¬ (0 : Int32) = 1 by decide)]
  | succ k ih =>
    intro i fuel pm hi hf h
    obtain ⟨m, rfl⟩ : ∃ m, fuel = m + 1 := ⟨fuel - 1, by omega⟩
    rw [sp_X6_sure_70, if_neg (nI_ge (by omega) (by omega)), if_pos rfl, xo_at_nI (by omega) lt31, ob_s, xo_set_nI (by omega) lt31, ob_s, nI_1]
    refine ih (i + 1) m _ (by omega) (by omega) (fun j hj => ?_)
    by_cases e : j = i
    · subst e; rw [pk_us]
    · rw [pk_un e]; exact h j (by omega)
theorem le8 {n : Nat} (hn : n ≤ 12) {w : Int32} (hw : ∀ i, tb w i = true → i < n) : sp_J6_bitCount_0f7a4 w ≤ 8 ↔ zcnt (tb w) n ≤ 8 := by
  have hz := zcnt_le (tb w) n
  rw [bc_val hn hw]
  exact nI_leI (b := 8) (by omega) (by decide)
theorem q_sure : op_sure RRv := by
  intro o_size o_year o_gone o_minds o_lasts r_size r_token r_place r_at r_open r_made t_size t_rule i_there i_rule i_size i_year i_gone i_minds i_lasts o_parent o_kind o_number o_odds o_above o_kidCount o_lead r_tape r_steps r_ends t_steps t_ends t_stack s_sort s_size s_items i_number i_odds x_prices x_facts x_laws x_clues m_thrown m_textCount m_rule m_taped m_n m_minds m_lasts m_cutNow m_year m_ofNode m_ofDepth m_ofKids m_ofTwigs m_ofLast m_ofYear m_from m_size m_here m_token m_tokenAt m_open m_bad m_fault m_nKept m_mindsKept m_lastsKept m_cutKept m_yearKept m_ruleKept m_tokenWorth m_texts m_textSize m_tape m_parents m_kinds m_numbers m_odds m_yes m_no m_prices m_numbersKept m_oddsKept m_isThere m_sorts m_sheetSize m_items hR p1 p2
  obtain ⟨n, t, hT, hP, hX, hI, hS⟩ := id hR
  obtain ⟨par, rfl, rfl, T, K, rfl, rfl, rfl, rfl, g0, pz, hO, hy, hg⟩ := rt_open hT
  obtain ⟨x1, x2, x3, x4, ⟨u, hu, rfl, rfl⟩, x5⟩ := hX
  have hn := T.2.1
  have hn1 := T.1
  obtain ⟨s, s1, s2, s3, s4⟩ := st_now T m_cutNow g0
  obtain ⟨w, w1, w2, w3⟩ := twigs_both T (st_bd s3)
  have wb := tw_bd (st_bd s3) w3
  have a5 : sp_X5_isIn p1 0 1 = 0 ↔ ¬ inI p1 0 (1 : Nat) := by rw [in5]; rfl
  have a6 : sp_X6_in (Int32.toInt64 p1) 0 1 = 0 ↔ ¬ inI p1 0 (1 : Nat) := by rw [in6]; rfl
  have b5 : sp_X5_isIn p2 0 1 = 0 ↔ ¬ inI p2 0 (1 : Nat) := by rw [in5]; rfl
  have b6 : sp_X6_in (Int32.toInt64 p2) 0 1 = 0 ↔ ¬ inI p2 0 (1 : Nat) := by rw [in6]; rfl
  unfold sp_X5_sure sp_X6_sure
  by_cases h1 : inI p1 0 (1 : Nat)
  · rw [if_neg (fun g => a5.mp g h1), if_neg (fun g => a6.mp g h1)]
    by_cases h2 : inI p2 0 (1 : Nat)
    · rw [if_neg (fun g => b5.mp g h2), if_neg (fun g => b6.mp g h2)]
      obtain ⟨pc, q1, q2, q3⟩ := prices_of (la := m_lasts) (yr := m_year) T s2 w1 w3 (x5 u hu) (show 1 < 3 by omega)
      obtain ⟨L, hL, rfl⟩ := inI_nI h1 (by decide)
      have L01 : L = 0 ∨ L = 1 := by omega
      rcases L01 with rfl | rfl
      · have hwn : ∀ i, tb w i = true → i < n := fun i h => (wb i h).1
        rw [nI_0, s1, ob_s, if_pos rfl, if_pos rfl, w1, ob_s, s2, ob_s, w2, ob_s, bc_both hn hwn, ob_s]
        by_cases h8 : zcnt (tb w) n ≤ 8
        · rw [if_pos ((le8 hn hwn).mpr h8), if_pos ((le8 hn hwn).mpr h8), if_pos rfl]
          obtain ⟨k, E⟩ := en_of hn hwn
          obtain ⟨o, o1, o2⟩ := q3 w m_ofNode m_ofDepth m_ofKids m_ofTwigs m_ofLast m_ofYear m_from m_size m_here m_token m_tokenAt m_open m_bad m_fault m_tokenWorth m_prices
          have o1' : sp_X6_gathers 1 w (nI u) (nI n) m_lasts m_cutNow m_year m_ofNode m_ofDepth m_ofKids m_ofTwigs m_ofLast m_ofYear m_from m_size m_here m_token m_tokenAt m_open m_bad m_fault m_tokenWorth m_texts m_textSize m_parents m_prices = some o := o1
          obtain ⟨pm', r1, r2⟩ := su_loop hn (p2 := p2) (w := w) (mi := m_minds) (la := m_lasts) (g := m_cutNow) (mP := m_parents) (mK := m_kinds) (mN := m_numbers) (od := m_odds) o.1 o.2.1 o.2.2.1 o.2.2.2.1 o.2.2.2.2.1 o.2.2.2.2.2.1 o.2.2.2.2.2.2.1 o.2.2.2.2.2.2.2.1 o.2.2.2.2.2.2.2.2.1 o.2.2.2.2.2.2.2.2.2.1 o.2.2.2.2.2.2.2.2.2.2.1 o.2.2.2.2.2.2.2.2.2.2.2.1 o.2.2.2.2.2.2.2.2.2.2.2.2.1 o.2.2.2.2.2.2.2.2.2.2.2.2.2.1 o.2.2.2.2.2.2.2.2.2.2.2.2.2.2.1 m_yes m_no n 0 5000 o.2.2.2.2.2.2.2.2.2.2.2.2.2.2.2 (by omega) (by omega) (fun j hj => absurd hj (by omega))
          rw [nI_0] at r2
          have hodd : ∀ i, ∃ c, i < n → c ≤ 100 ∧ o_odds i = nI c ∧ m_odds i = nI c := by
            intro i
            by_cases hi : i < n
            · obtain ⟨e1, c, e2, e3⟩ := hO i hi
              exact ⟨c, fun _ => ⟨e2, e3, by rw [e1, e3]⟩⟩
            · exact ⟨0, fun q => absurd q hi⟩
          obtain ⟨oc, hoc⟩ := Classical.skolem.mp hodd
          obtain ⟨S, ka, kb, ka', kb', d1, d2, d3⟩ := md_sim T K m_minds m_lasts s2 s4 E hwn h8 (pc := oc) (px := o_odds) (pm := pm') (fun i t => ⟨(hoc i (hwn i t)).1, (hoc i (hwn i t)).2.1, by rw [r1 i (hwn i t)]; exact (hoc i (hwn i t)).2.2⟩) o_kidCount o_lead m_yes m_no
          obtain ⟨hu5, hu6⟩ := hu_both hn hwn
          have hp8 : (100 : Nat) ^ (zcnt (tb w) n) ≤ 100 ^ 8 := Nat.pow_le_pow_right (by decide) h8
          have hp0 : 0 < (100 : Nat) ^ (zcnt (tb w) n) := Nat.pow_pos (by decide)
          obtain ⟨v, v1, v2⟩ := low_both (a := S) (b := 100 ^ zcnt (tb w) n) p2 (by omega) (by omega) hp0
          unfold sp_X5_mindOdds
          unfold sp_X6_allBy at r2
          rw [d2, ob_s, hu5, ob_s, v1, ob_s, o1', ob_s, r2, d3, ob_s, bc_both hn hwn, ob_s, hu6, ob_s, v2, ob_s]
          exact ⟨_, _, rfl, rfl, rfl, hR⟩
        · rw [if_neg (fun q => h8 ((le8 hn hwn).mp q)), if_neg (fun q => h8 ((le8 hn hwn).mp q))]
          exact ⟨_, _, rfl, rfl, rfl, hR⟩
      · obtain ⟨y, y1, y2, y3, y4⟩ := bo_both T s2
        have hyn : ∀ i, tb y i = true → i < n := fun i h => (y4 i h).1
        rw [show nI 1 = (1 : Int32) from rfl, s1, ob_s, if_neg one0, if_neg one0, y1, ob_s, y2, ob_s, bc_both hn hyn, ob_s]
        by_cases h8 : zcnt (tb y) n ≤ 8
        · rw [if_pos ((le8 hn hyn).mpr h8), if_pos ((le8 hn hyn).mpr h8), if_neg one0]
          obtain ⟨k, E⟩ := en_of hn hyn
          obtain ⟨stk', px', fa', e1, e2⟩ := q2 y t_stack x_prices x_facts hyn
          obtain ⟨o, o1, o2⟩ := q3 y m_ofNode m_ofDepth m_ofKids m_ofTwigs m_ofLast m_ofYear m_from m_size m_here m_token m_tokenAt m_open m_bad m_fault m_tokenWorth m_prices
          have e1' : sp_X5_keepPrices y 1 s (nI n) m_year m_lasts (nI u) o_parent o_above t_steps t_ends t_stack x_prices x_facts = some (stk', px', fa') := e1
          have o1' : sp_X6_gathers 1 y (nI u) (nI n) m_lasts m_cutNow m_year m_ofNode m_ofDepth m_ofKids m_ofTwigs m_ofLast m_ofYear m_from m_size m_here m_token m_tokenAt m_open m_bad m_fault m_tokenWorth m_texts m_textSize m_parents m_prices = some o := o1
          have y0 : tb y 0 = false := tbf (fun q => by have := (y4 0 q).2; omega)
          obtain ⟨S, ka, kb, ka', kb', d1, d2, d3⟩ := so_sim T K m_minds m_lasts g0 y0 1 E hyn h8 (pc := pc) (px := px') (pm := o.2.2.2.2.2.2.2.2.2.2.2.2.2.2.2) (fun i t => ⟨q1 i (hyn i t), by have := hyn i t; rw [e2 i (by omega), if_pos t], by rw [o2 i (hyn i t), if_pos t]⟩) o_kidCount o_lead m_yes m_no
          obtain ⟨hu5, hu6⟩ := hu_both hn hyn
          have hp8 : (100 : Nat) ^ (zcnt (tb y) n) ≤ 100 ^ 8 := Nat.pow_le_pow_right (by decide) h8
          have hp0 : 0 < (100 : Nat) ^ (zcnt (tb y) n) := Nat.pow_pos (by decide)
          obtain ⟨v, v1, v2⟩ := low_both (a := S) (b := 100 ^ zcnt (tb y) n) p2 (by omega) (by omega) hp0
          have r2 : ∀ m, sp_X6_sure_70 1 p2 y (nI n) m_minds m_lasts m_cutNow m_parents m_kinds m_numbers m_odds (m + 1) 0 o.1 o.2.1 o.2.2.1 o.2.2.2.1 o.2.2.2.2.1 o.2.2.2.2.2.1 o.2.2.2.2.2.2.1 o.2.2.2.2.2.2.2.1 o.2.2.2.2.2.2.2.2.1 o.2.2.2.2.2.2.2.2.2.1 o.2.2.2.2.2.2.2.2.2.2.1 o.2.2.2.2.2.2.2.2.2.2.2.1 o.2.2.2.2.2.2.2.2.2.2.2.2.1 o.2.2.2.2.2.2.2.2.2.2.2.2.2.1 o.2.2.2.2.2.2.2.2.2.2.2.2.2.2.1 m_yes m_no o.2.2.2.2.2.2.2.2.2.2.2.2.2.2.2 = (sp_X6_allBy y 1 1 (nI n) m_minds m_lasts m_cutNow m_parents m_kinds m_numbers m_yes m_no o.2.2.2.2.2.2.2.2.2.2.2.2.2.2.2).bind fun r16 => (sp_X6_bitsOf y).bind fun r17 => (sp_X6_hundreds r17).bind fun r18 => (sp_X6_lowest r16.1 r18 p2).bind fun r19 => some (r19, o.1, o.2.1, o.2.2.1, o.2.2.2.1, o.2.2.2.2.1, o.2.2.2.2.2.1, o.2.2.2.2.2.2.1, o.2.2.2.2.2.2.2.1, o.2.2.2.2.2.2.2.2.1, o.2.2.2.2.2.2.2.2.2.1, o.2.2.2.2.2.2.2.2.2.2.1, o.2.2.2.2.2.2.2.2.2.2.2.1, o.2.2.2.2.2.2.2.2.2.2.2.2.1, o.2.2.2.2.2.2.2.2.2.2.2.2.2.1, o.2.2.2.2.2.2.2.2.2.2.2.2.2.2.1, r16.2.1, r16.2.2, o.2.2.2.2.2.2.2.2.2.2.2.2.2.2.2) := by
            intro m
            rw [sp_X6_sure_70, if_neg (nI_nle (by omega) (by omega)), if_neg one0, if_pos rfl]
          have r3 := r2 4999
          unfold sp_X6_allBy at r3
          unfold sp_X5_stormOdds
          rw [e1', ob_s, d2, ob_s, hu5, ob_s, v1, ob_s, o1', ob_s, r3, d3, ob_s, bc_both hn hyn, ob_s, hu6, ob_s, v2, ob_s]
          exact ⟨_, _, rfl, rfl, rfl, hR⟩
        · rw [if_neg (fun q => h8 ((le8 hn hyn).mp q)), if_neg (fun q => h8 ((le8 hn hyn).mp q))]
          exact ⟨_, _, rfl, rfl, rfl, hR⟩
    · rw [if_pos (b5.mpr h2), if_pos (b6.mpr h2)]
      exact ⟨_, _, rfl, rfl, rfl, hR⟩
  · rw [if_pos (a5.mpr h1), if_pos (a6.mpr h1)]
    exact ⟨_, _, rfl, rfl, rfl, hR⟩
theorem pp_tail {w v sz g mi la : Int32} {oP oK oN oA : Nat → Int32} : ∀ (k i fuel : Nat) (best : Int32) (lk : Int64) (kc ld stk px fa : Nat → Int32), i + k = 12 → k + 1 ≤ fuel → (∀ j, i ≤ j → tb w j = false) → sp_X5_prop_52 w v sz g mi la oP oK oN oA fuel best lk (nI i) kc ld stk px fa = some (best, kc, ld, stk, px, fa) := by
  intro k
  induction k with
  | zero =>
    intro i fuel best lk kc ld stk px fa hi hf h
    obtain ⟨m, rfl⟩ : ∃ m, fuel = m + 1 := ⟨fuel - 1, by omega⟩
    have : i = 12 := by omega
    subst this
    rw [sp_X5_prop_52, if_pos (by decide)]
  | succ k ih =>
    intro i fuel best lk kc ld stk px fa hi hf h
    obtain ⟨m, rfl⟩ : ∃ m, fuel = m + 1 := ⟨fuel - 1, by omega⟩
    rw [sp_X5_prop_52, if_neg (show ¬ (12 : Int32) ≤ nI i from nI_ge (b := 12) (by omega) (by decide)), if_neg (bit1n (by omega) (h i (Nat.le_refl _))), nI_1]
    exact ih (i + 1) m best lk kc ld stk px fa (by omega) (by omega) (fun j hj => h j (by omega))
theorem pp_sim {n : Nat} {par : Nat → Nat} {oP oA mP oK oN mK mN : Nat → Int32} (T : TR n par oP oA mP) (K : KN n oK oN mK mN) {g w : Int32} (mi la v : Int32) (g0 : tb g 0 = false) (w0 : tb w 0 = false) {kk : Nat} (E : enP n kk w) (hw : ∀ i, tb w i = true → i < n) (h8 : zcnt (tb w) n ≤ 8) {pc : Nat → Nat} (hpc : ∀ i, tb w i = true → pc i ≤ 100) (aN aD aK aT aL aY b1 b2 b3 b4 b5 b6 b7 b8 : Int32) (tw : Int64) (stk fa : Nat → Int32) : ∀ (k i f1 f2 : Nat) (best : Int32) (lk : Int64) (kc ld px ye no pm : Nat → Int32), i + k = n → 1 ≤ i → 13 ≤ f1 + i → k + 1 ≤ f2 → (∀ j, tb w j = true → px j = nI (pc j) ∧ pm j = nI (pc j)) → ∃ r x x', sp_X5_prop_52 w v (nI n) g mi la oP oK oN oA f1 best lk (nI i) kc ld stk px fa = some (r, x) ∧ sp_X6_prop_36 w v (nI n) mi la g mP mK mN f2 best lk (nI i) aN aD aK aT aL aY b1 b2 b3 b4 b5 b6 b7 b8 tw ye no pm = some (r, x') := by
  have hn := T.2.1
  intro k
  induction k with
  | zero =>
    intro i f1 f2 best lk kc ld px ye no pm hi h1 hf1 hf2 hp
    obtain ⟨m, rfl⟩ : ∃ m, f2 = m + 1 := ⟨f2 - 1, by omega⟩
    have : i = n := by omega
    subst this
    rw [pp_tail (12 - i) i f1 best lk kc ld stk px fa (by omega) (by omega) (fun j hj => tbf (fun q => by have := hw j q; omega)), sp_X6_prop_36, if_pos (nI_le (Nat.le_refl _) (by omega))]
    exact ⟨_, _, _, rfl, rfl⟩
  | succ k ih =>
    intro i f1 f2 best lk kc ld px ye no pm hi h1 hf1 hf2 hp
    obtain ⟨m1, rfl⟩ : ∃ m, f1 = m + 1 := ⟨f1 - 1, by omega⟩
    obtain ⟨m2, rfl⟩ : ∃ m, f2 = m + 1 := ⟨f2 - 1, by omega⟩
    rw [sp_X5_prop_52, if_neg (show ¬ (12 : Int32) ≤ nI i from nI_ge (b := 12) (by omega) (by decide)), sp_X6_prop_36, if_neg (nI_ge (by omega) (by omega)), nI_1]
    by_cases t : tb w i = true
    · rw [if_pos (bit1 (by omega) t), if_pos (shr1 (by omega) t)]
      obtain ⟨S, ka, kb, ka', kb', d1, d2, d3⟩ := so_sim T K mi la g0 w0 v E hw h8 (pc := fun j => if j = i then 0 else pc j) (px := upd px i 0) (pm := upd pm i 0) (fun j tj => by
        by_cases e : j = i
        · subst e
          rw [if_pos rfl, pk_us, pk_us]
          exact ⟨by omega, rfl, rfl⟩
        · rw [if_neg e, pk_un e, pk_un e]
          exact ⟨hpc j tj, hp j tj⟩) kc ld ye no
      unfold sp_X5_stormOdds sp_X6_allBy
      rw [xo_at_nI (by omega) lt31, ob_s, xo_set_nI (by omega) lt31, ob_s, d2, ob_s, xo_set_nI (by omega) lt31, ob_s, xo_at_nI (by omega) lt31, ob_s, xo_set_nI (by omega) lt31, ob_s, d3, ob_s, xo_set_nI (by omega) lt31, ob_s]
      dsimp only
      have hp' : ∀ j, tb w j = true → upd (upd px i 0) i (px i) j = nI (pc j) ∧ upd (upd pm i 0) i (pm i) j = nI (pc j) := by
        intro j tj
        by_cases e : j = i
        · subst e; rw [pk_us, pk_us]; exact hp j tj
        · rw [pk_un e, pk_un e, pk_un e, pk_un e]; exact hp j tj
      by_cases b0 : best = -1
      · rw [if_pos b0, if_pos b0]
        exact ih (i + 1) m1 m2 _ _ _ _ _ _ _ _ (by omega) (by omega) (by omega) (by omega) hp'
      · rw [if_neg b0, if_neg b0]
        by_cases c : lg_cmp (lN S) lk ≤ 0
        · rw [if_pos c, if_pos c]
          exact ih (i + 1) m1 m2 _ _ _ _ _ _ _ _ (by omega) (by omega) (by omega) (by omega) hp'
        · rw [if_neg c, if_neg c]
          exact ih (i + 1) m1 m2 _ _ _ _ _ _ _ _ (by omega) (by omega) (by omega) (by omega) hp'
    · rw [if_neg (bit1n (by omega) (tbf t)), if_neg (shr1n (by omega) (tbf t))]
      exact ih (i + 1) m1 m2 _ _ _ _ _ _ _ _ (by omega) (by omega) (by omega) (by omega) hp
theorem q_prop : op_prop RRv := by
  intro o_size o_year o_gone o_minds o_lasts r_size r_token r_place r_at r_open r_made t_size t_rule i_there i_rule i_size i_year i_gone i_minds i_lasts o_parent o_kind o_number o_odds o_above o_kidCount o_lead r_tape r_steps r_ends t_steps t_ends t_stack s_sort s_size s_items i_number i_odds x_prices x_facts x_laws x_clues m_thrown m_textCount m_rule m_taped m_n m_minds m_lasts m_cutNow m_year m_ofNode m_ofDepth m_ofKids m_ofTwigs m_ofLast m_ofYear m_from m_size m_here m_token m_tokenAt m_open m_bad m_fault m_nKept m_mindsKept m_lastsKept m_cutKept m_yearKept m_ruleKept m_tokenWorth m_texts m_textSize m_tape m_parents m_kinds m_numbers m_odds m_yes m_no m_prices m_numbersKept m_oddsKept m_isThere m_sorts m_sheetSize m_items hR
  obtain ⟨n, t, hT, hP, hX, hI, hS⟩ := id hR
  obtain ⟨par, rfl, rfl, T, K, rfl, rfl, rfl, rfl, g0, pz, hO, hy, hg⟩ := rt_open hT
  obtain ⟨x1, x2, x3, x4, ⟨u, hu, rfl, rfl⟩, x5⟩ := hX
  have hn := T.2.1
  have hn1 := T.1
  obtain ⟨s, s1, s2, s3, s4⟩ := st_now T m_cutNow g0
  obtain ⟨w, w1, w2, w3⟩ := twigs_both T (st_bd s3)
  obtain ⟨pc, q1, q2, q3⟩ := prices_of (la := m_lasts) (yr := m_year) T s2 w1 w3 (x5 u hu) (show 1 < 3 by omega)
  obtain ⟨y, y1, y2, y3, y4⟩ := bo_both T s2
  have hyn : ∀ i, tb y i = true → i < n := fun i h => (y4 i h).1
  unfold sp_X5_prop sp_X6_prop
  rw [s1, ob_s, y1, ob_s, y2, ob_s, bc_both hn hyn, ob_s]
  by_cases h8 : zcnt (tb y) n ≤ 8
  · rw [if_pos ((le8 hn hyn).mpr h8), if_pos ((le8 hn hyn).mpr h8)]
    obtain ⟨k, E⟩ := en_of hn hyn
    obtain ⟨stk', px', fa', e1, e2⟩ := q2 y t_stack x_prices x_facts hyn
    obtain ⟨o, o1, o2⟩ := q3 y m_ofNode m_ofDepth m_ofKids m_ofTwigs m_ofLast m_ofYear m_from m_size m_here m_token m_tokenAt m_open m_bad m_fault m_tokenWorth m_prices
    have e1' : sp_X5_keepPrices y 1 s (nI n) m_year m_lasts (nI u) o_parent o_above t_steps t_ends t_stack x_prices x_facts = some (stk', px', fa') := e1
    have o1' : sp_X6_gathers 1 y (nI u) (nI n) m_lasts m_cutNow m_year m_ofNode m_ofDepth m_ofKids m_ofTwigs m_ofLast m_ofYear m_from m_size m_here m_token m_tokenAt m_open m_bad m_fault m_tokenWorth m_texts m_textSize m_parents m_prices = some o := o1
    have y0 : tb y 0 = false := tbf (fun q => by have := (y4 0 q).2; omega)
    obtain ⟨Y, v1, v2, v3⟩ := vote_both T K s m_minds m_lasts s4
    obtain ⟨kc1, ld1, c1⟩ := v1 o_kidCount o_lead
    obtain ⟨ye1, no1, c2⟩ := v2 m_yes m_no
    obtain ⟨r, x, x', r1, r2⟩ := pp_sim T K m_minds m_lasts (bI (tb Y 0)) g0 y0 E hyn h8 (pc := pc) (fun i t => q1 i (hyn i t)) o.1 o.2.1 o.2.2.1 o.2.2.2.1 o.2.2.2.2.1 o.2.2.2.2.2.1 o.2.2.2.2.2.2.1 o.2.2.2.2.2.2.2.1 o.2.2.2.2.2.2.2.2.1 o.2.2.2.2.2.2.2.2.2.1 o.2.2.2.2.2.2.2.2.2.2.1 o.2.2.2.2.2.2.2.2.2.2.2.1 o.2.2.2.2.2.2.2.2.2.2.2.2.1 o.2.2.2.2.2.2.2.2.2.2.2.2.2.1 o.2.2.2.2.2.2.2.2.2.2.2.2.2.2.1 stk' fa' (n - 1) 1 5000 5000 (-1) 0 kc1 ld1 px' ye1 no1 o.2.2.2.2.2.2.2.2.2.2.2.2.2.2.2 (by omega) (by omega) (by omega) (by omega) (fun j tj => ⟨by have := hyn j tj; rw [e2 j (by omega), if_pos tj], by rw [o2 j (hyn j tj), if_pos tj]⟩)
    rw [show nI 1 = (1 : Int32) from rfl] at r1 r2
    unfold sp_X5_lawNow sp_X6_law sp_X6_lawOf
    rw [e1', ob_s, s1, ob_s, c1, ob_s, ob_s, o1', ob_s, s2, ob_s, c2, ob_s, ob_s, ob_s]
    dsimp only
    rw [bit_z, and_1, r1, r2]
    exact ⟨_, _, rfl, rfl, rfl, hR⟩
  · rw [if_neg (fun q => h8 ((le8 hn hyn).mp q)), if_neg (fun q => h8 ((le8 hn hyn).mp q))]
    exact ⟨_, _, rfl, rfl, rfl, hR⟩
