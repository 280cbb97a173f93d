/-! what the names of a text are of a node; prices -/
theorem zcnt_ins {P Q : Nat → Bool} {a : Nat} : ∀ n, a < n → (∀ i, i < n → P i = (Q i || decide (i = a))) → Q a = false → zcnt P n = zcnt Q n + 1 := by
  intro n
  induction n with
  | zero => intro h; omega
  | succ n ih =>
    intro ha h hq
    rw [zcnt_s, zcnt_s]
    by_cases e : a = n
    · subst e
      rw [h a (by omega), hq, decide_eq_true rfl]
      have : zcnt P a = zcnt Q a := zcnt_congr a (fun j hj => by rw [h j (by omega), decide_eq_false (by omega), Bool.or_false])
      rw [this]; rfl
    · rw [ih (by omega) (fun i hi => h i (by omega)) hq, h n (by omega), decide_eq_false (by omega), Bool.or_false]
      omega
theorem oa_lt {n : Nat} {par : Nat → Nat} {oP oA mP : Nat → Int32} (T : TR n par oP oA mP) : ∀ v, v < n → ∀ i, tb (oA v) i = true → i < v := by
  intro v
  induction v using Nat.strongRecOn with
  | ind v ih =>
    intro hv i hi
    have hn := T.2.1
    by_cases z : v = 0
    · subst z
      rw [T.2.2.1, tb_0] at hi
      exact absurd hi (by decide)
    · obtain ⟨q1, q2, q3, q4⟩ := T.2.2.2 v (by omega) hv
      rw [q4, tb_or, tb_one (by omega)] at hi
      by_cases c : tb (oA (par v)) i = true
      · have := ih (par v) q1 (by omega) i c
        omega
      · rw [tbf c, Bool.false_or] at hi
        have := of_decide_eq_true hi
        omega
theorem dep_s {n : Nat} {par : Nat → Nat} {oP oA mP : Nat → Int32} (T : TR n par oP oA mP) {v : Nat} (h1 : 1 ≤ v) (hv : v < n) : zcnt (tb (oA v)) n = zcnt (tb (oA (par v))) n + 1 := by
  have hn := T.2.1
  obtain ⟨q1, q2, q3, q4⟩ := T.2.2.2 v h1 hv
  apply zcnt_ins (a := par v) n (by omega)
  · intro i hi
    rw [q4, tb_or, tb_one (by omega)]
  · exact tbf (fun q => by have := oa_lt T (par v) (by omega) _ q; omega)
theorem oa_bd {n : Nat} {par : Nat → Nat} {oP oA mP : Nat → Int32} (T : TR n par oP oA mP) {v : Nat} (hv : v < n) : ∀ i, tb (oA v) i = true → i < n := fun i h => by
  have := oa_lt T v hv i h
  omega
theorem grow6 {n : Nat} {par : Nat → Nat} {oP oA mP : Nat → Int32} (T : TR n par oP oA mP) {i : Nat} (hi : i < n) : ∀ k, k < n → ∀ fuel, k + 1 ≤ fuel → sp_X6_growsFrom_2 (nI i) mP fuel (nI k) = some (bI (decide (k = i) || tb (oA k) i)) := by
  have hn := T.2.1
  intro k
  induction k using Nat.strongRecOn with
  | ind k ih =>
    intro hk fuel hf
    obtain ⟨m, rfl⟩ : ∃ m, fuel = m + 1 := ⟨fuel - 1, by omega⟩
    rw [sp_X6_growsFrom_2]
    by_cases h : k ≤ i
    · rw [if_pos (nI_le h (by omega))]
      by_cases e : k = i
      · subst e
        rw [if_pos rfl, decide_eq_true rfl]; rfl
      · rw [if_neg (by rw [nI_eq (by omega) (by omega)]; exact e), decide_eq_false e, tbf (fun q => by have := oa_lt T k hk _ q; omega)]; rfl
    · obtain ⟨q1, q2, q3, q4⟩ := T.2.2.2 k (by omega) hk
      rw [if_neg (nI_ge (by omega) (by omega)), xo_at_nI (by omega) lt31, ob_s, q3, ih (par k) q1 (by omega) m (by omega), q4, tb_or, tb_one (by omega), decide_eq_false (show ¬ k = i by omega), Bool.false_or, Bool.or_comm]
      congr 3
      by_cases e : par k = i
      · rw [decide_eq_true e, decide_eq_true e.symm]
      · rw [decide_eq_false e, decide_eq_false (Ne.symm e)]
def tqR (n : Nat) (par : Nat → Nat) (s : Int32) (oA : Nat → Int32) (i j : Nat) : Bool := twf n par s j && tb (oA j) i
def tqF (n : Nat) (par : Nat → Nat) (s : Int32) (oA : Nat → Int32) (i j : Nat) : Bool := twf n par s j && (decide (j = i) || tb (oA j) i)
theorem tq_eq {n : Nat} {par : Nat → Nat} {oP oA mP : Nat → Int32} (T : TR n par oP oA mP) (s : Int32) {i : Nat} (hi : i < n) : zcnt (tqF n par s oA i) n = (if twf n par s i then 1 else 0) + zcnt (tqR n par s oA i) n := by
  by_cases t : twf n par s i = true
  · rw [if_pos t, Nat.add_comm]
    apply zcnt_ins (a := i) n hi
    · intro j hj
      unfold tqF tqR
      by_cases e : j = i
      · subst e; rw [t, decide_eq_true rfl]; simp
      · rw [decide_eq_false e]; simp
    · unfold tqR
      rw [tbf (fun q => by have := oa_lt T i hi _ q; omega), Bool.and_false]
  · rw [if_neg t, Nat.zero_add]
    apply zcnt_congr
    intro j hj
    unfold tqF tqR
    by_cases e : j = i
    · subst e
      have : twf n par s j = false := by revert t; cases twf n par s j <;> simp
      rw [this]; rfl
    · rw [decide_eq_false e]; simp
theorem tq_low {n : Nat} {par : Nat → Nat} {oP oA mP : Nat → Int32} (T : TR n par oP oA mP) (s : Int32) {i : Nat} (hi : i < n) : zcnt (tqF n par s oA i) i = 0 := by
  apply zcnt_0
  intro j hj
  unfold tqF
  rw [decide_eq_false (by omega), tbf (fun q => by have := oa_lt T j (by omega) _ q; omega)]
  simp
theorem sy67 {n : Nat} {par : Nat → Nat} {oP oA mP : Nat → Int32} (T : TR n par oP oA mP) {i : Nat} (hi : i < n) {s la yr rule wh v : Int32} {tx ts : Nat → Int32} {aN aD aK aL aY b1 b2 b3 b4 b5 b6 b7 b8 : Int32} {tw : Int64} (HR : ∃ o, sp_X6_read rule wh aN aD aK (nI (zcnt (tqF n par s oA i) n)) ((xi_shr la (nI i)) &&& 1) yr b1 b2 b3 b4 b5 b6 b7 b8 tw tx ts = some o ∧ o.1 = v) : ∀ (k j fuel : Nat), j + k = n → i ≤ j → k + 1 ≤ fuel → ∃ o, sp_X6_says_67 wh (nI i) s rule (nI n) la yr tx ts mP fuel (nI j) aN aD aK (nI (zcnt (tqF n par s oA i) j)) aL aY b1 b2 b3 b4 b5 b6 b7 b8 tw = some o ∧ o.1 = if wh = 1 then sp_X6_within v 0 100 else sp_X6_within v 0 99 := by
  have hn := T.2.1
  intro k
  induction k with
  | zero =>
    intro j fuel hj h1 hf
    obtain ⟨m, rfl⟩ : ∃ m, fuel = m + 1 := ⟨fuel - 1, by omega⟩
    have : j = n := by omega
    subst this
    obtain ⟨o, o1, o2⟩ := HR
    rw [sp_X6_says_67, if_pos (nI_le (Nat.le_refl _) (by omega)), o1, ob_s, o2]
    by_cases c : wh = 1
    · rw [if_pos c, if_pos c]; exact ⟨_, rfl, rfl⟩
    · rw [if_neg c, if_neg c]; exact ⟨_, rfl, rfl⟩
  | succ k ih =>
    intro j fuel hj h1 hf
    obtain ⟨m, rfl⟩ : ∃ m, fuel = m + 1 := ⟨fuel - 1, by omega⟩
    have I := ih (j + 1) m (by omega) (by omega) (by omega)
    rw [zcnt_s] at I
    rw [sp_X6_says_67, if_neg (nI_ge (by omega) (by omega)), twig6 T s (by omega), ob_s, nI_1 j]
    have G : sp_X6_growsFrom (nI j) (nI i) mP = some (bI (decide (j = i) || tb (oA j) i)) := grow6 T hi j (by omega) 5000 (by omega)
    by_cases t : twf n par s j = true
    · rw [t, if_neg (show ¬ bI true = 0 by decide), G, ob_s]
      by_cases c : (decide (j = i) || tb (oA j) i) = true
      · rw [c, if_neg (show ¬ bI true = 0 by decide), nI_1]
        rw [if_pos (by unfold tqF; rw [t, c]; rfl)] at I
        exact I
      · have c' : (decide (j = i) || tb (oA j) i) = false := by revert c; cases (decide (j = i) || tb (oA j) i) <;> simp
        rw [c', if_pos (show bI false = 0 from rfl), Int32.add_zero]
        rw [if_neg (by unfold tqF; rw [t, c']; decide)] at I
        exact I
    · have t' : twf n par s j = false := by revert t; cases twf n par s j <;> simp
      rw [t', if_pos (show bI false = 0 from rfl), Int32.add_zero]
      rw [if_neg (by unfold tqF; rw [t']; simp)] at I
      exact I
theorem sy22 {n : Nat} {par : Nat → Nat} {oP oA mP : Nat → Int32} (T : TR n par oP oA mP) {i : Nat} (s la yr rule wh : Int32) (tx ts : Nat → Int32) (aN aK aT aL aY b1 b2 b3 b4 b5 b6 b7 b8 : Int32) (tw : Int64) : ∀ v, v < n → ∀ fuel d, v + 1 ≤ fuel → sp_X6_says_22 wh (nI i) s rule (nI n) la yr tx ts mP fuel (nI v) aN (nI d) aK aT aL aY b1 b2 b3 b4 b5 b6 b7 b8 tw = (sp_X6_kidsOf (nI i) s (nI n) mP).bind fun r2 => sp_X6_says_67 wh (nI i) s rule (nI n) la yr tx ts mP 5000 (nI i) aN (nI (d + zcnt (tb (oA v)) n)) r2 0 aL aY b1 b2 b3 b4 b5 b6 b7 b8 tw := by
  have hn := T.2.1
  intro v
  induction v using Nat.strongRecOn with
  | ind v ih =>
    intro hv fuel d hf
    obtain ⟨m, rfl⟩ : ∃ m, fuel = m + 1 := ⟨fuel - 1, by omega⟩
    by_cases z : v = 0
    · subst z
      have : zcnt (tb (oA 0)) n = 0 := zcnt_0 n (fun j _ => by rw [T.2.2.1, tb_0])
      rw [sp_X6_says_22, if_pos (by decide), this, Nat.add_zero]
    · obtain ⟨q1, q2, q3, q4⟩ := T.2.2.2 v (by omega) hv
      rw [sp_X6_says_22, if_neg (nI_nle (by omega) (by omega)), xo_at_nI (by omega) lt31, ob_s, q3, nI_1, ih (par v) q1 (by omega) m (d + 1) (by omega), dep_s T (by omega) hv, show d + 1 + zcnt (tb (oA (par v))) n = d + (zcnt (tb (oA (par v))) n + 1) by omega]
theorem tf_loop {n : Nat} {par : Nat → Nat} {oP oA mP : Nat → Int32} (T : TR n par oP oA mP) {i : Nat} (hi : i < n) {s w : Int32} (la yr : Int32) (hw : ∀ j, tb w j = twf n par s j) (f : Nat → Int32) : ∀ (k j fuel c : Nat), j + k = n → 1 ≤ j → k + 1 ≤ fuel → sp_X1_tellFacts_p25_18 (nI i) s w (nI n) yr la oP oA fuel (nI (c + zcnt (tqR n par s oA i) j)) (nI j) f = some (upd (upd (upd (upd (upd (upd f 0 (nI i)) 1 (nI (zcnt (tb (oA i)) n))) 2 (nI (zcnt (kid par s i) n))) 3 (nI (c + zcnt (tqR n par s oA i) n))) 4 (bI (tb la i))) 5 yr) := by
  have hn := T.2.1
  intro k
  induction k with
  | zero =>
    intro j fuel c hj h1 hf
    obtain ⟨m, rfl⟩ : ∃ m, fuel = m + 1 := ⟨fuel - 1, by omega⟩
    have : j = n := by omega
    subst this
    have y : ∀ (g : Nat → Int32) (q : Nat) (x : Int32), q < 6 → xo_set g 6 (nI q) x = some (upd g q x) := fun g q x h => xo_set_nI h (by decide)
    have y0 := fun g x => y g 0 x (by decide)
    have y1 := fun g x => y g 1 x (by decide)
    have y2 := fun g x => y g 2 x (by decide)
    have y3 := fun g x => y g 3 x (by decide)
    have y4 := fun g x => y g 4 x (by decide)
    have y5 := fun g x => y g 5 x (by decide)
    rw [show nI 0 = (0 : Int32) from rfl] at y0
    rw [show nI 1 = (1 : Int32) from rfl] at y1
    rw [show nI 2 = (2 : Int32) from rfl] at y2
    rw [show nI 3 = (3 : Int32) from rfl] at y3
    rw [show nI 4 = (4 : Int32) from rfl] at y4
    rw [show nI 5 = (5 : Int32) from rfl] at y5
    obtain ⟨kd, kd1, kd2⟩ := kids1 T s hi
    rw [sp_X1_tellFacts_p25_18, if_pos (nI_le (Nat.le_refl _) (by omega)), y0, ob_s, xo_at_nI (by omega) lt31, ob_s, y1, ob_s, kd1, ob_s, kd2, y2, ob_s, y3, ob_s, y4, ob_s, y5, ob_s, bc_val hn (oa_bd T hi), bit_nI la (by omega)]
  | succ k ih =>
    intro j fuel c hj h1 hf
    obtain ⟨m, rfl⟩ : ∃ m, fuel = m + 1 := ⟨fuel - 1, by omega⟩
    have I := ih (j + 1) m c (by omega) (by omega) (by omega)
    rw [zcnt_s] at I
    rw [sp_X1_tellFacts_p25_18, if_neg (nI_ge (by omega) (by omega)), xo_at_nI (by omega) lt31, ob_s, bit_nI w (by omega), bit_nI (oA j) (by omega), hw j, nI_1]
    have e : bI (twf n par s j) &&& bI (tb (oA j) i) = nI (if tqR n par s oA i j then 1 else 0) := by
      unfold tqR
      cases twf n par s j <;> cases tb (oA j) i <;> decide
    rw [e, nI_add, Nat.add_assoc]
    exact I
theorem clampv (v : Int32) (m : Nat) (hm : m ≤ 100) : ∃ c, c ≤ m ∧ xi_max 0 (xi_min (nI m) v) = nI c ∧ sp_X6_within v 0 (nI m) = nI c := by
  unfold xi_max xi_min sp_X6_within
  by_cases h0 : (0 : Int32) ≤ v
  · have h0' : ¬ v < 0 := by
      intro q
      have a := Int32.le_iff_toInt_le.mp h0
      have b := Int32.lt_iff_toInt_lt.mp q
      omega
    obtain ⟨j, hj, rfl⟩ := nI_of h0'
    rw [if_pos h0]
    by_cases c : j ≤ m
    · rw [if_pos (nI_le c (by omega))]
      refine ⟨j, c, ?_, rfl⟩
      by_cases d : j < m
      · rw [if_pos (nI_lt d (by omega))]
        by_cases z : j = 0
        · subst z; rfl
        · rw [if_pos (show (0 : Int32) < nI j from nI_lt (a := 0) (by omega) hj)]
      · have : j = m := by omega
        subst this
        rw [if_neg (nI_nlt (Nat.le_refl _) hj)]
        by_cases z : j = 0
        · subst z; rfl
        · rw [if_pos (show (0 : Int32) < nI j from nI_lt (a := 0) (by omega) hj)]
    · rw [if_neg (nI_ge (by omega) hj), if_neg (nI_nlt (by omega) hj)]
      refine ⟨m, Nat.le_refl _, ?_, rfl⟩
      by_cases z : m = 0
      · subst z; rfl
      · rw [if_pos (show (0 : Int32) < nI m from nI_lt (a := 0) (by omega) (by omega))]
  · have hz : (0 : Int32).toInt = 0 := by decide
    have h1 : v.toInt < 0 := by
      by_cases q : 0 ≤ v.toInt
      · exact absurd (Int32.le_iff_toInt_le.mpr (by rw [hz]; exact q)) h0
      · omega
    have h2 : v < nI m := Int32.lt_iff_toInt_lt.mpr (by rw [nI_toInt (by omega)]; omega)
    have h3 : ¬ (0 : Int32) < v := fun q => by
      have := Int32.lt_iff_toInt_lt.mp q
      rw [hz] at this
      omega
    rw [if_neg h0, if_pos h2, if_neg h3]
    exact ⟨0, by omega, rfl, rfl⟩
theorem price_both {n : Nat} {par : Nat → Nat} {oP oA mP : Nat → Int32} (T : TR n par oP oA mP) {g la yr s w : Int32} (s2 : sp_X6_standing g (nI n) mP = some s) (w1 : sp_X1_twigsOf s (nI n) oP = some w) (w3 : ∀ j, tb w j = twf n par s j) {q : Nat} {st en tx ts : Nat → Int32} (hq : pr_text q st en tx ts) {i wh : Nat} (hi : i < n) (hwh : wh < 3) : ∃ c, c ≤ 100 ∧ (∀ stk facts, ∃ stk' facts', sp_X5_priceOf (nI i) (nI wh) s (nI n) yr la (nI q) oP oA st en stk facts = some (nI c, stk', facts')) ∧ (∀ (aN aD aK aT aL aY b1 b2 b3 b4 b5 b6 b7 b8 : Int32) (tw : Int64), ∃ o, sp_X6_says (nI wh) (nI i) (nI q) (nI n) la g yr aN aD aK aT aL aY b1 b2 b3 b4 b5 b6 b7 b8 tw tx ts mP = some o ∧ o.1 = nI c) := by
  have hn := T.2.1
  have hn1 := T.1
  have tell : ∀ f, sp_X1_tellFacts_p25 (nI i) s (nI n) yr la oP oA f = some (upd (upd (upd (upd (upd (upd f 0 (nI i)) 1 (nI (zcnt (tb (oA i)) n))) 2 (nI (zcnt (kid par s i) n))) 3 (nI (zcnt (tqF n par s oA i) n))) 4 (bI (tb la i))) 5 yr) := by
    intro f
    unfold sp_X1_tellFacts_p25
    have L := tf_loop T hi la yr w3 f (n - 1) 1 5000 (if twf n par s i then 1 else 0) (by omega) (by omega) (by omega)
    have z : zcnt (tqR n par s oA i) 1 = 0 := by
      rw [zcnt_s]
      have : tqR n par s oA i 0 = false := by unfold tqR twf; simp
      rw [this]; rfl
    rw [z, Nat.add_zero, ← tq_eq T s hi] at L
    rw [w1, ob_s, bit_nI w (by omega), w3 i]
    have e : bI (twf n par s i) = nI (if twf n par s i then 1 else 0) := by cases twf n par s i <;> rfl
    rw [e]
    exact L
  have key : ∀ f : Nat → Int32, f 0 = nI i → f 1 = nI (zcnt (tb (oA i)) n) → f 2 = nI (zcnt (kid par s i) n) → f 3 = nI (zcnt (tqF n par s oA i) n) → f 4 = bI (tb la i) → f 5 = yr → ∃ v : Int32, (∀ stk, ∃ o, sp_X4_value_p25 (nI wh) (nI q) st en stk f = some o ∧ o.1 = v) ∧ ∀ (aN aD aK aT aL aY b1 b2 b3 b4 b5 b6 b7 b8 : Int32) (tw : Int64), ∃ o, sp_X6_says (nI wh) (nI i) (nI q) (nI n) la g yr aN aD aK aT aL aY b1 b2 b3 b4 b5 b6 b7 b8 tw tx ts mP = some o ∧ o.1 = if nI wh = 1 then sp_X6_within v 0 100 else sp_X6_within v 0 99 := by
    intro f f0 f1 f2 f3 f4 f5
    obtain ⟨v, v1, v2⟩ := hq st en tx ts (fun _ _ _ => ⟨rfl, rfl⟩) (fun _ _ _ => rfl) rfl wh hwh f
    refine ⟨v, v1, fun aN aD aK aT aL aY b1 b2 b3 b4 b5 b6 b7 b8 tw => ?_⟩
    unfold sp_X6_says
    have z0 : (0 : Int32) = nI 0 := rfl
    rw [s2, ob_s]
    have Y := sy22 T (i := i) s la yr (nI q) (nI wh) tx ts (nI i) aK aT aL aY b1 b2 b3 b4 b5 b6 b7 b8 tw i hi 5000 0 (by omega)
    rw [nI_0, Nat.zero_add] at Y
    rw [Y, kids6 T s hi, ob_s]
    have H := v2 b1 b2 b3 b4 b5 b6 b7 b8 tw
    rw [f0, f1, f2, f3, f4, f5, ← shr_nI la (show i < 32 by omega)] at H
    have Z := sy67 T hi (aL := aL) (aY := aY) H (n - i) i 5000 (by omega) (Nat.le_refl _) (by omega)
    rw [tq_low T s hi, nI_0] at Z
    exact Z
  have h0 : (upd (upd (upd (upd (upd (upd (fun _ => 0) 0 (nI i)) 1 (nI (zcnt (tb (oA i)) n))) 2 (nI (zcnt (kid par s i) n))) 3 (nI (zcnt (tqF n par s oA i) n))) 4 (bI (tb la i))) 5 yr) 0 = nI i := rfl
  have say : ∃ c, c ≤ 100 ∧ ∀ (aN aD aK aT aL aY b1 b2 b3 b4 b5 b6 b7 b8 : Int32) (tw : Int64), ∃ o, sp_X6_says (nI wh) (nI i) (nI q) (nI n) la g yr aN aD aK aT aL aY b1 b2 b3 b4 b5 b6 b7 b8 tw tx ts mP = some o ∧ o.1 = nI c := by
    obtain ⟨v, v1, v2⟩ := key (upd (upd (upd (upd (upd (upd (fun _ => 0) 0 (nI i)) 1 (nI (zcnt (tb (oA i)) n))) 2 (nI (zcnt (kid par s i) n))) 3 (nI (zcnt (tqF n par s oA i) n))) 4 (bI (tb la i))) 5 yr) rfl rfl rfl rfl rfl rfl
    by_cases e : nI wh = 1
    · rw [if_pos e] at v2
      obtain ⟨c, c1, c2, c3⟩ := clampv v 100 (Nat.le_refl _)
      rw [show sp_X6_within v 0 100 = nI c from c3] at v2
      exact ⟨c, c1, v2⟩
    · rw [if_neg e] at v2
      obtain ⟨c, c1, c2, c3⟩ := clampv v 99 (by omega)
      rw [show sp_X6_within v 0 99 = nI c from c3] at v2
      exact ⟨c, by omega, v2⟩
  obtain ⟨c, hc, hs⟩ := say
  refine ⟨c, hc, fun stk facts => ?_, hs⟩
  obtain ⟨v, v1, v2⟩ := key (upd (upd (upd (upd (upd (upd facts 0 (nI i)) 1 (nI (zcnt (tb (oA i)) n))) 2 (nI (zcnt (kid par s i) n))) 3 (nI (zcnt (tqF n par s oA i) n))) 4 (bI (tb la i))) 5 yr) rfl rfl rfl rfl rfl rfl
  obtain ⟨o, o1, o2⟩ := v1 stk
  obtain ⟨p, p1, p2⟩ := v2 0 0 0 0 0 0 0 0 0 0 0 0 0 0 0
  obtain ⟨r, r1, r2⟩ := hs 0 0 0 0 0 0 0 0 0 0 0 0 0 0 0
  rw [p1] at r1
  have er := Option.some.inj r1
  rw [← er, p2] at r2
  unfold sp_X5_priceOf
  rw [tell, ob_s]
  by_cases e : nI wh = 1
  · rw [if_pos e] at r2
    obtain ⟨d, d1, d2, d3⟩ := clampv v 100 (Nat.le_refl _)
    have d2' : xi_max 0 (xi_min 100 v) = nI d := d2
    have d3' : sp_X6_within v 0 100 = nI d := d3
    rw [if_pos e, o1, ob_s, o2, d2', ← d3', r2]
    exact ⟨_, _, rfl⟩
  · rw [if_neg e] at r2
    obtain ⟨d, d1, d2, d3⟩ := clampv v 99 (by omega)
    have d2' : xi_max 0 (xi_min 99 v) = nI d := d2
    have d3' : sp_X6_within v 0 99 = nI d := d3
    rw [if_neg e, o1, ob_s, o2, d2', ← d3', r2]
    exact ⟨_, _, rfl⟩
theorem q_asks : op_asks RRv := by
  intro o_size o_year o_gone o_minds o_lasts r_size r_token r_place r_at r_open r_made t_size t_rule i_there i_rule i_size i_year i_gone i_minds i_lasts o_parent o_kind o_number o_odds o_above o_kidCount o_lead r_tape r_steps r_ends t_steps t_ends t_stack s_sort s_size s_items i_number i_odds x_prices x_facts x_laws x_clues m_thrown m_textCount m_rule m_taped m_n m_minds m_lasts m_cutNow m_year m_ofNode m_ofDepth m_ofKids m_ofTwigs m_ofLast m_ofYear m_from m_size m_here m_token m_tokenAt m_open m_bad m_fault m_nKept m_mindsKept m_lastsKept m_cutKept m_yearKept m_ruleKept m_tokenWorth m_texts m_textSize m_tape m_parents m_kinds m_numbers m_odds m_yes m_no m_prices m_numbersKept m_oddsKept m_isThere m_sorts m_sheetSize m_items hR p1 p2
  obtain ⟨n, t, hT, hP, hX, hI, hS⟩ := id hR
  obtain ⟨par, rfl, rfl, T, K, rfl, rfl, rfl, rfl, g0, pz, hO, hy, hg⟩ := rt_open hT
  obtain ⟨x1, x2, x3, x4, ⟨u, hu, rfl, rfl⟩, x5⟩ := hX
  have hn := T.2.1
  have hn1 := T.1
  obtain ⟨s, s1, s2, s3, s4⟩ := st_now T m_cutNow g0
  obtain ⟨w, w1, w2, w3⟩ := twigs_both T (st_bd s3)
  have b5 : sp_X5_isIn p2 0 2 = 0 ↔ ¬ inI p2 0 (2 : Nat) := by rw [in5]; rfl
  have b6 : sp_X6_in (Int32.toInt64 p2) 0 2 = 0 ↔ ¬ inI p2 0 (2 : Nat) := by rw [in6]; rfl
  unfold sp_X5_asks sp_X6_asks
  rcases node_c p1 hn1 hn with ⟨j, hj, rfl⟩ | hno
  · obtain ⟨r, r1, r2⟩ := nd1 hj hn
    rw [if_neg (has1 hj hn), r1, ob_s, if_neg r2]
    by_cases h2 : inI p2 0 (2 : Nat)
    · rw [if_neg (fun g => b5.mp g h2), if_neg (fun g => b6.mp g h2), s1, s2, ob_s, ob_s]
      obtain ⟨wh, hwh, rfl⟩ := inI_nI h2 (by decide)
      by_cases b : tb s j = true
      · rw [if_neg (bit0n (by omega) b), if_neg (shr0n (by omega) b)]
        obtain ⟨c, c1, c2, c3⟩ := price_both (la := m_lasts) (yr := m_year) T s2 w1 w3 (x5 u hu) hj (show wh < 3 by omega)
        obtain ⟨k1, k2, k3⟩ := c2 t_stack x_facts
        obtain ⟨o, o1, o2⟩ := c3 m_ofNode m_ofDepth m_ofKids m_ofTwigs m_ofLast m_ofYear m_from m_size m_here m_token m_tokenAt m_open m_bad m_fault m_tokenWorth
        rw [k3, o1, ob_s, ob_s]
        exact ⟨_, _, rfl, rfl, o2.symm, hR⟩
      · rw [if_pos (bit0 (by omega) (tbf b)), if_pos (shr0 (by omega) (tbf b))]
        exact ⟨_, _, rfl, rfl, rfl, hR⟩
    · rw [if_pos (b5.mpr h2), if_pos (b6.mpr h2)]
      exact ⟨_, _, rfl, rfl, rfl, hR⟩
  · rw [if_pos (has0 hn1 hn hno), nd0 hn1 hn hno, ob_s, if_pos rfl]
    exact ⟨_, _, rfl, rfl, rfl, hR⟩
