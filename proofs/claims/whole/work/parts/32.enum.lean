/-! sets of what is in a set, by their bits -/
def sb (w x : Nat) : Bool := decide ((x &&& w) = x)
theorem sb_eq (w x : Nat) : (x &&& w) = x ↔ ((x / 2) &&& (w / 2)) = x / 2 ∧ (x % 2 = 1 → w % 2 = 1) := by
  rw [← Nat.and_div_two]
  have h1 : ((x &&& w) % 2 = 1 ↔ x % 2 = 1 ∧ w % 2 = 1) := Nat.and_mod_two_eq_one
  constructor
  · intro h
    rw [h] at h1
    exact ⟨by rw [h], fun q => (h1.mp q).2⟩
  · rintro ⟨h2, h3⟩
    generalize (x &&& w) = y at h1 h2 ⊢
    omega
theorem sb_even (w x : Nat) : sb w (2 * x) = sb (w / 2) x := by
  unfold sb
  have h := sb_eq w (2 * x)
  rw [show 2 * x / 2 = x by omega] at h
  by_cases q : (x &&& (w / 2)) = x
  · rw [decide_eq_true q, decide_eq_true (h.mpr ⟨q, by omega⟩)]
  · rw [decide_eq_false q, decide_eq_false (fun c => q (h.mp c).1)]
theorem sb_odd (w x : Nat) : sb w (2 * x + 1) = (decide (w % 2 = 1) && sb (w / 2) x) := by
  unfold sb
  have h := sb_eq w (2 * x + 1)
  rw [show (2 * x + 1) / 2 = x by omega] at h
  by_cases q : (x &&& (w / 2)) = x
  · by_cases c : w % 2 = 1
    · rw [decide_eq_true q, decide_eq_true c, decide_eq_true (h.mpr ⟨q, fun _ => c⟩)]; rfl
    · rw [decide_eq_false c, decide_eq_false (fun z => c ((h.mp z).2 (by omega)))]; rfl
  · rw [decide_eq_false q, decide_eq_false (fun c => q (h.mp c).1), Bool.and_false]
def eK (w u : Nat) : Nat := zcnt (sb w) u
def eD : Nat → Nat → Nat → Nat
  | 0, _, _ => 0
  | m + 1, w, k => if w % 2 = 1 then 2 * eD m (w / 2) (k / 2) + k % 2 else 2 * eD m (w / 2) k
theorem eK_s (w u : Nat) : eK w (u + 1) = eK w u + (if sb w u then 1 else 0) := rfl
theorem eK_even (w : Nat) : ∀ u, eK w (2 * u) = (if w % 2 = 1 then 2 * eK (w / 2) u else eK (w / 2) u) := by
  intro u
  induction u with
  | zero =>
    show 0 = _
    split <;> rfl
  | succ u ih =>
    rw [show 2 * (u + 1) = 2 * u + 1 + 1 by omega, eK_s, eK_s, ih, sb_even, sb_odd, eK_s]
    by_cases c : w % 2 = 1
    · rw [if_pos c, if_pos c, decide_eq_true c]
      cases sb (w / 2) u
      · simp
      · simp; omega
    · rw [if_neg c, if_neg c, decide_eq_false c]
      cases sb (w / 2) u <;> simp
theorem zcnt_lo (P : Nat → Bool) : ∀ n, zcnt P (n + 1) = (if P 0 then 1 else 0) + zcnt (fun i => P (i + 1)) n := by
  intro n
  induction n with
  | zero => rw [zcnt_s]; show 0 + _ = _ + 0; omega
  | succ n ih => rw [zcnt_s, ih, zcnt_s]; omega
theorem eK_full : ∀ n w, w < 2 ^ n → eK w (2 ^ n) = 2 ^ (zcnt (fun i => w.testBit i) n) := by
  intro n
  induction n with
  | zero =>
    intro w hw
    have : w = 0 := by simpa using hw
    subst this
    decide
  | succ n ih =>
    intro w hw
    rw [Nat.pow_succ] at hw
    rw [show 2 ^ (n + 1) = 2 * 2 ^ n by rw [Nat.pow_succ, Nat.mul_comm], eK_even, ih (w / 2) (by omega), zcnt_lo, Nat.testBit_zero]
    have e : zcnt (fun i => w.testBit (i + 1)) n = zcnt (fun i => (w / 2).testBit i) n := by
      apply zcnt_congr
      intro j _
      rw [Nat.testBit_div_two]
    rw [e]
    by_cases c : w % 2 = 1
    · rw [if_pos c, decide_eq_true c, if_pos rfl, Nat.add_comm, Nat.pow_succ, Nat.mul_comm]
    · rw [if_neg c, decide_eq_false c, if_neg (by decide), Nat.zero_add]
theorem eD_K : ∀ n w u, u < 2 ^ n → sb w u = true → eD n w (eK w u) = u := by
  intro n
  induction n with
  | zero =>
    intro w u hu _
    have : u = 0 := by simpa using hu
    subst this
    rfl
  | succ n ih =>
    intro w u hu hs
    rw [Nat.pow_succ] at hu
    rw [eD]
    by_cases a : u % 2 = 1
    · obtain ⟨v, rfl⟩ : ∃ v, u = 2 * v + 1 := ⟨u / 2, by omega⟩
      rw [sb_odd] at hs
      have c : w % 2 = 1 := by
        by_cases c : w % 2 = 1
        · exact c
        · rw [decide_eq_false c] at hs; exact absurd hs (by simp)
      rw [decide_eq_true c, Bool.true_and] at hs
      rw [if_pos c, eK_s, eK_even, if_pos c, sb_even, if_pos hs, show (2 * eK (w / 2) v + 1) / 2 = eK (w / 2) v by omega, ih (w / 2) v (by omega) hs]
      omega
    · obtain ⟨v, rfl⟩ : ∃ v, u = 2 * v := ⟨u / 2, by omega⟩
      rw [sb_even] at hs
      rw [eK_even]
      by_cases c : w % 2 = 1
      · rw [if_pos c, if_pos c, show 2 * eK (w / 2) v / 2 = eK (w / 2) v by omega, ih (w / 2) v (by omega) hs]
        omega
      · rw [if_neg c, if_neg c, ih (w / 2) v (by omega) hs]
theorem and2 (x y : Nat) {p q : Nat} (hp : p < 2) (hq : q < 2) : (2 * x + p) &&& (2 * y + q) = 2 * (x &&& y) + p * q := by
  have h1 : ((2 * x + p) &&& (2 * y + q)) / 2 = x &&& y := by
    rw [Nat.and_div_two, show (2 * x + p) / 2 = x by omega, show (2 * y + q) / 2 = y by omega]
  have h2 : (((2 * x + p) &&& (2 * y + q)) % 2 = 1 ↔ (2 * x + p) % 2 = 1 ∧ (2 * y + q) % 2 = 1) := Nat.and_mod_two_eq_one
  generalize ((2 * x + p) &&& (2 * y + q)) = z at h1 h2 ⊢
  rw [← h1]
  have hp' : p = 0 ∨ p = 1 := by omega
  have hq' : q = 0 ∨ q = 1 := by omega
  rcases hp' with rfl | rfl <;> rcases hq' with rfl | rfl <;> omega
theorem eD_sub : ∀ n w k, (eD n w k) &&& w = eD n w k := by
  intro n
  induction n with
  | zero => intro w k; exact Nat.zero_and w
  | succ n ih =>
    intro w k
    rw [eD]
    by_cases c : w % 2 = 1
    · rw [if_pos c]
      have := and2 (eD n (w / 2) (k / 2)) (w / 2) (p := k % 2) (q := 1) (by omega) (by omega)
      rw [show 2 * (w / 2) + 1 = w by omega, ih] at this
      rw [this, Nat.mul_one]
    · rw [if_neg c]
      have := and2 (eD n (w / 2) k) (w / 2) (p := 0) (q := 0) (by omega) (by omega)
      rw [show 2 * (w / 2) + 0 = w by omega, ih] at this
      exact this
def nxM (M w s : Nat) : Nat := ((s + (2 ^ M - w)) % 2 ^ M) &&& w
theorem nx2 {M w s b : Nat} (hb : b < 2) (hw : w < 2 ^ M) : nxM (M + 1) (2 * w + b) (2 * s + b) = 2 * nxM M w s := by
  unfold nxM
  rw [show 2 ^ (M + 1) = 2 * 2 ^ M by rw [Nat.pow_succ, Nat.mul_comm], show 2 * s + b + (2 * 2 ^ M - (2 * w + b)) = 2 * (s + (2 ^ M - w)) by omega, Nat.mul_mod_mul_left]
  have := and2 ((s + (2 ^ M - w)) % 2 ^ M) w (p := 0) (q := b) (by omega) hb
  rw [Nat.zero_mul] at this
  exact this
theorem and_cpl : ∀ M w s, w < 2 ^ M → (s &&& w) = s → ((s + (2 ^ M - 1 - w)) &&& w) = s := by
  intro M
  induction M with
  | zero =>
    intro w s hw hs
    have : w = 0 := by simpa using hw
    subst this
    rw [Nat.and_zero] at hs
    rw [Nat.and_zero, ← hs]
  | succ M ih =>
    intro w s hw hs
    rw [Nat.pow_succ] at hw
    have h := (sb_eq w s).mp hs
    have h1 := ih (w / 2) (s / 2) (by omega) h.1
    have hle : s / 2 ≤ w / 2 := by have := Nat.and_le_right (n := s / 2) (m := w / 2); rw [h.1] at this; exact this
    have e : s + (2 ^ (M + 1) - 1 - w) = 2 * (s / 2 + (2 ^ M - 1 - w / 2)) + (s % 2 + 1 - w % 2) := by
      rw [Nat.pow_succ]
      have := h.2
      omega
    have h2 := and2 (s / 2 + (2 ^ M - 1 - w / 2)) (w / 2) (p := s % 2 + 1 - w % 2) (q := w % 2) (by have := h.2; omega) (by omega)
    rw [show 2 * (w / 2) + w % 2 = w by omega, h1] at h2
    rw [e, h2]
    have h3 := h.2
    have : w % 2 = 0 ∨ w % 2 = 1 := by omega
    rcases this with c | c
    · rw [c, Nat.mul_zero]; omega
    · rw [c, Nat.mul_one]; omega
theorem nx1 {M w s : Nat} (hw : w < 2 ^ M) (hs : (s &&& w) = s) : nxM (M + 1) (2 * w + 1) (2 * s) = 2 * s + 1 := by
  unfold nxM
  have hle : s ≤ w := by have := Nat.and_le_right (n := s) (m := w); rw [hs] at this; exact this
  rw [show 2 ^ (M + 1) = 2 * 2 ^ M by rw [Nat.pow_succ, Nat.mul_comm], show 2 * s + (2 * 2 ^ M - (2 * w + 1)) = 2 * (s + (2 ^ M - 1 - w)) + 1 by omega, Nat.mod_eq_of_lt (by omega), and2 _ w (by omega) (by omega), and_cpl M w s hw hs]
theorem nx_D : ∀ n M w k, n ≤ M → w < 2 ^ n → nxM M w (eD n w k) = eD n w (k + 1) := by
  intro n
  induction n with
  | zero =>
    intro M w k _ hw
    have : w = 0 := by simpa using hw
    subst this
    unfold nxM
    rw [Nat.and_zero]; rfl
  | succ n ih =>
    intro M w k hM hw
    obtain ⟨M', rfl⟩ : ∃ M', M = M' + 1 := ⟨M - 1, by omega⟩
    rw [Nat.pow_succ] at hw
    have hw2 : w / 2 < 2 ^ n := by omega
    have hwM : w / 2 < 2 ^ M' := Nat.lt_of_lt_of_le hw2 (Nat.pow_le_pow_right (by decide) (by omega))
    rw [eD, eD]
    by_cases c : w % 2 = 1
    · rw [if_pos c, if_pos c]
      by_cases a : k % 2 = 1
      · rw [a, show (k + 1) / 2 = k / 2 + 1 by omega, show (k + 1) % 2 = 0 by omega, ← ih M' (w / 2) (k / 2) (by omega) hw2]
        have := nx2 (M := M') (w := w / 2) (s := eD n (w / 2) (k / 2)) (b := 1) (by omega) hwM
        rw [show 2 * (w / 2) + 1 = w by omega] at this
        rw [this]; rfl
      · rw [show k % 2 = 0 by omega, show (k + 1) / 2 = k / 2 by omega, show (k + 1) % 2 = 1 by omega]
        have := nx1 (M := M') (w := w / 2) (s := eD n (w / 2) (k / 2)) hwM (eD_sub _ _ _)
        rw [show 2 * (w / 2) + 1 = w by omega] at this
        exact this
    · rw [if_neg c, if_neg c, ← ih M' (w / 2) k (by omega) hw2]
      have := nx2 (M := M') (w := w / 2) (s := eD n (w / 2) k) (b := 0) (by omega) hwM
      rw [show 2 * (w / 2) + 0 = w by omega] at this
      exact this
theorem nxt_nI {s w : Nat} (hs : s < 2 ^ 32) (hw : w < 2 ^ 32) : sp_X5_nextSet (nI s) (nI w) = nI (nxM 32 w s) := by
  have hlt : nxM 32 w s < 2 ^ 32 := Nat.lt_of_le_of_lt Nat.and_le_right hw
  unfold sp_X5_nextSet
  apply Int32.toBitVec_inj.mp
  apply BitVec.eq_of_toNat_eq
  rw [pk_tn hlt, Int32.toBitVec_and, Int32.toBitVec_sub, BitVec.toNat_and, BitVec.toNat_sub, pk_tn hs, pk_tn hw]
  unfold nxM
  rw [Nat.add_comm s]
theorem shl1 : ∀ k : Fin 13, xi_shl 1 (nI k) = nI (2 ^ k.val) := by decide +kernel
theorem sb_iff {w u : Nat} (hw : w < 2 ^ 32) (hu : u < 2 ^ 32) : ((nI u &&& (nI w ^^^ (-1))) = 0 ↔ sb w u = true) := by
  rw [eq0_iff]
  unfold sb
  rw [decide_eq_true_iff]
  constructor
  · intro h
    apply Nat.eq_of_testBit_eq
    intro i
    rw [Nat.testBit_and]
    by_cases hi : i < 32
    · have := h i hi
      rw [tb_and, tb_xor, tb_m1, decide_eq_true hi, tb_nI hu, tb_nI hw] at this
      revert this
      cases u.testBit i <;> cases w.testBit i <;> simp
    · have : u.testBit i = false := Nat.testBit_lt_two_pow (Nat.lt_of_lt_of_le hu (Nat.pow_le_pow_right (by decide) (by omega)))
      rw [this]; rfl
  · intro h i hi
    have := congrArg (fun z => Nat.testBit z i) h
    simp only [Nat.testBit_and] at this
    rw [tb_and, tb_xor, tb_m1, decide_eq_true hi, tb_nI hu, tb_nI hw]
    revert this
    cases u.testBit i <;> cases w.testBit i <;> simp
/-- what is known of the sets of what is in x -/
def enP (n w : Nat) (x : Int32) : Prop := w < 2 ^ n ∧ w < 4096 ∧ x = nI w ∧ sp_X5_waysOf x = nI (eK w (2 ^ n)) ∧ eK w (2 ^ n) ≤ 4096 ∧ (∀ k, sp_X5_nextSet (nI (eD n w k)) x = nI (eD n w (k + 1))) ∧ (∀ u, u < 2 ^ n → ((nI u &&& (x ^^^ (-1))) = 0 ↔ sb w u = true)) ∧ eD n w 0 = 0 ∧ (∀ u, u < 2 ^ n → sb w u = true → eD n w (eK w u) = u ∧ eK w u < eK w (2 ^ n)) ∧ 2 ^ n ≤ 4096 ∧ xi_shl 1 (nI n) = nI (2 ^ n)
theorem eD_0 : ∀ n w, eD n w 0 = 0 := by
  intro n
  induction n with
  | zero => intro w; rfl
  | succ n ih => intro w; rw [eD, ih]; split <;> rfl
theorem en_of {n : Nat} (hn : n ≤ 12) {x : Int32} (hx : ∀ i, tb x i = true → i < n) : ∃ w, enP n w x := by
  obtain ⟨w, h1, h2, rfl⟩ := set12 hn hx
  have hp : 2 ^ n ≤ 2 ^ 12 := Nat.pow_le_pow_right (by decide) hn
  have hz := zcnt_le (fun i => w.testBit i) n
  have hf := eK_full n w h1
  have hf2 : 2 ^ (zcnt (fun i => w.testBit i) n) ≤ 2 ^ 12 := Nat.pow_le_pow_right (by decide) (by omega)
  refine ⟨w, h1, h2, rfl, ?_, by omega, fun k => ?_, fun u hu => sb_iff (by omega) (by omega), eD_0 n w, fun u hu hs => ⟨eD_K n w u hu hs, ?_⟩, by omega, shl1 ⟨n, by omega⟩⟩
  · unfold sp_X5_waysOf
    have e : zcnt (tb (nI w)) n = zcnt (fun i => w.testBit i) n := zcnt_congr n (fun j _ => tb_nI (by omega) j)
    rw [bc_val hn hx, hf, e]
    exact shl1 ⟨_, by omega⟩
  · have hle : eD n w k ≤ w := by have := Nat.and_le_right (n := eD n w k) (m := w); rw [eD_sub] at this; exact this
    rw [nxt_nI (by omega) (by omega), nx_D n 32 w k (by omega) h1]
  · have h3 : eK w (u + 1) = eK w u + 1 := by rw [eK_s, if_pos hs]
    have h4 : eK w (u + 1) ≤ eK w (2 ^ n) := zcnt_mono (sb w) _ (by omega)
    omega
theorem en_sim {A B : Type} {n w : Nat} {x : Int32} (h : enP n w x) (I : A → B → Prop) (P : Nat → Nat → Nat → A → Nat → Nat → B → Prop)
    (he : ∀ f1 f2 s a b, I a b → P (f1 + 1) (eK w (2 ^ n)) s a (f2 + 1) (2 ^ n) b)
    (hk : ∀ f1 f2 k s a u b, u < 2 ^ n → sb w u = false → I a b → P f1 k s a f2 (u + 1) b → P f1 k s a (f2 + 1) u b)
    (ht : ∀ f1 f2 k a u b, u < 2 ^ n → sb w u = true → k < eK w (2 ^ n) → k < 4096 → sp_X5_nextSet (nI u) x = nI (eD n w (k + 1)) → I a b → (∀ a' b', I a' b' → P f1 (k + 1) (eD n w (k + 1)) a' f2 (u + 1) b') → P (f1 + 1) k u a (f2 + 1) u b) :
    ∀ a b, I a b → P 5000 0 0 a 5000 0 b := by
  obtain ⟨h1, h2, h3, h4, h5, h6, h7, h8, h9, h10, h11⟩ := h
  have gen : ∀ (r u f1 f2 : Nat) (a : A) (b : B), u + r = 2 ^ n → eK w (2 ^ n) + 1 ≤ f1 + eK w u → r + 1 ≤ f2 → I a b → P f1 (eK w u) (eD n w (eK w u)) a f2 u b := by
    intro r
    induction r with
    | zero =>
      intro u f1 f2 a b hu hf1 hf2 hI
      have : u = 2 ^ n := by omega
      subst this
      obtain ⟨g1, rfl⟩ : ∃ g, f1 = g + 1 := ⟨f1 - 1, by omega⟩
      obtain ⟨g2, rfl⟩ : ∃ g, f2 = g + 1 := ⟨f2 - 1, by omega⟩
      exact he g1 g2 _ a b hI
    | succ r ih =>
      intro u f1 f2 a b hu hf1 hf2 hI
      obtain ⟨g2, rfl⟩ : ∃ g, f2 = g + 1 := ⟨f2 - 1, by omega⟩
      by_cases c : sb w u = true
      · obtain ⟨d1, d2⟩ := h9 u (by omega) c
        obtain ⟨g1, rfl⟩ : ∃ g, f1 = g + 1 := ⟨f1 - 1, by omega⟩
        have e : eK w (u + 1) = eK w u + 1 := by rw [eK_s, if_pos c]
        rw [d1]
        refine ht g1 g2 _ a u b (by omega) c d2 (by omega) (by have := h6 (eK w u); rw [d1] at this; exact this) hI (fun a' b' hI' => ?_)
        have := ih (u + 1) g1 g2 a' b' (by omega) (by omega) (by omega) hI'
        rw [e] at this
        exact this
      · have c' : sb w u = false := by revert c; cases sb w u <;> simp
        have e : eK w (u + 1) = eK w u := by rw [eK_s, if_neg c, Nat.add_zero]
        apply hk f1 g2 _ _ a u b (by omega) c' hI
        have := ih (u + 1) f1 g2 a b (by omega) (by omega) (by omega) hI
        rw [e] at this
        exact this
  intro a b hI
  have := gen (2 ^ n) 0 5000 5000 a b (by omega) (by omega) (by omega) hI
  rw [show eK w 0 = 0 from rfl, h8] at this
  exact this
