/-! steps that a text is kept as: what they leave on the stack -/
def EM (f st : Nat → Int32) (a b : Nat) (v : Int32) : Prop := a < b ∧ ∀ (S : Nat → Int32) (base T d fuel : Nat) (stk : Nat → Int32), (∀ j, a ≤ j → j < b → S (base + j) = st j) → base + b ≤ T → T ≤ 960 → d + (b - a) ≤ 160 → ∃ stk', (∀ j, j < d → stk' j = stk j) ∧ stk' d = v ∧ sp_X4_value_p25_52 (nI T) S f (fuel + (b - a)) (nI d) (nI (base + a)) stk = sp_X4_value_p25_52 (nI T) S f fuel (nI (d + 1)) (nI (base + b)) stk'
theorem em_congr {f st st' : Nat → Int32} {a b : Nat} {v : Int32} (h : EM f st a b v) (e : ∀ j, a ≤ j → j < b → st' j = st j) : EM f st' a b v := by
  refine ⟨h.1, fun S base T d fuel stk hS hT hT2 hd => ?_⟩
  exact h.2 S base T d fuel stk (fun j j1 j2 => by rw [hS j j1 j2, e j j1 j2]) hT hT2 hd
theorem em_num {f st : Nat → Int32} {a tv : Nat} (h : st a = nI tv) (hv : tv ≤ 9999) : EM f st a (a + 1) (nI tv) := by
  refine ⟨by omega, fun S base T d fuel stk hS hT hT2 hd => ⟨upd stk d (nI tv), fun j hj => pk_un (by omega), pk_us, ?_⟩⟩
  have e1 : a + 1 - a = 1 := by omega
  rw [e1, sp_X4_value_p25_52, if_neg (nI_ge (by omega) (by omega)), xo_at_nI (by omega) (by decide), ob_s, hS a (by omega) (by omega), h, if_neg (show ¬ (10006 : Int32) ≤ nI tv from nI_ge (b := 10006) (by omega) (by decide)), if_pos (show nI d < (160 : Int32) from nI_lt (b := 160) (by omega) (by decide)), if_neg (show ¬ (10000 : Int32) ≤ nI tv from nI_ge (b := 10000) (by omega) (by decide)), xo_set_nI (by omega) (by decide), ob_s, nI_1, nI_1, Nat.add_assoc]
theorem em_name {f st : Nat → Int32} {a i : Nat} (h : st a = nI (10000 + i)) (hi : i < 6) : EM f st a (a + 1) (f i) := by
  refine ⟨by omega, fun S base T d fuel stk hS hT hT2 hd => ⟨upd stk d (f i), fun j hj => pk_un (by omega), pk_us, ?_⟩⟩
  have e1 : a + 1 - a = 1 := by omega
  have e2 : nI (10000 + i) - 10000 = nI i := by
    show nI (10000 + i) - nI 10000 = _
    rw [pk_sub (by omega), Nat.add_sub_cancel_left]
  rw [e1, sp_X4_value_p25_52, if_neg (nI_ge (by omega) (by omega)), xo_at_nI (by omega) (by decide), ob_s, hS a (by omega) (by omega), h, if_neg (show ¬ (10006 : Int32) ≤ nI (10000 + i) from nI_ge (b := 10006) (by omega) (by decide)), if_pos (show nI d < (160 : Int32) from nI_lt (b := 160) (by omega) (by decide)), if_pos (show (10000 : Int32) ≤ nI (10000 + i) from nI_le (a := 10000) (by omega) (by omega)), e2, xo_at_nI hi (by decide), ob_s, xo_set_nI (by omega) (by decide), ob_s, nI_1, nI_1, Nat.add_assoc]
theorem em_neg {f st : Nat → Int32} {a b : Nat} {v : Int32} (E : EM f st a b v) (h : st b = nI 10030) : EM f st a (b + 1) (-v) := by
  have hab := E.1
  refine ⟨by omega, fun S base T d fuel stk hS hT hT2 hd => ?_⟩
  obtain ⟨stk', s1, s2, s3⟩ := E.2 S base T d (fuel + 1) stk (fun j j1 j2 => hS j j1 (by omega)) (by omega) hT2 (by omega)
  refine ⟨upd stk' d (-v), fun j hj => by rw [pk_un (by omega)]; exact s1 j hj, pk_us, ?_⟩
  have e1 : fuel + (b + 1 - a) = fuel + 1 + (b - a) := by omega
  rw [e1, s3, sp_X4_value_p25_52, if_neg (nI_ge (by omega) (by omega)), xo_at_nI (by omega) (by decide), ob_s, hS b (by omega) (by omega), h, if_pos (show (10006 : Int32) ≤ nI 10030 by decide), if_pos (show nI 10030 = (10030 : Int32) from rfl), if_pos (show (1 : Int32) ≤ nI (d + 1) from nI_le (a := 1) (by omega) (by omega)), nI_pred, xo_at_nI (by omega) (by decide), ob_s, if_pos (show nI 10030 = (10030 : Int32) from rfl), xo_set_nI (by omega) (by decide), ob_s, s2, nI_1, Nat.add_assoc]
theorem em_not {f st : Nat → Int32} {a b : Nat} {v : Int32} (E : EM f st a b v) (h : st b = nI 10015) : EM f st a (b + 1) (if v = 0 then 1 else 0) := by
  have hab := E.1
  refine ⟨by omega, fun S base T d fuel stk hS hT hT2 hd => ?_⟩
  obtain ⟨stk', s1, s2, s3⟩ := E.2 S base T d (fuel + 1) stk (fun j j1 j2 => hS j j1 (by omega)) (by omega) hT2 (by omega)
  refine ⟨upd stk' d (if v = 0 then 1 else 0), fun j hj => by rw [pk_un (by omega)]; exact s1 j hj, pk_us, ?_⟩
  have e1 : fuel + (b + 1 - a) = fuel + 1 + (b - a) := by omega
  rw [e1, s3, sp_X4_value_p25_52, if_neg (nI_ge (by omega) (by omega)), xo_at_nI (by omega) (by decide), ob_s, hS b (by omega) (by omega), h, if_pos (show (10006 : Int32) ≤ nI 10015 by decide), if_neg (show ¬ nI 10015 = (10030 : Int32) by decide), if_pos (show nI 10015 = (10015 : Int32) from rfl), if_pos (show (1 : Int32) ≤ nI (d + 1) from nI_le (a := 1) (by omega) (by omega)), nI_pred, xo_at_nI (by omega) (by decide), ob_s, if_neg (show ¬ nI 10015 = (10030 : Int32) by decide), s2]
  by_cases z : v = 0
  · rw [if_pos z, if_pos z, xo_set_nI (by omega) (by decide), ob_s, nI_1, Nat.add_assoc]; rfl
  · rw [if_neg z, if_neg z, xo_set_nI (by omega) (by decide), ob_s, nI_1, Nat.add_assoc]; rfl
theorem em_bin {f st : Nat → Int32} {a b c : Nat} {v w : Int32} {o : Nat} (E : EM f st a b v) (F : EM f st b c w) (h : st c = nI o) (ho : o = 10013 ∨ o = 10014 ∨ (10023 ≤ o ∧ o ≤ 10027)) : EM f st a (c + 1) (sp_X4_joined (nI o) v w) := by
  have hab := E.1
  have hbc := F.1
  refine ⟨by omega, fun S base T d fuel stk hS hT hT2 hd => ?_⟩
  obtain ⟨stk1, s1, s2, s3⟩ := E.2 S base T d (fuel + 1 + (c - b)) stk (fun j j1 j2 => hS j j1 (by omega)) (by omega) hT2 (by omega)
  obtain ⟨stk2, t1, t2, t3⟩ := F.2 S base T (d + 1) (fuel + 1) stk1 (fun j j1 j2 => hS j (by omega) (by omega)) (by omega) hT2 (by omega)
  have t4 : stk2 d = v := by rw [t1 d (by omega), s2]
  refine ⟨upd stk2 d (sp_X4_joined (nI o) v w), fun j hj => by rw [pk_un (by omega), t1 j (by omega)]; exact s1 j hj, pk_us, ?_⟩
  have e1 : fuel + (c + 1 - a) = fuel + 1 + (c - b) + (b - a) := by omega
  have e2 : nI (d + 1 + 1) + (-1) = nI (d + 1) := by
    rw [← Int32.sub_eq_add_neg]; exact nI_pred (d + 1)
  rw [e1, s3, t3, sp_X4_value_p25_52, if_neg (nI_ge (by omega) (by omega)), xo_at_nI (by omega) (by decide), ob_s, hS c (by omega) (by omega), h, if_pos (show (10006 : Int32) ≤ nI o from nI_le (a := 10006) (by omega) (by omega)), if_neg (show ¬ nI o = (10030 : Int32) from tne (c := 10030) (by omega) (by omega) (by decide)), if_neg (show ¬ nI o = (10015 : Int32) from tne (c := 10015) (by omega) (by omega) (by decide)), if_pos (show (2 : Int32) ≤ nI (d + 1 + 1) from nI_le (a := 2) (by omega) (by omega)), e2, nI_pred, xo_at_nI (by omega) (by decide), ob_s, xo_at_nI (by omega) (by decide), ob_s, xo_set_nI (by omega) (by decide), ob_s, t2, t4, nI_1, Nat.add_assoc]
def itr (g : Int32 → Int32) : Nat → Int32 → Int32
  | 0, v => v
  | c + 1, v => g (itr g c v)
theorem mk_go {mk : Nat} (h : mk < 160) (x : Int32) (st : Nat → Int32) : sp_X2_make x (nI mk) st = some (nI (mk + 1), upd st mk x) := by
  unfold sp_X2_make
  rw [if_neg (show ¬ (160 : Int32) ≤ nI mk from nI_ge (b := 160) h (by decide)), xo_set_nI h (by decide), ob_s, nI_1]
/-- what closes() makes of c openings -/
def clS (o : Int32) : Nat → Nat → (Nat → Int32) → (Nat → Int32)
  | 0, _, st => st
  | c + 1, b, st => clS o c (b + 1) (upd st b o)
theorem clS_lo {o : Int32} : ∀ c mk st j, j < mk → clS o c mk st j = st j := by
  intro c
  induction c with
  | zero => intro mk st j _; rfl
  | succ c ih => intro mk st j hj; rw [clS, ih (mk + 1) _ j (by omega), pk_un (by omega)]
theorem closes_go {o : Int32} {N : Nat} (hN : N < 2 ^ 31) : ∀ c u mk k st fuel, u + c = N → mk + c ≤ 160 → c ≤ k → c + 1 ≤ fuel → sp_X2_closes_2 (nI N) o fuel (nI u) (nI k) (nI mk) st = some (1, nI (k - c), nI (mk + c), clS o c mk st) := by
  intro c
  induction c with
  | zero =>
    intro u mk k st fuel hu hm hk hf
    obtain ⟨m, rfl⟩ : ∃ m, fuel = m + 1 := ⟨fuel - 1, by omega⟩
    rw [sp_X2_closes_2, if_pos (nI_le (by omega) (by omega))]
    rfl
  | succ c ih =>
    intro u mk k st fuel hu hm hk hf
    obtain ⟨m, rfl⟩ : ∃ m, fuel = m + 1 := ⟨fuel - 1, by omega⟩
    have e : nI k - 1 = nI (k - 1) := by
      obtain ⟨k', rfl⟩ : ∃ k', k = k' + 1 := ⟨k - 1, by omega⟩
      exact nI_pred k'
    rw [sp_X2_closes_2, if_neg (nI_ge (by omega) (by omega)), mk_go (by omega), ob_s, nI_1, e, ih (u + 1) (mk + 1) (k - 1) _ m (by omega) (by omega) (by omega) (by omega), clS, show k - 1 - c = k - (c + 1) by omega, show mk + 1 + c = mk + (c + 1) by omega]
theorem cl_em {f : Nat → Int32} {o : Int32} {g : Int32 → Int32} (hg : ∀ (st : Nat → Int32) a b v, EM f st a b v → st b = o → EM f st a (b + 1) (g v)) : ∀ c st a b v i, EM f st a b (itr g i v) → EM f (clS o c b st) a (b + c) (itr g (i + c) v) := by
  intro c
  induction c with
  | zero => intro st a b v i h; exact h
  | succ c ih =>
    intro st a b v i h
    have h2 : EM f (upd st b o) a (b + 1) (itr g (i + 1) v) := hg _ a b _ (em_congr h (fun j j1 j2 => pk_un (by omega))) pk_us
    have := ih (upd st b o) a (b + 1) v (i + 1) h2
    rw [clS, show b + (c + 1) = b + 1 + c by omega, show i + (c + 1) = i + 1 + c by omega]
    exact this
