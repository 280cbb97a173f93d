/-! the vote -/
theorem i32a (a b w : Int32) : (a - b) + w = (a + w) - b := by rw [Int32.sub_eq_add_neg, Int32.sub_eq_add_neg, Int32.add_assoc, Int32.add_comm (-b) w, ← Int32.add_assoc]
theorem i32b (a b w : Int32) : (a - b) + -w = a - (b + w) := by rw [← Int32.sub_eq_add_neg, Int32.sub_sub]
def KN (n : Nat) (oK oN mK mN : Nat → Int32) : Prop := ∀ i, i < n → mK i = oK i ∧ mN i = oN i ∧ (∃ k, k ≤ 5 ∧ oK i = nI k) ∧ ∃ c, c ≤ 9 ∧ oN i = nI c
theorem half {c : Nat} (h : c < 2 ^ 31) : nI c / 2 = nI (c / 2) := pk_div (d := 2) h (by decide) (by decide)
theorem rem2 {c : Nat} (h : c < 2 ^ 31) : xi_rem (nI c) 2 = nI (c % 2) := pk_rem (d := 2) h (by decide) (by decide)
theorem weight_both {n : Nat} {oK oN mK mN : Nat → Int32} (hn : n ≤ 12) (hK : KN n oK oN mK mN) {i c : Nat} (hi : i < n) (hc : c ≤ 11) : ∃ w, w ≤ 6 ∧ sp_X1_weight (nI i) (nI c) oK oN = some (nI w) ∧ sp_X6_weighs (nI i) (nI c) mK mN = some (nI w) := by
  obtain ⟨e1, e2, ⟨k, hk, ek⟩, ⟨d, hd, ed⟩⟩ := hK i hi
  have h12 : i < 12 := by omega
  unfold sp_X1_weight sp_X6_weighs
  simp only [xo_at_nI h12 lt31, ob_s, e1, e2, ek, ed]
  have k6 : k = 0 ∨ k = 1 ∨ k = 2 ∨ k = 3 ∨ k = 4 ∨ k = 5 := by omega
  by_cases h : nI c ≤ nI d
  · rw [if_pos h, if_pos h]
    rcases k6 with rfl | rfl | rfl | rfl | rfl | rfl
    · exact ⟨1, by omega, rfl, rfl⟩
    · exact ⟨1, by omega, rfl, rfl⟩
    · exact ⟨2, by omega, rfl, rfl⟩
    · refine ⟨1 + c / 2, by omega, ?_, ?_⟩
      · rw [if_neg (by decide), if_neg (by decide), if_pos (by decide), half (by omega)]
        show some (nI 1 + nI (c / 2)) = _
        rw [nI_add]
      · rw [if_neg (by decide), if_pos (by decide), half (by omega)]
        show some (nI 1 + nI (c / 2)) = _
        rw [nI_add]
    · exact ⟨4, by omega, rfl, rfl⟩
    · exact ⟨1, by omega, rfl, rfl⟩
  · rw [if_neg h, if_neg h]
    rcases k6 with rfl | rfl | rfl | rfl | rfl | rfl
    · exact ⟨1, by omega, rfl, rfl⟩
    · exact ⟨0, by omega, rfl, rfl⟩
    · exact ⟨2, by omega, rfl, rfl⟩
    · refine ⟨0 + c / 2, by omega, ?_, ?_⟩
      · rw [if_neg (by decide), if_neg (by decide), if_pos (by decide), half (by omega)]
        show some (nI 0 + nI (c / 2)) = _
        rw [nI_add]
      · rw [if_neg (by decide), if_pos (by decide), half (by omega)]
        show some (nI 0 + nI (c / 2)) = _
        rw [nI_add]
    · exact ⟨4, by omega, rfl, rfl⟩
    · exact ⟨1, by omega, rfl, rfl⟩
theorem bI_not (b : Bool) : 1 - bI b = bI (!b) := by cases b <;> rfl
theorem even_both {n : Nat} {oK oN mK mN : Nat → Int32} (hn : n ≤ 12) (hK : KN n oK oN mK mN) (la : Int32) {i : Nat} (hi : i < n) : ∃ b, sp_X1_whenEven (nI i) la oK oN = some (bI b) ∧ sp_X6_even (nI i) la mK mN = some (bI b) := by
  obtain ⟨e1, e2, ⟨k, hk, ek⟩, ⟨d, hd, ed⟩⟩ := hK i hi
  have h12 : i < 12 := by omega
  unfold sp_X1_whenEven sp_X6_even
  simp only [xo_at_nI h12 lt31, ob_s, e1, e2, ek, ed]
  rw [bit_nI la (by omega), shr_nI la (by omega), rem2 (by omega), bI_not]
  have k6 : k = 0 ∨ k = 1 ∨ k = 2 ∨ k = 3 ∨ k = 4 ∨ k = 5 := by omega
  have d2 : nI (d % 2) = bI (decide (d % 2 = 1)) := by
    have : d % 2 = 0 ∨ d % 2 = 1 := by omega
    rcases this with h | h
    · rw [h]; rfl
    · rw [h]; rfl
  rcases k6 with rfl | rfl | rfl | rfl | rfl | rfl
  · exact ⟨tb la i, rfl, rfl⟩
  · exact ⟨false, rfl, rfl⟩
  · exact ⟨!tb la i, rfl, rfl⟩
  · exact ⟨decide (d % 2 = 1), by rw [← d2]; rfl, by rw [← d2]; rfl⟩
  · exact ⟨!tb la i, rfl, rfl⟩
  · exact ⟨!tb la i, rfl, rfl⟩
theorem gbk {la : Int32} {oK oN ld : Nat → Int32} {i a b : Nat} {ev : Bool} (hi : i < 12) (he : sp_X1_whenEven (nI i) la oK oN = some (bI ev)) (hl : ld i = nI a - nI b) (ha : a ≤ 100) (hb : b ≤ 100) : sp_X1_goesByKids (nI i) la oK oN ld = some (bI (if a = b then ev else decide (b < a))) := by
  unfold sp_X1_goesByKids
  simp only [xo_at_nI hi lt31, ob_s, he, hl]
  have z : (0 : Int32).toInt = 0 := by decide
  have t : (nI a - nI b).toInt = (a : Int) - b := pk_sub_toInt (by omega) (by omega)
  by_cases e : a = b
  · subst e
    rw [if_pos (by rw [pk_sub (Nat.le_refl _), Nat.sub_self, nI_0]), if_pos rfl]
  · rw [if_neg (fun q => by rw [q, z] at t; omega), if_neg e]
    by_cases h : b < a
    · rw [if_neg (fun q => by have := Int32.le_iff_toInt_le.mp q; rw [z, t] at this; omega), decide_eq_true h]; rfl
    · rw [if_pos (Int32.le_iff_toInt_le.mpr (by rw [z, t]; omega)), decide_eq_false h]; rfl
theorem vstep {s mind la : Int32} {oP oK oN kc ld : Nat → Int32} {i p c w : Nat} {b : Bool} (hi : i + 1 < 12) (hp : p < 12) (hP : oP (i + 1) = nI p) (ht : tb s (i + 1) = true) (hc : kc (i + 1) = nI c) (hc11 : c ≤ 11) (h0 : c = 0 → b = tb mind (i + 1)) (h1 : c ≠ 0 → sp_X1_goesByKids (nI (i + 1)) la oK oN ld = some (bI b)) (hw : sp_X1_weight (nI (i + 1)) (nI c) oK oN = some (nI w)) (m : Nat) (y : Int32) : sp_X1_vote_26 s mind la oP oK oN (m + 1) y (nI (i + 1)) kc ld = sp_X1_vote_26 s mind la oP oK oN m (y ||| xi_shl (bI b) (nI (i + 1))) (nI i) (upd kc p (kc p + 1)) (upd ld p (ld p + (if b then nI w else -nI w))) := by
  rw [sp_X1_vote_26, if_neg (nI_nle (by omega) (by omega)), if_pos (bit1 (by omega) ht), pk_m1]
  simp only [xo_at_nI hi lt31, ob_s, hc, hP, xo_at_nI hp lt31, xo_set_nI hp lt31, hw]
  by_cases z : c = 0
  · subst z
    rw [if_pos nI_0, bit_nI mind (by omega), ← h0 rfl]
    cases b
    · rw [if_neg (by decide), if_neg (by decide)]
    · rw [if_pos (by decide), if_pos (by decide)]
  · rw [if_neg (nI_ne0 (by omega) (by omega)), h1 z, ob_s]
    cases b
    · rw [if_neg (by decide), if_neg (by decide)]
    · rw [if_pos (by decide), if_pos (by decide)]
theorem gstep {n : Nat} {s mind la : Int32} {mP mK mN ye no : Nat → Int32} {i p c w a d : Nat} {b ev : Bool} (hi : i + 1 < 12) (hp : p < 12) (hP : mP (i + 1) = nI p) (ht : tb s (i + 1) = true) (hk : sp_X6_kidsOf (nI (i + 1)) s (nI n) mP = some (nI c)) (htw : sp_X6_isTwig (nI (i + 1)) s (nI n) mP = some (bI (decide (c = 0)))) (hc11 : c ≤ 11) (h0 : c = 0 → b = tb mind (i + 1)) (h1 : c ≠ 0 → b = if a = d then ev else decide (d < a)) (hev : sp_X6_even (nI (i + 1)) la mK mN = some (bI ev)) (hy : ye (i + 1) = nI a) (hno : no (i + 1) = nI d) (ha : a ≤ 100) (hd : d ≤ 100) (hw : sp_X6_weighs (nI (i + 1)) (nI c) mK mN = some (nI w)) (m : Nat) (y : Int32) : sp_X6_goes_44 s mind (nI n) la mP mK mN (m + 1) y (nI (i + 1)) ye no = sp_X6_goes_44 s mind (nI n) la mP mK mN m (y ||| xi_shl (bI b) (nI (i + 1))) (nI i) (if b then upd ye p (ye p + nI w) else ye) (if b then no else upd no p (no p + nI w)) := by
  rw [sp_X6_goes_44, if_neg (nI_pos (by omega)), if_pos (shr1 (by omega) ht), htw, ob_s, pk_m1]
  simp only [xo_at_nI hi lt31, ob_s, hP, xo_at_nI hp lt31, xo_set_nI hp lt31, hw, hk, hev, hy, hno, if_neg (nI_nle (n := i + 1) (by omega) (by omega))]
  by_cases z : c = 0
  · subst z
    rw [if_neg (by decide), shr_nI mind (by omega), ← h0 rfl]
    cases b
    · rw [if_neg (by decide), if_neg (by decide), if_neg (by decide)]
    · rw [if_pos (by decide), if_pos (by decide), if_pos (by decide)]
  · have hb := h1 z
    rw [if_pos (by rw [decide_eq_false z]; rfl)]
    by_cases e : a = d
    · subst e
      rw [if_pos rfl] at hb
      subst hb
      rw [if_pos (nI_le (Nat.le_refl _) (by omega)), if_pos (nI_le (Nat.le_refl _) (by omega))]
      cases b
      · rw [if_neg (by decide), if_neg (by decide), if_neg (by decide)]
      · rw [if_pos (by decide), if_pos (by decide), if_pos (by decide)]
    · rw [if_neg e] at hb
      by_cases g : d < a
      · rw [decide_eq_true g] at hb
        subst hb
        rw [if_neg (nI_ge g (by omega)), if_pos (by decide), if_pos rfl, if_pos rfl]
        rfl
      · rw [decide_eq_false g] at hb
        subst hb
        rw [if_pos (nI_le (by omega) (by omega)), if_neg (nI_ge (by omega) (by omega)), if_neg (by decide), if_neg (by decide), if_neg (by decide)]
        rfl
def vgI (n : Nat) (par : Nat → Nat) (s : Int32) (i : Nat) (kc ld ye no : Nat → Int32) : Prop := ∀ j, j < n → ∃ a b c, kc j = nI c ∧ c + zcnt (kid par s j) (i + 1) = zcnt (kid par s j) n ∧ ye j = nI a ∧ no j = nI b ∧ ld j = nI a - nI b ∧ a ≤ 6 * (n - 1 - i) ∧ b ≤ 6 * (n - 1 - i)
theorem shl0 (x : Int32) : xi_shl x (nI 0) = x := by
  apply tb_ext
  intro i hi
  rw [tb_shl x (by decide)]
  simp [hi]
theorem vg_loop {n : Nat} {par : Nat → Nat} {oP oA mP oK oN mK mN : Nat → Int32} (hT : TR n par oP oA mP) (hK : KN n oK oN mK mN) {s mind la : Int32} (hs0 : tb s 0 = true) : ∀ i, i < n → ∀ (f1 f2 : Nat) (y : Int32) (kc ld ye no : Nat → Int32), i + 2 ≤ f1 → i + 2 ≤ f2 → vgI n par s i kc ld ye no → ∃ Y, (∃ kc' ld', sp_X1_vote_26 s mind la oP oK oN f1 y (nI i) kc ld = some (Y, kc', ld')) ∧ (∃ ye' no', sp_X6_goes_44 s mind (nI n) la mP mK mN f2 y (nI i) ye no = some (Y, ye', no')) ∧ (∀ j, tb Y j = true → tb y j = true ∨ (j ≤ i ∧ tb s j = true)) := by
  have hn := hT.2.1
  intro i
  induction i with
  | zero =>
    intro hi f1 f2 y kc ld ye no hf1 hf2 hv
    obtain ⟨m1, rfl⟩ : ∃ m, f1 = m + 1 := ⟨f1 - 1, by omega⟩
    obtain ⟨m2, rfl⟩ : ∃ m, f2 = m + 2 := ⟨f2 - 2, by omega⟩
    obtain ⟨a, b, c, e1, e2, e3, e4, e5, e6, e7⟩ := hv 0 hi
    obtain ⟨ev, v1, v2⟩ := even_both hn hK la hi
    have hg := gbk (ld := ld) (by omega) v1 e5 (by omega) (by omega)
    refine ⟨y ||| bI (if a = b then ev else decide (b < a)), ⟨kc, ld, ?_⟩, ⟨ye, no, ?_⟩, ?_⟩
    · rw [sp_X1_vote_26, if_pos (by decide)]
      rw [nI_0] at hg
      rw [hg, ob_s]
    · have htw : sp_X6_isTwig (nI 0) s (nI n) mP = some 0 := by
        rw [twig6 hT s hi]
        unfold twf
        simp [bI]
      have fin : ∀ Z, sp_X6_goes_44 s mind (nI n) la mP mK mN (m2 + 1) Z (nI 0 + (-1)) ye no = some (Z, ye, no) := by
        intro Z
        rw [sp_X6_goes_44, if_pos (by decide)]
      rw [sp_X6_goes_44, if_neg (by decide), if_pos (shr1 (by omega) hs0), htw, ob_s, if_pos rfl]
      have h12 : 0 < 12 := by decide
      simp only [xo_at_nI h12 lt31, ob_s, e3, e4, v2, if_pos (show nI 0 ≤ 0 by decide)]
      by_cases e : a = b
      · subst e
        rw [if_pos (nI_le (Nat.le_refl _) (by omega)), if_pos (nI_le (Nat.le_refl _) (by omega)), fin, shl0, if_pos rfl]
      · rw [if_neg e]
        by_cases g : b < a
        · rw [if_neg (nI_ge g (by omega)), fin, shl0, decide_eq_true g]; rfl
        · rw [if_pos (nI_le (by omega) (by omega)), if_neg (nI_ge (by omega) (by omega)), fin, shl0, decide_eq_false g]; rfl
    · intro j hj
      rw [tb_or] at hj
      by_cases h : tb y j = true
      · exact Or.inl h
      · right
        have h' : tb y j = false := by revert h; cases tb y j <;> simp
        rw [h', Bool.false_or] at hj
        have : j = 0 := by
          revert hj
          unfold bI
          by_cases q : (if a = b then ev else decide (b < a)) = true
          · rw [if_pos q, tb_1]; intro h; exact of_decide_eq_true h
          · rw [if_neg q, tb_0]; intro h; exact absurd h (by decide)
        subst this
        exact ⟨Nat.le_refl _, hs0⟩
  | succ i ih =>
    intro hi f1 f2 y kc ld ye no hf1 hf2 hv
    obtain ⟨m1, rfl⟩ : ∃ m, f1 = m + 1 := ⟨f1 - 1, by omega⟩
    obtain ⟨m2, rfl⟩ : ∃ m, f2 = m + 1 := ⟨f2 - 1, by omega⟩
    obtain ⟨p1, p2, p3, p4⟩ := hT.2.2.2 (i + 1) (by omega) hi
    by_cases t : tb s (i + 1) = true
    · obtain ⟨a, b, c, e1, e2, e3, e4, e5, e6, e7⟩ := hv (i + 1) hi
      obtain ⟨ev, v1, v2⟩ := even_both hn hK la hi
      have hc0 : zcnt (kid par s (i + 1)) (i + 1 + 1) = 0 := kid_low hT s hi
      have hc : c = zcnt (kid par s (i + 1)) n := by omega
      have hc11 : c ≤ 11 := by
        have h1 : zcnt (kid par s (i + 1)) n ≤ n - 1 := by
          obtain ⟨n', rfl⟩ : ∃ n', n = n' + 1 := ⟨n - 1, by omega⟩
          have hz : zcnt (kid par s (i + 1)) 1 = 0 := by
            rw [zcnt_s]
            have : ¬ kid par s (i + 1) 0 = true := by unfold kid; simp
            rw [if_neg this]; rfl
          have gen : ∀ q, zcnt (kid par s (i + 1)) (q + 1) ≤ q := by
            intro q
            induction q with
            | zero => rw [hz]; exact Nat.le_refl _
            | succ q ihq => rw [zcnt_s]; split <;> omega
          exact gen n'
        omega
      obtain ⟨w, w1, w2, w3⟩ := weight_both hn hK hi hc11
      have hg := gbk (ld := ld) (by omega) v1 e5 (by omega) (by omega)
      have hkd := kids6 hT s hi
      rw [← hc] at hkd
      have htw := twig6 hT s hi
      have tww : twf n par s (i + 1) = decide (c = 0) := by
        unfold twf
        rw [t, ← hc]
        simp
      rw [tww] at htw
      have hw : ∃ B : Bool, (c = 0 → B = tb mind (i + 1)) ∧ (c ≠ 0 → B = if a = b then ev else decide (b < a)) := by
        by_cases z : c = 0
        · exact ⟨_, fun _ => rfl, fun q => absurd z q⟩
        · exact ⟨_, fun q => absurd q z, fun _ => rfl⟩
      obtain ⟨B, hB0, hB1⟩ := hw
      rw [vstep (by omega) (by omega) p2 t e1 hc11 hB0 (fun q => by rw [hB1 q]; exact hg) w2, gstep (by omega) (by omega) p3 t hkd htw hc11 hB0 hB1 v2 e3 e4 (by omega) (by omega) w3]
      have nx : vgI n par s i (upd kc (par (i + 1)) (kc (par (i + 1)) + 1)) (upd ld (par (i + 1)) (ld (par (i + 1)) + (if B then nI w else -nI w))) (if B then upd ye (par (i + 1)) (ye (par (i + 1)) + nI w) else ye) (if B then no else upd no (par (i + 1)) (no (par (i + 1)) + nI w)) := by
        intro j hj
        obtain ⟨a', b', c', g1, g2, g3, g4, g5, g6, g7⟩ := hv j hj
        rw [zcnt_s] at g2
        by_cases e : j = par (i + 1)
        · have hkj : kid par s j (i + 1) = true := by unfold kid; simp [t, e]
          rw [if_pos hkj] at g2
          subst e
          cases B
          · refine ⟨a', b' + w, c' + 1, ?_, by omega, ?_, ?_, ?_, by omega, by omega⟩
            · rw [pk_us, g1, nI_1]
            · rw [if_neg (by decide)]; exact g3
            · rw [if_neg (by decide), pk_us, g4, nI_add]
            · rw [pk_us, g5, if_neg (by decide), ← nI_add, i32b]
          · refine ⟨a' + w, b', c' + 1, ?_, by omega, ?_, ?_, ?_, by omega, by omega⟩
            · rw [pk_us, g1, nI_1]
            · rw [if_pos rfl, pk_us, g3, nI_add]
            · rw [if_pos rfl]; exact g4
            · rw [pk_us, g5, if_pos rfl, ← nI_add, i32a]
        · have hkj : ¬ kid par s j (i + 1) = true := by unfold kid; simp [Ne.symm e]
          rw [if_neg hkj] at g2
          refine ⟨a', b', c', ?_, by omega, ?_, ?_, ?_, by omega, by omega⟩
          · rw [pk_un e]; exact g1
          · cases B
            · exact g3
            · rw [if_pos rfl, pk_un e]; exact g3
          · cases B
            · rw [if_neg (by decide), pk_un e]; exact g4
            · exact g4
          · rw [pk_un e]; exact g5
      obtain ⟨Y, y1, y2, y3⟩ := ih (by omega) m1 m2 (y ||| xi_shl (bI B) (nI (i + 1))) _ _ _ _ (by omega) (by omega) nx
      refine ⟨Y, y1, y2, fun j hj => ?_⟩
      rcases y3 j hj with q | ⟨q1, q2⟩
      · rw [tb_or, tb_bIs B (by omega)] at q
        by_cases h : tb y j = true
        · exact Or.inl h
        · right
          have h' : tb y j = false := by revert h; cases tb y j <;> simp
          rw [h'] at q
          have : j = i + 1 := by
            by_cases e : j = i + 1
            · exact e
            · rw [decide_eq_false e] at q
              simp at q
          subst this
          exact ⟨Nat.le_refl _, t⟩
      · exact Or.inr ⟨by omega, q2⟩
    · have t' : tb s (i + 1) = false := by revert t; cases tb s (i + 1) <;> simp
      have nx : vgI n par s i kc ld ye no := by
        intro j hj
        obtain ⟨a', b', c', g1, g2, g3, g4, g5, g6, g7⟩ := hv j hj
        have hkj : ¬ kid par s j (i + 1) = true := by unfold kid; simp [t']
        rw [zcnt_s, if_neg hkj] at g2
        exact ⟨a', b', c', g1, by omega, g3, g4, g5, by omega, by omega⟩
      obtain ⟨Y, y1, y2, y3⟩ := ih (by omega) m1 m2 y kc ld ye no (by omega) (by omega) nx
      refine ⟨Y, ?_, ?_, fun j hj => ?_⟩
      · rw [sp_X1_vote_26, if_neg (nI_nle (by omega) (by omega)), if_neg (bit1n (by omega) t'), pk_m1]
        exact y1
      · rw [sp_X6_goes_44, if_neg (nI_pos (by omega)), if_neg (shr1n (by omega) t'), pk_m1]
        exact y2
      · rcases y3 j hj with q | ⟨q1, q2⟩
        · exact Or.inl q
        · exact Or.inr ⟨by omega, q2⟩
theorem fill7 : ∀ (k i fuel : Nat) (f : Nat → Int32), i + k = 12 → k + 1 ≤ fuel → (∀ j, j < i → f j = 0) → ∃ g, sp_J7_fill_53178_p7_5 0 12 fuel (nI i) f = some g ∧ ∀ j, j < 12 → g j = 0 := by
  intro k
  induction k with
  | zero =>
    intro i fuel f hi hf h
    obtain ⟨m, rfl⟩ : ∃ m, fuel = m + 1 := ⟨fuel - 1, by omega⟩
    have : i = 12 := by omega
    subst this
    exact ⟨f, by rw [sp_J7_fill_53178_p7_5, if_pos (by decide)], h⟩
  | succ k ih =>
    intro i fuel f hi hf h
    obtain ⟨m, rfl⟩ : ∃ m, fuel = m + 1 := ⟨fuel - 1, by omega⟩
    rw [sp_J7_fill_53178_p7_5, if_neg (show ¬ (12 : Int32) ≤ nI i from nI_ge (b := 12) (by omega) (by decide)), xo_set_nI (by omega) lt31, ob_s, nI_1]
    apply ih (i + 1) m _ (by omega) (by omega)
    intro j hj
    by_cases e : j = i
    · subst e; rw [pk_us]
    · rw [pk_un e]; exact h j (by omega)
theorem fill8 : ∀ (k i fuel : Nat) (f : Nat → Int32), i + k = 12 → k + 1 ≤ fuel → (∀ j, j < i → f j = 0) → ∃ g, sp_J7_fill_53178_p8_5 0 12 fuel (nI i) f = some g ∧ ∀ j, j < 12 → g j = 0 := by
  intro k
  induction k with
  | zero =>
    intro i fuel f hi hf h
    obtain ⟨m, rfl⟩ : ∃ m, fuel = m + 1 := ⟨fuel - 1, by omega⟩
    have : i = 12 := by omega
    subst this
    exact ⟨f, by rw [sp_J7_fill_53178_p8_5, if_pos (by decide)], h⟩
  | succ k ih =>
    intro i fuel f hi hf h
    obtain ⟨m, rfl⟩ : ∃ m, fuel = m + 1 := ⟨fuel - 1, by omega⟩
    rw [sp_J7_fill_53178_p8_5, if_neg (show ¬ (12 : Int32) ≤ nI i from nI_ge (b := 12) (by omega) (by decide)), xo_set_nI (by omega) lt31, ob_s, nI_1]
    apply ih (i + 1) m _ (by omega) (by omega)
    intro j hj
    by_cases e : j = i
    · subst e; rw [pk_us]
    · rw [pk_un e]; exact h j (by omega)
theorem goes5 {n : Nat} {s mind x la : Int32} {mP mK mN : Nat → Int32} (hn : n ≤ 12) : ∀ (k i fuel : Nat) (ye no : Nat → Int32), i + k = n → k + 1 ≤ fuel → (∀ j, j < i → ye j = 0 ∧ no j = 0) → ∃ f g, sp_X6_goes_5 s mind x (nI n) la mP mK mN fuel (nI i) ye no = sp_X6_goes_44 s mind (nI n) la mP mK mN 5000 x (nI n - 1) f g ∧ ∀ j, j < n → f j = 0 ∧ g j = 0 := by
  intro k
  induction k with
  | zero =>
    intro i fuel ye no hi hf h
    obtain ⟨m, rfl⟩ : ∃ m, fuel = m + 1 := ⟨fuel - 1, by omega⟩
    have : i = n := by omega
    subst this
    exact ⟨ye, no, by rw [sp_X6_goes_5, if_pos (nI_le (Nat.le_refl _) (by omega))], h⟩
  | succ k ih =>
    intro i fuel ye no hi hf h
    obtain ⟨m, rfl⟩ : ∃ m, fuel = m + 1 := ⟨fuel - 1, by omega⟩
    rw [sp_X6_goes_5, if_neg (nI_ge (by omega) (by omega)), xo_set_nI (by omega) lt31, ob_s, xo_set_nI (by omega) lt31, ob_s, nI_1]
    apply ih (i + 1) m _ _ (by omega) (by omega)
    intro j hj
    by_cases e : j = i
    · subst e; rw [pk_us, pk_us]; exact ⟨rfl, rfl⟩
    · rw [pk_un e, pk_un e]; exact h j (by omega)
theorem vote_both {n : Nat} {par : Nat → Nat} {oP oA mP oK oN mK mN : Nat → Int32} (hT : TR n par oP oA mP) (hK : KN n oK oN mK mN) (s mind la : Int32) (hs0 : tb s 0 = true) : ∃ Y, (∀ kc ld, ∃ kc' ld', sp_X1_vote s mind (nI n) la oP oK oN kc ld = some (Y, kc', ld')) ∧ (∀ ye no, ∃ ye' no', sp_X6_goes s mind (nI n) la mP mK mN ye no = some (Y, ye', no')) ∧ (∀ j, tb Y j = true → j < n ∧ tb s j = true) := by
  have hn := hT.2.1
  have hn1 := hT.1
  have hm : nI n - 1 = nI (n - 1) := pk_sub (b := 1) hn1
  have key : ∀ kc ld ye no, ∃ Y, (∃ kc' ld', sp_X1_vote s mind (nI n) la oP oK oN kc ld = some (Y, kc', ld')) ∧ (∃ ye' no', sp_X6_goes s mind (nI n) la mP mK mN ye no = some (Y, ye', no')) ∧ (∀ j, tb Y j = true → j < n ∧ tb s j = true) := by
    intro kc ld ye no
    obtain ⟨g7, a1, a2⟩ := fill7 12 0 5000 kc rfl (by decide) (fun j hj => absurd hj (by omega))
    obtain ⟨g8, b1, b2⟩ := fill8 12 0 5000 ld rfl (by decide) (fun j hj => absurd hj (by omega))
    obtain ⟨f, g, c1, c2⟩ := goes5 (s := s) (mind := mind) (x := 0) (la := la) (mP := mP) (mK := mK) (mN := mN) hn n 0 5000 ye no (by omega) (by omega) (fun j hj => absurd hj (by omega))
    have hv : vgI n par s (n - 1) g7 g8 f g := by
      intro j hj
      refine ⟨0, 0, 0, ?_, ?_, ?_, ?_, ?_, by omega, by omega⟩
      · rw [a2 j (by omega)]; rfl
      · rw [show n - 1 + 1 = n by omega]; omega
      · rw [(c2 j hj).1]; rfl
      · rw [(c2 j hj).2]; rfl
      · rw [b2 j (by omega)]; rfl
    obtain ⟨Y, y1, y2, y3⟩ := vg_loop (mind := mind) (la := la) hT hK hs0 (n - 1) (by omega) 5000 5000 0 g7 g8 f g (by omega) (by omega) hv
    refine ⟨Y, ?_, ?_, fun j hj => ?_⟩
    · unfold sp_X1_vote sp_J7_fill_53178_p7 sp_J7_fill_53178_p8
      rw [nI_0] at a1 b1
      rw [a1, ob_s, b1, ob_s, hm]
      exact y1
    · unfold sp_X6_goes
      rw [nI_0, hm] at c1
      rw [c1]
      exact y2
    · rcases y3 j hj with q | ⟨q1, q2⟩
      · rw [tb_0] at q; exact absurd q (by decide)
      · exact ⟨by omega, q2⟩
  obtain ⟨Y, ⟨k1, l1, e1⟩, ⟨k2, l2, e2⟩, e3⟩ := key (fun _ => 0) (fun _ => 0) (fun _ => 0) (fun _ => 0)
  refine ⟨Y, fun kc ld => ?_, fun ye no => ?_, e3⟩
  · obtain ⟨Y', ⟨k3, l3, f1⟩, ⟨k4, l4, f2⟩, _⟩ := key kc ld (fun _ => 0) (fun _ => 0)
    rw [e2] at f2
    have : Y' = Y := by
      have := Option.some.inj f2
      exact (congrArg Prod.fst this).symm
    rw [this] at f1
    exact ⟨k3, l3, f1⟩
  · obtain ⟨Y', ⟨k3, l3, f1⟩, ⟨k4, l4, f2⟩, _⟩ := key (fun _ => 0) (fun _ => 0) ye no
    rw [e1] at f1
    have : Y' = Y := by
      have := Option.some.inj f1
      exact (congrArg Prod.fst this).symm
    rw [this] at f2
    exact ⟨k4, l4, f2⟩
