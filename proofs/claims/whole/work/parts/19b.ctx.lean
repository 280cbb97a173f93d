set_option maxHeartbeats 1000000 in
set_option maxRecDepth 100000 in
theorem lw_ctx {p : Program} {s : State} {m : MethodId} {meth : Method} {c : Code} {b L : Nat} {xs : Nat → Int32} (C0 : lw_At p s m meth c b L xs) : ∃ (D : va_G) (g : xt_G), va_K D vwCl (xt_tys g) s ∧ xt_Z g (fun q : Nat => s.heap.size ≤ q) s := by
  obtain ⟨hx, hb, hr, hml, hown, hts, hX, hbl, hlocks, hgv⟩ := id C0
  have hts' : ∀ w ∈ xt_tbl, w.before #[Value.ref b] s = true := fun w hw => hts w (xt_tbl_sub hw)
  have hA : ∀ q : Nat, s.heap.size ≤ q → (fun q : Nat => s.heap.size ≤ q) q := fun _ h => h
  have hnA : ∀ a : Nat, a < s.heap.size → ¬ (fun q : Nat => s.heap.size ≤ q) a := fun a h => Nat.not_le.mpr h
  obtain ⟨c0, iS0, hKn0⟩ := u_known (C := RX0) (T := TX0) (N := 9) (n := 9) hts' inX0 (hts' (.instantiable RX0 9) (tb1 168 rfl rfl))
  obtain ⟨c1, iS1, hKn1⟩ := u_known (C := RX1) (T := TX1) (N := 12) (n := 12) hts' inX1 (hts' (.instantiable RX1 12) (tb1 25 rfl rfl))
  obtain ⟨c2, iS2, hKn2⟩ := u_known (C := RX2) (T := TX2) (N := 9) (n := 9) hts' inX2 (hts' (.instantiable RX2 9) (tb1 85 rfl rfl))
  obtain ⟨c3, iS3, hKn3⟩ := u_known (C := RX3) (T := TX3) (N := 3) (n := 3) hts' inX3 (hts' (.instantiable RX3 3) (tb1 147 rfl rfl))
  obtain ⟨c4, iS4, hKn4⟩ := u_known (C := RX4) (T := TX4) (N := 5) (n := 5) hts' inX4 (hts' (.instantiable RX4 5) (tb1 123 rfl rfl))
  obtain ⟨c5, iS5, hKn5⟩ := u_known (C := RX5) (T := TX5) (N := 9) (n := 9) hts' inX5 (hts' (.instantiable RX5 9) (tb1 17 rfl rfl))
  obtain ⟨c6, iS6, hKn6⟩ := u_known (C := RX6) (T := TX6) (N := 46) (n := 46) hts' inX6 (hts' (.instantiable RX6 46) (tb3 234 rfl rfl))
  obtain ⟨D, hKc⟩ : ∃ D : va_G, ∀ (k : Nat) (q : vw_C), vwCl[k]? = some q → u_Kn s q.1 q.2.1 q.2.2 (D.1 k) (D.2 k) := by
    refine ⟨(fun k => if k = 0 then c0 else if k = 1 then c1 else if k = 2 then c2 else if k = 3 then c3 else if k = 4 then c4 else if k = 5 then c5 else c6, fun k => if k = 0 then iS0 else if k = 1 then iS1 else if k = 2 then iS2 else if k = 3 then iS3 else if k = 4 then iS4 else if k = 5 then iS5 else iS6), ?_⟩
    intro k q hq
    match k, hq with
    | 0, hq => cases hq; exact hKn0
    | 1, hq => cases hq; exact hKn1
    | 2, hq => cases hq; exact hKn2
    | 3, hq => cases hq; exact hKn3
    | 4, hq => cases hq; exact hKn4
    | 5, hq => cases hq; exact hKn5
    | 6, hq => cases hq; exact hKn6
    | k + 7, hq => simp [vwCl] at hq
  obtain ⟨cI, kI, compI, hfI, hkI, hkindI⟩ := Cond.arrayClass_spec (hts' (.arrayClass .int) xn_acI)
  obtain ⟨cZ, kZ, compZ, hfZ, hkZ, hkindZ⟩ := Cond.arrayClass_spec (hts' (.arrayClass .boolean) xn_acZ)
  have hs : ∀ c ∈ lw_flat, c.before #[Value.ref b] s = true := flat_of_before _ hgv
  obtain ⟨adK, adV, hSt, hev⟩ := vk_Sof (args := #[Value.ref b]) (s := s) (N := 13) (tm := lw_tm) (len := xt_len) (byt := xt_byt) (A := (fun q : Nat => s.heap.size ≤ q)) (by decide) (fun i hi => hs _ (lw_f1 i hi)) (fun i hi => hs _ (lw_f2 i hi)) (fun i hi => hs _ (lw_f3 i hi)) (fun i hi => hs _ (lw_f4 i hi)) (fun i hi j hj => hs _ (lw_f5 i hi j hj)) (fun i j hi hj hij => (lw_f6 i hi j hj hij).imp (fun h => hs _ h) (fun h => hs _ h)) hnA
  obtain ⟨fz, hfz, hfc⟩ : ∃ fz : Value, va_Z "jdk/internal/util/Preconditions" "SIOOBE_FORMATTER" "Ljava/util/function/BiFunction;" fz (fun q : Nat => s.heap.size ≤ q) s s.heap ∧ fz.category = 1 := by
    rcases va_Zqof (hts _ lw_g3.2.2.1) (hts _ lw_g3.2.2.2) (hs _ lw_f8) hnA with h | ⟨t, h⟩
    · exact ⟨_, h, rfl⟩
    · exact ⟨_, h, rfl⟩
  obtain ⟨g, hg1, hg2, hg3⟩ : ∃ g : xt_G, (∀ i, i < 13 → g.1 (1000 + i) = adK i) ∧ (∀ i, i < 13 → g.1 (2000 + i) = adV i) ∧ g.2 = (fun t => if t = 0 then cI else cZ, fz) := by
    refine ⟨(fun k => if k < 2000 then adK (k - 1000) else adV (k - 2000), fun t => if t = 0 then cI else cZ, fz), fun i hi => ?_, fun i hi => ?_, rfl⟩
    · show (if 1000 + i < 2000 then adK (1000 + i - 1000) else adV (1000 + i - 2000)) = adK i
      rw [if_pos (by omega), Nat.add_sub_cancel_left]
    · show (if 2000 + i < 2000 then adK (2000 + i - 1000) else adV (2000 + i - 2000)) = adV i
      rw [if_neg (by omega), Nat.add_sub_cancel_left]
  have hK : va_K D vwCl (xt_tys g) s := by
    refine ⟨hKc, fun k q hq => ?_⟩
    match k, hq with
    | 0, hq => cases hq; rw [hg3]; exact ⟨fun N z => ⟨(fun k h => by cases h), kI, hkI, compI, hkindI⟩, hfI⟩
    | 1, hq => cases hq; rw [hg3]; exact ⟨fun N z => ⟨(fun k h => by cases h), kZ, hkZ, compZ, hkindZ⟩, hfZ⟩
    | k + 2, hq => simp [xt_tys] at hq
  have hZ : xt_Z g (fun q : Nat => s.heap.size ≤ q) s := by
    refine ⟨lw_vkS hg1 hg2 hSt, fun i t ht => ?_, fun t ht => va_Nw.of rfl (hts _ (lw_g2 t ht)), va_Zof (hts _ lw_g3.1) (hts _ lw_g3.2.1) (va_eqi (hs _ lw_f7)) hnA, ?_, ?_⟩
    · have hi : i < 13 := (List.getElem?_eq_some_iff.mp ht).1
      refine vk_R.of (A := #[Value.ref b]) (hts _ (lw_g1 i t ht)) ?_
      have := hev i hi
      unfold lw_tm at this
      rw [ht] at this
      rw [hg1 i hi]
      exact this
    · rw [hg3]; exact hfz
    · rw [hg3]; exact hfc
  exact ⟨D, g, hK, hZ⟩
