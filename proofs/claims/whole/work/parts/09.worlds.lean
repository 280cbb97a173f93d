theorem xt_M.go {y : MethodName} {cc : ByteArray} {nL : Nat} {ret : Option FieldType} {d : Nat} {as : List Value} {w : List xt_E} {K : Option Value → List xt_E → Prop} {lv : List (Option Value)} {own : String} (ho : y.cls = own) (hy : plainName own = true) (hn : (xt_lv as).length ≤ nL) (hlv : xt_lv as ++ List.replicate (nL - (xt_lv as).length) none = lv)
    (h : xt_T own cc nL ret d K 0 lv [] w) : xt_M y cc nL ret d as w K := by
  subst ho
  exact xt_M.of hy hn hlv h
theorem xt_T.imp {own : String} {cc : ByteArray} {nL : Nat} {ret : Option FieldType} {d : Nat} {Q Q' : Option Value → List xt_E → Prop} {pc : Nat} {lv : List (Option Value)} {st : List Value} {w : List xt_E} (e : Q = Q') (h : xt_T own cc nL ret d Q pc lv st w) : xt_T own cc nL ret d Q' pc lv st w := e ▸ h
/-- the class's world -/
def WX (o_size o_year o_gone o_minds o_lasts r_size r_token r_place r_at r_open r_made t_size t_rule i_there i_rule i_size i_year i_gone i_minds i_lasts : Int32) (o_parent o_kind o_number o_odds o_above o_kidCount o_lead r_tape r_steps r_ends t_steps t_ends t_stack s_sort s_size s_items i_number i_odds x_prices x_facts x_laws x_clues : Nat → Int32) : List xt_E :=
  [.inr (5, [.ref 1, .ref 9, .ref 13, .ref 17, .ref 21, .ref 24, .ref 25, .ref 26, .ref 27]),
   .inr (1, [.int o_size, .int o_year, .int o_gone, .int o_minds, .int o_lasts, .ref 2, .ref 3, .ref 4, .ref 5, .ref 6, .ref 7, .ref 8]),
   .inl (0, 12, o_parent), .inl (0, 12, o_kind), .inl (0, 12, o_number), .inl (0, 12, o_odds), .inl (0, 12, o_above), .inl (0, 12, o_kidCount), .inl (0, 12, o_lead),
   .inr (2, [.int r_size, .ref 10, .int r_token, .int r_place, .int r_at, .int r_open, .int r_made, .ref 11, .ref 12]),
   .inl (0, 160, r_tape), .inl (0, 160, r_steps), .inl (0, 3, r_ends),
   .inr (4, [.int t_size, .int t_rule, .ref 14, .ref 15, .ref 16]),
   .inl (0, 960, t_steps), .inl (0, 18, t_ends), .inl (0, 160, t_stack),
   .inr (3, [.ref 18, .ref 19, .ref 20]),
   .inl (0, 4, s_sort), .inl (0, 4, s_size), .inl (0, 160, s_items),
   .inr (0, [.int i_there, .int i_rule, .int i_size, .int i_year, .int i_gone, .int i_minds, .int i_lasts, .ref 22, .ref 23]),
   .inl (0, 12, i_number), .inl (0, 12, i_odds), .inl (0, 12, x_prices), .inl (0, 6, x_facts), .inl (0, 64, x_laws), .inl (0, 3, x_clues)]
/-- the reference's world -/
def WM (m_thrown m_textCount m_rule m_taped m_n m_minds m_lasts m_cutNow m_year m_ofNode m_ofDepth m_ofKids m_ofTwigs m_ofLast m_ofYear m_from m_size m_here m_token m_tokenAt m_open m_bad m_fault m_nKept m_mindsKept m_lastsKept m_cutKept m_yearKept m_ruleKept : Int32) (m_tokenWorth : Int64) (m_texts m_textSize m_tape m_parents m_kinds m_numbers m_odds m_yes m_no m_prices m_numbersKept m_oddsKept m_isThere m_sorts m_sheetSize m_items : Nat → Int32) : List xt_E :=
  [.inr (6, [.int m_thrown, .ref 1, .ref 2, .int m_textCount, .int m_rule, .ref 3, .int m_taped, .int m_n, .ref 4, .ref 5, .ref 6, .ref 7, .int m_minds, .int m_lasts, .int m_cutNow, .int m_year, .ref 8, .ref 9, .int m_ofNode, .int m_ofDepth, .int m_ofKids, .int m_ofTwigs, .int m_ofLast, .int m_ofYear, .int m_from, .int m_size, .int m_here, .int m_token, .int m_tokenAt, .long m_tokenWorth, .int m_open, .int m_bad, .int m_fault, .ref 10, .ref 11, .ref 12, .int m_nKept, .int m_mindsKept, .int m_lastsKept, .int m_cutKept, .int m_yearKept, .int m_ruleKept, .ref 13, .ref 14, .ref 15, .ref 16]),
   .inl (0, 960, m_texts), .inl (0, 6, m_textSize), .inl (0, 160, m_tape), .inl (0, 12, m_parents), .inl (0, 12, m_kinds), .inl (0, 12, m_numbers), .inl (0, 12, m_odds), .inl (0, 12, m_yes), .inl (0, 12, m_no), .inl (0, 12, m_prices), .inl (0, 12, m_numbersKept), .inl (0, 12, m_oddsKept), .inl (1, 4, m_isThere), .inl (0, 4, m_sorts), .inl (0, 4, m_sheetSize), .inl (0, 160, m_items)]
theorem xt_sw_cons {x k : Int32} {t dfl : Nat} {P : Nat → Prop} {r : List (Int32 × Nat)} (h1 : x = k → P t) (h2 : ¬ x = k → xt_sw x P dfl r) : xt_sw x P dfl ((k, t) :: r) := ⟨h1, h2⟩
theorem xt_sw_nil {x : Int32} {dfl : Nat} {P : Nat → Prop} (h : P dfl) : xt_sw x P dfl [] := h
def xo_at (f : Nat → Int32) (n : Nat) (i : Int32) : Option Int32 := if i < 0 ∨ n ≤ i.toNatClampNeg then none else some (f i.toNatClampNeg)
theorem xo_at_some {f : Nat → Int32} {n : Nat} {i v : Int32} (h : xo_at f n i = some v) : vp_in i n ∧ v = f i.toNatClampNeg := by
  unfold xo_at at h
  split at h
  · cases h
  · rename_i hc
    exact ⟨hc, (Option.some.inj h).symm⟩
def xo_set (f : Nat → Int32) (n : Nat) (i x : Int32) : Option (Nat → Int32) := if i < 0 ∨ n ≤ i.toNatClampNeg then none else some (upd f i.toNatClampNeg x)
theorem xo_set_some {f : Nat → Int32} {n : Nat} {i x : Int32} {v : Nat → Int32} (h : xo_set f n i x = some v) : vp_in i n ∧ v = upd f i.toNatClampNeg x := by
  unfold xo_set at h
  split at h
  · cases h
  · rename_i hc
    exact ⟨hc, (Option.some.inj h).symm⟩
theorem xo_bind {α β : Type} {a : Option α} {f : α → Option β} {o : β} (h : a.bind f = some o) : ∃ v, a = some v ∧ f v = some o := by
  cases a with
  | none => cases h
  | some v => exact ⟨v, rfl, h⟩
theorem xo_ifn {c : Prop} [Decidable c] {α : Type} {E : Option α} {o : α} (h : (if c then none else E) = some o) : ¬ c ∧ E = some o := by
  split at h
  · cases h
  · rename_i hc
    exact ⟨hc, h⟩
def xo_cpy (f h : Nat → Int32) (n0 n1 : Nat) (sp dp n : Int32) : Option (Nat → Int32) := if sp < 0 ∨ dp < 0 ∨ n < 0 ∨ n0 < sp.toNatClampNeg + n.toNatClampNeg ∨ n1 < dp.toNatClampNeg + n.toNatClampNeg then none else some (va_cpy f h sp.toNatClampNeg dp.toNatClampNeg n.toNatClampNeg)
theorem xo_cpy_some {f h : Nat → Int32} {n0 n1 : Nat} {sp dp n : Int32} {v : Nat → Int32} (e : xo_cpy f h n0 n1 sp dp n = some v) : ¬ sp < 0 ∧ ¬ dp < 0 ∧ ¬ n < 0 ∧ sp.toNatClampNeg + n.toNatClampNeg ≤ n0 ∧ dp.toNatClampNeg + n.toNatClampNeg ≤ n1 ∧ v = va_cpy f h sp.toNatClampNeg dp.toNatClampNeg n.toNatClampNeg := by
  unfold xo_cpy at e
  split at e
  · cases e
  · rename_i hc
    simp only [not_or, Nat.not_lt] at hc
    exact ⟨hc.1, hc.2.1, hc.2.2.1, hc.2.2.2.1, hc.2.2.2.2, (Option.some.inj e).symm⟩
theorem xo_char {x : Int32} (h : (x.toUInt32 % 65536).toInt32 = x) : narrow .char (.int x) = .int x := by
  have := pk_nc x
  rw [h] at this
  exact this
def xi_min (x y : Int32) : Int32 := if y < x then y else x
def xi_max (x y : Int32) : Int32 := if x < y then y else x
def xt_mm (own : String) (idx : Nat) (y : MethodName) (cd : ByteArray) : Prop := Cond.methodLink own idx y ∈ xt_tbl ∧ Cond.static y ∈ xt_tbl ∧ Cond.initialized "java/lang/Math" ∈ xt_tbl ∧ Cond.code y cd 2 (some .int) ∈ xt_tbl
theorem x_mmin {own : String} {cc : ByteArray} {nL : Nat} {ret : Option FieldType} {d : Nat} {Q : Option Value → List xt_E → Prop} {pc pc' idx : Nat} {lv : List (Option Value)} {st : List Value} {w : List xt_E} {x y : Int32} (hd : xr_o cc pc (.invokestatic idx) 3 pc') (hl : xt_mm own idx Lib.Math.min.name Lib.Math.min.code) (hsum : (st.map fun v => v.category).sum ≤ 8) (k : xt_T own cc nL ret (d + 1) Q pc' lv (.int (xi_min x y) :: st) w) : xt_T own cc nL ret (d + 1) Q pc lv (.int y :: .int x :: st) w := by
  intro p l e s m args below meth c D g A hX H locs ls hP hD hS hL
  obtain ⟨hd, rfl⟩ := hd
  have hts := hX.2.2.2.2.2.2.1
  have hg : g.2.2.category = 1 := hX.2.2.2.2.2.2.2.2.1.2.2.2.2.2
  refine va_mmin (x := x) (y := y) hX.1 hX.2.1 (by rw [hX.2.2.1, hL.2.1]) hX.2.2.2.2.2.1 (hts _ hl.1) (hts _ hl.2.1) (hts _ hl.2.2.1) (hts _ hl.2.2.2) ?_ ?_ (Nat.zero_le _) (Nat.zero_le _) hd (k p l e s m args below meth c D g A hX H locs ls hP hD hS hL)
  · show 1 ≤ d + 1
    omega
  · rw [xt_sum hg]
    show _ + 13 ≤ 64 * (d + 1)
    omega
theorem x_mmax {own : String} {cc : ByteArray} {nL : Nat} {ret : Option FieldType} {d : Nat} {Q : Option Value → List xt_E → Prop} {pc pc' idx : Nat} {lv : List (Option Value)} {st : List Value} {w : List xt_E} {x y : Int32} (hd : xr_o cc pc (.invokestatic idx) 3 pc') (hl : xt_mm own idx Lib.Math.max.name Lib.Math.max.code) (hsum : (st.map fun v => v.category).sum ≤ 8) (k : xt_T own cc nL ret (d + 1) Q pc' lv (.int (xi_max x y) :: st) w) : xt_T own cc nL ret (d + 1) Q pc lv (.int y :: .int x :: st) w := by
  intro p l e s m args below meth c D g A hX H locs ls hP hD hS hL
  obtain ⟨hd, rfl⟩ := hd
  have hts := hX.2.2.2.2.2.2.1
  have hg : g.2.2.category = 1 := hX.2.2.2.2.2.2.2.2.1.2.2.2.2.2
  refine va_mmax (x := x) (y := y) hX.1 hX.2.1 (by rw [hX.2.2.1, hL.2.1]) hX.2.2.2.2.2.1 (hts _ hl.1) (hts _ hl.2.1) (hts _ hl.2.2.1) (hts _ hl.2.2.2) ?_ ?_ (Nat.zero_le _) (Nat.zero_le _) hd (k p l e s m args below meth c D g A hX H locs ls hP hD hS hL)
  · show 1 ≤ d + 1
    omega
  · rw [xt_sum hg]
    show _ + 13 ≤ 64 * (d + 1)
    omega
/-- fewer locals known -/
def xt_le : List (Option Value) → List (Option Value) → Prop
  | [], [] => True
  | none :: r, _ :: r' => xt_le r r'
  | some v :: r, some v' :: r' => v = v' ∧ xt_le r r'
  | _, _ => False
theorem xt_le_spec : ∀ {a b : List (Option Value)}, xt_le a b → a.length = b.length ∧ ∀ (i : Nat) (v : Value), a[i]? = some (some v) → b[i]? = some (some v) := by
  intro a
  induction a with
  | nil =>
    intro b h
    cases b with
    | nil => exact ⟨rfl, fun i v h => by simp at h⟩
    | cons x r => cases h
  | cons x r ih =>
    intro b h
    cases b with
    | nil => cases x <;> cases h
    | cons y r' =>
      cases x with
      | none =>
        obtain ⟨h1, h2⟩ := ih (b := r') h
        refine ⟨by simp [h1], fun i v hv => ?_⟩
        cases i with
        | zero => simp at hv
        | succ i => simpa using h2 i v (by simpa using hv)
      | some x =>
        cases y with
        | none => cases h
        | some y =>
          obtain ⟨rfl, h⟩ := h
          obtain ⟨h1, h2⟩ := ih (b := r') h
          refine ⟨by simp [h1], fun i v hv => ?_⟩
          cases i with
          | zero => simpa using hv
          | succ i => simpa using h2 i v (by simpa using hv)
theorem x_weak {own : String} {cc : ByteArray} {nL : Nat} {ret : Option FieldType} {d : Nat} {Q : Option Value → List xt_E → Prop} {pc : Nat} {lv lv' : List (Option Value)} {st : List Value} {w : List xt_E} (hle : xt_le lv' lv) (k : xt_T own cc nL ret d Q pc lv' st w) : xt_T own cc nL ret d Q pc lv st w := by
  intro p l e s m args below meth c D g A hX H locs ls hP hD hS hL
  obtain ⟨h1, h2⟩ := xt_le_spec hle
  refine k p l e s m args below meth c D g A hX H locs ls hP hD hS ⟨by rw [h1]; exact hL.1, hL.2.1, hL.2.2.1, ?_⟩
  rintro ⟨j, u⟩ hm
  obtain ⟨i, v, e1, e2, e3⟩ := xt_as_mem.mp hm
  exact hL.2.2.2 (j, u) (xt_as_mem.mpr ⟨i, v, h2 i v e1, e2, e3⟩)
def xo_str (i : Nat) (j : Int32) : Option Int32 := xo_at (fun q => (xt_byt.getD i []).getD q 0) (xt_len.getD i 0) j
theorem xo_str_some {i : Nat} {j v : Int32} (h : xo_str i j = some v) : vp_in j (xt_len.getD i 0) ∧ v = (xt_byt.getD i []).getD j.toNatClampNeg 0 := xo_at_some h
theorem x_ldcS {own : String} {cc : ByteArray} {nL : Nat} {ret : Option FieldType} {d : Nat} {Q : Option Value → List xt_E → Prop} {pc pc' idx : Nat} {lv : List (Option Value)} {st : List Value} {w : List xt_E} {i r : Nat} {tx : String} (hd : xr_o cc pc (.ldc idx) 2 pc') (hs : xt_strs[i]? = some (own, idx, tx)) (hr : 1000 + i = r) (k : xt_T own cc nL ret d Q pc' lv (.ref r :: st) w) : xt_T own cc nL ret d Q pc lv st w := by
  intro p l e s m args below meth c D g A hX H locs ls hP hD hS hL
  obtain ⟨hd, rfl⟩ := hd
  have hts := hX.2.2.2.2.2.2.1
  have hZ := hX.2.2.2.2.2.2.2.2.1
  subst hr
  exact va_ldcS hX.1 hX.2.1 hX.2.2.2.2.2.1 (hZ.2.1 i _ hs) hd (k p l e s m args below meth c D g A hX H locs ls hP hD hS hL)
def xt_sf (own : String) (idx : Nat) (n ds : String) : Prop := Cond.fieldLink own idx "java/lang/String" n ds ∈ xt_tbl
theorem x_strV {own : String} {cc : ByteArray} {nL : Nat} {ret : Option FieldType} {d : Nat} {Q : Option Value → List xt_E → Prop} {pc pc' idx : Nat} {lv : List (Option Value)} {st : List Value} {w : List xt_E} {i r q : Nat} (hd : xr_o cc pc (.getfield idx) 3 pc') (hl : xt_sf own idx "value" "[B") (hi : i < 13) (hr : 1000 + i = r) (hq : 2000 + i = q) (k : xt_T own cc nL ret d Q pc' lv (.ref q :: st) w) : xt_T own cc nL ret d Q pc lv (.ref r :: st) w := by
  intro p l e s m args below meth c D g A hX H locs ls hP hD hS hL
  obtain ⟨hd, rfl⟩ := hd
  have hts := hX.2.2.2.2.2.2.1
  have hZ := hX.2.2.2.2.2.2.2.2.1
  subst hr; subst hq
  exact vk_getf hX.1 hX.2.1 (hZ.1.1 i hi).2.2.1 hS hX.2.2.2.2.2.1 (hts _ hl) (fun _ h => h) hd (k p l e s m args below meth c D g A hX H locs ls hP hD hS hL)
theorem x_strC {own : String} {cc : ByteArray} {nL : Nat} {ret : Option FieldType} {d : Nat} {Q : Option Value → List xt_E → Prop} {pc pc' idx : Nat} {lv : List (Option Value)} {st : List Value} {w : List xt_E} {i r : Nat} (hd : xr_o cc pc (.getfield idx) 3 pc') (hl : xt_sf own idx "coder" "B") (hi : i < 13) (hr : 1000 + i = r) (k : xt_T own cc nL ret d Q pc' lv (.int 0 :: st) w) : xt_T own cc nL ret d Q pc lv (.ref r :: st) w := by
  intro p l e s m args below meth c D g A hX H locs ls hP hD hS hL
  obtain ⟨hd, rfl⟩ := hd
  have hts := hX.2.2.2.2.2.2.1
  have hZ := hX.2.2.2.2.2.2.2.2.1
  subst hr
  exact vk_getf hX.1 hX.2.1 (hZ.1.1 i hi).2.1 hS hX.2.2.2.2.2.1 (hts _ hl) (fun _ h => h) hd (k p l e s m args below meth c D g A hX H locs ls hP hD hS hL)
theorem x_strL {own : String} {cc : ByteArray} {nL : Nat} {ret : Option FieldType} {d : Nat} {Q : Option Value → List xt_E → Prop} {pc pc' : Nat} {lv : List (Option Value)} {st : List Value} {w : List xt_E} {i q : Nat} {v : Int32} (hd : xr_o cc pc .arraylength 1 pc') (hi : i < 13) (hq : 2000 + i = q) (hv : Int32.ofNat (xt_len.getD i 0) = v) (k : xt_T own cc nL ret d Q pc' lv (.int v :: st) w) : xt_T own cc nL ret d Q pc lv (.ref q :: st) w := by
  intro p l e s m args below meth c D g A hX H locs ls hP hD hS hL
  obtain ⟨hd, rfl⟩ := hd
  have hts := hX.2.2.2.2.2.2.1
  have hZ := hX.2.2.2.2.2.2.2.2.1
  subst hq
  exact va_tlen hX.1 hX.2.1 (hZ.1.1 i hi).2.2.2 hS hv hd (k p l e s m args below meth c D g A hX H locs ls hP hD hS hL)
theorem x_strB {own : String} {cc : ByteArray} {nL : Nat} {ret : Option FieldType} {d : Nat} {Q : Option Value → List xt_E → Prop} {pc pc' : Nat} {lv : List (Option Value)} {st : List Value} {w : List xt_E} {i q : Nat} {j : Int32} (hd : xr_o cc pc .baload 1 pc') (hi : i < 13) (hq : 2000 + i = q) (hin : vp_in j (xt_len.getD i 0)) (k : xt_T own cc nL ret d Q pc' lv (.int ((xt_byt.getD i []).getD j.toNatClampNeg 0) :: st) w) : xt_T own cc nL ret d Q pc lv (.int j :: .ref q :: st) w := by
  intro p l e s m args below meth c D g A hX H locs ls hP hD hS hL
  obtain ⟨hd, rfl⟩ := hd
  have hts := hX.2.2.2.2.2.2.1
  have hZ := hX.2.2.2.2.2.2.2.2.1
  subst hq
  exact va_tb hX.1 hX.2.1 (hZ.1.1 i hi).2.2.2 hS hin rfl hd (k p l e s m args below meth c D g A hX H locs ls hP hD hS hL)
theorem x_stZ {own : String} {cc : ByteArray} {nL : Nat} {ret : Option FieldType} {d : Nat} {Q : Option Value → List xt_E → Prop} {pc pc' idx : Nat} {lv : List (Option Value)} {st : List Value} {w : List xt_E} (hd : xr_o cc pc (.getstatic idx) 3 pc') (hl : Cond.fieldLink own idx "java/lang/String" "COMPACT_STRINGS" "Z" ∈ xt_tbl) (k : xt_T own cc nL ret d Q pc' lv (.int 1 :: st) w) : xt_T own cc nL ret d Q pc lv st w := by
  intro p l e s m args below meth c D g A hX H locs ls hP hD hS hL
  obtain ⟨hd, rfl⟩ := hd
  have hts := hX.2.2.2.2.2.2.1
  have hZ := hX.2.2.2.2.2.2.2.2.1
  exact va_gets hX.1 hX.2.1 hZ.2.2.2.1 hS hX.2.2.2.2.2.1 (hts _ hl) (fun _ h => h) hd (k p l e s m args below meth c D g A hX H locs ls hP hD hS hL)
theorem x_stF {own : String} {cc : ByteArray} {nL : Nat} {ret : Option FieldType} {d : Nat} {Q : Option Value → List xt_E → Prop} {pc pc' idx : Nat} {lv : List (Option Value)} {st : List Value} {w : List xt_E} (hd : xr_o cc pc (.getstatic idx) 3 pc') (hl : Cond.fieldLink own idx "jdk/internal/util/Preconditions" "SIOOBE_FORMATTER" "Ljava/util/function/BiFunction;" ∈ xt_tbl) (k : xt_T own cc nL ret d Q pc' lv (.retAddr 0 :: st) w) : xt_T own cc nL ret d Q pc lv st w := by
  intro p l e s m args below meth c D g A hX H locs ls hP hD hS hL
  obtain ⟨hd, rfl⟩ := hd
  have hts := hX.2.2.2.2.2.2.1
  have hZ := hX.2.2.2.2.2.2.2.2.1
  exact va_gets hX.1 hX.2.1 hZ.2.2.2.2.1 hS hX.2.2.2.2.2.1 (hts _ hl) (fun _ h => h) hd (k p l e s m args below meth c D g A hX H locs ls hP hD hS hL)
def xt_mW (own : String) (idx : Nat) (y : MethodName) : Prop := Cond.methodLink own idx y ∈ xt_tbl ∧ Cond.instanceMethod y ∈ xt_tbl ∧ Cond.selects y.cls y y ∈ xt_tbl ∧ y.cls = "java/lang/String"
section XW
variable {own : String} {cc bytes : ByteArray} {nL maxL : Nat} {ret ret' : Option FieldType} {d : Nat} {Q : Option Value → List xt_E → Prop} {pc pc' : Nat} {lv : List (Option Value)} {st stk : List Value} {w : List xt_E} {y : MethodName} {n idx : Nat} {As : List Value} {K : Option Value → List xt_E → Prop}
theorem x_callW {i q : Nat} (hd : xr_o cc pc (.invokevirtual idx) 3 pc') (hm : xt_mk y bytes maxL ret' n) (hl : xt_mW own idx y) (hi : i < 13) (hq : 1000 + i = q) (hM : xt_M y bytes maxL ret' d (.ref q :: As) w K) (hn : As.length = n) (hst : stk = As.reverse ++ .ref q :: st) (hsum : (st.map fun v => v.category).sum ≤ 8)
    (hK : ∀ v w', K v w' → ∀ g : xt_G, v.toList.map (xt_v g) = v.toList) (kk : ∀ v w', K v w' → xt_T own cc nL ret (d + 1) Q pc' lv (v.toList ++ st) w') : xt_T own cc nL ret (d + 1) Q pc lv stk w := by
  intro p l e s m args below meth c D g A hX H locs ls hP hD hS hL
  obtain ⟨hd, rfl⟩ := hd
  have hts := hX.2.2.2.2.2.2.1
  have hZ := hX.2.2.2.2.2.2.2.2.1
  have hg : g.2.2.category = 1 := hZ.2.2.2.2.2
  obtain ⟨k1, k2, k3, k5⟩ := hl
  subst hq
  have hp := xt_pre ((.ref (1000 + i) :: As).map (xt_v g)) hX.2.2.2.2.2.2.2.1 hX.2.2.2.2.2.2.2.2.1 hX.2.2.2.2.2.2.2.2.2 hP hD hS
  refine xt_call (A := A) (va_runV (C := y.cls) (b := g.1 (1000 + i)) (As := As.map (xt_v g)) (rest := st.map (xt_v g)) (bytes := bytes) (maxL := maxL) (ret := ret') (n := n) ⟨hX.1, hX.2.1, hX.2.2.1, hX.2.2.2.2.2.1, hts⟩ (hM l D g H.size) ⟨callB_of n hts (xt_good hm) rfl rfl rfl (hts _ hm.2.1) (hts _ k1) hm.2.2.1 (xt_room hm.2.2.2), hts _ k2, hts _ k3⟩ ⟨hp.1, by rw [k5]; exact vk_recv (adK := fun i => g.1 (1000 + i)) (i := i) hZ.1 hi hS, hp.2⟩ rfl (by simpa using hn) hL.2.1 ?_ ?_ hd ⟨Nat.le_refl _, Nat.le_refl _⟩) hX.2.2.2.2.2.2.2.2.2 hD hS (fun v w' H1 locs1 hk hP1 hD1 hS1 => ?_)
  · rw [hst]; simp [xt_v]
  · exact lv_room (by rw [xt_sum hg]; exact hsum)
  · have := kk v w' hk p l e s m args below meth c D g A hX H1 locs1 ls hP1 hD1 hS1 hL
    rw [List.map_append, hK v w' hk g] at this
    exact this
theorem x_Wi0 {i q : Nat} {w1 : List xt_E} {r : Int32} (hd : xr_o cc pc (.invokevirtual idx) 3 pc') (hm : xt_mk y bytes maxL ret' 0) (hl : xt_mW own idx y) (hi : i < 13) (hq : 1000 + i = q) (hM : xt_M y bytes maxL ret' d (.ref q :: []) w (xt_Ki r w1)) (hsum : (st.map fun v => v.category).sum ≤ 8) (kk : xt_T own cc nL ret (d + 1) Q pc' lv (.int r :: st) w1) : xt_T own cc nL ret (d + 1) Q pc lv (.ref q :: st) w := x_callW hd hm hl hi hq hM rfl rfl hsum (fun v w' h g => by obtain ⟨rfl, rfl⟩ := h; rfl) (fun v w' h => by obtain ⟨rfl, rfl⟩ := h; exact kk)
theorem x_Wi1 {i q : Nat} {w1 : List xt_E} {r : Int32} {a1 : Value} (hd : xr_o cc pc (.invokevirtual idx) 3 pc') (hm : xt_mk y bytes maxL ret' 1) (hl : xt_mW own idx y) (hi : i < 13) (hq : 1000 + i = q) (hM : xt_M y bytes maxL ret' d (.ref q :: [a1]) w (xt_Ki r w1)) (hsum : (st.map fun v => v.category).sum ≤ 8) (kk : xt_T own cc nL ret (d + 1) Q pc' lv (.int r :: st) w1) : xt_T own cc nL ret (d + 1) Q pc lv (a1 :: .ref q :: st) w := x_callW hd hm hl hi hq hM rfl rfl hsum (fun v w' h g => by obtain ⟨rfl, rfl⟩ := h; rfl) (fun v w' h => by obtain ⟨rfl, rfl⟩ := h; exact kk)
end XW
theorem xs_J0_9 : xt_sf RJ0 9 "value" "[B" := tb5 204 rfl rfl
theorem xs_J0_15 : xt_sf RJ0 15 "coder" "B" := tb5 205 rfl rfl
theorem xs_J0_38 : Cond.fieldLink RJ0 38 "java/lang/String" "COMPACT_STRINGS" "Z" ∈ xt_tbl := tb1 212 rfl rfl
theorem xs_J0_1053 : Cond.fieldLink RJ0 1053 "jdk/internal/util/Preconditions" "SIOOBE_FORMATTER" "Ljava/util/function/BiFunction;" ∈ xt_tbl := tb1 228 rfl rfl
theorem mJ0_335 : xt_mW RJ0 335 yJ0_coder_7d493 := ⟨tb1 208 rfl rfl, tb1 209 rfl rfl, tb1 210 rfl rfl, rfl⟩
theorem mJ0_492 : xt_mW RJ0 492 yJ0_isLatin1_aae02 := ⟨tb1 218 rfl rfl, tb1 219 rfl rfl, tb1 220 rfl rfl, rfl⟩
theorem mX2_128 : xt_mW RX2 128 yJ0_length_8abf5 := ⟨tb2 36 rfl rfl, tb1 205 rfl rfl, tb1 206 rfl rfl, rfl⟩
theorem mX2_133 : xt_mW RX2 133 yJ0_charAt_5068e := ⟨tb2 37 rfl rfl, tb1 215 rfl rfl, tb1 216 rfl rfl, rfl⟩
theorem mX5_59 : xt_mW RX5 59 yJ0_length_8abf5 := ⟨tb1 204 rfl rfl, tb1 205 rfl rfl, tb1 206 rfl rfl, rfl⟩
theorem mX5_65 : xt_mW RX5 65 yJ0_charAt_5068e := ⟨tb1 214 rfl rfl, tb1 215 rfl rfl, tb1 216 rfl rfl, rfl⟩
theorem qX5_167 : xt_mm RX5 167 Lib.Math.min.name Lib.Math.min.code := ⟨tb3 9 rfl rfl, tb3 10 rfl rfl, tb1 15 rfl rfl, tb3 11 rfl rfl⟩
theorem qX5_182 : xt_mm RX5 182 Lib.Math.max.name Lib.Math.max.code := ⟨tb3 12 rfl rfl, tb3 13 rfl rfl, tb1 15 rfl rfl, tb3 14 rfl rfl⟩
