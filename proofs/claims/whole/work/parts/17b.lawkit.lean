def R_law : String := "VotesOnTreeLaw"
theorem lw_range {α : Type} (a b : List α) : (List.range a.length).map (fun i => (a ++ b)[i]?) = a.map some := by
  apply List.ext_getElem?
  intro i
  by_cases h : i < a.length
  · simp [h, List.getElem?_append_left h]
  · simp [h]
theorem lw_range2 {α : Type} (a b : List α) : ((List.range b.length).map (fun i => a.length + i)).map (fun i => (a ++ b)[i]?) = b.map some := by
  apply List.ext_getElem?
  intro i
  by_cases h : i < b.length
  · simp [h, List.getElem?_append_right]
  · simp [h]
theorem lw_nda : ∀ (l : List Nat) (x : Nat), va_nd l = true → x ∉ l → va_nd (l ++ [x]) = true := by
  intro l
  induction l with
  | nil => intro x _ _; rfl
  | cons a r ih =>
    intro x h hx
    simp only [va_nd, Bool.and_eq_true, decide_eq_true_eq] at h
    show (decide (a ∉ r ++ [x]) && va_nd (r ++ [x])) = true
    rw [ih x h.2 (fun q => hx (List.mem_cons_of_mem _ q)), Bool.and_true, decide_eq_true_eq]
    intro q
    rcases List.mem_append.mp q with q | q
    · exact h.1 q
    · have : a = x := List.mem_singleton.mp q
      exact hx (this ▸ List.mem_cons_self)
theorem lw_nd : ∀ (n k : Nat), va_nd ((List.range n).map (fun i => k + i)) = true := by
  intro n
  induction n with
  | zero => intro k; rfl
  | succ n ih =>
    intro k
    rw [List.range_succ, List.map_append]
    refine lw_nda _ _ (ih k) ?_
    intro h
    obtain ⟨j, hj, e⟩ := List.mem_map.mp h
    have := List.mem_range.mp hj
    have e' : k + j = k + n := e
    omega
/-- behind a call on the first cells, these stand behind the others -/
theorem lw_join {A0 : Nat → Prop} {D : va_G} {cl : List vw_C} {c1 c2 c1' : va_W} {H H1 : Heap} (hP : va_P D cl (c1 ++ c2) H) (hD : va_D A0 (c1 ++ c2)) (hk : ∀ q : Nat, q < H.size → ¬ va_A c1 H.size q → H1[q]? = H[q]?) (hF : ∀ q, va_A c1 H.size q → A0 q) (hP1 : va_P D cl c1' H1) (hD1 : va_D (va_A c1 H.size) c1') : va_P D cl (c2 ++ c1') H1 ∧ va_D A0 (c2 ++ c1') := by
  refine va_join (wc := c1) (wr := c2) hP hD (List.range c1.length) ((List.range c2.length).map (fun i => c1.length + i)) (lw_range c1 c2) (lw_range2 c1 c2) (lw_nd _ _) ?_ hk hF hP1 hD1
  intro i hi h
  obtain ⟨j, -, rfl⟩ := List.mem_map.mp hi
  have := List.mem_range.mp h
  omega
theorem lw_left {D : va_G} {cl : List vw_C} {c1 c2 : va_W} {H : Heap} (hP : va_P D cl (c1 ++ c2) H) : va_P D cl c1 H := fun k q hk => hP k q (by rw [List.getElem?_append_left (List.getElem?_eq_some_iff.mp hk).1]; exact hk)
theorem lw_leftD {A : Nat → Prop} {c1 c2 : va_W} (hD : va_D A (c1 ++ c2)) : va_D A c1 := by
  have e : ∀ (k : Nat) (q : Nat × va_E), c1[k]? = some q → (c1 ++ c2)[k]? = some q := fun k q hk => by rw [List.getElem?_append_left (List.getElem?_eq_some_iff.mp hk).1]; exact hk
  exact ⟨fun i j p q hi hj => hD.1 i j p q (e i p hi) (e j q hj), fun k q hk => hD.2 k q (e k q hk)⟩
section LW
variable {p : Program} {l : Launch} {e : Env} {s : State} {m : MethodId} {args : Array Value} {below : List Frame} {meth : Method} {c : Code} {H : Heap} {locs : List Loc} {cells slots : Nat} {Q : State → Prop} {pc : Nat} {ls : Array Slot} {stk rest : List Value} {D : va_G} {g : xt_G} {w : List xt_E} {c2 : va_W} {K : Option Value → List xt_E → Prop} {A : Nat → Prop} {y : MethodName} {bytes : ByteArray} {maxL n idx ci d0 : Nat} {ret' : Option FieldType} {As : List Value} {fs : List Value}
theorem lw_call (hS0 : CallFix p m c code 4 s args xt_tbl RL) (hK : va_K D vwCl (xt_tys g) s) (hZ : xt_Z g A s) (hA : ∀ q, s.heap.size ≤ q → A q) (hP : va_P D vwCl (xt_c g w ++ c2) H) (hD : va_D A (xt_c g w ++ c2)) (hS : va_S A s.heap H locs) (hd : decode code pc = .ok (.invokevirtual idx, 3)) (hm : xt_mk y bytes maxL ret' n) (hl : xt_mV RL idx ci y) (hM : xt_M y bytes maxL ret' d0 (.ref 0 :: As) w K) (hAs : ∀ g : xt_G, As.map (xt_v g) = As) (hn : As.length = n) (hq : w[0]? = some (.inr (ci, fs))) (hd0 : d0 ≤ 1000) (hst : stk = As.reverse ++ .ref (g.1 0) :: rest) (hsum : (rest.map fun v => v.category).sum ≤ 8) (hsz : ls.size = 4) (hc : cells ≤ 600000 ∧ slots ≤ 7302250)
    (kk : ∀ (v : Option Value) (w' : List xt_E) (H1 : Heap) (locs1 : List Loc), K v w' → va_P D vwCl (c2 ++ xt_c g w') H1 → va_D A (c2 ++ xt_c g w') → va_S A s.heap H1 locs1 → W p l e room_1 s m args below meth c H1 locs1 cells slots Q (F0 m (pc + 3) ls (v.toList ++ rest))) : W p l e room_1 s m args below meth c H locs cells slots Q (F0 m pc ls stk) := by
  have hts := hS0.2.2.2.2
  obtain ⟨k1, k2, k3, r, k4, k5⟩ := hl
  have hP1 := lw_left hP
  have hD1 := lw_leftD hD
  have hp := xt_pre ((.ref 0 :: As).map (xt_v g)) hK hZ hA hP1 hD1 hS
  have hf : ∀ q, va_A (xt_c g w) H.size q → A q := by
    rintro q (⟨k, e, h⟩ | h)
    · exact hD1.2 k _ h
    · exact hA q (Nat.le_trans hS.1 h)
  have hr : va_Run p l e room_1 s m args below meth c H locs cells slots 0 0 (F0 m pc ls stk) rest (xt_Q D g K (va_A (xt_c g w) H.size) (Value.ref (g.1 0) :: As.map (xt_v g)).toArray) (va_A (xt_c g w) H.size) := by
    refine va_runV (C := y.cls) (b := g.1 0) (As := As.map (xt_v g)) (rest := rest) (bytes := bytes) (maxL := maxL) (ret := ret') (n := n) hS0 (hM l D g H.size) ⟨callB_of n hts (xt_good hm) rfl rfl rfl (hts _ hm.2.1) (hts _ k1) hm.2.2.1 ⟨?_, ?_⟩, hts _ k2, hts _ k3⟩ ⟨hp.1, by rw [← k5]; exact va_recv hK hP1 k4 (xt_c_get hq), hp.2⟩ rfl (by simpa using hn) hsz ?_ (lv_room hsum) hd hc
    · show d0 + 1 ≤ 2048
      omega
    · show 8 + (maxL + 11) + 64 * d0 ≤ 84000
      have := hm.2.2.2
      omega
    · rw [hst, hAs g]
  intro T hT X
  obtain ⟨v, st₀, t, T', L, h0, X', hL, e1, e2, ⟨⟨v2, w', hv, hk, hp', hd'⟩, hz, hkk⟩, st⟩ := hr T hT X
  cases hv
  rw [h0] at hz hkk
  obtain ⟨j1, j2⟩ := lw_join (c1' := xt_c g w') hP hD (H1 := T'.heap) (fun q h1 h2 => by rw [e1]; exact hkk q h1 h2) hf (by rw [e1]; exact hp') hd'
  obtain ⟨t2, a1, b1⟩ := kk v w' T'.heap (locs ++ L) hk j1 j2 ⟨Nat.le_trans hS.1 (by rw [e1]; exact hz), fun q h1 h2 => by rw [e1, hkk q (Nat.lt_of_lt_of_le h1 hS.1) (fun z => h2 (hf q z))]; exact hS.2.1 q h1 h2, fun q hq => by
    rcases List.mem_append.mp hq with h | h
    · exact hS.2.2 q h
    · exact hf _ (hL q h)⟩ T' rfl X'
  exact ⟨t2, st t2 a1, b1⟩
/-- the law makes an object -/
theorem lw_make {c1 : va_W} {idx2 N mc' ms' : Nat} {Q' : List xt_E → Prop} {fsz : List Value} (hS0 : CallFix p m c code 4 s args xt_tbl RL) (hK : va_K D vwCl (xt_tys g) s) (hZ : xt_Z g A s) (hA : ∀ q, s.heap.size ≤ q → A q) (hP : va_P D vwCl c1 H) (hD : va_D A c1) (hS : va_S A s.heap H locs) (hd : decode code pc = .ok (.new idx, 3)) (hd2 : decode code (pc + 3) = .ok (.dup, 1)) (hd3 : decode code (pc + 4) = .ok (.invokespecial idx2, 3)) (hc : xn_c RL idx ci N fsz) (hfs : fsz.all xn_f = true) (hm : xt_mk y bytes maxL none 0) (hl : xn_mI RL idx2 y) (hM : xn_M y bytes maxL d0 mc' ms' [.ref 0] [.inr (ci, fsz)] Q') (hd0 : d0 ≤ 1000) (hsum : (rest.map fun v => v.category).sum + 1 ≤ 8) (hsz : ls.size = 4) (hcs : cells + 1 + mc' ≤ 600000 ∧ slots + N + ms' ≤ 7302250)
    (kk : ∀ (g' : xt_G) (w' : List xt_E) (H1 : Heap) (locs1 : List Loc), xn_ext 0 g g' → Q' w' → va_P D vwCl (c1 ++ xt_c g' w') H1 → va_D A (c1 ++ xt_c g' w') → va_S A s.heap H1 locs1 → W p l e room_1 s m args below meth c H1 locs1 (cells + 1 + mc') (slots + N + ms') Q (F0 m (pc + 7) ls (.ref (g'.1 0) :: rest))) : W p l e room_1 s m args below meth c H locs cells slots Q (F0 m pc ls rest) := by
  have hts := hS0.2.2.2.2
  obtain ⟨r, h1, rfl, h3, h4, h5, ty, h6, h7⟩ := hc
  refine va_new (ci := ci) (C := r.1) (T := r.2.1) (N := r.2.2) (fs := fsz) hS0.1 hS0.2.1 hts (xt_in h1) ty h6 hS0.2.2.2.1 (hts _ h3) (hts _ h4) (hts _ h5) hK hP hD hS hA h1 h7 (by show cells + 1 ≤ 600000; omega) (by show slots + r.2.2 ≤ 7302250; omega) hd (fun q H1 hP1 hD1 hS1 => ?_)
  have he : ∀ g' : xt_G, xt_e g' (.inr (ci, fsz)) = .inr (ci, fsz) := by
    intro g'
    show Sum.inr (ci, fsz.map (xt_v g')) = _
    have : fsz.map (xt_v g') = fsz := by
      conv => rhs; rw [← List.map_id fsz]
      apply List.map_congr_left
      intro v hv
      have := List.all_eq_true.mp hfs v hv
      cases v with
      | ref k => cases this
      | retAddr k => cases this
      | _ => rfl
    rw [this]
  obtain ⟨g', e1, e2, e3⟩ := xn_push (g := g) (w := []) (q := q) (e := .inr (ci, fsz)) (e' := .inr (ci, fsz)) rfl (fun g' _ => he g') (by decide)
  have e1 : xn_ext 0 g g' := e1
  have e2 : g'.1 0 = q := e2
  have e3 : xt_c g' [.inr (ci, fsz)] = [(q, .inr (ci, fsz))] := e3
  refine lv_dup hS0.1 hS0.2.1 hd2 rfl ?_
  have hK' : va_K D vwCl (xt_tys g') s := by
    have : xt_tys g' = xt_tys g := by unfold xt_tys; rw [e1.1]
    rw [this]; exact hK
  have hZ' := xn_Z_eq e1 hZ
  -- the new cell first
  have hPn : va_P D vwCl (xt_c g' [.inr (ci, fsz)] ++ c1) H1 := by
    rw [e3]
    intro k x hx
    cases k with
    | zero => exact hP1 c1.length x (by simp at hx; subst hx; simp)
    | succ k => exact hP1 k x (by simp at hx; rw [List.getElem?_append_left (List.getElem?_eq_some_iff.mp hx).1]; exact hx)
  have hDn : va_D A (xt_c g' [.inr (ci, fsz)] ++ c1) := by
    rw [e3]
    have hlen : ∀ {k : Nat} {x : Nat × va_E}, c1[k]? = some x → (c1 ++ [(q, Sum.inr (ci, fsz))])[k]? = some x := fun hx => by rw [List.getElem?_append_left (List.getElem?_eq_some_iff.mp hx).1]; exact hx
    have hlast : (c1 ++ [(q, (Sum.inr (ci, fsz) : va_E))])[c1.length]? = some (q, Sum.inr (ci, fsz)) := by simp
    refine ⟨fun i j x y hi hj hxy => ?_, fun k x hx => ?_⟩
    · cases i with
      | zero =>
        cases j with
        | zero => rfl
        | succ j =>
          simp at hi hj
          subst hi
          have := hD1.1 _ _ _ _ hlast (hlen hj) hxy
          have := (List.getElem?_eq_some_iff.mp hj).1
          omega
      | succ i =>
        cases j with
        | zero =>
          simp at hi hj
          subst hj
          have := hD1.1 _ _ _ _ (hlen hi) hlast hxy
          have := (List.getElem?_eq_some_iff.mp hi).1
          omega
        | succ j =>
          simp at hi hj
          rw [hD1.1 _ _ _ _ (hlen hi) (hlen hj) hxy]
    · cases k with
      | zero => simp at hx; subst hx; exact hD1.2 _ _ hlast
      | succ k => simp at hx; exact hD1.2 _ _ (hlen hx)
  have hPl := lw_left hPn
  have hDl := lw_leftD hDn
  have hp := xt_pre ([.ref 0].map (xt_v g')) hK' hZ' hA hPl hDl hS1
  have hf : ∀ x, va_A (xt_c g' [.inr (ci, fsz)]) H1.size x → A x := by
    rintro x (⟨k, e, h⟩ | h)
    · exact hDl.2 k _ h
    · exact hA x (Nat.le_trans hS1.1 h)
  obtain ⟨k1, k2, k3⟩ := hl
  have k1 : Cond.methodLink RL idx2 y ∈ xt_tbl := by
    rcases k1 with k1 | ⟨host, k1⟩
    · exact k1
    · exfalso
      have q1 : ¬ RL = RX1 := by decide +kernel
      have q5 : ¬ RL = RX5 := by decide +kernel
      simp only [xt_nest, List.mem_cons, Prod.mk.injEq, List.not_mem_nil, or_false, q1, q5, false_and, or_self] at k1
  have hr : va_Run p l e room_1 s m args below meth c H1 locs (cells + 1) (slots + r.2.2) mc' ms' (F0 m (pc + 3 + 1) ls (.ref q :: .ref q :: rest)) (.ref q :: rest) (xn_Q D g' ([.inr (ci, fsz)] : List xt_E).length Q' (va_A (xt_c g' [.inr (ci, fsz)]) H1.size) #[Value.ref (g'.1 0)]) (va_A (xt_c g' [.inr (ci, fsz)]) H1.size) := by
    refine va_runI (b := g'.1 0) (As := []) (rest := .ref q :: rest) (bytes := bytes) (maxL := maxL) (n := 0) hS0 (hM l D g' H1.size) ⟨callB_of 0 hts (xt_good hm) rfl rfl rfl (hts _ hm.2.1) (hts _ k1) hm.2.2.1 ⟨?_, ?_⟩, k2, hts _ k3⟩ hp rfl rfl hsz ?_ (lv_room ?_) hd3 hcs
    · show d0 + 1 ≤ 2048
      omega
    · show 8 + (maxL + 11) + 64 * d0 ≤ 84000
      have := hm.2.2.2
      omega
    · show Value.ref q :: Value.ref q :: rest = [].reverse ++ .ref (g'.1 0) :: .ref q :: rest
      rw [e2]; rfl
    · simp only [List.map_cons, List.sum_cons]
      show 1 + _ ≤ 8
      omega
  intro T hT X
  obtain ⟨v, st₀, t, T', L, h0, X', hL, f1, f2, ⟨⟨g2, w', hv, hx, hk, hp', hd'⟩, hz, hkk⟩, st⟩ := hr T hT X
  cases hv
  rw [h0] at hz hkk
  obtain ⟨j1, j2⟩ := lw_join (c1' := xt_c g2 w') hPn hDn (H1 := T'.heap) (fun q h1 h2 => by rw [f1]; exact hkk q h1 h2) hf (by rw [f1]; exact hp') hd'
  have e5 : g2.1 0 = q := (hx.2 0 (Or.inl Nat.zero_lt_one)).trans e2
  obtain ⟨t2, a1, b1⟩ := kk g2 w' T'.heap (locs ++ L) (e1.tr hx (Nat.zero_le _)) hk j1 j2 ⟨Nat.le_trans hS1.1 (by rw [f1]; exact hz), fun q h1 h2 => by rw [f1, hkk q (Nat.lt_of_lt_of_le h1 hS1.1) (fun z => h2 (hf q z))]; exact hS1.2.1 q h1 h2, fun q hq => by
    rcases List.mem_append.mp hq with h | h
    · exact hS1.2.2 q h
    · exact hf _ (hL q h)⟩ T' rfl X'
  rw [e5] at a1
  exact ⟨t2, st t2 a1, b1⟩
end LW
