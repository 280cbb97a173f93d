/-! constructors: cells are made, each at the next place -/
def xn_ext (n : Nat) (g g' : xt_G) : Prop := g'.2 = g.2 ∧ ∀ k, k < n ∨ 1000 ≤ k → g'.1 k = g.1 k
theorem xn_ext.rf {n : Nat} {g : xt_G} : xn_ext n g g := ⟨rfl, fun _ _ => rfl⟩
theorem xn_ext.tr {n m : Nat} {g g' g'' : xt_G} (h : xn_ext n g g') (h' : xn_ext m g' g'') (hnm : n ≤ m) : xn_ext n g g'' := ⟨h'.1.trans h.1, fun k hk => (h'.2 k (hk.imp (fun q => Nat.lt_of_lt_of_le q hnm) id)).trans (h.2 k hk)⟩
def xn_v (n : Nat) : Value → Bool
  | .ref k => decide (k < n) || decide (1000 ≤ k)
  | _ => true
def xn_e (n : Nat) : xt_E → Bool
  | .inl _ => true
  | .inr o => o.2.all (xn_v n)
def xn_o (n : Nat) : Option Value → Bool
  | none => true
  | some v => xn_v n v
theorem xn_v_eq {n : Nat} {g g' : xt_G} (h : xn_ext n g g') {v : Value} (hv : xn_v n v = true) : xt_v g' v = xt_v g v := by
  cases v with
  | ref k =>
    simp only [xn_v, Bool.or_eq_true, decide_eq_true_eq] at hv
    show Value.ref (g'.1 k) = Value.ref (g.1 k)
    rw [h.2 k hv]
  | retAddr k => show g'.2.2 = g.2.2; rw [h.1]
  | _ => rfl
theorem xn_e_eq {n : Nat} {g g' : xt_G} (h : xn_ext n g g') {e : xt_E} (he : xn_e n e = true) : xt_e g' e = xt_e g e := by
  cases e with
  | inl a => show Sum.inl (g'.2.1 a.1, a.2.1, Sum.inl a.2.2) = Sum.inl (g.2.1 a.1, a.2.1, Sum.inl a.2.2); rw [h.1]
  | inr o =>
    show Sum.inr (o.1, o.2.map (xt_v g')) = Sum.inr (o.1, o.2.map (xt_v g))
    rw [List.map_congr_left (fun v hv => xn_v_eq h (List.all_eq_true.mp he v hv))]
theorem xn_c_eq {g g' : xt_G} {w : List xt_E} (h : xn_ext w.length g g') (hw : w.all (xn_e w.length) = true) : xt_c g' w = xt_c g w := by
  apply List.ext_getElem?
  intro i
  simp only [xt_c, List.getElem?_mapIdx]
  cases hi : w[i]? with
  | none => rfl
  | some e =>
    have hl : i < w.length := (List.getElem?_eq_some_iff.mp hi).1
    simp only [Option.map_some]
    rw [h.2 i (Or.inl hl), xn_e_eq h (List.all_eq_true.mp hw e (List.mem_of_getElem? hi))]
theorem xn_st_eq {n : Nat} {g g' : xt_G} (h : xn_ext n g g') {st : List Value} (hs : st.all (xn_v n) = true) : st.map (xt_v g') = st.map (xt_v g) := List.map_congr_left (fun v hv => xn_v_eq h (List.all_eq_true.mp hs v hv))
theorem xn_as_eq {n : Nat} {g g' : xt_G} (h : xn_ext n g g') : ∀ {lv : List (Option Value)} (i : Nat), lv.all (xn_o n) = true → xt_as g' i lv = xt_as g i lv := by
  intro lv
  induction lv with
  | nil => intro i _; rfl
  | cons a r ih =>
    intro i hs
    simp only [List.all_cons, Bool.and_eq_true] at hs
    cases a with
    | none => exact ih (i + 1) hs.2
    | some v => simp only [xt_as]; rw [xn_v_eq h hs.1, ih (i + 1) hs.2]
theorem xn_Z_eq {g g' : xt_G} {A : Nat → Prop} {s : State} {n : Nat} (h : xn_ext n g g') (hZ : xt_Z g A s) : xt_Z g' A s := by
  have e1 : (fun i => g'.1 (1000 + i)) = fun i => g.1 (1000 + i) := funext fun i => h.2 _ (Or.inr (by omega))
  have e2 : (fun i => g'.1 (2000 + i)) = fun i => g.1 (2000 + i) := funext fun i => h.2 _ (Or.inr (by omega))
  obtain ⟨h1, h2, h3, h4, h5, h6⟩ := hZ
  refine ⟨by rw [e1, e2]; exact h1, fun i t ht => ?_, h3, h4, by rw [h.1]; exact h5, by rw [h.1]; exact h6⟩
  have e3 : g'.1 (1000 + i) = g.1 (1000 + i) := congrFun e1 i
  rw [e3]
  exact h2 i t ht
theorem xn_X_eq {own : String} {cc : ByteArray} {nL : Nat} {ret : Option FieldType} {p : Program} {s : State} {m : MethodId} {args : Array Value} {meth : Method} {c : Code} {D : va_G} {g g' : xt_G} {A : Nat → Prop} {n : Nat} (h : xn_ext n g g') (hX : xt_X own cc nL ret p s m args meth c D g A) : xt_X own cc nL ret p s m args meth c D g' A := by
  obtain ⟨h1, h2, h3, h4, h5, h6, h7, h8, h9, h10⟩ := hX
  refine ⟨h1, h2, h3, h4, h5, h6, h7, ?_, xn_Z_eq h h9, h10⟩
  have : xt_tys g' = xt_tys g := by unfold xt_tys; rw [h.1]
  rw [this]
  exact h8
def xn_R (d mc ms : Nat) : Room := { frames := d, cells := mc, slots := ms, locals := 64 * d }
def xn_Q (D : va_G) (g0 : xt_G) (n0 : Nat) (Q : List xt_E → Prop) (A : Nat → Prop) : Array Value → State → Outcome → State → Prop :=
  fun _ st oc t => (∃ (g' : xt_G) (w' : List xt_E), oc = .returned none ∧ xn_ext n0 g0 g' ∧ Q w' ∧ va_P D vwCl (xt_c g' w') t.heap ∧ va_D A (xt_c g' w')) ∧ va_F A st t
def xn_T (own : String) (cc : ByteArray) (nL : Nat) (ret : Option FieldType) (d mc ms n0 : Nat) (Q : List xt_E → Prop) (c0 s0 : Nat) (pc : Nat) (lv : List (Option Value)) (st : List Value) (w : List xt_E) : Prop :=
  ∀ (p : Program) (l : Launch) (e : Env) (s : State) (m : MethodId) (args : Array Value) (below : List Frame) (meth : Method) (c : Code) (D : va_G) (g : xt_G) (A : Nat → Prop), xt_X own cc nL ret p s m args meth c D g A →
  ∀ (g0 : xt_G), xn_ext n0 g0 g ∧ meth.name = "<init>" → ∀ (H : Heap) (locs : List Loc) (ls : Array Slot), va_P D vwCl (xt_c g w) H → va_D A (xt_c g w) → va_S A s.heap H locs → xt_L g ls nL lv →
  W p l e (xn_R d mc ms) s m args below meth c H locs c0 s0 (MQ below (xn_Q D g0 n0 Q A) args s mc ms A) (F0 m pc ls (st.map (xt_v g)))
def xn_M (y : MethodName) (cc : ByteArray) (nL : Nat) (d mc ms : Nat) (as : List Value) (w : List xt_E) (Q : List xt_E → Prop) : Prop :=
  ∀ (l : Launch) (D : va_G) (g : xt_G) (sz : Nat), Met l y (Cond.code y cc nL none :: xt_tbl) (xn_R d mc ms)
    (va_Pc (as.map (xt_v g)) (fun U => U.heap.size = sz ∧ va_P D vwCl (xt_c g w) U.heap ∧ va_K D vwCl (xt_tys g) U ∧ va_D (fun _ => True) (xt_c g w) ∧ xt_Z g (va_A (xt_c g w) sz) U))
    (xn_Q D g w.length Q (va_A (xt_c g w) sz)) mc ms (va_A (xt_c g w) sz)
theorem xn_M.go {y : MethodName} {cc : ByteArray} {nL : Nat} {d mc ms n0 : Nat} {as : List Value} {w : List xt_E} {Q : List xt_E → Prop} {lv : List (Option Value)} {own : String} (ho : y.cls = own) (hy : plainName own = true) (hi : y.name = "<init>") (hw : w.length = n0) (hn : (xt_lv as).length ≤ nL) (hlv : xt_lv as ++ List.replicate (nL - (xt_lv as).length) none = lv)
    (h : xn_T own cc nL none d mc ms n0 Q 0 0 0 lv [] w) : xn_M y cc nL d mc ms as w Q := by
  subst ho; subst hw
  intro l D g sz
  refine Met.ofW (cc := cc) (maxL := nL) (ret := none) hy rfl ?_
  intro p e s m args below meth c s₁ B hml hv
  obtain ⟨rfl, hsz, hP, hK, hD0, hZ⟩ := hv
  have hts := atoms_spec (ws := Cond.code y cc nL none :: xt_tbl) B.pre
  have hown : s.vm.findClass y.cls = some m.cls := findClass_of_methodNamed B.named
  subst hsz
  have hg : g.2.2.category = 1 := hZ.2.2.2.2.2
  have hl := lv_entry (as.map (xt_v g)) (n := nL) (by rw [xt_lv_len hg]; exact hn)
  have hin : meth.name = "<init>" := ((name_of_methodNamed B.named B.method).1).trans hi
  rw [lg_entry_eq]
  refine h p l e s m _ below meth c D g (va_A (xt_c g w) s.heap.size) ⟨B.exec, B.bytes, hml, B.returns, B.notSynchronized, hown, fun w hw => hts w (List.mem_cons_of_mem _ hw), hK, hZ, fun q hq => Or.inr hq⟩ g ⟨xn_ext.rf, hin⟩ s.heap [] _ hP hD0.self va_S.rf ⟨?_, ?_⟩
  · rw [← hlv]; simp; omega
  · rw [← hlv, xt_lv_as hg]; exact hl
theorem xn_push {g : xt_G} {w : List xt_E} {q : Nat} {e : xt_E} {e' : va_E} (hw : w.all (xn_e w.length) = true) (he : ∀ g' : xt_G, g'.2 = g.2 → xt_e g' e = e') (hl : w.length < 1000) : ∃ g' : xt_G, xn_ext w.length g g' ∧ g'.1 w.length = q ∧ xt_c g' (w ++ [e]) = xt_c g w ++ [(q, e')] := by
  refine ⟨(fun k => if k = w.length then q else g.1 k, g.2), ⟨rfl, fun k hk => ?_⟩, by simp, ?_⟩
  · show (if k = w.length then q else g.1 k) = g.1 k
    rw [if_neg (by omega)]
  · have hx : xn_ext w.length g ((fun k => if k = w.length then q else g.1 k, g.2) : xt_G) := ⟨rfl, fun k hk => by show (if k = w.length then q else g.1 k) = g.1 k; rw [if_neg (by omega)]⟩
    have h1 := xn_c_eq hx hw
    unfold xt_c at h1 ⊢
    rw [List.mapIdx_append, h1]
    simp only [List.mapIdx_cons, List.mapIdx_nil, Nat.zero_add, List.append_cancel_left_eq, List.cons.injEq, and_true]
    rw [he (fun k => if k = w.length then q else g.1 k, g.2) rfl]
    simp
theorem n_k {own : String} {cc : ByteArray} {nL : Nat} {ret : Option FieldType} {d : Nat} {mc ms n0 c0 s0 : Nat} {Q : List xt_E → Prop} {pc pc' : Nat} {lv : List (Option Value)} {st : List Value} {w : List xt_E} {v : Int32} (hd : xr_k cc pc v pc') (k : xn_T own cc nL ret d mc ms n0 Q c0 s0 pc' lv (.int v :: st) w) : xn_T own cc nL ret d mc ms n0 Q c0 s0 pc lv st w := by
  intro p l e s m args below meth c D g A hX g0 hE H locs ls hP hD hS hL
  rcases hd with ⟨n, hd, hv, rfl⟩ | ⟨n, hd, hv, rfl⟩ | ⟨n, hd, hv, rfl⟩
  · exact lv_iconst hX.1 hX.2.1 hd hv (k p l e s m args below meth c D g A hX g0 hE H locs ls hP hD hS hL)
  · exact lv_bipush hX.1 hX.2.1 hd hv (k p l e s m args below meth c D g A hX g0 hE H locs ls hP hD hS hL)
  · exact lv_sipush hX.1 hX.2.1 hd hv (k p l e s m args below meth c D g A hX g0 hE H locs ls hP hD hS hL)
theorem n_dup {own : String} {cc : ByteArray} {nL : Nat} {ret : Option FieldType} {d : Nat} {mc ms n0 c0 s0 : Nat} {Q : List xt_E → Prop} {pc pc' : Nat} {lv : List (Option Value)} {st : List Value} {w : List xt_E} {a : Value} (hd : xr_o cc pc .dup 1 pc') (ha : a.category = 1) (k : xn_T own cc nL ret d mc ms n0 Q c0 s0 pc' lv (a :: a :: st) w) : xn_T own cc nL ret d mc ms n0 Q c0 s0 pc lv (a :: st) w := by
  intro p l e s m args below meth c D g A hX g0 hE H locs ls hP hD hS hL
  obtain ⟨hd, rfl⟩ := hd
  exact lv_dup hX.1 hX.2.1 hd (by rw [xt_cat hX.2.2.2.2.2.2.2.2.1.2.2.2.2.2]; exact ha) (k p l e s m args below meth c D g A hX g0 hE H locs ls hP hD hS hL)
theorem n_pop {own : String} {cc : ByteArray} {nL : Nat} {ret : Option FieldType} {d : Nat} {mc ms n0 c0 s0 : Nat} {Q : List xt_E → Prop} {pc pc' : Nat} {lv : List (Option Value)} {st : List Value} {w : List xt_E} {a : Value} (hd : xr_o cc pc .pop 1 pc') (ha : a.category = 1) (k : xn_T own cc nL ret d mc ms n0 Q c0 s0 pc' lv st w) : xn_T own cc nL ret d mc ms n0 Q c0 s0 pc lv (a :: st) w := by
  intro p l e s m args below meth c D g A hX g0 hE H locs ls hP hD hS hL
  obtain ⟨hd, rfl⟩ := hd
  exact lv_pop hX.1 hX.2.1 hd (by rw [xt_cat hX.2.2.2.2.2.2.2.2.1.2.2.2.2.2]; exact ha) (k p l e s m args below meth c D g A hX g0 hE H locs ls hP hD hS hL)
theorem n_goto {own : String} {cc : ByteArray} {nL : Nat} {ret : Option FieldType} {d : Nat} {mc ms n0 c0 s0 : Nat} {Q : List xt_E → Prop} {pc pc' : Nat} {lv : List (Option Value)} {st : List Value} {w : List xt_E} (hd : xr_g cc pc pc') (k : xn_T own cc nL ret d mc ms n0 Q c0 s0 pc' lv st w) : xn_T own cc nL ret d mc ms n0 Q c0 s0 pc lv st w := by
  intro p l e s m args below meth c D g A hX g0 hE H locs ls hP hD hS hL
  obtain ⟨off, hd, ht⟩ := hd
  exact lv_goto hX.1 hX.2.1 hd ht (k p l e s m args below meth c D g A hX g0 hE H locs ls hP hD hS hL)
theorem n_icmp_ge {own : String} {cc : ByteArray} {nL : Nat} {ret : Option FieldType} {d : Nat} {mc ms n0 c0 s0 : Nat} {Q : List xt_E → Prop} {pc pc' : Nat} {lv : List (Option Value)} {st : List Value} {w : List xt_E} {x y : Int32} {tgt : Nat} (hd : xr_b cc pc (.if_icmp .ge) pc' tgt) (kt : y ≤ x → xn_T own cc nL ret d mc ms n0 Q c0 s0 tgt lv st w) (kf : ¬ y ≤ x → xn_T own cc nL ret d mc ms n0 Q c0 s0 pc' lv st w) : xn_T own cc nL ret d mc ms n0 Q c0 s0 pc lv (.int y :: .int x :: st) w := by
  intro p l e s m args below meth c D g A hX g0 hE H locs ls hP hD hS hL
  obtain ⟨off, hd, ht, rfl⟩ := hd
  exact lv_icmp_ge hX.1 hX.2.1 hd ht (fun q => kt q p l e s m args below meth c D g A hX g0 hE H locs ls hP hD hS hL) (fun q => kf q p l e s m args below meth c D g A hX g0 hE H locs ls hP hD hS hL)
theorem n_if_eq {own : String} {cc : ByteArray} {nL : Nat} {ret : Option FieldType} {d : Nat} {mc ms n0 c0 s0 : Nat} {Q : List xt_E → Prop} {pc pc' : Nat} {lv : List (Option Value)} {st : List Value} {w : List xt_E} {x : Int32} {tgt : Nat} (hd : xr_b cc pc (.ifCond .eq) pc' tgt) (kt : x = 0 → xn_T own cc nL ret d mc ms n0 Q c0 s0 tgt lv st w) (kf : ¬ x = 0 → xn_T own cc nL ret d mc ms n0 Q c0 s0 pc' lv st w) : xn_T own cc nL ret d mc ms n0 Q c0 s0 pc lv (.int x :: st) w := by
  intro p l e s m args below meth c D g A hX g0 hE H locs ls hP hD hS hL
  obtain ⟨off, hd, ht, rfl⟩ := hd
  exact lv_if_eq hX.1 hX.2.1 hd ht (fun q => kt q p l e s m args below meth c D g A hX g0 hE H locs ls hP hD hS hL) (fun q => kf q p l e s m args below meth c D g A hX g0 hE H locs ls hP hD hS hL)
theorem n_iload {own : String} {cc : ByteArray} {nL : Nat} {ret : Option FieldType} {d : Nat} {mc ms n0 c0 s0 : Nat} {Q : List xt_E → Prop} {pc pc' : Nat} {lv : List (Option Value)} {st : List Value} {w : List xt_E} {i : Nat} {x : Int32} (hd : xr_ild cc pc i pc') (h : lv[i]? = some (some (.int x))) (k : xn_T own cc nL ret d mc ms n0 Q c0 s0 pc' lv (.int x :: st) w) : xn_T own cc nL ret d mc ms n0 Q c0 s0 pc lv st w := by
  intro p l e s m args below meth c D g A hX g0 hE H locs ls hP hD hS hL
  rcases hd with ⟨j, hd, hj, rfl⟩ | ⟨hd, rfl⟩
  · exact lv_iload_n hX.1 hX.2.1 hd hj (hL.at h) (k p l e s m args below meth c D g A hX g0 hE H locs ls hP hD hS hL)
  · exact lv_iload hX.1 hX.2.1 hd (hL.at h) (k p l e s m args below meth c D g A hX g0 hE H locs ls hP hD hS hL)
theorem n_aload {own : String} {cc : ByteArray} {nL : Nat} {ret : Option FieldType} {d : Nat} {mc ms n0 c0 s0 : Nat} {Q : List xt_E → Prop} {pc pc' : Nat} {lv : List (Option Value)} {st : List Value} {w : List xt_E} {i : Nat} {x : Nat} (hd : xr_ald cc pc i pc') (h : lv[i]? = some (some (.ref x))) (k : xn_T own cc nL ret d mc ms n0 Q c0 s0 pc' lv (.ref x :: st) w) : xn_T own cc nL ret d mc ms n0 Q c0 s0 pc lv st w := by
  intro p l e s m args below meth c D g A hX g0 hE H locs ls hP hD hS hL
  rcases hd with ⟨j, hd, hj, rfl⟩ | ⟨hd, rfl⟩
  · exact lv_aload_n hX.1 hX.2.1 hd hj (hL.at h) (k p l e s m args below meth c D g A hX g0 hE H locs ls hP hD hS hL)
  · exact lv_aload hX.1 hX.2.1 hd (hL.at h) (k p l e s m args below meth c D g A hX g0 hE H locs ls hP hD hS hL)
theorem n_istore {own : String} {cc : ByteArray} {nL : Nat} {ret : Option FieldType} {d : Nat} {mc ms n0 c0 s0 : Nat} {Q : List xt_E → Prop} {pc pc' : Nat} {lv : List (Option Value)} {st : List Value} {w : List xt_E} {i : Nat} {x : Int32} (hd : xr_ist cc pc i pc') (hi : i < lv.length) (hn : xt_nl lv i = true) (k : xn_T own cc nL ret d mc ms n0 Q c0 s0 pc' (lv.set i (some (.int x))) st w) : xn_T own cc nL ret d mc ms n0 Q c0 s0 pc lv (.int x :: st) w := by
  intro p l e s m args below meth c D g A hX g0 hE H locs ls hP hD hS hL
  have hi2 : i < nL := Nat.lt_of_lt_of_le hi hL.1
  rcases hd with ⟨j, hd, hj, rfl⟩ | ⟨hd, rfl⟩
  · exact lv_istore_n hX.1 hX.2.1 hd hj hL.2 hi2 rfl (fun ls' h' => k p l e s m args below meth c D g A hX g0 hE H locs ls' hP hD hS (hL.st1 hX.2.2.2.2.2.2.2.2.1.2.2.2.2.2 hn h'))
  · exact lv_istore hX.1 hX.2.1 hd hL.2 hi2 rfl (fun ls' h' => k p l e s m args below meth c D g A hX g0 hE H locs ls' hP hD hS (hL.st1 hX.2.2.2.2.2.2.2.2.1.2.2.2.2.2 hn h'))
theorem n_iinc {own : String} {cc : ByteArray} {nL : Nat} {ret : Option FieldType} {d : Nat} {mc ms n0 c0 s0 : Nat} {Q : List xt_E → Prop} {pc pc' : Nat} {lv : List (Option Value)} {st : List Value} {w : List xt_E} {i : Nat} {x v : Int32} (hd : xr_inc cc pc i v pc') (h : lv[i]? = some (some (.int x))) (hn : xt_nl lv i = true) (k : xn_T own cc nL ret d mc ms n0 Q c0 s0 pc' (lv.set i (some (.int (x + v)))) st w) : xn_T own cc nL ret d mc ms n0 Q c0 s0 pc lv st w := by
  intro p l e s m args below meth c D g A hX g0 hE H locs ls hP hD hS hL
  obtain ⟨n, hd, hv, rfl⟩ := hd
  have hi : i < lv.length := (List.getElem?_eq_some_iff.mp h).1
  have hi2 : i < nL := Nat.lt_of_lt_of_le hi hL.1
  obtain ⟨kk, hkk⟩ := List.getElem?_of_mem (xt_as_mem.mpr ⟨i, _, h, (Nat.zero_add i).symm, rfl⟩ : (i, xt_v g (.int x)) ∈ xt_as g 0 lv)
  exact lv_iinc (v := x + v) hX.1 hX.2.1 hd hL.2 hkk (by rw [hv]) hi2 rfl (fun ls' h' => k p l e s m args below meth c D g A hX g0 hE H locs ls' hP hD hS (hL.st1 hX.2.2.2.2.2.2.2.2.1.2.2.2.2.2 hn h'))
theorem n_get {own : String} {cc : ByteArray} {nL : Nat} {ret : Option FieldType} {d : Nat} {mc ms n0 c0 s0 : Nat} {Q : List xt_E → Prop} {pc pc' : Nat} {lv : List (Option Value)} {st : List Value} {w : List xt_E} {idx ci k q : Nat} {fs : List Value} {v : Value} (hd : xr_o cc pc (.getfield idx) 3 pc') (hf : xt_f own idx ci k) (hw : w[q]? = some (.inr (ci, fs))) (hv : fs[k]? = some v) (kk : xn_T own cc nL ret d mc ms n0 Q c0 s0 pc' lv (v :: st) w) : xn_T own cc nL ret d mc ms n0 Q c0 s0 pc lv (.ref q :: st) w := by
  intro p l e s m args below meth c D g A hX g0 hE H locs ls hP hD hS hL
  obtain ⟨hd, rfl⟩ := hd
  obtain ⟨r, hc, hk, hl⟩ := hf
  exact va_get (ci := ci) (C := r.1) (T := r.2.1) (N := r.2.2) hX.1 hX.2.1 hX.2.2.2.2.2.2.1 (xt_in hc) hX.2.2.2.2.2.1 hX.2.2.2.2.2.2.2.1 hP q (xt_c_get hw) hc k hk (hX.2.2.2.2.2.2.1 _ hl) (fun _ h => h) (v := xt_v g v) (by simp [hv]) hd (kk p l e s m args below meth c D g A hX g0 hE H locs ls hP hD hS hL)
theorem n_put {own : String} {cc : ByteArray} {nL : Nat} {ret : Option FieldType} {d : Nat} {mc ms n0 c0 s0 : Nat} {Q : List xt_E → Prop} {pc pc' : Nat} {lv : List (Option Value)} {st : List Value} {w : List xt_E} {idx ci k q : Nat} {ty : FieldType} {fs : List Value} {v : Value} {w' : List xt_E} (hd : xr_o cc pc (.putfield idx) 3 pc') (hf : xt_p own idx ci k ty) (hw : w[q]? = some (.inr (ci, fs))) (hpv : ∀ g : xt_G, xt_v g v = v) (hn : narrow ty v = v) (hfit : fits ty v = true) (hl : k < fs.length) (hw' : w.set q (.inr (ci, fs.set k v)) = w') (kk : xn_T own cc nL ret d mc ms n0 Q c0 s0 pc' lv st w') : xn_T own cc nL ret d mc ms n0 Q c0 s0 pc lv (v :: .ref q :: st) w := by
  intro p l e s m args below meth c D g A hX g0 hE H locs ls hP hD hS hL
  obtain ⟨hd, rfl⟩ := hd
  obtain ⟨r, hc, hk, hli, hfin, hty⟩ := hf
  obtain ⟨⟨ty0, hty0⟩, hnm⟩ := xt_tyn hc
  have e1 : (xt_c g w).set q (g.1 q, .inr (ci, (fs.map (xt_v g)).set k v)) = xt_c g w' := by
    rw [← hw', ← xt_c_set]
    simp only [xt_e, List.map_set, hpv g]
  have hst : (v :: .ref q :: st).map (xt_v g) = v :: .ref (g.1 q) :: st.map (xt_v g) := by simp only [List.map_cons, hpv g]; rfl
  rw [hst]
  refine va_put (ci := ci) (C := r.1) (T := r.2.1) (N := r.2.2) (ty := ty) hX.1 hX.2.1 hX.2.2.2.2.2.2.1 (xt_in hc) ty0 hty0 hnm hX.2.2.2.2.2.1 hX.2.2.2.2.2.2.2.1 hP hD hS q (xt_c_get hw) hc k hk (hX.2.2.2.2.2.2.1 _ hli) (fun _ h => h) hfin hty hn hfit (by simpa using hl) hd (fun H1 locs1 hP1 hD1 hS1 => ?_)
  rw [e1] at hP1 hD1
  exact kk p l e s m args below meth c D g A hX g0 hE H1 locs1 ls hP1 hD1 hS1 hL
theorem n_puti {own : String} {cc : ByteArray} {nL : Nat} {ret : Option FieldType} {d : Nat} {mc ms n0 c0 s0 : Nat} {Q : List xt_E → Prop} {pc pc' : Nat} {lv : List (Option Value)} {st : List Value} {w : List xt_E} {idx ci k q : Nat} {fs : List Value} {x : Int32} {w' : List xt_E} (hd : xr_o cc pc (.putfield idx) 3 pc') (hf : xt_p own idx ci k .int) (hw : w[q]? = some (.inr (ci, fs))) (hl : k < fs.length) (hw' : w.set q (.inr (ci, fs.set k (.int x))) = w') (kk : xn_T own cc nL ret d mc ms n0 Q c0 s0 pc' lv st w') : xn_T own cc nL ret d mc ms n0 Q c0 s0 pc lv (.int x :: .ref q :: st) w := n_put hd hf hw (fun _ => rfl) rfl rfl hl hw' kk
theorem n_putz {own : String} {cc : ByteArray} {nL : Nat} {ret : Option FieldType} {d : Nat} {mc ms n0 c0 s0 : Nat} {Q : List xt_E → Prop} {pc pc' : Nat} {lv : List (Option Value)} {st : List Value} {w : List xt_E} {idx ci k q : Nat} {fs : List Value} {x : Int32} {w' : List xt_E} (hd : xr_o cc pc (.putfield idx) 3 pc') (hf : xt_p own idx ci k .boolean) (hw : w[q]? = some (.inr (ci, fs))) (hl : k < fs.length) (hx : x = 0 ∨ x = 1) (hw' : w.set q (.inr (ci, fs.set k (.int x))) = w') (kk : xn_T own cc nL ret d mc ms n0 Q c0 s0 pc' lv st w') : xn_T own cc nL ret d mc ms n0 Q c0 s0 pc lv (.int x :: .ref q :: st) w := n_put hd hf hw (fun _ => rfl) (xt_nz hx) (xt_fz hx) hl hw' kk
theorem n_iaload {own : String} {cc : ByteArray} {nL : Nat} {ret : Option FieldType} {d : Nat} {mc ms n0 c0 s0 : Nat} {Q : List xt_E → Prop} {pc pc' : Nat} {lv : List (Option Value)} {st : List Value} {w : List xt_E} {q n : Nat} {f : Nat → Int32} {i : Int32} (hd : xr_o cc pc .iaload 1 pc') (hw : w[q]? = some (.inl (0, n, f))) (hin : vp_in i n) (kk : xn_T own cc nL ret d mc ms n0 Q c0 s0 pc' lv (.int (f i.toNatClampNeg) :: st) w) : xn_T own cc nL ret d mc ms n0 Q c0 s0 pc lv (.int i :: .ref q :: st) w := by
  intro p l e s m args below meth c D g A hX g0 hE H locs ls hP hD hS hL
  obtain ⟨hd, rfl⟩ := hd
  exact va_iald hX.1 hX.2.1 hX.2.2.2.2.2.2.2.1 hP q 0 (xt_c_get hw) rfl hin hd (kk p l e s m args below meth c D g A hX g0 hE H locs ls hP hD hS hL)
theorem n_iastore {own : String} {cc : ByteArray} {nL : Nat} {ret : Option FieldType} {d : Nat} {mc ms n0 c0 s0 : Nat} {Q : List xt_E → Prop} {pc pc' : Nat} {lv : List (Option Value)} {st : List Value} {w : List xt_E} {q n : Nat} {f : Nat → Int32} {i x : Int32} {w' : List xt_E} (hd : xr_o cc pc .iastore 1 pc') (hw : w[q]? = some (.inl (0, n, f))) (hin : vp_in i n) (hw' : w.set q (.inl (0, n, upd f i.toNatClampNeg x)) = w') (kk : xn_T own cc nL ret d mc ms n0 Q c0 s0 pc' lv st w') : xn_T own cc nL ret d mc ms n0 Q c0 s0 pc lv (.int x :: .int i :: .ref q :: st) w := by
  intro p l e s m args below meth c D g A hX g0 hE H locs ls hP hD hS hL
  obtain ⟨hd, rfl⟩ := hd
  refine va_iast hX.1 hX.2.1 hX.2.2.2.2.2.2.2.1 hP hD hS q 0 (xt_c_get hw) rfl hin hd (fun H1 locs1 hP1 hD1 hS1 => ?_)
  have e1 : (xt_c g w).set q (g.1 q, .inl (g.2.1 0, n, .inl (upd f i.toNatClampNeg x))) = xt_c g w' := by rw [← hw', ← xt_c_set]; rfl
  rw [e1] at hP1 hD1
  exact kk p l e s m args below meth c D g A hX g0 hE H1 locs1 ls hP1 hD1 hS1 hL
theorem n_ldcS {own : String} {cc : ByteArray} {nL : Nat} {ret : Option FieldType} {d : Nat} {mc ms n0 c0 s0 : Nat} {Q : List xt_E → Prop} {pc pc' idx : Nat} {lv : List (Option Value)} {st : List Value} {w : List xt_E} {i r : Nat} {tx : String} (hd : xr_o cc pc (.ldc idx) 2 pc') (hs : xt_strs[i]? = some (own, idx, tx)) (hr : 1000 + i = r) (k : xn_T own cc nL ret d mc ms n0 Q c0 s0 pc' lv (.ref r :: st) w) : xn_T own cc nL ret d mc ms n0 Q c0 s0 pc lv st w := by
  intro p l e s m args below meth c D g A hX g0 hE H locs ls hP hD hS hL
  obtain ⟨hd, rfl⟩ := hd
  have hts := hX.2.2.2.2.2.2.1
  have hZ := hX.2.2.2.2.2.2.2.2.1
  subst hr
  exact va_ldcS hX.1 hX.2.1 hX.2.2.2.2.2.1 (hZ.2.1 i _ hs) hd (k p l e s m args below meth c D g A hX g0 hE H locs ls hP hD hS hL)
theorem n_iload0 {own : String} {cc : ByteArray} {nL : Nat} {ret : Option FieldType} {d : Nat} {mc ms n0 c0 s0 : Nat} {Q : List xt_E → Prop} {pc pc' : Nat} {st : List Value} {w : List xt_E} {r : List (Option Value)} {x : Int32} (hd : xr_ild cc pc 0 pc') (k : xn_T own cc nL ret d mc ms n0 Q c0 s0 pc' (some (.int x) :: r) (.int x :: st) w) : xn_T own cc nL ret d mc ms n0 Q c0 s0 pc (some (.int x) :: r) st w := n_iload hd rfl k
theorem n_aload0 {own : String} {cc : ByteArray} {nL : Nat} {ret : Option FieldType} {d : Nat} {mc ms n0 c0 s0 : Nat} {Q : List xt_E → Prop} {pc pc' : Nat} {st : List Value} {w : List xt_E} {r : List (Option Value)} {x : Nat} (hd : xr_ald cc pc 0 pc') (k : xn_T own cc nL ret d mc ms n0 Q c0 s0 pc' (some (.ref x) :: r) (.ref x :: st) w) : xn_T own cc nL ret d mc ms n0 Q c0 s0 pc (some (.ref x) :: r) st w := n_aload hd rfl k
theorem n_istore0 {own : String} {cc : ByteArray} {nL : Nat} {ret : Option FieldType} {d : Nat} {mc ms n0 c0 s0 : Nat} {Q : List xt_E → Prop} {pc pc' : Nat} {st : List Value} {w : List xt_E} {b : Option Value} {r : List (Option Value)} {x : Int32} (hd : xr_ist cc pc 0 pc') (k : xn_T own cc nL ret d mc ms n0 Q c0 s0 pc' (some (.int x) :: r) st w) : xn_T own cc nL ret d mc ms n0 Q c0 s0 pc (b :: r) (.int x :: st) w := n_istore (i := 0) hd (by simp only [List.length_cons]; omega) rfl k
theorem n_iinc0 {own : String} {cc : ByteArray} {nL : Nat} {ret : Option FieldType} {d : Nat} {mc ms n0 c0 s0 : Nat} {Q : List xt_E → Prop} {pc pc' : Nat} {st : List Value} {w : List xt_E} {r : List (Option Value)} {x v : Int32} (hd : xr_inc cc pc 0 v pc') (k : xn_T own cc nL ret d mc ms n0 Q c0 s0 pc' (some (.int (x + v)) :: r) st w) : xn_T own cc nL ret d mc ms n0 Q c0 s0 pc (some (.int x) :: r) st w := n_iinc (i := 0) hd rfl rfl k
theorem n_iload1 {own : String} {cc : ByteArray} {nL : Nat} {ret : Option FieldType} {d : Nat} {mc ms n0 c0 s0 : Nat} {Q : List xt_E → Prop} {pc pc' : Nat} {st : List Value} {w : List xt_E} {a0 : Option Value} {r : List (Option Value)} {x : Int32} (hd : xr_ild cc pc 1 pc') (k : xn_T own cc nL ret d mc ms n0 Q c0 s0 pc' (a0 :: some (.int x) :: r) (.int x :: st) w) : xn_T own cc nL ret d mc ms n0 Q c0 s0 pc (a0 :: some (.int x) :: r) st w := n_iload hd rfl k
theorem n_aload1 {own : String} {cc : ByteArray} {nL : Nat} {ret : Option FieldType} {d : Nat} {mc ms n0 c0 s0 : Nat} {Q : List xt_E → Prop} {pc pc' : Nat} {st : List Value} {w : List xt_E} {a0 : Option Value} {r : List (Option Value)} {x : Nat} (hd : xr_ald cc pc 1 pc') (k : xn_T own cc nL ret d mc ms n0 Q c0 s0 pc' (a0 :: some (.ref x) :: r) (.ref x :: st) w) : xn_T own cc nL ret d mc ms n0 Q c0 s0 pc (a0 :: some (.ref x) :: r) st w := n_aload hd rfl k
theorem n_istore1 {own : String} {cc : ByteArray} {nL : Nat} {ret : Option FieldType} {d : Nat} {mc ms n0 c0 s0 : Nat} {Q : List xt_E → Prop} {pc pc' : Nat} {st : List Value} {w : List xt_E} {a0 : Option Value} {b : Option Value} {r : List (Option Value)} {x : Int32} (hd : xr_ist cc pc 1 pc') (hn : xt_nl [a0] 1 = true) (k : xn_T own cc nL ret d mc ms n0 Q c0 s0 pc' (a0 :: some (.int x) :: r) st w) : xn_T own cc nL ret d mc ms n0 Q c0 s0 pc (a0 :: b :: r) (.int x :: st) w := n_istore (i := 1) hd (by simp only [List.length_cons]; omega) hn k
theorem n_iinc1 {own : String} {cc : ByteArray} {nL : Nat} {ret : Option FieldType} {d : Nat} {mc ms n0 c0 s0 : Nat} {Q : List xt_E → Prop} {pc pc' : Nat} {st : List Value} {w : List xt_E} {a0 : Option Value} {r : List (Option Value)} {x v : Int32} (hd : xr_inc cc pc 1 v pc') (hn : xt_nl [a0] 1 = true) (k : xn_T own cc nL ret d mc ms n0 Q c0 s0 pc' (a0 :: some (.int (x + v)) :: r) st w) : xn_T own cc nL ret d mc ms n0 Q c0 s0 pc (a0 :: some (.int x) :: r) st w := n_iinc (i := 1) hd rfl hn k
theorem xn_acI : Cond.arrayClass .int ∈ xt_tbl := tb1 83 rfl rfl
theorem xn_acZ : Cond.arrayClass .boolean ∈ xt_tbl := tb4 141 rfl rfl
theorem xn_o1 : Cond.instanceMethod Lib.objectInit ∈ xt_tbl := tb1 22 rfl rfl
theorem xn_o2 : Cond.code Lib.objectInit ⟨#[0xb1]⟩ 1 none ∈ xt_tbl := tb1 23 rfl rfl
section XN
variable {own : String} {cc : ByteArray} {nL : Nat} {ret : Option FieldType} {d mc ms n0 c0 s0 : Nat} {Q : List xt_E → Prop} {pc pc' : Nat} {lv : List (Option Value)} {st : List Value} {w : List xt_E}
def xn_f : Value → Bool
  | .ref _ => false
  | .retAddr _ => false
  | _ => true
def xn_c (own : String) (idx ci N : Nat) (fs : List Value) : Prop := ∃ q : vw_C, vwCl[ci]? = some q ∧ q.2.2 = N ∧ Cond.classLink own idx q.1 ∈ xt_tbl ∧ Cond.instantiable q.1 N ∈ xt_tbl ∧ Cond.initialized q.1 ∈ xt_tbl ∧ ∃ ty : Nat → FieldType, (∀ k, k < N → parseFieldDescriptor (q.2.1 k).2.2.1 = some (ty k)) ∧ ∀ j, j < N → defaultValue (ty j) = vp_V fs j
theorem n_new {idx ci N q : Nat} {fs : List Value} {w' : List xt_E} (hd : xr_o cc pc (.new idx) 3 pc') (hc : xn_c own idx ci N fs) (hfs : fs.all xn_f = true) (hwf : w.all (xn_e w.length) = true) (hlv : lv.all (xn_o w.length) = true) (hst : st.all (xn_v w.length) = true) (hn0 : n0 ≤ w.length) (hl : w.length < 1000) (hq : w.length = q) (hcells : c0 + 1 ≤ mc) (hslots : s0 + N ≤ ms) (hw' : w ++ [.inr (ci, fs)] = w') (k : xn_T own cc nL ret d mc ms n0 Q (c0 + 1) (s0 + N) pc' lv (.ref q :: st) w') : xn_T own cc nL ret d mc ms n0 Q c0 s0 pc lv st w := by
  intro p l e s m args below meth c D g A hX g0 hE H locs ls hP hD hS hL
  obtain ⟨hd, rfl⟩ := hd
  obtain ⟨r, h1, rfl, h3, h4, h5, ty, h6, h7⟩ := hc
  subst hq; subst hw'
  have hts := hX.2.2.2.2.2.2.1
  refine va_new (ci := ci) (C := r.1) (T := r.2.1) (N := r.2.2) (fs := fs) hX.1 hX.2.1 hts (xt_in h1) ty h6 hX.2.2.2.2.2.1 (hts _ h3) (hts _ h4) (hts _ h5) hX.2.2.2.2.2.2.2.1 hP hD hS hX.2.2.2.2.2.2.2.2.2 h1 h7 hcells hslots hd (fun q H1 hP1 hD1 hS1 => ?_)
  have he : ∀ g' : xt_G, g'.2 = g.2 → xt_e g' (.inr (ci, fs)) = .inr (ci, fs) := by
    intro g' _
    show Sum.inr (ci, fs.map (xt_v g')) = _
    have : fs.map (xt_v g') = fs := by
      conv => rhs; rw [← List.map_id fs]
      apply List.map_congr_left
      intro v hv
      have := List.all_eq_true.mp hfs v hv
      cases v with
      | ref k => cases this
      | retAddr k => cases this
      | _ => rfl
    rw [this]
  obtain ⟨g', e1, e2, e3⟩ := xn_push (q := q) hwf he hl
  rw [← e3] at hP1 hD1
  have := k p l e s m args below meth c D g' A (xn_X_eq e1 hX) g0 ⟨hE.1.tr e1 hn0, hE.2⟩ H1 locs ls hP1 hD1 hS1 ⟨hL.1, by rw [xn_as_eq e1 0 hlv]; exact hL.2⟩
  rw [List.map_cons, xn_st_eq e1 hst] at this
  have e4 : xt_v g' (.ref w.length) = .ref q := by show Value.ref (g'.1 w.length) = _; rw [e2]
  rw [e4] at this
  exact this
theorem n_newa {idx t N q : Nat} {x : Int32} {at' : ArrayType} {ty : FieldType} {w' : List xt_E} (hd : xr_o cc pc (.newarray at') 2 pc') (hty : newarray.typeOf at' = ty) (ht : ∀ g : xt_G, (xt_tys g)[t]? = some (g.2.1 t, ty)) (hra : ∀ (U : State) (cA : ClassId), va_RA U cA ty → U.vm.findClass ("[" ++ ty.toString) = some cA) (hdv : defaultValue ty = .int 0) (hac : Cond.arrayClass ty ∈ xt_tbl) (hx : ¬ x < 0) (hN : x.toNatClampNeg = N) (hby : N * componentBytes ty ≤ 536870912) (hwf : w.all (xn_e w.length) = true) (hlv : lv.all (xn_o w.length) = true) (hst : st.all (xn_v w.length) = true) (hn0 : n0 ≤ w.length) (hl : w.length < 1000) (hq : w.length = q) (hcells : c0 + 1 ≤ mc) (hslots : s0 + N ≤ ms) (hw' : w ++ [.inl (t, N, fun _ => 0)] = w') (k : xn_T own cc nL ret d mc ms n0 Q (c0 + 1) (s0 + N) pc' lv (.ref q :: st) w') : xn_T own cc nL ret d mc ms n0 Q c0 s0 pc lv (.int x :: st) w := by
  intro p l e s m args below meth c D g A hX g0 hE H locs ls hP hD hS hL
  obtain ⟨hd, rfl⟩ := hd
  subst hq; subst hw'
  have hts := hX.2.2.2.2.2.2.1
  refine va_newa (ty := ty) (N' := N) (a0 := (N, .inl (fun _ => 0))) hX.1 hX.2.1 (by rw [hty]; exact hts _ hac) hty hX.2.2.2.2.2.2.2.1 hP hD hS hX.2.2.2.2.2.2.2.2.2 (fun cA => by rw [vp_cell_i, hdv]) hx hN hby hcells hslots hd (fun q cA H1 hK1 hP1 hD1 hS1 => ?_)
  have hcA : cA = g.2.1 t := by
    have k1 := hra s cA ((hK1.2 2 (cA, ty) (by rfl)).2)
    have k2 := hra s (g.2.1 t) ((hX.2.2.2.2.2.2.2.1.2 t _ (ht g)).2)
    exact Option.some.inj (k1.symm.trans k2)
  subst hcA
  obtain ⟨g', e1, e2, e3⟩ := xn_push (q := q) (e := .inl (t, N, fun _ => 0)) (e' := .inl (g.2.1 t, N, .inl (fun _ => 0))) hwf (fun g' hg' => by show Sum.inl (g'.2.1 t, N, Sum.inl _) = _; rw [hg']) hl
  rw [← e3] at hP1 hD1
  have := k p l e s m args below meth c D g' A (xn_X_eq e1 hX) g0 ⟨hE.1.tr e1 hn0, hE.2⟩ H1 locs ls hP1 hD1 hS1 ⟨hL.1, by rw [xn_as_eq e1 0 hlv]; exact hL.2⟩
  rw [List.map_cons, xn_st_eq e1 hst] at this
  have e4 : xt_v g' (.ref w.length) = .ref q := by show Value.ref (g'.1 w.length) = _; rw [e2]
  rw [e4] at this
  exact this
theorem n_newai {N q : Nat} {x : Int32} {w' : List xt_E} (hd : xr_o cc pc (.newarray .int) 2 pc') (hx : ¬ x < 0) (hN : x.toNatClampNeg = N) (hby : N * 4 ≤ 536870912) (hwf : w.all (xn_e w.length) = true) (hlv : lv.all (xn_o w.length) = true) (hst : st.all (xn_v w.length) = true) (hn0 : n0 ≤ w.length) (hl : w.length < 1000) (hq : w.length = q) (hcells : c0 + 1 ≤ mc) (hslots : s0 + N ≤ ms) (hw' : w ++ [.inl (0, N, fun _ => 0)] = w') (k : xn_T own cc nL ret d mc ms n0 Q (c0 + 1) (s0 + N) pc' lv (.ref q :: st) w') : xn_T own cc nL ret d mc ms n0 Q c0 s0 pc lv (.int x :: st) w :=
  n_newa (idx := 0) (t := 0) (ty := .int) hd rfl (fun _ => rfl) (fun _ _ h => h) rfl xn_acI hx hN hby hwf hlv hst hn0 hl hq hcells hslots hw' k
theorem n_newaz {N q : Nat} {x : Int32} {w' : List xt_E} (hd : xr_o cc pc (.newarray .boolean) 2 pc') (hx : ¬ x < 0) (hN : x.toNatClampNeg = N) (hby : N * 1 ≤ 536870912) (hwf : w.all (xn_e w.length) = true) (hlv : lv.all (xn_o w.length) = true) (hst : st.all (xn_v w.length) = true) (hn0 : n0 ≤ w.length) (hl : w.length < 1000) (hq : w.length = q) (hcells : c0 + 1 ≤ mc) (hslots : s0 + N ≤ ms) (hw' : w ++ [.inl (1, N, fun _ => 0)] = w') (k : xn_T own cc nL ret d mc ms n0 Q (c0 + 1) (s0 + N) pc' lv (.ref q :: st) w') : xn_T own cc nL ret d mc ms n0 Q c0 s0 pc lv (.int x :: st) w :=
  n_newa (idx := 0) (t := 1) (ty := .boolean) hd rfl (fun _ => rfl) (fun _ _ h => h) rfl xn_acZ hx hN hby hwf hlv hst hn0 hl hq hcells hslots hw' k
def xn_p (own : String) (idx ci k : Nat) : Prop := ∃ q : vw_C, vwCl[ci]? = some q ∧ k < q.2.2 ∧ Cond.fieldLink own idx (q.2.1 k).1 (q.2.1 k).2.1 (q.2.1 k).2.2.1 ∈ xt_tbl ∧ (q.2.1 k).2.2.2 = true ∧ (q.2.1 k).1 = own ∧ ∃ ty : FieldType, parseFieldDescriptor (q.2.1 k).2.2.1 = some ty ∧ ∀ a : Nat, narrow ty (.ref a) = .ref a ∧ fits ty (.ref a) = true
theorem n_putr {idx ci k q j : Nat} {fs : List Value} {w' : List xt_E} (hd : xr_o cc pc (.putfield idx) 3 pc') (hf : xn_p own idx ci k) (hw : w[q]? = some (.inr (ci, fs))) (hl : k < fs.length) (hw' : w.set q (.inr (ci, fs.set k (.ref j))) = w') (kk : xn_T own cc nL ret d mc ms n0 Q c0 s0 pc' lv st w') : xn_T own cc nL ret d mc ms n0 Q c0 s0 pc lv (.ref j :: .ref q :: st) w := by
  intro p l e s m args below meth c D g A hX g0 hE H locs ls hP hD hS hL
  obtain ⟨hd, rfl⟩ := hd
  obtain ⟨r, hc, hk, hli, hfin, hde, ty, hty, hnf⟩ := hf
  obtain ⟨⟨ty0, hty0⟩, hnm⟩ := xt_tyn hc
  have e1 : (xt_c g w).set q (g.1 q, .inr (ci, (fs.map (xt_v g)).set k (.ref (g.1 j)))) = xt_c g w' := by
    rw [← hw', ← xt_c_set]
    simp only [xt_e, List.map_set]
    rfl
  refine va_putF (ci := ci) (C := r.1) (T := r.2.1) (N := r.2.2) (ty := ty) (v := .ref (g.1 j)) hX.1 hX.2.1 hX.2.2.2.2.2.2.1 (xt_in hc) ty0 hty0 hnm hX.2.2.2.2.2.1 hX.2.2.2.2.2.2.2.1 hP hD hS q (xt_c_get hw) hc k hk (hX.2.2.2.2.2.2.1 _ hli) (fun _ h => h) hfin hE.2 hde hty (hnf _).1 (hnf _).2 (by simpa using hl) hd (fun H1 locs1 hP1 hD1 hS1 => ?_)
  rw [e1] at hP1 hD1
  exact kk p l e s m args below meth c D g A hX g0 hE H1 locs1 ls hP1 hD1 hS1 hL
def xn_oi (own : String) (idx : Nat) : Prop := Cond.methodLink own idx Lib.objectInit ∈ xt_tbl
theorem n_obj {idx q : Nat} (hd : xr_o cc pc (.invokespecial idx) 3 pc') (hl : xn_oi own idx) (hsum : (st.map fun v => v.category).sum ≤ 8) (k : xn_T own cc nL ret (d + 1) mc ms n0 Q c0 s0 pc' lv st w) : xn_T own cc nL ret (d + 1) mc ms n0 Q c0 s0 pc lv (.ref q :: st) w := by
  intro p l e s m args below meth c D g A hX g0 hE H locs ls hP hD hS hL
  obtain ⟨hd, rfl⟩ := hd
  have hts := hX.2.2.2.2.2.2.1
  have hg : g.2.2.category = 1 := hX.2.2.2.2.2.2.2.2.1.2.2.2.2.2
  refine W.objInit (g := F0 m pc ls (.ref (g.1 q) :: st.map (xt_v g))) hX.1 hX.2.1 hX.2.2.2.2.2.1 (hts _ hl) (hts _ xn_o1) (hts _ xn_o2) rfl (by rw [hX.2.2.1]; exact hL.2.1) rfl hd ?_ ?_ (k p l e s m args below meth c D g A hX g0 hE H locs ls hP hD hS hL)
  · show 1 ≤ d + 1
    omega
  · rw [xt_sum hg]
    show 2 * 0 + _ + 12 ≤ 64 * (d + 1)
    omega
theorem n_vret (hd : xr_o cc pc .return_ 1 pc') (hq : Q w) (hr : ret = none) : xn_T own cc nL ret d mc ms n0 Q mc ms pc lv [] w := by
  intro p l e s m args below meth c D g A hX g0 hE H locs ls hP hD hS hL
  obtain ⟨hd, rfl⟩ := hd
  exact W.vret hX.1 hX.2.1 (hX.2.2.2.1.trans hr) (fun t ht hW => ⟨⟨g, w, rfl, hE.1, hq, by rw [ht]; exact hP, hD⟩, hS.F ht⟩) hS.2.2 hd (hlocks := hX.2.2.2.2.1)
/-- a call of a method that makes nothing -/
theorem xn_call {p : Program} {l : Launch} {e : Env} {R : Room} {s : State} {m : MethodId} {args : Array Value} {below : List Frame} {meth : Method} {c : Code} {H : Heap} {locs : List Loc} {Q : State → Prop} {pc c0 s0 : Nat} {ls : Array Slot} {st0 rest : List Value} {D : va_G} {g : xt_G} {w : List xt_E} {K : Option Value → List xt_E → Prop} {A : Nat → Prop} {a : Array Value}
    (hr : va_Run p l e R s m args below meth c H locs c0 s0 0 0 (F0 m pc ls st0) rest (xt_Q D g K (va_A (xt_c g w) H.size) a) (va_A (xt_c g w) H.size)) (hA : ∀ q, s.heap.size ≤ q → A q) (hD : va_D A (xt_c g w)) (hS : va_S A s.heap H locs)
    (kk : ∀ (v : Option Value) (w' : List xt_E) (H1 : Heap) (locs1 : List Loc), K v w' → va_P D vwCl (xt_c g w') H1 → va_D A (xt_c g w') → va_S A s.heap H1 locs1 → W p l e R s m args below meth c H1 locs1 c0 s0 Q (F0 m (pc + 3) ls (v.toList ++ rest))) : W p l e R s m args below meth c H locs c0 s0 Q (F0 m pc ls st0) := by
  have hf : ∀ q, va_A (xt_c g w) H.size q → A q := by
    rintro q (⟨k, e, h⟩ | h)
    · exact hD.2 k _ h
    · exact hA q (Nat.le_trans hS.1 h)
  intro T hT X
  obtain ⟨v, st₀, t, T', L, h0, X', hL, e1, e2, ⟨⟨v2, w', hv, hk, hp, hd⟩, hz, hkk⟩, st⟩ := hr T hT X
  cases hv
  rw [h0] at hz hkk
  obtain ⟨t2, a1, b1⟩ := kk v w' T'.heap (locs ++ L) hk (by rw [e1]; exact hp) (hd.weaken (fun _ q _ h => hf _ h)) ⟨Nat.le_trans hS.1 (by rw [e1]; exact hz), fun q h1 h2 => by rw [e1, hkk q (Nat.lt_of_lt_of_le h1 hS.1) (fun z => h2 (hf q z))]; exact hS.2.1 q h1 h2, fun q hq => by
    rcases List.mem_append.mp hq with h | h
    · exact hS.2.2 q h
    · exact hf _ (hL q h)⟩ T' rfl X'
  exact ⟨t2, st t2 a1, b1⟩
theorem xn_room {d maxL mc ms : Nat} (h : maxL ≤ 40) : (xt_R d).frames + 1 ≤ (xn_R (d + 1) mc ms).frames ∧ 8 + (maxL + 11) + (xt_R d).locals ≤ (xn_R (d + 1) mc ms).locals := by
  refine ⟨Nat.le_refl _, ?_⟩
  show 8 + (maxL + 11) + 64 * d ≤ 64 * (d + 1)
  omega
theorem xn_room2 {d maxL mc ms mc' ms' : Nat} (h : maxL ≤ 40) : (xn_R d mc' ms').frames + 1 ≤ (xn_R (d + 1) mc ms).frames ∧ 8 + (maxL + 11) + (xn_R d mc' ms').locals ≤ (xn_R (d + 1) mc ms).locals := by
  refine ⟨Nat.le_refl _, ?_⟩
  show 8 + (maxL + 11) + 64 * d ≤ 64 * (d + 1)
  omega
end XN
section XM
variable {own : String} {cc bytes : ByteArray} {nL maxL : Nat} {ret ret' : Option FieldType} {d mc ms n0 c0 s0 : Nat} {Q : List xt_E → Prop} {pc pc' : Nat} {lv : List (Option Value)} {st stk : List Value} {w : List xt_E} {y : MethodName} {n idx : Nat} {As : List Value} {K : Option Value → List xt_E → Prop}
theorem n_callV {ci q : Nat} {fs : List Value} (hd : xr_o cc pc (.invokevirtual idx) 3 pc') (hm : xt_mk y bytes maxL ret' n) (hl : xt_mV own idx ci y) (hM : xt_M y bytes maxL ret' d (.ref q :: As) w K) (hn : As.length = n) (hq : w[q]? = some (.inr (ci, fs))) (hst : stk = As.reverse ++ .ref q :: st) (hsum : (st.map fun v => v.category).sum ≤ 8) (hc : c0 ≤ mc ∧ s0 ≤ ms)
    (hK : ∀ v w', K v w' → ∀ g : xt_G, v.toList.map (xt_v g) = v.toList) (kk : ∀ v w', K v w' → xn_T own cc nL ret (d + 1) mc ms n0 Q c0 s0 pc' lv (v.toList ++ st) w') : xn_T own cc nL ret (d + 1) mc ms n0 Q c0 s0 pc lv stk w := by
  intro p l e s m args below meth c D g A hX g0 hE H locs ls hP hD hS hL
  obtain ⟨hd, rfl⟩ := hd
  have hts := hX.2.2.2.2.2.2.1
  have hg : g.2.2.category = 1 := hX.2.2.2.2.2.2.2.2.1.2.2.2.2.2
  obtain ⟨k1, k2, k3, r, k4, k5⟩ := hl
  have hp := xt_pre ((.ref q :: As).map (xt_v g)) hX.2.2.2.2.2.2.2.1 hX.2.2.2.2.2.2.2.2.1 hX.2.2.2.2.2.2.2.2.2 hP hD hS
  refine xn_call (A := A) (va_runV (C := y.cls) (b := g.1 q) (As := As.map (xt_v g)) (rest := st.map (xt_v g)) (bytes := bytes) (maxL := maxL) (ret := ret') (n := n) ⟨hX.1, hX.2.1, hX.2.2.1, hX.2.2.2.2.2.1, hts⟩ (hM l D g H.size) ⟨callB_of n hts (xt_good hm) rfl rfl rfl (hts _ hm.2.1) (hts _ k1) hm.2.2.1 (xn_room hm.2.2.2), hts _ k2, hts _ k3⟩ ⟨hp.1, by rw [← k5]; exact va_recv hX.2.2.2.2.2.2.2.1 hP k4 (xt_c_get hq), hp.2⟩ rfl (by simpa using hn) hL.2.1 ?_ ?_ hd hc) hX.2.2.2.2.2.2.2.2.2 hD hS (fun v w' H1 locs1 hk hP1 hD1 hS1 => ?_)
  · rw [hst]; simp [xt_v]
  · exact lv_room (by rw [xt_sum hg]; exact hsum)
  · have := kk v w' hk p l e s m args below meth c D g A hX g0 hE H1 locs1 ls hP1 hD1 hS1 hL
    rw [List.map_append, hK v w' hk g] at this
    exact this
theorem n_callS (hd : xr_o cc pc (.invokestatic idx) 3 pc') (hm : xt_mk y bytes maxL ret' n) (hl : xt_mS own idx y) (hM : xt_M y bytes maxL ret' d As w K) (hn : As.length = n) (hst : stk = As.reverse ++ st) (hsum : (st.map fun v => v.category).sum ≤ 8) (hc : c0 ≤ mc ∧ s0 ≤ ms)
    (hK : ∀ v w', K v w' → ∀ g : xt_G, v.toList.map (xt_v g) = v.toList) (kk : ∀ v w', K v w' → xn_T own cc nL ret (d + 1) mc ms n0 Q c0 s0 pc' lv (v.toList ++ st) w') : xn_T own cc nL ret (d + 1) mc ms n0 Q c0 s0 pc lv stk w := by
  intro p l e s m args below meth c D g A hX g0 hE H locs ls hP hD hS hL
  obtain ⟨hd, rfl⟩ := hd
  have hts := hX.2.2.2.2.2.2.1
  have hg : g.2.2.category = 1 := hX.2.2.2.2.2.2.2.2.1.2.2.2.2.2
  obtain ⟨k1, k2⟩ := hl
  have hp := xt_pre (As.map (xt_v g)) hX.2.2.2.2.2.2.2.1 hX.2.2.2.2.2.2.2.2.1 hX.2.2.2.2.2.2.2.2.2 hP hD hS
  refine xn_call (A := A) (va_runS (As := As.map (xt_v g)) (rest := st.map (xt_v g)) (bytes := bytes) (maxL := maxL) (ret := ret') (n := n) ⟨hX.1, hX.2.1, hX.2.2.1, hX.2.2.2.2.2.1, hts⟩ (hM l D g H.size) ⟨callB_of n hts (xt_good hm) rfl rfl rfl (hts _ hm.2.1) (hts _ k1) hm.2.2.1 (xn_room hm.2.2.2), hts _ k2⟩ hp rfl (by simpa using hn) hL.2.1 ?_ ?_ hd hc) hX.2.2.2.2.2.2.2.2.2 hD hS (fun v w' H1 locs1 hk hP1 hD1 hS1 => ?_)
  · rw [hst]; simp
  · exact lv_room (by rw [xt_sum hg]; exact hsum)
  · have := kk v w' hk p l e s m args below meth c D g A hX g0 hE H1 locs1 ls hP1 hD1 hS1 hL
    rw [List.map_append, hK v w' hk g] at this
    exact this
theorem n_callW {i q : Nat} (hd : xr_o cc pc (.invokevirtual idx) 3 pc') (hm : xt_mk y bytes maxL ret' n) (hl : xt_mW own idx y) (hi : i < 13) (hq : 1000 + i = q) (hM : xt_M y bytes maxL ret' d (.ref q :: As) w K) (hn : As.length = n) (hst : stk = As.reverse ++ .ref q :: st) (hsum : (st.map fun v => v.category).sum ≤ 8) (hc : c0 ≤ mc ∧ s0 ≤ ms)
    (hK : ∀ v w', K v w' → ∀ g : xt_G, v.toList.map (xt_v g) = v.toList) (kk : ∀ v w', K v w' → xn_T own cc nL ret (d + 1) mc ms n0 Q c0 s0 pc' lv (v.toList ++ st) w') : xn_T own cc nL ret (d + 1) mc ms n0 Q c0 s0 pc lv stk w := by
  intro p l e s m args below meth c D g A hX g0 hE H locs ls hP hD hS hL
  obtain ⟨hd, rfl⟩ := hd
  have hts := hX.2.2.2.2.2.2.1
  have hZ := hX.2.2.2.2.2.2.2.2.1
  have hg : g.2.2.category = 1 := hZ.2.2.2.2.2
  obtain ⟨k1, k2, k3, k5⟩ := hl
  subst hq
  have hp := xt_pre ((.ref (1000 + i) :: As).map (xt_v g)) hX.2.2.2.2.2.2.2.1 hX.2.2.2.2.2.2.2.2.1 hX.2.2.2.2.2.2.2.2.2 hP hD hS
  refine xn_call (A := A) (va_runV (C := y.cls) (b := g.1 (1000 + i)) (As := As.map (xt_v g)) (rest := st.map (xt_v g)) (bytes := bytes) (maxL := maxL) (ret := ret') (n := n) ⟨hX.1, hX.2.1, hX.2.2.1, hX.2.2.2.2.2.1, hts⟩ (hM l D g H.size) ⟨callB_of n hts (xt_good hm) rfl rfl rfl (hts _ hm.2.1) (hts _ k1) hm.2.2.1 (xn_room hm.2.2.2), hts _ k2, hts _ k3⟩ ⟨hp.1, by rw [k5]; exact vk_recv (adK := fun i => g.1 (1000 + i)) (i := i) hZ.1 hi hS, hp.2⟩ rfl (by simpa using hn) hL.2.1 ?_ ?_ hd hc) hX.2.2.2.2.2.2.2.2.2 hD hS (fun v w' H1 locs1 hk hP1 hD1 hS1 => ?_)
  · rw [hst]; simp [xt_v]
  · exact lv_room (by rw [xt_sum hg]; exact hsum)
  · have := kk v w' hk p l e s m args below meth c D g A hX g0 hE H1 locs1 ls hP1 hD1 hS1 hL
    rw [List.map_append, hK v w' hk g] at this
    exact this
/-- a constructor is called -/
def xn_mI (own : String) (idx : Nat) (y : MethodName) : Prop := ((Cond.methodLink own idx y ∈ xt_tbl) ∨ ∃ host : String, (own, idx, y, host) ∈ xt_nest) ∧ y.name = "<init>" ∧ Cond.instanceMethod y ∈ xt_tbl
theorem n_ini {q mc' ms' c1 s1 : Nat} {Q' : List xt_E → Prop} (hd : xr_o cc pc (.invokespecial idx) 3 pc') (hm : xt_mk y bytes maxL none 0) (hl : xn_mI own idx y) (hM : xn_M y bytes maxL d mc' ms' [.ref q] w Q') (hwf : w.all (xn_e w.length) = true) (hlv : lv.all (xn_o w.length) = true) (hst : st.all (xn_v w.length) = true) (hn0 : n0 ≤ w.length) (hsum : (st.map fun v => v.category).sum ≤ 8) (hc : c0 + mc' ≤ mc ∧ s0 + ms' ≤ ms) (hc1 : c0 + mc' = c1) (hs1 : s0 + ms' = s1)
    (kk : ∀ w', Q' w' → xn_T own cc nL ret (d + 1) mc ms n0 Q c1 s1 pc' lv st w') : xn_T own cc nL ret (d + 1) mc ms n0 Q c0 s0 pc lv (.ref q :: st) w := by
  intro p l e s m args below meth c D g A hX g0 hE H locs ls hP hD hS hL
  obtain ⟨hd, rfl⟩ := hd
  subst hc1; subst hs1
  have hts := hX.2.2.2.2.2.2.1
  have hA := hX.2.2.2.2.2.2.2.2.2
  have hg : g.2.2.category = 1 := hX.2.2.2.2.2.2.2.2.1.2.2.2.2.2
  obtain ⟨k1, k2, k3⟩ := hl
  have hp := xt_pre ([.ref q].map (xt_v g)) hX.2.2.2.2.2.2.2.1 hX.2.2.2.2.2.2.2.2.1 hA hP hD hS
  have hf : ∀ q, va_A (xt_c g w) H.size q → A q := by
    rintro q (⟨k, e, h⟩ | h)
    · exact hD.2 k _ h
    · exact hA q (Nat.le_trans hS.1 h)
  have hr : va_Run p l e (xn_R (d + 1) mc ms) s m args below meth c H locs c0 s0 mc' ms' (F0 m pc ls (.ref (g.1 q) :: st.map (xt_v g))) (st.map (xt_v g)) (xn_Q D g w.length Q' (va_A (xt_c g w) H.size) #[Value.ref (g.1 q)]) (va_A (xt_c g w) H.size) := by
    rcases k1 with k1 | ⟨host, k1⟩
    · exact va_runI (b := g.1 q) (As := []) (rest := st.map (xt_v g)) (bytes := bytes) (maxL := maxL) (n := 0) ⟨hX.1, hX.2.1, hX.2.2.1, hX.2.2.2.2.2.1, hts⟩ (hM l D g H.size) ⟨callB_of 0 hts (xt_good hm) rfl rfl rfl (hts _ hm.2.1) (hts _ k1) hm.2.2.1 (xn_room2 hm.2.2.2), k2, hts _ k3⟩ hp rfl rfl hL.2.1 rfl (lv_room (by rw [xt_sum hg]; exact hsum)) hd hc
    · have hnw := hX.2.2.2.2.2.2.2.2.1.2.2.1 _ k1
      exact va_runIN (host := host) (b := g.1 q) (As := []) (rest := st.map (xt_v g)) (bytes := bytes) (maxL := maxL) (n := 0) ⟨hX.1, hX.2.1, hX.2.2.1, hX.2.2.2.2.2.1, hts⟩ (hM l D g H.size) ⟨va_cnB 0 hts (xt_good hm) rfl rfl rfl hnw (hts _ hm.2.1) hm.2.2.1 (xn_room2 hm.2.2.2), k2, hts _ k3⟩ hp rfl rfl hL.2.1 rfl (lv_room (by rw [xt_sum hg]; exact hsum)) hd hc
  intro T hT X
  obtain ⟨v, st₀, t, T', L, h0, X', hL', e1, e2, ⟨⟨g', w', hv, hx, hk, hp', hd'⟩, hz, hkk⟩, stp⟩ := hr T hT X
  cases hv
  rw [h0] at hz hkk
  have e4 := kk w' hk p l e s m args below meth c D g' A (xn_X_eq hx hX) g0 ⟨hE.1.tr hx hn0, hE.2⟩ T'.heap (locs ++ L) ls (by rw [e1]; exact hp') (hd'.weaken (fun _ q _ h => hf _ h)) ⟨Nat.le_trans hS.1 (by rw [e1]; exact hz), fun q h1 h2 => by rw [e1, hkk q (Nat.lt_of_lt_of_le h1 hS.1) (fun z => h2 (hf q z))]; exact hS.2.1 q h1 h2, fun q hq => by
    rcases List.mem_append.mp hq with h | h
    · exact hS.2.2 q h
    · exact hf _ (hL' q h)⟩ ⟨hL.1, by rw [xn_as_eq hx 0 hlv]; exact hL.2⟩
  rw [xn_st_eq hx hst] at e4
  obtain ⟨t2, a1, b1⟩ := e4 T' rfl X'
  exact ⟨t2, stp t2 a1, b1⟩
end XM
