/-! cells, calls, ends, switches -/
theorem xt_in : ∀ {ci : Nat} {q : vw_C}, vwCl[ci]? = some q → ∀ w ∈ u_ws q.1 q.2.1 q.2.2, w ∈ xt_tbl := by
  intro ci q h
  match ci, h with
  | 0, h => cases h; exact inX0
  | 1, h => cases h; exact inX1
  | 2, h => cases h; exact inX2
  | 3, h => cases h; exact inX3
  | 4, h => cases h; exact inX4
  | 5, h => cases h; exact inX5
  | 6, h => cases h; exact inX6
  | k + 7, h => simp [vwCl] at h
theorem xt_tyn : ∀ {ci : Nat} {q : vw_C}, vwCl[ci]? = some q → (∃ ty0 : Nat → FieldType, ∀ k, k < q.2.2 → parseFieldDescriptor (q.2.1 k).2.2.1 = some (ty0 k)) ∧ ∀ a, a < q.2.2 → ∀ b, b < q.2.2 → a ≠ b → (q.2.1 a).2.1 ≠ (q.2.1 b).2.1 := by
  intro ci q h
  match ci, h with
  | 0, h => cases h; exact ⟨⟨tyX0, tyX0_ok⟩, nmX0⟩
  | 1, h => cases h; exact ⟨⟨tyX1, tyX1_ok⟩, nmX1⟩
  | 2, h => cases h; exact ⟨⟨tyX2, tyX2_ok⟩, nmX2⟩
  | 3, h => cases h; exact ⟨⟨tyX3, tyX3_ok⟩, nmX3⟩
  | 4, h => cases h; exact ⟨⟨tyX4, tyX4_ok⟩, nmX4⟩
  | 5, h => cases h; exact ⟨⟨tyX5, tyX5_ok⟩, nmX5⟩
  | 6, h => cases h; exact ⟨⟨tyX6, tyX6_ok⟩, nmX6⟩
  | k + 7, h => simp [vwCl] at h
def xt_f (own : String) (idx ci k : Nat) : Prop := ∃ q : vw_C, vwCl[ci]? = some q ∧ k < q.2.2 ∧ Cond.fieldLink own idx (q.2.1 k).1 (q.2.1 k).2.1 (q.2.1 k).2.2.1 ∈ xt_tbl
def xt_p (own : String) (idx ci k : Nat) (ty : FieldType) : Prop := ∃ q : vw_C, vwCl[ci]? = some q ∧ k < q.2.2 ∧ Cond.fieldLink own idx (q.2.1 k).1 (q.2.1 k).2.1 (q.2.1 k).2.2.1 ∈ xt_tbl ∧ (q.2.1 k).2.2.2 = false ∧ parseFieldDescriptor (q.2.1 k).2.2.1 = some ty
section XH
variable {own : String} {cc : ByteArray} {nL : Nat} {ret : Option FieldType} {d : Nat} {Q : Option Value → List xt_E → Prop} {pc pc' : Nat} {lv : List (Option Value)} {st : List Value} {w : List xt_E}
theorem x_get {idx ci k q : Nat} {fs : List Value} {v : Value} (hd : xr_o cc pc (.getfield idx) 3 pc') (hf : xt_f own idx ci k) (hw : w[q]? = some (.inr (ci, fs))) (hv : fs[k]? = some v) (kk : xt_T own cc nL ret d Q pc' lv (v :: st) w) : xt_T own cc nL ret d Q pc lv (.ref q :: st) w := by
  intro p l e s m args below meth c D g A hX H locs ls hP hD hS hL
  obtain ⟨hd, rfl⟩ := hd
  obtain ⟨r, hc, hk, hl⟩ := hf
  exact va_get (ci := ci) (C := r.1) (T := r.2.1) (N := r.2.2) hX.1 hX.2.1 hX.2.2.2.2.2.2.1 (xt_in hc) hX.2.2.2.2.2.1 hX.2.2.2.2.2.2.2.1 hP q (xt_c_get hw) hc k hk (hX.2.2.2.2.2.2.1 _ hl) (fun _ h => h) (v := xt_v g v) (by simp [hv]) hd (kk p l e s m args below meth c D g A hX H locs ls hP hD hS hL)
theorem x_put {idx ci k q : Nat} {ty : FieldType} {fs : List Value} {v : Value} {w' : List xt_E} (hd : xr_o cc pc (.putfield idx) 3 pc') (hf : xt_p own idx ci k ty) (hw : w[q]? = some (.inr (ci, fs))) (hpv : ∀ g : xt_G, xt_v g v = v) (hn : narrow ty v = v) (hfit : fits ty v = true) (hl : k < fs.length) (hw' : w.set q (.inr (ci, fs.set k v)) = w') (kk : xt_T own cc nL ret d Q pc' lv st w') : xt_T own cc nL ret d Q pc lv (v :: .ref q :: st) w := by
  intro p l e s m args below meth c D g A hX H locs ls hP hD hS hL
  obtain ⟨hd, rfl⟩ := hd
  obtain ⟨r, hc, hk, hli, hfin, hty⟩ := hf
  obtain ⟨⟨ty0, hty0⟩, hnm⟩ := xt_tyn hc
  have e1 : (xt_c g w).set q (g.1 q, .inr (ci, (fs.map (xt_v g)).set k v)) = xt_c g w' := by
    rw [← hw', ← xt_c_set]
    simp only [xt_e, List.map_set, hpv g]
  have hst : (v :: .ref q :: st).map (xt_v g) = v :: .ref (g.1 q) :: st.map (xt_v g) := by simp only [List.map_cons, hpv g]; rfl
  rw [hst]
  refine va_put (ci := ci) (C := r.1) (T := r.2.1) (N := r.2.2) (ty := ty) hX.1 hX.2.1 hX.2.2.2.2.2.2.1 (xt_in hc) ty0 hty0 hnm hX.2.2.2.2.2.1 hX.2.2.2.2.2.2.2.1 hP hD hS q (xt_c_get hw) hc k hk (hX.2.2.2.2.2.2.1 _ hli) (fun _ h => h) hfin hty hn hfit (by simpa using hl) hd (fun H1 locs1 hP1 hD1 hS1 => ?_)
  rw [e1] at hP1 hD1
  exact kk p l e s m args below meth c D g A hX H1 locs1 ls hP1 hD1 hS1 hL
theorem x_puti {idx ci k q : Nat} {fs : List Value} {x : Int32} {w' : List xt_E} (hd : xr_o cc pc (.putfield idx) 3 pc') (hf : xt_p own idx ci k .int) (hw : w[q]? = some (.inr (ci, fs))) (hl : k < fs.length) (hw' : w.set q (.inr (ci, fs.set k (.int x))) = w') (kk : xt_T own cc nL ret d Q pc' lv st w') : xt_T own cc nL ret d Q pc lv (.int x :: .ref q :: st) w := x_put hd hf hw (fun _ => rfl) rfl rfl hl hw' kk
theorem x_putl {idx ci k q : Nat} {fs : List Value} {x : Int64} {w' : List xt_E} (hd : xr_o cc pc (.putfield idx) 3 pc') (hf : xt_p own idx ci k .long) (hw : w[q]? = some (.inr (ci, fs))) (hl : k < fs.length) (hw' : w.set q (.inr (ci, fs.set k (.long x))) = w') (kk : xt_T own cc nL ret d Q pc' lv st w') : xt_T own cc nL ret d Q pc lv (.long x :: .ref q :: st) w := x_put hd hf hw (fun _ => rfl) rfl rfl hl hw' kk
theorem xt_nz {x : Int32} (hx : x = 0 ∨ x = 1) : narrow .boolean (.int x) = .int x := by
  rcases hx with rfl | rfl <;> rfl
theorem xt_fz {x : Int32} (hx : x = 0 ∨ x = 1) : fits .boolean (.int x) = true := by
  rcases hx with rfl | rfl <;> rfl
theorem x_putz {idx ci k q : Nat} {fs : List Value} {x : Int32} {w' : List xt_E} (hd : xr_o cc pc (.putfield idx) 3 pc') (hf : xt_p own idx ci k .boolean) (hw : w[q]? = some (.inr (ci, fs))) (hl : k < fs.length) (hx : x = 0 ∨ x = 1) (hw' : w.set q (.inr (ci, fs.set k (.int x))) = w') (kk : xt_T own cc nL ret d Q pc' lv st w') : xt_T own cc nL ret d Q pc lv (.int x :: .ref q :: st) w := x_put hd hf hw (fun _ => rfl) (xt_nz hx) (xt_fz hx) hl hw' kk
theorem x_iaload {q n : Nat} {f : Nat → Int32} {i : Int32} (hd : xr_o cc pc .iaload 1 pc') (hw : w[q]? = some (.inl (0, n, f))) (hin : vp_in i n) (kk : xt_T own cc nL ret d Q pc' lv (.int (f i.toNatClampNeg) :: st) w) : xt_T own cc nL ret d Q pc lv (.int i :: .ref q :: st) w := by
  intro p l e s m args below meth c D g A hX H locs ls hP hD hS hL
  obtain ⟨hd, rfl⟩ := hd
  exact va_iald hX.1 hX.2.1 hX.2.2.2.2.2.2.2.1 hP q 0 (xt_c_get hw) rfl hin hd (kk p l e s m args below meth c D g A hX H locs ls hP hD hS hL)
theorem x_iald {q n j : Nat} {f : Nat → Int32} (hd : xr_o cc pc .iaload 1 pc') (hw : w[q]? = some (.inl (0, n, f))) (hj : j < n) (hn : n < 2 ^ 31) (kk : xt_T own cc nL ret d Q pc' lv (.int (f j) :: st) w) : xt_T own cc nL ret d Q pc lv (.int (nI j) :: .ref q :: st) w :=
  x_iaload hd hw (vp_in_nI hj hn) (by rw [nI_clamp (Nat.lt_trans hj hn)]; exact kk)
theorem x_iastore {q n : Nat} {f : Nat → Int32} {i x : Int32} {w' : List xt_E} (hd : xr_o cc pc .iastore 1 pc') (hw : w[q]? = some (.inl (0, n, f))) (hin : vp_in i n) (hw' : w.set q (.inl (0, n, upd f i.toNatClampNeg x)) = w') (kk : xt_T own cc nL ret d Q pc' lv st w') : xt_T own cc nL ret d Q pc lv (.int x :: .int i :: .ref q :: st) w := by
  intro p l e s m args below meth c D g A hX H locs ls hP hD hS hL
  obtain ⟨hd, rfl⟩ := hd
  refine va_iast hX.1 hX.2.1 hX.2.2.2.2.2.2.2.1 hP hD hS q 0 (xt_c_get hw) rfl hin hd (fun H1 locs1 hP1 hD1 hS1 => ?_)
  have e1 : (xt_c g w).set q (g.1 q, .inl (g.2.1 0, n, .inl (upd f i.toNatClampNeg x))) = xt_c g w' := by rw [← hw', ← xt_c_set]; rfl
  rw [e1] at hP1 hD1
  exact kk p l e s m args below meth c D g A hX H1 locs1 ls hP1 hD1 hS1 hL
theorem x_iast {q n j : Nat} {f : Nat → Int32} {x : Int32} {w' : List xt_E} (hd : xr_o cc pc .iastore 1 pc') (hw : w[q]? = some (.inl (0, n, f))) (hj : j < n) (hn : n < 2 ^ 31) (hw' : w.set q (.inl (0, n, upd f j x)) = w') (kk : xt_T own cc nL ret d Q pc' lv st w') : xt_T own cc nL ret d Q pc lv (.int x :: .int (nI j) :: .ref q :: st) w :=
  x_iastore hd hw (vp_in_nI hj hn) (by rw [nI_clamp (Nat.lt_trans hj hn)]; exact hw') kk
theorem x_baload {q n : Nat} {f : Nat → Int32} {i : Int32} (hd : xr_o cc pc .baload 1 pc') (hw : w[q]? = some (.inl (1, n, f))) (hin : vp_in i n) (kk : xt_T own cc nL ret d Q pc' lv (.int (f i.toNatClampNeg) :: st) w) : xt_T own cc nL ret d Q pc lv (.int i :: .ref q :: st) w := by
  intro p l e s m args below meth c D g A hX H locs ls hP hD hS hL
  obtain ⟨hd, rfl⟩ := hd
  exact va_zald hX.1 hX.2.1 hX.2.2.2.2.2.2.2.1 hP q 1 (xt_c_get hw) rfl hin hd (kk p l e s m args below meth c D g A hX H locs ls hP hD hS hL)
theorem x_bastore {q n : Nat} {f : Nat → Int32} {i x : Int32} {w' : List xt_E} (hd : xr_o cc pc .bastore 1 pc') (hw : w[q]? = some (.inl (1, n, f))) (hin : vp_in i n) (hw' : w.set q (.inl (1, n, upd f i.toNatClampNeg (vp_nar .boolean x))) = w') (kk : xt_T own cc nL ret d Q pc' lv st w') : xt_T own cc nL ret d Q pc lv (.int x :: .int i :: .ref q :: st) w := by
  intro p l e s m args below meth c D g A hX H locs ls hP hD hS hL
  obtain ⟨hd, rfl⟩ := hd
  refine va_zast hX.1 hX.2.1 hX.2.2.2.2.2.2.2.1 hP hD hS q 1 (xt_c_get hw) rfl hin hd (fun H1 locs1 hP1 hD1 hS1 => ?_)
  have e1 : (xt_c g w).set q (g.1 q, .inl (g.2.1 1, n, .inl (upd f i.toNatClampNeg (vp_nar .boolean x)))) = xt_c g w' := by rw [← hw', ← xt_c_set]; rfl
  rw [e1] at hP1 hD1
  exact kk p l e s m args below meth c D g A hX H1 locs1 ls hP1 hD1 hS1 hL
theorem x_alen {q n : Nat} {f : Nat → Int32} {v : Int32} (hd : xr_o cc pc .arraylength 1 pc') (hw : w[q]? = some (.inl (0, n, f))) (hv : Int32.ofNat n = v) (kk : xt_T own cc nL ret d Q pc' lv (.int v :: st) w) : xt_T own cc nL ret d Q pc lv (.ref q :: st) w := by
  intro p l e s m args below meth c D g A hX H locs ls hP hD hS hL
  obtain ⟨hd, rfl⟩ := hd
  exact va_alen hX.1 hX.2.1 hX.2.2.2.2.2.2.2.1 hP q 0 (xt_c_get hw) rfl hv hd (kk p l e s m args below meth c D g A hX H locs ls hP hD hS hL)
-- constants of the pool
theorem x_ldc {idx : Nat} {v : Int32} (hd : xr_o cc pc (.ldc idx) 2 pc') (hc : Cond.constant own idx v ∈ xt_tbl) (kk : xt_T own cc nL ret d Q pc' lv (.int v :: st) w) : xt_T own cc nL ret d Q pc lv st w := by
  intro p l e s m args below meth c D g A hX H locs ls hP hD hS hL
  obtain ⟨hd, rfl⟩ := hd
  exact lv_ldc hX.1 hX.2.1 hX.2.2.2.2.2.1 (hX.2.2.2.2.2.2.1 _ hc) hd (kk p l e s m args below meth c D g A hX H locs ls hP hD hS hL)
theorem x_ldcw {idx : Nat} {v : Int32} (hd : xr_o cc pc (.ldc_w idx) 3 pc') (hc : Cond.constant own idx v ∈ xt_tbl) (kk : xt_T own cc nL ret d Q pc' lv (.int v :: st) w) : xt_T own cc nL ret d Q pc lv st w := by
  intro p l e s m args below meth c D g A hX H locs ls hP hD hS hL
  obtain ⟨hd, rfl⟩ := hd
  exact lv_ldcw hX.1 hX.2.1 hX.2.2.2.2.2.1 (hX.2.2.2.2.2.2.1 _ hc) hd (kk p l e s m args below meth c D g A hX H locs ls hP hD hS hL)
theorem x_ldc2 {idx : Nat} {v : Int64} (hd : xr_o cc pc (.ldc2_w idx) 3 pc') (hc : Cond.constantLong own idx v ∈ xt_tbl) (kk : xt_T own cc nL ret d Q pc' lv (.long v :: st) w) : xt_T own cc nL ret d Q pc lv st w := by
  intro p l e s m args below meth c D g A hX H locs ls hP hD hS hL
  obtain ⟨hd, rfl⟩ := hd
  exact lv_ldc2 hX.1 hX.2.1 hX.2.2.2.2.2.1 (hX.2.2.2.2.2.2.1 _ hc) hd (kk p l e s m args below meth c D g A hX H locs ls hP hD hS hL)
-- ends
theorem xt_end {D : va_G} {g : xt_G} {A : Nat → Prop} {s : State} {H : Heap} {locs : List Loc} {args : Array Value} {v : Option Value} (hq : Q v w) (hP : va_P D vwCl (xt_c g w) H) (hD : va_D A (xt_c g w)) (hS : va_S A s.heap H locs) (t : State) (ht : t.heap = H) : xt_Q D g Q A args s (.returned v) t :=
  ⟨⟨v, w, rfl, hq, by rw [ht]; exact hP, hD⟩, hS.F ht⟩
theorem x_iret {v : Int32} (hd : xr_o cc pc .ireturn 1 pc') (hq : Q (some (.int v)) w) : xt_T own cc nL (some .int) d Q pc lv [.int v] w := by
  intro p l e s m args below meth c D g A hX H locs ls hP hD hS hL
  obtain ⟨hd, rfl⟩ := hd
  exact W.iret (v := v) hX.1 hX.2.1 hX.2.2.2.1 (fun t ht hW => xt_end hq hP hD hS t ht) hS.2.2 hd (hlocks := hX.2.2.2.2.1)
theorem x_zret {v : Int32} (hd : xr_o cc pc .ireturn 1 pc') (hx : v = 0 ∨ v = 1) (hq : Q (some (.int v)) w) : xt_T own cc nL (some .boolean) d Q pc lv [.int v] w := by
  intro p l e s m args below meth c D g A hX H locs ls hP hD hS hL
  obtain ⟨hd, rfl⟩ := hd
  exact W.zret (v := v) hX.1 hX.2.1 hX.2.2.2.1 (xt_nz hx) (fun t ht hW => xt_end hq hP hD hS t ht) hS.2.2 hd (hlocks := hX.2.2.2.2.1)
theorem x_nret {v : Int32} {ty : FieldType} (hd : xr_o cc pc .ireturn 1 pc') (hx : narrow ty (.int v) = .int v) (hq : Q (some (.int v)) w) : xt_T own cc nL (some ty) d Q pc lv [.int v] w := by
  intro p l e s m args below meth c D g A hX H locs ls hP hD hS hL
  obtain ⟨hd, rfl⟩ := hd
  exact W.zret (v := v) hX.1 hX.2.1 hX.2.2.2.1 hx (fun t ht hW => xt_end hq hP hD hS t ht) hS.2.2 hd (hlocks := hX.2.2.2.2.1)
theorem x_lret {v : Int64} (hd : xr_o cc pc .lreturn 1 pc') (hq : Q (some (.long v)) w) : xt_T own cc nL (some .long) d Q pc lv [.long v] w := by
  intro p l e s m args below meth c D g A hX H locs ls hP hD hS hL
  obtain ⟨hd, rfl⟩ := hd
  exact W.lret (v := v) hX.1 hX.2.1 hX.2.2.2.1 (fun t ht hW => xt_end hq hP hD hS t ht) hS.2.2 hd (hlocks := hX.2.2.2.2.1)
theorem x_vret (hd : xr_o cc pc .return_ 1 pc') (hq : Q none w) : xt_T own cc nL none d Q pc lv [] w := by
  intro p l e s m args below meth c D g A hX H locs ls hP hD hS hL
  obtain ⟨hd, rfl⟩ := hd
  exact W.vret hX.1 hX.2.1 hX.2.2.2.1 (fun t ht hW => xt_end hq hP hD hS t ht) hS.2.2 hd (hlocks := hX.2.2.2.2.1)
end XH
-- calls
def xt_mk (y : MethodName) (bytes : ByteArray) (maxL : Nat) (ret : Option FieldType) (n : Nat) : Prop := Cond.code y bytes maxL ret ∈ xt_tbl ∧ Cond.initialized y.cls ∈ xt_tbl ∧ (y.cls ≠ "java/lang/invoke/MethodHandle" ∧ y.cls ≠ "java/lang/invoke/VarHandle" ∧ (parseMethodDescriptor y.desc).map (fun d => d.parameters.length) = some n) ∧ maxL ≤ 40
def xt_mV (own : String) (idx ci : Nat) (y : MethodName) : Prop := Cond.methodLink own idx y ∈ xt_tbl ∧ Cond.instanceMethod y ∈ xt_tbl ∧ Cond.selects y.cls y y ∈ xt_tbl ∧ ∃ q : vw_C, vwCl[ci]? = some q ∧ q.1 = y.cls
def xt_mS (own : String) (idx : Nat) (y : MethodName) : Prop := Cond.methodLink own idx y ∈ xt_tbl ∧ Cond.static y ∈ xt_tbl
def xt_mN (own : String) (idx : Nat) (y : MethodName) : Prop := (∃ host : String, (own, idx, y, host) ∈ xt_nest) ∧ Cond.static y ∈ xt_tbl
theorem xt_good {y : MethodName} {bytes : ByteArray} {maxL n : Nat} {ret : Option FieldType} (h : xt_mk y bytes maxL ret n) : GoodIn xt_tbl (Cond.code y bytes maxL ret :: xt_tbl) := by
  intro w hw
  rcases List.mem_cons.mp hw with rfl | hw
  · exact ⟨h.1, xt_tbl_good h.1⟩
  · exact ⟨hw, xt_tbl_good hw⟩
/-- the callee's start, and that it doesn't see frames -/
theorem xt_pre {D : va_G} {g : xt_G} {w : List xt_E} {A : Nat → Prop} {s : State} {H : Heap} {locs : List Loc} (as : List Value) (hK : va_K D vwCl (xt_tys g) s) (hZ : xt_Z g A s) (hA : ∀ q, s.heap.size ≤ q → A q) (hP : va_P D vwCl (xt_c g w) H) (hD : va_D A (xt_c g w)) (hS : va_S A s.heap H locs) :
    PreS s H (va_Pc as (fun U => U.heap.size = H.size ∧ va_P D vwCl (xt_c g w) U.heap ∧ va_K D vwCl (xt_tys g) U ∧ va_D (fun _ => True) (xt_c g w) ∧ xt_Z g (va_A (xt_c g w) H.size) U)) as := by
  refine ⟨?_, ?_⟩
  · rintro a U f mk ⟨h0, h1, h2, h3, h4, h5⟩
    exact ⟨h0, h1, h2, va_K.moved (u := U) (U := U.calling f mk a) (Vm.Alike.refl U.vm) h3, h4, h5.calling f mk a⟩
  · intro U hU hW
    refine ⟨rfl, by rw [hU], by rw [hU]; exact hP, va_K.moved hW.alike hK, hD.weaken (fun _ _ _ _ => trivial), ?_⟩
    refine hZ.go (locs := locs) hW (by rw [hU]; exact hS) ?_
    rintro q (⟨k, e, h⟩ | h)
    · exact hD.2 k _ h
    · exact hA q (Nat.le_trans hS.1 h)
theorem xt_call {p : Program} {l : Launch} {e : Env} {R : Room} {s : State} {m : MethodId} {args : Array Value} {below : List Frame} {meth : Method} {c : Code} {H : Heap} {locs : List Loc} {Q : State → Prop} {pc : Nat} {ls : Array Slot} {st0 rest : List Value} {D : va_G} {g : xt_G} {w : List xt_E} {K : Option Value → List xt_E → Prop} {A : Nat → Prop} {a : Array Value}
    (hr : va_Run p l e R s m args below meth c H locs 0 0 0 0 (F0 m pc ls st0) rest (xt_Q D g K (va_A (xt_c g w) H.size) a) (va_A (xt_c g w) H.size)) (hA : ∀ q, s.heap.size ≤ q → A q) (hD : va_D A (xt_c g w)) (hS : va_S A s.heap H locs)
    (kk : ∀ (v : Option Value) (w' : List xt_E) (H1 : Heap) (locs1 : List Loc), K v w' → va_P D vwCl (xt_c g w') H1 → va_D A (xt_c g w') → va_S A s.heap H1 locs1 → W p l e R s m args below meth c H1 locs1 0 0 Q (F0 m (pc + 3) ls (v.toList ++ rest))) : W p l e R s m args below meth c H locs 0 0 Q (F0 m pc ls st0) := by
  have hf : ∀ q, va_A (xt_c g w) H.size q → A q := by
    rintro q (⟨k, e, h⟩ | h)
    · exact hD.2 k _ h
    · exact hA q (Nat.le_trans hS.1 h)
  intro T hT X
  obtain ⟨v, st₀, t, T', L, h0, X', hL, e1, e2, ⟨⟨v2, w', hv, hk, hp, hd⟩, hz, hkk⟩, st⟩ := hr T hT X
  cases hv
  rw [h0] at hz hkk
  obtain ⟨t2, a1, b1⟩ := kk v w' T'.heap (locs ++ L) hk (by rw [e1]; exact hp) (hd.weaken (fun _ q _ h => hf _ h)) ⟨Nat.le_trans hS.1 (by rw [e1]; exact hz), fun q h1 h2 => by rw [e1, hkk q (Nat.lt_of_lt_of_le h1 hS.1) (fun z => h2 (hf q z))]; exact hS.2.1 q h1 h2, fun q hq => by
    rcases List.mem_append.mp hq with h | h
    · exact hS.2.2 q h
    · exact hf _ (hL q h)⟩ T' rfl X'
  exact ⟨t2, st t2 a1, b1⟩
theorem xt_sum {g : xt_G} (hg : g.2.2.category = 1) (st : List Value) : ((st.map (xt_v g)).map fun v => v.category) = st.map fun v => v.category := by
  rw [List.map_map]
  apply List.map_congr_left
  intro v _
  exact xt_cat hg v
theorem xt_room {d maxL : Nat} (h : maxL ≤ 40) : (xt_R d).frames + 1 ≤ (xt_R (d + 1)).frames ∧ 8 + (maxL + 11) + (xt_R d).locals ≤ (xt_R (d + 1)).locals := by
  refine ⟨Nat.le_refl _, ?_⟩
  show 8 + (maxL + 11) + 64 * d ≤ 64 * (d + 1)
  omega
section XC
variable {own : String} {cc bytes : ByteArray} {nL maxL : Nat} {ret ret' : Option FieldType} {d : Nat} {Q : Option Value → List xt_E → Prop} {pc pc' : Nat} {lv : List (Option Value)} {st stk : List Value} {w : List xt_E} {y : MethodName} {n idx : Nat} {As : List Value} {K : Option Value → List xt_E → Prop}
theorem x_callV {ci q : Nat} {fs : List Value} (hd : xr_o cc pc (.invokevirtual idx) 3 pc') (hm : xt_mk y bytes maxL ret' n) (hl : xt_mV own idx ci y) (hM : xt_M y bytes maxL ret' d (.ref q :: As) w K) (hn : As.length = n) (hq : w[q]? = some (.inr (ci, fs))) (hst : stk = As.reverse ++ .ref q :: st) (hsum : (st.map fun v => v.category).sum ≤ 8)
    (hK : ∀ v w', K v w' → ∀ g : xt_G, v.toList.map (xt_v g) = v.toList) (kk : ∀ v w', K v w' → xt_T own cc nL ret (d + 1) Q pc' lv (v.toList ++ st) w') : xt_T own cc nL ret (d + 1) Q pc lv stk w := by
  intro p l e s m args below meth c D g A hX H locs ls hP hD hS hL
  obtain ⟨hd, rfl⟩ := hd
  have hts := hX.2.2.2.2.2.2.1
  have hg : g.2.2.category = 1 := hX.2.2.2.2.2.2.2.2.1.2.2.2.2.2
  obtain ⟨k1, k2, k3, r, k4, k5⟩ := hl
  have hp := xt_pre ((.ref q :: As).map (xt_v g)) hX.2.2.2.2.2.2.2.1 hX.2.2.2.2.2.2.2.2.1 hX.2.2.2.2.2.2.2.2.2 hP hD hS
  refine xt_call (A := A) (va_runV (C := y.cls) (b := g.1 q) (As := As.map (xt_v g)) (rest := st.map (xt_v g)) (bytes := bytes) (maxL := maxL) (ret := ret') (n := n) ⟨hX.1, hX.2.1, hX.2.2.1, hX.2.2.2.2.2.1, hts⟩ (hM l D g H.size) ⟨callB_of n hts (xt_good hm) rfl rfl rfl (hts _ hm.2.1) (hts _ k1) hm.2.2.1 (xt_room hm.2.2.2), hts _ k2, hts _ k3⟩ ⟨hp.1, by rw [← k5]; exact va_recv hX.2.2.2.2.2.2.2.1 hP k4 (xt_c_get hq), hp.2⟩ rfl (by simpa using hn) hL.2.1 ?_ ?_ hd ⟨Nat.le_refl _, Nat.le_refl _⟩) hX.2.2.2.2.2.2.2.2.2 hD hS (fun v w' H1 locs1 hk hP1 hD1 hS1 => ?_)
  · rw [hst]; simp [xt_v]
  · exact lv_room (by rw [xt_sum hg]; exact hsum)
  · have := kk v w' hk p l e s m args below meth c D g A hX H1 locs1 ls hP1 hD1 hS1 hL
    rw [List.map_append, hK v w' hk g] at this
    exact this
theorem x_callS (hd : xr_o cc pc (.invokestatic idx) 3 pc') (hm : xt_mk y bytes maxL ret' n) (hl : xt_mS own idx y) (hM : xt_M y bytes maxL ret' d As w K) (hn : As.length = n) (hst : stk = As.reverse ++ st) (hsum : (st.map fun v => v.category).sum ≤ 8)
    (hK : ∀ v w', K v w' → ∀ g : xt_G, v.toList.map (xt_v g) = v.toList) (kk : ∀ v w', K v w' → xt_T own cc nL ret (d + 1) Q pc' lv (v.toList ++ st) w') : xt_T own cc nL ret (d + 1) Q pc lv stk w := by
  intro p l e s m args below meth c D g A hX H locs ls hP hD hS hL
  obtain ⟨hd, rfl⟩ := hd
  have hts := hX.2.2.2.2.2.2.1
  have hg : g.2.2.category = 1 := hX.2.2.2.2.2.2.2.2.1.2.2.2.2.2
  obtain ⟨k1, k2⟩ := hl
  have hp := xt_pre (As.map (xt_v g)) hX.2.2.2.2.2.2.2.1 hX.2.2.2.2.2.2.2.2.1 hX.2.2.2.2.2.2.2.2.2 hP hD hS
  refine xt_call (A := A) (va_runS (As := As.map (xt_v g)) (rest := st.map (xt_v g)) (bytes := bytes) (maxL := maxL) (ret := ret') (n := n) ⟨hX.1, hX.2.1, hX.2.2.1, hX.2.2.2.2.2.1, hts⟩ (hM l D g H.size) ⟨callB_of n hts (xt_good hm) rfl rfl rfl (hts _ hm.2.1) (hts _ k1) hm.2.2.1 (xt_room hm.2.2.2), hts _ k2⟩ hp rfl (by simpa using hn) hL.2.1 ?_ ?_ hd ⟨Nat.le_refl _, Nat.le_refl _⟩) hX.2.2.2.2.2.2.2.2.2 hD hS (fun v w' H1 locs1 hk hP1 hD1 hS1 => ?_)
  · rw [hst]; simp
  · exact lv_room (by rw [xt_sum hg]; exact hsum)
  · have := kk v w' hk p l e s m args below meth c D g A hX H1 locs1 ls hP1 hD1 hS1 hL
    rw [List.map_append, hK v w' hk g] at this
    exact this
theorem x_callN (hd : xr_o cc pc (.invokestatic idx) 3 pc') (hm : xt_mk y bytes maxL ret' n) (hl : xt_mN own idx y) (hM : xt_M y bytes maxL ret' d As w K) (hn : As.length = n) (hst : stk = As.reverse ++ st) (hsum : (st.map fun v => v.category).sum ≤ 8)
    (hK : ∀ v w', K v w' → ∀ g : xt_G, v.toList.map (xt_v g) = v.toList) (kk : ∀ v w', K v w' → xt_T own cc nL ret (d + 1) Q pc' lv (v.toList ++ st) w') : xt_T own cc nL ret (d + 1) Q pc lv stk w := by
  intro p l e s m args below meth c D g A hX H locs ls hP hD hS hL
  obtain ⟨hd, rfl⟩ := hd
  have hts := hX.2.2.2.2.2.2.1
  have hg : g.2.2.category = 1 := hX.2.2.2.2.2.2.2.2.1.2.2.2.2.2
  obtain ⟨⟨host, k1⟩, k2⟩ := hl
  have hnw := hX.2.2.2.2.2.2.2.2.1.2.2.1 _ k1
  have hp := xt_pre (As.map (xt_v g)) hX.2.2.2.2.2.2.2.1 hX.2.2.2.2.2.2.2.2.1 hX.2.2.2.2.2.2.2.2.2 hP hD hS
  refine xt_call (A := A) (va_runSN (host := host) (As := As.map (xt_v g)) (rest := st.map (xt_v g)) (bytes := bytes) (maxL := maxL) (ret := ret') (n := n) ⟨hX.1, hX.2.1, hX.2.2.1, hX.2.2.2.2.2.1, hts⟩ (hM l D g H.size) ⟨va_cnB n hts (xt_good hm) rfl rfl rfl hnw (hts _ hm.2.1) hm.2.2.1 (xt_room hm.2.2.2), hts _ k2, trivial⟩ hp rfl (by simpa using hn) hL.2.1 ?_ ?_ hd ⟨Nat.le_refl _, Nat.le_refl _⟩) hX.2.2.2.2.2.2.2.2.2 hD hS (fun v w' H1 locs1 hk hP1 hD1 hS1 => ?_)
  · rw [hst]; simp
  · exact lv_room (by rw [xt_sum hg]; exact hsum)
  · have := kk v w' hk p l e s m args below meth c D g A hX H1 locs1 ls hP1 hD1 hS1 hL
    rw [List.map_append, hK v w' hk g] at this
    exact this
end XC
