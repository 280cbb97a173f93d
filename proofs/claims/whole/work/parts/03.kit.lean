/-! a light logic over the kit's W: worlds are lists of cells by their places; a reference is a place -/
abbrev xt_E : Type := (Nat × Nat × (Nat → Int32)) ⊕ (Nat × List Value)
abbrev xt_G : Type := (Nat → Nat) × (Nat → ClassId) × Value
def xt_v (g : xt_G) : Value → Value
  | .ref k => .ref (g.1 k)
  | .retAddr _ => g.2.2
  | v => v
def xt_e (g : xt_G) : xt_E → va_E
  | .inl (t, n, f) => .inl (g.2.1 t, n, .inl f)
  | .inr (ci, fs) => .inr (ci, fs.map (xt_v g))
def xt_c (g : xt_G) (w : List xt_E) : va_W := w.mapIdx (fun k e => (g.1 k, xt_e g e))
theorem xt_c_get {g : xt_G} {w : List xt_E} {q : Nat} {e : xt_E} (h : w[q]? = some e) : (xt_c g w)[q]? = some (g.1 q, xt_e g e) := by
  simp [xt_c, h]
theorem xt_c_set {g : xt_G} {w : List xt_E} {q : Nat} {e : xt_E} : (xt_c g w).set q (g.1 q, xt_e g e) = xt_c g (w.set q e) := by
  apply List.ext_getElem?
  intro i
  simp only [xt_c, List.getElem?_set, List.getElem?_mapIdx, List.length_mapIdx]
  by_cases h : q = i
  · subst h
    by_cases h2 : q < w.length
    · simp [h2]
    · simp [h2]
  · simp [h]
def xt_tys (g : xt_G) : List (ClassId × FieldType) := [(g.2.1 0, .int), (g.2.1 1, .boolean)]
def xt_strs : List (String × Nat × String) := [("VotesOnTree$Reader", 100, "node"), ("VotesOnTree$Reader", 106, "depth"), ("VotesOnTree$Reader", 108, "kids"), ("VotesOnTree$Reader", 110, "twigs"), ("VotesOnTree$Reader", 112, "last"), ("VotesOnTree$Reader", 114, "year"), ("VotesOnTree$Reader", 116, "costs"), ("VotesOnTree$Reader", 118, "falls"), ("VotesOnTree$Reader", 120, "worth"), ("VotesOnTree$Reader", 122, "or"), ("VotesOnTree$Reader", 124, "and"), ("VotesOnTree$Reader", 126, "not"), ("VotesOnTree", 57, "costs twigs * 3 + 1 ; falls depth * 5 ; worth 1 ;")]
def xt_len : List Nat := [4, 5, 4, 5, 4, 4, 5, 5, 5, 2, 3, 3, 49]
def xt_byt : List (List Int32) := [[110, 111, 100, 101], [100, 101, 112, 116, 104], [107, 105, 100, 115], [116, 119, 105, 103, 115], [108, 97, 115, 116], [121, 101, 97, 114], [99, 111, 115, 116, 115], [102, 97, 108, 108, 115], [119, 111, 114, 116, 104], [111, 114], [97, 110, 100], [110, 111, 116], [99, 111, 115, 116, 115, 32, 116, 119, 105, 103, 115, 32, 42, 32, 51, 32, 43, 32, 49, 32, 59, 32, 102, 97, 108, 108, 115, 32, 100, 101, 112, 116, 104, 32, 42, 32, 53, 32, 59, 32, 119, 111, 114, 116, 104, 32, 49, 32, 59]]
def xt_nest : List (String × Nat × MethodName × String) := [(RX1, 53, yX5_isIn, RX5), (RX1, 61, yX5_bit, RX5), (RX1, 65, yX5_withBit, RX5), (RX5, 18, yX2_init, RX5), (RX5, 25, yX4_init, RX5), (RX5, 39, yX0_init, RX5)]
/-- what lies outside the worlds: String constants, links of nest mates, two statics -/
def xt_Z (g : xt_G) (A : Nat → Prop) (U : State) : Prop :=
  vk_S 13 xt_len xt_byt (fun i => g.1 (1000 + i)) (fun i => g.1 (2000 + i)) A U U.heap ∧ (∀ (i : Nat) (t : String × Nat × String), xt_strs[i]? = some t → vk_R t.1 t.2.1 t.2.2 (g.1 (1000 + i)) U) ∧
  (∀ t ∈ xt_nest, va_Nw (.methodLinkNest t.1 t.2.1 t.2.2.1 t.2.2.2) U) ∧ va_Z "java/lang/String" "COMPACT_STRINGS" "Z" (.int 1) A U U.heap ∧ va_Z "jdk/internal/util/Preconditions" "SIOOBE_FORMATTER" "Ljava/util/function/BiFunction;" g.2.2 A U U.heap ∧ g.2.2.category = 1
theorem xt_Z.go {g : xt_G} {A B : Nat → Prop} {s U : State} {locs : List Loc} (h : xt_Z g A s) (hW : s.WarmedH U.vm) (hS : va_S A s.heap U.heap locs) (hAB : ∀ q, B q → A q) : xt_Z g B U := by
  obtain ⟨h1, h2, h3, h4, h5, h6⟩ := h
  have hk : ∀ a : Nat, a < s.heap.size → ¬ A a → U.heap[a]? = s.heap[a]? := hS.2.1
  exact ⟨((h1.kept hk).narrow hAB).moved hW.alike, fun i t ht => (h2 i t ht).warm hW, fun t ht => (h3 t ht).warmM hW, ((h4.kept hk).narrow hAB).moved hW.alike, ((h5.kept hk).narrow hAB).moved hW.alike, h6⟩
theorem xt_Z.calling {g : xt_G} {A : Nat → Prop} {U : State} (h : xt_Z g A U) (f : JFrame) (mk : MethodId) (a : Array Value) : xt_Z g A (U.calling f mk a) := by
  obtain ⟨h1, h2, h3, h4, h5, h6⟩ := h
  exact ⟨h1.moved (Vm.Alike.refl U.vm), fun i t ht => (h2 i t ht).same rfl, fun t ht => (h3 t ht).same rfl rfl, h4.moved (Vm.Alike.refl U.vm), h5.moved (Vm.Alike.refl U.vm), h6⟩
/-- locals, by their places -/
def xt_as (g : xt_G) : Nat → List (Option Value) → List (Nat × Value)
  | _, [] => []
  | i, none :: r => xt_as g (i + 1) r
  | i, some v :: r => (i, xt_v g v) :: xt_as g (i + 1) r
theorem xt_as_mem {g : xt_G} {lv : List (Option Value)} : ∀ {i j : Nat} {u : Value}, (j, u) ∈ xt_as g i lv ↔ ∃ (k : Nat) (v : Value), lv[k]? = some (some v) ∧ j = i + k ∧ u = xt_v g v := by
  induction lv with
  | nil => intro i j u; simp [xt_as]
  | cons a r ih =>
    intro i j u
    cases a with
    | none =>
      simp only [xt_as]
      rw [ih]
      constructor
      · rintro ⟨k, v, h1, h2, h3⟩
        exact ⟨k + 1, v, by simpa using h1, by omega, h3⟩
      · rintro ⟨k, v, h1, h2, h3⟩
        cases k with
        | zero => simp at h1
        | succ k => exact ⟨k, v, by simpa using h1, by omega, h3⟩
    | some x =>
      simp only [xt_as, List.mem_cons]
      rw [ih]
      constructor
      · rintro (h | ⟨k, v, h1, h2, h3⟩)
        · obtain ⟨rfl, rfl⟩ := Prod.mk.inj h
          exact ⟨0, x, by simp, by omega, rfl⟩
        · exact ⟨k + 1, v, by simpa using h1, by omega, h3⟩
      · rintro ⟨k, v, h1, h2, h3⟩
        cases k with
        | zero =>
          left
          simp at h1
          subst h1
          rw [h2, h3]
          rfl
        | succ k => exact Or.inr ⟨k, v, by simpa using h1, by omega, h3⟩
def xt_L (g : xt_G) (ls : Array Slot) (nL : Nat) (lv : List (Option Value)) : Prop := lv.length ≤ nL ∧ lv_has ls nL (xt_as g 0 lv)
theorem xt_L.at {g : xt_G} {ls : Array Slot} {nL : Nat} {lv : List (Option Value)} (h : xt_L g ls nL lv) {i : Nat} {v : Value} (hi : lv[i]? = some (some v)) : ls[i]? = some (.val (xt_v g v)) := h.2.2.2 (i, xt_v g v) (xt_as_mem.mpr ⟨i, v, hi, by omega, rfl⟩)
def xt_nl (lv : List (Option Value)) (i : Nat) : Bool := match i with
  | 0 => true
  | j + 1 => match lv[j]? with
    | some (some (.long _)) => false
    | some (some (.double _)) => false
    | _ => true
theorem xt_cat {g : xt_G} (hg : g.2.2.category = 1) (v : Value) : (xt_v g v).category = v.category := by
  cases v <;> first | rfl | exact hg
theorem xt_nl_ok {g : xt_G} (hg : g.2.2.category = 1) {lv : List (Option Value)} {i k : Nat} (h : xt_nl lv i = true) (hk : k + 1 = i) {v : Value} (hv : lv[k]? = some (some v)) : ¬ (xt_v g v).category = 2 := by
  subst hk
  rw [xt_cat hg]
  simp only [xt_nl, hv] at h
  cases v <;> simp_all [Value.category]
theorem xt_L.st1 {g : xt_G} (hg : g.2.2.category = 1) {ls ls' : Array Slot} {nL : Nat} {lv : List (Option Value)} {i : Nat} {x : Value} (h : xt_L g ls nL lv) (hn : xt_nl lv i = true)
    (h' : lv_has ls' nL ((i, xt_v g x) :: (xt_as g 0 lv).filter (fun q => !(q.1 == i) && !(q.1 + 1 == i && q.2.category == 2)))) : xt_L g ls' nL (lv.set i (some x)) := by
  refine ⟨by simpa using h.1, h'.1, h'.2.1, ?_⟩
  rintro ⟨j, u⟩ hm
  obtain ⟨k, v, h1, h2, h3⟩ := xt_as_mem.mp hm
  have hj : j = k := by omega
  subst hj
  rw [List.getElem?_set] at h1
  by_cases hik : i = j
  · subst hik
    simp only [if_true] at h1
    split at h1
    · simp at h1
      subst h1
      exact h'.2.2 (i, u) (by rw [h3]; exact List.mem_cons_self)
    · simp at h1
  · simp only [hik, if_false] at h1
    refine h'.2.2 (j, u) (List.mem_cons_of_mem _ (List.mem_filter.mpr ⟨xt_as_mem.mpr ⟨j, v, h1, by omega, h3⟩, ?_⟩))
    have e1 : ¬ j = i := fun h => hik h.symm
    by_cases e2 : j + 1 = i
    · have e3 : ¬ u.category = 2 := by rw [h3]; exact xt_nl_ok hg hn e2 h1
      simp [e1, e3]
    · simp [e1, e2]
theorem xt_L.st2 {g : xt_G} (hg : g.2.2.category = 1) {ls ls' : Array Slot} {nL : Nat} {lv : List (Option Value)} {i : Nat} {x : Value} (h : xt_L g ls nL lv) (hn : xt_nl lv i = true)
    (h' : lv_has ls' nL ((i, xt_v g x) :: (xt_as g 0 lv).filter (fun q => !(q.1 == i) && (!(q.1 == i + 1) && !(q.1 + 1 == i && q.2.category == 2))))) : xt_L g ls' nL ((lv.set i (some x)).set (i + 1) none) := by
  refine ⟨by simpa using h.1, h'.1, h'.2.1, ?_⟩
  rintro ⟨j, u⟩ hm
  obtain ⟨k, v, h1, h2, h3⟩ := xt_as_mem.mp hm
  have hj : j = k := by omega
  subst hj
  rw [List.getElem?_set] at h1
  by_cases hik1 : i + 1 = j
  · subst hik1
    simp only [if_true] at h1
    split at h1 <;> simp at h1
  · simp only [hik1, if_false] at h1
    rw [List.getElem?_set] at h1
    by_cases hik : i = j
    · subst hik
      simp only [if_true] at h1
      split at h1
      · simp at h1
        subst h1
        exact h'.2.2 (i, u) (by rw [h3]; exact List.mem_cons_self)
      · simp at h1
    · simp only [hik, if_false] at h1
      refine h'.2.2 (j, u) (List.mem_cons_of_mem _ (List.mem_filter.mpr ⟨xt_as_mem.mpr ⟨j, v, h1, by omega, h3⟩, ?_⟩))
      have e1 : ¬ j = i := fun h => hik h.symm
      have e4 : ¬ j = i + 1 := fun h => hik1 h.symm
      by_cases e2 : j + 1 = i
      · have e3 : ¬ u.category = 2 := by rw [h3]; exact xt_nl_ok hg hn e2 h1
        simp [e1, e3, e4]
      · simp [e1, e2, e4]
/-- the room of a method that calls d deep -/
def xt_R (d : Nat) : Room := { frames := d, cells := 0, slots := 0, locals := 64 * d }
/-- a method's end: what is answered and the world that is left -/
def xt_Q (D : va_G) (g : xt_G) (Q : Option Value → List xt_E → Prop) (A : Nat → Prop) : Array Value → State → Outcome → State → Prop :=
  fun _ st oc t => (∃ (v : Option Value) (w' : List xt_E), oc = .returned v ∧ Q v w' ∧ va_P D vwCl (xt_c g w') t.heap ∧ va_D A (xt_c g w')) ∧ va_F A st t
/-- what holds all along a method -/
def xt_X (own : String) (cc : ByteArray) (nL : Nat) (ret : Option FieldType) (p : Program) (s : State) (m : MethodId) (args : Array Value) (meth : Method) (c : Code) (D : va_G) (g : xt_G) (A : Nat → Prop) : Prop :=
  p.tables.exec = Jvm.exec ∧ c.code = cc ∧ c.maxLocals = nL ∧ meth.sig.returnType = ret ∧ meth.locks = false ∧ s.vm.findClass own = some m.cls ∧ (∀ w ∈ xt_tbl, w.before args s = true) ∧ va_K D vwCl (xt_tys g) s ∧ xt_Z g A s ∧ ∀ q, s.heap.size ≤ q → A q
def xt_T (own : String) (cc : ByteArray) (nL : Nat) (ret : Option FieldType) (d : Nat) (Q : Option Value → List xt_E → Prop) (pc : Nat) (lv : List (Option Value)) (st : List Value) (w : List xt_E) : Prop :=
  ∀ (p : Program) (l : Launch) (e : Env) (s : State) (m : MethodId) (args : Array Value) (below : List Frame) (meth : Method) (c : Code) (D : va_G) (g : xt_G) (A : Nat → Prop), xt_X own cc nL ret p s m args meth c D g A →
  ∀ (H : Heap) (locs : List Loc) (ls : Array Slot), va_P D vwCl (xt_c g w) H → va_D A (xt_c g w) → va_S A s.heap H locs → xt_L g ls nL lv →
  W p l e (xt_R d) s m args below meth c H locs 0 0 (MQ below (xt_Q D g Q A) args s 0 0 A) (F0 m pc ls (st.map (xt_v g)))
/-- a method's contract -/
def xt_M (y : MethodName) (cc : ByteArray) (nL : Nat) (ret : Option FieldType) (d : Nat) (as : List Value) (w : List xt_E) (K : Option Value → List xt_E → Prop) : Prop :=
  ∀ (l : Launch) (D : va_G) (g : xt_G) (sz : Nat), Met l y (Cond.code y cc nL ret :: xt_tbl) (xt_R d)
    (va_Pc (as.map (xt_v g)) (fun U => U.heap.size = sz ∧ va_P D vwCl (xt_c g w) U.heap ∧ va_K D vwCl (xt_tys g) U ∧ va_D (fun _ => True) (xt_c g w) ∧ xt_Z g (va_A (xt_c g w) sz) U))
    (xt_Q D g K (va_A (xt_c g w) sz)) 0 0 (va_A (xt_c g w) sz)
def xt_lv : List Value → List (Option Value)
  | [] => []
  | v :: r => if v.category = 2 then some v :: none :: xt_lv r else some v :: xt_lv r
theorem xt_lv_as {g : xt_G} (hg : g.2.2.category = 1) (as : List Value) (n : Nat) : ∀ i : Nat, xt_as g i (xt_lv as ++ List.replicate n none) = lv_args i (as.map (xt_v g)) := by
  have hn : ∀ (n i : Nat), xt_as g i (List.replicate n none) = [] := by
    intro n
    induction n with
    | zero => intro i; rfl
    | succ n ih => intro i; simp only [List.replicate_succ, xt_as]; exact ih _
  induction as with
  | nil => intro i; simp only [xt_lv, List.nil_append, List.map_nil, lv_args]; exact hn n i
  | cons v r ih =>
    intro i
    simp only [xt_lv, List.map_cons, lv_args]
    by_cases hc : v.category = 2
    · have hc' : (xt_v g v).category = 2 := by rw [xt_cat hg]; exact hc
      rw [if_pos hc, if_pos hc']
      simp only [List.cons_append, xt_as]
      rw [ih]
    · have hc' : ¬ (xt_v g v).category = 2 := by rw [xt_cat hg]; exact hc
      rw [if_neg hc, if_neg hc']
      simp only [List.cons_append, xt_as]
      rw [ih]
theorem xt_lv_len {g : xt_G} (hg : g.2.2.category = 1) (as : List Value) : (lg_sl (as.map (xt_v g))).length = (xt_lv as).length := by
  induction as with
  | nil => rfl
  | cons v r ih =>
    simp only [lg_sl, List.map_cons, List.flatMap_cons, List.length_append, xt_lv] at ih ⊢
    rw [ih]
    by_cases hc : v.category = 2
    · have hc' : (xt_v g v).category = 2 := by rw [xt_cat hg]; exact hc
      simp [hc, hc']; omega
    · have hc' : ¬ (xt_v g v).category = 2 := by rw [xt_cat hg]; exact hc
      simp [hc, hc']; omega
/-- a contract out of a walk -/
theorem xt_M.of {y : MethodName} {cc : ByteArray} {nL : Nat} {ret : Option FieldType} {d : Nat} {as : List Value} {w : List xt_E} {K : Option Value → List xt_E → Prop} {lv : List (Option Value)} (hy : plainName y.cls = true) (hn : (xt_lv as).length ≤ nL) (hlv : xt_lv as ++ List.replicate (nL - (xt_lv as).length) none = lv)
    (h : xt_T y.cls cc nL ret d K 0 lv [] w) : xt_M y cc nL ret d as w K := by
  intro l D g sz
  refine Met.ofW (cc := cc) (maxL := nL) (ret := ret) hy rfl ?_
  intro p e s m args below meth c s₁ B hml hv
  obtain ⟨rfl, hsz, hP, hK, hD0, hZ⟩ := hv
  have hts := atoms_spec (ws := Cond.code y cc nL ret :: xt_tbl) B.pre
  have hown : s.vm.findClass y.cls = some m.cls := findClass_of_methodNamed B.named
  subst hsz
  have hg : g.2.2.category = 1 := hZ.2.2.2.2.2
  have hl := lv_entry (as.map (xt_v g)) (n := nL) (by rw [xt_lv_len hg]; exact hn)
  rw [lg_entry_eq]
  refine h p l e s m _ below meth c D g (va_A (xt_c g w) s.heap.size) ⟨B.exec, B.bytes, hml, B.returns, B.notSynchronized, hown, fun w hw => hts w (List.mem_cons_of_mem _ hw), hK, hZ, fun q hq => Or.inr hq⟩ s.heap [] _ hP hD0.self va_S.rf ⟨?_, ?_⟩
  · rw [← hlv]; simp; omega
  · rw [← hlv, xt_lv_as hg]; exact hl
