theorem ncL_7 : xn_c RL 7 5 9 [.null, .null, .null, .null, .null, .null, .null, .null, .null] := ⟨_, rfl, rfl, tb1 16 rfl rfl, tb1 17 rfl rfl, tb1 1 rfl rfl, tyX5, tyX5_ok, by decide⟩
theorem ncL_10 : xn_c RL 10 6 46 [.int 0, .null, .null, .int 0, .int 0, .null, .int 0, .int 0, .null, .null, .null, .null, .int 0, .int 0, .int 0, .int 0, .null, .null, .int 0, .int 0, .int 0, .int 0, .int 0, .int 0, .int 0, .int 0, .int 0, .int 0, .int 0, .long 0, .int 0, .int 0, .int 0, .null, .null, .null, .int 0, .int 0, .int 0, .int 0, .int 0, .int 0, .null, .null, .null, .null] := ⟨_, rfl, rfl, tb3 233 rfl rfl, tb3 234 rfl rfl, tb1 13 rfl rfl, tyX6, tyX6_ok, by decide⟩
def op_init (RR : Int32 → Int32 → Int32 → Int32 → Int32 → Int32 → Int32 → Int32 → Int32 → Int32 → Int32 → Int32 → Int32 → Int32 → Int32 → (Nat → Int32) → (Nat → Int32) → (Nat → Int32) → (Nat → Int32) → (Nat → Int32) → (Nat → Int32) → (Nat → Int32) → (Nat → Int32) → (Nat → Int32) → (Nat → Int32) → (Nat → Int32) → (Nat → Int32) → (Nat → Int32) → Int32 → Int32 → Int32 → Int32 → Int32 → Int32 → Int32 → Int32 → Int32 → Int32 → Int32 → Int32 → Int32 → Int32 → (Nat → Int32) → (Nat → Int32) → (Nat → Int32) → (Nat → Int32) → (Nat → Int32) → (Nat → Int32) → (Nat → Int32) → (Nat → Int32) → (Nat → Int32) → (Nat → Int32) → (Nat → Int32) → (Nat → Int32) → (Nat → Int32) → Prop) : Prop := ∃ (o : Int32 × Int32 × Int32 × Int32 × Int32 × Int32 × Int32 × (Nat → Int32) × (Nat → Int32) × (Nat → Int32) × (Nat → Int32) × (Nat → Int32)) (o' : Int32 × (Nat → Int32) × (Nat → Int32) × (Nat → Int32) × (Nat → Int32)), sp_X5_init_tail 0 10031 0 0 0 0 0 (fun _ => 0) (fun _ => 0) (fun _ => 0) (fun _ => 0) (fun _ => 0) = some o ∧ sp_X6_init_tail 0 (fun _ => 0) (fun _ => 0) (fun _ => 0) (fun _ => 0) = some o' ∧ ∀ f18 : Nat → Int32, (∀ j, j < 4 → f18 j = (-1)) → RR 1 0 0 0 0 o.1 o.2.2.2.2.2.2.1 0 0 0 0 0 0 0 0 (fun _ => 0) (fun _ => 0) (fun _ => 0) (upd (fun _ => 0) (Int32.toNatClampNeg 0) 50) (fun _ => 0) o.2.2.2.2.2.2.2.1 o.2.2.2.2.2.2.2.2.2.2.1 o.2.2.2.2.2.2.2.2.2.2.2 (f18) (fun _ => 0) (fun _ => 0) (fun _ => 0) (fun _ => 0) o'.1 0 0 1 0 0 0 0 (-1) 0 0 0 0 0 o'.2.1 o'.2.2.1 (fun _ => 0) o'.2.2.2.1 (fun _ => 0) (fun _ => 0) o'.2.2.2.2 (fun _ => 0) (fun _ => 0) (fun _ => 0) (fun _ => 0) (fun _ => 0) (fun _ => 0)
def lw_tm (i : Nat) : Term := match xt_strs[i]? with
  | some t => .string t.1 t.2.1
  | none => .string "" 0
theorem lw_vkS {N : Nat} {len : List Nat} {byt : List (List Int32)} {adK adV adK' adV' : Nat → Nat} {A : Nat → Prop} {U : State} {H : Heap} (h1 : ∀ i, i < N → adK' i = adK i) (h2 : ∀ i, i < N → adV' i = adV i) (h : vk_S N len byt adK adV A U H) : vk_S N len byt adK' adV' A U H := by
  refine ⟨fun i hi => ?_, fun i j hi hj e => h.2 i j hi hj (by rw [← h1 i hi, ← h1 j hj]; exact e)⟩
  have := h.1 i hi
  rw [h1 i hi, h2 i hi]
  exact this
def lw_flat : List Cond := flatC (Jvm.Cond.and given_1 narrow_1)
theorem lw_f1 : ∀ i, i < 13 → Cond.exactly (lw_tm i) "java/lang/String" ∈ lw_flat := by decide +kernel
theorem lw_f2 : ∀ i, i < 13 → Cond.eq (.field (lw_tm i) "java/lang/String" "coder" "B") (.int 0) ∈ lw_flat := by decide +kernel
theorem lw_f3 : ∀ i, i < 13 → Cond.arrayOf (.field (lw_tm i) "java/lang/String" "value" "[B") .byte ∈ lw_flat := by decide +kernel
theorem lw_f4 : ∀ i, i < 13 → Cond.eq (.length (.field (lw_tm i) "java/lang/String" "value" "[B")) (.int (Int32.ofNat (xt_len.getD i 0))) ∈ lw_flat := by decide +kernel
theorem lw_f5 : ∀ i, i < 13 → ∀ j, j < xt_len.getD i 0 → Cond.eq (.elem (.field (lw_tm i) "java/lang/String" "value" "[B") (.int (Int32.ofNat j))) (.int ((xt_byt.getD i []).getD j 0)) ∈ lw_flat := by decide +kernel
theorem lw_f6 : ∀ i, i < 13 → ∀ j, j < 13 → i ≠ j → Cond.not (Cond.eq (lw_tm i) (lw_tm j)) ∈ lw_flat ∨ Cond.not (Cond.eq (lw_tm j) (lw_tm i)) ∈ lw_flat := by decide +kernel
theorem lw_f7 : Cond.eq (.static "java/lang/String" "COMPACT_STRINGS" "Z") (.int 1) ∈ lw_flat := by decide +kernel
theorem lw_f8 : Cond.isRef (.static "jdk/internal/util/Preconditions" "SIOOBE_FORMATTER" "Ljava/util/function/BiFunction;") ∈ lw_flat := by decide +kernel
theorem lw_g1 : ∀ (i : Nat) (t : String × Nat × String), xt_strs[i]? = some t → Cond.stringRef t.1 t.2.1 t.2.2 ∈ lw_tbl := by
  intro i t h
  have h2 : ∀ t ∈ xt_strs, Cond.stringRef t.1 t.2.1 t.2.2 ∈ lw_tbl := by decide +kernel
  exact h2 t (List.mem_of_getElem? h)
theorem lw_g2 : ∀ t ∈ xt_nest, Cond.methodLinkNest t.1 t.2.1 t.2.2.1 t.2.2.2 ∈ lw_tbl := by decide +kernel
theorem lw_g3 : Cond.laysStatic "java/lang/String" "COMPACT_STRINGS" "Z" ∈ lw_tbl ∧ Cond.initialized "java/lang/String" ∈ lw_tbl ∧ Cond.laysStatic "jdk/internal/util/Preconditions" "SIOOBE_FORMATTER" "Ljava/util/function/BiFunction;" ∈ lw_tbl ∧ Cond.initialized "jdk/internal/util/Preconditions" ∈ lw_tbl := by decide +kernel
