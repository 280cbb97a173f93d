set_option maxHeartbeats 400000 in
set_option maxRecDepth 100000 in
theorem start_of {RR : Int32 → Int32 → Int32 → Int32 → Int32 → Int32 → Int32 → Int32 → Int32 → Int32 → Int32 → Int32 → Int32 → Int32 → Int32 → (Nat → Int32) → (Nat → Int32) → (Nat → Int32) → (Nat → Int32) → (Nat → Int32) → (Nat → Int32) → (Nat → Int32) → (Nat → Int32) → (Nat → Int32) → (Nat → Int32) → (Nat → Int32) → (Nat → Int32) → (Nat → Int32) → Int32 → Int32 → Int32 → Int32 → Int32 → Int32 → Int32 → Int32 → Int32 → Int32 → Int32 → Int32 → Int32 → Int32 → (Nat → Int32) → (Nat → Int32) → (Nat → Int32) → (Nat → Int32) → (Nat → Int32) → (Nat → Int32) → (Nat → Int32) → (Nat → Int32) → (Nat → Int32) → (Nat → Int32) → (Nat → Int32) → (Nat → Int32) → (Nat → Int32) → Prop} (hop : op_all RR) (hini : op_init RR) {p : Program} {e : Env} {s : State} {m : MethodId} {below : List Frame} {meth : Method} {c : Code} (l : Launch) {b L : Nat} {xs : Nat → Int32} (hL : L ≤ 384) (C0 : lw_At p s m meth c b L xs) : W p l e room_1 s m #[Value.ref b] below meth c s.heap [] 0 0 (lw_Z below #[Value.ref b] s) (entryFrame m ([Value.ref b] : List Value).toArray 4) := by
  obtain ⟨hx, hb, hr, hml, hown, hts, hX, hbl, hlocks, hgv⟩ := id C0
  have hts' : ∀ w ∈ xt_tbl, w.before #[Value.ref b] s = true := fun w hw => hts w (xt_tbl_sub hw)
  have hS0 : CallFix p m c code 4 s #[Value.ref b] xt_tbl RL := ⟨hx, hb, hml, hown, hts'⟩
  have hA : ∀ q : Nat, s.heap.size ≤ q → (fun q : Nat => s.heap.size ≤ q) q := fun _ h => h
  obtain ⟨D, g, hK, hZ⟩ := lw_ctx C0
  obtain ⟨o, o', hm, hm', hR⟩ := hini
  have hP0 : va_P D vwCl [] s.heap := fun k q h => by simp at h
  have hD0 : va_D (fun q : Nat => s.heap.size ≤ q) [] := ⟨fun i j p q h => by simp at h, fun k q h => by simp at h⟩
  have hl := lv_entry ([.ref b]) (n := 4) (Nat.le_of_ble_eq_true rfl)
  rw [lg_entry_eq]
  generalize (lg_sl ([.ref b]) ++ List.replicate (4 - (lg_sl ([.ref b])).length) Slot.unset).toArray = ls at hl ⊢
  have hl : lv_has ls 4 [(0, .ref b)] := hl
  refine lw_make (c1 := []) (g := g) hS0 hK hZ hA hP0 hD0 va_S.rf dL_0 dL_3 dL_4 ncL_7 rfl kX5_init miL_9 (i_X5_new (d := 0) hm) (by decide) (Nat.le_of_ble_eq_true rfl) hl.1 ⟨by decide, by decide⟩ (fun gx w' H locs hx1 hQ hP hD hS => ?_)
  obtain ⟨f18, hf18, rfl⟩ := hQ
  refine lv_astore_n (lv' := [(1, .ref (gx.1 0)), (0, .ref b)]) hx hb dL_7 rfl hl (by decide) rfl (fun ls hl => ?_)
  rw [List.nil_append] at hP hD
  refine lw_make (g := g) hS0 hK hZ hA hP hD hS dL_8 dL_11 dL_12 ncL_10 rfl kX6_init miL_12 (i_X6_new (d := 0) hm') (by decide) (Nat.le_of_ble_eq_true rfl) hl.1 ⟨by decide, by decide⟩ (fun gm w' H locs hx2 hQ hP hD hS => ?_)
  obtain rfl := hQ
  refine lv_astore_n (lv' := [(2, .ref (gm.1 0)), (1, .ref (gx.1 0)), (0, .ref b)]) hx hb dL_15 rfl hl (by decide) rfl (fun ls hl => ?_)
  refine lv_iconst (v := nI 0) hx hb dL_16 (by decide) ?_
  refine lv_istore_n (lv' := [(3, .int (nI 0)), (2, .ref (gm.1 0)), (1, .ref (gx.1 0)), (0, .ref b)]) hx hb dL_17 rfl hl (by decide) rfl (fun ls hl => ?_)
  have ety : ∀ g' : xt_G, xn_ext 0 g g' → va_K D vwCl (xt_tys g') s := by
    intro g' hg'
    have : xt_tys g' = xt_tys g := by unfold xt_tys; rw [hg'.1]
    rw [this]
    exact hK
  exact law_loop hop hL C0 (ety gx hx1) (xn_Z_eq hx1 hZ) (ety gm hx2) (xn_Z_eq hx2 hZ) (L + 7) 0 (by omega) (Nat.zero_le _) (hR f18 hf18) H locs hP hD hS ls hl
