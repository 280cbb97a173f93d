section S10
variable {d : Nat} {w : List xt_E}
variable {o_size o_year o_gone o_minds o_lasts r_size r_token r_place r_at r_open r_made t_size t_rule i_there i_rule i_size i_year i_gone i_minds i_lasts : Int32} {o_parent o_kind o_number o_odds o_above o_kidCount o_lead r_tape r_steps r_ends t_steps t_ends t_stack s_sort s_size s_items i_number i_odds x_prices x_facts x_laws x_clues : Nat → Int32}
def sp_bit (x y : Int32) : Int32 := xi_ushr x y &&& 1
theorem t_X5_bit {x y : Int32} : xt_M yX5_bit cX5_bit 2 (some .int) d [.int x, .int y] w (xt_Ki (sp_bit x y) w) := by
  refine xt_M.go (own := RX5) (lv := [some (.int x), some (.int y)]) rfl rfl (Nat.le_of_ble_eq_true rfl) rfl ?_
  refine x_iload0 eX5_bit_0 ?_
  refine x_iload1 eX5_bit_1 ?_
  refine x_iushr eX5_bit_2 ?_
  refine x_k eX5_bit_3 ?_
  refine x_iand eX5_bit_4 ?_
  exact x_iret eX5_bit_5 ⟨rfl, rfl⟩
def sp_withBit (s n v : Int32) : Int32 := (s &&& (xi_shl 1 n ^^^ -1)) ||| xi_shl v n
theorem t_X5_withBit {x y z : Int32} : xt_M yX5_withBit cX5_withBit 3 (some .int) d [.int x, .int y, .int z] w (xt_Ki (sp_withBit x y z) w) := by
  refine xt_M.go (own := RX5) (lv := [some (.int x), some (.int y), some (.int z)]) rfl rfl (Nat.le_of_ble_eq_true rfl) rfl ?_
  refine x_iload0 eX5_withBit_0 ?_
  refine x_k eX5_withBit_1 ?_
  refine x_iload1 eX5_withBit_2 ?_
  refine x_ishl eX5_withBit_3 ?_
  refine x_k eX5_withBit_4 ?_
  refine x_ixor eX5_withBit_5 ?_
  refine x_iand eX5_withBit_6 ?_
  refine x_iload2 eX5_withBit_7 ?_
  refine x_iload1 eX5_withBit_8 ?_
  refine x_ishl eX5_withBit_9 ?_
  refine x_ior eX5_withBit_10 ?_
  exact x_iret eX5_withBit_11 ⟨rfl, rfl⟩
def sp_isIn (v a b : Int32) : Int32 := if a ≤ v ∧ v ≤ b then 1 else 0
theorem t_X5_isIn {x y z : Int32} : xt_M yX5_isIn cX5_isIn 3 (some .boolean) d [.int x, .int y, .int z] w (xt_Ki (sp_isIn x y z) w) := by
  refine xt_M.go (own := RX5) (lv := [some (.int x), some (.int y), some (.int z)]) rfl rfl (Nat.le_of_ble_eq_true rfl) rfl ?_
  refine x_iload0 eX5_isIn_0 ?_
  refine x_iload1 eX5_isIn_1 ?_
  refine x_icmp_lt eX5_isIn_2 (fun c2 => ?_) (fun c2 => ?_)
  · refine x_k eX5_isIn_14 ?_
    exact x_zret eX5_isIn_15 (by simp) ⟨by (simp only [sp_isIn, Int32.lt_iff_toInt_lt, Int32.le_iff_toInt_le] at *; split <;> first | rfl | (exfalso; omega)), rfl⟩
  · refine x_iload0 eX5_isIn_5 ?_
    refine x_iload2 eX5_isIn_6 ?_
    refine x_icmp_gt eX5_isIn_7 (fun c7 => ?_) (fun c7 => ?_)
    · refine x_k eX5_isIn_14 ?_
      exact x_zret eX5_isIn_15 (by simp) ⟨by (simp only [sp_isIn, Int32.lt_iff_toInt_lt, Int32.le_iff_toInt_le] at *; split <;> first | rfl | (exfalso; omega)), rfl⟩
    · refine x_k eX5_isIn_10 ?_
      refine x_goto eX5_isIn_11 ?_
      exact x_zret eX5_isIn_15 (by simp) ⟨by (simp only [sp_isIn, Int32.lt_iff_toInt_lt, Int32.le_iff_toInt_le] at *; split <;> first | rfl | (exfalso; omega)), rfl⟩
end S10
