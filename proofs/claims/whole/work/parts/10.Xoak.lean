section S10
variable {d : Nat}
variable {o_size o_year o_gone o_minds o_lasts r_size r_token r_place r_at r_open r_made t_size t_rule i_there i_rule i_size i_year i_gone i_minds i_lasts : Int32} {o_parent o_kind o_number o_odds o_above o_kidCount o_lead r_tape r_steps r_ends t_steps t_ends t_stack s_sort s_size s_items i_number i_odds x_prices x_facts x_laws x_clues : Nat → Int32}
def sp_X1_has (p1 : Int32) (o_size : Int32) : Int32 :=
  if p1 < 0 then
    0
  else
    if o_size ≤ p1 then
      0
    else
      1
def sp_X5_isIn (p1 : Int32) (p2 : Int32) (p3 : Int32)  : Int32 :=
  if p1 < p2 then
    0
  else
    if p3 < p1 then
      0
    else
      1
def sp_X1_standing_12 (u2 : Int32) (o_size : Int32) (o_above : Nat → Int32) : Nat → Int32 → Int32 → Option (Int32)
  | 0, _, _ => none
  | n + 1, u3, u4 =>
    if o_size ≤ u4 then
      some u3
    else
      (xo_at o_above 12 u4).bind fun v1 =>
      if ((v1 ||| (xi_shl 1 u4)) &&& u2) = 0 then
        sp_X1_standing_12 u2 o_size o_above n (u3 ||| (xi_shl 1 u4)) (u4 + 1)
      else
        sp_X1_standing_12 u2 o_size o_above n u3 (u4 + 1)
def sp_X1_standing (p1 : Int32) (o_size : Int32) (o_gone : Int32) (o_above : Nat → Int32) : Option (Int32) :=
  sp_X1_standing_12 (o_gone ||| p1) o_size o_above 5000 1 1
def sp_X5_bit (p1 : Int32) (p2 : Int32)  : Int32 :=
  ((xi_ushr p1 p2) &&& 1)
def sp_X5_withBit (p1 : Int32) (p2 : Int32) (p3 : Int32)  : Int32 :=
  ((p1 &&& ((xi_shl 1 p2) ^^^ (-1))) ||| (xi_shl p3 p2))
def sp_X1_sprout (p1 : Int32) (p2 : Int32) (p3 : Int32) (o_size : Int32) (o_gone : Int32) (o_minds : Int32) (o_lasts : Int32) (o_parent : Nat → Int32) (o_kind : Nat → Int32) (o_number : Nat → Int32) (o_odds : Nat → Int32) (o_above : Nat → Int32) : Option (Int32 × Int32 × Int32 × Int32 × Int32 × (Nat → Int32) × (Nat → Int32) × (Nat → Int32) × (Nat → Int32) × (Nat → Int32)) :=
  if (sp_X1_has p1 o_size) = 0 then
    some ((-2), o_size, o_gone, o_minds, o_lasts, o_parent, o_kind, o_number, o_odds, o_above)
  else
    if (sp_X5_isIn p2 0 5) = 0 then
      some ((-2), o_size, o_gone, o_minds, o_lasts, o_parent, o_kind, o_number, o_odds, o_above)
    else
      if (sp_X5_isIn p3 0 91) = 0 then
        some ((-2), o_size, o_gone, o_minds, o_lasts, o_parent, o_kind, o_number, o_odds, o_above)
      else
        if (xi_rem p3 10) ≤ 1 then
          (sp_X1_standing 0 o_size o_gone o_above).bind fun r1 =>
          if (sp_X5_bit r1 p1) = 0 then
            some ((-3), o_size, o_gone, o_minds, o_lasts, o_parent, o_kind, o_number, o_odds, o_above)
          else
            if o_size < 12 then
              (xo_set o_parent 12 o_size p1).bind fun f2 =>
              (xo_set o_kind 12 o_size p2).bind fun f3 =>
              (xo_set o_number 12 o_size (p3 / 10)).bind fun f4 =>
              (xo_set o_odds 12 o_size 50).bind fun f5 =>
              (xo_at o_above 12 p1).bind fun v6 =>
              (xo_set o_above 12 o_size (v6 ||| (xi_shl 1 p1))).bind fun f7 =>
              some (o_size, (o_size + 1), (sp_X5_withBit o_gone o_size 0), (sp_X5_withBit o_minds o_size (xi_rem p3 10)), (sp_X5_withBit o_lasts o_size 0), f2, f3, f4, f5, f7)
            else
              some ((-4), o_size, o_gone, o_minds, o_lasts, o_parent, o_kind, o_number, o_odds, o_above)
        else
          some ((-2), o_size, o_gone, o_minds, o_lasts, o_parent, o_kind, o_number, o_odds, o_above)
def sp_X1_twigsOf_4 (u1 : Int32) (o_size : Int32) (o_parent : Nat → Int32) : Nat → Int32 → Int32 → Option (Int32)
  | 0, _, _ => none
  | n + 1, u2, u3 =>
    if o_size ≤ u3 then
      some (u1 &&& (u2 ^^^ (-1)))
    else
      if (sp_X5_bit u1 u3) = 1 then
        (xo_at o_parent 12 u3).bind fun v1 =>
        sp_X1_twigsOf_4 u1 o_size o_parent n (u2 ||| (xi_shl 1 v1)) (u3 + 1)
      else
        sp_X1_twigsOf_4 u1 o_size o_parent n u2 (u3 + 1)
def sp_X1_twigsOf (p1 : Int32) (o_size : Int32) (o_parent : Nat → Int32) : Option (Int32) :=
  sp_X1_twigsOf_4 p1 o_size o_parent 5000 1 1
def sp_X1_kidSet_5 (u1 : Int32) (u2 : Int32) (o_size : Int32) (o_parent : Nat → Int32) : Nat → Int32 → Int32 → Option (Int32)
  | 0, _, _ => none
  | n + 1, u3, u4 =>
    if o_size ≤ u4 then
      some u3
    else
      if (sp_X5_bit u2 u4) = 1 then
        (xo_at o_parent 12 u4).bind fun v1 =>
        if v1 = u1 then
          sp_X1_kidSet_5 u1 u2 o_size o_parent n (u3 ||| (xi_shl 1 u4)) (u4 + 1)
        else
          sp_X1_kidSet_5 u1 u2 o_size o_parent n u3 (u4 + 1)
      else
        sp_X1_kidSet_5 u1 u2 o_size o_parent n u3 (u4 + 1)
def sp_X1_kidSet (p1 : Int32) (p2 : Int32) (o_size : Int32) (o_parent : Nat → Int32) : Option (Int32) :=
  sp_X1_kidSet_5 p1 p2 o_size o_parent 5000 0 1
def sp_X1_isNested_2 (u1 : Int32) (o_size : Int32) (o_above : Nat → Int32) : Nat → Int32 → Option (Int32)
  | 0, _ => none
  | n + 1, u2 =>
    if o_size ≤ u2 then
      some 0
    else
      if (sp_X5_bit u1 u2) = 1 then
        (xo_at o_above 12 u2).bind fun v1 =>
        if (v1 &&& u1) = 0 then
          sp_X1_isNested_2 u1 o_size o_above n (u2 + 1)
        else
          some 1
      else
        sp_X1_isNested_2 u1 o_size o_above n (u2 + 1)
def sp_X1_isNested (p1 : Int32) (o_size : Int32) (o_above : Nat → Int32) : Option (Int32) :=
  sp_X1_isNested_2 p1 o_size o_above 5000 1
def sp_J7_fill_53178_p7_5 (u1 : Int32) (u3 : Int32) : Nat → Int32 → (Nat → Int32) → Option ((Nat → Int32))
  | 0, _, _ => none
  | n + 1, u2, o_kidCount =>
    if u3 ≤ u2 then
      some o_kidCount
    else
      (xo_set o_kidCount 12 u2 u1).bind fun f1 =>
      sp_J7_fill_53178_p7_5 u1 u3 n (u2 + 1) f1
def sp_J7_fill_53178_p7 (p2 : Int32) (o_kidCount : Nat → Int32) : Option ((Nat → Int32)) :=
  sp_J7_fill_53178_p7_5 p2 12 5000 0 o_kidCount
def sp_J7_fill_53178_p8_5 (u1 : Int32) (u3 : Int32) : Nat → Int32 → (Nat → Int32) → Option ((Nat → Int32))
  | 0, _, _ => none
  | n + 1, u2, o_lead =>
    if u3 ≤ u2 then
      some o_lead
    else
      (xo_set o_lead 12 u2 u1).bind fun f1 =>
      sp_J7_fill_53178_p8_5 u1 u3 n (u2 + 1) f1
def sp_J7_fill_53178_p8 (p2 : Int32) (o_lead : Nat → Int32) : Option ((Nat → Int32)) :=
  sp_J7_fill_53178_p8_5 p2 12 5000 0 o_lead
def sp_X1_whenEven (p1 : Int32) (o_lasts : Int32) (o_kind : Nat → Int32) (o_number : Nat → Int32) : Option (Int32) :=
  (xo_at o_kind 12 p1).bind fun v1 =>
  if v1 = 1 then
    some 0
  else if v1 = 2 then
    some (1 - (sp_X5_bit o_lasts p1))
  else if v1 = 3 then
    (xo_at o_number 12 p1).bind fun v2 =>
    some (xi_rem v2 2)
  else if v1 = 4 then
    some (1 - (sp_X5_bit o_lasts p1))
  else if v1 = 5 then
    some (1 - (sp_X5_bit o_lasts p1))
  else 
    some (sp_X5_bit o_lasts p1)
def sp_X1_goesByKids (p1 : Int32) (o_lasts : Int32) (o_kind : Nat → Int32) (o_number : Nat → Int32) (o_lead : Nat → Int32) : Option (Int32) :=
  (xo_at o_lead 12 p1).bind fun v1 =>
  if v1 = 0 then
    (sp_X1_whenEven p1 o_lasts o_kind o_number).bind fun r2 =>
    some r2
  else
    (xo_at o_lead 12 p1).bind fun v3 =>
    if v3 ≤ 0 then
      some 0
    else
      some 1
def sp_X1_weight (p1 : Int32) (p2 : Int32) (o_kind : Nat → Int32) (o_number : Nat → Int32) : Option (Int32) :=
  (xo_at o_number 12 p1).bind fun v1 =>
  if p2 ≤ v1 then
    (xo_at o_kind 12 p1).bind fun v2 =>
    if v2 = 1 then
      some 1
    else if v2 = 2 then
      some 2
    else if v2 = 3 then
      some (1 + (p2 / 2))
    else if v2 = 4 then
      some 4
    else 
      some 1
  else
    (xo_at o_kind 12 p1).bind fun v3 =>
    if v3 = 1 then
      some 0
    else if v3 = 2 then
      some 2
    else if v3 = 3 then
      some (0 + (p2 / 2))
    else if v3 = 4 then
      some 4
    else 
      some 1
def sp_X1_vote_26 (u1 : Int32) (u2 : Int32) (o_lasts : Int32) (o_parent : Nat → Int32) (o_kind : Nat → Int32) (o_number : Nat → Int32) : Nat → Int32 → Int32 → (Nat → Int32) → (Nat → Int32) → Option (Int32 × (Nat → Int32) × (Nat → Int32))
  | 0, _, _, _, _ => none
  | n + 1, u3, u4, o_kidCount, o_lead =>
    if u4 ≤ 0 then
      (sp_X1_goesByKids 0 o_lasts o_kind o_number o_lead).bind fun r3 =>
      some ((u3 ||| r3), o_kidCount, o_lead)
    else
      if (sp_X5_bit u1 u4) = 1 then
        (xo_at o_kidCount 12 u4).bind fun v4 =>
        if v4 = 0 then
          (xo_at o_kidCount 12 u4).bind fun v14 =>
          (sp_X1_weight u4 v14 o_kind o_number).bind fun r15 =>
          (xo_at o_parent 12 u4).bind fun v16 =>
          (xo_at o_kidCount 12 v16).bind fun v17 =>
          (xo_set o_kidCount 12 v16 (v17 + 1)).bind fun f18 =>
          (xo_at o_lead 12 v16).bind fun v19 =>
          if (sp_X5_bit u2 u4) = 1 then
            (xo_set o_lead 12 v16 (v19 + r15)).bind fun f21 =>
            sp_X1_vote_26 u1 u2 o_lasts o_parent o_kind o_number n (u3 ||| (xi_shl (sp_X5_bit u2 u4) u4)) (u4 + (-1)) f18 f21
          else
            (xo_set o_lead 12 v16 (v19 + (-r15))).bind fun f20 =>
            sp_X1_vote_26 u1 u2 o_lasts o_parent o_kind o_number n (u3 ||| (xi_shl (sp_X5_bit u2 u4) u4)) (u4 + (-1)) f18 f20
        else
          (sp_X1_goesByKids u4 o_lasts o_kind o_number o_lead).bind fun r5 =>
          (xo_at o_kidCount 12 u4).bind fun v6 =>
          (sp_X1_weight u4 v6 o_kind o_number).bind fun r7 =>
          (xo_at o_parent 12 u4).bind fun v8 =>
          (xo_at o_kidCount 12 v8).bind fun v9 =>
          (xo_set o_kidCount 12 v8 (v9 + 1)).bind fun f10 =>
          (xo_at o_lead 12 v8).bind fun v11 =>
          if r5 = 1 then
            (xo_set o_lead 12 v8 (v11 + r7)).bind fun f13 =>
            sp_X1_vote_26 u1 u2 o_lasts o_parent o_kind o_number n (u3 ||| (xi_shl r5 u4)) (u4 + (-1)) f10 f13
          else
            (xo_set o_lead 12 v8 (v11 + (-r7))).bind fun f12 =>
            sp_X1_vote_26 u1 u2 o_lasts o_parent o_kind o_number n (u3 ||| (xi_shl r5 u4)) (u4 + (-1)) f10 f12
      else
        sp_X1_vote_26 u1 u2 o_lasts o_parent o_kind o_number n u3 (u4 + (-1)) o_kidCount o_lead
def sp_X1_vote (p1 : Int32) (p2 : Int32) (o_size : Int32) (o_lasts : Int32) (o_parent : Nat → Int32) (o_kind : Nat → Int32) (o_number : Nat → Int32) (o_kidCount : Nat → Int32) (o_lead : Nat → Int32) : Option (Int32 × (Nat → Int32) × (Nat → Int32)) :=
  (sp_J7_fill_53178_p7 0 o_kidCount).bind fun r1 =>
  (sp_J7_fill_53178_p8 0 o_lead).bind fun r2 =>
  sp_X1_vote_26 p1 p2 o_lasts o_parent o_kind o_number 5000 0 (o_size - 1) r1 r2
def sp_J6_bitCount_0f7a4 (p1 : Int32)  : Int32 :=
  ((((((((p1 - ((xi_ushr p1 1) &&& 1431655765)) &&& 858993459) + ((xi_ushr (p1 - ((xi_ushr p1 1) &&& 1431655765)) 2) &&& 858993459)) + (xi_ushr (((p1 - ((xi_ushr p1 1) &&& 1431655765)) &&& 858993459) + ((xi_ushr (p1 - ((xi_ushr p1 1) &&& 1431655765)) 2) &&& 858993459)) 4)) &&& 252645135) + (xi_ushr (((((p1 - ((xi_ushr p1 1) &&& 1431655765)) &&& 858993459) + ((xi_ushr (p1 - ((xi_ushr p1 1) &&& 1431655765)) 2) &&& 858993459)) + (xi_ushr (((p1 - ((xi_ushr p1 1) &&& 1431655765)) &&& 858993459) + ((xi_ushr (p1 - ((xi_ushr p1 1) &&& 1431655765)) 2) &&& 858993459)) 4)) &&& 252645135) 8)) + (xi_ushr ((((((p1 - ((xi_ushr p1 1) &&& 1431655765)) &&& 858993459) + ((xi_ushr (p1 - ((xi_ushr p1 1) &&& 1431655765)) 2) &&& 858993459)) + (xi_ushr (((p1 - ((xi_ushr p1 1) &&& 1431655765)) &&& 858993459) + ((xi_ushr (p1 - ((xi_ushr p1 1) &&& 1431655765)) 2) &&& 858993459)) 4)) &&& 252645135) + (xi_ushr (((((p1 - ((xi_ushr p1 1) &&& 1431655765)) &&& 858993459) + ((xi_ushr (p1 - ((xi_ushr p1 1) &&& 1431655765)) 2) &&& 858993459)) + (xi_ushr (((p1 - ((xi_ushr p1 1) &&& 1431655765)) &&& 858993459) + ((xi_ushr (p1 - ((xi_ushr p1 1) &&& 1431655765)) 2) &&& 858993459)) 4)) &&& 252645135) 8)) 16)) &&& 63)
def sp_X1_tellFacts_p25_18 (u1 : Int32) (u2 : Int32) (u4 : Int32) (o_size : Int32) (o_year : Int32) (o_lasts : Int32) (o_parent : Nat → Int32) (o_above : Nat → Int32) : Nat → Int32 → Int32 → (Nat → Int32) → Option ((Nat → Int32))
  | 0, _, _, _ => none
  | n + 1, u5, u6, x_facts =>
    if o_size ≤ u6 then
      (xo_set x_facts 6 0 u1).bind fun f2 =>
      (xo_at o_above 12 u1).bind fun v3 =>
      (xo_set f2 6 1 (sp_J6_bitCount_0f7a4 v3)).bind fun f4 =>
      (sp_X1_kidSet u1 u2 o_size o_parent).bind fun r5 =>
      (xo_set f4 6 2 (sp_J6_bitCount_0f7a4 r5)).bind fun f6 =>
      (xo_set f6 6 3 u5).bind fun f7 =>
      (xo_set f7 6 4 (sp_X5_bit o_lasts u1)).bind fun f8 =>
      (xo_set f8 6 5 o_year).bind fun f9 =>
      some f9
    else
      (xo_at o_above 12 u6).bind fun v10 =>
      sp_X1_tellFacts_p25_18 u1 u2 u4 o_size o_year o_lasts o_parent o_above n (u5 + ((sp_X5_bit u4 u6) &&& (sp_X5_bit v10 u1))) (u6 + 1) x_facts
def sp_X1_tellFacts_p25 (p1 : Int32) (p2 : Int32) (o_size : Int32) (o_year : Int32) (o_lasts : Int32) (o_parent : Nat → Int32) (o_above : Nat → Int32) (x_facts : Nat → Int32) : Option ((Nat → Int32)) :=
  (sp_X1_twigsOf p2 o_size o_parent).bind fun r1 =>
  sp_X1_tellFacts_p25_18 p1 p2 r1 o_size o_year o_lasts o_parent o_above 5000 (sp_X5_bit r1 p1) 1 x_facts
set_option maxRecDepth 4000 in
theorem t_X1_has {o : Int32} {p1 : Int32} (hm : sp_X1_has p1 o_size = o) : xt_M yX1_has cX1_has 2 (some .boolean) (d + 0) [.ref 1, .int p1] (WX o_size o_year o_gone o_minds o_lasts r_size r_token r_place r_at r_open r_made t_size t_rule i_there i_rule i_size i_year i_gone i_minds i_lasts o_parent o_kind o_number o_odds o_above o_kidCount o_lead r_tape r_steps r_ends t_steps t_ends t_stack s_sort s_size s_items i_number i_odds x_prices x_facts x_laws x_clues) (xt_Ki o (WX o_size o_year o_gone o_minds o_lasts r_size r_token r_place r_at r_open r_made t_size t_rule i_there i_rule i_size i_year i_gone i_minds i_lasts o_parent o_kind o_number o_odds o_above o_kidCount o_lead r_tape r_steps r_ends t_steps t_ends t_stack s_sort s_size s_items i_number i_odds x_prices x_facts x_laws x_clues)) := by
  unfold sp_X1_has at hm
  refine xt_M.go (own := RX1) (lv := [some (.ref 1), some (.int p1)]) rfl rfl (Nat.le_of_ble_eq_true rfl) rfl ?_
  refine x_iload1 eX1_has_0 ?_
  refine x_if_lt eX1_has_1 (fun c => ?_) (fun c => ?_)
  · rw [if_pos c] at hm
    refine x_k eX1_has_16 ?_
    subst hm
    exact x_zret eX1_has_17 (by decide) ⟨rfl, rfl⟩
  · rw [if_neg c] at hm
    refine x_iload1 eX1_has_4 ?_
    refine x_aload0 eX1_has_5 ?_
    refine x_get eX1_has_6 fX1_9 rfl rfl ?_
    refine x_icmp_ge eX1_has_9 (fun c => ?_) (fun c => ?_)
    · rw [if_pos c] at hm
      refine x_k eX1_has_16 ?_
      subst hm
      exact x_zret eX1_has_17 (by decide) ⟨rfl, rfl⟩
    · rw [if_neg c] at hm
      refine x_k eX1_has_12 ?_
      refine x_goto eX1_has_13 ?_
      subst hm
      exact x_zret eX1_has_17 (by decide) ⟨rfl, rfl⟩
set_option maxRecDepth 4000 in
theorem t_X5_isIn {o : Int32} {p1 : Int32} {p2 : Int32} {p3 : Int32} (hm : sp_X5_isIn p1 p2 p3 = o) : xt_M yX5_isIn cX5_isIn 3 (some .boolean) (d + 0) [.int p1, .int p2, .int p3] (WX o_size o_year o_gone o_minds o_lasts r_size r_token r_place r_at r_open r_made t_size t_rule i_there i_rule i_size i_year i_gone i_minds i_lasts o_parent o_kind o_number o_odds o_above o_kidCount o_lead r_tape r_steps r_ends t_steps t_ends t_stack s_sort s_size s_items i_number i_odds x_prices x_facts x_laws x_clues) (xt_Ki o (WX o_size o_year o_gone o_minds o_lasts r_size r_token r_place r_at r_open r_made t_size t_rule i_there i_rule i_size i_year i_gone i_minds i_lasts o_parent o_kind o_number o_odds o_above o_kidCount o_lead r_tape r_steps r_ends t_steps t_ends t_stack s_sort s_size s_items i_number i_odds x_prices x_facts x_laws x_clues)) := by
  unfold sp_X5_isIn at hm
  refine xt_M.go (own := RX5) (lv := [some (.int p1), some (.int p2), some (.int p3)]) rfl rfl (Nat.le_of_ble_eq_true rfl) rfl ?_
  refine x_iload0 eX5_isIn_0 ?_
  refine x_iload1 eX5_isIn_1 ?_
  refine x_icmp_lt eX5_isIn_2 (fun c => ?_) (fun c => ?_)
  · rw [if_pos c] at hm
    refine x_k eX5_isIn_14 ?_
    subst hm
    exact x_zret eX5_isIn_15 (by decide) ⟨rfl, rfl⟩
  · rw [if_neg c] at hm
    refine x_iload0 eX5_isIn_5 ?_
    refine x_iload2 eX5_isIn_6 ?_
    refine x_icmp_gt eX5_isIn_7 (fun c => ?_) (fun c => ?_)
    · rw [if_pos c] at hm
      refine x_k eX5_isIn_14 ?_
      subst hm
      exact x_zret eX5_isIn_15 (by decide) ⟨rfl, rfl⟩
    · rw [if_neg c] at hm
      refine x_k eX5_isIn_10 ?_
      refine x_goto eX5_isIn_11 ?_
      subst hm
      exact x_zret eX5_isIn_15 (by decide) ⟨rfl, rfl⟩
set_option maxRecDepth 4000 in
theorem l_X1_standing_12 {o : Int32} {u2 : Int32} {o_size : Int32} {o_above : Nat → Int32} {u1 : Int32} : ∀ (n : Nat) {u3 : Int32} {u4 : Int32}, sp_X1_standing_12 u2 o_size o_above n u3 u4 = some o → xt_T RX1 cX1_standing 5 (some .int) (d + 0) (xt_Ki o (WX o_size o_year o_gone o_minds o_lasts r_size r_token r_place r_at r_open r_made t_size t_rule i_there i_rule i_size i_year i_gone i_minds i_lasts o_parent o_kind o_number o_odds o_above o_kidCount o_lead r_tape r_steps r_ends t_steps t_ends t_stack s_sort s_size s_items i_number i_odds x_prices x_facts x_laws x_clues)) 12 [some (.ref 1), some (.int u1), some (.int u2), some (.int u3), some (.int u4)] [] (WX o_size o_year o_gone o_minds o_lasts r_size r_token r_place r_at r_open r_made t_size t_rule i_there i_rule i_size i_year i_gone i_minds i_lasts o_parent o_kind o_number o_odds o_above o_kidCount o_lead r_tape r_steps r_ends t_steps t_ends t_stack s_sort s_size s_items i_number i_odds x_prices x_facts x_laws x_clues) := by
  intro n
  induction n with
  | zero => intro u3 u4 hm; rw [sp_X1_standing_12] at hm; cases hm
  | succ n ih =>
    intro u3 u4 hm
    rw [sp_X1_standing_12] at hm
    refine x_iload4 eX1_standing_12 ?_
    refine x_aload0 eX1_standing_14 ?_
    refine x_get eX1_standing_15 fX1_9 rfl rfl ?_
    refine x_icmp_ge eX1_standing_18 (fun c => ?_) (fun c => ?_)
    · rw [if_pos c] at hm
      refine x_iload3 eX1_standing_51 ?_
      obtain rfl := Option.some.inj hm
      exact x_iret eX1_standing_52 ⟨rfl, rfl⟩
    · rw [if_neg c] at hm
      refine x_aload0 eX1_standing_21 ?_
      refine x_get eX1_standing_22 fX1_40 rfl rfl ?_
      refine x_iload4 eX1_standing_25 ?_
      obtain ⟨v1, hv, hm⟩ := xo_bind hm
      obtain ⟨hi, rfl⟩ := xo_at_some hv
      refine x_iaload eX1_standing_27 rfl hi ?_
      refine x_k eX1_standing_28 ?_
      refine x_iload4 eX1_standing_29 ?_
      refine x_ishl eX1_standing_31 ?_
      refine x_ior eX1_standing_32 ?_
      refine x_iload2 eX1_standing_33 ?_
      refine x_iand eX1_standing_34 ?_
      refine x_if_ne eX1_standing_35 (fun c => ?_) (fun c => ?_)
      · rw [if_neg c] at hm
        refine x_iinc4 eX1_standing_45 rfl ?_
        refine x_goto eX1_standing_48 ?_
        exact ih hm
      · rw [if_pos c] at hm
        refine x_iload3 eX1_standing_38 ?_
        refine x_k eX1_standing_39 ?_
        refine x_iload4 eX1_standing_40 ?_
        refine x_ishl eX1_standing_42 ?_
        refine x_ior eX1_standing_43 ?_
        refine x_istore3 eX1_standing_44 rfl ?_
        refine x_iinc4 eX1_standing_45 rfl ?_
        refine x_goto eX1_standing_48 ?_
        exact ih hm
set_option maxRecDepth 4000 in
theorem t_X1_standing {o : Int32} {p1 : Int32} (hm : sp_X1_standing p1 o_size o_gone o_above = some o) : xt_M yX1_standing cX1_standing 5 (some .int) (d + 0) [.ref 1, .int p1] (WX o_size o_year o_gone o_minds o_lasts r_size r_token r_place r_at r_open r_made t_size t_rule i_there i_rule i_size i_year i_gone i_minds i_lasts o_parent o_kind o_number o_odds o_above o_kidCount o_lead r_tape r_steps r_ends t_steps t_ends t_stack s_sort s_size s_items i_number i_odds x_prices x_facts x_laws x_clues) (xt_Ki o (WX o_size o_year o_gone o_minds o_lasts r_size r_token r_place r_at r_open r_made t_size t_rule i_there i_rule i_size i_year i_gone i_minds i_lasts o_parent o_kind o_number o_odds o_above o_kidCount o_lead r_tape r_steps r_ends t_steps t_ends t_stack s_sort s_size s_items i_number i_odds x_prices x_facts x_laws x_clues)) := by
  unfold sp_X1_standing at hm
  refine xt_M.go (own := RX1) (lv := [some (.ref 1), some (.int p1), none, none, none]) rfl rfl (Nat.le_of_ble_eq_true rfl) rfl ?_
  refine x_aload0 eX1_standing_0 ?_
  refine x_get eX1_standing_1 fX1_18 rfl rfl ?_
  refine x_iload1 eX1_standing_4 ?_
  refine x_ior eX1_standing_5 ?_
  refine x_istore2 eX1_standing_6 rfl ?_
  refine x_k eX1_standing_7 ?_
  refine x_istore3 eX1_standing_8 rfl ?_
  refine x_k eX1_standing_9 ?_
  refine x_istore4 eX1_standing_10 rfl ?_
  exact l_X1_standing_12 _ hm
set_option maxRecDepth 4000 in
theorem t_X5_bit {o : Int32} {p1 : Int32} {p2 : Int32} (hm : sp_X5_bit p1 p2 = o) : xt_M yX5_bit cX5_bit 2 (some .int) (d + 0) [.int p1, .int p2] (WX o_size o_year o_gone o_minds o_lasts r_size r_token r_place r_at r_open r_made t_size t_rule i_there i_rule i_size i_year i_gone i_minds i_lasts o_parent o_kind o_number o_odds o_above o_kidCount o_lead r_tape r_steps r_ends t_steps t_ends t_stack s_sort s_size s_items i_number i_odds x_prices x_facts x_laws x_clues) (xt_Ki o (WX o_size o_year o_gone o_minds o_lasts r_size r_token r_place r_at r_open r_made t_size t_rule i_there i_rule i_size i_year i_gone i_minds i_lasts o_parent o_kind o_number o_odds o_above o_kidCount o_lead r_tape r_steps r_ends t_steps t_ends t_stack s_sort s_size s_items i_number i_odds x_prices x_facts x_laws x_clues)) := by
  unfold sp_X5_bit at hm
  refine xt_M.go (own := RX5) (lv := [some (.int p1), some (.int p2)]) rfl rfl (Nat.le_of_ble_eq_true rfl) rfl ?_
  refine x_iload0 eX5_bit_0 ?_
  refine x_iload1 eX5_bit_1 ?_
  refine x_iushr eX5_bit_2 ?_
  refine x_k eX5_bit_3 ?_
  refine x_iand eX5_bit_4 ?_
  subst hm
  exact x_iret eX5_bit_5 ⟨rfl, rfl⟩
set_option maxRecDepth 4000 in
theorem t_X5_withBit {o : Int32} {p1 : Int32} {p2 : Int32} {p3 : Int32} (hm : sp_X5_withBit p1 p2 p3 = o) : xt_M yX5_withBit cX5_withBit 3 (some .int) (d + 0) [.int p1, .int p2, .int p3] (WX o_size o_year o_gone o_minds o_lasts r_size r_token r_place r_at r_open r_made t_size t_rule i_there i_rule i_size i_year i_gone i_minds i_lasts o_parent o_kind o_number o_odds o_above o_kidCount o_lead r_tape r_steps r_ends t_steps t_ends t_stack s_sort s_size s_items i_number i_odds x_prices x_facts x_laws x_clues) (xt_Ki o (WX o_size o_year o_gone o_minds o_lasts r_size r_token r_place r_at r_open r_made t_size t_rule i_there i_rule i_size i_year i_gone i_minds i_lasts o_parent o_kind o_number o_odds o_above o_kidCount o_lead r_tape r_steps r_ends t_steps t_ends t_stack s_sort s_size s_items i_number i_odds x_prices x_facts x_laws x_clues)) := by
  unfold sp_X5_withBit at hm
  refine xt_M.go (own := RX5) (lv := [some (.int p1), some (.int p2), some (.int p3)]) rfl rfl (Nat.le_of_ble_eq_true rfl) rfl ?_
  refine x_iload0 eX5_withBit_0 ?_
  refine x_k eX5_withBit_1 ?_
  refine x_iload1 eX5_withBit_2 ?_
  refine x_ishl eX5_withBit_3 ?_
  refine x_k eX5_withBit_4 ?_
  refine x_ixor eX5_withBit_5 ?_
  refine x_iand eX5_withBit_6 ?_
  refine x_iload2 eX5_withBit_7 ?_
  refine x_iload1 eX5_withBit_8 ?_
  refine x_ishl eX5_withBit_9 ?_
  refine x_ior eX5_withBit_10 ?_
  subst hm
  exact x_iret eX5_withBit_11 ⟨rfl, rfl⟩
set_option maxRecDepth 4000 in
theorem t_X1_sprout {o : Int32 × Int32 × Int32 × Int32 × Int32 × (Nat → Int32) × (Nat → Int32) × (Nat → Int32) × (Nat → Int32) × (Nat → Int32)} {p1 : Int32} {p2 : Int32} {p3 : Int32} (hm : sp_X1_sprout p1 p2 p3 o_size o_gone o_minds o_lasts o_parent o_kind o_number o_odds o_above = some o) : xt_M yX1_sprout cX1_sprout 5 (some .int) (d + 1) [.ref 1, .int p1, .int p2, .int p3] (WX o_size o_year o_gone o_minds o_lasts r_size r_token r_place r_at r_open r_made t_size t_rule i_there i_rule i_size i_year i_gone i_minds i_lasts o_parent o_kind o_number o_odds o_above o_kidCount o_lead r_tape r_steps r_ends t_steps t_ends t_stack s_sort s_size s_items i_number i_odds x_prices x_facts x_laws x_clues) (xt_Ki o.1 (WX o.2.1 o_year o.2.2.1 o.2.2.2.1 o.2.2.2.2.1 r_size r_token r_place r_at r_open r_made t_size t_rule i_there i_rule i_size i_year i_gone i_minds i_lasts o.2.2.2.2.2.1 o.2.2.2.2.2.2.1 o.2.2.2.2.2.2.2.1 o.2.2.2.2.2.2.2.2.1 o.2.2.2.2.2.2.2.2.2 o_kidCount o_lead r_tape r_steps r_ends t_steps t_ends t_stack s_sort s_size s_items i_number i_odds x_prices x_facts x_laws x_clues)) := by
  unfold sp_X1_sprout at hm
  refine xt_M.go (own := RX1) (lv := [some (.ref 1), some (.int p1), some (.int p2), some (.int p3), none]) rfl rfl (Nat.le_of_ble_eq_true rfl) rfl ?_
  refine x_aload0 eX1_sprout_0 ?_
  refine x_iload1 eX1_sprout_1 ?_
  refine x_Vi1 eX1_sprout_2 kX1_has mX1_49 (t_X1_has rfl) rfl (Nat.le_of_ble_eq_true rfl) ?_
  refine x_if_eq eX1_sprout_5 (fun c => ?_) (fun c => ?_)
  · rw [if_pos c] at hm
    refine x_k eX1_sprout_35 ?_
    obtain rfl := Option.some.inj hm
    exact x_iret eX1_sprout_37 ⟨rfl, rfl⟩
  · rw [if_neg c] at hm
    refine x_iload2 eX1_sprout_8 ?_
    refine x_k eX1_sprout_9 ?_
    refine x_k eX1_sprout_10 ?_
    refine x_Ni3 eX1_sprout_11 kX5_isIn mX1_53 (t_X5_isIn rfl) (Nat.le_of_ble_eq_true rfl) ?_
    refine x_if_eq eX1_sprout_14 (fun c => ?_) (fun c => ?_)
    · rw [if_pos c] at hm
      refine x_k eX1_sprout_35 ?_
      obtain rfl := Option.some.inj hm
      exact x_iret eX1_sprout_37 ⟨rfl, rfl⟩
    · rw [if_neg c] at hm
      refine x_iload3 eX1_sprout_17 ?_
      refine x_k eX1_sprout_18 ?_
      refine x_k eX1_sprout_19 ?_
      refine x_Ni3 eX1_sprout_21 kX5_isIn mX1_53 (t_X5_isIn rfl) (Nat.le_of_ble_eq_true rfl) ?_
      refine x_if_eq eX1_sprout_24 (fun c => ?_) (fun c => ?_)
      · rw [if_pos c] at hm
        refine x_k eX1_sprout_35 ?_
        obtain rfl := Option.some.inj hm
        exact x_iret eX1_sprout_37 ⟨rfl, rfl⟩
      · rw [if_neg c] at hm
        refine x_iload3 eX1_sprout_27 ?_
        refine x_k eX1_sprout_28 ?_
        refine x_irem eX1_sprout_30 (by decide) ?_
        refine x_k eX1_sprout_31 ?_
        refine x_icmp_le eX1_sprout_32 (fun c => ?_) (fun c => ?_)
        · rw [if_pos c] at hm
          refine x_aload0 eX1_sprout_38 ?_
          refine x_k eX1_sprout_39 ?_
          obtain ⟨r1, hr, hm⟩ := xo_bind hm
          refine x_Vi1 eX1_sprout_40 kX1_standing mX1_57 (t_X1_standing hr) rfl (Nat.le_of_ble_eq_true rfl) ?_
          refine x_iload1 eX1_sprout_43 ?_
          refine x_Ni2 eX1_sprout_44 kX5_bit mX1_61 (t_X5_bit rfl) (Nat.le_of_ble_eq_true rfl) ?_
          refine x_if_ne eX1_sprout_47 (fun c => ?_) (fun c => ?_)
          · rw [if_neg c] at hm
            refine x_aload0 eX1_sprout_53 ?_
            refine x_get eX1_sprout_54 fX1_9 rfl rfl ?_
            refine x_k eX1_sprout_57 ?_
            refine x_icmp_lt eX1_sprout_59 (fun c => ?_) (fun c => ?_)
            · rw [if_pos c] at hm
              refine x_aload0 eX1_sprout_65 ?_
              refine x_get eX1_sprout_66 fX1_9 rfl rfl ?_
              refine x_istore4 eX1_sprout_69 rfl ?_
              refine x_aload0 eX1_sprout_71 ?_
              refine x_get eX1_sprout_72 fX1_27 rfl rfl ?_
              refine x_iload4 eX1_sprout_75 ?_
              refine x_iload1 eX1_sprout_77 ?_
              obtain ⟨f2, hv, hm⟩ := xo_bind hm
              obtain ⟨hi, rfl⟩ := xo_set_some hv
              refine x_iastore (w' := WX _ _ _ _ _ _ _ _ _ _ _ _ _ _ _ _ _ _ _ _ _ _ _ _ _ _ _ _ _ _ _ _ _ _ _ _ _ _ _ _ _ _) eX1_sprout_78 rfl hi rfl ?_
              refine x_aload0 eX1_sprout_79 ?_
              refine x_get eX1_sprout_80 fX1_31 rfl rfl ?_
              refine x_iload4 eX1_sprout_83 ?_
              refine x_iload2 eX1_sprout_85 ?_
              obtain ⟨f3, hv, hm⟩ := xo_bind hm
              obtain ⟨hi, rfl⟩ := xo_set_some hv
              refine x_iastore (w' := WX _ _ _ _ _ _ _ _ _ _ _ _ _ _ _ _ _ _ _ _ _ _ _ _ _ _ _ _ _ _ _ _ _ _ _ _ _ _ _ _ _ _) eX1_sprout_86 rfl hi rfl ?_
              refine x_aload0 eX1_sprout_87 ?_
              refine x_get eX1_sprout_88 fX1_34 rfl rfl ?_
              refine x_iload4 eX1_sprout_91 ?_
              refine x_iload3 eX1_sprout_93 ?_
              refine x_k eX1_sprout_94 ?_
              refine x_idiv eX1_sprout_96 (by decide) ?_
              obtain ⟨f4, hv, hm⟩ := xo_bind hm
              obtain ⟨hi, rfl⟩ := xo_set_some hv
              refine x_iastore (w' := WX _ _ _ _ _ _ _ _ _ _ _ _ _ _ _ _ _ _ _ _ _ _ _ _ _ _ _ _ _ _ _ _ _ _ _ _ _ _ _ _ _ _) eX1_sprout_97 rfl hi rfl ?_
              refine x_aload0 eX1_sprout_98 ?_
              refine x_get eX1_sprout_99 fX1_37 rfl rfl ?_
              refine x_iload4 eX1_sprout_102 ?_
              refine x_k eX1_sprout_104 ?_
              obtain ⟨f5, hv, hm⟩ := xo_bind hm
              obtain ⟨hi, rfl⟩ := xo_set_some hv
              refine x_iastore (w' := WX _ _ _ _ _ _ _ _ _ _ _ _ _ _ _ _ _ _ _ _ _ _ _ _ _ _ _ _ _ _ _ _ _ _ _ _ _ _ _ _ _ _) eX1_sprout_106 rfl hi rfl ?_
              refine x_aload0 eX1_sprout_107 ?_
              refine x_get eX1_sprout_108 fX1_40 rfl rfl ?_
              refine x_iload4 eX1_sprout_111 ?_
              refine x_aload0 eX1_sprout_113 ?_
              refine x_get eX1_sprout_114 fX1_40 rfl rfl ?_
              refine x_iload1 eX1_sprout_117 ?_
              obtain ⟨v6, hv, hm⟩ := xo_bind hm
              obtain ⟨hi, rfl⟩ := xo_at_some hv
              refine x_iaload eX1_sprout_118 rfl hi ?_
              refine x_k eX1_sprout_119 ?_
              refine x_iload1 eX1_sprout_120 ?_
              refine x_ishl eX1_sprout_121 ?_
              refine x_ior eX1_sprout_122 ?_
              obtain ⟨f7, hv, hm⟩ := xo_bind hm
              obtain ⟨hi, rfl⟩ := xo_set_some hv
              refine x_iastore (w' := WX _ _ _ _ _ _ _ _ _ _ _ _ _ _ _ _ _ _ _ _ _ _ _ _ _ _ _ _ _ _ _ _ _ _ _ _ _ _ _ _ _ _) eX1_sprout_123 rfl hi rfl ?_
              refine x_aload0 eX1_sprout_124 ?_
              refine x_aload0 eX1_sprout_125 ?_
              refine x_get eX1_sprout_126 fX1_18 rfl rfl ?_
              refine x_iload4 eX1_sprout_129 ?_
              refine x_k eX1_sprout_131 ?_
              refine x_Ni3 eX1_sprout_132 kX5_withBit mX1_65 (t_X5_withBit rfl) (Nat.le_of_ble_eq_true rfl) ?_
              refine x_puti (w' := WX _ _ _ _ _ _ _ _ _ _ _ _ _ _ _ _ _ _ _ _ _ _ _ _ _ _ _ _ _ _ _ _ _ _ _ _ _ _ _ _ _ _) eX1_sprout_135 pX1_18 rfl (Nat.le_of_ble_eq_true rfl) rfl ?_
              refine x_aload0 eX1_sprout_138 ?_
              refine x_aload0 eX1_sprout_139 ?_
              refine x_get eX1_sprout_140 fX1_21 rfl rfl ?_
              refine x_iload4 eX1_sprout_143 ?_
              refine x_iload3 eX1_sprout_145 ?_
              refine x_k eX1_sprout_146 ?_
              refine x_irem eX1_sprout_148 (by decide) ?_
              refine x_Ni3 eX1_sprout_149 kX5_withBit mX1_65 (t_X5_withBit rfl) (Nat.le_of_ble_eq_true rfl) ?_
              refine x_puti (w' := WX _ _ _ _ _ _ _ _ _ _ _ _ _ _ _ _ _ _ _ _ _ _ _ _ _ _ _ _ _ _ _ _ _ _ _ _ _ _ _ _ _ _) eX1_sprout_152 pX1_21 rfl (Nat.le_of_ble_eq_true rfl) rfl ?_
              refine x_aload0 eX1_sprout_155 ?_
              refine x_aload0 eX1_sprout_156 ?_
              refine x_get eX1_sprout_157 fX1_24 rfl rfl ?_
              refine x_iload4 eX1_sprout_160 ?_
              refine x_k eX1_sprout_162 ?_
              refine x_Ni3 eX1_sprout_163 kX5_withBit mX1_65 (t_X5_withBit rfl) (Nat.le_of_ble_eq_true rfl) ?_
              refine x_puti (w' := WX _ _ _ _ _ _ _ _ _ _ _ _ _ _ _ _ _ _ _ _ _ _ _ _ _ _ _ _ _ _ _ _ _ _ _ _ _ _ _ _ _ _) eX1_sprout_166 pX1_24 rfl (Nat.le_of_ble_eq_true rfl) rfl ?_
              refine x_aload0 eX1_sprout_169 ?_
              refine x_dup eX1_sprout_170 rfl ?_
              refine x_get eX1_sprout_171 fX1_9 rfl rfl ?_
              refine x_k eX1_sprout_174 ?_
              refine x_iadd eX1_sprout_175 ?_
              refine x_puti (w' := WX _ _ _ _ _ _ _ _ _ _ _ _ _ _ _ _ _ _ _ _ _ _ _ _ _ _ _ _ _ _ _ _ _ _ _ _ _ _ _ _ _ _) eX1_sprout_176 pX1_9 rfl (Nat.le_of_ble_eq_true rfl) rfl ?_
              refine x_iload4 eX1_sprout_179 ?_
              obtain rfl := Option.some.inj hm
              exact x_iret eX1_sprout_181 ⟨rfl, rfl⟩
            · rw [if_neg c] at hm
              refine x_k eX1_sprout_62 ?_
              obtain rfl := Option.some.inj hm
              exact x_iret eX1_sprout_64 ⟨rfl, rfl⟩
          · rw [if_pos c] at hm
            refine x_k eX1_sprout_50 ?_
            obtain rfl := Option.some.inj hm
            exact x_iret eX1_sprout_52 ⟨rfl, rfl⟩
        · rw [if_neg c] at hm
          refine x_k eX1_sprout_35 ?_
          obtain rfl := Option.some.inj hm
          exact x_iret eX1_sprout_37 ⟨rfl, rfl⟩
set_option maxRecDepth 4000 in
theorem l_X1_twigsOf_4 {o : Int32} {u1 : Int32} {o_size : Int32} {o_parent : Nat → Int32} : ∀ (n : Nat) {u2 : Int32} {u3 : Int32}, sp_X1_twigsOf_4 u1 o_size o_parent n u2 u3 = some o → xt_T RX1 cX1_twigsOf 4 (some .int) (d + 1) (xt_Ki o (WX o_size o_year o_gone o_minds o_lasts r_size r_token r_place r_at r_open r_made t_size t_rule i_there i_rule i_size i_year i_gone i_minds i_lasts o_parent o_kind o_number o_odds o_above o_kidCount o_lead r_tape r_steps r_ends t_steps t_ends t_stack s_sort s_size s_items i_number i_odds x_prices x_facts x_laws x_clues)) 4 [some (.ref 1), some (.int u1), some (.int u2), some (.int u3)] [] (WX o_size o_year o_gone o_minds o_lasts r_size r_token r_place r_at r_open r_made t_size t_rule i_there i_rule i_size i_year i_gone i_minds i_lasts o_parent o_kind o_number o_odds o_above o_kidCount o_lead r_tape r_steps r_ends t_steps t_ends t_stack s_sort s_size s_items i_number i_odds x_prices x_facts x_laws x_clues) := by
  intro n
  induction n with
  | zero => intro u2 u3 hm; rw [sp_X1_twigsOf_4] at hm; cases hm
  | succ n ih =>
    intro u2 u3 hm
    rw [sp_X1_twigsOf_4] at hm
    refine x_iload3 eX1_twigsOf_4 ?_
    refine x_aload0 eX1_twigsOf_5 ?_
    refine x_get eX1_twigsOf_6 fX1_9 rfl rfl ?_
    refine x_icmp_ge eX1_twigsOf_9 (fun c => ?_) (fun c => ?_)
    · rw [if_pos c] at hm
      refine x_iload1 eX1_twigsOf_38 ?_
      refine x_iload2 eX1_twigsOf_39 ?_
      refine x_k eX1_twigsOf_40 ?_
      refine x_ixor eX1_twigsOf_41 ?_
      refine x_iand eX1_twigsOf_42 ?_
      obtain rfl := Option.some.inj hm
      exact x_iret eX1_twigsOf_43 ⟨rfl, rfl⟩
    · rw [if_neg c] at hm
      refine x_iload1 eX1_twigsOf_12 ?_
      refine x_iload3 eX1_twigsOf_13 ?_
      refine x_Ni2 eX1_twigsOf_14 kX5_bit mX1_61 (t_X5_bit rfl) (Nat.le_of_ble_eq_true rfl) ?_
      refine x_k eX1_twigsOf_17 ?_
      refine x_icmp_ne eX1_twigsOf_18 (fun c => ?_) (fun c => ?_)
      · rw [if_neg c] at hm
        refine x_iinc3 eX1_twigsOf_32 rfl ?_
        refine x_goto eX1_twigsOf_35 ?_
        exact ih hm
      · rw [if_pos c] at hm
        refine x_iload2 eX1_twigsOf_21 ?_
        refine x_k eX1_twigsOf_22 ?_
        refine x_aload0 eX1_twigsOf_23 ?_
        refine x_get eX1_twigsOf_24 fX1_27 rfl rfl ?_
        refine x_iload3 eX1_twigsOf_27 ?_
        obtain ⟨v1, hv, hm⟩ := xo_bind hm
        obtain ⟨hi, rfl⟩ := xo_at_some hv
        refine x_iaload eX1_twigsOf_28 rfl hi ?_
        refine x_ishl eX1_twigsOf_29 ?_
        refine x_ior eX1_twigsOf_30 ?_
        refine x_istore2 eX1_twigsOf_31 rfl ?_
        refine x_iinc3 eX1_twigsOf_32 rfl ?_
        refine x_goto eX1_twigsOf_35 ?_
        exact ih hm
set_option maxRecDepth 4000 in
theorem t_X1_twigsOf {o : Int32} {p1 : Int32} (hm : sp_X1_twigsOf p1 o_size o_parent = some o) : xt_M yX1_twigsOf cX1_twigsOf 4 (some .int) (d + 1) [.ref 1, .int p1] (WX o_size o_year o_gone o_minds o_lasts r_size r_token r_place r_at r_open r_made t_size t_rule i_there i_rule i_size i_year i_gone i_minds i_lasts o_parent o_kind o_number o_odds o_above o_kidCount o_lead r_tape r_steps r_ends t_steps t_ends t_stack s_sort s_size s_items i_number i_odds x_prices x_facts x_laws x_clues) (xt_Ki o (WX o_size o_year o_gone o_minds o_lasts r_size r_token r_place r_at r_open r_made t_size t_rule i_there i_rule i_size i_year i_gone i_minds i_lasts o_parent o_kind o_number o_odds o_above o_kidCount o_lead r_tape r_steps r_ends t_steps t_ends t_stack s_sort s_size s_items i_number i_odds x_prices x_facts x_laws x_clues)) := by
  unfold sp_X1_twigsOf at hm
  refine xt_M.go (own := RX1) (lv := [some (.ref 1), some (.int p1), none, none]) rfl rfl (Nat.le_of_ble_eq_true rfl) rfl ?_
  refine x_k eX1_twigsOf_0 ?_
  refine x_istore2 eX1_twigsOf_1 rfl ?_
  refine x_k eX1_twigsOf_2 ?_
  refine x_istore3 eX1_twigsOf_3 rfl ?_
  exact l_X1_twigsOf_4 _ hm
set_option maxRecDepth 4000 in
theorem l_X1_kidSet_5 {o : Int32} {u1 : Int32} {u2 : Int32} {o_size : Int32} {o_parent : Nat → Int32} : ∀ (n : Nat) {u3 : Int32} {u4 : Int32}, sp_X1_kidSet_5 u1 u2 o_size o_parent n u3 u4 = some o → xt_T RX1 cX1_kidSet 5 (some .int) (d + 1) (xt_Ki o (WX o_size o_year o_gone o_minds o_lasts r_size r_token r_place r_at r_open r_made t_size t_rule i_there i_rule i_size i_year i_gone i_minds i_lasts o_parent o_kind o_number o_odds o_above o_kidCount o_lead r_tape r_steps r_ends t_steps t_ends t_stack s_sort s_size s_items i_number i_odds x_prices x_facts x_laws x_clues)) 5 [some (.ref 1), some (.int u1), some (.int u2), some (.int u3), some (.int u4)] [] (WX o_size o_year o_gone o_minds o_lasts r_size r_token r_place r_at r_open r_made t_size t_rule i_there i_rule i_size i_year i_gone i_minds i_lasts o_parent o_kind o_number o_odds o_above o_kidCount o_lead r_tape r_steps r_ends t_steps t_ends t_stack s_sort s_size s_items i_number i_odds x_prices x_facts x_laws x_clues) := by
  intro n
  induction n with
  | zero => intro u3 u4 hm; rw [sp_X1_kidSet_5] at hm; cases hm
  | succ n ih =>
    intro u3 u4 hm
    rw [sp_X1_kidSet_5] at hm
    refine x_iload4 eX1_kidSet_5 ?_
    refine x_aload0 eX1_kidSet_7 ?_
    refine x_get eX1_kidSet_8 fX1_9 rfl rfl ?_
    refine x_icmp_ge eX1_kidSet_11 (fun c => ?_) (fun c => ?_)
    · rw [if_pos c] at hm
      refine x_iload3 eX1_kidSet_48 ?_
      obtain rfl := Option.some.inj hm
      exact x_iret eX1_kidSet_49 ⟨rfl, rfl⟩
    · rw [if_neg c] at hm
      refine x_iload2 eX1_kidSet_14 ?_
      refine x_iload4 eX1_kidSet_15 ?_
      refine x_Ni2 eX1_kidSet_17 kX5_bit mX1_61 (t_X5_bit rfl) (Nat.le_of_ble_eq_true rfl) ?_
      refine x_k eX1_kidSet_20 ?_
      refine x_icmp_ne eX1_kidSet_21 (fun c => ?_) (fun c => ?_)
      · rw [if_neg c] at hm
        refine x_iinc4 eX1_kidSet_42 rfl ?_
        refine x_goto eX1_kidSet_45 ?_
        exact ih hm
      · rw [if_pos c] at hm
        refine x_aload0 eX1_kidSet_24 ?_
        refine x_get eX1_kidSet_25 fX1_27 rfl rfl ?_
        refine x_iload4 eX1_kidSet_28 ?_
        obtain ⟨v1, hv, hm⟩ := xo_bind hm
        obtain ⟨hi, rfl⟩ := xo_at_some hv
        refine x_iaload eX1_kidSet_30 rfl hi ?_
        refine x_iload1 eX1_kidSet_31 ?_
        refine x_icmp_ne eX1_kidSet_32 (fun c => ?_) (fun c => ?_)
        · rw [if_neg c] at hm
          refine x_iinc4 eX1_kidSet_42 rfl ?_
          refine x_goto eX1_kidSet_45 ?_
          exact ih hm
        · rw [if_pos c] at hm
          refine x_iload3 eX1_kidSet_35 ?_
          refine x_k eX1_kidSet_36 ?_
          refine x_iload4 eX1_kidSet_37 ?_
          refine x_ishl eX1_kidSet_39 ?_
          refine x_ior eX1_kidSet_40 ?_
          refine x_istore3 eX1_kidSet_41 rfl ?_
          refine x_iinc4 eX1_kidSet_42 rfl ?_
          refine x_goto eX1_kidSet_45 ?_
          exact ih hm
set_option maxRecDepth 4000 in
theorem t_X1_kidSet {o : Int32} {p1 : Int32} {p2 : Int32} (hm : sp_X1_kidSet p1 p2 o_size o_parent = some o) : xt_M yX1_kidSet cX1_kidSet 5 (some .int) (d + 1) [.ref 1, .int p1, .int p2] (WX o_size o_year o_gone o_minds o_lasts r_size r_token r_place r_at r_open r_made t_size t_rule i_there i_rule i_size i_year i_gone i_minds i_lasts o_parent o_kind o_number o_odds o_above o_kidCount o_lead r_tape r_steps r_ends t_steps t_ends t_stack s_sort s_size s_items i_number i_odds x_prices x_facts x_laws x_clues) (xt_Ki o (WX o_size o_year o_gone o_minds o_lasts r_size r_token r_place r_at r_open r_made t_size t_rule i_there i_rule i_size i_year i_gone i_minds i_lasts o_parent o_kind o_number o_odds o_above o_kidCount o_lead r_tape r_steps r_ends t_steps t_ends t_stack s_sort s_size s_items i_number i_odds x_prices x_facts x_laws x_clues)) := by
  unfold sp_X1_kidSet at hm
  refine xt_M.go (own := RX1) (lv := [some (.ref 1), some (.int p1), some (.int p2), none, none]) rfl rfl (Nat.le_of_ble_eq_true rfl) rfl ?_
  refine x_k eX1_kidSet_0 ?_
  refine x_istore3 eX1_kidSet_1 rfl ?_
  refine x_k eX1_kidSet_2 ?_
  refine x_istore4 eX1_kidSet_3 rfl ?_
  exact l_X1_kidSet_5 _ hm
set_option maxRecDepth 4000 in
theorem l_X1_isNested_2 {o : Int32} {u1 : Int32} {o_size : Int32} {o_above : Nat → Int32} : ∀ (n : Nat) {u2 : Int32}, sp_X1_isNested_2 u1 o_size o_above n u2 = some o → xt_T RX1 cX1_isNested 3 (some .boolean) (d + 1) (xt_Ki o (WX o_size o_year o_gone o_minds o_lasts r_size r_token r_place r_at r_open r_made t_size t_rule i_there i_rule i_size i_year i_gone i_minds i_lasts o_parent o_kind o_number o_odds o_above o_kidCount o_lead r_tape r_steps r_ends t_steps t_ends t_stack s_sort s_size s_items i_number i_odds x_prices x_facts x_laws x_clues)) 2 [some (.ref 1), some (.int u1), some (.int u2)] [] (WX o_size o_year o_gone o_minds o_lasts r_size r_token r_place r_at r_open r_made t_size t_rule i_there i_rule i_size i_year i_gone i_minds i_lasts o_parent o_kind o_number o_odds o_above o_kidCount o_lead r_tape r_steps r_ends t_steps t_ends t_stack s_sort s_size s_items i_number i_odds x_prices x_facts x_laws x_clues) := by
  intro n
  induction n with
  | zero => intro u2 hm; rw [sp_X1_isNested_2] at hm; cases hm
  | succ n ih =>
    intro u2 hm
    rw [sp_X1_isNested_2] at hm
    refine x_iload2 eX1_isNested_2 ?_
    refine x_aload0 eX1_isNested_3 ?_
    refine x_get eX1_isNested_4 fX1_9 rfl rfl ?_
    refine x_icmp_ge eX1_isNested_7 (fun c => ?_) (fun c => ?_)
    · rw [if_pos c] at hm
      refine x_k eX1_isNested_38 ?_
      obtain rfl := Option.some.inj hm
      exact x_zret eX1_isNested_39 (by decide) ⟨rfl, rfl⟩
    · rw [if_neg c] at hm
      refine x_iload1 eX1_isNested_10 ?_
      refine x_iload2 eX1_isNested_11 ?_
      refine x_Ni2 eX1_isNested_12 kX5_bit mX1_61 (t_X5_bit rfl) (Nat.le_of_ble_eq_true rfl) ?_
      refine x_k eX1_isNested_15 ?_
      refine x_icmp_ne eX1_isNested_16 (fun c => ?_) (fun c => ?_)
      · rw [if_neg c] at hm
        refine x_iinc2 eX1_isNested_32 rfl ?_
        refine x_goto eX1_isNested_35 ?_
        exact ih hm
      · rw [if_pos c] at hm
        refine x_aload0 eX1_isNested_19 ?_
        refine x_get eX1_isNested_20 fX1_40 rfl rfl ?_
        refine x_iload2 eX1_isNested_23 ?_
        obtain ⟨v1, hv, hm⟩ := xo_bind hm
        obtain ⟨hi, rfl⟩ := xo_at_some hv
        refine x_iaload eX1_isNested_24 rfl hi ?_
        refine x_iload1 eX1_isNested_25 ?_
        refine x_iand eX1_isNested_26 ?_
        refine x_if_eq eX1_isNested_27 (fun c => ?_) (fun c => ?_)
        · rw [if_pos c] at hm
          refine x_iinc2 eX1_isNested_32 rfl ?_
          refine x_goto eX1_isNested_35 ?_
          exact ih hm
        · rw [if_neg c] at hm
          refine x_k eX1_isNested_30 ?_
          obtain rfl := Option.some.inj hm
          exact x_zret eX1_isNested_31 (by decide) ⟨rfl, rfl⟩
set_option maxRecDepth 4000 in
theorem t_X1_isNested {o : Int32} {p1 : Int32} (hm : sp_X1_isNested p1 o_size o_above = some o) : xt_M yX1_isNested cX1_isNested 3 (some .boolean) (d + 1) [.ref 1, .int p1] (WX o_size o_year o_gone o_minds o_lasts r_size r_token r_place r_at r_open r_made t_size t_rule i_there i_rule i_size i_year i_gone i_minds i_lasts o_parent o_kind o_number o_odds o_above o_kidCount o_lead r_tape r_steps r_ends t_steps t_ends t_stack s_sort s_size s_items i_number i_odds x_prices x_facts x_laws x_clues) (xt_Ki o (WX o_size o_year o_gone o_minds o_lasts r_size r_token r_place r_at r_open r_made t_size t_rule i_there i_rule i_size i_year i_gone i_minds i_lasts o_parent o_kind o_number o_odds o_above o_kidCount o_lead r_tape r_steps r_ends t_steps t_ends t_stack s_sort s_size s_items i_number i_odds x_prices x_facts x_laws x_clues)) := by
  unfold sp_X1_isNested at hm
  refine xt_M.go (own := RX1) (lv := [some (.ref 1), some (.int p1), none]) rfl rfl (Nat.le_of_ble_eq_true rfl) rfl ?_
  refine x_k eX1_isNested_0 ?_
  refine x_istore2 eX1_isNested_1 rfl ?_
  exact l_X1_isNested_2 _ hm
set_option maxRecDepth 4000 in
theorem l_J7_fill_53178_p7_5 {o : (Nat → Int32)} {u1 : Int32} {u3 : Int32} : ∀ (n : Nat) {u2 : Int32} {o_kidCount : Nat → Int32}, sp_J7_fill_53178_p7_5 u1 u3 n u2 o_kidCount = some o → xt_T RJ7 cJ7_fill_53178 4 none (d + 0) (xt_Kv (WX o_size o_year o_gone o_minds o_lasts r_size r_token r_place r_at r_open r_made t_size t_rule i_there i_rule i_size i_year i_gone i_minds i_lasts o_parent o_kind o_number o_odds o_above o o_lead r_tape r_steps r_ends t_steps t_ends t_stack s_sort s_size s_items i_number i_odds x_prices x_facts x_laws x_clues)) 5 [some (.ref 7), some (.int u1), some (.int u2), some (.int u3)] [] (WX o_size o_year o_gone o_minds o_lasts r_size r_token r_place r_at r_open r_made t_size t_rule i_there i_rule i_size i_year i_gone i_minds i_lasts o_parent o_kind o_number o_odds o_above o_kidCount o_lead r_tape r_steps r_ends t_steps t_ends t_stack s_sort s_size s_items i_number i_odds x_prices x_facts x_laws x_clues) := by
  intro n
  induction n with
  | zero => intro u2 o_kidCount hm; rw [sp_J7_fill_53178_p7_5] at hm; cases hm
  | succ n ih =>
    intro u2 o_kidCount hm
    rw [sp_J7_fill_53178_p7_5] at hm
    refine x_iload2 eJ7_fill_53178_5 ?_
    refine x_iload3 eJ7_fill_53178_6 ?_
    refine x_icmp_ge eJ7_fill_53178_7 (fun c => ?_) (fun c => ?_)
    · rw [if_pos c] at hm
      obtain rfl := Option.some.inj hm
      exact x_vret eJ7_fill_53178_20 ⟨rfl, rfl⟩
    · rw [if_neg c] at hm
      refine x_aload0 eJ7_fill_53178_10 ?_
      refine x_iload2 eJ7_fill_53178_11 ?_
      refine x_iload1 eJ7_fill_53178_12 ?_
      obtain ⟨f1, hv, hm⟩ := xo_bind hm
      obtain ⟨hi, rfl⟩ := xo_set_some hv
      refine x_iastore (w' := WX _ _ _ _ _ _ _ _ _ _ _ _ _ _ _ _ _ _ _ _ _ _ _ _ _ _ _ _ _ _ _ _ _ _ _ _ _ _ _ _ _ _) eJ7_fill_53178_13 rfl hi rfl ?_
      refine x_iinc2 eJ7_fill_53178_14 rfl ?_
      refine x_goto eJ7_fill_53178_17 ?_
      exact ih hm
set_option maxRecDepth 4000 in
theorem t_J7_fill_53178_p7 {o : (Nat → Int32)} {p2 : Int32} (hm : sp_J7_fill_53178_p7 p2 o_kidCount = some o) : xt_M yJ7_fill_53178 cJ7_fill_53178 4 none (d + 0) [.ref 7, .int p2] (WX o_size o_year o_gone o_minds o_lasts r_size r_token r_place r_at r_open r_made t_size t_rule i_there i_rule i_size i_year i_gone i_minds i_lasts o_parent o_kind o_number o_odds o_above o_kidCount o_lead r_tape r_steps r_ends t_steps t_ends t_stack s_sort s_size s_items i_number i_odds x_prices x_facts x_laws x_clues) (xt_Kv (WX o_size o_year o_gone o_minds o_lasts r_size r_token r_place r_at r_open r_made t_size t_rule i_there i_rule i_size i_year i_gone i_minds i_lasts o_parent o_kind o_number o_odds o_above o o_lead r_tape r_steps r_ends t_steps t_ends t_stack s_sort s_size s_items i_number i_odds x_prices x_facts x_laws x_clues)) := by
  unfold sp_J7_fill_53178_p7 at hm
  refine xt_M.go (own := RJ7) (lv := [some (.ref 7), some (.int p2), none, none]) rfl rfl (Nat.le_of_ble_eq_true rfl) rfl ?_
  refine x_k eJ7_fill_53178_0 ?_
  refine x_istore2 eJ7_fill_53178_1 rfl ?_
  refine x_aload0 eJ7_fill_53178_2 ?_
  refine x_alen (v := 12) eJ7_fill_53178_3 rfl (by decide) ?_
  refine x_istore3 eJ7_fill_53178_4 rfl ?_
  exact l_J7_fill_53178_p7_5 _ hm
set_option maxRecDepth 4000 in
theorem l_J7_fill_53178_p8_5 {o : (Nat → Int32)} {u1 : Int32} {u3 : Int32} : ∀ (n : Nat) {u2 : Int32} {o_lead : Nat → Int32}, sp_J7_fill_53178_p8_5 u1 u3 n u2 o_lead = some o → xt_T RJ7 cJ7_fill_53178 4 none (d + 0) (xt_Kv (WX o_size o_year o_gone o_minds o_lasts r_size r_token r_place r_at r_open r_made t_size t_rule i_there i_rule i_size i_year i_gone i_minds i_lasts o_parent o_kind o_number o_odds o_above o_kidCount o r_tape r_steps r_ends t_steps t_ends t_stack s_sort s_size s_items i_number i_odds x_prices x_facts x_laws x_clues)) 5 [some (.ref 8), some (.int u1), some (.int u2), some (.int u3)] [] (WX o_size o_year o_gone o_minds o_lasts r_size r_token r_place r_at r_open r_made t_size t_rule i_there i_rule i_size i_year i_gone i_minds i_lasts o_parent o_kind o_number o_odds o_above o_kidCount o_lead r_tape r_steps r_ends t_steps t_ends t_stack s_sort s_size s_items i_number i_odds x_prices x_facts x_laws x_clues) := by
  intro n
  induction n with
  | zero => intro u2 o_lead hm; rw [sp_J7_fill_53178_p8_5] at hm; cases hm
  | succ n ih =>
    intro u2 o_lead hm
    rw [sp_J7_fill_53178_p8_5] at hm
    refine x_iload2 eJ7_fill_53178_5 ?_
    refine x_iload3 eJ7_fill_53178_6 ?_
    refine x_icmp_ge eJ7_fill_53178_7 (fun c => ?_) (fun c => ?_)
    · rw [if_pos c] at hm
      obtain rfl := Option.some.inj hm
      exact x_vret eJ7_fill_53178_20 ⟨rfl, rfl⟩
    · rw [if_neg c] at hm
      refine x_aload0 eJ7_fill_53178_10 ?_
      refine x_iload2 eJ7_fill_53178_11 ?_
      refine x_iload1 eJ7_fill_53178_12 ?_
      obtain ⟨f1, hv, hm⟩ := xo_bind hm
      obtain ⟨hi, rfl⟩ := xo_set_some hv
      refine x_iastore (w' := WX _ _ _ _ _ _ _ _ _ _ _ _ _ _ _ _ _ _ _ _ _ _ _ _ _ _ _ _ _ _ _ _ _ _ _ _ _ _ _ _ _ _) eJ7_fill_53178_13 rfl hi rfl ?_
      refine x_iinc2 eJ7_fill_53178_14 rfl ?_
      refine x_goto eJ7_fill_53178_17 ?_
      exact ih hm
set_option maxRecDepth 4000 in
theorem t_J7_fill_53178_p8 {o : (Nat → Int32)} {p2 : Int32} (hm : sp_J7_fill_53178_p8 p2 o_lead = some o) : xt_M yJ7_fill_53178 cJ7_fill_53178 4 none (d + 0) [.ref 8, .int p2] (WX o_size o_year o_gone o_minds o_lasts r_size r_token r_place r_at r_open r_made t_size t_rule i_there i_rule i_size i_year i_gone i_minds i_lasts o_parent o_kind o_number o_odds o_above o_kidCount o_lead r_tape r_steps r_ends t_steps t_ends t_stack s_sort s_size s_items i_number i_odds x_prices x_facts x_laws x_clues) (xt_Kv (WX o_size o_year o_gone o_minds o_lasts r_size r_token r_place r_at r_open r_made t_size t_rule i_there i_rule i_size i_year i_gone i_minds i_lasts o_parent o_kind o_number o_odds o_above o_kidCount o r_tape r_steps r_ends t_steps t_ends t_stack s_sort s_size s_items i_number i_odds x_prices x_facts x_laws x_clues)) := by
  unfold sp_J7_fill_53178_p8 at hm
  refine xt_M.go (own := RJ7) (lv := [some (.ref 8), some (.int p2), none, none]) rfl rfl (Nat.le_of_ble_eq_true rfl) rfl ?_
  refine x_k eJ7_fill_53178_0 ?_
  refine x_istore2 eJ7_fill_53178_1 rfl ?_
  refine x_aload0 eJ7_fill_53178_2 ?_
  refine x_alen (v := 12) eJ7_fill_53178_3 rfl (by decide) ?_
  refine x_istore3 eJ7_fill_53178_4 rfl ?_
  exact l_J7_fill_53178_p8_5 _ hm
set_option maxRecDepth 4000 in
theorem t_X1_whenEven {o : Int32} {p1 : Int32} (hm : sp_X1_whenEven p1 o_lasts o_kind o_number = some o) : xt_M yX1_whenEven cX1_whenEven 3 (some .int) (d + 1) [.ref 1, .int p1] (WX o_size o_year o_gone o_minds o_lasts r_size r_token r_place r_at r_open r_made t_size t_rule i_there i_rule i_size i_year i_gone i_minds i_lasts o_parent o_kind o_number o_odds o_above o_kidCount o_lead r_tape r_steps r_ends t_steps t_ends t_stack s_sort s_size s_items i_number i_odds x_prices x_facts x_laws x_clues) (xt_Ki o (WX o_size o_year o_gone o_minds o_lasts r_size r_token r_place r_at r_open r_made t_size t_rule i_there i_rule i_size i_year i_gone i_minds i_lasts o_parent o_kind o_number o_odds o_above o_kidCount o_lead r_tape r_steps r_ends t_steps t_ends t_stack s_sort s_size s_items i_number i_odds x_prices x_facts x_laws x_clues)) := by
  unfold sp_X1_whenEven at hm
  refine xt_M.go (own := RX1) (lv := [some (.ref 1), some (.int p1), none]) rfl rfl (Nat.le_of_ble_eq_true rfl) rfl ?_
  refine x_aload0 eX1_whenEven_0 ?_
  refine x_get eX1_whenEven_1 fX1_24 rfl rfl ?_
  refine x_iload1 eX1_whenEven_4 ?_
  refine x_Ni2 eX1_whenEven_5 kX5_bit mX1_61 (t_X5_bit rfl) (Nat.le_of_ble_eq_true rfl) ?_
  refine x_istore2 eX1_whenEven_8 rfl ?_
  refine x_aload0 eX1_whenEven_9 ?_
  refine x_get eX1_whenEven_10 fX1_31 rfl rfl ?_
  refine x_iload1 eX1_whenEven_13 ?_
  obtain ⟨v1, hv, hm⟩ := xo_bind hm
  obtain ⟨hi, rfl⟩ := xo_at_some hv
  refine x_iaload eX1_whenEven_14 rfl hi ?_
  refine x_sw eX1_whenEven_15 (xt_sw_cons (fun c => ?_) (fun d0 => (xt_sw_cons (fun c => ?_) (fun d1 => (xt_sw_cons (fun c => ?_) (fun d2 => (xt_sw_cons (fun c => ?_) (fun d3 => (xt_sw_cons (fun c => ?_) (fun d4 => (xt_sw_nil ?_)))))))))))
  · rw [if_pos c] at hm
    refine x_k eX1_whenEven_48 ?_
    obtain rfl := Option.some.inj hm
    exact x_iret eX1_whenEven_49 ⟨rfl, rfl⟩
  · rw [if_neg d0, if_pos c] at hm
    refine x_k eX1_whenEven_59 ?_
    refine x_iload2 eX1_whenEven_60 ?_
    refine x_isub eX1_whenEven_61 ?_
    obtain rfl := Option.some.inj hm
    exact x_iret eX1_whenEven_62 ⟨rfl, rfl⟩
  · rw [if_neg d0, if_neg d1, if_pos c] at hm
    refine x_aload0 eX1_whenEven_50 ?_
    refine x_get eX1_whenEven_51 fX1_34 rfl rfl ?_
    refine x_iload1 eX1_whenEven_54 ?_
    obtain ⟨v2, hv, hm⟩ := xo_bind hm
    obtain ⟨hi, rfl⟩ := xo_at_some hv
    refine x_iaload eX1_whenEven_55 rfl hi ?_
    refine x_k eX1_whenEven_56 ?_
    refine x_irem eX1_whenEven_57 (by decide) ?_
    obtain rfl := Option.some.inj hm
    exact x_iret eX1_whenEven_58 ⟨rfl, rfl⟩
  · rw [if_neg d0, if_neg d1, if_neg d2, if_pos c] at hm
    refine x_k eX1_whenEven_59 ?_
    refine x_iload2 eX1_whenEven_60 ?_
    refine x_isub eX1_whenEven_61 ?_
    obtain rfl := Option.some.inj hm
    exact x_iret eX1_whenEven_62 ⟨rfl, rfl⟩
  · rw [if_neg d0, if_neg d1, if_neg d2, if_neg d3, if_pos c] at hm
    refine x_k eX1_whenEven_59 ?_
    refine x_iload2 eX1_whenEven_60 ?_
    refine x_isub eX1_whenEven_61 ?_
    obtain rfl := Option.some.inj hm
    exact x_iret eX1_whenEven_62 ⟨rfl, rfl⟩
  · rw [if_neg d0, if_neg d1, if_neg d2, if_neg d3, if_neg d4] at hm
    refine x_iload2 eX1_whenEven_63 ?_
    obtain rfl := Option.some.inj hm
    exact x_iret eX1_whenEven_64 ⟨rfl, rfl⟩
set_option maxRecDepth 4000 in
theorem t_X1_goesByKids {o : Int32} {p1 : Int32} (hm : sp_X1_goesByKids p1 o_lasts o_kind o_number o_lead = some o) : xt_M yX1_goesByKids cX1_goesByKids 2 (some .int) (d + 2) [.ref 1, .int p1] (WX o_size o_year o_gone o_minds o_lasts r_size r_token r_place r_at r_open r_made t_size t_rule i_there i_rule i_size i_year i_gone i_minds i_lasts o_parent o_kind o_number o_odds o_above o_kidCount o_lead r_tape r_steps r_ends t_steps t_ends t_stack s_sort s_size s_items i_number i_odds x_prices x_facts x_laws x_clues) (xt_Ki o (WX o_size o_year o_gone o_minds o_lasts r_size r_token r_place r_at r_open r_made t_size t_rule i_there i_rule i_size i_year i_gone i_minds i_lasts o_parent o_kind o_number o_odds o_above o_kidCount o_lead r_tape r_steps r_ends t_steps t_ends t_stack s_sort s_size s_items i_number i_odds x_prices x_facts x_laws x_clues)) := by
  unfold sp_X1_goesByKids at hm
  refine xt_M.go (own := RX1) (lv := [some (.ref 1), some (.int p1)]) rfl rfl (Nat.le_of_ble_eq_true rfl) rfl ?_
  refine x_aload0 eX1_goesByKids_0 ?_
  refine x_get eX1_goesByKids_1 fX1_46 rfl rfl ?_
  refine x_iload1 eX1_goesByKids_4 ?_
  obtain ⟨v1, hv, hm⟩ := xo_bind hm
  obtain ⟨hi, rfl⟩ := xo_at_some hv
  refine x_iaload eX1_goesByKids_5 rfl hi ?_
  refine x_if_eq eX1_goesByKids_6 (fun c => ?_) (fun c => ?_)
  · rw [if_pos c] at hm
    refine x_aload0 eX1_goesByKids_24 ?_
    refine x_iload1 eX1_goesByKids_25 ?_
    obtain ⟨r2, hr, hm⟩ := xo_bind hm
    refine x_Vi1 eX1_goesByKids_26 kX1_whenEven mX1_81 (t_X1_whenEven hr) rfl (Nat.le_of_ble_eq_true rfl) ?_
    obtain rfl := Option.some.inj hm
    exact x_iret eX1_goesByKids_29 ⟨rfl, rfl⟩
  · rw [if_neg c] at hm
    refine x_aload0 eX1_goesByKids_9 ?_
    refine x_get eX1_goesByKids_10 fX1_46 rfl rfl ?_
    refine x_iload1 eX1_goesByKids_13 ?_
    obtain ⟨v3, hv, hm⟩ := xo_bind hm
    obtain ⟨hi, rfl⟩ := xo_at_some hv
    refine x_iaload eX1_goesByKids_14 rfl hi ?_
    refine x_if_le eX1_goesByKids_15 (fun c => ?_) (fun c => ?_)
    · rw [if_pos c] at hm
      refine x_k eX1_goesByKids_22 ?_
      obtain rfl := Option.some.inj hm
      exact x_iret eX1_goesByKids_23 ⟨rfl, rfl⟩
    · rw [if_neg c] at hm
      refine x_k eX1_goesByKids_18 ?_
      refine x_goto eX1_goesByKids_19 ?_
      obtain rfl := Option.some.inj hm
      exact x_iret eX1_goesByKids_23 ⟨rfl, rfl⟩
set_option maxRecDepth 4000 in
theorem t_X1_weight {o : Int32} {p1 : Int32} {p2 : Int32} (hm : sp_X1_weight p1 p2 o_kind o_number = some o) : xt_M yX1_weight cX1_weight 4 (some .int) (d + 0) [.ref 1, .int p1, .int p2] (WX o_size o_year o_gone o_minds o_lasts r_size r_token r_place r_at r_open r_made t_size t_rule i_there i_rule i_size i_year i_gone i_minds i_lasts o_parent o_kind o_number o_odds o_above o_kidCount o_lead r_tape r_steps r_ends t_steps t_ends t_stack s_sort s_size s_items i_number i_odds x_prices x_facts x_laws x_clues) (xt_Ki o (WX o_size o_year o_gone o_minds o_lasts r_size r_token r_place r_at r_open r_made t_size t_rule i_there i_rule i_size i_year i_gone i_minds i_lasts o_parent o_kind o_number o_odds o_above o_kidCount o_lead r_tape r_steps r_ends t_steps t_ends t_stack s_sort s_size s_items i_number i_odds x_prices x_facts x_laws x_clues)) := by
  unfold sp_X1_weight at hm
  refine xt_M.go (own := RX1) (lv := [some (.ref 1), some (.int p1), some (.int p2), none]) rfl rfl (Nat.le_of_ble_eq_true rfl) rfl ?_
  refine x_iload2 eX1_weight_0 ?_
  refine x_aload0 eX1_weight_1 ?_
  refine x_get eX1_weight_2 fX1_34 rfl rfl ?_
  refine x_iload1 eX1_weight_5 ?_
  obtain ⟨v1, hv, hm⟩ := xo_bind hm
  obtain ⟨hi, rfl⟩ := xo_at_some hv
  refine x_iaload eX1_weight_6 rfl hi ?_
  refine x_icmp_le eX1_weight_7 (fun c => ?_) (fun c => ?_)
  · rw [if_pos c] at hm
    refine x_k eX1_weight_14 ?_
    refine x_istore3 eX1_weight_15 rfl ?_
    refine x_aload0 eX1_weight_16 ?_
    refine x_get eX1_weight_17 fX1_31 rfl rfl ?_
    refine x_iload1 eX1_weight_20 ?_
    obtain ⟨v2, hv, hm⟩ := xo_bind hm
    obtain ⟨hi, rfl⟩ := xo_at_some hv
    refine x_iaload eX1_weight_21 rfl hi ?_
    refine x_sw eX1_weight_22 (xt_sw_cons (fun c => ?_) (fun d0 => (xt_sw_cons (fun c => ?_) (fun d1 => (xt_sw_cons (fun c => ?_) (fun d2 => (xt_sw_cons (fun c => ?_) (fun d3 => (xt_sw_nil ?_)))))))))
    · rw [if_pos c] at hm
      refine x_iload3 eX1_weight_52 ?_
      obtain rfl := Option.some.inj hm
      exact x_iret eX1_weight_53 ⟨rfl, rfl⟩
    · rw [if_neg d0, if_pos c] at hm
      refine x_k eX1_weight_54 ?_
      obtain rfl := Option.some.inj hm
      exact x_iret eX1_weight_55 ⟨rfl, rfl⟩
    · rw [if_neg d0, if_neg d1, if_pos c] at hm
      refine x_iload3 eX1_weight_56 ?_
      refine x_iload2 eX1_weight_57 ?_
      refine x_k eX1_weight_58 ?_
      refine x_idiv eX1_weight_59 (by decide) ?_
      refine x_iadd eX1_weight_60 ?_
      obtain rfl := Option.some.inj hm
      exact x_iret eX1_weight_61 ⟨rfl, rfl⟩
    · rw [if_neg d0, if_neg d1, if_neg d2, if_pos c] at hm
      refine x_k eX1_weight_62 ?_
      obtain rfl := Option.some.inj hm
      exact x_iret eX1_weight_63 ⟨rfl, rfl⟩
    · rw [if_neg d0, if_neg d1, if_neg d2, if_neg d3] at hm
      refine x_k eX1_weight_64 ?_
      obtain rfl := Option.some.inj hm
      exact x_iret eX1_weight_65 ⟨rfl, rfl⟩
  · rw [if_neg c] at hm
    refine x_k eX1_weight_10 ?_
    refine x_goto eX1_weight_11 ?_
    refine x_istore3 eX1_weight_15 rfl ?_
    refine x_aload0 eX1_weight_16 ?_
    refine x_get eX1_weight_17 fX1_31 rfl rfl ?_
    refine x_iload1 eX1_weight_20 ?_
    obtain ⟨v3, hv, hm⟩ := xo_bind hm
    obtain ⟨hi, rfl⟩ := xo_at_some hv
    refine x_iaload eX1_weight_21 rfl hi ?_
    refine x_sw eX1_weight_22 (xt_sw_cons (fun c => ?_) (fun d0 => (xt_sw_cons (fun c => ?_) (fun d1 => (xt_sw_cons (fun c => ?_) (fun d2 => (xt_sw_cons (fun c => ?_) (fun d3 => (xt_sw_nil ?_)))))))))
    · rw [if_pos c] at hm
      refine x_iload3 eX1_weight_52 ?_
      obtain rfl := Option.some.inj hm
      exact x_iret eX1_weight_53 ⟨rfl, rfl⟩
    · rw [if_neg d0, if_pos c] at hm
      refine x_k eX1_weight_54 ?_
      obtain rfl := Option.some.inj hm
      exact x_iret eX1_weight_55 ⟨rfl, rfl⟩
    · rw [if_neg d0, if_neg d1, if_pos c] at hm
      refine x_iload3 eX1_weight_56 ?_
      refine x_iload2 eX1_weight_57 ?_
      refine x_k eX1_weight_58 ?_
      refine x_idiv eX1_weight_59 (by decide) ?_
      refine x_iadd eX1_weight_60 ?_
      obtain rfl := Option.some.inj hm
      exact x_iret eX1_weight_61 ⟨rfl, rfl⟩
    · rw [if_neg d0, if_neg d1, if_neg d2, if_pos c] at hm
      refine x_k eX1_weight_62 ?_
      obtain rfl := Option.some.inj hm
      exact x_iret eX1_weight_63 ⟨rfl, rfl⟩
    · rw [if_neg d0, if_neg d1, if_neg d2, if_neg d3] at hm
      refine x_k eX1_weight_64 ?_
      obtain rfl := Option.some.inj hm
      exact x_iret eX1_weight_65 ⟨rfl, rfl⟩
set_option maxRecDepth 4000 in
theorem l_X1_vote_26 {o : Int32 × (Nat → Int32) × (Nat → Int32)} {u1 : Int32} {u2 : Int32} {o_lasts : Int32} {o_parent : Nat → Int32} {o_kind : Nat → Int32} {o_number : Nat → Int32} : ∀ (n : Nat) {u3 : Int32} {u4 : Int32} {o_kidCount : Nat → Int32} {o_lead : Nat → Int32}, sp_X1_vote_26 u1 u2 o_lasts o_parent o_kind o_number n u3 u4 o_kidCount o_lead = some o → xt_T RX1 cX1_vote 8 (some .int) (d + 3) (xt_Ki o.1 (WX o_size o_year o_gone o_minds o_lasts r_size r_token r_place r_at r_open r_made t_size t_rule i_there i_rule i_size i_year i_gone i_minds i_lasts o_parent o_kind o_number o_odds o_above o.2.1 o.2.2 r_tape r_steps r_ends t_steps t_ends t_stack s_sort s_size s_items i_number i_odds x_prices x_facts x_laws x_clues)) 26 [some (.ref 1), some (.int u1), some (.int u2), some (.int u3), some (.int u4), none, none, none] [] (WX o_size o_year o_gone o_minds o_lasts r_size r_token r_place r_at r_open r_made t_size t_rule i_there i_rule i_size i_year i_gone i_minds i_lasts o_parent o_kind o_number o_odds o_above o_kidCount o_lead r_tape r_steps r_ends t_steps t_ends t_stack s_sort s_size s_items i_number i_odds x_prices x_facts x_laws x_clues) := by
  intro n
  induction n with
  | zero => intro u3 u4 o_kidCount o_lead hm; rw [sp_X1_vote_26] at hm; cases hm
  | succ n ih =>
    intro u3 u4 o_kidCount o_lead hm
    rw [sp_X1_vote_26] at hm
    refine x_iload4 eX1_vote_26 ?_
    refine x_if_le eX1_vote_28 (fun c => ?_) (fun c => ?_)
    · rw [if_pos c] at hm
      refine x_iload3 eX1_vote_141 ?_
      refine x_aload0 eX1_vote_142 ?_
      refine x_k eX1_vote_143 ?_
      obtain ⟨r3, hr, hm⟩ := xo_bind hm
      refine x_Vi1 eX1_vote_144 kX1_goesByKids mX1_75 (t_X1_goesByKids hr) rfl (Nat.le_of_ble_eq_true rfl) ?_
      refine x_ior eX1_vote_147 ?_
      obtain rfl := Option.some.inj hm
      exact x_iret eX1_vote_148 ⟨rfl, rfl⟩
    · rw [if_neg c] at hm
      refine x_iload1 eX1_vote_31 ?_
      refine x_iload4 eX1_vote_32 ?_
      refine x_Ni2 eX1_vote_34 kX5_bit mX1_61 (t_X5_bit rfl) (Nat.le_of_ble_eq_true rfl) ?_
      refine x_k eX1_vote_37 ?_
      refine x_icmp_ne eX1_vote_38 (fun c => ?_) (fun c => ?_)
      · rw [if_neg c] at hm
        refine x_iinc4 eX1_vote_135 rfl ?_
        refine x_goto eX1_vote_138 ?_
        exact ih hm
      · rw [if_pos c] at hm
        refine x_aload0 eX1_vote_41 ?_
        refine x_get eX1_vote_42 fX1_43 rfl rfl ?_
        refine x_iload4 eX1_vote_45 ?_
        obtain ⟨v4, hv, hm⟩ := xo_bind hm
        obtain ⟨hi, rfl⟩ := xo_at_some hv
        refine x_iaload eX1_vote_47 rfl hi ?_
        refine x_if_ne eX1_vote_48 (fun c => ?_) (fun c => ?_)
        · rw [if_neg c] at hm
          refine x_aload0 eX1_vote_60 ?_
          refine x_iload4 eX1_vote_61 ?_
          obtain ⟨r5, hr, hm⟩ := xo_bind hm
          refine x_Vi1 eX1_vote_63 kX1_goesByKids mX1_75 (t_X1_goesByKids hr) rfl (Nat.le_of_ble_eq_true rfl) ?_
          refine x_istore5 eX1_vote_66 rfl ?_
          refine x_aload0 eX1_vote_68 ?_
          refine x_iload4 eX1_vote_69 ?_
          refine x_aload0 eX1_vote_71 ?_
          refine x_get eX1_vote_72 fX1_43 rfl rfl ?_
          refine x_iload4 eX1_vote_75 ?_
          obtain ⟨v6, hv, hm⟩ := xo_bind hm
          obtain ⟨hi, rfl⟩ := xo_at_some hv
          refine x_iaload eX1_vote_77 rfl hi ?_
          obtain ⟨r7, hr, hm⟩ := xo_bind hm
          refine x_Vi2 eX1_vote_78 kX1_weight mX1_78 (t_X1_weight hr) rfl (Nat.le_of_ble_eq_true rfl) ?_
          refine x_istore6 eX1_vote_81 rfl ?_
          refine x_aload0 eX1_vote_83 ?_
          refine x_get eX1_vote_84 fX1_27 rfl rfl ?_
          refine x_iload4 eX1_vote_87 ?_
          obtain ⟨v8, hv, hm⟩ := xo_bind hm
          obtain ⟨hi, rfl⟩ := xo_at_some hv
          refine x_iaload eX1_vote_89 rfl hi ?_
          refine x_istore7 eX1_vote_90 rfl ?_
          refine x_aload0 eX1_vote_92 ?_
          refine x_get eX1_vote_93 fX1_43 rfl rfl ?_
          refine x_iload7 eX1_vote_96 ?_
          refine x_dup2 eX1_vote_98 rfl rfl ?_
          obtain ⟨v9, hv, hm⟩ := xo_bind hm
          obtain ⟨hi, rfl⟩ := xo_at_some hv
          refine x_iaload eX1_vote_99 rfl hi ?_
          refine x_k eX1_vote_100 ?_
          refine x_iadd eX1_vote_101 ?_
          obtain ⟨f10, hv, hm⟩ := xo_bind hm
          obtain ⟨hi, rfl⟩ := xo_set_some hv
          refine x_iastore (w' := WX _ _ _ _ _ _ _ _ _ _ _ _ _ _ _ _ _ _ _ _ _ _ _ _ _ _ _ _ _ _ _ _ _ _ _ _ _ _ _ _ _ _) eX1_vote_102 rfl hi rfl ?_
          refine x_aload0 eX1_vote_103 ?_
          refine x_get eX1_vote_104 fX1_46 rfl rfl ?_
          refine x_iload7 eX1_vote_107 ?_
          refine x_dup2 eX1_vote_109 rfl rfl ?_
          obtain ⟨v11, hv, hm⟩ := xo_bind hm
          obtain ⟨hi, rfl⟩ := xo_at_some hv
          refine x_iaload eX1_vote_110 rfl hi ?_
          refine x_iload5 eX1_vote_111 ?_
          refine x_k eX1_vote_113 ?_
          refine x_icmp_ne eX1_vote_114 (fun c => ?_) (fun c => ?_)
          · rw [if_neg c] at hm
            refine x_iload6 eX1_vote_122 ?_
            refine x_ineg eX1_vote_124 ?_
            refine x_iadd eX1_vote_125 ?_
            obtain ⟨f12, hv, hm⟩ := xo_bind hm
            obtain ⟨hi, rfl⟩ := xo_set_some hv
            refine x_iastore (w' := WX _ _ _ _ _ _ _ _ _ _ _ _ _ _ _ _ _ _ _ _ _ _ _ _ _ _ _ _ _ _ _ _ _ _ _ _ _ _ _ _ _ _) eX1_vote_126 rfl hi rfl ?_
            refine x_iload3 eX1_vote_127 ?_
            refine x_iload5 eX1_vote_128 ?_
            refine x_iload4 eX1_vote_130 ?_
            refine x_ishl eX1_vote_132 ?_
            refine x_ior eX1_vote_133 ?_
            refine x_istore3 eX1_vote_134 rfl ?_
            refine x_iinc4 eX1_vote_135 rfl ?_
            refine x_goto eX1_vote_138 ?_
            exact x_weak (by simp [xt_le]) (ih hm)
          · rw [if_pos c] at hm
            refine x_iload6 eX1_vote_117 ?_
            refine x_goto eX1_vote_119 ?_
            refine x_iadd eX1_vote_125 ?_
            obtain ⟨f13, hv, hm⟩ := xo_bind hm
            obtain ⟨hi, rfl⟩ := xo_set_some hv
            refine x_iastore (w' := WX _ _ _ _ _ _ _ _ _ _ _ _ _ _ _ _ _ _ _ _ _ _ _ _ _ _ _ _ _ _ _ _ _ _ _ _ _ _ _ _ _ _) eX1_vote_126 rfl hi rfl ?_
            refine x_iload3 eX1_vote_127 ?_
            refine x_iload5 eX1_vote_128 ?_
            refine x_iload4 eX1_vote_130 ?_
            refine x_ishl eX1_vote_132 ?_
            refine x_ior eX1_vote_133 ?_
            refine x_istore3 eX1_vote_134 rfl ?_
            refine x_iinc4 eX1_vote_135 rfl ?_
            refine x_goto eX1_vote_138 ?_
            exact x_weak (by simp [xt_le]) (ih hm)
        · rw [if_pos c] at hm
          refine x_iload2 eX1_vote_51 ?_
          refine x_iload4 eX1_vote_52 ?_
          refine x_Ni2 eX1_vote_54 kX5_bit mX1_61 (t_X5_bit rfl) (Nat.le_of_ble_eq_true rfl) ?_
          refine x_goto eX1_vote_57 ?_
          refine x_istore5 eX1_vote_66 rfl ?_
          refine x_aload0 eX1_vote_68 ?_
          refine x_iload4 eX1_vote_69 ?_
          refine x_aload0 eX1_vote_71 ?_
          refine x_get eX1_vote_72 fX1_43 rfl rfl ?_
          refine x_iload4 eX1_vote_75 ?_
          obtain ⟨v14, hv, hm⟩ := xo_bind hm
          obtain ⟨hi, rfl⟩ := xo_at_some hv
          refine x_iaload eX1_vote_77 rfl hi ?_
          obtain ⟨r15, hr, hm⟩ := xo_bind hm
          refine x_Vi2 eX1_vote_78 kX1_weight mX1_78 (t_X1_weight hr) rfl (Nat.le_of_ble_eq_true rfl) ?_
          refine x_istore6 eX1_vote_81 rfl ?_
          refine x_aload0 eX1_vote_83 ?_
          refine x_get eX1_vote_84 fX1_27 rfl rfl ?_
          refine x_iload4 eX1_vote_87 ?_
          obtain ⟨v16, hv, hm⟩ := xo_bind hm
          obtain ⟨hi, rfl⟩ := xo_at_some hv
          refine x_iaload eX1_vote_89 rfl hi ?_
          refine x_istore7 eX1_vote_90 rfl ?_
          refine x_aload0 eX1_vote_92 ?_
          refine x_get eX1_vote_93 fX1_43 rfl rfl ?_
          refine x_iload7 eX1_vote_96 ?_
          refine x_dup2 eX1_vote_98 rfl rfl ?_
          obtain ⟨v17, hv, hm⟩ := xo_bind hm
          obtain ⟨hi, rfl⟩ := xo_at_some hv
          refine x_iaload eX1_vote_99 rfl hi ?_
          refine x_k eX1_vote_100 ?_
          refine x_iadd eX1_vote_101 ?_
          obtain ⟨f18, hv, hm⟩ := xo_bind hm
          obtain ⟨hi, rfl⟩ := xo_set_some hv
          refine x_iastore (w' := WX _ _ _ _ _ _ _ _ _ _ _ _ _ _ _ _ _ _ _ _ _ _ _ _ _ _ _ _ _ _ _ _ _ _ _ _ _ _ _ _ _ _) eX1_vote_102 rfl hi rfl ?_
          refine x_aload0 eX1_vote_103 ?_
          refine x_get eX1_vote_104 fX1_46 rfl rfl ?_
          refine x_iload7 eX1_vote_107 ?_
          refine x_dup2 eX1_vote_109 rfl rfl ?_
          obtain ⟨v19, hv, hm⟩ := xo_bind hm
          obtain ⟨hi, rfl⟩ := xo_at_some hv
          refine x_iaload eX1_vote_110 rfl hi ?_
          refine x_iload5 eX1_vote_111 ?_
          refine x_k eX1_vote_113 ?_
          refine x_icmp_ne eX1_vote_114 (fun c => ?_) (fun c => ?_)
          · rw [if_neg c] at hm
            refine x_iload6 eX1_vote_122 ?_
            refine x_ineg eX1_vote_124 ?_
            refine x_iadd eX1_vote_125 ?_
            obtain ⟨f20, hv, hm⟩ := xo_bind hm
            obtain ⟨hi, rfl⟩ := xo_set_some hv
            refine x_iastore (w' := WX _ _ _ _ _ _ _ _ _ _ _ _ _ _ _ _ _ _ _ _ _ _ _ _ _ _ _ _ _ _ _ _ _ _ _ _ _ _ _ _ _ _) eX1_vote_126 rfl hi rfl ?_
            refine x_iload3 eX1_vote_127 ?_
            refine x_iload5 eX1_vote_128 ?_
            refine x_iload4 eX1_vote_130 ?_
            refine x_ishl eX1_vote_132 ?_
            refine x_ior eX1_vote_133 ?_
            refine x_istore3 eX1_vote_134 rfl ?_
            refine x_iinc4 eX1_vote_135 rfl ?_
            refine x_goto eX1_vote_138 ?_
            exact x_weak (by simp [xt_le]) (ih hm)
          · rw [if_pos c] at hm
            refine x_iload6 eX1_vote_117 ?_
            refine x_goto eX1_vote_119 ?_
            refine x_iadd eX1_vote_125 ?_
            obtain ⟨f21, hv, hm⟩ := xo_bind hm
            obtain ⟨hi, rfl⟩ := xo_set_some hv
            refine x_iastore (w' := WX _ _ _ _ _ _ _ _ _ _ _ _ _ _ _ _ _ _ _ _ _ _ _ _ _ _ _ _ _ _ _ _ _ _ _ _ _ _ _ _ _ _) eX1_vote_126 rfl hi rfl ?_
            refine x_iload3 eX1_vote_127 ?_
            refine x_iload5 eX1_vote_128 ?_
            refine x_iload4 eX1_vote_130 ?_
            refine x_ishl eX1_vote_132 ?_
            refine x_ior eX1_vote_133 ?_
            refine x_istore3 eX1_vote_134 rfl ?_
            refine x_iinc4 eX1_vote_135 rfl ?_
            refine x_goto eX1_vote_138 ?_
            exact x_weak (by simp [xt_le]) (ih hm)
set_option maxRecDepth 4000 in
theorem t_X1_vote {o : Int32 × (Nat → Int32) × (Nat → Int32)} {p1 : Int32} {p2 : Int32} (hm : sp_X1_vote p1 p2 o_size o_lasts o_parent o_kind o_number o_kidCount o_lead = some o) : xt_M yX1_vote cX1_vote 8 (some .int) (d + 3) [.ref 1, .int p1, .int p2] (WX o_size o_year o_gone o_minds o_lasts r_size r_token r_place r_at r_open r_made t_size t_rule i_there i_rule i_size i_year i_gone i_minds i_lasts o_parent o_kind o_number o_odds o_above o_kidCount o_lead r_tape r_steps r_ends t_steps t_ends t_stack s_sort s_size s_items i_number i_odds x_prices x_facts x_laws x_clues) (xt_Ki o.1 (WX o_size o_year o_gone o_minds o_lasts r_size r_token r_place r_at r_open r_made t_size t_rule i_there i_rule i_size i_year i_gone i_minds i_lasts o_parent o_kind o_number o_odds o_above o.2.1 o.2.2 r_tape r_steps r_ends t_steps t_ends t_stack s_sort s_size s_items i_number i_odds x_prices x_facts x_laws x_clues)) := by
  unfold sp_X1_vote at hm
  refine xt_M.go (own := RX1) (lv := [some (.ref 1), some (.int p1), some (.int p2), none, none, none, none, none]) rfl rfl (Nat.le_of_ble_eq_true rfl) rfl ?_
  refine x_aload0 eX1_vote_0 ?_
  refine x_get eX1_vote_1 fX1_43 rfl rfl ?_
  refine x_k eX1_vote_4 ?_
  obtain ⟨r1, hr, hm⟩ := xo_bind hm
  refine x_Sv2 eX1_vote_5 kJ7_fill_53178 mX1_69 (t_J7_fill_53178_p7 hr) (Nat.le_of_ble_eq_true rfl) ?_
  refine x_aload0 eX1_vote_8 ?_
  refine x_get eX1_vote_9 fX1_46 rfl rfl ?_
  refine x_k eX1_vote_12 ?_
  obtain ⟨r2, hr, hm⟩ := xo_bind hm
  refine x_Sv2 eX1_vote_13 kJ7_fill_53178 mX1_69 (t_J7_fill_53178_p8 hr) (Nat.le_of_ble_eq_true rfl) ?_
  refine x_k eX1_vote_16 ?_
  refine x_istore3 eX1_vote_17 rfl ?_
  refine x_aload0 eX1_vote_18 ?_
  refine x_get eX1_vote_19 fX1_9 rfl rfl ?_
  refine x_k eX1_vote_22 ?_
  refine x_isub eX1_vote_23 ?_
  refine x_istore4 eX1_vote_24 rfl ?_
  exact l_X1_vote_26 _ hm
set_option maxRecDepth 4000 in
theorem t_J6_bitCount_0f7a4 {o : Int32} {p1 : Int32} (hm : sp_J6_bitCount_0f7a4 p1 = o) : xt_M yJ6_bitCount_0f7a4 cJ6_bitCount_0f7a4 1 (some .int) (d + 0) [.int p1] (WX o_size o_year o_gone o_minds o_lasts r_size r_token r_place r_at r_open r_made t_size t_rule i_there i_rule i_size i_year i_gone i_minds i_lasts o_parent o_kind o_number o_odds o_above o_kidCount o_lead r_tape r_steps r_ends t_steps t_ends t_stack s_sort s_size s_items i_number i_odds x_prices x_facts x_laws x_clues) (xt_Ki o (WX o_size o_year o_gone o_minds o_lasts r_size r_token r_place r_at r_open r_made t_size t_rule i_there i_rule i_size i_year i_gone i_minds i_lasts o_parent o_kind o_number o_odds o_above o_kidCount o_lead r_tape r_steps r_ends t_steps t_ends t_stack s_sort s_size s_items i_number i_odds x_prices x_facts x_laws x_clues)) := by
  unfold sp_J6_bitCount_0f7a4 at hm
  refine xt_M.go (own := RJ6) (lv := [some (.int p1)]) rfl rfl (Nat.le_of_ble_eq_true rfl) rfl ?_
  refine x_iload0 eJ6_bitCount_0f7a4_0 ?_
  refine x_iload0 eJ6_bitCount_0f7a4_1 ?_
  refine x_k eJ6_bitCount_0f7a4_2 ?_
  refine x_iushr eJ6_bitCount_0f7a4_3 ?_
  refine x_ldcw eJ6_bitCount_0f7a4_4 cJ6_265 ?_
  refine x_iand eJ6_bitCount_0f7a4_7 ?_
  refine x_isub eJ6_bitCount_0f7a4_8 ?_
  refine x_istore0 eJ6_bitCount_0f7a4_9 ?_
  refine x_iload0 eJ6_bitCount_0f7a4_10 ?_
  refine x_ldcw eJ6_bitCount_0f7a4_11 cJ6_266 ?_
  refine x_iand eJ6_bitCount_0f7a4_14 ?_
  refine x_iload0 eJ6_bitCount_0f7a4_15 ?_
  refine x_k eJ6_bitCount_0f7a4_16 ?_
  refine x_iushr eJ6_bitCount_0f7a4_17 ?_
  refine x_ldcw eJ6_bitCount_0f7a4_18 cJ6_266 ?_
  refine x_iand eJ6_bitCount_0f7a4_21 ?_
  refine x_iadd eJ6_bitCount_0f7a4_22 ?_
  refine x_istore0 eJ6_bitCount_0f7a4_23 ?_
  refine x_iload0 eJ6_bitCount_0f7a4_24 ?_
  refine x_iload0 eJ6_bitCount_0f7a4_25 ?_
  refine x_k eJ6_bitCount_0f7a4_26 ?_
  refine x_iushr eJ6_bitCount_0f7a4_27 ?_
  refine x_iadd eJ6_bitCount_0f7a4_28 ?_
  refine x_ldcw eJ6_bitCount_0f7a4_29 cJ6_267 ?_
  refine x_iand eJ6_bitCount_0f7a4_32 ?_
  refine x_istore0 eJ6_bitCount_0f7a4_33 ?_
  refine x_iload0 eJ6_bitCount_0f7a4_34 ?_
  refine x_iload0 eJ6_bitCount_0f7a4_35 ?_
  refine x_k eJ6_bitCount_0f7a4_36 ?_
  refine x_iushr eJ6_bitCount_0f7a4_38 ?_
  refine x_iadd eJ6_bitCount_0f7a4_39 ?_
  refine x_istore0 eJ6_bitCount_0f7a4_40 ?_
  refine x_iload0 eJ6_bitCount_0f7a4_41 ?_
  refine x_iload0 eJ6_bitCount_0f7a4_42 ?_
  refine x_k eJ6_bitCount_0f7a4_43 ?_
  refine x_iushr eJ6_bitCount_0f7a4_45 ?_
  refine x_iadd eJ6_bitCount_0f7a4_46 ?_
  refine x_istore0 eJ6_bitCount_0f7a4_47 ?_
  refine x_iload0 eJ6_bitCount_0f7a4_48 ?_
  refine x_k eJ6_bitCount_0f7a4_49 ?_
  refine x_iand eJ6_bitCount_0f7a4_51 ?_
  subst hm
  exact x_iret eJ6_bitCount_0f7a4_52 ⟨rfl, rfl⟩
set_option maxRecDepth 4000 in
theorem l_X1_tellFacts_p25_18 {o : (Nat → Int32)} {u1 : Int32} {u2 : Int32} {u4 : Int32} {o_size : Int32} {o_year : Int32} {o_lasts : Int32} {o_parent : Nat → Int32} {o_above : Nat → Int32} : ∀ (n : Nat) {u5 : Int32} {u6 : Int32} {x_facts : Nat → Int32}, sp_X1_tellFacts_p25_18 u1 u2 u4 o_size o_year o_lasts o_parent o_above n u5 u6 x_facts = some o → xt_T RX1 cX1_tellFacts 7 none (d + 2) (xt_Kv (WX o_size o_year o_gone o_minds o_lasts r_size r_token r_place r_at r_open r_made t_size t_rule i_there i_rule i_size i_year i_gone i_minds i_lasts o_parent o_kind o_number o_odds o_above o_kidCount o_lead r_tape r_steps r_ends t_steps t_ends t_stack s_sort s_size s_items i_number i_odds x_prices o x_laws x_clues)) 18 [some (.ref 1), some (.int u1), some (.int u2), some (.ref 25), some (.int u4), some (.int u5), some (.int u6)] [] (WX o_size o_year o_gone o_minds o_lasts r_size r_token r_place r_at r_open r_made t_size t_rule i_there i_rule i_size i_year i_gone i_minds i_lasts o_parent o_kind o_number o_odds o_above o_kidCount o_lead r_tape r_steps r_ends t_steps t_ends t_stack s_sort s_size s_items i_number i_odds x_prices x_facts x_laws x_clues) := by
  intro n
  induction n with
  | zero => intro u5 u6 x_facts hm; rw [sp_X1_tellFacts_p25_18] at hm; cases hm
  | succ n ih =>
    intro u5 u6 x_facts hm
    rw [sp_X1_tellFacts_p25_18] at hm
    refine x_iload6 eX1_tellFacts_18 ?_
    refine x_aload0 eX1_tellFacts_20 ?_
    refine x_get eX1_tellFacts_21 fX1_9 rfl rfl ?_
    refine x_icmp_ge eX1_tellFacts_24 (fun c => ?_) (fun c => ?_)
    · rw [if_pos c] at hm
      refine x_aload3 eX1_tellFacts_57 ?_
      refine x_k eX1_tellFacts_58 ?_
      refine x_iload1 eX1_tellFacts_59 ?_
      obtain ⟨f2, hv, hm⟩ := xo_bind hm
      obtain ⟨hi, rfl⟩ := xo_set_some hv
      refine x_iastore (w' := WX _ _ _ _ _ _ _ _ _ _ _ _ _ _ _ _ _ _ _ _ _ _ _ _ _ _ _ _ _ _ _ _ _ _ _ _ _ _ _ _ _ _) eX1_tellFacts_60 rfl hi rfl ?_
      refine x_aload3 eX1_tellFacts_61 ?_
      refine x_k eX1_tellFacts_62 ?_
      refine x_aload0 eX1_tellFacts_63 ?_
      refine x_get eX1_tellFacts_64 fX1_40 rfl rfl ?_
      refine x_iload1 eX1_tellFacts_67 ?_
      obtain ⟨v3, hv, hm⟩ := xo_bind hm
      obtain ⟨hi, rfl⟩ := xo_at_some hv
      refine x_iaload eX1_tellFacts_68 rfl hi ?_
      refine x_Si1 eX1_tellFacts_69 kJ6_bitCount_0f7a4 mX1_87 (t_J6_bitCount_0f7a4 rfl) (Nat.le_of_ble_eq_true rfl) ?_
      obtain ⟨f4, hv, hm⟩ := xo_bind hm
      obtain ⟨hi, rfl⟩ := xo_set_some hv
      refine x_iastore (w' := WX _ _ _ _ _ _ _ _ _ _ _ _ _ _ _ _ _ _ _ _ _ _ _ _ _ _ _ _ _ _ _ _ _ _ _ _ _ _ _ _ _ _) eX1_tellFacts_72 rfl hi rfl ?_
      refine x_aload3 eX1_tellFacts_73 ?_
      refine x_k eX1_tellFacts_74 ?_
      refine x_aload0 eX1_tellFacts_75 ?_
      refine x_iload1 eX1_tellFacts_76 ?_
      refine x_iload2 eX1_tellFacts_77 ?_
      obtain ⟨r5, hr, hm⟩ := xo_bind hm
      refine x_Vi2 eX1_tellFacts_78 kX1_kidSet mX1_92 (t_X1_kidSet hr) rfl (Nat.le_of_ble_eq_true rfl) ?_
      refine x_Si1 eX1_tellFacts_81 kJ6_bitCount_0f7a4 mX1_87 (t_J6_bitCount_0f7a4 rfl) (Nat.le_of_ble_eq_true rfl) ?_
      obtain ⟨f6, hv, hm⟩ := xo_bind hm
      obtain ⟨hi, rfl⟩ := xo_set_some hv
      refine x_iastore (w' := WX _ _ _ _ _ _ _ _ _ _ _ _ _ _ _ _ _ _ _ _ _ _ _ _ _ _ _ _ _ _ _ _ _ _ _ _ _ _ _ _ _ _) eX1_tellFacts_84 rfl hi rfl ?_
      refine x_aload3 eX1_tellFacts_85 ?_
      refine x_k eX1_tellFacts_86 ?_
      refine x_iload5 eX1_tellFacts_87 ?_
      obtain ⟨f7, hv, hm⟩ := xo_bind hm
      obtain ⟨hi, rfl⟩ := xo_set_some hv
      refine x_iastore (w' := WX _ _ _ _ _ _ _ _ _ _ _ _ _ _ _ _ _ _ _ _ _ _ _ _ _ _ _ _ _ _ _ _ _ _ _ _ _ _ _ _ _ _) eX1_tellFacts_89 rfl hi rfl ?_
      refine x_aload3 eX1_tellFacts_90 ?_
      refine x_k eX1_tellFacts_91 ?_
      refine x_aload0 eX1_tellFacts_92 ?_
      refine x_get eX1_tellFacts_93 fX1_24 rfl rfl ?_
      refine x_iload1 eX1_tellFacts_96 ?_
      refine x_Ni2 eX1_tellFacts_97 kX5_bit mX1_61 (t_X5_bit rfl) (Nat.le_of_ble_eq_true rfl) ?_
      obtain ⟨f8, hv, hm⟩ := xo_bind hm
      obtain ⟨hi, rfl⟩ := xo_set_some hv
      refine x_iastore (w' := WX _ _ _ _ _ _ _ _ _ _ _ _ _ _ _ _ _ _ _ _ _ _ _ _ _ _ _ _ _ _ _ _ _ _ _ _ _ _ _ _ _ _) eX1_tellFacts_100 rfl hi rfl ?_
      refine x_aload3 eX1_tellFacts_101 ?_
      refine x_k eX1_tellFacts_102 ?_
      refine x_aload0 eX1_tellFacts_103 ?_
      refine x_get eX1_tellFacts_104 fX1_15 rfl rfl ?_
      obtain ⟨f9, hv, hm⟩ := xo_bind hm
      obtain ⟨hi, rfl⟩ := xo_set_some hv
      refine x_iastore (w' := WX _ _ _ _ _ _ _ _ _ _ _ _ _ _ _ _ _ _ _ _ _ _ _ _ _ _ _ _ _ _ _ _ _ _ _ _ _ _ _ _ _ _) eX1_tellFacts_107 rfl hi rfl ?_
      obtain rfl := Option.some.inj hm
      exact x_vret eX1_tellFacts_108 ⟨rfl, rfl⟩
    · rw [if_neg c] at hm
      refine x_iload5 eX1_tellFacts_27 ?_
      refine x_iload4 eX1_tellFacts_29 ?_
      refine x_iload6 eX1_tellFacts_31 ?_
      refine x_Ni2 eX1_tellFacts_33 kX5_bit mX1_61 (t_X5_bit rfl) (Nat.le_of_ble_eq_true rfl) ?_
      refine x_aload0 eX1_tellFacts_36 ?_
      refine x_get eX1_tellFacts_37 fX1_40 rfl rfl ?_
      refine x_iload6 eX1_tellFacts_40 ?_
      obtain ⟨v10, hv, hm⟩ := xo_bind hm
      obtain ⟨hi, rfl⟩ := xo_at_some hv
      refine x_iaload eX1_tellFacts_42 rfl hi ?_
      refine x_iload1 eX1_tellFacts_43 ?_
      refine x_Ni2 eX1_tellFacts_44 kX5_bit mX1_61 (t_X5_bit rfl) (Nat.le_of_ble_eq_true rfl) ?_
      refine x_iand eX1_tellFacts_47 ?_
      refine x_iadd eX1_tellFacts_48 ?_
      refine x_istore5 eX1_tellFacts_49 rfl ?_
      refine x_iinc6 eX1_tellFacts_51 rfl ?_
      refine x_goto eX1_tellFacts_54 ?_
      exact ih hm
set_option maxRecDepth 4000 in
theorem t_X1_tellFacts_p25 {o : (Nat → Int32)} {p1 : Int32} {p2 : Int32} (hm : sp_X1_tellFacts_p25 p1 p2 o_size o_year o_lasts o_parent o_above x_facts = some o) : xt_M yX1_tellFacts cX1_tellFacts 7 none (d + 2) [.ref 1, .int p1, .int p2, .ref 25] (WX o_size o_year o_gone o_minds o_lasts r_size r_token r_place r_at r_open r_made t_size t_rule i_there i_rule i_size i_year i_gone i_minds i_lasts o_parent o_kind o_number o_odds o_above o_kidCount o_lead r_tape r_steps r_ends t_steps t_ends t_stack s_sort s_size s_items i_number i_odds x_prices x_facts x_laws x_clues) (xt_Kv (WX o_size o_year o_gone o_minds o_lasts r_size r_token r_place r_at r_open r_made t_size t_rule i_there i_rule i_size i_year i_gone i_minds i_lasts o_parent o_kind o_number o_odds o_above o_kidCount o_lead r_tape r_steps r_ends t_steps t_ends t_stack s_sort s_size s_items i_number i_odds x_prices o x_laws x_clues)) := by
  unfold sp_X1_tellFacts_p25 at hm
  refine xt_M.go (own := RX1) (lv := [some (.ref 1), some (.int p1), some (.int p2), some (.ref 25), none, none, none]) rfl rfl (Nat.le_of_ble_eq_true rfl) rfl ?_
  refine x_aload0 eX1_tellFacts_0 ?_
  refine x_iload2 eX1_tellFacts_1 ?_
  obtain ⟨r1, hr, hm⟩ := xo_bind hm
  refine x_Vi1 eX1_tellFacts_2 kX1_twigsOf mX1_84 (t_X1_twigsOf hr) rfl (Nat.le_of_ble_eq_true rfl) ?_
  refine x_istore4 eX1_tellFacts_5 rfl ?_
  refine x_iload4 eX1_tellFacts_7 ?_
  refine x_iload1 eX1_tellFacts_9 ?_
  refine x_Ni2 eX1_tellFacts_10 kX5_bit mX1_61 (t_X5_bit rfl) (Nat.le_of_ble_eq_true rfl) ?_
  refine x_istore5 eX1_tellFacts_13 rfl ?_
  refine x_k eX1_tellFacts_15 ?_
  refine x_istore6 eX1_tellFacts_16 rfl ?_
  exact l_X1_tellFacts_p25_18 _ hm
end S10
