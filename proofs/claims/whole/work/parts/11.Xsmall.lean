section S11
variable {d : Nat}
variable {o_size o_year o_gone o_minds o_lasts r_size r_token r_place r_at r_open r_made t_size t_rule i_there i_rule i_size i_year i_gone i_minds i_lasts : Int32} {o_parent o_kind o_number o_odds o_above o_kidCount o_lead r_tape r_steps r_ends t_steps t_ends t_stack s_sort s_size s_items i_number i_odds x_prices x_facts x_laws x_clues : Nat → Int32}
def sp_X0_keep_p1 (p2 : Int32) (o_size : Int32) (o_year : Int32) (o_gone : Int32) (o_minds : Int32) (o_lasts : Int32) (i_there : Int32) (i_rule : Int32) (i_size : Int32) (i_year : Int32) (i_gone : Int32) (i_minds : Int32) (i_lasts : Int32) (o_number : Nat → Int32) (o_odds : Nat → Int32) (i_number : Nat → Int32) (i_odds : Nat → Int32) : Option (Int32 × Int32 × Int32 × Int32 × Int32 × Int32 × Int32 × (Nat → Int32) × (Nat → Int32)) :=
  (xo_cpy o_number i_number 12 12 0 0 12).bind fun f1 =>
  (xo_cpy o_odds i_odds 12 12 0 0 12).bind fun f2 =>
  some (1, p2, o_size, o_year, o_gone, o_minds, o_lasts, f1, f2)
def sp_X0_layBack_p1 (o_size : Int32) (o_year : Int32) (o_gone : Int32) (o_minds : Int32) (o_lasts : Int32) (i_size : Int32) (i_year : Int32) (i_gone : Int32) (i_minds : Int32) (i_lasts : Int32) (o_number : Nat → Int32) (o_odds : Nat → Int32) (i_number : Nat → Int32) (i_odds : Nat → Int32) : Option (Int32 × Int32 × Int32 × Int32 × Int32 × (Nat → Int32) × (Nat → Int32)) :=
  (xo_cpy i_number o_number 12 12 0 0 12).bind fun f1 =>
  (xo_cpy i_odds o_odds 12 12 0 0 12).bind fun f2 =>
  some (i_size, i_year, i_gone, i_minds, i_lasts, f1, f2)
def sp_X3_lay_17 (u1 : Int32) : Nat → Int32 → (Nat → Int32) → (Nat → Int32) → (Nat → Int32) → Option ((Nat → Int32) × (Nat → Int32) × (Nat → Int32))
  | 0, _, _, _, _ => none
  | n + 1, u4, s_sort, s_size, s_items =>
    if 40 ≤ u4 then
      some (s_sort, s_size, s_items)
    else
      (xo_set s_items 160 ((u1 * 40) + u4) 0).bind fun f3 =>
      sp_X3_lay_17 u1 n (u4 + 1) s_sort s_size f3
def sp_X3_lay (p1 : Int32) (p2 : Int32) (p3 : Int32) (s_sort : Nat → Int32) (s_size : Nat → Int32) (s_items : Nat → Int32) : Option ((Nat → Int32) × (Nat → Int32) × (Nat → Int32)) :=
  (xo_set s_sort 4 p1 p2).bind fun f1 =>
  (xo_set s_size 4 p1 p3).bind fun f2 =>
  sp_X3_lay_17 p1 5000 0 f1 f2 s_items
def sp_X3_holds (p1 : Int32) (p2 : Int32) (p3 : Int32) (s_size : Nat → Int32) : Option (Int32) :=
  if p2 < 0 then
    some 0
  else
    if p3 < 0 then
      some 0
    else
      (xo_at s_size 4 p1).bind fun v1 =>
      if (v1 - p3) < p2 then
        some 0
      else
        some 1
def sp_X3_read (p1 : Int32) (p2 : Int32) (s_items : Nat → Int32) : Option (Int32) :=
  (xo_at s_items 160 ((p1 * 40) + p2)).bind fun v1 =>
  some v1
def sp_X3_write (p1 : Int32) (p2 : Int32) (p3 : Int32) (s_sort : Nat → Int32) (s_items : Nat → Int32) : Option ((Nat → Int32)) :=
  (xo_at s_sort 4 p1).bind fun v1 =>
  if v1 = 0 then
    (xo_set s_items 160 ((p1 * 40) + p2) (Int8.toInt32 (Int32.toInt8 p3))).bind fun f5 =>
    some f5
  else
    (xo_at s_sort 4 p1).bind fun v2 =>
    if v2 = 1 then
      (xo_set s_items 160 ((p1 * 40) + p2) (Int16.toInt32 (Int32.toInt16 p3))).bind fun f4 =>
      some f4
    else
      (xo_set s_items 160 ((p1 * 40) + p2) p3).bind fun f3 =>
      some f3
def sp_X3_move (p1 : Int32) (p2 : Int32) (p3 : Int32) (p4 : Int32) (p5 : Int32) (s_items : Nat → Int32) : Option ((Nat → Int32)) :=
  (xo_cpy s_items s_items 160 160 ((p1 * 40) + p2) ((p3 * 40) + p4) p5).bind fun f1 =>
  some f1
def sp_X4_add_p9_37 (r_ends : Nat → Int32) : Nat → Int32 → Int32 → (Nat → Int32) → (Nat → Int32) → Option (Int32 × Int32 × (Nat → Int32) × (Nat → Int32))
  | 0, _, _, _, _ => none
  | n + 1, u2, t_size, t_steps, t_ends =>
    if 3 ≤ u2 then
      some (((t_size + 1) - 1), (t_size + 1), t_steps, t_ends)
    else
      (xo_at r_ends 3 u2).bind fun v2 =>
      (xo_set t_ends 18 ((t_size * 3) + u2) ((t_size * 160) + v2)).bind fun f3 =>
      sp_X4_add_p9_37 r_ends n (u2 + 1) t_size t_steps f3
def sp_X4_add_p9 (t_size : Int32) (r_steps : Nat → Int32) (r_ends : Nat → Int32) (t_steps : Nat → Int32) (t_ends : Nat → Int32) : Option (Int32 × Int32 × (Nat → Int32) × (Nat → Int32)) :=
  if t_size < 6 then
    (xo_cpy r_steps t_steps 160 960 0 (t_size * 160) 160).bind fun f1 =>
    sp_X4_add_p9_37 r_ends 5000 0 t_size f1 t_ends
  else
    some ((-4), t_size, t_steps, t_ends)
def sp_X4_truth (p1 : Int32)  : Int32 :=
  if p1 = 0 then
    0
  else
    1
def sp_X4_joined (p1 : Int32) (p2 : Int32) (p3 : Int32)  : Int32 :=
  if p1 = 10013 then
    if p2 = 0 then
      if p3 = 0 then
        (sp_X4_truth 0)
      else
        (sp_X4_truth 1)
    else
      (sp_X4_truth 1)
  else if p1 = 10014 then
    if p2 = 0 then
      (sp_X4_truth 0)
    else
      if p3 = 0 then
        (sp_X4_truth 0)
      else
        (sp_X4_truth 1)
  else if p1 = 10015 then
    (p2 * p3)
  else if p1 = 10016 then
    (p2 * p3)
  else if p1 = 10017 then
    (p2 * p3)
  else if p1 = 10018 then
    (p2 * p3)
  else if p1 = 10019 then
    (p2 * p3)
  else if p1 = 10020 then
    (p2 * p3)
  else if p1 = 10021 then
    (p2 * p3)
  else if p1 = 10022 then
    (p2 * p3)
  else if p1 = 10023 then
    (p2 + p3)
  else if p1 = 10024 then
    (p2 - p3)
  else if p1 = 10025 then
    (p2 * p3)
  else if p1 = 10026 then
    if p3 ≤ p2 then
      (sp_X4_truth 0)
    else
      (sp_X4_truth 1)
  else if p1 = 10027 then
    if p2 = p3 then
      (sp_X4_truth 1)
    else
      (sp_X4_truth 0)
  else 
    (p2 * p3)
def sp_X4_value_p25_52 (u4 : Int32) (t_steps : Nat → Int32) (x_facts : Nat → Int32) : Nat → Int32 → Int32 → (Nat → Int32) → Option (Int32 × (Nat → Int32))
  | 0, _, _, _ => none
  | n + 1, u5, u6, t_stack =>
    if u4 ≤ u6 then
      if u5 = 1 then
        (xo_at t_stack 160 0).bind fun v3 =>
        some (v3, t_stack)
      else
        some (0, t_stack)
    else
      (xo_at t_steps 960 u6).bind fun v4 =>
      if 10006 ≤ v4 then
        if v4 = 10030 then
          if 1 ≤ u5 then
            (xo_at t_stack 160 (u5 - 1)).bind fun v5 =>
            if v4 = 10030 then
              (xo_set t_stack 160 (u5 - 1) (-v5)).bind fun f8 =>
              sp_X4_value_p25_52 u4 t_steps x_facts n u5 (u6 + 1) f8
            else
              if v5 = 0 then
                (xo_set t_stack 160 (u5 - 1) (sp_X4_truth 1)).bind fun f7 =>
                sp_X4_value_p25_52 u4 t_steps x_facts n u5 (u6 + 1) f7
              else
                (xo_set t_stack 160 (u5 - 1) (sp_X4_truth 0)).bind fun f6 =>
                sp_X4_value_p25_52 u4 t_steps x_facts n u5 (u6 + 1) f6
          else
            some (0, t_stack)
        else
          if v4 = 10015 then
            if 1 ≤ u5 then
              (xo_at t_stack 160 (u5 - 1)).bind fun v12 =>
              if v4 = 10030 then
                (xo_set t_stack 160 (u5 - 1) (-v12)).bind fun f15 =>
                sp_X4_value_p25_52 u4 t_steps x_facts n u5 (u6 + 1) f15
              else
                if v12 = 0 then
                  (xo_set t_stack 160 (u5 - 1) (sp_X4_truth 1)).bind fun f14 =>
                  sp_X4_value_p25_52 u4 t_steps x_facts n u5 (u6 + 1) f14
                else
                  (xo_set t_stack 160 (u5 - 1) (sp_X4_truth 0)).bind fun f13 =>
                  sp_X4_value_p25_52 u4 t_steps x_facts n u5 (u6 + 1) f13
            else
              some (0, t_stack)
          else
            if 2 ≤ u5 then
              (xo_at t_stack 160 ((u5 + (-1)) - 1)).bind fun v9 =>
              (xo_at t_stack 160 (u5 + (-1))).bind fun v10 =>
              (xo_set t_stack 160 ((u5 + (-1)) - 1) (sp_X4_joined v4 v9 v10)).bind fun f11 =>
              sp_X4_value_p25_52 u4 t_steps x_facts n (u5 + (-1)) (u6 + 1) f11
            else
              some (0, t_stack)
      else
        if u5 < 160 then
          if 10000 ≤ v4 then
            (xo_at x_facts 6 (v4 - 10000)).bind fun v16 =>
            (xo_set t_stack 160 u5 v16).bind fun f17 =>
            sp_X4_value_p25_52 u4 t_steps x_facts n (u5 + 1) (u6 + 1) f17
          else
            (xo_set t_stack 160 u5 v4).bind fun f18 =>
            sp_X4_value_p25_52 u4 t_steps x_facts n (u5 + 1) (u6 + 1) f18
        else
          some (0, t_stack)
def sp_X4_value_p25 (p1 : Int32) (t_rule : Int32) (t_steps : Nat → Int32) (t_ends : Nat → Int32) (t_stack : Nat → Int32) (x_facts : Nat → Int32) : Option (Int32 × (Nat → Int32)) :=
  if p1 = 0 then
    (xo_at t_ends 18 ((t_rule * 3) + p1)).bind fun v19 =>
    sp_X4_value_p25_52 v19 t_steps x_facts 5000 0 (t_rule * 160) t_stack
  else
    (xo_at t_ends 18 (((t_rule * 3) + p1) - 1)).bind fun v1 =>
    (xo_at t_ends 18 ((t_rule * 3) + p1)).bind fun v2 =>
    sp_X4_value_p25_52 v2 t_steps x_facts 5000 0 v1 t_stack
set_option maxRecDepth 4000 in
theorem t_X0_keep_p1 {o : Int32 × Int32 × Int32 × Int32 × Int32 × Int32 × Int32 × (Nat → Int32) × (Nat → Int32)} {p2 : Int32} (hm : sp_X0_keep_p1 p2 o_size o_year o_gone o_minds o_lasts i_there i_rule i_size i_year i_gone i_minds i_lasts o_number o_odds i_number i_odds = some o) : xt_M yX0_keep cX0_keep 3 none (d + 1) [.ref 21, .ref 1, .int p2] (WX o_size o_year o_gone o_minds o_lasts r_size r_token r_place r_at r_open r_made t_size t_rule i_there i_rule i_size i_year i_gone i_minds i_lasts o_parent o_kind o_number o_odds o_above o_kidCount o_lead r_tape r_steps r_ends t_steps t_ends t_stack s_sort s_size s_items i_number i_odds x_prices x_facts x_laws x_clues) (xt_Kv (WX o_size o_year o_gone o_minds o_lasts r_size r_token r_place r_at r_open r_made t_size t_rule o.1 o.2.1 o.2.2.1 o.2.2.2.1 o.2.2.2.2.1 o.2.2.2.2.2.1 o.2.2.2.2.2.2.1 o_parent o_kind o_number o_odds o_above o_kidCount o_lead r_tape r_steps r_ends t_steps t_ends t_stack s_sort s_size s_items o.2.2.2.2.2.2.2.1 o.2.2.2.2.2.2.2.2 x_prices x_facts x_laws x_clues)) := by
  unfold sp_X0_keep_p1 at hm
  refine xt_M.go (own := RX0) (lv := [some (.ref 21), some (.ref 1), some (.int p2)]) rfl rfl (Nat.le_of_ble_eq_true rfl) rfl ?_
  refine x_aload0 eX0_keep_0 ?_
  refine x_k eX0_keep_1 ?_
  refine x_putz (w' := WX _ _ _ _ _ _ _ _ _ _ _ _ _ _ _ _ _ _ _ _ _ _ _ _ _ _ _ _ _ _ _ _ _ _ _ _ _ _ _ _ _ _) eX0_keep_2 pX0_9 rfl (Nat.le_of_ble_eq_true rfl) (by decide) rfl ?_
  refine x_aload0 eX0_keep_5 ?_
  refine x_iload2 eX0_keep_6 ?_
  refine x_puti (w' := WX _ _ _ _ _ _ _ _ _ _ _ _ _ _ _ _ _ _ _ _ _ _ _ _ _ _ _ _ _ _ _ _ _ _ _ _ _ _ _ _ _ _) eX0_keep_7 pX0_15 rfl (Nat.le_of_ble_eq_true rfl) rfl ?_
  refine x_aload0 eX0_keep_10 ?_
  refine x_aload1 eX0_keep_11 ?_
  refine x_get eX0_keep_12 fX0_41 rfl rfl ?_
  refine x_puti (w' := WX _ _ _ _ _ _ _ _ _ _ _ _ _ _ _ _ _ _ _ _ _ _ _ _ _ _ _ _ _ _ _ _ _ _ _ _ _ _ _ _ _ _) eX0_keep_15 pX0_19 rfl (Nat.le_of_ble_eq_true rfl) rfl ?_
  refine x_aload0 eX0_keep_18 ?_
  refine x_aload1 eX0_keep_19 ?_
  refine x_get eX0_keep_20 fX0_44 rfl rfl ?_
  refine x_puti (w' := WX _ _ _ _ _ _ _ _ _ _ _ _ _ _ _ _ _ _ _ _ _ _ _ _ _ _ _ _ _ _ _ _ _ _ _ _ _ _ _ _ _ _) eX0_keep_23 pX0_22 rfl (Nat.le_of_ble_eq_true rfl) rfl ?_
  refine x_aload0 eX0_keep_26 ?_
  refine x_aload1 eX0_keep_27 ?_
  refine x_get eX0_keep_28 fX0_45 rfl rfl ?_
  refine x_puti (w' := WX _ _ _ _ _ _ _ _ _ _ _ _ _ _ _ _ _ _ _ _ _ _ _ _ _ _ _ _ _ _ _ _ _ _ _ _ _ _ _ _ _ _) eX0_keep_31 pX0_25 rfl (Nat.le_of_ble_eq_true rfl) rfl ?_
  refine x_aload0 eX0_keep_34 ?_
  refine x_aload1 eX0_keep_35 ?_
  refine x_get eX0_keep_36 fX0_46 rfl rfl ?_
  refine x_puti (w' := WX _ _ _ _ _ _ _ _ _ _ _ _ _ _ _ _ _ _ _ _ _ _ _ _ _ _ _ _ _ _ _ _ _ _ _ _ _ _ _ _ _ _) eX0_keep_39 pX0_28 rfl (Nat.le_of_ble_eq_true rfl) rfl ?_
  refine x_aload0 eX0_keep_42 ?_
  refine x_aload1 eX0_keep_43 ?_
  refine x_get eX0_keep_44 fX0_47 rfl rfl ?_
  refine x_puti (w' := WX _ _ _ _ _ _ _ _ _ _ _ _ _ _ _ _ _ _ _ _ _ _ _ _ _ _ _ _ _ _ _ _ _ _ _ _ _ _ _ _ _ _) eX0_keep_47 pX0_31 rfl (Nat.le_of_ble_eq_true rfl) rfl ?_
  refine x_aload1 eX0_keep_50 ?_
  refine x_get eX0_keep_51 fX0_48 rfl rfl ?_
  refine x_k eX0_keep_54 ?_
  refine x_aload0 eX0_keep_55 ?_
  refine x_get eX0_keep_56 fX0_34 rfl rfl ?_
  refine x_k eX0_keep_59 ?_
  refine x_k eX0_keep_60 ?_
  obtain ⟨f1, hv, hm⟩ := xo_bind hm
  obtain ⟨h1, h2, h3, h4, h5, rfl⟩ := xo_cpy_some hv
  refine x_acopy (w' := WX _ _ _ _ _ _ _ _ _ _ _ _ _ _ _ _ _ _ _ _ _ _ _ _ _ _ _ _ _ _ _ _ _ _ _ _ _ _ _ _ _ _) eX0_keep_62 aX0_49 rfl rfl h1 h2 h3 h4 h5 (Nat.le_of_ble_eq_true rfl) rfl ?_
  refine x_aload1 eX0_keep_65 ?_
  refine x_get eX0_keep_66 fX0_55 rfl rfl ?_
  refine x_k eX0_keep_69 ?_
  refine x_aload0 eX0_keep_70 ?_
  refine x_get eX0_keep_71 fX0_38 rfl rfl ?_
  refine x_k eX0_keep_74 ?_
  refine x_k eX0_keep_75 ?_
  obtain ⟨f2, hv, hm⟩ := xo_bind hm
  obtain ⟨h1, h2, h3, h4, h5, rfl⟩ := xo_cpy_some hv
  refine x_acopy (w' := WX _ _ _ _ _ _ _ _ _ _ _ _ _ _ _ _ _ _ _ _ _ _ _ _ _ _ _ _ _ _ _ _ _ _ _ _ _ _ _ _ _ _) eX0_keep_77 aX0_49 rfl rfl h1 h2 h3 h4 h5 (Nat.le_of_ble_eq_true rfl) rfl ?_
  obtain rfl := Option.some.inj hm
  exact x_vret eX0_keep_80 ⟨rfl, rfl⟩
set_option maxRecDepth 4000 in
theorem t_X0_layBack_p1 {o : Int32 × Int32 × Int32 × Int32 × Int32 × (Nat → Int32) × (Nat → Int32)}  (hm : sp_X0_layBack_p1 o_size o_year o_gone o_minds o_lasts i_size i_year i_gone i_minds i_lasts o_number o_odds i_number i_odds = some o) : xt_M yX0_layBack cX0_layBack 2 none (d + 1) [.ref 21, .ref 1] (WX o_size o_year o_gone o_minds o_lasts r_size r_token r_place r_at r_open r_made t_size t_rule i_there i_rule i_size i_year i_gone i_minds i_lasts o_parent o_kind o_number o_odds o_above o_kidCount o_lead r_tape r_steps r_ends t_steps t_ends t_stack s_sort s_size s_items i_number i_odds x_prices x_facts x_laws x_clues) (xt_Kv (WX o.1 o.2.1 o.2.2.1 o.2.2.2.1 o.2.2.2.2.1 r_size r_token r_place r_at r_open r_made t_size t_rule i_there i_rule i_size i_year i_gone i_minds i_lasts o_parent o_kind o.2.2.2.2.2.1 o.2.2.2.2.2.2 o_above o_kidCount o_lead r_tape r_steps r_ends t_steps t_ends t_stack s_sort s_size s_items i_number i_odds x_prices x_facts x_laws x_clues)) := by
  unfold sp_X0_layBack_p1 at hm
  refine xt_M.go (own := RX0) (lv := [some (.ref 21), some (.ref 1)]) rfl rfl (Nat.le_of_ble_eq_true rfl) rfl ?_
  refine x_aload1 eX0_layBack_0 ?_
  refine x_aload0 eX0_layBack_1 ?_
  refine x_get eX0_layBack_2 fX0_19 rfl rfl ?_
  refine x_puti (w' := WX _ _ _ _ _ _ _ _ _ _ _ _ _ _ _ _ _ _ _ _ _ _ _ _ _ _ _ _ _ _ _ _ _ _ _ _ _ _ _ _ _ _) eX0_layBack_5 pX0_41 rfl (Nat.le_of_ble_eq_true rfl) rfl ?_
  refine x_aload1 eX0_layBack_8 ?_
  refine x_aload0 eX0_layBack_9 ?_
  refine x_get eX0_layBack_10 fX0_22 rfl rfl ?_
  refine x_puti (w' := WX _ _ _ _ _ _ _ _ _ _ _ _ _ _ _ _ _ _ _ _ _ _ _ _ _ _ _ _ _ _ _ _ _ _ _ _ _ _ _ _ _ _) eX0_layBack_13 pX0_44 rfl (Nat.le_of_ble_eq_true rfl) rfl ?_
  refine x_aload1 eX0_layBack_16 ?_
  refine x_aload0 eX0_layBack_17 ?_
  refine x_get eX0_layBack_18 fX0_25 rfl rfl ?_
  refine x_puti (w' := WX _ _ _ _ _ _ _ _ _ _ _ _ _ _ _ _ _ _ _ _ _ _ _ _ _ _ _ _ _ _ _ _ _ _ _ _ _ _ _ _ _ _) eX0_layBack_21 pX0_45 rfl (Nat.le_of_ble_eq_true rfl) rfl ?_
  refine x_aload1 eX0_layBack_24 ?_
  refine x_aload0 eX0_layBack_25 ?_
  refine x_get eX0_layBack_26 fX0_28 rfl rfl ?_
  refine x_puti (w' := WX _ _ _ _ _ _ _ _ _ _ _ _ _ _ _ _ _ _ _ _ _ _ _ _ _ _ _ _ _ _ _ _ _ _ _ _ _ _ _ _ _ _) eX0_layBack_29 pX0_46 rfl (Nat.le_of_ble_eq_true rfl) rfl ?_
  refine x_aload1 eX0_layBack_32 ?_
  refine x_aload0 eX0_layBack_33 ?_
  refine x_get eX0_layBack_34 fX0_31 rfl rfl ?_
  refine x_puti (w' := WX _ _ _ _ _ _ _ _ _ _ _ _ _ _ _ _ _ _ _ _ _ _ _ _ _ _ _ _ _ _ _ _ _ _ _ _ _ _ _ _ _ _) eX0_layBack_37 pX0_47 rfl (Nat.le_of_ble_eq_true rfl) rfl ?_
  refine x_aload0 eX0_layBack_40 ?_
  refine x_get eX0_layBack_41 fX0_34 rfl rfl ?_
  refine x_k eX0_layBack_44 ?_
  refine x_aload1 eX0_layBack_45 ?_
  refine x_get eX0_layBack_46 fX0_48 rfl rfl ?_
  refine x_k eX0_layBack_49 ?_
  refine x_k eX0_layBack_50 ?_
  obtain ⟨f1, hv, hm⟩ := xo_bind hm
  obtain ⟨h1, h2, h3, h4, h5, rfl⟩ := xo_cpy_some hv
  refine x_acopy (w' := WX _ _ _ _ _ _ _ _ _ _ _ _ _ _ _ _ _ _ _ _ _ _ _ _ _ _ _ _ _ _ _ _ _ _ _ _ _ _ _ _ _ _) eX0_layBack_52 aX0_49 rfl rfl h1 h2 h3 h4 h5 (Nat.le_of_ble_eq_true rfl) rfl ?_
  refine x_aload0 eX0_layBack_55 ?_
  refine x_get eX0_layBack_56 fX0_38 rfl rfl ?_
  refine x_k eX0_layBack_59 ?_
  refine x_aload1 eX0_layBack_60 ?_
  refine x_get eX0_layBack_61 fX0_55 rfl rfl ?_
  refine x_k eX0_layBack_64 ?_
  refine x_k eX0_layBack_65 ?_
  obtain ⟨f2, hv, hm⟩ := xo_bind hm
  obtain ⟨h1, h2, h3, h4, h5, rfl⟩ := xo_cpy_some hv
  refine x_acopy (w' := WX _ _ _ _ _ _ _ _ _ _ _ _ _ _ _ _ _ _ _ _ _ _ _ _ _ _ _ _ _ _ _ _ _ _ _ _ _ _ _ _ _ _) eX0_layBack_67 aX0_49 rfl rfl h1 h2 h3 h4 h5 (Nat.le_of_ble_eq_true rfl) rfl ?_
  obtain rfl := Option.some.inj hm
  exact x_vret eX0_layBack_70 ⟨rfl, rfl⟩
set_option maxRecDepth 4000 in
theorem l_X3_lay_17 {o : (Nat → Int32) × (Nat → Int32) × (Nat → Int32)} {u1 : Int32} {u2 : Int32} {u3 : Int32} : ∀ (n : Nat) {u4 : Int32} {s_sort : Nat → Int32} {s_size : Nat → Int32} {s_items : Nat → Int32}, sp_X3_lay_17 u1 n u4 s_sort s_size s_items = some o → xt_T RX3 cX3_lay 5 none (d + 0) (xt_Kv (WX o_size o_year o_gone o_minds o_lasts r_size r_token r_place r_at r_open r_made t_size t_rule i_there i_rule i_size i_year i_gone i_minds i_lasts o_parent o_kind o_number o_odds o_above o_kidCount o_lead r_tape r_steps r_ends t_steps t_ends t_stack o.1 o.2.1 o.2.2 i_number i_odds x_prices x_facts x_laws x_clues)) 17 [some (.ref 17), some (.int u1), some (.int u2), some (.int u3), some (.int u4)] [] (WX o_size o_year o_gone o_minds o_lasts r_size r_token r_place r_at r_open r_made t_size t_rule i_there i_rule i_size i_year i_gone i_minds i_lasts o_parent o_kind o_number o_odds o_above o_kidCount o_lead r_tape r_steps r_ends t_steps t_ends t_stack s_sort s_size s_items i_number i_odds x_prices x_facts x_laws x_clues) := by
  intro n
  induction n with
  | zero => intro u4 s_sort s_size s_items hm; rw [sp_X3_lay_17] at hm; cases hm
  | succ n ih =>
    intro u4 s_sort s_size s_items hm
    rw [sp_X3_lay_17] at hm
    refine x_iload4 eX3_lay_17 ?_
    refine x_k eX3_lay_19 ?_
    refine x_icmp_ge eX3_lay_21 (fun c => ?_) (fun c => ?_)
    · rw [if_pos c] at hm
      obtain rfl := Option.some.inj hm
      exact x_vret eX3_lay_43 ⟨rfl, rfl⟩
    · rw [if_neg c] at hm
      refine x_aload0 eX3_lay_24 ?_
      refine x_get eX3_lay_25 fX3_18 rfl rfl ?_
      refine x_iload1 eX3_lay_28 ?_
      refine x_k eX3_lay_29 ?_
      refine x_imul eX3_lay_31 ?_
      refine x_iload4 eX3_lay_32 ?_
      refine x_iadd eX3_lay_34 ?_
      refine x_k eX3_lay_35 ?_
      obtain ⟨f3, hv, hm⟩ := xo_bind hm
      obtain ⟨hi, rfl⟩ := xo_set_some hv
      refine x_iastore (w' := WX _ _ _ _ _ _ _ _ _ _ _ _ _ _ _ _ _ _ _ _ _ _ _ _ _ _ _ _ _ _ _ _ _ _ _ _ _ _ _ _ _ _) eX3_lay_36 rfl hi rfl ?_
      refine x_iinc4 eX3_lay_37 rfl ?_
      refine x_goto eX3_lay_40 ?_
      exact ih hm
set_option maxRecDepth 4000 in
theorem t_X3_lay {o : (Nat → Int32) × (Nat → Int32) × (Nat → Int32)} {p1 : Int32} {p2 : Int32} {p3 : Int32} (hm : sp_X3_lay p1 p2 p3 s_sort s_size s_items = some o) : xt_M yX3_lay cX3_lay 5 none (d + 0) [.ref 17, .int p1, .int p2, .int p3] (WX o_size o_year o_gone o_minds o_lasts r_size r_token r_place r_at r_open r_made t_size t_rule i_there i_rule i_size i_year i_gone i_minds i_lasts o_parent o_kind o_number o_odds o_above o_kidCount o_lead r_tape r_steps r_ends t_steps t_ends t_stack s_sort s_size s_items i_number i_odds x_prices x_facts x_laws x_clues) (xt_Kv (WX o_size o_year o_gone o_minds o_lasts r_size r_token r_place r_at r_open r_made t_size t_rule i_there i_rule i_size i_year i_gone i_minds i_lasts o_parent o_kind o_number o_odds o_above o_kidCount o_lead r_tape r_steps r_ends t_steps t_ends t_stack o.1 o.2.1 o.2.2 i_number i_odds x_prices x_facts x_laws x_clues)) := by
  unfold sp_X3_lay at hm
  refine xt_M.go (own := RX3) (lv := [some (.ref 17), some (.int p1), some (.int p2), some (.int p3), none]) rfl rfl (Nat.le_of_ble_eq_true rfl) rfl ?_
  refine x_aload0 eX3_lay_0 ?_
  refine x_get eX3_lay_1 fX3_9 rfl rfl ?_
  refine x_iload1 eX3_lay_4 ?_
  refine x_iload2 eX3_lay_5 ?_
  obtain ⟨f1, hv, hm⟩ := xo_bind hm
  obtain ⟨hi, rfl⟩ := xo_set_some hv
  refine x_iastore (w' := WX _ _ _ _ _ _ _ _ _ _ _ _ _ _ _ _ _ _ _ _ _ _ _ _ _ _ _ _ _ _ _ _ _ _ _ _ _ _ _ _ _ _) eX3_lay_6 rfl hi rfl ?_
  refine x_aload0 eX3_lay_7 ?_
  refine x_get eX3_lay_8 fX3_15 rfl rfl ?_
  refine x_iload1 eX3_lay_11 ?_
  refine x_iload3 eX3_lay_12 ?_
  obtain ⟨f2, hv, hm⟩ := xo_bind hm
  obtain ⟨hi, rfl⟩ := xo_set_some hv
  refine x_iastore (w' := WX _ _ _ _ _ _ _ _ _ _ _ _ _ _ _ _ _ _ _ _ _ _ _ _ _ _ _ _ _ _ _ _ _ _ _ _ _ _ _ _ _ _) eX3_lay_13 rfl hi rfl ?_
  refine x_k eX3_lay_14 ?_
  refine x_istore4 eX3_lay_15 rfl ?_
  exact l_X3_lay_17 _ hm
set_option maxRecDepth 4000 in
theorem t_X3_holds {o : Int32} {p1 : Int32} {p2 : Int32} {p3 : Int32} (hm : sp_X3_holds p1 p2 p3 s_size = some o) : xt_M yX3_holds cX3_holds 4 (some .boolean) (d + 0) [.ref 17, .int p1, .int p2, .int p3] (WX o_size o_year o_gone o_minds o_lasts r_size r_token r_place r_at r_open r_made t_size t_rule i_there i_rule i_size i_year i_gone i_minds i_lasts o_parent o_kind o_number o_odds o_above o_kidCount o_lead r_tape r_steps r_ends t_steps t_ends t_stack s_sort s_size s_items i_number i_odds x_prices x_facts x_laws x_clues) (xt_Ki o (WX o_size o_year o_gone o_minds o_lasts r_size r_token r_place r_at r_open r_made t_size t_rule i_there i_rule i_size i_year i_gone i_minds i_lasts o_parent o_kind o_number o_odds o_above o_kidCount o_lead r_tape r_steps r_ends t_steps t_ends t_stack s_sort s_size s_items i_number i_odds x_prices x_facts x_laws x_clues)) := by
  unfold sp_X3_holds at hm
  refine xt_M.go (own := RX3) (lv := [some (.ref 17), some (.int p1), some (.int p2), some (.int p3)]) rfl rfl (Nat.le_of_ble_eq_true rfl) rfl ?_
  refine x_iload2 eX3_holds_0 ?_
  refine x_if_lt eX3_holds_1 (fun c => ?_) (fun c => ?_)
  · rw [if_pos c] at hm
    refine x_k eX3_holds_24 ?_
    obtain rfl := Option.some.inj hm
    exact x_zret eX3_holds_25 (by decide) ⟨rfl, rfl⟩
  · rw [if_neg c] at hm
    refine x_iload3 eX3_holds_4 ?_
    refine x_if_lt eX3_holds_5 (fun c => ?_) (fun c => ?_)
    · rw [if_pos c] at hm
      refine x_k eX3_holds_24 ?_
      obtain rfl := Option.some.inj hm
      exact x_zret eX3_holds_25 (by decide) ⟨rfl, rfl⟩
    · rw [if_neg c] at hm
      refine x_iload2 eX3_holds_8 ?_
      refine x_aload0 eX3_holds_9 ?_
      refine x_get eX3_holds_10 fX3_15 rfl rfl ?_
      refine x_iload1 eX3_holds_13 ?_
      obtain ⟨v1, hv, hm⟩ := xo_bind hm
      obtain ⟨hi, rfl⟩ := xo_at_some hv
      refine x_iaload eX3_holds_14 rfl hi ?_
      refine x_iload3 eX3_holds_15 ?_
      refine x_isub eX3_holds_16 ?_
      refine x_icmp_gt eX3_holds_17 (fun c => ?_) (fun c => ?_)
      · rw [if_pos c] at hm
        refine x_k eX3_holds_24 ?_
        obtain rfl := Option.some.inj hm
        exact x_zret eX3_holds_25 (by decide) ⟨rfl, rfl⟩
      · rw [if_neg c] at hm
        refine x_k eX3_holds_20 ?_
        refine x_goto eX3_holds_21 ?_
        obtain rfl := Option.some.inj hm
        exact x_zret eX3_holds_25 (by decide) ⟨rfl, rfl⟩
set_option maxRecDepth 4000 in
theorem t_X3_read {o : Int32} {p1 : Int32} {p2 : Int32} (hm : sp_X3_read p1 p2 s_items = some o) : xt_M yX3_read cX3_read 3 (some .int) (d + 0) [.ref 17, .int p1, .int p2] (WX o_size o_year o_gone o_minds o_lasts r_size r_token r_place r_at r_open r_made t_size t_rule i_there i_rule i_size i_year i_gone i_minds i_lasts o_parent o_kind o_number o_odds o_above o_kidCount o_lead r_tape r_steps r_ends t_steps t_ends t_stack s_sort s_size s_items i_number i_odds x_prices x_facts x_laws x_clues) (xt_Ki o (WX o_size o_year o_gone o_minds o_lasts r_size r_token r_place r_at r_open r_made t_size t_rule i_there i_rule i_size i_year i_gone i_minds i_lasts o_parent o_kind o_number o_odds o_above o_kidCount o_lead r_tape r_steps r_ends t_steps t_ends t_stack s_sort s_size s_items i_number i_odds x_prices x_facts x_laws x_clues)) := by
  unfold sp_X3_read at hm
  refine xt_M.go (own := RX3) (lv := [some (.ref 17), some (.int p1), some (.int p2)]) rfl rfl (Nat.le_of_ble_eq_true rfl) rfl ?_
  refine x_aload0 eX3_read_0 ?_
  refine x_get eX3_read_1 fX3_18 rfl rfl ?_
  refine x_iload1 eX3_read_4 ?_
  refine x_k eX3_read_5 ?_
  refine x_imul eX3_read_7 ?_
  refine x_iload2 eX3_read_8 ?_
  refine x_iadd eX3_read_9 ?_
  obtain ⟨v1, hv, hm⟩ := xo_bind hm
  obtain ⟨hi, rfl⟩ := xo_at_some hv
  refine x_iaload eX3_read_10 rfl hi ?_
  obtain rfl := Option.some.inj hm
  exact x_iret eX3_read_11 ⟨rfl, rfl⟩
set_option maxRecDepth 4000 in
theorem t_X3_write {o : (Nat → Int32)} {p1 : Int32} {p2 : Int32} {p3 : Int32} (hm : sp_X3_write p1 p2 p3 s_sort s_items = some o) : xt_M yX3_write cX3_write 5 none (d + 0) [.ref 17, .int p1, .int p2, .int p3] (WX o_size o_year o_gone o_minds o_lasts r_size r_token r_place r_at r_open r_made t_size t_rule i_there i_rule i_size i_year i_gone i_minds i_lasts o_parent o_kind o_number o_odds o_above o_kidCount o_lead r_tape r_steps r_ends t_steps t_ends t_stack s_sort s_size s_items i_number i_odds x_prices x_facts x_laws x_clues) (xt_Kv (WX o_size o_year o_gone o_minds o_lasts r_size r_token r_place r_at r_open r_made t_size t_rule i_there i_rule i_size i_year i_gone i_minds i_lasts o_parent o_kind o_number o_odds o_above o_kidCount o_lead r_tape r_steps r_ends t_steps t_ends t_stack s_sort s_size o i_number i_odds x_prices x_facts x_laws x_clues)) := by
  unfold sp_X3_write at hm
  refine xt_M.go (own := RX3) (lv := [some (.ref 17), some (.int p1), some (.int p2), some (.int p3), none]) rfl rfl (Nat.le_of_ble_eq_true rfl) rfl ?_
  refine x_iload3 eX3_write_0 ?_
  refine x_istore4 eX3_write_1 rfl ?_
  refine x_aload0 eX3_write_3 ?_
  refine x_get eX3_write_4 fX3_9 rfl rfl ?_
  refine x_iload1 eX3_write_7 ?_
  obtain ⟨v1, hv, hm⟩ := xo_bind hm
  obtain ⟨hi, rfl⟩ := xo_at_some hv
  refine x_iaload eX3_write_8 rfl hi ?_
  refine x_if_ne eX3_write_9 (fun c => ?_) (fun c => ?_)
  · rw [if_neg c] at hm
    refine x_aload0 eX3_write_19 ?_
    refine x_get eX3_write_20 fX3_9 rfl rfl ?_
    refine x_iload1 eX3_write_23 ?_
    obtain ⟨v2, hv, hm⟩ := xo_bind hm
    obtain ⟨hi, rfl⟩ := xo_at_some hv
    refine x_iaload eX3_write_24 rfl hi ?_
    refine x_k eX3_write_25 ?_
    refine x_icmp_ne eX3_write_26 (fun c => ?_) (fun c => ?_)
    · rw [if_neg c] at hm
      refine x_aload0 eX3_write_33 ?_
      refine x_get eX3_write_34 fX3_18 rfl rfl ?_
      refine x_iload1 eX3_write_37 ?_
      refine x_k eX3_write_38 ?_
      refine x_imul eX3_write_40 ?_
      refine x_iload2 eX3_write_41 ?_
      refine x_iadd eX3_write_42 ?_
      refine x_iload4 eX3_write_43 ?_
      obtain ⟨f3, hv, hm⟩ := xo_bind hm
      obtain ⟨hi, rfl⟩ := xo_set_some hv
      refine x_iastore (w' := WX _ _ _ _ _ _ _ _ _ _ _ _ _ _ _ _ _ _ _ _ _ _ _ _ _ _ _ _ _ _ _ _ _ _ _ _ _ _ _ _ _ _) eX3_write_45 rfl hi rfl ?_
      obtain rfl := Option.some.inj hm
      exact x_vret eX3_write_46 ⟨rfl, rfl⟩
    · rw [if_pos c] at hm
      refine x_iload3 eX3_write_29 ?_
      refine x_i2s eX3_write_30 ?_
      refine x_istore4 eX3_write_31 rfl ?_
      refine x_aload0 eX3_write_33 ?_
      refine x_get eX3_write_34 fX3_18 rfl rfl ?_
      refine x_iload1 eX3_write_37 ?_
      refine x_k eX3_write_38 ?_
      refine x_imul eX3_write_40 ?_
      refine x_iload2 eX3_write_41 ?_
      refine x_iadd eX3_write_42 ?_
      refine x_iload4 eX3_write_43 ?_
      obtain ⟨f4, hv, hm⟩ := xo_bind hm
      obtain ⟨hi, rfl⟩ := xo_set_some hv
      refine x_iastore (w' := WX _ _ _ _ _ _ _ _ _ _ _ _ _ _ _ _ _ _ _ _ _ _ _ _ _ _ _ _ _ _ _ _ _ _ _ _ _ _ _ _ _ _) eX3_write_45 rfl hi rfl ?_
      obtain rfl := Option.some.inj hm
      exact x_vret eX3_write_46 ⟨rfl, rfl⟩
  · rw [if_pos c] at hm
    refine x_iload3 eX3_write_12 ?_
    refine x_i2b eX3_write_13 ?_
    refine x_istore4 eX3_write_14 rfl ?_
    refine x_goto eX3_write_16 ?_
    refine x_aload0 eX3_write_33 ?_
    refine x_get eX3_write_34 fX3_18 rfl rfl ?_
    refine x_iload1 eX3_write_37 ?_
    refine x_k eX3_write_38 ?_
    refine x_imul eX3_write_40 ?_
    refine x_iload2 eX3_write_41 ?_
    refine x_iadd eX3_write_42 ?_
    refine x_iload4 eX3_write_43 ?_
    obtain ⟨f5, hv, hm⟩ := xo_bind hm
    obtain ⟨hi, rfl⟩ := xo_set_some hv
    refine x_iastore (w' := WX _ _ _ _ _ _ _ _ _ _ _ _ _ _ _ _ _ _ _ _ _ _ _ _ _ _ _ _ _ _ _ _ _ _ _ _ _ _ _ _ _ _) eX3_write_45 rfl hi rfl ?_
    obtain rfl := Option.some.inj hm
    exact x_vret eX3_write_46 ⟨rfl, rfl⟩
set_option maxRecDepth 4000 in
theorem t_X3_move {o : (Nat → Int32)} {p1 : Int32} {p2 : Int32} {p3 : Int32} {p4 : Int32} {p5 : Int32} (hm : sp_X3_move p1 p2 p3 p4 p5 s_items = some o) : xt_M yX3_move cX3_move 6 none (d + 1) [.ref 17, .int p1, .int p2, .int p3, .int p4, .int p5] (WX o_size o_year o_gone o_minds o_lasts r_size r_token r_place r_at r_open r_made t_size t_rule i_there i_rule i_size i_year i_gone i_minds i_lasts o_parent o_kind o_number o_odds o_above o_kidCount o_lead r_tape r_steps r_ends t_steps t_ends t_stack s_sort s_size s_items i_number i_odds x_prices x_facts x_laws x_clues) (xt_Kv (WX o_size o_year o_gone o_minds o_lasts r_size r_token r_place r_at r_open r_made t_size t_rule i_there i_rule i_size i_year i_gone i_minds i_lasts o_parent o_kind o_number o_odds o_above o_kidCount o_lead r_tape r_steps r_ends t_steps t_ends t_stack s_sort s_size o i_number i_odds x_prices x_facts x_laws x_clues)) := by
  unfold sp_X3_move at hm
  refine xt_M.go (own := RX3) (lv := [some (.ref 17), some (.int p1), some (.int p2), some (.int p3), some (.int p4), some (.int p5)]) rfl rfl (Nat.le_of_ble_eq_true rfl) rfl ?_
  refine x_aload0 eX3_move_0 ?_
  refine x_get eX3_move_1 fX3_18 rfl rfl ?_
  refine x_iload1 eX3_move_4 ?_
  refine x_k eX3_move_5 ?_
  refine x_imul eX3_move_7 ?_
  refine x_iload2 eX3_move_8 ?_
  refine x_iadd eX3_move_9 ?_
  refine x_aload0 eX3_move_10 ?_
  refine x_get eX3_move_11 fX3_18 rfl rfl ?_
  refine x_iload3 eX3_move_14 ?_
  refine x_k eX3_move_15 ?_
  refine x_imul eX3_move_17 ?_
  refine x_iload4 eX3_move_18 ?_
  refine x_iadd eX3_move_20 ?_
  refine x_iload5 eX3_move_21 ?_
  obtain ⟨f1, hv, hm⟩ := xo_bind hm
  obtain ⟨h1, h2, h3, h4, h5, rfl⟩ := xo_cpy_some hv
  refine x_acopy (w' := WX _ _ _ _ _ _ _ _ _ _ _ _ _ _ _ _ _ _ _ _ _ _ _ _ _ _ _ _ _ _ _ _ _ _ _ _ _ _ _ _ _ _) eX3_move_23 aX3_27 rfl rfl h1 h2 h3 h4 h5 (Nat.le_of_ble_eq_true rfl) rfl ?_
  obtain rfl := Option.some.inj hm
  exact x_vret eX3_move_26 ⟨rfl, rfl⟩
set_option maxRecDepth 4000 in
theorem l_X4_add_p9_37 {o : Int32 × Int32 × (Nat → Int32) × (Nat → Int32)} {r_ends : Nat → Int32} : ∀ (n : Nat) {u2 : Int32} {t_size : Int32} {t_steps : Nat → Int32} {t_ends : Nat → Int32}, sp_X4_add_p9_37 r_ends n u2 t_size t_steps t_ends = some o → xt_T RX4 cX4_add 3 (some .int) (d + 1) (xt_Ki o.1 (WX o_size o_year o_gone o_minds o_lasts r_size r_token r_place r_at r_open r_made o.2.1 t_rule i_there i_rule i_size i_year i_gone i_minds i_lasts o_parent o_kind o_number o_odds o_above o_kidCount o_lead r_tape r_steps r_ends o.2.2.1 o.2.2.2 t_stack s_sort s_size s_items i_number i_odds x_prices x_facts x_laws x_clues)) 37 [some (.ref 13), some (.ref 9), some (.int u2)] [] (WX o_size o_year o_gone o_minds o_lasts r_size r_token r_place r_at r_open r_made t_size t_rule i_there i_rule i_size i_year i_gone i_minds i_lasts o_parent o_kind o_number o_odds o_above o_kidCount o_lead r_tape r_steps r_ends t_steps t_ends t_stack s_sort s_size s_items i_number i_odds x_prices x_facts x_laws x_clues) := by
  intro n
  induction n with
  | zero => intro u2 t_size t_steps t_ends hm; rw [sp_X4_add_p9_37] at hm; cases hm
  | succ n ih =>
    intro u2 t_size t_steps t_ends hm
    rw [sp_X4_add_p9_37] at hm
    refine x_iload2 eX4_add_37 ?_
    refine x_k eX4_add_38 ?_
    refine x_icmp_ge eX4_add_39 (fun c => ?_) (fun c => ?_)
    · rw [if_pos c] at hm
      refine x_aload0 eX4_add_76 ?_
      refine x_dup eX4_add_77 rfl ?_
      refine x_get eX4_add_78 fX4_9 rfl rfl ?_
      refine x_k eX4_add_81 ?_
      refine x_iadd eX4_add_82 ?_
      refine x_puti (w' := WX _ _ _ _ _ _ _ _ _ _ _ _ _ _ _ _ _ _ _ _ _ _ _ _ _ _ _ _ _ _ _ _ _ _ _ _ _ _ _ _ _ _) eX4_add_83 pX4_9 rfl (Nat.le_of_ble_eq_true rfl) rfl ?_
      refine x_aload0 eX4_add_86 ?_
      refine x_get eX4_add_87 fX4_9 rfl rfl ?_
      refine x_k eX4_add_90 ?_
      refine x_isub eX4_add_91 ?_
      obtain rfl := Option.some.inj hm
      exact x_iret eX4_add_92 ⟨rfl, rfl⟩
    · rw [if_neg c] at hm
      refine x_aload0 eX4_add_42 ?_
      refine x_get eX4_add_43 fX4_22 rfl rfl ?_
      refine x_aload0 eX4_add_46 ?_
      refine x_get eX4_add_47 fX4_9 rfl rfl ?_
      refine x_k eX4_add_50 ?_
      refine x_imul eX4_add_51 ?_
      refine x_iload2 eX4_add_52 ?_
      refine x_iadd eX4_add_53 ?_
      refine x_aload0 eX4_add_54 ?_
      refine x_get eX4_add_55 fX4_9 rfl rfl ?_
      refine x_k eX4_add_58 ?_
      refine x_imul eX4_add_61 ?_
      refine x_aload1 eX4_add_62 ?_
      refine x_get eX4_add_63 fX4_37 rfl rfl ?_
      refine x_iload2 eX4_add_66 ?_
      obtain ⟨v2, hv, hm⟩ := xo_bind hm
      obtain ⟨hi, rfl⟩ := xo_at_some hv
      refine x_iaload eX4_add_67 rfl hi ?_
      refine x_iadd eX4_add_68 ?_
      obtain ⟨f3, hv, hm⟩ := xo_bind hm
      obtain ⟨hi, rfl⟩ := xo_set_some hv
      refine x_iastore (w' := WX _ _ _ _ _ _ _ _ _ _ _ _ _ _ _ _ _ _ _ _ _ _ _ _ _ _ _ _ _ _ _ _ _ _ _ _ _ _ _ _ _ _) eX4_add_69 rfl hi rfl ?_
      refine x_iinc2 eX4_add_70 rfl ?_
      refine x_goto eX4_add_73 ?_
      exact ih hm
set_option maxRecDepth 4000 in
theorem t_X4_add_p9 {o : Int32 × Int32 × (Nat → Int32) × (Nat → Int32)}  (hm : sp_X4_add_p9 t_size r_steps r_ends t_steps t_ends = some o) : xt_M yX4_add cX4_add 3 (some .int) (d + 1) [.ref 13, .ref 9] (WX o_size o_year o_gone o_minds o_lasts r_size r_token r_place r_at r_open r_made t_size t_rule i_there i_rule i_size i_year i_gone i_minds i_lasts o_parent o_kind o_number o_odds o_above o_kidCount o_lead r_tape r_steps r_ends t_steps t_ends t_stack s_sort s_size s_items i_number i_odds x_prices x_facts x_laws x_clues) (xt_Ki o.1 (WX o_size o_year o_gone o_minds o_lasts r_size r_token r_place r_at r_open r_made o.2.1 t_rule i_there i_rule i_size i_year i_gone i_minds i_lasts o_parent o_kind o_number o_odds o_above o_kidCount o_lead r_tape r_steps r_ends o.2.2.1 o.2.2.2 t_stack s_sort s_size s_items i_number i_odds x_prices x_facts x_laws x_clues)) := by
  unfold sp_X4_add_p9 at hm
  refine xt_M.go (own := RX4) (lv := [some (.ref 13), some (.ref 9), none]) rfl rfl (Nat.le_of_ble_eq_true rfl) rfl ?_
  refine x_aload0 eX4_add_0 ?_
  refine x_get eX4_add_1 fX4_9 rfl rfl ?_
  refine x_k eX4_add_4 ?_
  refine x_icmp_lt eX4_add_6 (fun c => ?_) (fun c => ?_)
  · rw [if_pos c] at hm
    refine x_aload1 eX4_add_12 ?_
    refine x_get eX4_add_13 fX4_28 rfl rfl ?_
    refine x_k eX4_add_16 ?_
    refine x_aload0 eX4_add_17 ?_
    refine x_get eX4_add_18 fX4_18 rfl rfl ?_
    refine x_aload0 eX4_add_21 ?_
    refine x_get eX4_add_22 fX4_9 rfl rfl ?_
    refine x_k eX4_add_25 ?_
    refine x_imul eX4_add_28 ?_
    refine x_k eX4_add_29 ?_
    obtain ⟨f1, hv, hm⟩ := xo_bind hm
    obtain ⟨h1, h2, h3, h4, h5, rfl⟩ := xo_cpy_some hv
    refine x_acopy (w' := WX _ _ _ _ _ _ _ _ _ _ _ _ _ _ _ _ _ _ _ _ _ _ _ _ _ _ _ _ _ _ _ _ _ _ _ _ _ _ _ _ _ _) eX4_add_32 aX4_31 rfl rfl h1 h2 h3 h4 h5 (Nat.le_of_ble_eq_true rfl) rfl ?_
    refine x_k eX4_add_35 ?_
    refine x_istore2 eX4_add_36 rfl ?_
    exact l_X4_add_p9_37 _ hm
  · rw [if_neg c] at hm
    refine x_k eX4_add_9 ?_
    obtain rfl := Option.some.inj hm
    exact x_iret eX4_add_11 ⟨rfl, rfl⟩
set_option maxRecDepth 4000 in
theorem t_X4_truth {o : Int32} {p1 : Int32} (hm : sp_X4_truth p1 = o) : xt_M yX4_truth cX4_truth 1 (some .int) (d + 0) [.int p1] (WX o_size o_year o_gone o_minds o_lasts r_size r_token r_place r_at r_open r_made t_size t_rule i_there i_rule i_size i_year i_gone i_minds i_lasts o_parent o_kind o_number o_odds o_above o_kidCount o_lead r_tape r_steps r_ends t_steps t_ends t_stack s_sort s_size s_items i_number i_odds x_prices x_facts x_laws x_clues) (xt_Ki o (WX o_size o_year o_gone o_minds o_lasts r_size r_token r_place r_at r_open r_made t_size t_rule i_there i_rule i_size i_year i_gone i_minds i_lasts o_parent o_kind o_number o_odds o_above o_kidCount o_lead r_tape r_steps r_ends t_steps t_ends t_stack s_sort s_size s_items i_number i_odds x_prices x_facts x_laws x_clues)) := by
  unfold sp_X4_truth at hm
  refine xt_M.go (own := RX4) (lv := [some (.int p1)]) rfl rfl (Nat.le_of_ble_eq_true rfl) rfl ?_
  refine x_iload0 eX4_truth_0 ?_
  refine x_if_eq eX4_truth_1 (fun c => ?_) (fun c => ?_)
  · rw [if_pos c] at hm
    refine x_k eX4_truth_8 ?_
    subst hm
    exact x_iret eX4_truth_9 ⟨rfl, rfl⟩
  · rw [if_neg c] at hm
    refine x_k eX4_truth_4 ?_
    refine x_goto eX4_truth_5 ?_
    subst hm
    exact x_iret eX4_truth_9 ⟨rfl, rfl⟩
set_option maxRecDepth 4000 in
theorem t_X4_joined {o : Int32} {p1 : Int32} {p2 : Int32} {p3 : Int32} (hm : sp_X4_joined p1 p2 p3 = o) : xt_M yX4_joined cX4_joined 3 (some .int) (d + 1) [.int p1, .int p2, .int p3] (WX o_size o_year o_gone o_minds o_lasts r_size r_token r_place r_at r_open r_made t_size t_rule i_there i_rule i_size i_year i_gone i_minds i_lasts o_parent o_kind o_number o_odds o_above o_kidCount o_lead r_tape r_steps r_ends t_steps t_ends t_stack s_sort s_size s_items i_number i_odds x_prices x_facts x_laws x_clues) (xt_Ki o (WX o_size o_year o_gone o_minds o_lasts r_size r_token r_place r_at r_open r_made t_size t_rule i_there i_rule i_size i_year i_gone i_minds i_lasts o_parent o_kind o_number o_odds o_above o_kidCount o_lead r_tape r_steps r_ends t_steps t_ends t_stack s_sort s_size s_items i_number i_odds x_prices x_facts x_laws x_clues)) := by
  unfold sp_X4_joined at hm
  refine xt_M.go (own := RX4) (lv := [some (.int p1), some (.int p2), some (.int p3)]) rfl rfl (Nat.le_of_ble_eq_true rfl) rfl ?_
  refine x_iload0 eX4_joined_0 ?_
  refine x_sw eX4_joined_1 (xt_sw_cons (fun c => ?_) (fun d0 => (xt_sw_cons (fun c => ?_) (fun d1 => (xt_sw_cons (fun c => ?_) (fun d2 => (xt_sw_cons (fun c => ?_) (fun d3 => (xt_sw_cons (fun c => ?_) (fun d4 => (xt_sw_cons (fun c => ?_) (fun d5 => (xt_sw_cons (fun c => ?_) (fun d6 => (xt_sw_cons (fun c => ?_) (fun d7 => (xt_sw_cons (fun c => ?_) (fun d8 => (xt_sw_cons (fun c => ?_) (fun d9 => (xt_sw_cons (fun c => ?_) (fun d10 => (xt_sw_cons (fun c => ?_) (fun d11 => (xt_sw_cons (fun c => ?_) (fun d12 => (xt_sw_cons (fun c => ?_) (fun d13 => (xt_sw_cons (fun c => ?_) (fun d14 => (xt_sw_nil ?_)))))))))))))))))))))))))))))))
  · rw [if_pos c] at hm
    refine x_iload1 eX4_joined_76 ?_
    refine x_if_ne eX4_joined_77 (fun c => ?_) (fun c => ?_)
    · rw [if_neg c] at hm
      refine x_k eX4_joined_84 ?_
      refine x_goto eX4_joined_85 ?_
      refine x_Si1 eX4_joined_89 kX4_truth mX4_38 (t_X4_truth rfl) (Nat.le_of_ble_eq_true rfl) ?_
      subst hm
      exact x_iret eX4_joined_92 ⟨rfl, rfl⟩
    · rw [if_pos c] at hm
      refine x_iload2 eX4_joined_80 ?_
      refine x_if_eq eX4_joined_81 (fun c => ?_) (fun c => ?_)
      · rw [if_pos c] at hm
        refine x_k eX4_joined_88 ?_
        refine x_Si1 eX4_joined_89 kX4_truth mX4_38 (t_X4_truth rfl) (Nat.le_of_ble_eq_true rfl) ?_
        subst hm
        exact x_iret eX4_joined_92 ⟨rfl, rfl⟩
      · rw [if_neg c] at hm
        refine x_k eX4_joined_84 ?_
        refine x_goto eX4_joined_85 ?_
        refine x_Si1 eX4_joined_89 kX4_truth mX4_38 (t_X4_truth rfl) (Nat.le_of_ble_eq_true rfl) ?_
        subst hm
        exact x_iret eX4_joined_92 ⟨rfl, rfl⟩
  · rw [if_neg d0, if_pos c] at hm
    refine x_iload1 eX4_joined_93 ?_
    refine x_if_eq eX4_joined_94 (fun c => ?_) (fun c => ?_)
    · rw [if_pos c] at hm
      refine x_k eX4_joined_105 ?_
      refine x_Si1 eX4_joined_106 kX4_truth mX4_38 (t_X4_truth rfl) (Nat.le_of_ble_eq_true rfl) ?_
      subst hm
      exact x_iret eX4_joined_109 ⟨rfl, rfl⟩
    · rw [if_neg c] at hm
      refine x_iload2 eX4_joined_97 ?_
      refine x_if_eq eX4_joined_98 (fun c => ?_) (fun c => ?_)
      · rw [if_pos c] at hm
        refine x_k eX4_joined_105 ?_
        refine x_Si1 eX4_joined_106 kX4_truth mX4_38 (t_X4_truth rfl) (Nat.le_of_ble_eq_true rfl) ?_
        subst hm
        exact x_iret eX4_joined_109 ⟨rfl, rfl⟩
      · rw [if_neg c] at hm
        refine x_k eX4_joined_101 ?_
        refine x_goto eX4_joined_102 ?_
        refine x_Si1 eX4_joined_106 kX4_truth mX4_38 (t_X4_truth rfl) (Nat.le_of_ble_eq_true rfl) ?_
        subst hm
        exact x_iret eX4_joined_109 ⟨rfl, rfl⟩
  · rw [if_neg d0, if_neg d1, if_pos c] at hm
    refine x_iload1 eX4_joined_146 ?_
    refine x_iload2 eX4_joined_147 ?_
    refine x_imul eX4_joined_148 ?_
    subst hm
    exact x_iret eX4_joined_149 ⟨rfl, rfl⟩
  · rw [if_neg d0, if_neg d1, if_neg d2, if_pos c] at hm
    refine x_iload1 eX4_joined_146 ?_
    refine x_iload2 eX4_joined_147 ?_
    refine x_imul eX4_joined_148 ?_
    subst hm
    exact x_iret eX4_joined_149 ⟨rfl, rfl⟩
  · rw [if_neg d0, if_neg d1, if_neg d2, if_neg d3, if_pos c] at hm
    refine x_iload1 eX4_joined_146 ?_
    refine x_iload2 eX4_joined_147 ?_
    refine x_imul eX4_joined_148 ?_
    subst hm
    exact x_iret eX4_joined_149 ⟨rfl, rfl⟩
  · rw [if_neg d0, if_neg d1, if_neg d2, if_neg d3, if_neg d4, if_pos c] at hm
    refine x_iload1 eX4_joined_146 ?_
    refine x_iload2 eX4_joined_147 ?_
    refine x_imul eX4_joined_148 ?_
    subst hm
    exact x_iret eX4_joined_149 ⟨rfl, rfl⟩
  · rw [if_neg d0, if_neg d1, if_neg d2, if_neg d3, if_neg d4, if_neg d5, if_pos c] at hm
    refine x_iload1 eX4_joined_146 ?_
    refine x_iload2 eX4_joined_147 ?_
    refine x_imul eX4_joined_148 ?_
    subst hm
    exact x_iret eX4_joined_149 ⟨rfl, rfl⟩
  · rw [if_neg d0, if_neg d1, if_neg d2, if_neg d3, if_neg d4, if_neg d5, if_neg d6, if_pos c] at hm
    refine x_iload1 eX4_joined_146 ?_
    refine x_iload2 eX4_joined_147 ?_
    refine x_imul eX4_joined_148 ?_
    subst hm
    exact x_iret eX4_joined_149 ⟨rfl, rfl⟩
  · rw [if_neg d0, if_neg d1, if_neg d2, if_neg d3, if_neg d4, if_neg d5, if_neg d6, if_neg d7, if_pos c] at hm
    refine x_iload1 eX4_joined_146 ?_
    refine x_iload2 eX4_joined_147 ?_
    refine x_imul eX4_joined_148 ?_
    subst hm
    exact x_iret eX4_joined_149 ⟨rfl, rfl⟩
  · rw [if_neg d0, if_neg d1, if_neg d2, if_neg d3, if_neg d4, if_neg d5, if_neg d6, if_neg d7, if_neg d8, if_pos c] at hm
    refine x_iload1 eX4_joined_146 ?_
    refine x_iload2 eX4_joined_147 ?_
    refine x_imul eX4_joined_148 ?_
    subst hm
    exact x_iret eX4_joined_149 ⟨rfl, rfl⟩
  · rw [if_neg d0, if_neg d1, if_neg d2, if_neg d3, if_neg d4, if_neg d5, if_neg d6, if_neg d7, if_neg d8, if_neg d9, if_pos c] at hm
    refine x_iload1 eX4_joined_138 ?_
    refine x_iload2 eX4_joined_139 ?_
    refine x_iadd eX4_joined_140 ?_
    subst hm
    exact x_iret eX4_joined_141 ⟨rfl, rfl⟩
  · rw [if_neg d0, if_neg d1, if_neg d2, if_neg d3, if_neg d4, if_neg d5, if_neg d6, if_neg d7, if_neg d8, if_neg d9, if_neg d10, if_pos c] at hm
    refine x_iload1 eX4_joined_142 ?_
    refine x_iload2 eX4_joined_143 ?_
    refine x_isub eX4_joined_144 ?_
    subst hm
    exact x_iret eX4_joined_145 ⟨rfl, rfl⟩
  · rw [if_neg d0, if_neg d1, if_neg d2, if_neg d3, if_neg d4, if_neg d5, if_neg d6, if_neg d7, if_neg d8, if_neg d9, if_neg d10, if_neg d11, if_pos c] at hm
    refine x_iload1 eX4_joined_146 ?_
    refine x_iload2 eX4_joined_147 ?_
    refine x_imul eX4_joined_148 ?_
    subst hm
    exact x_iret eX4_joined_149 ⟨rfl, rfl⟩
  · rw [if_neg d0, if_neg d1, if_neg d2, if_neg d3, if_neg d4, if_neg d5, if_neg d6, if_neg d7, if_neg d8, if_neg d9, if_neg d10, if_neg d11, if_neg d12, if_pos c] at hm
    refine x_iload1 eX4_joined_110 ?_
    refine x_iload2 eX4_joined_111 ?_
    refine x_icmp_ge eX4_joined_112 (fun c => ?_) (fun c => ?_)
    · rw [if_pos c] at hm
      refine x_k eX4_joined_119 ?_
      refine x_Si1 eX4_joined_120 kX4_truth mX4_38 (t_X4_truth rfl) (Nat.le_of_ble_eq_true rfl) ?_
      subst hm
      exact x_iret eX4_joined_123 ⟨rfl, rfl⟩
    · rw [if_neg c] at hm
      refine x_k eX4_joined_115 ?_
      refine x_goto eX4_joined_116 ?_
      refine x_Si1 eX4_joined_120 kX4_truth mX4_38 (t_X4_truth rfl) (Nat.le_of_ble_eq_true rfl) ?_
      subst hm
      exact x_iret eX4_joined_123 ⟨rfl, rfl⟩
  · rw [if_neg d0, if_neg d1, if_neg d2, if_neg d3, if_neg d4, if_neg d5, if_neg d6, if_neg d7, if_neg d8, if_neg d9, if_neg d10, if_neg d11, if_neg d12, if_neg d13, if_pos c] at hm
    refine x_iload1 eX4_joined_124 ?_
    refine x_iload2 eX4_joined_125 ?_
    refine x_icmp_ne eX4_joined_126 (fun c => ?_) (fun c => ?_)
    · rw [if_neg c] at hm
      refine x_k eX4_joined_133 ?_
      refine x_Si1 eX4_joined_134 kX4_truth mX4_38 (t_X4_truth rfl) (Nat.le_of_ble_eq_true rfl) ?_
      subst hm
      exact x_iret eX4_joined_137 ⟨rfl, rfl⟩
    · rw [if_pos c] at hm
      refine x_k eX4_joined_129 ?_
      refine x_goto eX4_joined_130 ?_
      refine x_Si1 eX4_joined_134 kX4_truth mX4_38 (t_X4_truth rfl) (Nat.le_of_ble_eq_true rfl) ?_
      subst hm
      exact x_iret eX4_joined_137 ⟨rfl, rfl⟩
  · rw [if_neg d0, if_neg d1, if_neg d2, if_neg d3, if_neg d4, if_neg d5, if_neg d6, if_neg d7, if_neg d8, if_neg d9, if_neg d10, if_neg d11, if_neg d12, if_neg d13, if_neg d14] at hm
    refine x_iload1 eX4_joined_146 ?_
    refine x_iload2 eX4_joined_147 ?_
    refine x_imul eX4_joined_148 ?_
    subst hm
    exact x_iret eX4_joined_149 ⟨rfl, rfl⟩
set_option maxRecDepth 4000 in
theorem l_X4_value_p25_52 {o : Int32 × (Nat → Int32)} {u4 : Int32} {t_steps : Nat → Int32} {x_facts : Nat → Int32} {u1 : Int32} {u3 : Int32} : ∀ (n : Nat) {u5 : Int32} {u6 : Int32} {t_stack : Nat → Int32}, sp_X4_value_p25_52 u4 t_steps x_facts n u5 u6 t_stack = some o → xt_T RX4 cX4_value 9 (some .int) (d + 2) (xt_Ki o.1 (WX o_size o_year o_gone o_minds o_lasts r_size r_token r_place r_at r_open r_made t_size t_rule i_there i_rule i_size i_year i_gone i_minds i_lasts o_parent o_kind o_number o_odds o_above o_kidCount o_lead r_tape r_steps r_ends t_steps t_ends o.2 s_sort s_size s_items i_number i_odds x_prices x_facts x_laws x_clues)) 52 [some (.ref 13), some (.int u1), some (.ref 25), some (.int u3), some (.int u4), some (.int u5), some (.int u6), none, none] [] (WX o_size o_year o_gone o_minds o_lasts r_size r_token r_place r_at r_open r_made t_size t_rule i_there i_rule i_size i_year i_gone i_minds i_lasts o_parent o_kind o_number o_odds o_above o_kidCount o_lead r_tape r_steps r_ends t_steps t_ends t_stack s_sort s_size s_items i_number i_odds x_prices x_facts x_laws x_clues) := by
  intro n
  induction n with
  | zero => intro u5 u6 t_stack hm; rw [sp_X4_value_p25_52] at hm; cases hm
  | succ n ih =>
    intro u5 u6 t_stack hm
    rw [sp_X4_value_p25_52] at hm
    refine x_iload6 eX4_value_52 ?_
    refine x_iload4 eX4_value_54 ?_
    refine x_icmp_ge eX4_value_56 (fun c => ?_) (fun c => ?_)
    · rw [if_pos c] at hm
      refine x_iload5 eX4_value_243 ?_
      refine x_k eX4_value_245 ?_
      refine x_icmp_ne eX4_value_246 (fun c => ?_) (fun c => ?_)
      · rw [if_neg c] at hm
        refine x_k eX4_value_258 ?_
        obtain rfl := Option.some.inj hm
        exact x_iret eX4_value_259 ⟨rfl, rfl⟩
      · rw [if_pos c] at hm
        refine x_aload0 eX4_value_249 ?_
        refine x_get eX4_value_250 fX4_25 rfl rfl ?_
        refine x_k eX4_value_253 ?_
        obtain ⟨v3, hv, hm⟩ := xo_bind hm
        obtain ⟨hi, rfl⟩ := xo_at_some hv
        refine x_iaload eX4_value_254 rfl hi ?_
        refine x_goto eX4_value_255 ?_
        obtain rfl := Option.some.inj hm
        exact x_iret eX4_value_259 ⟨rfl, rfl⟩
    · rw [if_neg c] at hm
      refine x_aload0 eX4_value_59 ?_
      refine x_get eX4_value_60 fX4_18 rfl rfl ?_
      refine x_iload6 eX4_value_63 ?_
      obtain ⟨v4, hv, hm⟩ := xo_bind hm
      obtain ⟨hi, rfl⟩ := xo_at_some hv
      refine x_iaload eX4_value_65 rfl hi ?_
      refine x_istore7 eX4_value_66 rfl ?_
      refine x_iload7 eX4_value_68 ?_
      refine x_k eX4_value_70 ?_
      refine x_icmp_ge eX4_value_73 (fun c => ?_) (fun c => ?_)
      · rw [if_pos c] at hm
        refine x_iload7 eX4_value_122 ?_
        refine x_k eX4_value_124 ?_
        refine x_icmp_eq eX4_value_127 (fun c => ?_) (fun c => ?_)
        · rw [if_pos c] at hm
          refine x_iload5 eX4_value_138 ?_
          refine x_k eX4_value_140 ?_
          refine x_icmp_ge eX4_value_141 (fun c => ?_) (fun c => ?_)
          · rw [if_pos c] at hm
            refine x_aload0 eX4_value_146 ?_
            refine x_get eX4_value_147 fX4_25 rfl rfl ?_
            refine x_iload5 eX4_value_150 ?_
            refine x_k eX4_value_152 ?_
            refine x_isub eX4_value_153 ?_
            obtain ⟨v5, hv, hm⟩ := xo_bind hm
            obtain ⟨hi, rfl⟩ := xo_at_some hv
            refine x_iaload eX4_value_154 rfl hi ?_
            refine x_istore8 eX4_value_155 rfl ?_
            refine x_aload0 eX4_value_157 ?_
            refine x_get eX4_value_158 fX4_25 rfl rfl ?_
            refine x_iload5 eX4_value_161 ?_
            refine x_k eX4_value_163 ?_
            refine x_isub eX4_value_164 ?_
            refine x_iload7 eX4_value_165 ?_
            refine x_k eX4_value_167 ?_
            refine x_icmp_ne eX4_value_170 (fun c => ?_) (fun c => ?_)
            · rw [if_neg c] at hm
              refine x_iload8 eX4_value_179 ?_
              refine x_if_ne eX4_value_181 (fun c => ?_) (fun c => ?_)
              · rw [if_neg c] at hm
                refine x_k eX4_value_188 ?_
                refine x_Si1 eX4_value_189 kX4_truth mX4_38 (t_X4_truth rfl) (Nat.le_of_ble_eq_true rfl) ?_
                obtain ⟨f6, hv, hm⟩ := xo_bind hm
                obtain ⟨hi, rfl⟩ := xo_set_some hv
                refine x_iastore (w' := WX _ _ _ _ _ _ _ _ _ _ _ _ _ _ _ _ _ _ _ _ _ _ _ _ _ _ _ _ _ _ _ _ _ _ _ _ _ _ _ _ _ _) eX4_value_192 rfl hi rfl ?_
                refine x_goto eX4_value_193 ?_
                refine x_iinc6 eX4_value_237 rfl ?_
                refine x_goto eX4_value_240 ?_
                exact x_weak (by simp [xt_le]) (ih hm)
              · rw [if_pos c] at hm
                refine x_k eX4_value_184 ?_
                refine x_goto eX4_value_185 ?_
                refine x_Si1 eX4_value_189 kX4_truth mX4_38 (t_X4_truth rfl) (Nat.le_of_ble_eq_true rfl) ?_
                obtain ⟨f7, hv, hm⟩ := xo_bind hm
                obtain ⟨hi, rfl⟩ := xo_set_some hv
                refine x_iastore (w' := WX _ _ _ _ _ _ _ _ _ _ _ _ _ _ _ _ _ _ _ _ _ _ _ _ _ _ _ _ _ _ _ _ _ _ _ _ _ _ _ _ _ _) eX4_value_192 rfl hi rfl ?_
                refine x_goto eX4_value_193 ?_
                refine x_iinc6 eX4_value_237 rfl ?_
                refine x_goto eX4_value_240 ?_
                exact x_weak (by simp [xt_le]) (ih hm)
            · rw [if_pos c] at hm
              refine x_iload8 eX4_value_173 ?_
              refine x_ineg eX4_value_175 ?_
              refine x_goto eX4_value_176 ?_
              obtain ⟨f8, hv, hm⟩ := xo_bind hm
              obtain ⟨hi, rfl⟩ := xo_set_some hv
              refine x_iastore (w' := WX _ _ _ _ _ _ _ _ _ _ _ _ _ _ _ _ _ _ _ _ _ _ _ _ _ _ _ _ _ _ _ _ _ _ _ _ _ _ _ _ _ _) eX4_value_192 rfl hi rfl ?_
              refine x_goto eX4_value_193 ?_
              refine x_iinc6 eX4_value_237 rfl ?_
              refine x_goto eX4_value_240 ?_
              exact x_weak (by simp [xt_le]) (ih hm)
          · rw [if_neg c] at hm
            refine x_k eX4_value_144 ?_
            obtain rfl := Option.some.inj hm
            exact x_iret eX4_value_145 ⟨rfl, rfl⟩
        · rw [if_neg c] at hm
          refine x_iload7 eX4_value_130 ?_
          refine x_k eX4_value_132 ?_
          refine x_icmp_ne eX4_value_135 (fun c => ?_) (fun c => ?_)
          · rw [if_neg c] at hm
            refine x_iload5 eX4_value_196 ?_
            refine x_k eX4_value_198 ?_
            refine x_icmp_ge eX4_value_199 (fun c => ?_) (fun c => ?_)
            · rw [if_pos c] at hm
              refine x_iinc5 eX4_value_204 rfl ?_
              refine x_aload0 eX4_value_207 ?_
              refine x_get eX4_value_208 fX4_25 rfl rfl ?_
              refine x_iload5 eX4_value_211 ?_
              refine x_k eX4_value_213 ?_
              refine x_isub eX4_value_214 ?_
              refine x_iload7 eX4_value_215 ?_
              refine x_aload0 eX4_value_217 ?_
              refine x_get eX4_value_218 fX4_25 rfl rfl ?_
              refine x_iload5 eX4_value_221 ?_
              refine x_k eX4_value_223 ?_
              refine x_isub eX4_value_224 ?_
              obtain ⟨v9, hv, hm⟩ := xo_bind hm
              obtain ⟨hi, rfl⟩ := xo_at_some hv
              refine x_iaload eX4_value_225 rfl hi ?_
              refine x_aload0 eX4_value_226 ?_
              refine x_get eX4_value_227 fX4_25 rfl rfl ?_
              refine x_iload5 eX4_value_230 ?_
              obtain ⟨v10, hv, hm⟩ := xo_bind hm
              obtain ⟨hi, rfl⟩ := xo_at_some hv
              refine x_iaload eX4_value_232 rfl hi ?_
              refine x_Si3 eX4_value_233 kX4_joined mX4_42 (t_X4_joined rfl) (Nat.le_of_ble_eq_true rfl) ?_
              obtain ⟨f11, hv, hm⟩ := xo_bind hm
              obtain ⟨hi, rfl⟩ := xo_set_some hv
              refine x_iastore (w' := WX _ _ _ _ _ _ _ _ _ _ _ _ _ _ _ _ _ _ _ _ _ _ _ _ _ _ _ _ _ _ _ _ _ _ _ _ _ _ _ _ _ _) eX4_value_236 rfl hi rfl ?_
              refine x_iinc6 eX4_value_237 rfl ?_
              refine x_goto eX4_value_240 ?_
              exact x_weak (by simp [xt_le]) (ih hm)
            · rw [if_neg c] at hm
              refine x_k eX4_value_202 ?_
              obtain rfl := Option.some.inj hm
              exact x_iret eX4_value_203 ⟨rfl, rfl⟩
          · rw [if_pos c] at hm
            refine x_iload5 eX4_value_138 ?_
            refine x_k eX4_value_140 ?_
            refine x_icmp_ge eX4_value_141 (fun c => ?_) (fun c => ?_)
            · rw [if_pos c] at hm
              refine x_aload0 eX4_value_146 ?_
              refine x_get eX4_value_147 fX4_25 rfl rfl ?_
              refine x_iload5 eX4_value_150 ?_
              refine x_k eX4_value_152 ?_
              refine x_isub eX4_value_153 ?_
              obtain ⟨v12, hv, hm⟩ := xo_bind hm
              obtain ⟨hi, rfl⟩ := xo_at_some hv
              refine x_iaload eX4_value_154 rfl hi ?_
              refine x_istore8 eX4_value_155 rfl ?_
              refine x_aload0 eX4_value_157 ?_
              refine x_get eX4_value_158 fX4_25 rfl rfl ?_
              refine x_iload5 eX4_value_161 ?_
              refine x_k eX4_value_163 ?_
              refine x_isub eX4_value_164 ?_
              refine x_iload7 eX4_value_165 ?_
              refine x_k eX4_value_167 ?_
              refine x_icmp_ne eX4_value_170 (fun c => ?_) (fun c => ?_)
              · rw [if_neg c] at hm
                refine x_iload8 eX4_value_179 ?_
                refine x_if_ne eX4_value_181 (fun c => ?_) (fun c => ?_)
                · rw [if_neg c] at hm
                  refine x_k eX4_value_188 ?_
                  refine x_Si1 eX4_value_189 kX4_truth mX4_38 (t_X4_truth rfl) (Nat.le_of_ble_eq_true rfl) ?_
                  obtain ⟨f13, hv, hm⟩ := xo_bind hm
                  obtain ⟨hi, rfl⟩ := xo_set_some hv
                  refine x_iastore (w' := WX _ _ _ _ _ _ _ _ _ _ _ _ _ _ _ _ _ _ _ _ _ _ _ _ _ _ _ _ _ _ _ _ _ _ _ _ _ _ _ _ _ _) eX4_value_192 rfl hi rfl ?_
                  refine x_goto eX4_value_193 ?_
                  refine x_iinc6 eX4_value_237 rfl ?_
                  refine x_goto eX4_value_240 ?_
                  exact x_weak (by simp [xt_le]) (ih hm)
                · rw [if_pos c] at hm
                  refine x_k eX4_value_184 ?_
                  refine x_goto eX4_value_185 ?_
                  refine x_Si1 eX4_value_189 kX4_truth mX4_38 (t_X4_truth rfl) (Nat.le_of_ble_eq_true rfl) ?_
                  obtain ⟨f14, hv, hm⟩ := xo_bind hm
                  obtain ⟨hi, rfl⟩ := xo_set_some hv
                  refine x_iastore (w' := WX _ _ _ _ _ _ _ _ _ _ _ _ _ _ _ _ _ _ _ _ _ _ _ _ _ _ _ _ _ _ _ _ _ _ _ _ _ _ _ _ _ _) eX4_value_192 rfl hi rfl ?_
                  refine x_goto eX4_value_193 ?_
                  refine x_iinc6 eX4_value_237 rfl ?_
                  refine x_goto eX4_value_240 ?_
                  exact x_weak (by simp [xt_le]) (ih hm)
              · rw [if_pos c] at hm
                refine x_iload8 eX4_value_173 ?_
                refine x_ineg eX4_value_175 ?_
                refine x_goto eX4_value_176 ?_
                obtain ⟨f15, hv, hm⟩ := xo_bind hm
                obtain ⟨hi, rfl⟩ := xo_set_some hv
                refine x_iastore (w' := WX _ _ _ _ _ _ _ _ _ _ _ _ _ _ _ _ _ _ _ _ _ _ _ _ _ _ _ _ _ _ _ _ _ _ _ _ _ _ _ _ _ _) eX4_value_192 rfl hi rfl ?_
                refine x_goto eX4_value_193 ?_
                refine x_iinc6 eX4_value_237 rfl ?_
                refine x_goto eX4_value_240 ?_
                exact x_weak (by simp [xt_le]) (ih hm)
            · rw [if_neg c] at hm
              refine x_k eX4_value_144 ?_
              obtain rfl := Option.some.inj hm
              exact x_iret eX4_value_145 ⟨rfl, rfl⟩
      · rw [if_neg c] at hm
        refine x_iload5 eX4_value_76 ?_
        refine x_aload0 eX4_value_78 ?_
        refine x_get eX4_value_79 fX4_25 rfl rfl ?_
        refine x_alen (v := 160) eX4_value_82 rfl (by decide) ?_
        refine x_icmp_lt eX4_value_83 (fun c => ?_) (fun c => ?_)
        · rw [if_pos c] at hm
          refine x_aload0 eX4_value_88 ?_
          refine x_get eX4_value_89 fX4_25 rfl rfl ?_
          refine x_iload5 eX4_value_92 ?_
          refine x_iload7 eX4_value_94 ?_
          refine x_k eX4_value_96 ?_
          refine x_icmp_ge eX4_value_99 (fun c => ?_) (fun c => ?_)
          · rw [if_pos c] at hm
            refine x_aload2 eX4_value_107 ?_
            refine x_iload7 eX4_value_108 ?_
            refine x_k eX4_value_110 ?_
            refine x_isub eX4_value_113 ?_
            obtain ⟨v16, hv, hm⟩ := xo_bind hm
            obtain ⟨hi, rfl⟩ := xo_at_some hv
            refine x_iaload eX4_value_114 rfl hi ?_
            obtain ⟨f17, hv, hm⟩ := xo_bind hm
            obtain ⟨hi, rfl⟩ := xo_set_some hv
            refine x_iastore (w' := WX _ _ _ _ _ _ _ _ _ _ _ _ _ _ _ _ _ _ _ _ _ _ _ _ _ _ _ _ _ _ _ _ _ _ _ _ _ _ _ _ _ _) eX4_value_115 rfl hi rfl ?_
            refine x_iinc5 eX4_value_116 rfl ?_
            refine x_goto eX4_value_119 ?_
            refine x_iinc6 eX4_value_237 rfl ?_
            refine x_goto eX4_value_240 ?_
            exact x_weak (by simp [xt_le]) (ih hm)
          · rw [if_neg c] at hm
            refine x_iload7 eX4_value_102 ?_
            refine x_goto eX4_value_104 ?_
            obtain ⟨f18, hv, hm⟩ := xo_bind hm
            obtain ⟨hi, rfl⟩ := xo_set_some hv
            refine x_iastore (w' := WX _ _ _ _ _ _ _ _ _ _ _ _ _ _ _ _ _ _ _ _ _ _ _ _ _ _ _ _ _ _ _ _ _ _ _ _ _ _ _ _ _ _) eX4_value_115 rfl hi rfl ?_
            refine x_iinc5 eX4_value_116 rfl ?_
            refine x_goto eX4_value_119 ?_
            refine x_iinc6 eX4_value_237 rfl ?_
            refine x_goto eX4_value_240 ?_
            exact x_weak (by simp [xt_le]) (ih hm)
        · rw [if_neg c] at hm
          refine x_k eX4_value_86 ?_
          obtain rfl := Option.some.inj hm
          exact x_iret eX4_value_87 ⟨rfl, rfl⟩
set_option maxRecDepth 4000 in
theorem t_X4_value_p25 {o : Int32 × (Nat → Int32)} {p1 : Int32} (hm : sp_X4_value_p25 p1 t_rule t_steps t_ends t_stack x_facts = some o) : xt_M yX4_value cX4_value 9 (some .int) (d + 2) [.ref 13, .int p1, .ref 25] (WX o_size o_year o_gone o_minds o_lasts r_size r_token r_place r_at r_open r_made t_size t_rule i_there i_rule i_size i_year i_gone i_minds i_lasts o_parent o_kind o_number o_odds o_above o_kidCount o_lead r_tape r_steps r_ends t_steps t_ends t_stack s_sort s_size s_items i_number i_odds x_prices x_facts x_laws x_clues) (xt_Ki o.1 (WX o_size o_year o_gone o_minds o_lasts r_size r_token r_place r_at r_open r_made t_size t_rule i_there i_rule i_size i_year i_gone i_minds i_lasts o_parent o_kind o_number o_odds o_above o_kidCount o_lead r_tape r_steps r_ends t_steps t_ends o.2 s_sort s_size s_items i_number i_odds x_prices x_facts x_laws x_clues)) := by
  unfold sp_X4_value_p25 at hm
  refine xt_M.go (own := RX4) (lv := [some (.ref 13), some (.int p1), some (.ref 25), none, none, none, none, none, none]) rfl rfl (Nat.le_of_ble_eq_true rfl) rfl ?_
  refine x_iload1 eX4_value_0 ?_
  refine x_if_ne eX4_value_1 (fun c => ?_) (fun c => ?_)
  · rw [if_neg c] at hm
    refine x_aload0 eX4_value_15 ?_
    refine x_get eX4_value_16 fX4_22 rfl rfl ?_
    refine x_aload0 eX4_value_19 ?_
    refine x_get eX4_value_20 fX4_15 rfl rfl ?_
    refine x_k eX4_value_23 ?_
    refine x_imul eX4_value_24 ?_
    refine x_iload1 eX4_value_25 ?_
    refine x_iadd eX4_value_26 ?_
    refine x_k eX4_value_27 ?_
    refine x_isub eX4_value_28 ?_
    obtain ⟨v1, hv, hm⟩ := xo_bind hm
    obtain ⟨hi, rfl⟩ := xo_at_some hv
    refine x_iaload eX4_value_29 rfl hi ?_
    refine x_istore3 eX4_value_30 rfl ?_
    refine x_aload0 eX4_value_31 ?_
    refine x_get eX4_value_32 fX4_22 rfl rfl ?_
    refine x_aload0 eX4_value_35 ?_
    refine x_get eX4_value_36 fX4_15 rfl rfl ?_
    refine x_k eX4_value_39 ?_
    refine x_imul eX4_value_40 ?_
    refine x_iload1 eX4_value_41 ?_
    refine x_iadd eX4_value_42 ?_
    obtain ⟨v2, hv, hm⟩ := xo_bind hm
    obtain ⟨hi, rfl⟩ := xo_at_some hv
    refine x_iaload eX4_value_43 rfl hi ?_
    refine x_istore4 eX4_value_44 rfl ?_
    refine x_k eX4_value_46 ?_
    refine x_istore5 eX4_value_47 rfl ?_
    refine x_iload3 eX4_value_49 ?_
    refine x_istore6 eX4_value_50 rfl ?_
    exact l_X4_value_p25_52 _ hm
  · rw [if_pos c] at hm
    refine x_aload0 eX4_value_4 ?_
    refine x_get eX4_value_5 fX4_15 rfl rfl ?_
    refine x_k eX4_value_8 ?_
    refine x_imul eX4_value_11 ?_
    refine x_goto eX4_value_12 ?_
    refine x_istore3 eX4_value_30 rfl ?_
    refine x_aload0 eX4_value_31 ?_
    refine x_get eX4_value_32 fX4_22 rfl rfl ?_
    refine x_aload0 eX4_value_35 ?_
    refine x_get eX4_value_36 fX4_15 rfl rfl ?_
    refine x_k eX4_value_39 ?_
    refine x_imul eX4_value_40 ?_
    refine x_iload1 eX4_value_41 ?_
    refine x_iadd eX4_value_42 ?_
    obtain ⟨v19, hv, hm⟩ := xo_bind hm
    obtain ⟨hi, rfl⟩ := xo_at_some hv
    refine x_iaload eX4_value_43 rfl hi ?_
    refine x_istore4 eX4_value_44 rfl ?_
    refine x_k eX4_value_46 ?_
    refine x_istore5 eX4_value_47 rfl ?_
    refine x_iload3 eX4_value_49 ?_
    refine x_istore6 eX4_value_50 rfl ?_
    exact l_X4_value_p25_52 _ hm
end S11
