section S12
variable {d : Nat}
variable {o_size o_year o_gone o_minds o_lasts r_size r_token r_place r_at r_open r_made t_size t_rule i_there i_rule i_size i_year i_gone i_minds i_lasts : Int32} {o_parent o_kind o_number o_odds o_above o_kidCount o_lead r_tape r_steps r_ends t_steps t_ends t_stack s_sort s_size s_items i_number i_odds x_prices x_facts x_laws x_clues : Nat → Int32}
def sp_X5_grow (p1 : Int32) (p2 : Int32) (p3 : Int32) (o_size : Int32) (o_gone : Int32) (o_minds : Int32) (o_lasts : Int32) (o_parent : Nat → Int32) (o_kind : Nat → Int32) (o_number : Nat → Int32) (o_odds : Nat → Int32) (o_above : Nat → Int32) : Option (Int32 × Int32 × Int32 × Int32 × Int32 × (Nat → Int32) × (Nat → Int32) × (Nat → Int32) × (Nat → Int32) × (Nat → Int32)) :=
  (sp_X1_sprout p1 p2 p3 o_size o_gone o_minds o_lasts o_parent o_kind o_number o_odds o_above).bind fun r1 =>
  some (r1.1, r1.2.1, r1.2.2.1, r1.2.2.2.1, r1.2.2.2.2.1, r1.2.2.2.2.2.1, r1.2.2.2.2.2.2.1, r1.2.2.2.2.2.2.2.1, r1.2.2.2.2.2.2.2.2.1, r1.2.2.2.2.2.2.2.2.2)
def sp_X5_mostOf (p1 : Int32)  : Int32 :=
  if p1 = 0 then
    9
  else
    if p1 = 2 then
      100
    else
      1
def sp_X5_putYear (p1 : Int32) (o_year : Int32) : Int32 × Int32 :=
  (o_year, p1)
def sp_X5_set (p1 : Int32) (p2 : Int32) (p3 : Int32) (o_size : Int32) (o_year : Int32) (o_minds : Int32) (o_lasts : Int32) (o_number : Nat → Int32) (o_odds : Nat → Int32) : Option (Int32 × Int32 × Int32 × Int32 × (Nat → Int32) × (Nat → Int32)) :=
  if p1 = 4 then
    if (sp_X5_isIn p3 0 99) = 0 then
      some ((-2), o_year, o_minds, o_lasts, o_number, o_odds)
    else
      some ((sp_X5_putYear p3 o_year).1, (sp_X5_putYear p3 o_year).2, o_minds, o_lasts, o_number, o_odds)
  else
    if (sp_X1_has p2 o_size) = 0 then
      some ((-2), o_year, o_minds, o_lasts, o_number, o_odds)
    else
      if (sp_X5_isIn p1 0 3) = 0 then
        some ((-2), o_year, o_minds, o_lasts, o_number, o_odds)
      else
        if (sp_X5_isIn p3 0 (sp_X5_mostOf p1)) = 0 then
          some ((-2), o_year, o_minds, o_lasts, o_number, o_odds)
        else
          if p1 = 0 then
            (xo_at o_number 12 p2).bind fun v3 =>
            (xo_set o_number 12 p2 p3).bind fun f4 =>
            some (v3, o_year, o_minds, o_lasts, f4, o_odds)
          else
            if p1 = 1 then
              some ((sp_X5_bit o_minds p2), o_year, (sp_X5_withBit o_minds p2 p3), o_lasts, o_number, o_odds)
            else
              if p1 = 2 then
                (xo_at o_odds 12 p2).bind fun v1 =>
                (xo_set o_odds 12 p2 p3).bind fun f2 =>
                some (v1, o_year, o_minds, o_lasts, o_number, f2)
              else
                some ((sp_X5_bit o_lasts p2), o_year, o_minds, (sp_X5_withBit o_lasts p2 p3), o_number, o_odds)
def sp_X5_told (p1 : Int32) (p2 : Int32) (o_size : Int32) (o_gone : Int32) (o_minds : Int32) (o_lasts : Int32) (o_parent : Nat → Int32) (o_kind : Nat → Int32) (o_number : Nat → Int32) (o_odds : Nat → Int32) (o_above : Nat → Int32) (o_kidCount : Nat → Int32) (o_lead : Nat → Int32) : Option (Int32 × (Nat → Int32) × (Nat → Int32)) :=
  if (sp_X1_has p1 o_size) = 0 then
    some ((-2), o_kidCount, o_lead)
  else
    (sp_X1_standing 0 o_size o_gone o_above).bind fun r1 =>
    if p2 = 0 then
      (xo_at o_kind 12 p1).bind fun v2 =>
      some (v2, o_kidCount, o_lead)
    else if p2 = 1 then
      (xo_at o_number 12 p1).bind fun v3 =>
      some (v3, o_kidCount, o_lead)
    else if p2 = 2 then
      some ((sp_X5_bit o_minds p1), o_kidCount, o_lead)
    else if p2 = 3 then
      (xo_at o_odds 12 p1).bind fun v4 =>
      some (v4, o_kidCount, o_lead)
    else if p2 = 4 then
      some ((sp_X5_bit o_lasts p1), o_kidCount, o_lead)
    else if p2 = 5 then
      if p1 = 0 then
        some ((-1), o_kidCount, o_lead)
      else
        (xo_at o_parent 12 p1).bind fun v5 =>
        some (v5, o_kidCount, o_lead)
    else if p2 = 6 then
      some ((sp_X5_bit r1 p1), o_kidCount, o_lead)
    else if p2 = 7 then
      (sp_X1_twigsOf r1 o_size o_parent).bind fun r6 =>
      some ((sp_X5_bit r6 p1), o_kidCount, o_lead)
    else if p2 = 8 then
      if (sp_X5_bit r1 p1) = 0 then
        some ((-1), o_kidCount, o_lead)
      else
        (sp_X1_vote r1 o_minds o_size o_lasts o_parent o_kind o_number o_kidCount o_lead).bind fun r7 =>
        some ((sp_X5_bit r7.1 p1), r7.2.1, r7.2.2)
    else if p2 = 9 then
      if (sp_X5_bit r1 p1) = 0 then
        some (0, o_kidCount, o_lead)
      else
        (sp_X1_kidSet p1 r1 o_size o_parent).bind fun r8 =>
        (sp_X1_weight p1 (sp_J6_bitCount_0f7a4 r8) o_kind o_number).bind fun r9 =>
        some (r9, o_kidCount, o_lead)
    else 
      some ((-2), o_kidCount, o_lead)
def sp_X5_priceOf (p1 : Int32) (p2 : Int32) (p3 : Int32) (o_size : Int32) (o_year : Int32) (o_lasts : Int32) (t_rule : Int32) (o_parent : Nat → Int32) (o_above : Nat → Int32) (t_steps : Nat → Int32) (t_ends : Nat → Int32) (t_stack : Nat → Int32) (x_facts : Nat → Int32) : Option (Int32 × (Nat → Int32) × (Nat → Int32)) :=
  (sp_X1_tellFacts_p25 p1 p3 o_size o_year o_lasts o_parent o_above x_facts).bind fun r1 =>
  if p2 = 1 then
    (sp_X4_value_p25 p2 t_rule t_steps t_ends t_stack r1).bind fun r3 =>
    some ((xi_max 0 (xi_min 100 r3.1)), r3.2, r1)
  else
    (sp_X4_value_p25 p2 t_rule t_steps t_ends t_stack r1).bind fun r2 =>
    some ((xi_max 0 (xi_min 99 r2.1)), r2.2, r1)
def sp_X5_asks (p1 : Int32) (p2 : Int32) (o_size : Int32) (o_year : Int32) (o_gone : Int32) (o_lasts : Int32) (t_rule : Int32) (o_parent : Nat → Int32) (o_above : Nat → Int32) (t_steps : Nat → Int32) (t_ends : Nat → Int32) (t_stack : Nat → Int32) (x_facts : Nat → Int32) : Option (Int32 × (Nat → Int32) × (Nat → Int32)) :=
  if (sp_X1_has p1 o_size) = 0 then
    some ((-2), t_stack, x_facts)
  else
    if (sp_X5_isIn p2 0 2) = 0 then
      some ((-2), t_stack, x_facts)
    else
      (sp_X1_standing 0 o_size o_gone o_above).bind fun r1 =>
      if (sp_X5_bit r1 p1) = 0 then
        some ((-3), t_stack, x_facts)
      else
        (sp_X5_priceOf p1 p2 r1 o_size o_year o_lasts t_rule o_parent o_above t_steps t_ends t_stack x_facts).bind fun r2 =>
        some (r2.1, r2.2.1, r2.2.2)
def sp_X2_put (p1 : Int32) (r_size : Int32) (r_tape : Nat → Int32) : Option (Int32 × Int32 × (Nat → Int32)) :=
  if r_size < 160 then
    (xo_set r_tape 160 r_size p1).bind fun f1 =>
    some (1, (r_size + 1), f1)
  else
    some (0, r_size, r_tape)
def sp_X5_feed (p1 : Int32) (r_size : Int32) (r_tape : Nat → Int32) : Option (Int32 × Int32 × (Nat → Int32)) :=
  if (sp_X5_isIn p1 0 255) = 0 then
    some ((-2), r_size, r_tape)
  else
    (sp_X2_put p1 r_size r_tape).bind fun r1 =>
    if r1.1 = 0 then
      some ((-4), r1.2.1, r1.2.2)
    else
      some (r1.2.1, r1.2.1, r1.2.2)
def sp_X5_force (p1 : Int32) (t_size : Int32) (t_rule : Int32) : Int32 × Int32 :=
  if (sp_X5_isIn p1 0 (t_size - 1)) = 0 then
    ((-2), t_rule)
  else
    (t_rule, p1)
def sp_X5_lawNow (o_size : Int32) (o_gone : Int32) (o_minds : Int32) (o_lasts : Int32) (o_parent : Nat → Int32) (o_kind : Nat → Int32) (o_number : Nat → Int32) (o_above : Nat → Int32) (o_kidCount : Nat → Int32) (o_lead : Nat → Int32) : Option (Int32 × (Nat → Int32) × (Nat → Int32)) :=
  (sp_X1_standing 0 o_size o_gone o_above).bind fun r1 =>
  (sp_X1_vote r1 o_minds o_size o_lasts o_parent o_kind o_number o_kidCount o_lead).bind fun r2 =>
  some ((sp_X5_bit r2.1 0), r2.2.1, r2.2.2)
def sp_X5_law (o_size : Int32) (o_gone : Int32) (o_minds : Int32) (o_lasts : Int32) (o_parent : Nat → Int32) (o_kind : Nat → Int32) (o_number : Nat → Int32) (o_above : Nat → Int32) (o_kidCount : Nat → Int32) (o_lead : Nat → Int32) : Option (Int32 × (Nat → Int32) × (Nat → Int32)) :=
  (sp_X5_lawNow o_size o_gone o_minds o_lasts o_parent o_kind o_number o_above o_kidCount o_lead).bind fun r1 =>
  some (r1.1, r1.2.1, r1.2.2)
def sp_X5_pass (o_size : Int32) (o_year : Int32) (o_gone : Int32) (o_minds : Int32) (o_lasts : Int32) (o_parent : Nat → Int32) (o_kind : Nat → Int32) (o_number : Nat → Int32) (o_above : Nat → Int32) (o_kidCount : Nat → Int32) (o_lead : Nat → Int32) : Option (Int32 × Int32 × Int32 × (Nat → Int32) × (Nat → Int32)) :=
  (sp_X1_standing 0 o_size o_gone o_above).bind fun r1 =>
  (sp_X1_vote r1 o_minds o_size o_lasts o_parent o_kind o_number o_kidCount o_lead).bind fun r2 =>
  some ((sp_X5_bit r2.1 0), (xi_min (o_year + 1) 99), ((o_lasts &&& (r1 ^^^ (-1))) ||| r2.1), r2.2.1, r2.2.2)
def sp_X5_cut (p1 : Int32) (o_size : Int32) (o_gone : Int32) (o_above : Nat → Int32) : Option (Int32 × Int32) :=
  if (sp_X1_has p1 o_size) = 0 then
    some ((-2), o_gone)
  else
    if p1 = 0 then
      some ((-2), o_gone)
    else
      (sp_X1_standing 0 o_size o_gone o_above).bind fun r1 =>
      if (sp_X5_bit r1 p1) = 0 then
        some ((-3), o_gone)
      else
        (sp_X1_standing 0 o_size (sp_X5_withBit o_gone p1 1) o_above).bind fun r2 =>
        some (((sp_J6_bitCount_0f7a4 r1) - (sp_J6_bitCount_0f7a4 r2)), (sp_X5_withBit o_gone p1 1))
def sp_X5_graft (p1 : Int32) (o_size : Int32) (o_gone : Int32) (o_parent : Nat → Int32) (o_above : Nat → Int32) : Option (Int32 × Int32) :=
  if (sp_X1_has p1 o_size) = 0 then
    some ((-2), o_gone)
  else
    if p1 = 0 then
      some ((-2), o_gone)
    else
      (sp_X1_standing 0 o_size o_gone o_above).bind fun r1 =>
      if (sp_X5_bit o_gone p1) = 0 then
        some ((-3), o_gone)
      else
        (xo_at o_parent 12 p1).bind fun v2 =>
        if (sp_X5_bit r1 v2) = 0 then
          some ((-3), o_gone)
        else
          (sp_X1_standing 0 o_size (sp_X5_withBit o_gone p1 0) o_above).bind fun r3 =>
          some (((sp_J6_bitCount_0f7a4 r3) - (sp_J6_bitCount_0f7a4 r1)), (sp_X5_withBit o_gone p1 0))
def sp_X5_keepPrices_3 (u1 : Int32) (u2 : Int32) (u3 : Int32) (o_size : Int32) (o_year : Int32) (o_lasts : Int32) (t_rule : Int32) (o_parent : Nat → Int32) (o_above : Nat → Int32) (t_steps : Nat → Int32) (t_ends : Nat → Int32) : Nat → Int32 → (Nat → Int32) → (Nat → Int32) → (Nat → Int32) → Option ((Nat → Int32) × (Nat → Int32) × (Nat → Int32))
  | 0, _, _, _, _ => none
  | n + 1, u4, t_stack, x_prices, x_facts =>
    if 12 ≤ u4 then
      some (t_stack, x_prices, x_facts)
    else
      if (sp_X5_bit u1 u4) = 1 then
        (sp_X5_priceOf u4 u2 u3 o_size o_year o_lasts t_rule o_parent o_above t_steps t_ends t_stack x_facts).bind fun r2 =>
        (xo_set x_prices 12 u4 r2.1).bind fun f3 =>
        sp_X5_keepPrices_3 u1 u2 u3 o_size o_year o_lasts t_rule o_parent o_above t_steps t_ends n (u4 + 1) r2.2.1 f3 r2.2.2
      else
        (xo_set x_prices 12 u4 0).bind fun f1 =>
        sp_X5_keepPrices_3 u1 u2 u3 o_size o_year o_lasts t_rule o_parent o_above t_steps t_ends n (u4 + 1) t_stack f1 x_facts
def sp_X5_keepPrices (p1 : Int32) (p2 : Int32) (p3 : Int32) (o_size : Int32) (o_year : Int32) (o_lasts : Int32) (t_rule : Int32) (o_parent : Nat → Int32) (o_above : Nat → Int32) (t_steps : Nat → Int32) (t_ends : Nat → Int32) (t_stack : Nat → Int32) (x_prices : Nat → Int32) (x_facts : Nat → Int32) : Option ((Nat → Int32) × (Nat → Int32) × (Nat → Int32)) :=
  sp_X5_keepPrices_3 p1 p2 p3 o_size o_year o_lasts t_rule o_parent o_above t_steps t_ends 5000 0 t_stack x_prices x_facts
def sp_X5_waysOf (p1 : Int32)  : Int32 :=
  (xi_shl 1 (sp_J6_bitCount_0f7a4 p1))
def sp_X5_priceOfSet_4 (u1 : Int32) (x_prices : Nat → Int32) : Nat → Int32 → Int32 → Option (Int32)
  | 0, _, _ => none
  | n + 1, u2, u3 =>
    if 12 ≤ u3 then
      some u2
    else
      if (sp_X5_bit u1 u3) = 1 then
        (xo_at x_prices 12 u3).bind fun v1 =>
        sp_X5_priceOfSet_4 u1 x_prices n (u2 + v1) (u3 + 1)
      else
        sp_X5_priceOfSet_4 u1 x_prices n u2 (u3 + 1)
def sp_X5_priceOfSet (p1 : Int32) (x_prices : Nat → Int32) : Option (Int32) :=
  sp_X5_priceOfSet_4 p1 x_prices 5000 0 0
def sp_X5_brings (p1 : Int32) (p2 : Int32) (p3 : Int32) (p4 : Int32) (o_size : Int32) (o_gone : Int32) (o_minds : Int32) (o_lasts : Int32) (o_parent : Nat → Int32) (o_kind : Nat → Int32) (o_number : Nat → Int32) (o_above : Nat → Int32) (o_kidCount : Nat → Int32) (o_lead : Nat → Int32) : Option (Int32 × (Nat → Int32) × (Nat → Int32)) :=
  if p1 = 0 then
    if p1 = 0 then
      (sp_X1_vote p3 (o_minds ^^^ p2) o_size o_lasts o_parent o_kind o_number o_kidCount o_lead).bind fun r1 =>
      if (sp_X5_bit r1.1 0) = p4 then
        some (1, r1.2.1, r1.2.2)
      else
        some (0, r1.2.1, r1.2.2)
    else
      (sp_X1_standing p2 o_size o_gone o_above).bind fun r2 =>
      (sp_X1_vote r2 o_minds o_size o_lasts o_parent o_kind o_number o_kidCount o_lead).bind fun r3 =>
      if (sp_X5_bit r3.1 0) = p4 then
        some (1, r3.2.1, r3.2.2)
      else
        some (0, r3.2.1, r3.2.2)
  else
    (sp_X1_isNested p2 o_size o_above).bind fun r4 =>
    if r4 = 0 then
      if p1 = 0 then
        (sp_X1_vote p3 (o_minds ^^^ p2) o_size o_lasts o_parent o_kind o_number o_kidCount o_lead).bind fun r5 =>
        if (sp_X5_bit r5.1 0) = p4 then
          some (1, r5.2.1, r5.2.2)
        else
          some (0, r5.2.1, r5.2.2)
      else
        (sp_X1_standing p2 o_size o_gone o_above).bind fun r6 =>
        (sp_X1_vote r6 o_minds o_size o_lasts o_parent o_kind o_number o_kidCount o_lead).bind fun r7 =>
        if (sp_X5_bit r7.1 0) = p4 then
          some (1, r7.2.1, r7.2.2)
        else
          some (0, r7.2.1, r7.2.2)
    else
      some (0, o_kidCount, o_lead)
def sp_X5_nextSet (p1 : Int32) (p2 : Int32)  : Int32 :=
  ((p1 - p2) &&& p2)
def sp_X5_leastSet_71 (u1 : Int32) (u2 : Int32) (u3 : Int32) (u4 : Int32) (u5 : Int32) (u6 : Int32) (u7 : Int32) (o_size : Int32) (o_gone : Int32) (o_minds : Int32) (o_lasts : Int32) (o_parent : Nat → Int32) (o_kind : Nat → Int32) (o_number : Nat → Int32) (o_above : Nat → Int32) : Nat → Int32 → Int32 → Int32 → Int32 → (Nat → Int32) → (Nat → Int32) → (Nat → Int32) → (Nat → Int32) → (Nat → Int32) → Option (Int32 × (Nat → Int32) × (Nat → Int32) × (Nat → Int32) × (Nat → Int32) × (Nat → Int32))
  | 0, _, _, _, _, _, _, _, _, _ => none
  | n + 1, u8, u9, u10, u11, o_kidCount, o_lead, t_stack, x_prices, x_facts =>
    if u7 ≤ u11 then
      if u8 = (-1) then
        some (u8, o_kidCount, o_lead, t_stack, x_prices, x_facts)
      else
        if u4 = 0 then
          some (u8, o_kidCount, o_lead, t_stack, x_prices, x_facts)
        else
          if u4 = 1 then
            some ((sp_J6_bitCount_0f7a4 u8), o_kidCount, o_lead, t_stack, x_prices, x_facts)
          else
            (sp_X5_priceOfSet u8 x_prices).bind fun r4 =>
            some (r4, o_kidCount, o_lead, t_stack, x_prices, x_facts)
    else
      if u3 = 0 then
        if u8 = (-1) then
          (sp_X5_brings u1 u10 u5 u2 o_size o_gone o_minds o_lasts o_parent o_kind o_number o_above o_kidCount o_lead).bind fun r8 =>
          if r8.1 = 0 then
            sp_X5_leastSet_71 u1 u2 u3 u4 u5 u6 u7 o_size o_gone o_minds o_lasts o_parent o_kind o_number o_above n u8 u9 (sp_X5_nextSet u10 u6) (u11 + 1) r8.2.1 r8.2.2 t_stack x_prices x_facts
          else
            sp_X5_leastSet_71 u1 u2 u3 u4 u5 u6 u7 o_size o_gone o_minds o_lasts o_parent o_kind o_number o_above n u10 (sp_J6_bitCount_0f7a4 u10) (sp_X5_nextSet u10 u6) (u11 + 1) r8.2.1 r8.2.2 t_stack x_prices x_facts
        else
          if u9 ≤ (sp_J6_bitCount_0f7a4 u10) then
            sp_X5_leastSet_71 u1 u2 u3 u4 u5 u6 u7 o_size o_gone o_minds o_lasts o_parent o_kind o_number o_above n u8 u9 (sp_X5_nextSet u10 u6) (u11 + 1) o_kidCount o_lead t_stack x_prices x_facts
          else
            (sp_X5_brings u1 u10 u5 u2 o_size o_gone o_minds o_lasts o_parent o_kind o_number o_above o_kidCount o_lead).bind fun r9 =>
            if r9.1 = 0 then
              sp_X5_leastSet_71 u1 u2 u3 u4 u5 u6 u7 o_size o_gone o_minds o_lasts o_parent o_kind o_number o_above n u8 u9 (sp_X5_nextSet u10 u6) (u11 + 1) r9.2.1 r9.2.2 t_stack x_prices x_facts
            else
              sp_X5_leastSet_71 u1 u2 u3 u4 u5 u6 u7 o_size o_gone o_minds o_lasts o_parent o_kind o_number o_above n u10 (sp_J6_bitCount_0f7a4 u10) (sp_X5_nextSet u10 u6) (u11 + 1) r9.2.1 r9.2.2 t_stack x_prices x_facts
      else
        (sp_X5_priceOfSet u10 x_prices).bind fun r5 =>
        if u8 = (-1) then
          (sp_X5_brings u1 u10 u5 u2 o_size o_gone o_minds o_lasts o_parent o_kind o_number o_above o_kidCount o_lead).bind fun r6 =>
          if r6.1 = 0 then
            sp_X5_leastSet_71 u1 u2 u3 u4 u5 u6 u7 o_size o_gone o_minds o_lasts o_parent o_kind o_number o_above n u8 u9 (sp_X5_nextSet u10 u6) (u11 + 1) r6.2.1 r6.2.2 t_stack x_prices x_facts
          else
            sp_X5_leastSet_71 u1 u2 u3 u4 u5 u6 u7 o_size o_gone o_minds o_lasts o_parent o_kind o_number o_above n u10 r5 (sp_X5_nextSet u10 u6) (u11 + 1) r6.2.1 r6.2.2 t_stack x_prices x_facts
        else
          if u9 ≤ r5 then
            sp_X5_leastSet_71 u1 u2 u3 u4 u5 u6 u7 o_size o_gone o_minds o_lasts o_parent o_kind o_number o_above n u8 u9 (sp_X5_nextSet u10 u6) (u11 + 1) o_kidCount o_lead t_stack x_prices x_facts
          else
            (sp_X5_brings u1 u10 u5 u2 o_size o_gone o_minds o_lasts o_parent o_kind o_number o_above o_kidCount o_lead).bind fun r7 =>
            if r7.1 = 0 then
              sp_X5_leastSet_71 u1 u2 u3 u4 u5 u6 u7 o_size o_gone o_minds o_lasts o_parent o_kind o_number o_above n u8 u9 (sp_X5_nextSet u10 u6) (u11 + 1) r7.2.1 r7.2.2 t_stack x_prices x_facts
            else
              sp_X5_leastSet_71 u1 u2 u3 u4 u5 u6 u7 o_size o_gone o_minds o_lasts o_parent o_kind o_number o_above n u10 r5 (sp_X5_nextSet u10 u6) (u11 + 1) r7.2.1 r7.2.2 t_stack x_prices x_facts
def sp_X5_leastSet (p1 : Int32) (p2 : Int32) (p3 : Int32) (p4 : Int32) (o_size : Int32) (o_year : Int32) (o_gone : Int32) (o_minds : Int32) (o_lasts : Int32) (t_rule : Int32) (o_parent : Nat → Int32) (o_kind : Nat → Int32) (o_number : Nat → Int32) (o_above : Nat → Int32) (o_kidCount : Nat → Int32) (o_lead : Nat → Int32) (t_steps : Nat → Int32) (t_ends : Nat → Int32) (t_stack : Nat → Int32) (x_prices : Nat → Int32) (x_facts : Nat → Int32) : Option (Int32 × (Nat → Int32) × (Nat → Int32) × (Nat → Int32) × (Nat → Int32) × (Nat → Int32)) :=
  (sp_X1_standing 0 o_size o_gone o_above).bind fun r1 =>
  if p1 = 0 then
    (sp_X1_twigsOf r1 o_size o_parent).bind fun r2 =>
    if p1 = 0 then
      (sp_X5_keepPrices r2 2 r1 o_size o_year o_lasts t_rule o_parent o_above t_steps t_ends t_stack x_prices x_facts).bind fun r3 =>
      sp_X5_leastSet_71 p1 p2 p3 p4 r1 r2 (sp_X5_waysOf r2) o_size o_gone o_minds o_lasts o_parent o_kind o_number o_above 5000 (-1) 0 0 0 o_kidCount o_lead r3.1 r3.2.1 r3.2.2
    else
      (sp_X5_keepPrices r2 0 r1 o_size o_year o_lasts t_rule o_parent o_above t_steps t_ends t_stack x_prices x_facts).bind fun r10 =>
      sp_X5_leastSet_71 p1 p2 p3 p4 r1 r2 (sp_X5_waysOf r2) o_size o_gone o_minds o_lasts o_parent o_kind o_number o_above 5000 (-1) 0 0 0 o_kidCount o_lead r10.1 r10.2.1 r10.2.2
  else
    if p1 = 0 then
      (sp_X5_keepPrices (sp_X5_withBit r1 0 0) 2 r1 o_size o_year o_lasts t_rule o_parent o_above t_steps t_ends t_stack x_prices x_facts).bind fun r11 =>
      sp_X5_leastSet_71 p1 p2 p3 p4 r1 (sp_X5_withBit r1 0 0) (sp_X5_waysOf (sp_X5_withBit r1 0 0)) o_size o_gone o_minds o_lasts o_parent o_kind o_number o_above 5000 (-1) 0 0 0 o_kidCount o_lead r11.1 r11.2.1 r11.2.2
    else
      (sp_X5_keepPrices (sp_X5_withBit r1 0 0) 0 r1 o_size o_year o_lasts t_rule o_parent o_above t_steps t_ends t_stack x_prices x_facts).bind fun r12 =>
      sp_X5_leastSet_71 p1 p2 p3 p4 r1 (sp_X5_withBit r1 0 0) (sp_X5_waysOf (sp_X5_withBit r1 0 0)) o_size o_gone o_minds o_lasts o_parent o_kind o_number o_above 5000 (-1) 0 0 0 o_kidCount o_lead r12.1 r12.2.1 r12.2.2
def sp_X5_minds (p1 : Int32) (p2 : Int32) (p3 : Int32) (o_size : Int32) (o_year : Int32) (o_gone : Int32) (o_minds : Int32) (o_lasts : Int32) (t_rule : Int32) (o_parent : Nat → Int32) (o_kind : Nat → Int32) (o_number : Nat → Int32) (o_above : Nat → Int32) (o_kidCount : Nat → Int32) (o_lead : Nat → Int32) (t_steps : Nat → Int32) (t_ends : Nat → Int32) (t_stack : Nat → Int32) (x_prices : Nat → Int32) (x_facts : Nat → Int32) : Option (Int32 × (Nat → Int32) × (Nat → Int32) × (Nat → Int32) × (Nat → Int32) × (Nat → Int32)) :=
  if (sp_X5_isIn p1 0 1) = 0 then
    some ((-2), o_kidCount, o_lead, t_stack, x_prices, x_facts)
  else
    if (sp_X5_isIn p2 0 1) = 0 then
      some ((-2), o_kidCount, o_lead, t_stack, x_prices, x_facts)
    else
      if (sp_X5_isIn p3 0 2) = 0 then
        some ((-2), o_kidCount, o_lead, t_stack, x_prices, x_facts)
      else
        (sp_X5_leastSet 0 p1 p2 p3 o_size o_year o_gone o_minds o_lasts t_rule o_parent o_kind o_number o_above o_kidCount o_lead t_steps t_ends t_stack x_prices x_facts).bind fun r1 =>
        some (r1.1, r1.2.1, r1.2.2.1, r1.2.2.2.1, r1.2.2.2.2.1, r1.2.2.2.2.2)
def sp_X5_cuts (p1 : Int32) (p2 : Int32) (p3 : Int32) (o_size : Int32) (o_year : Int32) (o_gone : Int32) (o_minds : Int32) (o_lasts : Int32) (t_rule : Int32) (o_parent : Nat → Int32) (o_kind : Nat → Int32) (o_number : Nat → Int32) (o_above : Nat → Int32) (o_kidCount : Nat → Int32) (o_lead : Nat → Int32) (t_steps : Nat → Int32) (t_ends : Nat → Int32) (t_stack : Nat → Int32) (x_prices : Nat → Int32) (x_facts : Nat → Int32) : Option (Int32 × (Nat → Int32) × (Nat → Int32) × (Nat → Int32) × (Nat → Int32) × (Nat → Int32)) :=
  if (sp_X5_isIn p1 0 1) = 0 then
    some ((-2), o_kidCount, o_lead, t_stack, x_prices, x_facts)
  else
    if (sp_X5_isIn p2 0 1) = 0 then
      some ((-2), o_kidCount, o_lead, t_stack, x_prices, x_facts)
    else
      if (sp_X5_isIn p3 0 2) = 0 then
        some ((-2), o_kidCount, o_lead, t_stack, x_prices, x_facts)
      else
        (sp_X5_leastSet 1 p1 p2 p3 o_size o_year o_gone o_minds o_lasts t_rule o_parent o_kind o_number o_above o_kidCount o_lead t_steps t_ends t_stack x_prices x_facts).bind fun r1 =>
        some (r1.1, r1.2.1, r1.2.2.1, r1.2.2.2.1, r1.2.2.2.2.1, r1.2.2.2.2.2)
def sp_X5_lopsided_48 (u1 : Int32) (u2 : Int32) (u3 : Int32) (u4 : Int32) (o_size : Int32) (o_lasts : Int32) (o_parent : Nat → Int32) (o_kind : Nat → Int32) (o_number : Nat → Int32) : Nat → Int32 → Int32 → Int32 → Int32 → (Nat → Int32) → (Nat → Int32) → Option (Int32 × (Nat → Int32) × (Nat → Int32))
  | 0, _, _, _, _, _, _ => none
  | n + 1, u5, u6, u7, u8, o_kidCount, o_lead =>
    if u4 ≤ u8 then
      if u1 = 0 then
        some (u5, o_kidCount, o_lead)
      else
        some (u6, o_kidCount, o_lead)
    else
      (sp_X1_vote u2 u7 o_size o_lasts o_parent o_kind o_number o_kidCount o_lead).bind fun r3 =>
      if (sp_X5_bit r3.1 0) = 0 then
        sp_X5_lopsided_48 u1 u2 u3 u4 o_size o_lasts o_parent o_kind o_number n u5 (xi_max u6 (sp_J6_bitCount_0f7a4 u7)) (sp_X5_nextSet u7 u3) (u8 + 1) r3.2.1 r3.2.2
      else
        if u5 = (-1) then
          sp_X5_lopsided_48 u1 u2 u3 u4 o_size o_lasts o_parent o_kind o_number n (sp_J6_bitCount_0f7a4 u7) u6 (sp_X5_nextSet u7 u3) (u8 + 1) r3.2.1 r3.2.2
        else
          if u5 ≤ (sp_J6_bitCount_0f7a4 u7) then
            sp_X5_lopsided_48 u1 u2 u3 u4 o_size o_lasts o_parent o_kind o_number n u5 u6 (sp_X5_nextSet u7 u3) (u8 + 1) r3.2.1 r3.2.2
          else
            sp_X5_lopsided_48 u1 u2 u3 u4 o_size o_lasts o_parent o_kind o_number n (sp_J6_bitCount_0f7a4 u7) u6 (sp_X5_nextSet u7 u3) (u8 + 1) r3.2.1 r3.2.2
def sp_X5_lopsided (p1 : Int32) (o_size : Int32) (o_gone : Int32) (o_lasts : Int32) (o_parent : Nat → Int32) (o_kind : Nat → Int32) (o_number : Nat → Int32) (o_above : Nat → Int32) (o_kidCount : Nat → Int32) (o_lead : Nat → Int32) : Option (Int32 × (Nat → Int32) × (Nat → Int32)) :=
  if (sp_X5_isIn p1 0 1) = 0 then
    some ((-2), o_kidCount, o_lead)
  else
    (sp_X1_standing 0 o_size o_gone o_above).bind fun r1 =>
    (sp_X1_twigsOf r1 o_size o_parent).bind fun r2 =>
    sp_X5_lopsided_48 p1 r1 r2 (sp_X5_waysOf r2) o_size o_lasts o_parent o_kind o_number 5000 (-1) (-1) 0 0 o_kidCount o_lead
def sp_J7_fill_53178_p26_5 (u1 : Int32) (u3 : Int32) : Nat → Int32 → (Nat → Int32) → Option ((Nat → Int32))
  | 0, _, _ => none
  | n + 1, u2, x_laws =>
    if u3 ≤ u2 then
      some x_laws
    else
      (xo_set x_laws 64 u2 u1).bind fun f1 =>
      sp_J7_fill_53178_p26_5 u1 u3 n (u2 + 1) f1
def sp_J7_fill_53178_p26 (p2 : Int32) (x_laws : Nat → Int32) : Option ((Nat → Int32)) :=
  sp_J7_fill_53178_p26_5 p2 64 5000 0 x_laws
def sp_X5_keepLaws_39 (u1 : Int32) (u2 : Int32) (u3 : Int32) (o_size : Int32) (o_lasts : Int32) (o_parent : Nat → Int32) (o_kind : Nat → Int32) (o_number : Nat → Int32) : Nat → Int32 → Int32 → (Nat → Int32) → (Nat → Int32) → (Nat → Int32) → Option ((Nat → Int32) × (Nat → Int32) × (Nat → Int32))
  | 0, _, _, _, _, _ => none
  | n + 1, u4, u5, o_kidCount, o_lead, x_laws =>
    if u3 ≤ u5 then
      some (o_kidCount, o_lead, x_laws)
    else
      (xo_at x_laws 64 (u5 / 32)).bind fun v3 =>
      (sp_X1_vote u2 u4 o_size o_lasts o_parent o_kind o_number o_kidCount o_lead).bind fun r4 =>
      (xo_set x_laws 64 (u5 / 32) (v3 ||| (xi_shl (sp_X5_bit r4.1 0) (xi_rem u5 32)))).bind fun f5 =>
      sp_X5_keepLaws_39 u1 u2 u3 o_size o_lasts o_parent o_kind o_number n (sp_X5_nextSet u4 u1) (u5 + 1) r4.2.1 r4.2.2 f5
def sp_X5_keepLaws (p1 : Int32) (o_size : Int32) (o_gone : Int32) (o_lasts : Int32) (o_parent : Nat → Int32) (o_kind : Nat → Int32) (o_number : Nat → Int32) (o_above : Nat → Int32) (o_kidCount : Nat → Int32) (o_lead : Nat → Int32) (x_laws : Nat → Int32) : Option ((Nat → Int32) × (Nat → Int32) × (Nat → Int32)) :=
  (sp_J7_fill_53178_p26 0 x_laws).bind fun r1 =>
  (sp_X1_standing 0 o_size o_gone o_above).bind fun r2 =>
  sp_X5_keepLaws_39 p1 r2 (xi_min (sp_X5_waysOf p1) (64 * 32)) o_size o_lasts o_parent o_kind o_number 5000 0 0 o_kidCount o_lead r1
def sp_X5_swings_22 (u2 : Int32) (u3 : Int32) (x_laws : Nat → Int32) : Nat → Int32 → Int32 → Option (Int32)
  | 0, _, _ => none
  | n + 1, u4, u5 =>
    if u3 ≤ u5 then
      some u4
    else
      if (u5 ||| (xi_shl 1 u2)) = u5 then
        sp_X5_swings_22 u2 u3 x_laws n u4 (u5 + 1)
      else
        if u3 ≤ (u5 ||| (xi_shl 1 u2)) then
          sp_X5_swings_22 u2 u3 x_laws n u4 (u5 + 1)
        else
          (xo_at x_laws 64 (u5 / 32)).bind fun v1 =>
          (xo_at x_laws 64 ((u5 ||| (xi_shl 1 u2)) / 32)).bind fun v2 =>
          if (sp_X5_bit v1 (xi_rem u5 32)) = (sp_X5_bit v2 (xi_rem (u5 ||| (xi_shl 1 u2)) 32)) then
            sp_X5_swings_22 u2 u3 x_laws n u4 (u5 + 1)
          else
            sp_X5_swings_22 u2 u3 x_laws n (u4 + 2) (u5 + 1)
def sp_X5_swings (p1 : Int32) (p2 : Int32) (x_laws : Nat → Int32) : Option (Int32) :=
  sp_X5_swings_22 p2 (xi_min (sp_X5_waysOf p1) (64 * 32)) x_laws 5000 0 0
def sp_X5_isFair_15 (u1 : Int32) (u2 : Int32) (u3 : Int32) (x_laws : Nat → Int32) : Nat → Int32 → Option (Int32)
  | 0, _ => none
  | n + 1, u4 =>
    if u2 ≤ u4 then
      some 1
    else
      (sp_X5_swings u1 u4 x_laws).bind fun r2 =>
      if r2 = u3 then
        sp_X5_isFair_15 u1 u2 u3 x_laws n (u4 + 1)
      else
        some 0
def sp_X5_isFair (p1 : Int32) (x_laws : Nat → Int32) : Option (Int32) :=
  (sp_X5_swings p1 0 x_laws).bind fun r1 =>
  sp_X5_isFair_15 p1 (sp_J6_bitCount_0f7a4 p1) r1 x_laws 5000 1
def sp_X5_counts (p1 : Int32) (o_size : Int32) (o_gone : Int32) (o_lasts : Int32) (o_parent : Nat → Int32) (o_kind : Nat → Int32) (o_number : Nat → Int32) (o_above : Nat → Int32) (o_kidCount : Nat → Int32) (o_lead : Nat → Int32) (x_laws : Nat → Int32) : Option (Int32 × (Nat → Int32) × (Nat → Int32) × (Nat → Int32)) :=
  (sp_X1_standing 0 o_size o_gone o_above).bind fun r1 =>
  (sp_X1_twigsOf r1 o_size o_parent).bind fun r2 =>
  if p1 = (-1) then
    (sp_X5_keepLaws r2 o_size o_gone o_lasts o_parent o_kind o_number o_above o_kidCount o_lead x_laws).bind fun r5 =>
    (sp_X5_isFair r2 r5.2.2).bind fun r6 =>
    some (r6, r5.1, r5.2.1, r5.2.2)
  else
    if (sp_X1_has p1 o_size) = 0 then
      some ((-2), o_kidCount, o_lead, x_laws)
    else
      if (sp_X5_bit r2 p1) = 0 then
        some ((-2), o_kidCount, o_lead, x_laws)
      else
        (sp_X5_keepLaws r2 o_size o_gone o_lasts o_parent o_kind o_number o_above o_kidCount o_lead x_laws).bind fun r3 =>
        (sp_X5_swings r2 (sp_J6_bitCount_0f7a4 (r2 &&& ((xi_shl 1 p1) - 1))) r3.2.2).bind fun r4 =>
        some (r4, r3.1, r3.2.1, r3.2.2)
def sp_X5_oddsOf_p24_5 (u0 : Int32) (u1 : Int32) (x_prices : Nat → Int32) : Nat → Int64 → Int32 → Option (Int64)
  | 0, _, _ => none
  | n + 1, u3, u5 =>
    if 12 ≤ u5 then
      some u3
    else
      if (sp_X5_bit u1 u5) = 1 then
        if (sp_X5_bit u0 u5) = 1 then
          (xo_at x_prices 12 u5).bind fun v2 =>
          sp_X5_oddsOf_p24_5 u0 u1 x_prices n (u3 * (Int32.toInt64 v2)) (u5 + 1)
        else
          (xo_at x_prices 12 u5).bind fun v1 =>
          sp_X5_oddsOf_p24_5 u0 u1 x_prices n (u3 * (Int32.toInt64 (100 - v1))) (u5 + 1)
      else
        sp_X5_oddsOf_p24_5 u0 u1 x_prices n u3 (u5 + 1)
def sp_X5_oddsOf_p24 (p1 : Int32) (p2 : Int32) (x_prices : Nat → Int32) : Option (Int64) :=
  sp_X5_oddsOf_p24_5 p1 p2 x_prices 5000 1 0
def sp_X5_lawIfCut (p1 : Int32) (o_size : Int32) (o_gone : Int32) (o_minds : Int32) (o_lasts : Int32) (o_parent : Nat → Int32) (o_kind : Nat → Int32) (o_number : Nat → Int32) (o_above : Nat → Int32) (o_kidCount : Nat → Int32) (o_lead : Nat → Int32) : Option (Int32 × (Nat → Int32) × (Nat → Int32)) :=
  (sp_X1_standing p1 o_size o_gone o_above).bind fun r1 =>
  (sp_X1_vote r1 o_minds o_size o_lasts o_parent o_kind o_number o_kidCount o_lead).bind fun r2 =>
  some ((sp_X5_bit r2.1 0), r2.2.1, r2.2.2)
def sp_X5_stormOdds_14 (u1 : Int32) (u2 : Int32) (u3 : Int32) (o_size : Int32) (o_gone : Int32) (o_minds : Int32) (o_lasts : Int32) (o_parent : Nat → Int32) (o_kind : Nat → Int32) (o_number : Nat → Int32) (o_above : Nat → Int32) (x_prices : Nat → Int32) : Nat → Int64 → Int32 → Int32 → (Nat → Int32) → (Nat → Int32) → Option (Int64 × (Nat → Int32) × (Nat → Int32))
  | 0, _, _, _, _, _ => none
  | n + 1, u4, u6, u7, o_kidCount, o_lead =>
    if u3 ≤ u7 then
      some (u4, o_kidCount, o_lead)
    else
      (sp_X5_oddsOf_p24 u6 u1 x_prices).bind fun r1 =>
      if (lg_cmp r1 0) ≤ 0 then
        sp_X5_stormOdds_14 u1 u2 u3 o_size o_gone o_minds o_lasts o_parent o_kind o_number o_above x_prices n u4 (sp_X5_nextSet u6 u1) (u7 + 1) o_kidCount o_lead
      else
        (sp_X5_lawIfCut u6 o_size o_gone o_minds o_lasts o_parent o_kind o_number o_above o_kidCount o_lead).bind fun r2 =>
        if r2.1 = u2 then
          sp_X5_stormOdds_14 u1 u2 u3 o_size o_gone o_minds o_lasts o_parent o_kind o_number o_above x_prices n (u4 + r1) (sp_X5_nextSet u6 u1) (u7 + 1) r2.2.1 r2.2.2
        else
          sp_X5_stormOdds_14 u1 u2 u3 o_size o_gone o_minds o_lasts o_parent o_kind o_number o_above x_prices n u4 (sp_X5_nextSet u6 u1) (u7 + 1) r2.2.1 r2.2.2
def sp_X5_stormOdds (p1 : Int32) (p2 : Int32) (o_size : Int32) (o_gone : Int32) (o_minds : Int32) (o_lasts : Int32) (o_parent : Nat → Int32) (o_kind : Nat → Int32) (o_number : Nat → Int32) (o_above : Nat → Int32) (o_kidCount : Nat → Int32) (o_lead : Nat → Int32) (x_prices : Nat → Int32) : Option (Int64 × (Nat → Int32) × (Nat → Int32)) :=
  sp_X5_stormOdds_14 p1 p2 (sp_X5_waysOf p1) o_size o_gone o_minds o_lasts o_parent o_kind o_number o_above x_prices 5000 0 0 0 o_kidCount o_lead
def sp_X5_hundreds_10 (u3 : Int32) : Nat → Int64 → Int32 → Option (Int64)
  | 0, _, _ => none
  | n + 1, u1, u4 =>
    if u3 ≤ u4 then
      some u1
    else
      sp_X5_hundreds_10 u3 n (u1 * 100) (u4 + 1)
def sp_X5_hundreds (p1 : Int32)  : Option (Int64) :=
  sp_X5_hundreds_10 (sp_J6_bitCount_0f7a4 p1) 5000 1 0
def sp_X5_divisorOf_3 : Nat → Int64 → Int64 → Int32 → Option (Int64)
  | 0, _, _, _ => none
  | n + 1, u0, u2, u4 =>
    if 200 ≤ u4 then
      some u0
    else
      if (lg_cmp u2 0) = 0 then
        some u0
      else
        if u2 = 0 then none else
        sp_X5_divisorOf_3 n u2 (xl_rem u0 u2) (u4 + 1)
def sp_X5_divisorOf (p1 : Int64) (p2 : Int64)  : Option (Int64) :=
  sp_X5_divisorOf_3 5000 p1 p2 0
def sp_X5_lowest (p1 : Int64) (p2 : Int64) (p3 : Int32)  : Option (Int64) :=
  (sp_X5_divisorOf p1 p2).bind fun r1 =>
  if 0 < (lg_cmp r1 0) then
    if p3 = 0 then
      if r1 = 0 then none else
      some (p1 / r1)
    else
      if r1 = 0 then none else
      some (p2 / r1)
  else
    some (-4611686018427387904)
def sp_X5_oddsOf_p5_5 (u0 : Int32) (u1 : Int32) (o_odds : Nat → Int32) : Nat → Int64 → Int32 → Option (Int64)
  | 0, _, _ => none
  | n + 1, u3, u5 =>
    if 12 ≤ u5 then
      some u3
    else
      if (sp_X5_bit u1 u5) = 1 then
        if (sp_X5_bit u0 u5) = 1 then
          (xo_at o_odds 12 u5).bind fun v2 =>
          sp_X5_oddsOf_p5_5 u0 u1 o_odds n (u3 * (Int32.toInt64 v2)) (u5 + 1)
        else
          (xo_at o_odds 12 u5).bind fun v1 =>
          sp_X5_oddsOf_p5_5 u0 u1 o_odds n (u3 * (Int32.toInt64 (100 - v1))) (u5 + 1)
      else
        sp_X5_oddsOf_p5_5 u0 u1 o_odds n u3 (u5 + 1)
def sp_X5_oddsOf_p5 (p1 : Int32) (p2 : Int32) (o_odds : Nat → Int32) : Option (Int64) :=
  sp_X5_oddsOf_p5_5 p1 p2 o_odds 5000 1 0
def sp_X5_mindOdds_14 (u1 : Int32) (u2 : Int32) (u3 : Int32) (o_size : Int32) (o_lasts : Int32) (o_parent : Nat → Int32) (o_kind : Nat → Int32) (o_number : Nat → Int32) (o_odds : Nat → Int32) : Nat → Int64 → Int32 → Int32 → (Nat → Int32) → (Nat → Int32) → Option (Int64 × (Nat → Int32) × (Nat → Int32))
  | 0, _, _, _, _, _ => none
  | n + 1, u4, u6, u7, o_kidCount, o_lead =>
    if u3 ≤ u7 then
      some (u4, o_kidCount, o_lead)
    else
      (sp_X1_vote u1 u6 o_size o_lasts o_parent o_kind o_number o_kidCount o_lead).bind fun r1 =>
      if (sp_X5_bit r1.1 0) = 1 then
        (sp_X5_oddsOf_p5 u6 u2 o_odds).bind fun r2 =>
        sp_X5_mindOdds_14 u1 u2 u3 o_size o_lasts o_parent o_kind o_number o_odds n (u4 + r2) (sp_X5_nextSet u6 u2) (u7 + 1) r1.2.1 r1.2.2
      else
        sp_X5_mindOdds_14 u1 u2 u3 o_size o_lasts o_parent o_kind o_number o_odds n u4 (sp_X5_nextSet u6 u2) (u7 + 1) r1.2.1 r1.2.2
def sp_X5_mindOdds (p1 : Int32) (p2 : Int32) (o_size : Int32) (o_lasts : Int32) (o_parent : Nat → Int32) (o_kind : Nat → Int32) (o_number : Nat → Int32) (o_odds : Nat → Int32) (o_kidCount : Nat → Int32) (o_lead : Nat → Int32) : Option (Int64 × (Nat → Int32) × (Nat → Int32)) :=
  sp_X5_mindOdds_14 p1 p2 (sp_X5_waysOf p2) o_size o_lasts o_parent o_kind o_number o_odds 5000 0 0 0 o_kidCount o_lead
def sp_X5_sure (p1 : Int32) (p2 : Int32) (o_size : Int32) (o_year : Int32) (o_gone : Int32) (o_minds : Int32) (o_lasts : Int32) (t_rule : Int32) (o_parent : Nat → Int32) (o_kind : Nat → Int32) (o_number : Nat → Int32) (o_odds : Nat → Int32) (o_above : Nat → Int32) (o_kidCount : Nat → Int32) (o_lead : Nat → Int32) (t_steps : Nat → Int32) (t_ends : Nat → Int32) (t_stack : Nat → Int32) (x_prices : Nat → Int32) (x_facts : Nat → Int32) : Option (Int64 × (Nat → Int32) × (Nat → Int32) × (Nat → Int32) × (Nat → Int32) × (Nat → Int32)) :=
  if (sp_X5_isIn p1 0 1) = 0 then
    some ((-4611686018427387904), o_kidCount, o_lead, t_stack, x_prices, x_facts)
  else
    if (sp_X5_isIn p2 0 1) = 0 then
      some ((-4611686018427387904), o_kidCount, o_lead, t_stack, x_prices, x_facts)
    else
      (sp_X1_standing 0 o_size o_gone o_above).bind fun r1 =>
      if p1 = 0 then
        (sp_X1_twigsOf r1 o_size o_parent).bind fun r10 =>
        if (sp_J6_bitCount_0f7a4 r10) ≤ 8 then
          if p1 = 0 then
            (sp_X5_mindOdds r1 r10 o_size o_lasts o_parent o_kind o_number o_odds o_kidCount o_lead).bind fun r15 =>
            (sp_X5_hundreds r10).bind fun r16 =>
            (sp_X5_lowest r15.1 r16 p2).bind fun r17 =>
            some (r17, r15.2.1, r15.2.2, t_stack, x_prices, x_facts)
          else
            (sp_X5_keepPrices r10 1 r1 o_size o_year o_lasts t_rule o_parent o_above t_steps t_ends t_stack x_prices x_facts).bind fun r11 =>
            (sp_X5_stormOdds r10 1 o_size o_gone o_minds o_lasts o_parent o_kind o_number o_above o_kidCount o_lead r11.2.1).bind fun r12 =>
            (sp_X5_hundreds r10).bind fun r13 =>
            (sp_X5_lowest r12.1 r13 p2).bind fun r14 =>
            some (r14, r12.2.1, r12.2.2, r11.1, r11.2.1, r11.2.2)
        else
          some ((-4611686018427387904), o_kidCount, o_lead, t_stack, x_prices, x_facts)
      else
        (sp_X1_kidSet 0 r1 o_size o_parent).bind fun r2 =>
        if (sp_J6_bitCount_0f7a4 r2) ≤ 8 then
          if p1 = 0 then
            (sp_X5_mindOdds r1 r2 o_size o_lasts o_parent o_kind o_number o_odds o_kidCount o_lead).bind fun r7 =>
            (sp_X5_hundreds r2).bind fun r8 =>
            (sp_X5_lowest r7.1 r8 p2).bind fun r9 =>
            some (r9, r7.2.1, r7.2.2, t_stack, x_prices, x_facts)
          else
            (sp_X5_keepPrices r2 1 r1 o_size o_year o_lasts t_rule o_parent o_above t_steps t_ends t_stack x_prices x_facts).bind fun r3 =>
            (sp_X5_stormOdds r2 1 o_size o_gone o_minds o_lasts o_parent o_kind o_number o_above o_kidCount o_lead r3.2.1).bind fun r4 =>
            (sp_X5_hundreds r2).bind fun r5 =>
            (sp_X5_lowest r4.1 r5 p2).bind fun r6 =>
            some (r6, r4.2.1, r4.2.2, r3.1, r3.2.1, r3.2.2)
        else
          some ((-4611686018427387904), o_kidCount, o_lead, t_stack, x_prices, x_facts)
def sp_X5_prop_52 (u2 : Int32) (u3 : Int32) (o_size : Int32) (o_gone : Int32) (o_minds : Int32) (o_lasts : Int32) (o_parent : Nat → Int32) (o_kind : Nat → Int32) (o_number : Nat → Int32) (o_above : Nat → Int32) : Nat → Int32 → Int64 → Int32 → (Nat → Int32) → (Nat → Int32) → (Nat → Int32) → (Nat → Int32) → (Nat → Int32) → Option (Int32 × (Nat → Int32) × (Nat → Int32) × (Nat → Int32) × (Nat → Int32) × (Nat → Int32))
  | 0, _, _, _, _, _, _, _, _ => none
  | n + 1, u4, u5, u7, o_kidCount, o_lead, t_stack, x_prices, x_facts =>
    if 12 ≤ u7 then
      some (u4, o_kidCount, o_lead, t_stack, x_prices, x_facts)
    else
      if (sp_X5_bit u2 u7) = 1 then
        (xo_at x_prices 12 u7).bind fun v5 =>
        (xo_set x_prices 12 u7 0).bind fun f6 =>
        (sp_X5_stormOdds u2 u3 o_size o_gone o_minds o_lasts o_parent o_kind o_number o_above o_kidCount o_lead f6).bind fun r7 =>
        (xo_set f6 12 u7 v5).bind fun f8 =>
        if u4 = (-1) then
          sp_X5_prop_52 u2 u3 o_size o_gone o_minds o_lasts o_parent o_kind o_number o_above n u7 r7.1 (u7 + 1) r7.2.1 r7.2.2 t_stack f8 x_facts
        else
          if (lg_cmp r7.1 u5) ≤ 0 then
            sp_X5_prop_52 u2 u3 o_size o_gone o_minds o_lasts o_parent o_kind o_number o_above n u4 u5 (u7 + 1) r7.2.1 r7.2.2 t_stack f8 x_facts
          else
            sp_X5_prop_52 u2 u3 o_size o_gone o_minds o_lasts o_parent o_kind o_number o_above n u7 r7.1 (u7 + 1) r7.2.1 r7.2.2 t_stack f8 x_facts
      else
        sp_X5_prop_52 u2 u3 o_size o_gone o_minds o_lasts o_parent o_kind o_number o_above n u4 u5 (u7 + 1) o_kidCount o_lead t_stack x_prices x_facts
def sp_X5_prop (o_size : Int32) (o_year : Int32) (o_gone : Int32) (o_minds : Int32) (o_lasts : Int32) (t_rule : Int32) (o_parent : Nat → Int32) (o_kind : Nat → Int32) (o_number : Nat → Int32) (o_above : Nat → Int32) (o_kidCount : Nat → Int32) (o_lead : Nat → Int32) (t_steps : Nat → Int32) (t_ends : Nat → Int32) (t_stack : Nat → Int32) (x_prices : Nat → Int32) (x_facts : Nat → Int32) : Option (Int32 × (Nat → Int32) × (Nat → Int32) × (Nat → Int32) × (Nat → Int32) × (Nat → Int32)) :=
  (sp_X1_standing 0 o_size o_gone o_above).bind fun r1 =>
  (sp_X1_kidSet 0 r1 o_size o_parent).bind fun r2 =>
  if (sp_J6_bitCount_0f7a4 r2) ≤ 8 then
    (sp_X5_keepPrices r2 1 r1 o_size o_year o_lasts t_rule o_parent o_above t_steps t_ends t_stack x_prices x_facts).bind fun r3 =>
    (sp_X5_lawNow o_size o_gone o_minds o_lasts o_parent o_kind o_number o_above o_kidCount o_lead).bind fun r4 =>
    sp_X5_prop_52 r2 r4.1 o_size o_gone o_minds o_lasts o_parent o_kind o_number o_above 5000 (-1) 0 1 r4.2.1 r4.2.2 r3.1 r3.2.1 r3.2.2
  else
    some ((-3), o_kidCount, o_lead, t_stack, x_prices, x_facts)
def sp_X5_playedOut_p1_46 (R : Int32 → Int32 → Int32 → Int32 → Int32 → Int32 → Int32 → (Nat → Int32) → (Nat → Int32) → (Nat → Int32) → (Nat → Int32) → (Nat → Int32) → (Nat → Int32) → Option (Int32 × (Nat → Int32) × (Nat → Int32))) (u1 : Int32) (u2 : Int32) (u3 : Int32) (u5 : Int32) (o_size : Int32) (o_gone : Int32) (o_minds : Int32) (o_lasts : Int32) (o_parent : Nat → Int32) (o_kind : Nat → Int32) (o_number : Nat → Int32) (o_above : Nat → Int32) : Nat → Int32 → (Nat → Int32) → (Nat → Int32) → Option (Int32 × (Nat → Int32) × (Nat → Int32))
  | 0, _, _, _ => none
  | n + 1, u6, o_kidCount, o_lead =>
    if 12 ≤ u6 then
      some ((1 - u3), o_kidCount, o_lead)
    else
      if (sp_X5_bit u5 u6) = 1 then
        (R (u1 ||| (xi_shl 1 u6)) (u2 - 1) (1 - u3) o_size o_gone o_minds o_lasts o_parent o_kind o_number o_above o_kidCount o_lead).bind fun r2 =>
        if r2.1 = u3 then
          some (u3, r2.2.1, r2.2.2)
        else
          sp_X5_playedOut_p1_46 R u1 u2 u3 u5 o_size o_gone o_minds o_lasts o_parent o_kind o_number o_above n (u6 + 1) r2.2.1 r2.2.2
      else
        sp_X5_playedOut_p1_46 R u1 u2 u3 u5 o_size o_gone o_minds o_lasts o_parent o_kind o_number o_above n (u6 + 1) o_kidCount o_lead
def sp_X5_playedOut_p1 (R : Int32 → Int32 → Int32 → Int32 → Int32 → Int32 → Int32 → (Nat → Int32) → (Nat → Int32) → (Nat → Int32) → (Nat → Int32) → (Nat → Int32) → (Nat → Int32) → Option (Int32 × (Nat → Int32) × (Nat → Int32))) (p2 : Int32) (p3 : Int32) (p4 : Int32) (o_size : Int32) (o_gone : Int32) (o_minds : Int32) (o_lasts : Int32) (o_parent : Nat → Int32) (o_kind : Nat → Int32) (o_number : Nat → Int32) (o_above : Nat → Int32) (o_kidCount : Nat → Int32) (o_lead : Nat → Int32) : Option (Int32 × (Nat → Int32) × (Nat → Int32)) :=
  (sp_X1_standing p2 o_size o_gone o_above).bind fun r1 =>
  if p3 ≤ 0 then
    if (0 : Int32) = 0 then
      (sp_X1_vote r1 o_minds o_size o_lasts o_parent o_kind o_number o_kidCount o_lead).bind fun r3 =>
      some ((sp_X5_bit r3.1 0), r3.2.1, r3.2.2)
    else
      sp_X5_playedOut_p1_46 R p2 p3 p4 0 o_size o_gone o_minds o_lasts o_parent o_kind o_number o_above 5000 1 o_kidCount o_lead
  else
    (sp_X1_twigsOf r1 o_size o_parent).bind fun r4 =>
    if r4 = 0 then
      (sp_X1_vote r1 o_minds o_size o_lasts o_parent o_kind o_number o_kidCount o_lead).bind fun r5 =>
      some ((sp_X5_bit r5.1 0), r5.2.1, r5.2.2)
    else
      sp_X5_playedOut_p1_46 R p2 p3 p4 r4 o_size o_gone o_minds o_lasts o_parent o_kind o_number o_above 5000 1 o_kidCount o_lead
def sp_gXP : Nat → Int32 → Int32 → Int32 → Int32 → Int32 → Int32 → Int32 → (Nat → Int32) → (Nat → Int32) → (Nat → Int32) → (Nat → Int32) → (Nat → Int32) → (Nat → Int32) → Option (Int32 × (Nat → Int32) × (Nat → Int32))
  | 0, _, _, _, _, _, _, _, _, _, _, _, _, _ => none
  | n + 1, p2, p3, p4, o_size, o_gone, o_minds, o_lasts, o_parent, o_kind, o_number, o_above, o_kidCount, o_lead => sp_X5_playedOut_p1 (sp_gXP n) p2 p3 p4 o_size o_gone o_minds o_lasts o_parent o_kind o_number o_above o_kidCount o_lead
def sp_X5_turns_75 (u1 : Int32) (u3 : Int32) (u4 : Int32) (o_size : Int32) (o_gone : Int32) (o_minds : Int32) (o_lasts : Int32) (o_parent : Nat → Int32) (o_kind : Nat → Int32) (o_number : Nat → Int32) (o_above : Nat → Int32) : Nat → Int32 → (Nat → Int32) → (Nat → Int32) → Option (Int32 × (Nat → Int32) × (Nat → Int32))
  | 0, _, _, _ => none
  | n + 1, u5, o_kidCount, o_lead =>
    if 12 ≤ u5 then
      some ((-1), o_kidCount, o_lead)
    else
      if (sp_X5_bit u3 u5) = 1 then
        (sp_gXP 8 (xi_shl 1 u5) (u1 - 1) 0 o_size o_gone o_minds o_lasts o_parent o_kind o_number o_above o_kidCount o_lead).bind fun r4 =>
        if r4.1 = u4 then
          some (u5, r4.2.1, r4.2.2)
        else
          sp_X5_turns_75 u1 u3 u4 o_size o_gone o_minds o_lasts o_parent o_kind o_number o_above n (u5 + 1) r4.2.1 r4.2.2
      else
        sp_X5_turns_75 u1 u3 u4 o_size o_gone o_minds o_lasts o_parent o_kind o_number o_above n (u5 + 1) o_kidCount o_lead
def sp_X5_turns (p1 : Int32) (p2 : Int32) (o_size : Int32) (o_gone : Int32) (o_minds : Int32) (o_lasts : Int32) (o_parent : Nat → Int32) (o_kind : Nat → Int32) (o_number : Nat → Int32) (o_above : Nat → Int32) (o_kidCount : Nat → Int32) (o_lead : Nat → Int32) : Option (Int32 × (Nat → Int32) × (Nat → Int32)) :=
  if (sp_X5_isIn p1 0 4) = 0 then
    some ((-2), o_kidCount, o_lead)
  else
    if (sp_X5_isIn p2 0 1) = 0 then
      some ((-2), o_kidCount, o_lead)
    else
      (sp_X1_standing 0 o_size o_gone o_above).bind fun r1 =>
      (sp_X1_twigsOf r1 o_size o_parent).bind fun r2 =>
      if (sp_J6_bitCount_0f7a4 r2) ≤ 6 then
        (sp_gXP 8 0 p1 1 o_size o_gone o_minds o_lasts o_parent o_kind o_number o_above o_kidCount o_lead).bind fun r3 =>
        if p2 = 0 then
          some (r3.1, r3.2.1, r3.2.2)
        else
          if p1 ≤ 0 then
            some ((-1), r3.2.1, r3.2.2)
          else
            sp_X5_turns_75 p1 r2 r3.1 o_size o_gone o_minds o_lasts o_parent o_kind o_number o_above 5000 1 r3.2.1 r3.2.2
      else
        some ((-3), o_kidCount, o_lead)
def sp_J7_fill_53178_p27_5 (u1 : Int32) (u3 : Int32) : Nat → Int32 → (Nat → Int32) → Option ((Nat → Int32))
  | 0, _, _ => none
  | n + 1, u2, x_clues =>
    if u3 ≤ u2 then
      some x_clues
    else
      (xo_set x_clues 3 u2 u1).bind fun f1 =>
      sp_J7_fill_53178_p27_5 u1 u3 n (u2 + 1) f1
def sp_J7_fill_53178_p27 (p2 : Int32) (x_clues : Nat → Int32) : Option ((Nat → Int32)) :=
  sp_J7_fill_53178_p27_5 p2 3 5000 0 x_clues
def sp_X5_readsClues_28 (u1 : Int32) (u2 : Int32) (o_size : Int32) (s_items : Nat → Int32) : Nat → Int32 → (Nat → Int32) → Option (Int32 × (Nat → Int32))
  | 0, _, _ => none
  | n + 1, u3, x_clues =>
    if u2 ≤ (u3 + 1) then
      some (1, x_clues)
    else
      (sp_X3_read u1 u3 s_items).bind fun r3 =>
      (sp_X3_read u1 (u3 + 1) s_items).bind fun r4 =>
      if (sp_X1_has r3 o_size) = 0 then
        some (0, x_clues)
      else
        if (sp_X5_isIn r4 0 2) = 0 then
          some (0, x_clues)
        else
          (xo_at x_clues 3 r4).bind fun v5 =>
          (xo_set x_clues 3 r4 (v5 ||| (xi_shl 1 r3))).bind fun f6 =>
          sp_X5_readsClues_28 u1 u2 o_size s_items n (u3 + 2) f6
def sp_X5_readsClues (p1 : Int32) (o_size : Int32) (s_size : Nat → Int32) (s_items : Nat → Int32) (x_clues : Nat → Int32) : Option (Int32 × (Nat → Int32)) :=
  (sp_J7_fill_53178_p27 0 x_clues).bind fun r1 =>
  (xo_at s_size 4 p1).bind fun v2 =>
  if (xi_rem v2 2) = 0 then
    sp_X5_readsClues_28 p1 v2 o_size s_items 5000 0 r1
  else
    some (0, r1)
def sp_X5_fitsClues (p1 : Int32) (o_size : Int32) (o_gone : Int32) (o_minds : Int32) (o_lasts : Int32) (o_parent : Nat → Int32) (o_kind : Nat → Int32) (o_number : Nat → Int32) (o_above : Nat → Int32) (o_kidCount : Nat → Int32) (o_lead : Nat → Int32) (x_clues : Nat → Int32) : Option (Int32 × (Nat → Int32) × (Nat → Int32)) :=
  (sp_X1_standing p1 o_size o_gone o_above).bind fun r1 =>
  (xo_at x_clues 3 2).bind fun v2 =>
  if (r1 &&& v2) = 0 then
    (xo_at x_clues 3 0).bind fun v3 =>
    (xo_at x_clues 3 1).bind fun v4 =>
    if ((r1 ^^^ (-1)) &&& (v3 ||| v4)) = 0 then
      (sp_X1_vote r1 o_minds o_size o_lasts o_parent o_kind o_number o_kidCount o_lead).bind fun r5 =>
      (xo_at x_clues 3 0).bind fun v6 =>
      if (r5.1 &&& v6) = 0 then
        (xo_at x_clues 3 1).bind fun v7 =>
        if ((r5.1 ^^^ (-1)) &&& v7) = 0 then
          some (1, r5.2.1, r5.2.2)
        else
          some (0, r5.2.1, r5.2.2)
      else
        some (0, r5.2.1, r5.2.2)
    else
      some (0, o_kidCount, o_lead)
  else
    some (0, o_kidCount, o_lead)
def sp_X5_whoCut_80 (u2 : Int32) (u3 : Int32) (u4 : Int32) (o_size : Int32) (o_gone : Int32) (o_minds : Int32) (o_lasts : Int32) (o_parent : Nat → Int32) (o_kind : Nat → Int32) (o_number : Nat → Int32) (o_above : Nat → Int32) : Nat → Int32 → Int32 → Int32 → Int32 → (Nat → Int32) → (Nat → Int32) → (Nat → Int32) → Option (Int32 × (Nat → Int32) × (Nat → Int32) × (Nat → Int32))
  | 0, _, _, _, _, _, _, _ => none
  | n + 1, u5, u6, u7, u8, o_kidCount, o_lead, x_clues =>
    if u4 ≤ u8 then
      if u2 = 0 then
        some (u5, o_kidCount, o_lead, x_clues)
      else
        some (u6, o_kidCount, o_lead, x_clues)
    else
      (sp_X1_isNested u7 o_size o_above).bind fun r4 =>
      if r4 = 0 then
        (sp_X5_fitsClues u7 o_size o_gone o_minds o_lasts o_parent o_kind o_number o_above o_kidCount o_lead x_clues).bind fun r5 =>
        if r5.1 = 0 then
          sp_X5_whoCut_80 u2 u3 u4 o_size o_gone o_minds o_lasts o_parent o_kind o_number o_above n u5 u6 (sp_X5_nextSet u7 u3) (u8 + 1) r5.2.1 r5.2.2 x_clues
        else
          if u6 = (-1) then
            sp_X5_whoCut_80 u2 u3 u4 o_size o_gone o_minds o_lasts o_parent o_kind o_number o_above n (u5 + 1) u7 (sp_X5_nextSet u7 u3) (u8 + 1) r5.2.1 r5.2.2 x_clues
          else
            sp_X5_whoCut_80 u2 u3 u4 o_size o_gone o_minds o_lasts o_parent o_kind o_number o_above n (u5 + 1) u6 (sp_X5_nextSet u7 u3) (u8 + 1) r5.2.1 r5.2.2 x_clues
      else
        sp_X5_whoCut_80 u2 u3 u4 o_size o_gone o_minds o_lasts o_parent o_kind o_number o_above n u5 u6 (sp_X5_nextSet u7 u3) (u8 + 1) o_kidCount o_lead x_clues
def sp_X5_whoCut (p1 : Int32) (p2 : Int32) (o_size : Int32) (o_gone : Int32) (o_minds : Int32) (o_lasts : Int32) (o_parent : Nat → Int32) (o_kind : Nat → Int32) (o_number : Nat → Int32) (o_above : Nat → Int32) (o_kidCount : Nat → Int32) (o_lead : Nat → Int32) (s_sort : Nat → Int32) (s_size : Nat → Int32) (s_items : Nat → Int32) (x_clues : Nat → Int32) : Option (Int32 × (Nat → Int32) × (Nat → Int32) × (Nat → Int32)) :=
  if (sp_X5_isIn p1 0 3) = 0 then
    some ((-2), o_kidCount, o_lead, x_clues)
  else
    if (sp_X5_isIn p2 0 1) = 0 then
      some ((-2), o_kidCount, o_lead, x_clues)
    else
      (xo_at s_sort 4 p1).bind fun v1 =>
      if v1 = (-1) then
        some ((-11), o_kidCount, o_lead, x_clues)
      else
        (sp_X5_readsClues p1 o_size s_size s_items x_clues).bind fun r2 =>
        if r2.1 = 0 then
          some ((-2), o_kidCount, o_lead, r2.2)
        else
          (sp_X1_standing 0 o_size o_gone o_above).bind fun r3 =>
          sp_X5_whoCut_80 p2 (sp_X5_withBit r3 0 0) (sp_X5_waysOf (sp_X5_withBit r3 0 0)) o_size o_gone o_minds o_lasts o_parent o_kind o_number o_above 5000 0 (-1) 0 0 o_kidCount o_lead r2.2
def sp_X5_lawByLot_9 (u2 : Int32) (u3 : Int32) (o_size : Int32) (o_lasts : Int32) (o_parent : Nat → Int32) (o_kind : Nat → Int32) (o_number : Nat → Int32) (o_odds : Nat → Int32) : Nat → Int32 → Int32 → Int32 → (Nat → Int32) → (Nat → Int32) → Option (Int32 × (Nat → Int32) × (Nat → Int32))
  | 0, _, _, _, _, _ => none
  | n + 1, u4, u5, u6, o_kidCount, o_lead =>
    if 12 ≤ u6 then
      (sp_X1_vote u2 u5 o_size o_lasts o_parent o_kind o_number o_kidCount o_lead).bind fun r1 =>
      some ((sp_X5_bit r1.1 0), r1.2.1, r1.2.2)
    else
      if (sp_X5_bit u3 u6) = 1 then
        (xo_at o_odds 12 u6).bind fun v2 =>
        if v2 ≤ (xi_rem (xi_ushr ((u4 * 1103515245) + 12345) 10) 100) then
          sp_X5_lawByLot_9 u2 u3 o_size o_lasts o_parent o_kind o_number o_odds n ((u4 * 1103515245) + 12345) u5 (u6 + 1) o_kidCount o_lead
        else
          sp_X5_lawByLot_9 u2 u3 o_size o_lasts o_parent o_kind o_number o_odds n ((u4 * 1103515245) + 12345) (u5 ||| (xi_shl 1 u6)) (u6 + 1) o_kidCount o_lead
      else
        sp_X5_lawByLot_9 u2 u3 o_size o_lasts o_parent o_kind o_number o_odds n u4 u5 (u6 + 1) o_kidCount o_lead
def sp_X5_lawByLot (p1 : Int32) (p2 : Int32) (p3 : Int32) (o_size : Int32) (o_lasts : Int32) (o_parent : Nat → Int32) (o_kind : Nat → Int32) (o_number : Nat → Int32) (o_odds : Nat → Int32) (o_kidCount : Nat → Int32) (o_lead : Nat → Int32) : Option (Int32 × (Nat → Int32) × (Nat → Int32)) :=
  sp_X5_lawByLot_9 p2 p3 o_size o_lasts o_parent o_kind o_number o_odds 5000 p1 0 1 o_kidCount o_lead
def sp_X5_drawn (p1 : Int32) (o_size : Int32) (o_gone : Int32) (o_lasts : Int32) (o_parent : Nat → Int32) (o_kind : Nat → Int32) (o_number : Nat → Int32) (o_odds : Nat → Int32) (o_above : Nat → Int32) (o_kidCount : Nat → Int32) (o_lead : Nat → Int32) : Option (Int32 × (Nat → Int32) × (Nat → Int32)) :=
  (sp_X1_standing 0 o_size o_gone o_above).bind fun r1 =>
  (sp_X1_twigsOf r1 o_size o_parent).bind fun r2 =>
  (sp_X5_lawByLot p1 r1 r2 o_size o_lasts o_parent o_kind o_number o_odds o_kidCount o_lead).bind fun r3 =>
  some (r3.1, r3.2.1, r3.2.2)
def sp_X5_chance_50 (u1 : Int32) (u2 : Int32) (u3 : Int32) (u4 : Int32) (u5 : Int32) (o_size : Int32) (o_lasts : Int32) (o_parent : Nat → Int32) (o_kind : Nat → Int32) (o_number : Nat → Int32) (o_odds : Nat → Int32) : Nat → Int32 → Int32 → (Nat → Int32) → (Nat → Int32) → Option (Int64 × (Nat → Int32) × (Nat → Int32))
  | 0, _, _, _, _ => none
  | n + 1, u6, u7, o_kidCount, o_lead =>
    if u2 ≤ u7 then
      (sp_X5_lowest (Int32.toInt64 u6) (Int32.toInt64 u2) u3).bind fun r3 =>
      some (r3, o_kidCount, o_lead)
    else
      (sp_X5_lawByLot (u1 + u7) u4 u5 o_size o_lasts o_parent o_kind o_number o_odds o_kidCount o_lead).bind fun r4 =>
      sp_X5_chance_50 u1 u2 u3 u4 u5 o_size o_lasts o_parent o_kind o_number o_odds n (u6 + r4.1) (u7 + 1) r4.2.1 r4.2.2
def sp_X5_chance (p1 : Int32) (p2 : Int32) (p3 : Int32) (o_size : Int32) (o_gone : Int32) (o_lasts : Int32) (o_parent : Nat → Int32) (o_kind : Nat → Int32) (o_number : Nat → Int32) (o_odds : Nat → Int32) (o_above : Nat → Int32) (o_kidCount : Nat → Int32) (o_lead : Nat → Int32) : Option (Int64 × (Nat → Int32) × (Nat → Int32)) :=
  if (sp_X5_isIn p2 1 20) = 0 then
    some ((-4611686018427387904), o_kidCount, o_lead)
  else
    if (sp_X5_isIn p3 0 1) = 0 then
      some ((-4611686018427387904), o_kidCount, o_lead)
    else
      (sp_X1_standing 0 o_size o_gone o_above).bind fun r1 =>
      (sp_X1_twigsOf r1 o_size o_parent).bind fun r2 =>
      sp_X5_chance_50 p1 p2 p3 r1 r2 o_size o_lasts o_parent o_kind o_number o_odds 5000 0 0 o_kidCount o_lead
def sp_X5_image (o_size : Int32) (o_year : Int32) (o_gone : Int32) (o_minds : Int32) (o_lasts : Int32) (t_rule : Int32) (i_there : Int32) (i_rule : Int32) (i_size : Int32) (i_year : Int32) (i_gone : Int32) (i_minds : Int32) (i_lasts : Int32) (o_number : Nat → Int32) (o_odds : Nat → Int32) (i_number : Nat → Int32) (i_odds : Nat → Int32) : Option (Int32 × Int32 × Int32 × Int32 × Int32 × Int32 × Int32 × Int32 × (Nat → Int32) × (Nat → Int32)) :=
  (sp_X0_keep_p1 t_rule o_size o_year o_gone o_minds o_lasts i_there i_rule i_size i_year i_gone i_minds i_lasts o_number o_odds i_number i_odds).bind fun r1 =>
  some (o_size, r1.1, r1.2.1, r1.2.2.1, r1.2.2.2.1, r1.2.2.2.2.1, r1.2.2.2.2.2.1, r1.2.2.2.2.2.2.1, r1.2.2.2.2.2.2.2.1, r1.2.2.2.2.2.2.2.2)
def sp_X5_back (o_size : Int32) (o_year : Int32) (o_gone : Int32) (o_minds : Int32) (o_lasts : Int32) (t_rule : Int32) (i_there : Int32) (i_rule : Int32) (i_size : Int32) (i_year : Int32) (i_gone : Int32) (i_minds : Int32) (i_lasts : Int32) (o_number : Nat → Int32) (o_odds : Nat → Int32) (i_number : Nat → Int32) (i_odds : Nat → Int32) : Option (Int32 × Int32 × Int32 × Int32 × Int32 × Int32 × Int32 × (Nat → Int32) × (Nat → Int32)) :=
  if i_there = 0 then
    some ((-3), o_size, o_year, o_gone, o_minds, o_lasts, t_rule, o_number, o_odds)
  else
    (sp_X0_layBack_p1 o_size o_year o_gone o_minds o_lasts i_size i_year i_gone i_minds i_lasts o_number o_odds i_number i_odds).bind fun r1 =>
    some (r1.1, r1.1, r1.2.1, r1.2.2.1, r1.2.2.2.1, r1.2.2.2.2.1, i_rule, r1.2.2.2.2.2.1, r1.2.2.2.2.2.2)
def sp_X5_count (p1 : Int32) (o_size : Int32) (o_year : Int32) (o_gone : Int32) (r_size : Int32) (t_size : Int32) (t_rule : Int32) (o_parent : Nat → Int32) (o_above : Nat → Int32) : Option (Int32) :=
  if p1 = 0 then
    some o_size
  else if p1 = 1 then
    (sp_X1_standing 0 o_size o_gone o_above).bind fun r1 =>
    some (sp_J6_bitCount_0f7a4 r1)
  else if p1 = 2 then
    (sp_X1_standing 0 o_size o_gone o_above).bind fun r2 =>
    (sp_X1_twigsOf r2 o_size o_parent).bind fun r3 =>
    some (sp_J6_bitCount_0f7a4 r3)
  else if p1 = 3 then
    some t_size
  else if p1 = 4 then
    some r_size
  else if p1 = 5 then
    some t_rule
  else if p1 = 6 then
    some o_year
  else 
    some (-2)
def sp_X5_sheet (p1 : Int32) (p2 : Int32) (p3 : Int32) (s_sort : Nat → Int32) (s_size : Nat → Int32) (s_items : Nat → Int32) : Option (Int32 × (Nat → Int32) × (Nat → Int32) × (Nat → Int32)) :=
  if (sp_X5_isIn p1 0 3) = 0 then
    some ((-2), s_sort, s_size, s_items)
  else
    if (sp_X5_isIn p2 (-1) 2) = 0 then
      some ((-2), s_sort, s_size, s_items)
    else
      if p2 = (-1) then
        (sp_X3_lay p1 (-1) 0 s_sort s_size s_items).bind fun r2 =>
        some (1, r2.1, r2.2.1, r2.2.2)
      else
        if p3 ≤ 40 then
          if 0 ≤ p3 then
            (sp_X3_lay p1 p2 p3 s_sort s_size s_items).bind fun r1 =>
            some (1, r1.1, r1.2.1, r1.2.2)
          else
            some ((-14), s_sort, s_size, s_items)
        else
          some ((-2), s_sort, s_size, s_items)
def sp_X5_cell (p1 : Int32) (p2 : Int32) (p3 : Int32) (s_sort : Nat → Int32) (s_size : Nat → Int32) (s_items : Nat → Int32) : Option (Int32 × (Nat → Int32)) :=
  if (sp_X5_isIn p1 0 3) = 0 then
    some ((-2), s_items)
  else
    (xo_at s_sort 4 p1).bind fun v1 =>
    if v1 = (-1) then
      some ((-11), s_items)
    else
      (sp_X3_holds p1 p2 1 s_size).bind fun r2 =>
      if r2 = 0 then
        some ((-12), s_items)
      else
        (sp_X3_write p1 p2 p3 s_sort s_items).bind fun r3 =>
        some (1, r3)
def sp_X5_copy (p1 : Int32) (p2 : Int32) (p3 : Int32) (p4 : Int32) (p5 : Int32) (s_sort : Nat → Int32) (s_size : Nat → Int32) (s_items : Nat → Int32) : Option (Int32 × (Nat → Int32)) :=
  if (sp_X5_isIn p1 0 3) = 0 then
    some ((-2), s_items)
  else
    if (sp_X5_isIn p3 0 3) = 0 then
      some ((-2), s_items)
    else
      (xo_at s_sort 4 p1).bind fun v1 =>
      if v1 = (-1) then
        some ((-11), s_items)
      else
        (xo_at s_sort 4 p3).bind fun v2 =>
        if v2 = (-1) then
          some ((-11), s_items)
        else
          (xo_at s_sort 4 p1).bind fun v3 =>
          (xo_at s_sort 4 p3).bind fun v4 =>
          if v3 = v4 then
            (sp_X3_holds p1 p2 p5 s_size).bind fun r5 =>
            if r5 = 0 then
              some ((-12), s_items)
            else
              (sp_X3_holds p3 p4 p5 s_size).bind fun r6 =>
              if r6 = 0 then
                some ((-12), s_items)
              else
                (sp_X3_move p1 p2 p3 p4 p5 s_items).bind fun r7 =>
                some (p5, r7)
          else
            some ((-13), s_items)
def sp_X5_nodes_83 (u1 : Int32) (u3 : Int32) (u4 : Int32) (s_size : Nat → Int32) (s_items : Nat → Int32) : Nat → Int32 → Int32 → Int32 → Int32 → Int32 → Int32 → (Nat → Int32) → (Nat → Int32) → (Nat → Int32) → (Nat → Int32) → (Nat → Int32) → Option (Int32 × Int32 × Int32 × Int32 × Int32 × (Nat → Int32) × (Nat → Int32) × (Nat → Int32) × (Nat → Int32) × (Nat → Int32))
  | 0, _, _, _, _, _, _, _, _, _, _, _ => none
  | n + 1, u5, u6, o_size, o_gone, o_minds, o_lasts, o_parent, o_kind, o_number, o_odds, o_above =>
    if u4 ≤ u6 then
      some (u5, o_size, o_gone, o_minds, o_lasts, o_parent, o_kind, o_number, o_odds, o_above)
    else
      (sp_X3_holds u1 (u3 + (3 * u6)) 3 s_size).bind fun r3 =>
      if r3 = 0 then
        some ((-12), o_size, o_gone, o_minds, o_lasts, o_parent, o_kind, o_number, o_odds, o_above)
      else
        (sp_X3_read u1 (u3 + (3 * u6)) s_items).bind fun r4 =>
        (sp_X3_read u1 ((u3 + (3 * u6)) + 1) s_items).bind fun r5 =>
        (sp_X3_read u1 ((u3 + (3 * u6)) + 2) s_items).bind fun r6 =>
        (sp_X1_sprout r4 r5 r6 o_size o_gone o_minds o_lasts o_parent o_kind o_number o_odds o_above).bind fun r7 =>
        if r7.1 < 0 then
          sp_X5_nodes_83 u1 u3 u4 s_size s_items n u5 (u6 + 1) r7.2.1 r7.2.2.1 r7.2.2.2.1 r7.2.2.2.2.1 r7.2.2.2.2.2.1 r7.2.2.2.2.2.2.1 r7.2.2.2.2.2.2.2.1 r7.2.2.2.2.2.2.2.2.1 r7.2.2.2.2.2.2.2.2.2
        else
          sp_X5_nodes_83 u1 u3 u4 s_size s_items n (u5 + 1) (u6 + 1) r7.2.1 r7.2.2.1 r7.2.2.2.1 r7.2.2.2.2.1 r7.2.2.2.2.2.1 r7.2.2.2.2.2.2.1 r7.2.2.2.2.2.2.2.1 r7.2.2.2.2.2.2.2.2.1 r7.2.2.2.2.2.2.2.2.2
def sp_X5_nodes (p1 : Int32) (p2 : Int32) (p3 : Int32) (p4 : Int32) (o_size : Int32) (o_gone : Int32) (o_minds : Int32) (o_lasts : Int32) (o_parent : Nat → Int32) (o_kind : Nat → Int32) (o_number : Nat → Int32) (o_odds : Nat → Int32) (o_above : Nat → Int32) (s_sort : Nat → Int32) (s_size : Nat → Int32) (s_items : Nat → Int32) : Option (Int32 × Int32 × Int32 × Int32 × Int32 × (Nat → Int32) × (Nat → Int32) × (Nat → Int32) × (Nat → Int32) × (Nat → Int32)) :=
  if (sp_X5_isIn p1 0 3) = 0 then
    some ((-2), o_size, o_gone, o_minds, o_lasts, o_parent, o_kind, o_number, o_odds, o_above)
  else
    if (sp_X5_isIn p2 0 2) = 0 then
      some ((-2), o_size, o_gone, o_minds, o_lasts, o_parent, o_kind, o_number, o_odds, o_above)
    else
      if (sp_X5_isIn p4 0 12) = 0 then
        some ((-2), o_size, o_gone, o_minds, o_lasts, o_parent, o_kind, o_number, o_odds, o_above)
      else
        (xo_at s_sort 4 p1).bind fun v1 =>
        if v1 = (-1) then
          (xo_at s_sort 4 p1).bind fun v2 =>
          if v2 = (-1) then
            some ((-11), o_size, o_gone, o_minds, o_lasts, o_parent, o_kind, o_number, o_odds, o_above)
          else
            sp_X5_nodes_83 p1 p3 p4 s_size s_items 5000 0 0 o_size o_gone o_minds o_lasts o_parent o_kind o_number o_odds o_above
        else
          (xo_at s_sort 4 p1).bind fun v8 =>
          if v8 = p2 then
            (xo_at s_sort 4 p1).bind fun v9 =>
            if v9 = (-1) then
              some ((-11), o_size, o_gone, o_minds, o_lasts, o_parent, o_kind, o_number, o_odds, o_above)
            else
              sp_X5_nodes_83 p1 p3 p4 s_size s_items 5000 0 0 o_size o_gone o_minds o_lasts o_parent o_kind o_number o_odds o_above
          else
            some ((-13), o_size, o_gone, o_minds, o_lasts, o_parent, o_kind, o_number, o_odds, o_above)
def sp_X5_isUnder (p1 : Int32) (p2 : Int32)  : Int32 :=
  if p1 = p2 then
    1
  else
    if p2 = 0 then
      1
    else
      if p2 = 1 then
        if p1 = 3 then
          1
        else
          if p1 = 5 then
            1
          else
            0
      else
        if p2 = 2 then
          if p1 = 4 then
            1
          else
            0
        else
          0
def sp_X5_taken (p1 : Int32) (p2 : Int32) (o_size : Int32) (o_kind : Nat → Int32) (o_number : Nat → Int32) : Option (Int32) :=
  if (sp_X5_isIn p2 0 5) = 0 then
    some (-2)
  else
    if (sp_X1_has p1 o_size) = 0 then
      some (-11)
    else
      (xo_at o_kind 12 p1).bind fun v1 =>
      if (sp_X5_isUnder v1 p2) = 0 then
        some (-13)
      else
        (xo_at o_number 12 p1).bind fun v2 =>
        some v2
set_option maxRecDepth 4000 in
theorem t_X5_grow {o : Int32 × Int32 × Int32 × Int32 × Int32 × (Nat → Int32) × (Nat → Int32) × (Nat → Int32) × (Nat → Int32) × (Nat → Int32)} {p1 : Int32} {p2 : Int32} {p3 : Int32} (hm : sp_X5_grow p1 p2 p3 o_size o_gone o_minds o_lasts o_parent o_kind o_number o_odds o_above = some o) : xt_M yX5_grow cX5_grow 4 (some .int) (d + 2) [.ref 0, .int p1, .int p2, .int p3] (WX o_size o_year o_gone o_minds o_lasts r_size r_token r_place r_at r_open r_made t_size t_rule i_there i_rule i_size i_year i_gone i_minds i_lasts o_parent o_kind o_number o_odds o_above o_kidCount o_lead r_tape r_steps r_ends t_steps t_ends t_stack s_sort s_size s_items i_number i_odds x_prices x_facts x_laws x_clues) (xt_Ki o.1 (WX o.2.1 o_year o.2.2.1 o.2.2.2.1 o.2.2.2.2.1 r_size r_token r_place r_at r_open r_made t_size t_rule i_there i_rule i_size i_year i_gone i_minds i_lasts o.2.2.2.2.2.1 o.2.2.2.2.2.2.1 o.2.2.2.2.2.2.2.1 o.2.2.2.2.2.2.2.2.1 o.2.2.2.2.2.2.2.2.2 o_kidCount o_lead r_tape r_steps r_ends t_steps t_ends t_stack s_sort s_size s_items i_number i_odds x_prices x_facts x_laws x_clues)) := by
  unfold sp_X5_grow at hm
  refine xt_M.go (own := RX5) (lv := [some (.ref 0), some (.int p1), some (.int p2), some (.int p3)]) rfl rfl (Nat.le_of_ble_eq_true rfl) rfl ?_
  refine x_aload0 eX5_grow_0 ?_
  refine x_get eX5_grow_1 fX5_10 rfl rfl ?_
  refine x_iload1 eX5_grow_4 ?_
  refine x_iload2 eX5_grow_5 ?_
  refine x_iload3 eX5_grow_6 ?_
  obtain ⟨r1, hr, hm⟩ := xo_bind hm
  refine x_Vi3 eX5_grow_7 kX1_sprout mX5_84 (t_X1_sprout hr) rfl (Nat.le_of_ble_eq_true rfl) ?_
  obtain rfl := Option.some.inj hm
  exact x_iret eX5_grow_10 ⟨rfl, rfl⟩
set_option maxRecDepth 4000 in
theorem t_X5_mostOf {o : Int32} {p1 : Int32} (hm : sp_X5_mostOf p1 = o) : xt_M yX5_mostOf cX5_mostOf 1 (some .int) (d + 0) [.int p1] (WX o_size o_year o_gone o_minds o_lasts r_size r_token r_place r_at r_open r_made t_size t_rule i_there i_rule i_size i_year i_gone i_minds i_lasts o_parent o_kind o_number o_odds o_above o_kidCount o_lead r_tape r_steps r_ends t_steps t_ends t_stack s_sort s_size s_items i_number i_odds x_prices x_facts x_laws x_clues) (xt_Ki o (WX o_size o_year o_gone o_minds o_lasts r_size r_token r_place r_at r_open r_made t_size t_rule i_there i_rule i_size i_year i_gone i_minds i_lasts o_parent o_kind o_number o_odds o_above o_kidCount o_lead r_tape r_steps r_ends t_steps t_ends t_stack s_sort s_size s_items i_number i_odds x_prices x_facts x_laws x_clues)) := by
  unfold sp_X5_mostOf at hm
  refine xt_M.go (own := RX5) (lv := [some (.int p1)]) rfl rfl (Nat.le_of_ble_eq_true rfl) rfl ?_
  refine x_iload0 eX5_mostOf_0 ?_
  refine x_if_ne eX5_mostOf_1 (fun c => ?_) (fun c => ?_)
  · rw [if_neg c] at hm
    refine x_iload0 eX5_mostOf_7 ?_
    refine x_k eX5_mostOf_8 ?_
    refine x_icmp_ne eX5_mostOf_9 (fun c => ?_) (fun c => ?_)
    · rw [if_neg c] at hm
      refine x_k eX5_mostOf_17 ?_
      subst hm
      exact x_iret eX5_mostOf_18 ⟨rfl, rfl⟩
    · rw [if_pos c] at hm
      refine x_k eX5_mostOf_12 ?_
      refine x_goto eX5_mostOf_14 ?_
      subst hm
      exact x_iret eX5_mostOf_18 ⟨rfl, rfl⟩
  · rw [if_pos c] at hm
    refine x_k eX5_mostOf_4 ?_
    subst hm
    exact x_iret eX5_mostOf_6 ⟨rfl, rfl⟩
set_option maxRecDepth 4000 in
theorem t_X5_putYear {o : Int32 × Int32} {p1 : Int32} (hm : sp_X5_putYear p1 o_year = o) : xt_M yX5_putYear cX5_putYear 3 (some .int) (d + 0) [.ref 0, .int p1] (WX o_size o_year o_gone o_minds o_lasts r_size r_token r_place r_at r_open r_made t_size t_rule i_there i_rule i_size i_year i_gone i_minds i_lasts o_parent o_kind o_number o_odds o_above o_kidCount o_lead r_tape r_steps r_ends t_steps t_ends t_stack s_sort s_size s_items i_number i_odds x_prices x_facts x_laws x_clues) (xt_Ki o.1 (WX o_size o.2 o_gone o_minds o_lasts r_size r_token r_place r_at r_open r_made t_size t_rule i_there i_rule i_size i_year i_gone i_minds i_lasts o_parent o_kind o_number o_odds o_above o_kidCount o_lead r_tape r_steps r_ends t_steps t_ends t_stack s_sort s_size s_items i_number i_odds x_prices x_facts x_laws x_clues)) := by
  unfold sp_X5_putYear at hm
  refine xt_M.go (own := RX5) (lv := [some (.ref 0), some (.int p1), none]) rfl rfl (Nat.le_of_ble_eq_true rfl) rfl ?_
  refine x_aload0 eX5_putYear_0 ?_
  refine x_get eX5_putYear_1 fX5_10 rfl rfl ?_
  refine x_get eX5_putYear_4 fX5_122 rfl rfl ?_
  refine x_istore2 eX5_putYear_7 rfl ?_
  refine x_aload0 eX5_putYear_8 ?_
  refine x_get eX5_putYear_9 fX5_10 rfl rfl ?_
  refine x_iload1 eX5_putYear_12 ?_
  refine x_puti (w' := WX _ _ _ _ _ _ _ _ _ _ _ _ _ _ _ _ _ _ _ _ _ _ _ _ _ _ _ _ _ _ _ _ _ _ _ _ _ _ _ _ _ _) eX5_putYear_13 pX5_122 rfl (Nat.le_of_ble_eq_true rfl) rfl ?_
  refine x_iload2 eX5_putYear_16 ?_
  subst hm
  exact x_iret eX5_putYear_17 ⟨rfl, rfl⟩
set_option maxRecDepth 4000 in
theorem t_X5_set {o : Int32 × Int32 × Int32 × Int32 × (Nat → Int32) × (Nat → Int32)} {p1 : Int32} {p2 : Int32} {p3 : Int32} (hm : sp_X5_set p1 p2 p3 o_size o_year o_minds o_lasts o_number o_odds = some o) : xt_M yX5_set cX5_set 5 (some .int) (d + 1) [.ref 0, .int p1, .int p2, .int p3] (WX o_size o_year o_gone o_minds o_lasts r_size r_token r_place r_at r_open r_made t_size t_rule i_there i_rule i_size i_year i_gone i_minds i_lasts o_parent o_kind o_number o_odds o_above o_kidCount o_lead r_tape r_steps r_ends t_steps t_ends t_stack s_sort s_size s_items i_number i_odds x_prices x_facts x_laws x_clues) (xt_Ki o.1 (WX o_size o.2.1 o_gone o.2.2.1 o.2.2.2.1 r_size r_token r_place r_at r_open r_made t_size t_rule i_there i_rule i_size i_year i_gone i_minds i_lasts o_parent o_kind o.2.2.2.2.1 o.2.2.2.2.2 o_above o_kidCount o_lead r_tape r_steps r_ends t_steps t_ends t_stack s_sort s_size s_items i_number i_odds x_prices x_facts x_laws x_clues)) := by
  unfold sp_X5_set at hm
  refine xt_M.go (own := RX5) (lv := [some (.ref 0), some (.int p1), some (.int p2), some (.int p3), none]) rfl rfl (Nat.le_of_ble_eq_true rfl) rfl ?_
  refine x_iload1 eX5_set_0 ?_
  refine x_k eX5_set_1 ?_
  refine x_icmp_ne eX5_set_2 (fun c => ?_) (fun c => ?_)
  · rw [if_neg c] at hm
    refine x_aload0 eX5_set_26 ?_
    refine x_get eX5_set_27 fX5_10 rfl rfl ?_
    refine x_iload2 eX5_set_30 ?_
    refine x_Vi1 eX5_set_31 kX1_has mX5_96 (t_X1_has rfl) rfl (Nat.le_of_ble_eq_true rfl) ?_
    refine x_if_eq eX5_set_34 (fun c => ?_) (fun c => ?_)
    · rw [if_pos c] at hm
      refine x_k eX5_set_58 ?_
      obtain rfl := Option.some.inj hm
      exact x_iret eX5_set_60 ⟨rfl, rfl⟩
    · rw [if_neg c] at hm
      refine x_iload1 eX5_set_37 ?_
      refine x_k eX5_set_38 ?_
      refine x_k eX5_set_39 ?_
      refine x_Si3 eX5_set_40 kX5_isIn mX5_88 (t_X5_isIn rfl) (Nat.le_of_ble_eq_true rfl) ?_
      refine x_if_eq eX5_set_43 (fun c => ?_) (fun c => ?_)
      · rw [if_pos c] at hm
        refine x_k eX5_set_58 ?_
        obtain rfl := Option.some.inj hm
        exact x_iret eX5_set_60 ⟨rfl, rfl⟩
      · rw [if_neg c] at hm
        refine x_iload3 eX5_set_46 ?_
        refine x_k eX5_set_47 ?_
        refine x_iload1 eX5_set_48 ?_
        refine x_Si1 eX5_set_49 kX5_mostOf mX5_99 (t_X5_mostOf rfl) (Nat.le_of_ble_eq_true rfl) ?_
        refine x_Si3 eX5_set_52 kX5_isIn mX5_88 (t_X5_isIn rfl) (Nat.le_of_ble_eq_true rfl) ?_
        refine x_if_ne eX5_set_55 (fun c => ?_) (fun c => ?_)
        · rw [if_neg c] at hm
          refine x_iload1 eX5_set_61 ?_
          refine x_if_ne eX5_set_62 (fun c => ?_) (fun c => ?_)
          · rw [if_neg c] at hm
            refine x_iload1 eX5_set_89 ?_
            refine x_k eX5_set_90 ?_
            refine x_icmp_ne eX5_set_91 (fun c => ?_) (fun c => ?_)
            · rw [if_neg c] at hm
              refine x_iload1 eX5_set_129 ?_
              refine x_k eX5_set_130 ?_
              refine x_icmp_ne eX5_set_131 (fun c => ?_) (fun c => ?_)
              · rw [if_neg c] at hm
                refine x_aload0 eX5_set_158 ?_
                refine x_get eX5_set_159 fX5_10 rfl rfl ?_
                refine x_get eX5_set_162 fX5_119 rfl rfl ?_
                refine x_iload2 eX5_set_165 ?_
                refine x_Si2 eX5_set_166 kX5_bit mX5_109 (t_X5_bit rfl) (Nat.le_of_ble_eq_true rfl) ?_
                refine x_istore4 eX5_set_169 rfl ?_
                refine x_aload0 eX5_set_171 ?_
                refine x_get eX5_set_172 fX5_10 rfl rfl ?_
                refine x_aload0 eX5_set_175 ?_
                refine x_get eX5_set_176 fX5_10 rfl rfl ?_
                refine x_get eX5_set_179 fX5_119 rfl rfl ?_
                refine x_iload2 eX5_set_182 ?_
                refine x_iload3 eX5_set_183 ?_
                refine x_Si3 eX5_set_184 kX5_withBit mX5_113 (t_X5_withBit rfl) (Nat.le_of_ble_eq_true rfl) ?_
                refine x_puti (w' := WX _ _ _ _ _ _ _ _ _ _ _ _ _ _ _ _ _ _ _ _ _ _ _ _ _ _ _ _ _ _ _ _ _ _ _ _ _ _ _ _ _ _) eX5_set_187 pX5_119 rfl (Nat.le_of_ble_eq_true rfl) rfl ?_
                refine x_iload4 eX5_set_190 ?_
                obtain rfl := Option.some.inj hm
                exact x_iret eX5_set_192 ⟨rfl, rfl⟩
              · rw [if_pos c] at hm
                refine x_aload0 eX5_set_134 ?_
                refine x_get eX5_set_135 fX5_10 rfl rfl ?_
                refine x_get eX5_set_138 fX5_116 rfl rfl ?_
                refine x_iload2 eX5_set_141 ?_
                obtain ⟨v1, hv, hm⟩ := xo_bind hm
                obtain ⟨hi, rfl⟩ := xo_at_some hv
                refine x_iaload eX5_set_142 rfl hi ?_
                refine x_istore4 eX5_set_143 rfl ?_
                refine x_aload0 eX5_set_145 ?_
                refine x_get eX5_set_146 fX5_10 rfl rfl ?_
                refine x_get eX5_set_149 fX5_116 rfl rfl ?_
                refine x_iload2 eX5_set_152 ?_
                refine x_iload3 eX5_set_153 ?_
                obtain ⟨f2, hv, hm⟩ := xo_bind hm
                obtain ⟨hi, rfl⟩ := xo_set_some hv
                refine x_iastore (w' := WX _ _ _ _ _ _ _ _ _ _ _ _ _ _ _ _ _ _ _ _ _ _ _ _ _ _ _ _ _ _ _ _ _ _ _ _ _ _ _ _ _ _) eX5_set_154 rfl hi rfl ?_
                refine x_goto eX5_set_155 ?_
                refine x_iload4 eX5_set_190 ?_
                obtain rfl := Option.some.inj hm
                exact x_iret eX5_set_192 ⟨rfl, rfl⟩
            · rw [if_pos c] at hm
              refine x_aload0 eX5_set_94 ?_
              refine x_get eX5_set_95 fX5_10 rfl rfl ?_
              refine x_get eX5_set_98 fX5_105 rfl rfl ?_
              refine x_iload2 eX5_set_101 ?_
              refine x_Si2 eX5_set_102 kX5_bit mX5_109 (t_X5_bit rfl) (Nat.le_of_ble_eq_true rfl) ?_
              refine x_istore4 eX5_set_105 rfl ?_
              refine x_aload0 eX5_set_107 ?_
              refine x_get eX5_set_108 fX5_10 rfl rfl ?_
              refine x_aload0 eX5_set_111 ?_
              refine x_get eX5_set_112 fX5_10 rfl rfl ?_
              refine x_get eX5_set_115 fX5_105 rfl rfl ?_
              refine x_iload2 eX5_set_118 ?_
              refine x_iload3 eX5_set_119 ?_
              refine x_Si3 eX5_set_120 kX5_withBit mX5_113 (t_X5_withBit rfl) (Nat.le_of_ble_eq_true rfl) ?_
              refine x_puti (w' := WX _ _ _ _ _ _ _ _ _ _ _ _ _ _ _ _ _ _ _ _ _ _ _ _ _ _ _ _ _ _ _ _ _ _ _ _ _ _ _ _ _ _) eX5_set_123 pX5_105 rfl (Nat.le_of_ble_eq_true rfl) rfl ?_
              refine x_goto eX5_set_126 ?_
              refine x_iload4 eX5_set_190 ?_
              obtain rfl := Option.some.inj hm
              exact x_iret eX5_set_192 ⟨rfl, rfl⟩
          · rw [if_pos c] at hm
            refine x_aload0 eX5_set_65 ?_
            refine x_get eX5_set_66 fX5_10 rfl rfl ?_
            refine x_get eX5_set_69 fX5_102 rfl rfl ?_
            refine x_iload2 eX5_set_72 ?_
            obtain ⟨v3, hv, hm⟩ := xo_bind hm
            obtain ⟨hi, rfl⟩ := xo_at_some hv
            refine x_iaload eX5_set_73 rfl hi ?_
            refine x_istore4 eX5_set_74 rfl ?_
            refine x_aload0 eX5_set_76 ?_
            refine x_get eX5_set_77 fX5_10 rfl rfl ?_
            refine x_get eX5_set_80 fX5_102 rfl rfl ?_
            refine x_iload2 eX5_set_83 ?_
            refine x_iload3 eX5_set_84 ?_
            obtain ⟨f4, hv, hm⟩ := xo_bind hm
            obtain ⟨hi, rfl⟩ := xo_set_some hv
            refine x_iastore (w' := WX _ _ _ _ _ _ _ _ _ _ _ _ _ _ _ _ _ _ _ _ _ _ _ _ _ _ _ _ _ _ _ _ _ _ _ _ _ _ _ _ _ _) eX5_set_85 rfl hi rfl ?_
            refine x_goto eX5_set_86 ?_
            refine x_iload4 eX5_set_190 ?_
            obtain rfl := Option.some.inj hm
            exact x_iret eX5_set_192 ⟨rfl, rfl⟩
        · rw [if_pos c] at hm
          refine x_k eX5_set_58 ?_
          obtain rfl := Option.some.inj hm
          exact x_iret eX5_set_60 ⟨rfl, rfl⟩
  · rw [if_pos c] at hm
    refine x_iload3 eX5_set_5 ?_
    refine x_k eX5_set_6 ?_
    refine x_k eX5_set_7 ?_
    refine x_Si3 eX5_set_9 kX5_isIn mX5_88 (t_X5_isIn rfl) (Nat.le_of_ble_eq_true rfl) ?_
    refine x_if_eq eX5_set_12 (fun c => ?_) (fun c => ?_)
    · rw [if_pos c] at hm
      refine x_k eX5_set_23 ?_
      obtain rfl := Option.some.inj hm
      exact x_iret eX5_set_25 ⟨rfl, rfl⟩
    · rw [if_neg c] at hm
      refine x_aload0 eX5_set_15 ?_
      refine x_iload3 eX5_set_16 ?_
      refine x_Vi1 eX5_set_17 kX5_putYear mX5_92 (t_X5_putYear rfl) rfl (Nat.le_of_ble_eq_true rfl) ?_
      refine x_goto eX5_set_20 ?_
      obtain rfl := Option.some.inj hm
      exact x_iret eX5_set_25 ⟨rfl, rfl⟩
set_option maxRecDepth 4000 in
theorem t_X5_told {o : Int32 × (Nat → Int32) × (Nat → Int32)} {p1 : Int32} {p2 : Int32} (hm : sp_X5_told p1 p2 o_size o_gone o_minds o_lasts o_parent o_kind o_number o_odds o_above o_kidCount o_lead = some o) : xt_M yX5_told cX5_told 5 (some .int) (d + 4) [.ref 0, .int p1, .int p2] (WX o_size o_year o_gone o_minds o_lasts r_size r_token r_place r_at r_open r_made t_size t_rule i_there i_rule i_size i_year i_gone i_minds i_lasts o_parent o_kind o_number o_odds o_above o_kidCount o_lead r_tape r_steps r_ends t_steps t_ends t_stack s_sort s_size s_items i_number i_odds x_prices x_facts x_laws x_clues) (xt_Ki o.1 (WX o_size o_year o_gone o_minds o_lasts r_size r_token r_place r_at r_open r_made t_size t_rule i_there i_rule i_size i_year i_gone i_minds i_lasts o_parent o_kind o_number o_odds o_above o.2.1 o.2.2 r_tape r_steps r_ends t_steps t_ends t_stack s_sort s_size s_items i_number i_odds x_prices x_facts x_laws x_clues)) := by
  unfold sp_X5_told at hm
  refine xt_M.go (own := RX5) (lv := [some (.ref 0), some (.int p1), some (.int p2), none, none]) rfl rfl (Nat.le_of_ble_eq_true rfl) rfl ?_
  refine x_aload0 eX5_told_0 ?_
  refine x_get eX5_told_1 fX5_10 rfl rfl ?_
  refine x_iload1 eX5_told_4 ?_
  refine x_Vi1 eX5_told_5 kX1_has mX5_96 (t_X1_has rfl) rfl (Nat.le_of_ble_eq_true rfl) ?_
  refine x_if_ne eX5_told_8 (fun c => ?_) (fun c => ?_)
  · rw [if_neg c] at hm
    refine x_aload0 eX5_told_14 ?_
    refine x_get eX5_told_15 fX5_10 rfl rfl ?_
    refine x_k eX5_told_18 ?_
    obtain ⟨r1, hr, hm⟩ := xo_bind hm
    refine x_Vi1 eX5_told_19 kX1_standing mX5_125 (t_X1_standing hr) rfl (Nat.le_of_ble_eq_true rfl) ?_
    refine x_istore3 eX5_told_22 rfl ?_
    refine x_iload3 eX5_told_23 ?_
    refine x_iload1 eX5_told_24 ?_
    refine x_Si2 eX5_told_25 kX5_bit mX5_109 (t_X5_bit rfl) (Nat.le_of_ble_eq_true rfl) ?_
    refine x_istore4 eX5_told_28 rfl ?_
    refine x_iload2 eX5_told_30 ?_
    refine x_sw eX5_told_31 (xt_sw_cons (fun c => ?_) (fun d0 => (xt_sw_cons (fun c => ?_) (fun d1 => (xt_sw_cons (fun c => ?_) (fun d2 => (xt_sw_cons (fun c => ?_) (fun d3 => (xt_sw_cons (fun c => ?_) (fun d4 => (xt_sw_cons (fun c => ?_) (fun d5 => (xt_sw_cons (fun c => ?_) (fun d6 => (xt_sw_cons (fun c => ?_) (fun d7 => (xt_sw_cons (fun c => ?_) (fun d8 => (xt_sw_cons (fun c => ?_) (fun d9 => (xt_sw_nil ?_)))))))))))))))))))))
    · rw [if_pos c] at hm
      refine x_aload0 eX5_told_84 ?_
      refine x_get eX5_told_85 fX5_10 rfl rfl ?_
      refine x_get eX5_told_88 fX5_128 rfl rfl ?_
      refine x_iload1 eX5_told_91 ?_
      obtain ⟨v2, hv, hm⟩ := xo_bind hm
      obtain ⟨hi, rfl⟩ := xo_at_some hv
      refine x_iaload eX5_told_92 rfl hi ?_
      obtain rfl := Option.some.inj hm
      exact x_iret eX5_told_93 ⟨rfl, rfl⟩
    · rw [if_neg d0, if_pos c] at hm
      refine x_aload0 eX5_told_94 ?_
      refine x_get eX5_told_95 fX5_10 rfl rfl ?_
      refine x_get eX5_told_98 fX5_102 rfl rfl ?_
      refine x_iload1 eX5_told_101 ?_
      obtain ⟨v3, hv, hm⟩ := xo_bind hm
      obtain ⟨hi, rfl⟩ := xo_at_some hv
      refine x_iaload eX5_told_102 rfl hi ?_
      obtain rfl := Option.some.inj hm
      exact x_iret eX5_told_103 ⟨rfl, rfl⟩
    · rw [if_neg d0, if_neg d1, if_pos c] at hm
      refine x_aload0 eX5_told_104 ?_
      refine x_get eX5_told_105 fX5_10 rfl rfl ?_
      refine x_get eX5_told_108 fX5_105 rfl rfl ?_
      refine x_iload1 eX5_told_111 ?_
      refine x_Si2 eX5_told_112 kX5_bit mX5_109 (t_X5_bit rfl) (Nat.le_of_ble_eq_true rfl) ?_
      obtain rfl := Option.some.inj hm
      exact x_iret eX5_told_115 ⟨rfl, rfl⟩
    · rw [if_neg d0, if_neg d1, if_neg d2, if_pos c] at hm
      refine x_aload0 eX5_told_116 ?_
      refine x_get eX5_told_117 fX5_10 rfl rfl ?_
      refine x_get eX5_told_120 fX5_116 rfl rfl ?_
      refine x_iload1 eX5_told_123 ?_
      obtain ⟨v4, hv, hm⟩ := xo_bind hm
      obtain ⟨hi, rfl⟩ := xo_at_some hv
      refine x_iaload eX5_told_124 rfl hi ?_
      obtain rfl := Option.some.inj hm
      exact x_iret eX5_told_125 ⟨rfl, rfl⟩
    · rw [if_neg d0, if_neg d1, if_neg d2, if_neg d3, if_pos c] at hm
      refine x_aload0 eX5_told_126 ?_
      refine x_get eX5_told_127 fX5_10 rfl rfl ?_
      refine x_get eX5_told_130 fX5_119 rfl rfl ?_
      refine x_iload1 eX5_told_133 ?_
      refine x_Si2 eX5_told_134 kX5_bit mX5_109 (t_X5_bit rfl) (Nat.le_of_ble_eq_true rfl) ?_
      obtain rfl := Option.some.inj hm
      exact x_iret eX5_told_137 ⟨rfl, rfl⟩
    · rw [if_neg d0, if_neg d1, if_neg d2, if_neg d3, if_neg d4, if_pos c] at hm
      refine x_iload1 eX5_told_138 ?_
      refine x_if_ne eX5_told_139 (fun c => ?_) (fun c => ?_)
      · rw [if_neg c] at hm
        refine x_aload0 eX5_told_146 ?_
        refine x_get eX5_told_147 fX5_10 rfl rfl ?_
        refine x_get eX5_told_150 fX5_131 rfl rfl ?_
        refine x_iload1 eX5_told_153 ?_
        obtain ⟨v5, hv, hm⟩ := xo_bind hm
        obtain ⟨hi, rfl⟩ := xo_at_some hv
        refine x_iaload eX5_told_154 rfl hi ?_
        obtain rfl := Option.some.inj hm
        exact x_iret eX5_told_155 ⟨rfl, rfl⟩
      · rw [if_pos c] at hm
        refine x_k eX5_told_142 ?_
        refine x_goto eX5_told_143 ?_
        obtain rfl := Option.some.inj hm
        exact x_iret eX5_told_155 ⟨rfl, rfl⟩
    · rw [if_neg d0, if_neg d1, if_neg d2, if_neg d3, if_neg d4, if_neg d5, if_pos c] at hm
      refine x_iload4 eX5_told_156 ?_
      obtain rfl := Option.some.inj hm
      exact x_iret eX5_told_158 ⟨rfl, rfl⟩
    · rw [if_neg d0, if_neg d1, if_neg d2, if_neg d3, if_neg d4, if_neg d5, if_neg d6, if_pos c] at hm
      refine x_aload0 eX5_told_159 ?_
      refine x_get eX5_told_160 fX5_10 rfl rfl ?_
      refine x_iload3 eX5_told_163 ?_
      obtain ⟨r6, hr, hm⟩ := xo_bind hm
      refine x_Vi1 eX5_told_164 kX1_twigsOf mX5_134 (t_X1_twigsOf hr) rfl (Nat.le_of_ble_eq_true rfl) ?_
      refine x_iload1 eX5_told_167 ?_
      refine x_Si2 eX5_told_168 kX5_bit mX5_109 (t_X5_bit rfl) (Nat.le_of_ble_eq_true rfl) ?_
      obtain rfl := Option.some.inj hm
      exact x_iret eX5_told_171 ⟨rfl, rfl⟩
    · rw [if_neg d0, if_neg d1, if_neg d2, if_neg d3, if_neg d4, if_neg d5, if_neg d6, if_neg d7, if_pos c] at hm
      refine x_iload4 eX5_told_172 ?_
      refine x_if_ne eX5_told_174 (fun c => ?_) (fun c => ?_)
      · rw [if_neg c] at hm
        refine x_aload0 eX5_told_181 ?_
        refine x_get eX5_told_182 fX5_10 rfl rfl ?_
        refine x_iload3 eX5_told_185 ?_
        refine x_aload0 eX5_told_186 ?_
        refine x_get eX5_told_187 fX5_10 rfl rfl ?_
        refine x_get eX5_told_190 fX5_105 rfl rfl ?_
        obtain ⟨r7, hr, hm⟩ := xo_bind hm
        refine x_Vi2 eX5_told_193 kX1_vote mX5_137 (t_X1_vote hr) rfl (Nat.le_of_ble_eq_true rfl) ?_
        refine x_iload1 eX5_told_196 ?_
        refine x_Si2 eX5_told_197 kX5_bit mX5_109 (t_X5_bit rfl) (Nat.le_of_ble_eq_true rfl) ?_
        obtain rfl := Option.some.inj hm
        exact x_iret eX5_told_200 ⟨rfl, rfl⟩
      · rw [if_pos c] at hm
        refine x_k eX5_told_177 ?_
        refine x_goto eX5_told_178 ?_
        obtain rfl := Option.some.inj hm
        exact x_iret eX5_told_200 ⟨rfl, rfl⟩
    · rw [if_neg d0, if_neg d1, if_neg d2, if_neg d3, if_neg d4, if_neg d5, if_neg d6, if_neg d7, if_neg d8, if_pos c] at hm
      refine x_iload4 eX5_told_201 ?_
      refine x_if_ne eX5_told_203 (fun c => ?_) (fun c => ?_)
      · rw [if_neg c] at hm
        refine x_aload0 eX5_told_210 ?_
        refine x_get eX5_told_211 fX5_10 rfl rfl ?_
        refine x_iload1 eX5_told_214 ?_
        refine x_aload0 eX5_told_215 ?_
        refine x_get eX5_told_216 fX5_10 rfl rfl ?_
        refine x_iload1 eX5_told_219 ?_
        refine x_iload3 eX5_told_220 ?_
        obtain ⟨r8, hr, hm⟩ := xo_bind hm
        refine x_Vi2 eX5_told_221 kX1_kidSet mX5_140 (t_X1_kidSet hr) rfl (Nat.le_of_ble_eq_true rfl) ?_
        refine x_Si1 eX5_told_224 kJ6_bitCount_0f7a4 mX5_143 (t_J6_bitCount_0f7a4 rfl) (Nat.le_of_ble_eq_true rfl) ?_
        obtain ⟨r9, hr, hm⟩ := xo_bind hm
        refine x_Vi2 eX5_told_227 kX1_weight mX5_148 (t_X1_weight hr) rfl (Nat.le_of_ble_eq_true rfl) ?_
        obtain rfl := Option.some.inj hm
        exact x_iret eX5_told_230 ⟨rfl, rfl⟩
      · rw [if_pos c] at hm
        refine x_k eX5_told_206 ?_
        refine x_goto eX5_told_207 ?_
        obtain rfl := Option.some.inj hm
        exact x_iret eX5_told_230 ⟨rfl, rfl⟩
    · rw [if_neg d0, if_neg d1, if_neg d2, if_neg d3, if_neg d4, if_neg d5, if_neg d6, if_neg d7, if_neg d8, if_neg d9] at hm
      refine x_k eX5_told_231 ?_
      obtain rfl := Option.some.inj hm
      exact x_iret eX5_told_233 ⟨rfl, rfl⟩
  · rw [if_pos c] at hm
    refine x_k eX5_told_11 ?_
    obtain rfl := Option.some.inj hm
    exact x_iret eX5_told_13 ⟨rfl, rfl⟩
set_option maxRecDepth 4000 in
theorem t_X5_priceOf {o : Int32 × (Nat → Int32) × (Nat → Int32)} {p1 : Int32} {p2 : Int32} {p3 : Int32} (hm : sp_X5_priceOf p1 p2 p3 o_size o_year o_lasts t_rule o_parent o_above t_steps t_ends t_stack x_facts = some o) : xt_M yX5_priceOf cX5_priceOf 5 (some .int) (d + 3) [.ref 0, .int p1, .int p2, .int p3] (WX o_size o_year o_gone o_minds o_lasts r_size r_token r_place r_at r_open r_made t_size t_rule i_there i_rule i_size i_year i_gone i_minds i_lasts o_parent o_kind o_number o_odds o_above o_kidCount o_lead r_tape r_steps r_ends t_steps t_ends t_stack s_sort s_size s_items i_number i_odds x_prices x_facts x_laws x_clues) (xt_Ki o.1 (WX o_size o_year o_gone o_minds o_lasts r_size r_token r_place r_at r_open r_made t_size t_rule i_there i_rule i_size i_year i_gone i_minds i_lasts o_parent o_kind o_number o_odds o_above o_kidCount o_lead r_tape r_steps r_ends t_steps t_ends o.2.1 s_sort s_size s_items i_number i_odds x_prices o.2.2 x_laws x_clues)) := by
  unfold sp_X5_priceOf at hm
  refine xt_M.go (own := RX5) (lv := [some (.ref 0), some (.int p1), some (.int p2), some (.int p3), none]) rfl rfl (Nat.le_of_ble_eq_true rfl) rfl ?_
  refine x_aload0 eX5_priceOf_0 ?_
  refine x_get eX5_priceOf_1 fX5_10 rfl rfl ?_
  refine x_iload1 eX5_priceOf_4 ?_
  refine x_iload3 eX5_priceOf_5 ?_
  refine x_aload0 eX5_priceOf_6 ?_
  refine x_get eX5_priceOf_7 fX5_48 rfl rfl ?_
  obtain ⟨r1, hr, hm⟩ := xo_bind hm
  refine x_Vv3 eX5_priceOf_10 kX1_tellFacts mX5_272 (t_X1_tellFacts_p25 hr) rfl (Nat.le_of_ble_eq_true rfl) ?_
  refine x_iload2 eX5_priceOf_13 ?_
  refine x_k eX5_priceOf_14 ?_
  refine x_icmp_ne eX5_priceOf_15 (fun c => ?_) (fun c => ?_)
  · rw [if_neg c] at hm
    refine x_k eX5_priceOf_23 ?_
    refine x_istore4 eX5_priceOf_25 rfl ?_
    refine x_k eX5_priceOf_27 ?_
    refine x_iload4 eX5_priceOf_28 ?_
    refine x_aload0 eX5_priceOf_30 ?_
    refine x_get eX5_priceOf_31 fX5_26 rfl rfl ?_
    refine x_iload2 eX5_priceOf_34 ?_
    refine x_aload0 eX5_priceOf_35 ?_
    refine x_get eX5_priceOf_36 fX5_48 rfl rfl ?_
    obtain ⟨r2, hr, hm⟩ := xo_bind hm
    refine x_Vi2 eX5_priceOf_39 kX4_value mX5_276 (t_X4_value_p25 hr) rfl (Nat.le_of_ble_eq_true rfl) ?_
    refine x_mmin eX5_priceOf_42 qX5_167 (Nat.le_of_ble_eq_true rfl) ?_
    refine x_mmax eX5_priceOf_45 qX5_182 (Nat.le_of_ble_eq_true rfl) ?_
    obtain rfl := Option.some.inj hm
    exact x_iret eX5_priceOf_48 ⟨rfl, rfl⟩
  · rw [if_pos c] at hm
    refine x_k eX5_priceOf_18 ?_
    refine x_goto eX5_priceOf_20 ?_
    refine x_istore4 eX5_priceOf_25 rfl ?_
    refine x_k eX5_priceOf_27 ?_
    refine x_iload4 eX5_priceOf_28 ?_
    refine x_aload0 eX5_priceOf_30 ?_
    refine x_get eX5_priceOf_31 fX5_26 rfl rfl ?_
    refine x_iload2 eX5_priceOf_34 ?_
    refine x_aload0 eX5_priceOf_35 ?_
    refine x_get eX5_priceOf_36 fX5_48 rfl rfl ?_
    obtain ⟨r3, hr, hm⟩ := xo_bind hm
    refine x_Vi2 eX5_priceOf_39 kX4_value mX5_276 (t_X4_value_p25 hr) rfl (Nat.le_of_ble_eq_true rfl) ?_
    refine x_mmin eX5_priceOf_42 qX5_167 (Nat.le_of_ble_eq_true rfl) ?_
    refine x_mmax eX5_priceOf_45 qX5_182 (Nat.le_of_ble_eq_true rfl) ?_
    obtain rfl := Option.some.inj hm
    exact x_iret eX5_priceOf_48 ⟨rfl, rfl⟩
set_option maxRecDepth 4000 in
theorem t_X5_asks {o : Int32 × (Nat → Int32) × (Nat → Int32)} {p1 : Int32} {p2 : Int32} (hm : sp_X5_asks p1 p2 o_size o_year o_gone o_lasts t_rule o_parent o_above t_steps t_ends t_stack x_facts = some o) : xt_M yX5_asks cX5_asks 4 (some .int) (d + 4) [.ref 0, .int p1, .int p2] (WX o_size o_year o_gone o_minds o_lasts r_size r_token r_place r_at r_open r_made t_size t_rule i_there i_rule i_size i_year i_gone i_minds i_lasts o_parent o_kind o_number o_odds o_above o_kidCount o_lead r_tape r_steps r_ends t_steps t_ends t_stack s_sort s_size s_items i_number i_odds x_prices x_facts x_laws x_clues) (xt_Ki o.1 (WX o_size o_year o_gone o_minds o_lasts r_size r_token r_place r_at r_open r_made t_size t_rule i_there i_rule i_size i_year i_gone i_minds i_lasts o_parent o_kind o_number o_odds o_above o_kidCount o_lead r_tape r_steps r_ends t_steps t_ends o.2.1 s_sort s_size s_items i_number i_odds x_prices o.2.2 x_laws x_clues)) := by
  unfold sp_X5_asks at hm
  refine xt_M.go (own := RX5) (lv := [some (.ref 0), some (.int p1), some (.int p2), none]) rfl rfl (Nat.le_of_ble_eq_true rfl) rfl ?_
  refine x_aload0 eX5_asks_0 ?_
  refine x_get eX5_asks_1 fX5_10 rfl rfl ?_
  refine x_iload1 eX5_asks_4 ?_
  refine x_Vi1 eX5_asks_5 kX1_has mX5_96 (t_X1_has rfl) rfl (Nat.le_of_ble_eq_true rfl) ?_
  refine x_if_eq eX5_asks_8 (fun c => ?_) (fun c => ?_)
  · rw [if_pos c] at hm
    refine x_k eX5_asks_20 ?_
    obtain rfl := Option.some.inj hm
    exact x_iret eX5_asks_22 ⟨rfl, rfl⟩
  · rw [if_neg c] at hm
    refine x_iload2 eX5_asks_11 ?_
    refine x_k eX5_asks_12 ?_
    refine x_k eX5_asks_13 ?_
    refine x_Si3 eX5_asks_14 kX5_isIn mX5_88 (t_X5_isIn rfl) (Nat.le_of_ble_eq_true rfl) ?_
    refine x_if_ne eX5_asks_17 (fun c => ?_) (fun c => ?_)
    · rw [if_neg c] at hm
      refine x_aload0 eX5_asks_23 ?_
      refine x_get eX5_asks_24 fX5_10 rfl rfl ?_
      refine x_k eX5_asks_27 ?_
      obtain ⟨r1, hr, hm⟩ := xo_bind hm
      refine x_Vi1 eX5_asks_28 kX1_standing mX5_125 (t_X1_standing hr) rfl (Nat.le_of_ble_eq_true rfl) ?_
      refine x_istore3 eX5_asks_31 rfl ?_
      refine x_iload3 eX5_asks_32 ?_
      refine x_iload1 eX5_asks_33 ?_
      refine x_Si2 eX5_asks_34 kX5_bit mX5_109 (t_X5_bit rfl) (Nat.le_of_ble_eq_true rfl) ?_
      refine x_if_ne eX5_asks_37 (fun c => ?_) (fun c => ?_)
      · rw [if_neg c] at hm
        refine x_aload0 eX5_asks_43 ?_
        refine x_iload1 eX5_asks_44 ?_
        refine x_iload2 eX5_asks_45 ?_
        refine x_iload3 eX5_asks_46 ?_
        obtain ⟨r2, hr, hm⟩ := xo_bind hm
        refine x_Vi3 eX5_asks_47 kX5_priceOf mX5_151 (t_X5_priceOf hr) rfl (Nat.le_of_ble_eq_true rfl) ?_
        obtain rfl := Option.some.inj hm
        exact x_iret eX5_asks_50 ⟨rfl, rfl⟩
      · rw [if_pos c] at hm
        refine x_k eX5_asks_40 ?_
        obtain rfl := Option.some.inj hm
        exact x_iret eX5_asks_42 ⟨rfl, rfl⟩
    · rw [if_pos c] at hm
      refine x_k eX5_asks_20 ?_
      obtain rfl := Option.some.inj hm
      exact x_iret eX5_asks_22 ⟨rfl, rfl⟩
set_option maxRecDepth 4000 in
theorem t_X2_put {o : Int32 × Int32 × (Nat → Int32)} {p1 : Int32} (hm : sp_X2_put p1 r_size r_tape = some o) : xt_M yX2_put cX2_put 2 (some .boolean) (d + 0) [.ref 9, .int p1] (WX o_size o_year o_gone o_minds o_lasts r_size r_token r_place r_at r_open r_made t_size t_rule i_there i_rule i_size i_year i_gone i_minds i_lasts o_parent o_kind o_number o_odds o_above o_kidCount o_lead r_tape r_steps r_ends t_steps t_ends t_stack s_sort s_size s_items i_number i_odds x_prices x_facts x_laws x_clues) (xt_Ki o.1 (WX o_size o_year o_gone o_minds o_lasts o.2.1 r_token r_place r_at r_open r_made t_size t_rule i_there i_rule i_size i_year i_gone i_minds i_lasts o_parent o_kind o_number o_odds o_above o_kidCount o_lead o.2.2 r_steps r_ends t_steps t_ends t_stack s_sort s_size s_items i_number i_odds x_prices x_facts x_laws x_clues)) := by
  unfold sp_X2_put at hm
  refine xt_M.go (own := RX2) (lv := [some (.ref 9), some (.int p1)]) rfl rfl (Nat.le_of_ble_eq_true rfl) rfl ?_
  refine x_aload0 eX2_put_0 ?_
  refine x_get eX2_put_1 fX2_9 rfl rfl ?_
  refine x_k eX2_put_4 ?_
  refine x_icmp_lt eX2_put_7 (fun c => ?_) (fun c => ?_)
  · rw [if_pos c] at hm
    refine x_aload0 eX2_put_12 ?_
    refine x_get eX2_put_13 fX2_15 rfl rfl ?_
    refine x_aload0 eX2_put_16 ?_
    refine x_get eX2_put_17 fX2_9 rfl rfl ?_
    refine x_iload1 eX2_put_20 ?_
    obtain ⟨f1, hv, hm⟩ := xo_bind hm
    obtain ⟨hi, rfl⟩ := xo_set_some hv
    refine x_iastore (w' := WX _ _ _ _ _ _ _ _ _ _ _ _ _ _ _ _ _ _ _ _ _ _ _ _ _ _ _ _ _ _ _ _ _ _ _ _ _ _ _ _ _ _) eX2_put_21 rfl hi rfl ?_
    refine x_aload0 eX2_put_22 ?_
    refine x_dup eX2_put_23 rfl ?_
    refine x_get eX2_put_24 fX2_9 rfl rfl ?_
    refine x_k eX2_put_27 ?_
    refine x_iadd eX2_put_28 ?_
    refine x_puti (w' := WX _ _ _ _ _ _ _ _ _ _ _ _ _ _ _ _ _ _ _ _ _ _ _ _ _ _ _ _ _ _ _ _ _ _ _ _ _ _ _ _ _ _) eX2_put_29 pX2_9 rfl (Nat.le_of_ble_eq_true rfl) rfl ?_
    refine x_k eX2_put_32 ?_
    obtain rfl := Option.some.inj hm
    exact x_zret eX2_put_33 (by decide) ⟨rfl, rfl⟩
  · rw [if_neg c] at hm
    refine x_k eX2_put_10 ?_
    obtain rfl := Option.some.inj hm
    exact x_zret eX2_put_11 (by decide) ⟨rfl, rfl⟩
set_option maxRecDepth 4000 in
theorem t_X5_feed {o : Int32 × Int32 × (Nat → Int32)} {p1 : Int32} (hm : sp_X5_feed p1 r_size r_tape = some o) : xt_M yX5_feed cX5_feed 2 (some .int) (d + 1) [.ref 0, .int p1] (WX o_size o_year o_gone o_minds o_lasts r_size r_token r_place r_at r_open r_made t_size t_rule i_there i_rule i_size i_year i_gone i_minds i_lasts o_parent o_kind o_number o_odds o_above o_kidCount o_lead r_tape r_steps r_ends t_steps t_ends t_stack s_sort s_size s_items i_number i_odds x_prices x_facts x_laws x_clues) (xt_Ki o.1 (WX o_size o_year o_gone o_minds o_lasts o.2.1 r_token r_place r_at r_open r_made t_size t_rule i_there i_rule i_size i_year i_gone i_minds i_lasts o_parent o_kind o_number o_odds o_above o_kidCount o_lead o.2.2 r_steps r_ends t_steps t_ends t_stack s_sort s_size s_items i_number i_odds x_prices x_facts x_laws x_clues)) := by
  unfold sp_X5_feed at hm
  refine xt_M.go (own := RX5) (lv := [some (.ref 0), some (.int p1)]) rfl rfl (Nat.le_of_ble_eq_true rfl) rfl ?_
  refine x_iload1 eX5_feed_0 ?_
  refine x_k eX5_feed_1 ?_
  refine x_k eX5_feed_2 ?_
  refine x_Si3 eX5_feed_5 kX5_isIn mX5_88 (t_X5_isIn rfl) (Nat.le_of_ble_eq_true rfl) ?_
  refine x_if_ne eX5_feed_8 (fun c => ?_) (fun c => ?_)
  · rw [if_neg c] at hm
    refine x_aload0 eX5_feed_14 ?_
    refine x_get eX5_feed_15 fX5_19 rfl rfl ?_
    refine x_iload1 eX5_feed_18 ?_
    obtain ⟨r1, hr, hm⟩ := xo_bind hm
    refine x_Vi1 eX5_feed_19 kX2_put mX5_69 (t_X2_put hr) rfl (Nat.le_of_ble_eq_true rfl) ?_
    refine x_if_eq eX5_feed_22 (fun c => ?_) (fun c => ?_)
    · rw [if_pos c] at hm
      refine x_k eX5_feed_35 ?_
      obtain rfl := Option.some.inj hm
      exact x_iret eX5_feed_37 ⟨rfl, rfl⟩
    · rw [if_neg c] at hm
      refine x_aload0 eX5_feed_25 ?_
      refine x_get eX5_feed_26 fX5_19 rfl rfl ?_
      refine x_get eX5_feed_29 fX5_154 rfl rfl ?_
      refine x_goto eX5_feed_32 ?_
      obtain rfl := Option.some.inj hm
      exact x_iret eX5_feed_37 ⟨rfl, rfl⟩
  · rw [if_pos c] at hm
    refine x_k eX5_feed_11 ?_
    obtain rfl := Option.some.inj hm
    exact x_iret eX5_feed_13 ⟨rfl, rfl⟩
set_option maxRecDepth 4000 in
theorem t_X5_force {o : Int32 × Int32} {p1 : Int32} (hm : sp_X5_force p1 t_size t_rule = o) : xt_M yX5_force cX5_force 3 (some .int) (d + 1) [.ref 0, .int p1] (WX o_size o_year o_gone o_minds o_lasts r_size r_token r_place r_at r_open r_made t_size t_rule i_there i_rule i_size i_year i_gone i_minds i_lasts o_parent o_kind o_number o_odds o_above o_kidCount o_lead r_tape r_steps r_ends t_steps t_ends t_stack s_sort s_size s_items i_number i_odds x_prices x_facts x_laws x_clues) (xt_Ki o.1 (WX o_size o_year o_gone o_minds o_lasts r_size r_token r_place r_at r_open r_made t_size o.2 i_there i_rule i_size i_year i_gone i_minds i_lasts o_parent o_kind o_number o_odds o_above o_kidCount o_lead r_tape r_steps r_ends t_steps t_ends t_stack s_sort s_size s_items i_number i_odds x_prices x_facts x_laws x_clues)) := by
  unfold sp_X5_force at hm
  refine xt_M.go (own := RX5) (lv := [some (.ref 0), some (.int p1), none]) rfl rfl (Nat.le_of_ble_eq_true rfl) rfl ?_
  refine x_iload1 eX5_force_0 ?_
  refine x_k eX5_force_1 ?_
  refine x_aload0 eX5_force_2 ?_
  refine x_get eX5_force_3 fX5_26 rfl rfl ?_
  refine x_get eX5_force_6 fX5_157 rfl rfl ?_
  refine x_k eX5_force_9 ?_
  refine x_isub eX5_force_10 ?_
  refine x_Si3 eX5_force_11 kX5_isIn mX5_88 (t_X5_isIn rfl) (Nat.le_of_ble_eq_true rfl) ?_
  refine x_if_ne eX5_force_14 (fun c => ?_) (fun c => ?_)
  · rw [if_neg c] at hm
    refine x_aload0 eX5_force_20 ?_
    refine x_get eX5_force_21 fX5_26 rfl rfl ?_
    refine x_get eX5_force_24 fX5_161 rfl rfl ?_
    refine x_istore2 eX5_force_27 rfl ?_
    refine x_aload0 eX5_force_28 ?_
    refine x_get eX5_force_29 fX5_26 rfl rfl ?_
    refine x_iload1 eX5_force_32 ?_
    refine x_puti (w' := WX _ _ _ _ _ _ _ _ _ _ _ _ _ _ _ _ _ _ _ _ _ _ _ _ _ _ _ _ _ _ _ _ _ _ _ _ _ _ _ _ _ _) eX5_force_33 pX5_161 rfl (Nat.le_of_ble_eq_true rfl) rfl ?_
    refine x_iload2 eX5_force_36 ?_
    subst hm
    exact x_iret eX5_force_37 ⟨rfl, rfl⟩
  · rw [if_pos c] at hm
    refine x_k eX5_force_17 ?_
    subst hm
    exact x_iret eX5_force_19 ⟨rfl, rfl⟩
set_option maxRecDepth 4000 in
theorem t_X5_lawNow {o : Int32 × (Nat → Int32) × (Nat → Int32)}  (hm : sp_X5_lawNow o_size o_gone o_minds o_lasts o_parent o_kind o_number o_above o_kidCount o_lead = some o) : xt_M yX5_lawNow cX5_lawNow 1 (some .int) (d + 4) [.ref 0] (WX o_size o_year o_gone o_minds o_lasts r_size r_token r_place r_at r_open r_made t_size t_rule i_there i_rule i_size i_year i_gone i_minds i_lasts o_parent o_kind o_number o_odds o_above o_kidCount o_lead r_tape r_steps r_ends t_steps t_ends t_stack s_sort s_size s_items i_number i_odds x_prices x_facts x_laws x_clues) (xt_Ki o.1 (WX o_size o_year o_gone o_minds o_lasts r_size r_token r_place r_at r_open r_made t_size t_rule i_there i_rule i_size i_year i_gone i_minds i_lasts o_parent o_kind o_number o_odds o_above o.2.1 o.2.2 r_tape r_steps r_ends t_steps t_ends t_stack s_sort s_size s_items i_number i_odds x_prices x_facts x_laws x_clues)) := by
  unfold sp_X5_lawNow at hm
  refine xt_M.go (own := RX5) (lv := [some (.ref 0)]) rfl rfl (Nat.le_of_ble_eq_true rfl) rfl ?_
  refine x_aload0 eX5_lawNow_0 ?_
  refine x_get eX5_lawNow_1 fX5_10 rfl rfl ?_
  refine x_aload0 eX5_lawNow_4 ?_
  refine x_get eX5_lawNow_5 fX5_10 rfl rfl ?_
  refine x_k eX5_lawNow_8 ?_
  obtain ⟨r1, hr, hm⟩ := xo_bind hm
  refine x_Vi1 eX5_lawNow_9 kX1_standing mX5_125 (t_X1_standing hr) rfl (Nat.le_of_ble_eq_true rfl) ?_
  refine x_aload0 eX5_lawNow_12 ?_
  refine x_get eX5_lawNow_13 fX5_10 rfl rfl ?_
  refine x_get eX5_lawNow_16 fX5_105 rfl rfl ?_
  obtain ⟨r2, hr, hm⟩ := xo_bind hm
  refine x_Vi2 eX5_lawNow_19 kX1_vote mX5_137 (t_X1_vote hr) rfl (Nat.le_of_ble_eq_true rfl) ?_
  refine x_k eX5_lawNow_22 ?_
  refine x_Si2 eX5_lawNow_23 kX5_bit mX5_109 (t_X5_bit rfl) (Nat.le_of_ble_eq_true rfl) ?_
  obtain rfl := Option.some.inj hm
  exact x_iret eX5_lawNow_26 ⟨rfl, rfl⟩
set_option maxRecDepth 4000 in
theorem t_X5_law {o : Int32 × (Nat → Int32) × (Nat → Int32)}  (hm : sp_X5_law o_size o_gone o_minds o_lasts o_parent o_kind o_number o_above o_kidCount o_lead = some o) : xt_M yX5_law cX5_law 1 (some .int) (d + 5) [.ref 0] (WX o_size o_year o_gone o_minds o_lasts r_size r_token r_place r_at r_open r_made t_size t_rule i_there i_rule i_size i_year i_gone i_minds i_lasts o_parent o_kind o_number o_odds o_above o_kidCount o_lead r_tape r_steps r_ends t_steps t_ends t_stack s_sort s_size s_items i_number i_odds x_prices x_facts x_laws x_clues) (xt_Ki o.1 (WX o_size o_year o_gone o_minds o_lasts r_size r_token r_place r_at r_open r_made t_size t_rule i_there i_rule i_size i_year i_gone i_minds i_lasts o_parent o_kind o_number o_odds o_above o.2.1 o.2.2 r_tape r_steps r_ends t_steps t_ends t_stack s_sort s_size s_items i_number i_odds x_prices x_facts x_laws x_clues)) := by
  unfold sp_X5_law at hm
  refine xt_M.go (own := RX5) (lv := [some (.ref 0)]) rfl rfl (Nat.le_of_ble_eq_true rfl) rfl ?_
  refine x_aload0 eX5_law_0 ?_
  obtain ⟨r1, hr, hm⟩ := xo_bind hm
  refine x_Vi0 eX5_law_1 kX5_lawNow mX5_164 (t_X5_lawNow hr) rfl (Nat.le_of_ble_eq_true rfl) ?_
  obtain rfl := Option.some.inj hm
  exact x_iret eX5_law_4 ⟨rfl, rfl⟩
set_option maxRecDepth 4000 in
theorem t_X5_pass {o : Int32 × Int32 × Int32 × (Nat → Int32) × (Nat → Int32)}  (hm : sp_X5_pass o_size o_year o_gone o_minds o_lasts o_parent o_kind o_number o_above o_kidCount o_lead = some o) : xt_M yX5_pass cX5_pass 3 (some .int) (d + 4) [.ref 0] (WX o_size o_year o_gone o_minds o_lasts r_size r_token r_place r_at r_open r_made t_size t_rule i_there i_rule i_size i_year i_gone i_minds i_lasts o_parent o_kind o_number o_odds o_above o_kidCount o_lead r_tape r_steps r_ends t_steps t_ends t_stack s_sort s_size s_items i_number i_odds x_prices x_facts x_laws x_clues) (xt_Ki o.1 (WX o_size o.2.1 o_gone o_minds o.2.2.1 r_size r_token r_place r_at r_open r_made t_size t_rule i_there i_rule i_size i_year i_gone i_minds i_lasts o_parent o_kind o_number o_odds o_above o.2.2.2.1 o.2.2.2.2 r_tape r_steps r_ends t_steps t_ends t_stack s_sort s_size s_items i_number i_odds x_prices x_facts x_laws x_clues)) := by
  unfold sp_X5_pass at hm
  refine xt_M.go (own := RX5) (lv := [some (.ref 0), none, none]) rfl rfl (Nat.le_of_ble_eq_true rfl) rfl ?_
  refine x_aload0 eX5_pass_0 ?_
  refine x_get eX5_pass_1 fX5_10 rfl rfl ?_
  refine x_k eX5_pass_4 ?_
  obtain ⟨r1, hr, hm⟩ := xo_bind hm
  refine x_Vi1 eX5_pass_5 kX1_standing mX5_125 (t_X1_standing hr) rfl (Nat.le_of_ble_eq_true rfl) ?_
  refine x_istore1 eX5_pass_8 rfl ?_
  refine x_aload0 eX5_pass_9 ?_
  refine x_get eX5_pass_10 fX5_10 rfl rfl ?_
  refine x_iload1 eX5_pass_13 ?_
  refine x_aload0 eX5_pass_14 ?_
  refine x_get eX5_pass_15 fX5_10 rfl rfl ?_
  refine x_get eX5_pass_18 fX5_105 rfl rfl ?_
  obtain ⟨r2, hr, hm⟩ := xo_bind hm
  refine x_Vi2 eX5_pass_21 kX1_vote mX5_137 (t_X1_vote hr) rfl (Nat.le_of_ble_eq_true rfl) ?_
  refine x_istore2 eX5_pass_24 rfl ?_
  refine x_aload0 eX5_pass_25 ?_
  refine x_get eX5_pass_26 fX5_10 rfl rfl ?_
  refine x_aload0 eX5_pass_29 ?_
  refine x_get eX5_pass_30 fX5_10 rfl rfl ?_
  refine x_get eX5_pass_33 fX5_119 rfl rfl ?_
  refine x_iload1 eX5_pass_36 ?_
  refine x_k eX5_pass_37 ?_
  refine x_ixor eX5_pass_38 ?_
  refine x_iand eX5_pass_39 ?_
  refine x_iload2 eX5_pass_40 ?_
  refine x_ior eX5_pass_41 ?_
  refine x_puti (w' := WX _ _ _ _ _ _ _ _ _ _ _ _ _ _ _ _ _ _ _ _ _ _ _ _ _ _ _ _ _ _ _ _ _ _ _ _ _ _ _ _ _ _) eX5_pass_42 pX5_119 rfl (Nat.le_of_ble_eq_true rfl) rfl ?_
  refine x_aload0 eX5_pass_45 ?_
  refine x_get eX5_pass_46 fX5_10 rfl rfl ?_
  refine x_aload0 eX5_pass_49 ?_
  refine x_get eX5_pass_50 fX5_10 rfl rfl ?_
  refine x_get eX5_pass_53 fX5_122 rfl rfl ?_
  refine x_k eX5_pass_56 ?_
  refine x_iadd eX5_pass_57 ?_
  refine x_k eX5_pass_58 ?_
  refine x_mmin eX5_pass_60 qX5_167 (Nat.le_of_ble_eq_true rfl) ?_
  refine x_puti (w' := WX _ _ _ _ _ _ _ _ _ _ _ _ _ _ _ _ _ _ _ _ _ _ _ _ _ _ _ _ _ _ _ _ _ _ _ _ _ _ _ _ _ _) eX5_pass_63 pX5_122 rfl (Nat.le_of_ble_eq_true rfl) rfl ?_
  refine x_iload2 eX5_pass_66 ?_
  refine x_k eX5_pass_67 ?_
  refine x_Si2 eX5_pass_68 kX5_bit mX5_109 (t_X5_bit rfl) (Nat.le_of_ble_eq_true rfl) ?_
  obtain rfl := Option.some.inj hm
  exact x_iret eX5_pass_71 ⟨rfl, rfl⟩
set_option maxRecDepth 4000 in
theorem t_X5_cut {o : Int32 × Int32} {p1 : Int32} (hm : sp_X5_cut p1 o_size o_gone o_above = some o) : xt_M yX5_cut cX5_cut 3 (some .int) (d + 1) [.ref 0, .int p1] (WX o_size o_year o_gone o_minds o_lasts r_size r_token r_place r_at r_open r_made t_size t_rule i_there i_rule i_size i_year i_gone i_minds i_lasts o_parent o_kind o_number o_odds o_above o_kidCount o_lead r_tape r_steps r_ends t_steps t_ends t_stack s_sort s_size s_items i_number i_odds x_prices x_facts x_laws x_clues) (xt_Ki o.1 (WX o_size o_year o.2 o_minds o_lasts r_size r_token r_place r_at r_open r_made t_size t_rule i_there i_rule i_size i_year i_gone i_minds i_lasts o_parent o_kind o_number o_odds o_above o_kidCount o_lead r_tape r_steps r_ends t_steps t_ends t_stack s_sort s_size s_items i_number i_odds x_prices x_facts x_laws x_clues)) := by
  unfold sp_X5_cut at hm
  refine xt_M.go (own := RX5) (lv := [some (.ref 0), some (.int p1), none]) rfl rfl (Nat.le_of_ble_eq_true rfl) rfl ?_
  refine x_aload0 eX5_cut_0 ?_
  refine x_get eX5_cut_1 fX5_10 rfl rfl ?_
  refine x_iload1 eX5_cut_4 ?_
  refine x_Vi1 eX5_cut_5 kX1_has mX5_96 (t_X1_has rfl) rfl (Nat.le_of_ble_eq_true rfl) ?_
  refine x_if_eq eX5_cut_8 (fun c => ?_) (fun c => ?_)
  · rw [if_pos c] at hm
    refine x_k eX5_cut_15 ?_
    obtain rfl := Option.some.inj hm
    exact x_iret eX5_cut_17 ⟨rfl, rfl⟩
  · rw [if_neg c] at hm
    refine x_iload1 eX5_cut_11 ?_
    refine x_if_ne eX5_cut_12 (fun c => ?_) (fun c => ?_)
    · rw [if_neg c] at hm
      refine x_aload0 eX5_cut_18 ?_
      refine x_get eX5_cut_19 fX5_10 rfl rfl ?_
      refine x_k eX5_cut_22 ?_
      obtain ⟨r1, hr, hm⟩ := xo_bind hm
      refine x_Vi1 eX5_cut_23 kX1_standing mX5_125 (t_X1_standing hr) rfl (Nat.le_of_ble_eq_true rfl) ?_
      refine x_istore2 eX5_cut_26 rfl ?_
      refine x_iload2 eX5_cut_27 ?_
      refine x_iload1 eX5_cut_28 ?_
      refine x_Si2 eX5_cut_29 kX5_bit mX5_109 (t_X5_bit rfl) (Nat.le_of_ble_eq_true rfl) ?_
      refine x_if_ne eX5_cut_32 (fun c => ?_) (fun c => ?_)
      · rw [if_neg c] at hm
        refine x_aload0 eX5_cut_38 ?_
        refine x_get eX5_cut_39 fX5_10 rfl rfl ?_
        refine x_aload0 eX5_cut_42 ?_
        refine x_get eX5_cut_43 fX5_10 rfl rfl ?_
        refine x_get eX5_cut_46 fX5_172 rfl rfl ?_
        refine x_iload1 eX5_cut_49 ?_
        refine x_k eX5_cut_50 ?_
        refine x_Si3 eX5_cut_51 kX5_withBit mX5_113 (t_X5_withBit rfl) (Nat.le_of_ble_eq_true rfl) ?_
        refine x_puti (w' := WX _ _ _ _ _ _ _ _ _ _ _ _ _ _ _ _ _ _ _ _ _ _ _ _ _ _ _ _ _ _ _ _ _ _ _ _ _ _ _ _ _ _) eX5_cut_54 pX5_172 rfl (Nat.le_of_ble_eq_true rfl) rfl ?_
        refine x_iload2 eX5_cut_57 ?_
        refine x_Si1 eX5_cut_58 kJ6_bitCount_0f7a4 mX5_143 (t_J6_bitCount_0f7a4 rfl) (Nat.le_of_ble_eq_true rfl) ?_
        refine x_aload0 eX5_cut_61 ?_
        refine x_get eX5_cut_62 fX5_10 rfl rfl ?_
        refine x_k eX5_cut_65 ?_
        obtain ⟨r2, hr, hm⟩ := xo_bind hm
        refine x_Vi1 eX5_cut_66 kX1_standing mX5_125 (t_X1_standing hr) rfl (Nat.le_of_ble_eq_true rfl) ?_
        refine x_Si1 eX5_cut_69 kJ6_bitCount_0f7a4 mX5_143 (t_J6_bitCount_0f7a4 rfl) (Nat.le_of_ble_eq_true rfl) ?_
        refine x_isub eX5_cut_72 ?_
        obtain rfl := Option.some.inj hm
        exact x_iret eX5_cut_73 ⟨rfl, rfl⟩
      · rw [if_pos c] at hm
        refine x_k eX5_cut_35 ?_
        obtain rfl := Option.some.inj hm
        exact x_iret eX5_cut_37 ⟨rfl, rfl⟩
    · rw [if_pos c] at hm
      refine x_k eX5_cut_15 ?_
      obtain rfl := Option.some.inj hm
      exact x_iret eX5_cut_17 ⟨rfl, rfl⟩
set_option maxRecDepth 4000 in
theorem t_X5_graft {o : Int32 × Int32} {p1 : Int32} (hm : sp_X5_graft p1 o_size o_gone o_parent o_above = some o) : xt_M yX5_graft cX5_graft 3 (some .int) (d + 1) [.ref 0, .int p1] (WX o_size o_year o_gone o_minds o_lasts r_size r_token r_place r_at r_open r_made t_size t_rule i_there i_rule i_size i_year i_gone i_minds i_lasts o_parent o_kind o_number o_odds o_above o_kidCount o_lead r_tape r_steps r_ends t_steps t_ends t_stack s_sort s_size s_items i_number i_odds x_prices x_facts x_laws x_clues) (xt_Ki o.1 (WX o_size o_year o.2 o_minds o_lasts r_size r_token r_place r_at r_open r_made t_size t_rule i_there i_rule i_size i_year i_gone i_minds i_lasts o_parent o_kind o_number o_odds o_above o_kidCount o_lead r_tape r_steps r_ends t_steps t_ends t_stack s_sort s_size s_items i_number i_odds x_prices x_facts x_laws x_clues)) := by
  unfold sp_X5_graft at hm
  refine xt_M.go (own := RX5) (lv := [some (.ref 0), some (.int p1), none]) rfl rfl (Nat.le_of_ble_eq_true rfl) rfl ?_
  refine x_aload0 eX5_graft_0 ?_
  refine x_get eX5_graft_1 fX5_10 rfl rfl ?_
  refine x_iload1 eX5_graft_4 ?_
  refine x_Vi1 eX5_graft_5 kX1_has mX5_96 (t_X1_has rfl) rfl (Nat.le_of_ble_eq_true rfl) ?_
  refine x_if_eq eX5_graft_8 (fun c => ?_) (fun c => ?_)
  · rw [if_pos c] at hm
    refine x_k eX5_graft_15 ?_
    obtain rfl := Option.some.inj hm
    exact x_iret eX5_graft_17 ⟨rfl, rfl⟩
  · rw [if_neg c] at hm
    refine x_iload1 eX5_graft_11 ?_
    refine x_if_ne eX5_graft_12 (fun c => ?_) (fun c => ?_)
    · rw [if_neg c] at hm
      refine x_aload0 eX5_graft_18 ?_
      refine x_get eX5_graft_19 fX5_10 rfl rfl ?_
      refine x_k eX5_graft_22 ?_
      obtain ⟨r1, hr, hm⟩ := xo_bind hm
      refine x_Vi1 eX5_graft_23 kX1_standing mX5_125 (t_X1_standing hr) rfl (Nat.le_of_ble_eq_true rfl) ?_
      refine x_istore2 eX5_graft_26 rfl ?_
      refine x_aload0 eX5_graft_27 ?_
      refine x_get eX5_graft_28 fX5_10 rfl rfl ?_
      refine x_get eX5_graft_31 fX5_172 rfl rfl ?_
      refine x_iload1 eX5_graft_34 ?_
      refine x_Si2 eX5_graft_35 kX5_bit mX5_109 (t_X5_bit rfl) (Nat.le_of_ble_eq_true rfl) ?_
      refine x_if_eq eX5_graft_38 (fun c => ?_) (fun c => ?_)
      · rw [if_pos c] at hm
        refine x_k eX5_graft_57 ?_
        obtain rfl := Option.some.inj hm
        exact x_iret eX5_graft_59 ⟨rfl, rfl⟩
      · rw [if_neg c] at hm
        refine x_iload2 eX5_graft_41 ?_
        refine x_aload0 eX5_graft_42 ?_
        refine x_get eX5_graft_43 fX5_10 rfl rfl ?_
        refine x_get eX5_graft_46 fX5_131 rfl rfl ?_
        refine x_iload1 eX5_graft_49 ?_
        obtain ⟨v2, hv, hm⟩ := xo_bind hm
        obtain ⟨hi, rfl⟩ := xo_at_some hv
        refine x_iaload eX5_graft_50 rfl hi ?_
        refine x_Si2 eX5_graft_51 kX5_bit mX5_109 (t_X5_bit rfl) (Nat.le_of_ble_eq_true rfl) ?_
        refine x_if_ne eX5_graft_54 (fun c => ?_) (fun c => ?_)
        · rw [if_neg c] at hm
          refine x_aload0 eX5_graft_60 ?_
          refine x_get eX5_graft_61 fX5_10 rfl rfl ?_
          refine x_aload0 eX5_graft_64 ?_
          refine x_get eX5_graft_65 fX5_10 rfl rfl ?_
          refine x_get eX5_graft_68 fX5_172 rfl rfl ?_
          refine x_iload1 eX5_graft_71 ?_
          refine x_k eX5_graft_72 ?_
          refine x_Si3 eX5_graft_73 kX5_withBit mX5_113 (t_X5_withBit rfl) (Nat.le_of_ble_eq_true rfl) ?_
          refine x_puti (w' := WX _ _ _ _ _ _ _ _ _ _ _ _ _ _ _ _ _ _ _ _ _ _ _ _ _ _ _ _ _ _ _ _ _ _ _ _ _ _ _ _ _ _) eX5_graft_76 pX5_172 rfl (Nat.le_of_ble_eq_true rfl) rfl ?_
          refine x_aload0 eX5_graft_79 ?_
          refine x_get eX5_graft_80 fX5_10 rfl rfl ?_
          refine x_k eX5_graft_83 ?_
          obtain ⟨r3, hr, hm⟩ := xo_bind hm
          refine x_Vi1 eX5_graft_84 kX1_standing mX5_125 (t_X1_standing hr) rfl (Nat.le_of_ble_eq_true rfl) ?_
          refine x_Si1 eX5_graft_87 kJ6_bitCount_0f7a4 mX5_143 (t_J6_bitCount_0f7a4 rfl) (Nat.le_of_ble_eq_true rfl) ?_
          refine x_iload2 eX5_graft_90 ?_
          refine x_Si1 eX5_graft_91 kJ6_bitCount_0f7a4 mX5_143 (t_J6_bitCount_0f7a4 rfl) (Nat.le_of_ble_eq_true rfl) ?_
          refine x_isub eX5_graft_94 ?_
          obtain rfl := Option.some.inj hm
          exact x_iret eX5_graft_95 ⟨rfl, rfl⟩
        · rw [if_pos c] at hm
          refine x_k eX5_graft_57 ?_
          obtain rfl := Option.some.inj hm
          exact x_iret eX5_graft_59 ⟨rfl, rfl⟩
    · rw [if_pos c] at hm
      refine x_k eX5_graft_15 ?_
      obtain rfl := Option.some.inj hm
      exact x_iret eX5_graft_17 ⟨rfl, rfl⟩
set_option maxRecDepth 4000 in
theorem l_X5_keepPrices_3 {o : (Nat → Int32) × (Nat → Int32) × (Nat → Int32)} {u1 : Int32} {u2 : Int32} {u3 : Int32} {o_size : Int32} {o_year : Int32} {o_lasts : Int32} {t_rule : Int32} {o_parent : Nat → Int32} {o_above : Nat → Int32} {t_steps : Nat → Int32} {t_ends : Nat → Int32} : ∀ (n : Nat) {u4 : Int32} {t_stack : Nat → Int32} {x_prices : Nat → Int32} {x_facts : Nat → Int32}, sp_X5_keepPrices_3 u1 u2 u3 o_size o_year o_lasts t_rule o_parent o_above t_steps t_ends n u4 t_stack x_prices x_facts = some o → xt_T RX5 cX5_keepPrices 5 none (d + 4) (xt_Kv (WX o_size o_year o_gone o_minds o_lasts r_size r_token r_place r_at r_open r_made t_size t_rule i_there i_rule i_size i_year i_gone i_minds i_lasts o_parent o_kind o_number o_odds o_above o_kidCount o_lead r_tape r_steps r_ends t_steps t_ends o.1 s_sort s_size s_items i_number i_odds o.2.1 o.2.2 x_laws x_clues)) 3 [some (.ref 0), some (.int u1), some (.int u2), some (.int u3), some (.int u4)] [] (WX o_size o_year o_gone o_minds o_lasts r_size r_token r_place r_at r_open r_made t_size t_rule i_there i_rule i_size i_year i_gone i_minds i_lasts o_parent o_kind o_number o_odds o_above o_kidCount o_lead r_tape r_steps r_ends t_steps t_ends t_stack s_sort s_size s_items i_number i_odds x_prices x_facts x_laws x_clues) := by
  intro n
  induction n with
  | zero => intro u4 t_stack x_prices x_facts hm; rw [sp_X5_keepPrices_3] at hm; cases hm
  | succ n ih =>
    intro u4 t_stack x_prices x_facts hm
    rw [sp_X5_keepPrices_3] at hm
    refine x_iload4 eX5_keepPrices_3 ?_
    refine x_k eX5_keepPrices_5 ?_
    refine x_icmp_ge eX5_keepPrices_7 (fun c => ?_) (fun c => ?_)
    · rw [if_pos c] at hm
      obtain rfl := Option.some.inj hm
      exact x_vret eX5_keepPrices_45 ⟨rfl, rfl⟩
    · rw [if_neg c] at hm
      refine x_aload0 eX5_keepPrices_10 ?_
      refine x_get eX5_keepPrices_11 fX5_44 rfl rfl ?_
      refine x_iload4 eX5_keepPrices_14 ?_
      refine x_iload1 eX5_keepPrices_16 ?_
      refine x_iload4 eX5_keepPrices_17 ?_
      refine x_Si2 eX5_keepPrices_19 kX5_bit mX5_109 (t_X5_bit rfl) (Nat.le_of_ble_eq_true rfl) ?_
      refine x_k eX5_keepPrices_22 ?_
      refine x_icmp_ne eX5_keepPrices_23 (fun c => ?_) (fun c => ?_)
      · rw [if_neg c] at hm
        refine x_k eX5_keepPrices_37 ?_
        obtain ⟨f1, hv, hm⟩ := xo_bind hm
        obtain ⟨hi, rfl⟩ := xo_set_some hv
        refine x_iastore (w' := WX _ _ _ _ _ _ _ _ _ _ _ _ _ _ _ _ _ _ _ _ _ _ _ _ _ _ _ _ _ _ _ _ _ _ _ _ _ _ _ _ _ _) eX5_keepPrices_38 rfl hi rfl ?_
        refine x_iinc4 eX5_keepPrices_39 rfl ?_
        refine x_goto eX5_keepPrices_42 ?_
        exact ih hm
      · rw [if_pos c] at hm
        refine x_aload0 eX5_keepPrices_26 ?_
        refine x_iload4 eX5_keepPrices_27 ?_
        refine x_iload2 eX5_keepPrices_29 ?_
        refine x_iload3 eX5_keepPrices_30 ?_
        obtain ⟨r2, hr, hm⟩ := xo_bind hm
        refine x_Vi3 eX5_keepPrices_31 kX5_priceOf mX5_151 (t_X5_priceOf hr) rfl (Nat.le_of_ble_eq_true rfl) ?_
        refine x_goto eX5_keepPrices_34 ?_
        obtain ⟨f3, hv, hm⟩ := xo_bind hm
        obtain ⟨hi, rfl⟩ := xo_set_some hv
        refine x_iastore (w' := WX _ _ _ _ _ _ _ _ _ _ _ _ _ _ _ _ _ _ _ _ _ _ _ _ _ _ _ _ _ _ _ _ _ _ _ _ _ _ _ _ _ _) eX5_keepPrices_38 rfl hi rfl ?_
        refine x_iinc4 eX5_keepPrices_39 rfl ?_
        refine x_goto eX5_keepPrices_42 ?_
        exact ih hm
set_option maxRecDepth 4000 in
theorem t_X5_keepPrices {o : (Nat → Int32) × (Nat → Int32) × (Nat → Int32)} {p1 : Int32} {p2 : Int32} {p3 : Int32} (hm : sp_X5_keepPrices p1 p2 p3 o_size o_year o_lasts t_rule o_parent o_above t_steps t_ends t_stack x_prices x_facts = some o) : xt_M yX5_keepPrices cX5_keepPrices 5 none (d + 4) [.ref 0, .int p1, .int p2, .int p3] (WX o_size o_year o_gone o_minds o_lasts r_size r_token r_place r_at r_open r_made t_size t_rule i_there i_rule i_size i_year i_gone i_minds i_lasts o_parent o_kind o_number o_odds o_above o_kidCount o_lead r_tape r_steps r_ends t_steps t_ends t_stack s_sort s_size s_items i_number i_odds x_prices x_facts x_laws x_clues) (xt_Kv (WX o_size o_year o_gone o_minds o_lasts r_size r_token r_place r_at r_open r_made t_size t_rule i_there i_rule i_size i_year i_gone i_minds i_lasts o_parent o_kind o_number o_odds o_above o_kidCount o_lead r_tape r_steps r_ends t_steps t_ends o.1 s_sort s_size s_items i_number i_odds o.2.1 o.2.2 x_laws x_clues)) := by
  unfold sp_X5_keepPrices at hm
  refine xt_M.go (own := RX5) (lv := [some (.ref 0), some (.int p1), some (.int p2), some (.int p3), none]) rfl rfl (Nat.le_of_ble_eq_true rfl) rfl ?_
  refine x_k eX5_keepPrices_0 ?_
  refine x_istore4 eX5_keepPrices_1 rfl ?_
  exact l_X5_keepPrices_3 _ hm
set_option maxRecDepth 4000 in
theorem t_X5_waysOf {o : Int32} {p1 : Int32} (hm : sp_X5_waysOf p1 = o) : xt_M yX5_waysOf cX5_waysOf 1 (some .int) (d + 1) [.int p1] (WX o_size o_year o_gone o_minds o_lasts r_size r_token r_place r_at r_open r_made t_size t_rule i_there i_rule i_size i_year i_gone i_minds i_lasts o_parent o_kind o_number o_odds o_above o_kidCount o_lead r_tape r_steps r_ends t_steps t_ends t_stack s_sort s_size s_items i_number i_odds x_prices x_facts x_laws x_clues) (xt_Ki o (WX o_size o_year o_gone o_minds o_lasts r_size r_token r_place r_at r_open r_made t_size t_rule i_there i_rule i_size i_year i_gone i_minds i_lasts o_parent o_kind o_number o_odds o_above o_kidCount o_lead r_tape r_steps r_ends t_steps t_ends t_stack s_sort s_size s_items i_number i_odds x_prices x_facts x_laws x_clues)) := by
  unfold sp_X5_waysOf at hm
  refine xt_M.go (own := RX5) (lv := [some (.int p1)]) rfl rfl (Nat.le_of_ble_eq_true rfl) rfl ?_
  refine x_k eX5_waysOf_0 ?_
  refine x_iload0 eX5_waysOf_1 ?_
  refine x_Si1 eX5_waysOf_2 kJ6_bitCount_0f7a4 mX5_143 (t_J6_bitCount_0f7a4 rfl) (Nat.le_of_ble_eq_true rfl) ?_
  refine x_ishl eX5_waysOf_5 ?_
  subst hm
  exact x_iret eX5_waysOf_6 ⟨rfl, rfl⟩
set_option maxRecDepth 4000 in
theorem l_X5_priceOfSet_4 {o : Int32} {u1 : Int32} {x_prices : Nat → Int32} : ∀ (n : Nat) {u2 : Int32} {u3 : Int32}, sp_X5_priceOfSet_4 u1 x_prices n u2 u3 = some o → xt_T RX5 cX5_priceOfSet 4 (some .int) (d + 1) (xt_Ki o (WX o_size o_year o_gone o_minds o_lasts r_size r_token r_place r_at r_open r_made t_size t_rule i_there i_rule i_size i_year i_gone i_minds i_lasts o_parent o_kind o_number o_odds o_above o_kidCount o_lead r_tape r_steps r_ends t_steps t_ends t_stack s_sort s_size s_items i_number i_odds x_prices x_facts x_laws x_clues)) 4 [some (.ref 0), some (.int u1), some (.int u2), some (.int u3)] [] (WX o_size o_year o_gone o_minds o_lasts r_size r_token r_place r_at r_open r_made t_size t_rule i_there i_rule i_size i_year i_gone i_minds i_lasts o_parent o_kind o_number o_odds o_above o_kidCount o_lead r_tape r_steps r_ends t_steps t_ends t_stack s_sort s_size s_items i_number i_odds x_prices x_facts x_laws x_clues) := by
  intro n
  induction n with
  | zero => intro u2 u3 hm; rw [sp_X5_priceOfSet_4] at hm; cases hm
  | succ n ih =>
    intro u2 u3 hm
    rw [sp_X5_priceOfSet_4] at hm
    refine x_iload3 eX5_priceOfSet_4 ?_
    refine x_k eX5_priceOfSet_5 ?_
    refine x_icmp_ge eX5_priceOfSet_7 (fun c => ?_) (fun c => ?_)
    · rw [if_pos c] at hm
      refine x_iload2 eX5_priceOfSet_34 ?_
      obtain rfl := Option.some.inj hm
      exact x_iret eX5_priceOfSet_35 ⟨rfl, rfl⟩
    · rw [if_neg c] at hm
      refine x_iload1 eX5_priceOfSet_10 ?_
      refine x_iload3 eX5_priceOfSet_11 ?_
      refine x_Si2 eX5_priceOfSet_12 kX5_bit mX5_109 (t_X5_bit rfl) (Nat.le_of_ble_eq_true rfl) ?_
      refine x_k eX5_priceOfSet_15 ?_
      refine x_icmp_ne eX5_priceOfSet_16 (fun c => ?_) (fun c => ?_)
      · rw [if_neg c] at hm
        refine x_iinc3 eX5_priceOfSet_28 rfl ?_
        refine x_goto eX5_priceOfSet_31 ?_
        exact ih hm
      · rw [if_pos c] at hm
        refine x_iload2 eX5_priceOfSet_19 ?_
        refine x_aload0 eX5_priceOfSet_20 ?_
        refine x_get eX5_priceOfSet_21 fX5_44 rfl rfl ?_
        refine x_iload3 eX5_priceOfSet_24 ?_
        obtain ⟨v1, hv, hm⟩ := xo_bind hm
        obtain ⟨hi, rfl⟩ := xo_at_some hv
        refine x_iaload eX5_priceOfSet_25 rfl hi ?_
        refine x_iadd eX5_priceOfSet_26 ?_
        refine x_istore2 eX5_priceOfSet_27 rfl ?_
        refine x_iinc3 eX5_priceOfSet_28 rfl ?_
        refine x_goto eX5_priceOfSet_31 ?_
        exact ih hm
set_option maxRecDepth 4000 in
theorem t_X5_priceOfSet {o : Int32} {p1 : Int32} (hm : sp_X5_priceOfSet p1 x_prices = some o) : xt_M yX5_priceOfSet cX5_priceOfSet 4 (some .int) (d + 1) [.ref 0, .int p1] (WX o_size o_year o_gone o_minds o_lasts r_size r_token r_place r_at r_open r_made t_size t_rule i_there i_rule i_size i_year i_gone i_minds i_lasts o_parent o_kind o_number o_odds o_above o_kidCount o_lead r_tape r_steps r_ends t_steps t_ends t_stack s_sort s_size s_items i_number i_odds x_prices x_facts x_laws x_clues) (xt_Ki o (WX o_size o_year o_gone o_minds o_lasts r_size r_token r_place r_at r_open r_made t_size t_rule i_there i_rule i_size i_year i_gone i_minds i_lasts o_parent o_kind o_number o_odds o_above o_kidCount o_lead r_tape r_steps r_ends t_steps t_ends t_stack s_sort s_size s_items i_number i_odds x_prices x_facts x_laws x_clues)) := by
  unfold sp_X5_priceOfSet at hm
  refine xt_M.go (own := RX5) (lv := [some (.ref 0), some (.int p1), none, none]) rfl rfl (Nat.le_of_ble_eq_true rfl) rfl ?_
  refine x_k eX5_priceOfSet_0 ?_
  refine x_istore2 eX5_priceOfSet_1 rfl ?_
  refine x_k eX5_priceOfSet_2 ?_
  refine x_istore3 eX5_priceOfSet_3 rfl ?_
  exact l_X5_priceOfSet_4 _ hm
set_option maxRecDepth 4000 in
theorem t_X5_brings {o : Int32 × (Nat → Int32) × (Nat → Int32)} {p1 : Int32} {p2 : Int32} {p3 : Int32} {p4 : Int32} (hm : sp_X5_brings p1 p2 p3 p4 o_size o_gone o_minds o_lasts o_parent o_kind o_number o_above o_kidCount o_lead = some o) : xt_M yX5_brings cX5_brings 6 (some .boolean) (d + 4) [.ref 0, .int p1, .int p2, .int p3, .int p4] (WX o_size o_year o_gone o_minds o_lasts r_size r_token r_place r_at r_open r_made t_size t_rule i_there i_rule i_size i_year i_gone i_minds i_lasts o_parent o_kind o_number o_odds o_above o_kidCount o_lead r_tape r_steps r_ends t_steps t_ends t_stack s_sort s_size s_items i_number i_odds x_prices x_facts x_laws x_clues) (xt_Ki o.1 (WX o_size o_year o_gone o_minds o_lasts r_size r_token r_place r_at r_open r_made t_size t_rule i_there i_rule i_size i_year i_gone i_minds i_lasts o_parent o_kind o_number o_odds o_above o.2.1 o.2.2 r_tape r_steps r_ends t_steps t_ends t_stack s_sort s_size s_items i_number i_odds x_prices x_facts x_laws x_clues)) := by
  unfold sp_X5_brings at hm
  refine xt_M.go (own := RX5) (lv := [some (.ref 0), some (.int p1), some (.int p2), some (.int p3), some (.int p4), none]) rfl rfl (Nat.le_of_ble_eq_true rfl) rfl ?_
  refine x_iload1 eX5_brings_0 ?_
  refine x_if_eq eX5_brings_1 (fun c => ?_) (fun c => ?_)
  · rw [if_pos c] at hm
    refine x_iload1 eX5_brings_17 ?_
    refine x_if_eq eX5_brings_18 (fun c => ?_) (fun c => ?_)
    · rw [if_pos c] at hm
      refine x_aload0 eX5_brings_46 ?_
      refine x_get eX5_brings_47 fX5_10 rfl rfl ?_
      refine x_iload3 eX5_brings_50 ?_
      refine x_aload0 eX5_brings_51 ?_
      refine x_get eX5_brings_52 fX5_10 rfl rfl ?_
      refine x_get eX5_brings_55 fX5_105 rfl rfl ?_
      refine x_iload2 eX5_brings_58 ?_
      refine x_ixor eX5_brings_59 ?_
      obtain ⟨r1, hr, hm⟩ := xo_bind hm
      refine x_Vi2 eX5_brings_60 kX1_vote mX5_137 (t_X1_vote hr) rfl (Nat.le_of_ble_eq_true rfl) ?_
      refine x_istore5 eX5_brings_63 rfl ?_
      refine x_iload5 eX5_brings_65 ?_
      refine x_k eX5_brings_67 ?_
      refine x_Si2 eX5_brings_68 kX5_bit mX5_109 (t_X5_bit rfl) (Nat.le_of_ble_eq_true rfl) ?_
      refine x_iload4 eX5_brings_71 ?_
      refine x_icmp_ne eX5_brings_73 (fun c => ?_) (fun c => ?_)
      · rw [if_neg c] at hm
        refine x_k eX5_brings_80 ?_
        obtain rfl := Option.some.inj hm
        exact x_zret eX5_brings_81 (by decide) ⟨rfl, rfl⟩
      · rw [if_pos c] at hm
        refine x_k eX5_brings_76 ?_
        refine x_goto eX5_brings_77 ?_
        obtain rfl := Option.some.inj hm
        exact x_zret eX5_brings_81 (by decide) ⟨rfl, rfl⟩
    · rw [if_neg c] at hm
      refine x_aload0 eX5_brings_21 ?_
      refine x_get eX5_brings_22 fX5_10 rfl rfl ?_
      refine x_aload0 eX5_brings_25 ?_
      refine x_get eX5_brings_26 fX5_10 rfl rfl ?_
      refine x_iload2 eX5_brings_29 ?_
      obtain ⟨r2, hr, hm⟩ := xo_bind hm
      refine x_Vi1 eX5_brings_30 kX1_standing mX5_125 (t_X1_standing hr) rfl (Nat.le_of_ble_eq_true rfl) ?_
      refine x_aload0 eX5_brings_33 ?_
      refine x_get eX5_brings_34 fX5_10 rfl rfl ?_
      refine x_get eX5_brings_37 fX5_105 rfl rfl ?_
      obtain ⟨r3, hr, hm⟩ := xo_bind hm
      refine x_Vi2 eX5_brings_40 kX1_vote mX5_137 (t_X1_vote hr) rfl (Nat.le_of_ble_eq_true rfl) ?_
      refine x_goto eX5_brings_43 ?_
      refine x_istore5 eX5_brings_63 rfl ?_
      refine x_iload5 eX5_brings_65 ?_
      refine x_k eX5_brings_67 ?_
      refine x_Si2 eX5_brings_68 kX5_bit mX5_109 (t_X5_bit rfl) (Nat.le_of_ble_eq_true rfl) ?_
      refine x_iload4 eX5_brings_71 ?_
      refine x_icmp_ne eX5_brings_73 (fun c => ?_) (fun c => ?_)
      · rw [if_neg c] at hm
        refine x_k eX5_brings_80 ?_
        obtain rfl := Option.some.inj hm
        exact x_zret eX5_brings_81 (by decide) ⟨rfl, rfl⟩
      · rw [if_pos c] at hm
        refine x_k eX5_brings_76 ?_
        refine x_goto eX5_brings_77 ?_
        obtain rfl := Option.some.inj hm
        exact x_zret eX5_brings_81 (by decide) ⟨rfl, rfl⟩
  · rw [if_neg c] at hm
    refine x_aload0 eX5_brings_4 ?_
    refine x_get eX5_brings_5 fX5_10 rfl rfl ?_
    refine x_iload2 eX5_brings_8 ?_
    obtain ⟨r4, hr, hm⟩ := xo_bind hm
    refine x_Vi1 eX5_brings_9 kX1_isNested mX5_229 (t_X1_isNested hr) rfl (Nat.le_of_ble_eq_true rfl) ?_
    refine x_if_eq eX5_brings_12 (fun c => ?_) (fun c => ?_)
    · rw [if_pos c] at hm
      refine x_iload1 eX5_brings_17 ?_
      refine x_if_eq eX5_brings_18 (fun c => ?_) (fun c => ?_)
      · rw [if_pos c] at hm
        refine x_aload0 eX5_brings_46 ?_
        refine x_get eX5_brings_47 fX5_10 rfl rfl ?_
        refine x_iload3 eX5_brings_50 ?_
        refine x_aload0 eX5_brings_51 ?_
        refine x_get eX5_brings_52 fX5_10 rfl rfl ?_
        refine x_get eX5_brings_55 fX5_105 rfl rfl ?_
        refine x_iload2 eX5_brings_58 ?_
        refine x_ixor eX5_brings_59 ?_
        obtain ⟨r5, hr, hm⟩ := xo_bind hm
        refine x_Vi2 eX5_brings_60 kX1_vote mX5_137 (t_X1_vote hr) rfl (Nat.le_of_ble_eq_true rfl) ?_
        refine x_istore5 eX5_brings_63 rfl ?_
        refine x_iload5 eX5_brings_65 ?_
        refine x_k eX5_brings_67 ?_
        refine x_Si2 eX5_brings_68 kX5_bit mX5_109 (t_X5_bit rfl) (Nat.le_of_ble_eq_true rfl) ?_
        refine x_iload4 eX5_brings_71 ?_
        refine x_icmp_ne eX5_brings_73 (fun c => ?_) (fun c => ?_)
        · rw [if_neg c] at hm
          refine x_k eX5_brings_80 ?_
          obtain rfl := Option.some.inj hm
          exact x_zret eX5_brings_81 (by decide) ⟨rfl, rfl⟩
        · rw [if_pos c] at hm
          refine x_k eX5_brings_76 ?_
          refine x_goto eX5_brings_77 ?_
          obtain rfl := Option.some.inj hm
          exact x_zret eX5_brings_81 (by decide) ⟨rfl, rfl⟩
      · rw [if_neg c] at hm
        refine x_aload0 eX5_brings_21 ?_
        refine x_get eX5_brings_22 fX5_10 rfl rfl ?_
        refine x_aload0 eX5_brings_25 ?_
        refine x_get eX5_brings_26 fX5_10 rfl rfl ?_
        refine x_iload2 eX5_brings_29 ?_
        obtain ⟨r6, hr, hm⟩ := xo_bind hm
        refine x_Vi1 eX5_brings_30 kX1_standing mX5_125 (t_X1_standing hr) rfl (Nat.le_of_ble_eq_true rfl) ?_
        refine x_aload0 eX5_brings_33 ?_
        refine x_get eX5_brings_34 fX5_10 rfl rfl ?_
        refine x_get eX5_brings_37 fX5_105 rfl rfl ?_
        obtain ⟨r7, hr, hm⟩ := xo_bind hm
        refine x_Vi2 eX5_brings_40 kX1_vote mX5_137 (t_X1_vote hr) rfl (Nat.le_of_ble_eq_true rfl) ?_
        refine x_goto eX5_brings_43 ?_
        refine x_istore5 eX5_brings_63 rfl ?_
        refine x_iload5 eX5_brings_65 ?_
        refine x_k eX5_brings_67 ?_
        refine x_Si2 eX5_brings_68 kX5_bit mX5_109 (t_X5_bit rfl) (Nat.le_of_ble_eq_true rfl) ?_
        refine x_iload4 eX5_brings_71 ?_
        refine x_icmp_ne eX5_brings_73 (fun c => ?_) (fun c => ?_)
        · rw [if_neg c] at hm
          refine x_k eX5_brings_80 ?_
          obtain rfl := Option.some.inj hm
          exact x_zret eX5_brings_81 (by decide) ⟨rfl, rfl⟩
        · rw [if_pos c] at hm
          refine x_k eX5_brings_76 ?_
          refine x_goto eX5_brings_77 ?_
          obtain rfl := Option.some.inj hm
          exact x_zret eX5_brings_81 (by decide) ⟨rfl, rfl⟩
    · rw [if_neg c] at hm
      refine x_k eX5_brings_15 ?_
      obtain rfl := Option.some.inj hm
      exact x_zret eX5_brings_16 (by decide) ⟨rfl, rfl⟩
set_option maxRecDepth 4000 in
theorem t_X5_nextSet {o : Int32} {p1 : Int32} {p2 : Int32} (hm : sp_X5_nextSet p1 p2 = o) : xt_M yX5_nextSet cX5_nextSet 2 (some .int) (d + 0) [.int p1, .int p2] (WX o_size o_year o_gone o_minds o_lasts r_size r_token r_place r_at r_open r_made t_size t_rule i_there i_rule i_size i_year i_gone i_minds i_lasts o_parent o_kind o_number o_odds o_above o_kidCount o_lead r_tape r_steps r_ends t_steps t_ends t_stack s_sort s_size s_items i_number i_odds x_prices x_facts x_laws x_clues) (xt_Ki o (WX o_size o_year o_gone o_minds o_lasts r_size r_token r_place r_at r_open r_made t_size t_rule i_there i_rule i_size i_year i_gone i_minds i_lasts o_parent o_kind o_number o_odds o_above o_kidCount o_lead r_tape r_steps r_ends t_steps t_ends t_stack s_sort s_size s_items i_number i_odds x_prices x_facts x_laws x_clues)) := by
  unfold sp_X5_nextSet at hm
  refine xt_M.go (own := RX5) (lv := [some (.int p1), some (.int p2)]) rfl rfl (Nat.le_of_ble_eq_true rfl) rfl ?_
  refine x_iload0 eX5_nextSet_0 ?_
  refine x_iload1 eX5_nextSet_1 ?_
  refine x_isub eX5_nextSet_2 ?_
  refine x_iload1 eX5_nextSet_3 ?_
  refine x_iand eX5_nextSet_4 ?_
  subst hm
  exact x_iret eX5_nextSet_5 ⟨rfl, rfl⟩
set_option maxRecDepth 4000 in
theorem l_X5_leastSet_71 {o : Int32 × (Nat → Int32) × (Nat → Int32) × (Nat → Int32) × (Nat → Int32) × (Nat → Int32)} {u1 : Int32} {u2 : Int32} {u3 : Int32} {u4 : Int32} {u5 : Int32} {u6 : Int32} {u7 : Int32} {o_size : Int32} {o_gone : Int32} {o_minds : Int32} {o_lasts : Int32} {o_parent : Nat → Int32} {o_kind : Nat → Int32} {o_number : Nat → Int32} {o_above : Nat → Int32} : ∀ (n : Nat) {u8 : Int32} {u9 : Int32} {u10 : Int32} {u11 : Int32} {o_kidCount : Nat → Int32} {o_lead : Nat → Int32} {t_stack : Nat → Int32} {x_prices : Nat → Int32} {x_facts : Nat → Int32}, sp_X5_leastSet_71 u1 u2 u3 u4 u5 u6 u7 o_size o_gone o_minds o_lasts o_parent o_kind o_number o_above n u8 u9 u10 u11 o_kidCount o_lead t_stack x_prices x_facts = some o → xt_T RX5 cX5_leastSet 13 (some .int) (d + 5) (xt_Ki o.1 (WX o_size o_year o_gone o_minds o_lasts r_size r_token r_place r_at r_open r_made t_size t_rule i_there i_rule i_size i_year i_gone i_minds i_lasts o_parent o_kind o_number o_odds o_above o.2.1 o.2.2.1 r_tape r_steps r_ends t_steps t_ends o.2.2.2.1 s_sort s_size s_items i_number i_odds o.2.2.2.2.1 o.2.2.2.2.2 x_laws x_clues)) 71 [some (.ref 0), some (.int u1), some (.int u2), some (.int u3), some (.int u4), some (.int u5), some (.int u6), some (.int u7), some (.int u8), some (.int u9), some (.int u10), some (.int u11), none] [] (WX o_size o_year o_gone o_minds o_lasts r_size r_token r_place r_at r_open r_made t_size t_rule i_there i_rule i_size i_year i_gone i_minds i_lasts o_parent o_kind o_number o_odds o_above o_kidCount o_lead r_tape r_steps r_ends t_steps t_ends t_stack s_sort s_size s_items i_number i_odds x_prices x_facts x_laws x_clues) := by
  intro n
  induction n with
  | zero => intro u8 u9 u10 u11 o_kidCount o_lead t_stack x_prices x_facts hm; rw [sp_X5_leastSet_71] at hm; cases hm
  | succ n ih =>
    intro u8 u9 u10 u11 o_kidCount o_lead t_stack x_prices x_facts hm
    rw [sp_X5_leastSet_71] at hm
    refine x_iload11 eX5_leastSet_71 ?_
    refine x_iload7 eX5_leastSet_73 ?_
    refine x_icmp_ge eX5_leastSet_75 (fun c => ?_) (fun c => ?_)
    · rw [if_pos c] at hm
      refine x_iload8 eX5_leastSet_147 ?_
      refine x_k eX5_leastSet_149 ?_
      refine x_icmp_eq eX5_leastSet_150 (fun c => ?_) (fun c => ?_)
      · rw [if_pos c] at hm
        refine x_iload8 eX5_leastSet_158 ?_
        obtain rfl := Option.some.inj hm
        exact x_iret eX5_leastSet_160 ⟨rfl, rfl⟩
      · rw [if_neg c] at hm
        refine x_iload4 eX5_leastSet_153 ?_
        refine x_if_ne eX5_leastSet_155 (fun c => ?_) (fun c => ?_)
        · rw [if_neg c] at hm
          refine x_iload4 eX5_leastSet_161 ?_
          refine x_k eX5_leastSet_163 ?_
          refine x_icmp_ne eX5_leastSet_164 (fun c => ?_) (fun c => ?_)
          · rw [if_neg c] at hm
            refine x_aload0 eX5_leastSet_175 ?_
            refine x_iload8 eX5_leastSet_176 ?_
            obtain ⟨r4, hr, hm⟩ := xo_bind hm
            refine x_Vi1 eX5_leastSet_178 kX5_priceOfSet mX5_280 (t_X5_priceOfSet hr) rfl (Nat.le_of_ble_eq_true rfl) ?_
            obtain rfl := Option.some.inj hm
            exact x_iret eX5_leastSet_181 ⟨rfl, rfl⟩
          · rw [if_pos c] at hm
            refine x_iload8 eX5_leastSet_167 ?_
            refine x_Si1 eX5_leastSet_169 kJ6_bitCount_0f7a4 mX5_143 (t_J6_bitCount_0f7a4 rfl) (Nat.le_of_ble_eq_true rfl) ?_
            refine x_goto eX5_leastSet_172 ?_
            obtain rfl := Option.some.inj hm
            exact x_iret eX5_leastSet_181 ⟨rfl, rfl⟩
        · rw [if_pos c] at hm
          refine x_iload8 eX5_leastSet_158 ?_
          obtain rfl := Option.some.inj hm
          exact x_iret eX5_leastSet_160 ⟨rfl, rfl⟩
    · rw [if_neg c] at hm
      refine x_iload3 eX5_leastSet_78 ?_
      refine x_if_ne eX5_leastSet_79 (fun c => ?_) (fun c => ?_)
      · rw [if_neg c] at hm
        refine x_aload0 eX5_leastSet_90 ?_
        refine x_iload10 eX5_leastSet_91 ?_
        obtain ⟨r5, hr, hm⟩ := xo_bind hm
        refine x_Vi1 eX5_leastSet_93 kX5_priceOfSet mX5_280 (t_X5_priceOfSet hr) rfl (Nat.le_of_ble_eq_true rfl) ?_
        refine x_istore12 eX5_leastSet_96 rfl ?_
        refine x_iload8 eX5_leastSet_98 ?_
        refine x_k eX5_leastSet_100 ?_
        refine x_icmp_eq eX5_leastSet_101 (fun c => ?_) (fun c => ?_)
        · rw [if_pos c] at hm
          refine x_aload0 eX5_leastSet_111 ?_
          refine x_iload1 eX5_leastSet_112 ?_
          refine x_iload10 eX5_leastSet_113 ?_
          refine x_iload5 eX5_leastSet_115 ?_
          refine x_iload2 eX5_leastSet_117 ?_
          obtain ⟨r6, hr, hm⟩ := xo_bind hm
          refine x_Vi4 eX5_leastSet_118 kX5_brings mX5_283 (t_X5_brings hr) rfl (Nat.le_of_ble_eq_true rfl) ?_
          refine x_if_eq eX5_leastSet_121 (fun c => ?_) (fun c => ?_)
          · rw [if_pos c] at hm
            refine x_iload10 eX5_leastSet_132 ?_
            refine x_iload6 eX5_leastSet_134 ?_
            refine x_Si2 eX5_leastSet_136 kX5_nextSet mX5_185 (t_X5_nextSet rfl) (Nat.le_of_ble_eq_true rfl) ?_
            refine x_istore10 eX5_leastSet_139 rfl ?_
            refine x_iinc11 eX5_leastSet_141 rfl ?_
            refine x_goto eX5_leastSet_144 ?_
            exact x_weak (by simp [xt_le]) (ih hm)
          · rw [if_neg c] at hm
            refine x_iload10 eX5_leastSet_124 ?_
            refine x_istore8 eX5_leastSet_126 rfl ?_
            refine x_iload12 eX5_leastSet_128 ?_
            refine x_istore9 eX5_leastSet_130 rfl ?_
            refine x_iload10 eX5_leastSet_132 ?_
            refine x_iload6 eX5_leastSet_134 ?_
            refine x_Si2 eX5_leastSet_136 kX5_nextSet mX5_185 (t_X5_nextSet rfl) (Nat.le_of_ble_eq_true rfl) ?_
            refine x_istore10 eX5_leastSet_139 rfl ?_
            refine x_iinc11 eX5_leastSet_141 rfl ?_
            refine x_goto eX5_leastSet_144 ?_
            exact x_weak (by simp [xt_le]) (ih hm)
        · rw [if_neg c] at hm
          refine x_iload12 eX5_leastSet_104 ?_
          refine x_iload9 eX5_leastSet_106 ?_
          refine x_icmp_ge eX5_leastSet_108 (fun c => ?_) (fun c => ?_)
          · rw [if_pos c] at hm
            refine x_iload10 eX5_leastSet_132 ?_
            refine x_iload6 eX5_leastSet_134 ?_
            refine x_Si2 eX5_leastSet_136 kX5_nextSet mX5_185 (t_X5_nextSet rfl) (Nat.le_of_ble_eq_true rfl) ?_
            refine x_istore10 eX5_leastSet_139 rfl ?_
            refine x_iinc11 eX5_leastSet_141 rfl ?_
            refine x_goto eX5_leastSet_144 ?_
            exact x_weak (by simp [xt_le]) (ih hm)
          · rw [if_neg c] at hm
            refine x_aload0 eX5_leastSet_111 ?_
            refine x_iload1 eX5_leastSet_112 ?_
            refine x_iload10 eX5_leastSet_113 ?_
            refine x_iload5 eX5_leastSet_115 ?_
            refine x_iload2 eX5_leastSet_117 ?_
            obtain ⟨r7, hr, hm⟩ := xo_bind hm
            refine x_Vi4 eX5_leastSet_118 kX5_brings mX5_283 (t_X5_brings hr) rfl (Nat.le_of_ble_eq_true rfl) ?_
            refine x_if_eq eX5_leastSet_121 (fun c => ?_) (fun c => ?_)
            · rw [if_pos c] at hm
              refine x_iload10 eX5_leastSet_132 ?_
              refine x_iload6 eX5_leastSet_134 ?_
              refine x_Si2 eX5_leastSet_136 kX5_nextSet mX5_185 (t_X5_nextSet rfl) (Nat.le_of_ble_eq_true rfl) ?_
              refine x_istore10 eX5_leastSet_139 rfl ?_
              refine x_iinc11 eX5_leastSet_141 rfl ?_
              refine x_goto eX5_leastSet_144 ?_
              exact x_weak (by simp [xt_le]) (ih hm)
            · rw [if_neg c] at hm
              refine x_iload10 eX5_leastSet_124 ?_
              refine x_istore8 eX5_leastSet_126 rfl ?_
              refine x_iload12 eX5_leastSet_128 ?_
              refine x_istore9 eX5_leastSet_130 rfl ?_
              refine x_iload10 eX5_leastSet_132 ?_
              refine x_iload6 eX5_leastSet_134 ?_
              refine x_Si2 eX5_leastSet_136 kX5_nextSet mX5_185 (t_X5_nextSet rfl) (Nat.le_of_ble_eq_true rfl) ?_
              refine x_istore10 eX5_leastSet_139 rfl ?_
              refine x_iinc11 eX5_leastSet_141 rfl ?_
              refine x_goto eX5_leastSet_144 ?_
              exact x_weak (by simp [xt_le]) (ih hm)
      · rw [if_pos c] at hm
        refine x_iload10 eX5_leastSet_82 ?_
        refine x_Si1 eX5_leastSet_84 kJ6_bitCount_0f7a4 mX5_143 (t_J6_bitCount_0f7a4 rfl) (Nat.le_of_ble_eq_true rfl) ?_
        refine x_goto eX5_leastSet_87 ?_
        refine x_istore12 eX5_leastSet_96 rfl ?_
        refine x_iload8 eX5_leastSet_98 ?_
        refine x_k eX5_leastSet_100 ?_
        refine x_icmp_eq eX5_leastSet_101 (fun c => ?_) (fun c => ?_)
        · rw [if_pos c] at hm
          refine x_aload0 eX5_leastSet_111 ?_
          refine x_iload1 eX5_leastSet_112 ?_
          refine x_iload10 eX5_leastSet_113 ?_
          refine x_iload5 eX5_leastSet_115 ?_
          refine x_iload2 eX5_leastSet_117 ?_
          obtain ⟨r8, hr, hm⟩ := xo_bind hm
          refine x_Vi4 eX5_leastSet_118 kX5_brings mX5_283 (t_X5_brings hr) rfl (Nat.le_of_ble_eq_true rfl) ?_
          refine x_if_eq eX5_leastSet_121 (fun c => ?_) (fun c => ?_)
          · rw [if_pos c] at hm
            refine x_iload10 eX5_leastSet_132 ?_
            refine x_iload6 eX5_leastSet_134 ?_
            refine x_Si2 eX5_leastSet_136 kX5_nextSet mX5_185 (t_X5_nextSet rfl) (Nat.le_of_ble_eq_true rfl) ?_
            refine x_istore10 eX5_leastSet_139 rfl ?_
            refine x_iinc11 eX5_leastSet_141 rfl ?_
            refine x_goto eX5_leastSet_144 ?_
            exact x_weak (by simp [xt_le]) (ih hm)
          · rw [if_neg c] at hm
            refine x_iload10 eX5_leastSet_124 ?_
            refine x_istore8 eX5_leastSet_126 rfl ?_
            refine x_iload12 eX5_leastSet_128 ?_
            refine x_istore9 eX5_leastSet_130 rfl ?_
            refine x_iload10 eX5_leastSet_132 ?_
            refine x_iload6 eX5_leastSet_134 ?_
            refine x_Si2 eX5_leastSet_136 kX5_nextSet mX5_185 (t_X5_nextSet rfl) (Nat.le_of_ble_eq_true rfl) ?_
            refine x_istore10 eX5_leastSet_139 rfl ?_
            refine x_iinc11 eX5_leastSet_141 rfl ?_
            refine x_goto eX5_leastSet_144 ?_
            exact x_weak (by simp [xt_le]) (ih hm)
        · rw [if_neg c] at hm
          refine x_iload12 eX5_leastSet_104 ?_
          refine x_iload9 eX5_leastSet_106 ?_
          refine x_icmp_ge eX5_leastSet_108 (fun c => ?_) (fun c => ?_)
          · rw [if_pos c] at hm
            refine x_iload10 eX5_leastSet_132 ?_
            refine x_iload6 eX5_leastSet_134 ?_
            refine x_Si2 eX5_leastSet_136 kX5_nextSet mX5_185 (t_X5_nextSet rfl) (Nat.le_of_ble_eq_true rfl) ?_
            refine x_istore10 eX5_leastSet_139 rfl ?_
            refine x_iinc11 eX5_leastSet_141 rfl ?_
            refine x_goto eX5_leastSet_144 ?_
            exact x_weak (by simp [xt_le]) (ih hm)
          · rw [if_neg c] at hm
            refine x_aload0 eX5_leastSet_111 ?_
            refine x_iload1 eX5_leastSet_112 ?_
            refine x_iload10 eX5_leastSet_113 ?_
            refine x_iload5 eX5_leastSet_115 ?_
            refine x_iload2 eX5_leastSet_117 ?_
            obtain ⟨r9, hr, hm⟩ := xo_bind hm
            refine x_Vi4 eX5_leastSet_118 kX5_brings mX5_283 (t_X5_brings hr) rfl (Nat.le_of_ble_eq_true rfl) ?_
            refine x_if_eq eX5_leastSet_121 (fun c => ?_) (fun c => ?_)
            · rw [if_pos c] at hm
              refine x_iload10 eX5_leastSet_132 ?_
              refine x_iload6 eX5_leastSet_134 ?_
              refine x_Si2 eX5_leastSet_136 kX5_nextSet mX5_185 (t_X5_nextSet rfl) (Nat.le_of_ble_eq_true rfl) ?_
              refine x_istore10 eX5_leastSet_139 rfl ?_
              refine x_iinc11 eX5_leastSet_141 rfl ?_
              refine x_goto eX5_leastSet_144 ?_
              exact x_weak (by simp [xt_le]) (ih hm)
            · rw [if_neg c] at hm
              refine x_iload10 eX5_leastSet_124 ?_
              refine x_istore8 eX5_leastSet_126 rfl ?_
              refine x_iload12 eX5_leastSet_128 ?_
              refine x_istore9 eX5_leastSet_130 rfl ?_
              refine x_iload10 eX5_leastSet_132 ?_
              refine x_iload6 eX5_leastSet_134 ?_
              refine x_Si2 eX5_leastSet_136 kX5_nextSet mX5_185 (t_X5_nextSet rfl) (Nat.le_of_ble_eq_true rfl) ?_
              refine x_istore10 eX5_leastSet_139 rfl ?_
              refine x_iinc11 eX5_leastSet_141 rfl ?_
              refine x_goto eX5_leastSet_144 ?_
              exact x_weak (by simp [xt_le]) (ih hm)
set_option maxRecDepth 4000 in
theorem t_X5_leastSet {o : Int32 × (Nat → Int32) × (Nat → Int32) × (Nat → Int32) × (Nat → Int32) × (Nat → Int32)} {p1 : Int32} {p2 : Int32} {p3 : Int32} {p4 : Int32} (hm : sp_X5_leastSet p1 p2 p3 p4 o_size o_year o_gone o_minds o_lasts t_rule o_parent o_kind o_number o_above o_kidCount o_lead t_steps t_ends t_stack x_prices x_facts = some o) : xt_M yX5_leastSet cX5_leastSet 13 (some .int) (d + 5) [.ref 0, .int p1, .int p2, .int p3, .int p4] (WX o_size o_year o_gone o_minds o_lasts r_size r_token r_place r_at r_open r_made t_size t_rule i_there i_rule i_size i_year i_gone i_minds i_lasts o_parent o_kind o_number o_odds o_above o_kidCount o_lead r_tape r_steps r_ends t_steps t_ends t_stack s_sort s_size s_items i_number i_odds x_prices x_facts x_laws x_clues) (xt_Ki o.1 (WX o_size o_year o_gone o_minds o_lasts r_size r_token r_place r_at r_open r_made t_size t_rule i_there i_rule i_size i_year i_gone i_minds i_lasts o_parent o_kind o_number o_odds o_above o.2.1 o.2.2.1 r_tape r_steps r_ends t_steps t_ends o.2.2.2.1 s_sort s_size s_items i_number i_odds o.2.2.2.2.1 o.2.2.2.2.2 x_laws x_clues)) := by
  unfold sp_X5_leastSet at hm
  refine xt_M.go (own := RX5) (lv := [some (.ref 0), some (.int p1), some (.int p2), some (.int p3), some (.int p4), none, none, none, none, none, none, none, none]) rfl rfl (Nat.le_of_ble_eq_true rfl) rfl ?_
  refine x_aload0 eX5_leastSet_0 ?_
  refine x_get eX5_leastSet_1 fX5_10 rfl rfl ?_
  refine x_k eX5_leastSet_4 ?_
  obtain ⟨r1, hr, hm⟩ := xo_bind hm
  refine x_Vi1 eX5_leastSet_5 kX1_standing mX5_125 (t_X1_standing hr) rfl (Nat.le_of_ble_eq_true rfl) ?_
  refine x_istore5 eX5_leastSet_8 rfl ?_
  refine x_iload1 eX5_leastSet_10 ?_
  refine x_if_eq eX5_leastSet_11 (fun c => ?_) (fun c => ?_)
  · rw [if_pos c] at hm
    refine x_aload0 eX5_leastSet_24 ?_
    refine x_get eX5_leastSet_25 fX5_10 rfl rfl ?_
    refine x_iload5 eX5_leastSet_28 ?_
    obtain ⟨r2, hr, hm⟩ := xo_bind hm
    refine x_Vi1 eX5_leastSet_30 kX1_twigsOf mX5_134 (t_X1_twigsOf hr) rfl (Nat.le_of_ble_eq_true rfl) ?_
    refine x_istore6 eX5_leastSet_33 rfl ?_
    refine x_aload0 eX5_leastSet_35 ?_
    refine x_iload6 eX5_leastSet_36 ?_
    refine x_iload1 eX5_leastSet_38 ?_
    refine x_if_eq eX5_leastSet_39 (fun c => ?_) (fun c => ?_)
    · rw [if_pos c] at hm
      refine x_k eX5_leastSet_46 ?_
      refine x_iload5 eX5_leastSet_47 ?_
      obtain ⟨r3, hr, hm⟩ := xo_bind hm
      refine x_Vv3 eX5_leastSet_49 kX5_keepPrices mX5_212 (t_X5_keepPrices hr) rfl (Nat.le_of_ble_eq_true rfl) ?_
      refine x_iload6 eX5_leastSet_52 ?_
      refine x_Si1 eX5_leastSet_54 kX5_waysOf mX5_179 (t_X5_waysOf rfl) (Nat.le_of_ble_eq_true rfl) ?_
      refine x_istore7 eX5_leastSet_57 rfl ?_
      refine x_k eX5_leastSet_59 ?_
      refine x_istore8 eX5_leastSet_60 rfl ?_
      refine x_k eX5_leastSet_62 ?_
      refine x_istore9 eX5_leastSet_63 rfl ?_
      refine x_k eX5_leastSet_65 ?_
      refine x_istore10 eX5_leastSet_66 rfl ?_
      refine x_k eX5_leastSet_68 ?_
      refine x_istore11 eX5_leastSet_69 rfl ?_
      exact l_X5_leastSet_71 _ hm
    · rw [if_neg c] at hm
      refine x_k eX5_leastSet_42 ?_
      refine x_goto eX5_leastSet_43 ?_
      refine x_iload5 eX5_leastSet_47 ?_
      obtain ⟨r10, hr, hm⟩ := xo_bind hm
      refine x_Vv3 eX5_leastSet_49 kX5_keepPrices mX5_212 (t_X5_keepPrices hr) rfl (Nat.le_of_ble_eq_true rfl) ?_
      refine x_iload6 eX5_leastSet_52 ?_
      refine x_Si1 eX5_leastSet_54 kX5_waysOf mX5_179 (t_X5_waysOf rfl) (Nat.le_of_ble_eq_true rfl) ?_
      refine x_istore7 eX5_leastSet_57 rfl ?_
      refine x_k eX5_leastSet_59 ?_
      refine x_istore8 eX5_leastSet_60 rfl ?_
      refine x_k eX5_leastSet_62 ?_
      refine x_istore9 eX5_leastSet_63 rfl ?_
      refine x_k eX5_leastSet_65 ?_
      refine x_istore10 eX5_leastSet_66 rfl ?_
      refine x_k eX5_leastSet_68 ?_
      refine x_istore11 eX5_leastSet_69 rfl ?_
      exact l_X5_leastSet_71 _ hm
  · rw [if_neg c] at hm
    refine x_iload5 eX5_leastSet_14 ?_
    refine x_k eX5_leastSet_16 ?_
    refine x_k eX5_leastSet_17 ?_
    refine x_Si3 eX5_leastSet_18 kX5_withBit mX5_113 (t_X5_withBit rfl) (Nat.le_of_ble_eq_true rfl) ?_
    refine x_goto eX5_leastSet_21 ?_
    refine x_istore6 eX5_leastSet_33 rfl ?_
    refine x_aload0 eX5_leastSet_35 ?_
    refine x_iload6 eX5_leastSet_36 ?_
    refine x_iload1 eX5_leastSet_38 ?_
    refine x_if_eq eX5_leastSet_39 (fun c => ?_) (fun c => ?_)
    · rw [if_pos c] at hm
      refine x_k eX5_leastSet_46 ?_
      refine x_iload5 eX5_leastSet_47 ?_
      obtain ⟨r11, hr, hm⟩ := xo_bind hm
      refine x_Vv3 eX5_leastSet_49 kX5_keepPrices mX5_212 (t_X5_keepPrices hr) rfl (Nat.le_of_ble_eq_true rfl) ?_
      refine x_iload6 eX5_leastSet_52 ?_
      refine x_Si1 eX5_leastSet_54 kX5_waysOf mX5_179 (t_X5_waysOf rfl) (Nat.le_of_ble_eq_true rfl) ?_
      refine x_istore7 eX5_leastSet_57 rfl ?_
      refine x_k eX5_leastSet_59 ?_
      refine x_istore8 eX5_leastSet_60 rfl ?_
      refine x_k eX5_leastSet_62 ?_
      refine x_istore9 eX5_leastSet_63 rfl ?_
      refine x_k eX5_leastSet_65 ?_
      refine x_istore10 eX5_leastSet_66 rfl ?_
      refine x_k eX5_leastSet_68 ?_
      refine x_istore11 eX5_leastSet_69 rfl ?_
      exact l_X5_leastSet_71 _ hm
    · rw [if_neg c] at hm
      refine x_k eX5_leastSet_42 ?_
      refine x_goto eX5_leastSet_43 ?_
      refine x_iload5 eX5_leastSet_47 ?_
      obtain ⟨r12, hr, hm⟩ := xo_bind hm
      refine x_Vv3 eX5_leastSet_49 kX5_keepPrices mX5_212 (t_X5_keepPrices hr) rfl (Nat.le_of_ble_eq_true rfl) ?_
      refine x_iload6 eX5_leastSet_52 ?_
      refine x_Si1 eX5_leastSet_54 kX5_waysOf mX5_179 (t_X5_waysOf rfl) (Nat.le_of_ble_eq_true rfl) ?_
      refine x_istore7 eX5_leastSet_57 rfl ?_
      refine x_k eX5_leastSet_59 ?_
      refine x_istore8 eX5_leastSet_60 rfl ?_
      refine x_k eX5_leastSet_62 ?_
      refine x_istore9 eX5_leastSet_63 rfl ?_
      refine x_k eX5_leastSet_65 ?_
      refine x_istore10 eX5_leastSet_66 rfl ?_
      refine x_k eX5_leastSet_68 ?_
      refine x_istore11 eX5_leastSet_69 rfl ?_
      exact l_X5_leastSet_71 _ hm
set_option maxRecDepth 4000 in
theorem t_X5_minds {o : Int32 × (Nat → Int32) × (Nat → Int32) × (Nat → Int32) × (Nat → Int32) × (Nat → Int32)} {p1 : Int32} {p2 : Int32} {p3 : Int32} (hm : sp_X5_minds p1 p2 p3 o_size o_year o_gone o_minds o_lasts t_rule o_parent o_kind o_number o_above o_kidCount o_lead t_steps t_ends t_stack x_prices x_facts = some o) : xt_M yX5_minds cX5_minds 4 (some .int) (d + 6) [.ref 0, .int p1, .int p2, .int p3] (WX o_size o_year o_gone o_minds o_lasts r_size r_token r_place r_at r_open r_made t_size t_rule i_there i_rule i_size i_year i_gone i_minds i_lasts o_parent o_kind o_number o_odds o_above o_kidCount o_lead r_tape r_steps r_ends t_steps t_ends t_stack s_sort s_size s_items i_number i_odds x_prices x_facts x_laws x_clues) (xt_Ki o.1 (WX o_size o_year o_gone o_minds o_lasts r_size r_token r_place r_at r_open r_made t_size t_rule i_there i_rule i_size i_year i_gone i_minds i_lasts o_parent o_kind o_number o_odds o_above o.2.1 o.2.2.1 r_tape r_steps r_ends t_steps t_ends o.2.2.2.1 s_sort s_size s_items i_number i_odds o.2.2.2.2.1 o.2.2.2.2.2 x_laws x_clues)) := by
  unfold sp_X5_minds at hm
  refine xt_M.go (own := RX5) (lv := [some (.ref 0), some (.int p1), some (.int p2), some (.int p3)]) rfl rfl (Nat.le_of_ble_eq_true rfl) rfl ?_
  refine x_iload1 eX5_minds_0 ?_
  refine x_k eX5_minds_1 ?_
  refine x_k eX5_minds_2 ?_
  refine x_Si3 eX5_minds_3 kX5_isIn mX5_88 (t_X5_isIn rfl) (Nat.le_of_ble_eq_true rfl) ?_
  refine x_if_eq eX5_minds_6 (fun c => ?_) (fun c => ?_)
  · rw [if_pos c] at hm
    refine x_k eX5_minds_38 ?_
    obtain rfl := Option.some.inj hm
    exact x_iret eX5_minds_40 ⟨rfl, rfl⟩
  · rw [if_neg c] at hm
    refine x_iload2 eX5_minds_9 ?_
    refine x_k eX5_minds_10 ?_
    refine x_k eX5_minds_11 ?_
    refine x_Si3 eX5_minds_12 kX5_isIn mX5_88 (t_X5_isIn rfl) (Nat.le_of_ble_eq_true rfl) ?_
    refine x_if_eq eX5_minds_15 (fun c => ?_) (fun c => ?_)
    · rw [if_pos c] at hm
      refine x_k eX5_minds_38 ?_
      obtain rfl := Option.some.inj hm
      exact x_iret eX5_minds_40 ⟨rfl, rfl⟩
    · rw [if_neg c] at hm
      refine x_iload3 eX5_minds_18 ?_
      refine x_k eX5_minds_19 ?_
      refine x_k eX5_minds_20 ?_
      refine x_Si3 eX5_minds_21 kX5_isIn mX5_88 (t_X5_isIn rfl) (Nat.le_of_ble_eq_true rfl) ?_
      refine x_if_eq eX5_minds_24 (fun c => ?_) (fun c => ?_)
      · rw [if_pos c] at hm
        refine x_k eX5_minds_38 ?_
        obtain rfl := Option.some.inj hm
        exact x_iret eX5_minds_40 ⟨rfl, rfl⟩
      · rw [if_neg c] at hm
        refine x_aload0 eX5_minds_27 ?_
        refine x_k eX5_minds_28 ?_
        refine x_iload1 eX5_minds_29 ?_
        refine x_iload2 eX5_minds_30 ?_
        refine x_iload3 eX5_minds_31 ?_
        obtain ⟨r1, hr, hm⟩ := xo_bind hm
        refine x_Vi4 eX5_minds_32 kX5_leastSet mX5_175 (t_X5_leastSet hr) rfl (Nat.le_of_ble_eq_true rfl) ?_
        refine x_goto eX5_minds_35 ?_
        obtain rfl := Option.some.inj hm
        exact x_iret eX5_minds_40 ⟨rfl, rfl⟩
set_option maxRecDepth 4000 in
theorem t_X5_cuts {o : Int32 × (Nat → Int32) × (Nat → Int32) × (Nat → Int32) × (Nat → Int32) × (Nat → Int32)} {p1 : Int32} {p2 : Int32} {p3 : Int32} (hm : sp_X5_cuts p1 p2 p3 o_size o_year o_gone o_minds o_lasts t_rule o_parent o_kind o_number o_above o_kidCount o_lead t_steps t_ends t_stack x_prices x_facts = some o) : xt_M yX5_cuts cX5_cuts 4 (some .int) (d + 6) [.ref 0, .int p1, .int p2, .int p3] (WX o_size o_year o_gone o_minds o_lasts r_size r_token r_place r_at r_open r_made t_size t_rule i_there i_rule i_size i_year i_gone i_minds i_lasts o_parent o_kind o_number o_odds o_above o_kidCount o_lead r_tape r_steps r_ends t_steps t_ends t_stack s_sort s_size s_items i_number i_odds x_prices x_facts x_laws x_clues) (xt_Ki o.1 (WX o_size o_year o_gone o_minds o_lasts r_size r_token r_place r_at r_open r_made t_size t_rule i_there i_rule i_size i_year i_gone i_minds i_lasts o_parent o_kind o_number o_odds o_above o.2.1 o.2.2.1 r_tape r_steps r_ends t_steps t_ends o.2.2.2.1 s_sort s_size s_items i_number i_odds o.2.2.2.2.1 o.2.2.2.2.2 x_laws x_clues)) := by
  unfold sp_X5_cuts at hm
  refine xt_M.go (own := RX5) (lv := [some (.ref 0), some (.int p1), some (.int p2), some (.int p3)]) rfl rfl (Nat.le_of_ble_eq_true rfl) rfl ?_
  refine x_iload1 eX5_cuts_0 ?_
  refine x_k eX5_cuts_1 ?_
  refine x_k eX5_cuts_2 ?_
  refine x_Si3 eX5_cuts_3 kX5_isIn mX5_88 (t_X5_isIn rfl) (Nat.le_of_ble_eq_true rfl) ?_
  refine x_if_eq eX5_cuts_6 (fun c => ?_) (fun c => ?_)
  · rw [if_pos c] at hm
    refine x_k eX5_cuts_38 ?_
    obtain rfl := Option.some.inj hm
    exact x_iret eX5_cuts_40 ⟨rfl, rfl⟩
  · rw [if_neg c] at hm
    refine x_iload2 eX5_cuts_9 ?_
    refine x_k eX5_cuts_10 ?_
    refine x_k eX5_cuts_11 ?_
    refine x_Si3 eX5_cuts_12 kX5_isIn mX5_88 (t_X5_isIn rfl) (Nat.le_of_ble_eq_true rfl) ?_
    refine x_if_eq eX5_cuts_15 (fun c => ?_) (fun c => ?_)
    · rw [if_pos c] at hm
      refine x_k eX5_cuts_38 ?_
      obtain rfl := Option.some.inj hm
      exact x_iret eX5_cuts_40 ⟨rfl, rfl⟩
    · rw [if_neg c] at hm
      refine x_iload3 eX5_cuts_18 ?_
      refine x_k eX5_cuts_19 ?_
      refine x_k eX5_cuts_20 ?_
      refine x_Si3 eX5_cuts_21 kX5_isIn mX5_88 (t_X5_isIn rfl) (Nat.le_of_ble_eq_true rfl) ?_
      refine x_if_eq eX5_cuts_24 (fun c => ?_) (fun c => ?_)
      · rw [if_pos c] at hm
        refine x_k eX5_cuts_38 ?_
        obtain rfl := Option.some.inj hm
        exact x_iret eX5_cuts_40 ⟨rfl, rfl⟩
      · rw [if_neg c] at hm
        refine x_aload0 eX5_cuts_27 ?_
        refine x_k eX5_cuts_28 ?_
        refine x_iload1 eX5_cuts_29 ?_
        refine x_iload2 eX5_cuts_30 ?_
        refine x_iload3 eX5_cuts_31 ?_
        obtain ⟨r1, hr, hm⟩ := xo_bind hm
        refine x_Vi4 eX5_cuts_32 kX5_leastSet mX5_175 (t_X5_leastSet hr) rfl (Nat.le_of_ble_eq_true rfl) ?_
        refine x_goto eX5_cuts_35 ?_
        obtain rfl := Option.some.inj hm
        exact x_iret eX5_cuts_40 ⟨rfl, rfl⟩
set_option maxRecDepth 4000 in
theorem l_X5_lopsided_48 {o : Int32 × (Nat → Int32) × (Nat → Int32)} {u1 : Int32} {u2 : Int32} {u3 : Int32} {u4 : Int32} {o_size : Int32} {o_lasts : Int32} {o_parent : Nat → Int32} {o_kind : Nat → Int32} {o_number : Nat → Int32} : ∀ (n : Nat) {u5 : Int32} {u6 : Int32} {u7 : Int32} {u8 : Int32} {o_kidCount : Nat → Int32} {o_lead : Nat → Int32}, sp_X5_lopsided_48 u1 u2 u3 u4 o_size o_lasts o_parent o_kind o_number n u5 u6 u7 u8 o_kidCount o_lead = some o → xt_T RX5 cX5_lopsided 10 (some .int) (d + 4) (xt_Ki o.1 (WX o_size o_year o_gone o_minds o_lasts r_size r_token r_place r_at r_open r_made t_size t_rule i_there i_rule i_size i_year i_gone i_minds i_lasts o_parent o_kind o_number o_odds o_above o.2.1 o.2.2 r_tape r_steps r_ends t_steps t_ends t_stack s_sort s_size s_items i_number i_odds x_prices x_facts x_laws x_clues)) 48 [some (.ref 0), some (.int u1), some (.int u2), some (.int u3), some (.int u4), some (.int u5), some (.int u6), some (.int u7), some (.int u8), none] [] (WX o_size o_year o_gone o_minds o_lasts r_size r_token r_place r_at r_open r_made t_size t_rule i_there i_rule i_size i_year i_gone i_minds i_lasts o_parent o_kind o_number o_odds o_above o_kidCount o_lead r_tape r_steps r_ends t_steps t_ends t_stack s_sort s_size s_items i_number i_odds x_prices x_facts x_laws x_clues) := by
  intro n
  induction n with
  | zero => intro u5 u6 u7 u8 o_kidCount o_lead hm; rw [sp_X5_lopsided_48] at hm; cases hm
  | succ n ih =>
    intro u5 u6 u7 u8 o_kidCount o_lead hm
    rw [sp_X5_lopsided_48] at hm
    refine x_iload8 eX5_lopsided_48 ?_
    refine x_iload4 eX5_lopsided_50 ?_
    refine x_icmp_ge eX5_lopsided_52 (fun c => ?_) (fun c => ?_)
    · rw [if_pos c] at hm
      refine x_iload1 eX5_lopsided_122 ?_
      refine x_if_ne eX5_lopsided_123 (fun c => ?_) (fun c => ?_)
      · rw [if_neg c] at hm
        refine x_iload6 eX5_lopsided_131 ?_
        obtain rfl := Option.some.inj hm
        exact x_iret eX5_lopsided_133 ⟨rfl, rfl⟩
      · rw [if_pos c] at hm
        refine x_iload5 eX5_lopsided_126 ?_
        refine x_goto eX5_lopsided_128 ?_
        obtain rfl := Option.some.inj hm
        exact x_iret eX5_lopsided_133 ⟨rfl, rfl⟩
    · rw [if_neg c] at hm
      refine x_iload7 eX5_lopsided_55 ?_
      refine x_Si1 eX5_lopsided_57 kJ6_bitCount_0f7a4 mX5_143 (t_J6_bitCount_0f7a4 rfl) (Nat.le_of_ble_eq_true rfl) ?_
      refine x_istore9 eX5_lopsided_60 rfl ?_
      refine x_aload0 eX5_lopsided_62 ?_
      refine x_get eX5_lopsided_63 fX5_10 rfl rfl ?_
      refine x_iload2 eX5_lopsided_66 ?_
      refine x_iload7 eX5_lopsided_67 ?_
      obtain ⟨r3, hr, hm⟩ := xo_bind hm
      refine x_Vi2 eX5_lopsided_69 kX1_vote mX5_137 (t_X1_vote hr) rfl (Nat.le_of_ble_eq_true rfl) ?_
      refine x_k eX5_lopsided_72 ?_
      refine x_Si2 eX5_lopsided_73 kX5_bit mX5_109 (t_X5_bit rfl) (Nat.le_of_ble_eq_true rfl) ?_
      refine x_if_ne eX5_lopsided_76 (fun c => ?_) (fun c => ?_)
      · rw [if_neg c] at hm
        refine x_iload5 eX5_lopsided_91 ?_
        refine x_k eX5_lopsided_93 ?_
        refine x_icmp_eq eX5_lopsided_94 (fun c => ?_) (fun c => ?_)
        · rw [if_pos c] at hm
          refine x_iload9 eX5_lopsided_104 ?_
          refine x_istore5 eX5_lopsided_106 rfl ?_
          refine x_iload7 eX5_lopsided_108 ?_
          refine x_iload3 eX5_lopsided_110 ?_
          refine x_Si2 eX5_lopsided_111 kX5_nextSet mX5_185 (t_X5_nextSet rfl) (Nat.le_of_ble_eq_true rfl) ?_
          refine x_istore7 eX5_lopsided_114 rfl ?_
          refine x_iinc8 eX5_lopsided_116 rfl ?_
          refine x_goto eX5_lopsided_119 ?_
          exact x_weak (by simp [xt_le]) (ih hm)
        · rw [if_neg c] at hm
          refine x_iload9 eX5_lopsided_97 ?_
          refine x_iload5 eX5_lopsided_99 ?_
          refine x_icmp_ge eX5_lopsided_101 (fun c => ?_) (fun c => ?_)
          · rw [if_pos c] at hm
            refine x_iload7 eX5_lopsided_108 ?_
            refine x_iload3 eX5_lopsided_110 ?_
            refine x_Si2 eX5_lopsided_111 kX5_nextSet mX5_185 (t_X5_nextSet rfl) (Nat.le_of_ble_eq_true rfl) ?_
            refine x_istore7 eX5_lopsided_114 rfl ?_
            refine x_iinc8 eX5_lopsided_116 rfl ?_
            refine x_goto eX5_lopsided_119 ?_
            exact x_weak (by simp [xt_le]) (ih hm)
          · rw [if_neg c] at hm
            refine x_iload9 eX5_lopsided_104 ?_
            refine x_istore5 eX5_lopsided_106 rfl ?_
            refine x_iload7 eX5_lopsided_108 ?_
            refine x_iload3 eX5_lopsided_110 ?_
            refine x_Si2 eX5_lopsided_111 kX5_nextSet mX5_185 (t_X5_nextSet rfl) (Nat.le_of_ble_eq_true rfl) ?_
            refine x_istore7 eX5_lopsided_114 rfl ?_
            refine x_iinc8 eX5_lopsided_116 rfl ?_
            refine x_goto eX5_lopsided_119 ?_
            exact x_weak (by simp [xt_le]) (ih hm)
      · rw [if_pos c] at hm
        refine x_iload6 eX5_lopsided_79 ?_
        refine x_iload9 eX5_lopsided_81 ?_
        refine x_mmax eX5_lopsided_83 qX5_182 (Nat.le_of_ble_eq_true rfl) ?_
        refine x_istore6 eX5_lopsided_86 rfl ?_
        refine x_goto eX5_lopsided_88 ?_
        refine x_iload7 eX5_lopsided_108 ?_
        refine x_iload3 eX5_lopsided_110 ?_
        refine x_Si2 eX5_lopsided_111 kX5_nextSet mX5_185 (t_X5_nextSet rfl) (Nat.le_of_ble_eq_true rfl) ?_
        refine x_istore7 eX5_lopsided_114 rfl ?_
        refine x_iinc8 eX5_lopsided_116 rfl ?_
        refine x_goto eX5_lopsided_119 ?_
        exact x_weak (by simp [xt_le]) (ih hm)
set_option maxRecDepth 4000 in
theorem t_X5_lopsided {o : Int32 × (Nat → Int32) × (Nat → Int32)} {p1 : Int32} (hm : sp_X5_lopsided p1 o_size o_gone o_lasts o_parent o_kind o_number o_above o_kidCount o_lead = some o) : xt_M yX5_lopsided cX5_lopsided 10 (some .int) (d + 4) [.ref 0, .int p1] (WX o_size o_year o_gone o_minds o_lasts r_size r_token r_place r_at r_open r_made t_size t_rule i_there i_rule i_size i_year i_gone i_minds i_lasts o_parent o_kind o_number o_odds o_above o_kidCount o_lead r_tape r_steps r_ends t_steps t_ends t_stack s_sort s_size s_items i_number i_odds x_prices x_facts x_laws x_clues) (xt_Ki o.1 (WX o_size o_year o_gone o_minds o_lasts r_size r_token r_place r_at r_open r_made t_size t_rule i_there i_rule i_size i_year i_gone i_minds i_lasts o_parent o_kind o_number o_odds o_above o.2.1 o.2.2 r_tape r_steps r_ends t_steps t_ends t_stack s_sort s_size s_items i_number i_odds x_prices x_facts x_laws x_clues)) := by
  unfold sp_X5_lopsided at hm
  refine xt_M.go (own := RX5) (lv := [some (.ref 0), some (.int p1), none, none, none, none, none, none, none, none]) rfl rfl (Nat.le_of_ble_eq_true rfl) rfl ?_
  refine x_iload1 eX5_lopsided_0 ?_
  refine x_k eX5_lopsided_1 ?_
  refine x_k eX5_lopsided_2 ?_
  refine x_Si3 eX5_lopsided_3 kX5_isIn mX5_88 (t_X5_isIn rfl) (Nat.le_of_ble_eq_true rfl) ?_
  refine x_if_ne eX5_lopsided_6 (fun c => ?_) (fun c => ?_)
  · rw [if_neg c] at hm
    refine x_aload0 eX5_lopsided_12 ?_
    refine x_get eX5_lopsided_13 fX5_10 rfl rfl ?_
    refine x_k eX5_lopsided_16 ?_
    obtain ⟨r1, hr, hm⟩ := xo_bind hm
    refine x_Vi1 eX5_lopsided_17 kX1_standing mX5_125 (t_X1_standing hr) rfl (Nat.le_of_ble_eq_true rfl) ?_
    refine x_istore2 eX5_lopsided_20 rfl ?_
    refine x_aload0 eX5_lopsided_21 ?_
    refine x_get eX5_lopsided_22 fX5_10 rfl rfl ?_
    refine x_iload2 eX5_lopsided_25 ?_
    obtain ⟨r2, hr, hm⟩ := xo_bind hm
    refine x_Vi1 eX5_lopsided_26 kX1_twigsOf mX5_134 (t_X1_twigsOf hr) rfl (Nat.le_of_ble_eq_true rfl) ?_
    refine x_istore3 eX5_lopsided_29 rfl ?_
    refine x_iload3 eX5_lopsided_30 ?_
    refine x_Si1 eX5_lopsided_31 kX5_waysOf mX5_179 (t_X5_waysOf rfl) (Nat.le_of_ble_eq_true rfl) ?_
    refine x_istore4 eX5_lopsided_34 rfl ?_
    refine x_k eX5_lopsided_36 ?_
    refine x_istore5 eX5_lopsided_37 rfl ?_
    refine x_k eX5_lopsided_39 ?_
    refine x_istore6 eX5_lopsided_40 rfl ?_
    refine x_k eX5_lopsided_42 ?_
    refine x_istore7 eX5_lopsided_43 rfl ?_
    refine x_k eX5_lopsided_45 ?_
    refine x_istore8 eX5_lopsided_46 rfl ?_
    exact l_X5_lopsided_48 _ hm
  · rw [if_pos c] at hm
    refine x_k eX5_lopsided_9 ?_
    obtain rfl := Option.some.inj hm
    exact x_iret eX5_lopsided_11 ⟨rfl, rfl⟩
set_option maxRecDepth 4000 in
theorem l_J7_fill_53178_p26_5 {o : (Nat → Int32)} {u1 : Int32} {u3 : Int32} : ∀ (n : Nat) {u2 : Int32} {x_laws : Nat → Int32}, sp_J7_fill_53178_p26_5 u1 u3 n u2 x_laws = some o → xt_T RJ7 cJ7_fill_53178 4 none (d + 0) (xt_Kv (WX o_size o_year o_gone o_minds o_lasts r_size r_token r_place r_at r_open r_made t_size t_rule i_there i_rule i_size i_year i_gone i_minds i_lasts o_parent o_kind o_number o_odds o_above o_kidCount o_lead r_tape r_steps r_ends t_steps t_ends t_stack s_sort s_size s_items i_number i_odds x_prices x_facts o x_clues)) 5 [some (.ref 26), some (.int u1), some (.int u2), some (.int u3)] [] (WX o_size o_year o_gone o_minds o_lasts r_size r_token r_place r_at r_open r_made t_size t_rule i_there i_rule i_size i_year i_gone i_minds i_lasts o_parent o_kind o_number o_odds o_above o_kidCount o_lead r_tape r_steps r_ends t_steps t_ends t_stack s_sort s_size s_items i_number i_odds x_prices x_facts x_laws x_clues) := by
  intro n
  induction n with
  | zero => intro u2 x_laws hm; rw [sp_J7_fill_53178_p26_5] at hm; cases hm
  | succ n ih =>
    intro u2 x_laws hm
    rw [sp_J7_fill_53178_p26_5] at hm
    refine x_iload2 eJ7_fill_53178_5 ?_
    refine x_iload3 eJ7_fill_53178_6 ?_
    refine x_icmp_ge eJ7_fill_53178_7 (fun c => ?_) (fun c => ?_)
    · rw [if_pos c] at hm
      obtain rfl := Option.some.inj hm
      exact x_vret eJ7_fill_53178_20 ⟨rfl, rfl⟩
    · rw [if_neg c] at hm
      refine x_aload0 eJ7_fill_53178_10 ?_
      refine x_iload2 eJ7_fill_53178_11 ?_
      refine x_iload1 eJ7_fill_53178_12 ?_
      obtain ⟨f1, hv, hm⟩ := xo_bind hm
      obtain ⟨hi, rfl⟩ := xo_set_some hv
      refine x_iastore (w' := WX _ _ _ _ _ _ _ _ _ _ _ _ _ _ _ _ _ _ _ _ _ _ _ _ _ _ _ _ _ _ _ _ _ _ _ _ _ _ _ _ _ _) eJ7_fill_53178_13 rfl hi rfl ?_
      refine x_iinc2 eJ7_fill_53178_14 rfl ?_
      refine x_goto eJ7_fill_53178_17 ?_
      exact ih hm
set_option maxRecDepth 4000 in
theorem t_J7_fill_53178_p26 {o : (Nat → Int32)} {p2 : Int32} (hm : sp_J7_fill_53178_p26 p2 x_laws = some o) : xt_M yJ7_fill_53178 cJ7_fill_53178 4 none (d + 0) [.ref 26, .int p2] (WX o_size o_year o_gone o_minds o_lasts r_size r_token r_place r_at r_open r_made t_size t_rule i_there i_rule i_size i_year i_gone i_minds i_lasts o_parent o_kind o_number o_odds o_above o_kidCount o_lead r_tape r_steps r_ends t_steps t_ends t_stack s_sort s_size s_items i_number i_odds x_prices x_facts x_laws x_clues) (xt_Kv (WX o_size o_year o_gone o_minds o_lasts r_size r_token r_place r_at r_open r_made t_size t_rule i_there i_rule i_size i_year i_gone i_minds i_lasts o_parent o_kind o_number o_odds o_above o_kidCount o_lead r_tape r_steps r_ends t_steps t_ends t_stack s_sort s_size s_items i_number i_odds x_prices x_facts o x_clues)) := by
  unfold sp_J7_fill_53178_p26 at hm
  refine xt_M.go (own := RJ7) (lv := [some (.ref 26), some (.int p2), none, none]) rfl rfl (Nat.le_of_ble_eq_true rfl) rfl ?_
  refine x_k eJ7_fill_53178_0 ?_
  refine x_istore2 eJ7_fill_53178_1 rfl ?_
  refine x_aload0 eJ7_fill_53178_2 ?_
  refine x_alen (v := 64) eJ7_fill_53178_3 rfl (by decide) ?_
  refine x_istore3 eJ7_fill_53178_4 rfl ?_
  exact l_J7_fill_53178_p26_5 _ hm
set_option maxRecDepth 4000 in
theorem l_X5_keepLaws_39 {o : (Nat → Int32) × (Nat → Int32) × (Nat → Int32)} {u1 : Int32} {u2 : Int32} {u3 : Int32} {o_size : Int32} {o_lasts : Int32} {o_parent : Nat → Int32} {o_kind : Nat → Int32} {o_number : Nat → Int32} : ∀ (n : Nat) {u4 : Int32} {u5 : Int32} {o_kidCount : Nat → Int32} {o_lead : Nat → Int32} {x_laws : Nat → Int32}, sp_X5_keepLaws_39 u1 u2 u3 o_size o_lasts o_parent o_kind o_number n u4 u5 o_kidCount o_lead x_laws = some o → xt_T RX5 cX5_keepLaws 6 none (d + 4) (xt_Kv (WX o_size o_year o_gone o_minds o_lasts r_size r_token r_place r_at r_open r_made t_size t_rule i_there i_rule i_size i_year i_gone i_minds i_lasts o_parent o_kind o_number o_odds o_above o.1 o.2.1 r_tape r_steps r_ends t_steps t_ends t_stack s_sort s_size s_items i_number i_odds x_prices x_facts o.2.2 x_clues)) 39 [some (.ref 0), some (.int u1), some (.int u2), some (.int u3), some (.int u4), some (.int u5)] [] (WX o_size o_year o_gone o_minds o_lasts r_size r_token r_place r_at r_open r_made t_size t_rule i_there i_rule i_size i_year i_gone i_minds i_lasts o_parent o_kind o_number o_odds o_above o_kidCount o_lead r_tape r_steps r_ends t_steps t_ends t_stack s_sort s_size s_items i_number i_odds x_prices x_facts x_laws x_clues) := by
  intro n
  induction n with
  | zero => intro u4 u5 o_kidCount o_lead x_laws hm; rw [sp_X5_keepLaws_39] at hm; cases hm
  | succ n ih =>
    intro u4 u5 o_kidCount o_lead x_laws hm
    rw [sp_X5_keepLaws_39] at hm
    refine x_iload5 eX5_keepLaws_39 ?_
    refine x_iload3 eX5_keepLaws_41 ?_
    refine x_icmp_ge eX5_keepLaws_42 (fun c => ?_) (fun c => ?_)
    · rw [if_pos c] at hm
      obtain rfl := Option.some.inj hm
      exact x_vret eX5_keepLaws_92 ⟨rfl, rfl⟩
    · rw [if_neg c] at hm
      refine x_aload0 eX5_keepLaws_45 ?_
      refine x_get eX5_keepLaws_46 fX5_51 rfl rfl ?_
      refine x_iload5 eX5_keepLaws_49 ?_
      refine x_k eX5_keepLaws_51 ?_
      refine x_idiv eX5_keepLaws_53 (by decide) ?_
      refine x_dup2 eX5_keepLaws_54 rfl rfl ?_
      obtain ⟨v3, hv, hm⟩ := xo_bind hm
      obtain ⟨hi, rfl⟩ := xo_at_some hv
      refine x_iaload eX5_keepLaws_55 rfl hi ?_
      refine x_aload0 eX5_keepLaws_56 ?_
      refine x_get eX5_keepLaws_57 fX5_10 rfl rfl ?_
      refine x_iload2 eX5_keepLaws_60 ?_
      refine x_iload4 eX5_keepLaws_61 ?_
      obtain ⟨r4, hr, hm⟩ := xo_bind hm
      refine x_Vi2 eX5_keepLaws_63 kX1_vote mX5_137 (t_X1_vote hr) rfl (Nat.le_of_ble_eq_true rfl) ?_
      refine x_k eX5_keepLaws_66 ?_
      refine x_Si2 eX5_keepLaws_67 kX5_bit mX5_109 (t_X5_bit rfl) (Nat.le_of_ble_eq_true rfl) ?_
      refine x_iload5 eX5_keepLaws_70 ?_
      refine x_k eX5_keepLaws_72 ?_
      refine x_irem eX5_keepLaws_74 (by decide) ?_
      refine x_ishl eX5_keepLaws_75 ?_
      refine x_ior eX5_keepLaws_76 ?_
      obtain ⟨f5, hv, hm⟩ := xo_bind hm
      obtain ⟨hi, rfl⟩ := xo_set_some hv
      refine x_iastore (w' := WX _ _ _ _ _ _ _ _ _ _ _ _ _ _ _ _ _ _ _ _ _ _ _ _ _ _ _ _ _ _ _ _ _ _ _ _ _ _ _ _ _ _) eX5_keepLaws_77 rfl hi rfl ?_
      refine x_iload4 eX5_keepLaws_78 ?_
      refine x_iload1 eX5_keepLaws_80 ?_
      refine x_Si2 eX5_keepLaws_81 kX5_nextSet mX5_185 (t_X5_nextSet rfl) (Nat.le_of_ble_eq_true rfl) ?_
      refine x_istore4 eX5_keepLaws_84 rfl ?_
      refine x_iinc5 eX5_keepLaws_86 rfl ?_
      refine x_goto eX5_keepLaws_89 ?_
      exact ih hm
set_option maxRecDepth 4000 in
theorem t_X5_keepLaws {o : (Nat → Int32) × (Nat → Int32) × (Nat → Int32)} {p1 : Int32} (hm : sp_X5_keepLaws p1 o_size o_gone o_lasts o_parent o_kind o_number o_above o_kidCount o_lead x_laws = some o) : xt_M yX5_keepLaws cX5_keepLaws 6 none (d + 4) [.ref 0, .int p1] (WX o_size o_year o_gone o_minds o_lasts r_size r_token r_place r_at r_open r_made t_size t_rule i_there i_rule i_size i_year i_gone i_minds i_lasts o_parent o_kind o_number o_odds o_above o_kidCount o_lead r_tape r_steps r_ends t_steps t_ends t_stack s_sort s_size s_items i_number i_odds x_prices x_facts x_laws x_clues) (xt_Kv (WX o_size o_year o_gone o_minds o_lasts r_size r_token r_place r_at r_open r_made t_size t_rule i_there i_rule i_size i_year i_gone i_minds i_lasts o_parent o_kind o_number o_odds o_above o.1 o.2.1 r_tape r_steps r_ends t_steps t_ends t_stack s_sort s_size s_items i_number i_odds x_prices x_facts o.2.2 x_clues)) := by
  unfold sp_X5_keepLaws at hm
  refine xt_M.go (own := RX5) (lv := [some (.ref 0), some (.int p1), none, none, none, none]) rfl rfl (Nat.le_of_ble_eq_true rfl) rfl ?_
  refine x_aload0 eX5_keepLaws_0 ?_
  refine x_get eX5_keepLaws_1 fX5_51 rfl rfl ?_
  refine x_k eX5_keepLaws_4 ?_
  obtain ⟨r1, hr, hm⟩ := xo_bind hm
  refine x_Sv2 eX5_keepLaws_5 kJ7_fill_53178 mX5_287 (t_J7_fill_53178_p26 hr) (Nat.le_of_ble_eq_true rfl) ?_
  refine x_aload0 eX5_keepLaws_8 ?_
  refine x_get eX5_keepLaws_9 fX5_10 rfl rfl ?_
  refine x_k eX5_keepLaws_12 ?_
  obtain ⟨r2, hr, hm⟩ := xo_bind hm
  refine x_Vi1 eX5_keepLaws_13 kX1_standing mX5_125 (t_X1_standing hr) rfl (Nat.le_of_ble_eq_true rfl) ?_
  refine x_istore2 eX5_keepLaws_16 rfl ?_
  refine x_iload1 eX5_keepLaws_17 ?_
  refine x_Si1 eX5_keepLaws_18 kX5_waysOf mX5_179 (t_X5_waysOf rfl) (Nat.le_of_ble_eq_true rfl) ?_
  refine x_aload0 eX5_keepLaws_21 ?_
  refine x_get eX5_keepLaws_22 fX5_51 rfl rfl ?_
  refine x_alen (v := 64) eX5_keepLaws_25 rfl (by decide) ?_
  refine x_k eX5_keepLaws_26 ?_
  refine x_imul eX5_keepLaws_28 ?_
  refine x_mmin eX5_keepLaws_29 qX5_167 (Nat.le_of_ble_eq_true rfl) ?_
  refine x_istore3 eX5_keepLaws_32 rfl ?_
  refine x_k eX5_keepLaws_33 ?_
  refine x_istore4 eX5_keepLaws_34 rfl ?_
  refine x_k eX5_keepLaws_36 ?_
  refine x_istore5 eX5_keepLaws_37 rfl ?_
  exact l_X5_keepLaws_39 _ hm
set_option maxRecDepth 4000 in
theorem l_X5_swings_22 {o : Int32} {u2 : Int32} {u3 : Int32} {x_laws : Nat → Int32} {u1 : Int32} : ∀ (n : Nat) {u4 : Int32} {u5 : Int32}, sp_X5_swings_22 u2 u3 x_laws n u4 u5 = some o → xt_T RX5 cX5_swings 7 (some .int) (d + 2) (xt_Ki o (WX o_size o_year o_gone o_minds o_lasts r_size r_token r_place r_at r_open r_made t_size t_rule i_there i_rule i_size i_year i_gone i_minds i_lasts o_parent o_kind o_number o_odds o_above o_kidCount o_lead r_tape r_steps r_ends t_steps t_ends t_stack s_sort s_size s_items i_number i_odds x_prices x_facts x_laws x_clues)) 22 [some (.ref 0), some (.int u1), some (.int u2), some (.int u3), some (.int u4), some (.int u5), none] [] (WX o_size o_year o_gone o_minds o_lasts r_size r_token r_place r_at r_open r_made t_size t_rule i_there i_rule i_size i_year i_gone i_minds i_lasts o_parent o_kind o_number o_odds o_above o_kidCount o_lead r_tape r_steps r_ends t_steps t_ends t_stack s_sort s_size s_items i_number i_odds x_prices x_facts x_laws x_clues) := by
  intro n
  induction n with
  | zero => intro u4 u5 hm; rw [sp_X5_swings_22] at hm; cases hm
  | succ n ih =>
    intro u4 u5 hm
    rw [sp_X5_swings_22] at hm
    refine x_iload5 eX5_swings_22 ?_
    refine x_iload3 eX5_swings_24 ?_
    refine x_icmp_ge eX5_swings_25 (fun c => ?_) (fun c => ?_)
    · rw [if_pos c] at hm
      refine x_iload4 eX5_swings_97 ?_
      obtain rfl := Option.some.inj hm
      exact x_iret eX5_swings_99 ⟨rfl, rfl⟩
    · rw [if_neg c] at hm
      refine x_iload5 eX5_swings_28 ?_
      refine x_k eX5_swings_30 ?_
      refine x_iload2 eX5_swings_31 ?_
      refine x_ishl eX5_swings_32 ?_
      refine x_ior eX5_swings_33 ?_
      refine x_istore6 eX5_swings_34 rfl ?_
      refine x_iload6 eX5_swings_36 ?_
      refine x_iload5 eX5_swings_38 ?_
      refine x_icmp_eq eX5_swings_40 (fun c => ?_) (fun c => ?_)
      · rw [if_pos c] at hm
        refine x_iinc5 eX5_swings_91 rfl ?_
        refine x_goto eX5_swings_94 ?_
        exact x_weak (by simp [xt_le]) (ih hm)
      · rw [if_neg c] at hm
        refine x_iload6 eX5_swings_43 ?_
        refine x_iload3 eX5_swings_45 ?_
        refine x_icmp_ge eX5_swings_46 (fun c => ?_) (fun c => ?_)
        · rw [if_pos c] at hm
          refine x_iinc5 eX5_swings_91 rfl ?_
          refine x_goto eX5_swings_94 ?_
          exact x_weak (by simp [xt_le]) (ih hm)
        · rw [if_neg c] at hm
          refine x_aload0 eX5_swings_49 ?_
          refine x_get eX5_swings_50 fX5_51 rfl rfl ?_
          refine x_iload5 eX5_swings_53 ?_
          refine x_k eX5_swings_55 ?_
          refine x_idiv eX5_swings_57 (by decide) ?_
          obtain ⟨v1, hv, hm⟩ := xo_bind hm
          obtain ⟨hi, rfl⟩ := xo_at_some hv
          refine x_iaload eX5_swings_58 rfl hi ?_
          refine x_iload5 eX5_swings_59 ?_
          refine x_k eX5_swings_61 ?_
          refine x_irem eX5_swings_63 (by decide) ?_
          refine x_Si2 eX5_swings_64 kX5_bit mX5_109 (t_X5_bit rfl) (Nat.le_of_ble_eq_true rfl) ?_
          refine x_aload0 eX5_swings_67 ?_
          refine x_get eX5_swings_68 fX5_51 rfl rfl ?_
          refine x_iload6 eX5_swings_71 ?_
          refine x_k eX5_swings_73 ?_
          refine x_idiv eX5_swings_75 (by decide) ?_
          obtain ⟨v2, hv, hm⟩ := xo_bind hm
          obtain ⟨hi, rfl⟩ := xo_at_some hv
          refine x_iaload eX5_swings_76 rfl hi ?_
          refine x_iload6 eX5_swings_77 ?_
          refine x_k eX5_swings_79 ?_
          refine x_irem eX5_swings_81 (by decide) ?_
          refine x_Si2 eX5_swings_82 kX5_bit mX5_109 (t_X5_bit rfl) (Nat.le_of_ble_eq_true rfl) ?_
          refine x_icmp_eq eX5_swings_85 (fun c => ?_) (fun c => ?_)
          · rw [if_pos c] at hm
            refine x_iinc5 eX5_swings_91 rfl ?_
            refine x_goto eX5_swings_94 ?_
            exact x_weak (by simp [xt_le]) (ih hm)
          · rw [if_neg c] at hm
            refine x_iinc4 eX5_swings_88 rfl ?_
            refine x_iinc5 eX5_swings_91 rfl ?_
            refine x_goto eX5_swings_94 ?_
            exact x_weak (by simp [xt_le]) (ih hm)
set_option maxRecDepth 4000 in
theorem t_X5_swings {o : Int32} {p1 : Int32} {p2 : Int32} (hm : sp_X5_swings p1 p2 x_laws = some o) : xt_M yX5_swings cX5_swings 7 (some .int) (d + 2) [.ref 0, .int p1, .int p2] (WX o_size o_year o_gone o_minds o_lasts r_size r_token r_place r_at r_open r_made t_size t_rule i_there i_rule i_size i_year i_gone i_minds i_lasts o_parent o_kind o_number o_odds o_above o_kidCount o_lead r_tape r_steps r_ends t_steps t_ends t_stack s_sort s_size s_items i_number i_odds x_prices x_facts x_laws x_clues) (xt_Ki o (WX o_size o_year o_gone o_minds o_lasts r_size r_token r_place r_at r_open r_made t_size t_rule i_there i_rule i_size i_year i_gone i_minds i_lasts o_parent o_kind o_number o_odds o_above o_kidCount o_lead r_tape r_steps r_ends t_steps t_ends t_stack s_sort s_size s_items i_number i_odds x_prices x_facts x_laws x_clues)) := by
  unfold sp_X5_swings at hm
  refine xt_M.go (own := RX5) (lv := [some (.ref 0), some (.int p1), some (.int p2), none, none, none, none]) rfl rfl (Nat.le_of_ble_eq_true rfl) rfl ?_
  refine x_iload1 eX5_swings_0 ?_
  refine x_Si1 eX5_swings_1 kX5_waysOf mX5_179 (t_X5_waysOf rfl) (Nat.le_of_ble_eq_true rfl) ?_
  refine x_aload0 eX5_swings_4 ?_
  refine x_get eX5_swings_5 fX5_51 rfl rfl ?_
  refine x_alen (v := 64) eX5_swings_8 rfl (by decide) ?_
  refine x_k eX5_swings_9 ?_
  refine x_imul eX5_swings_11 ?_
  refine x_mmin eX5_swings_12 qX5_167 (Nat.le_of_ble_eq_true rfl) ?_
  refine x_istore3 eX5_swings_15 rfl ?_
  refine x_k eX5_swings_16 ?_
  refine x_istore4 eX5_swings_17 rfl ?_
  refine x_k eX5_swings_19 ?_
  refine x_istore5 eX5_swings_20 rfl ?_
  exact l_X5_swings_22 _ hm
set_option maxRecDepth 4000 in
theorem l_X5_isFair_15 {o : Int32} {u1 : Int32} {u2 : Int32} {u3 : Int32} {x_laws : Nat → Int32} : ∀ (n : Nat) {u4 : Int32}, sp_X5_isFair_15 u1 u2 u3 x_laws n u4 = some o → xt_T RX5 cX5_isFair 5 (some .int) (d + 3) (xt_Ki o (WX o_size o_year o_gone o_minds o_lasts r_size r_token r_place r_at r_open r_made t_size t_rule i_there i_rule i_size i_year i_gone i_minds i_lasts o_parent o_kind o_number o_odds o_above o_kidCount o_lead r_tape r_steps r_ends t_steps t_ends t_stack s_sort s_size s_items i_number i_odds x_prices x_facts x_laws x_clues)) 15 [some (.ref 0), some (.int u1), some (.int u2), some (.int u3), some (.int u4)] [] (WX o_size o_year o_gone o_minds o_lasts r_size r_token r_place r_at r_open r_made t_size t_rule i_there i_rule i_size i_year i_gone i_minds i_lasts o_parent o_kind o_number o_odds o_above o_kidCount o_lead r_tape r_steps r_ends t_steps t_ends t_stack s_sort s_size s_items i_number i_odds x_prices x_facts x_laws x_clues) := by
  intro n
  induction n with
  | zero => intro u4 hm; rw [sp_X5_isFair_15] at hm; cases hm
  | succ n ih =>
    intro u4 hm
    rw [sp_X5_isFair_15] at hm
    refine x_iload4 eX5_isFair_15 ?_
    refine x_iload2 eX5_isFair_17 ?_
    refine x_icmp_ge eX5_isFair_18 (fun c => ?_) (fun c => ?_)
    · rw [if_pos c] at hm
      refine x_k eX5_isFair_40 ?_
      obtain rfl := Option.some.inj hm
      exact x_iret eX5_isFair_41 ⟨rfl, rfl⟩
    · rw [if_neg c] at hm
      refine x_aload0 eX5_isFair_21 ?_
      refine x_iload1 eX5_isFair_22 ?_
      refine x_iload4 eX5_isFair_23 ?_
      obtain ⟨r2, hr, hm⟩ := xo_bind hm
      refine x_Vi2 eX5_isFair_25 kX5_swings mX5_195 (t_X5_swings hr) rfl (Nat.le_of_ble_eq_true rfl) ?_
      refine x_iload3 eX5_isFair_28 ?_
      refine x_icmp_eq eX5_isFair_29 (fun c => ?_) (fun c => ?_)
      · rw [if_pos c] at hm
        refine x_iinc4 eX5_isFair_34 rfl ?_
        refine x_goto eX5_isFair_37 ?_
        exact ih hm
      · rw [if_neg c] at hm
        refine x_k eX5_isFair_32 ?_
        obtain rfl := Option.some.inj hm
        exact x_iret eX5_isFair_33 ⟨rfl, rfl⟩
set_option maxRecDepth 4000 in
theorem t_X5_isFair {o : Int32} {p1 : Int32} (hm : sp_X5_isFair p1 x_laws = some o) : xt_M yX5_isFair cX5_isFair 5 (some .int) (d + 3) [.ref 0, .int p1] (WX o_size o_year o_gone o_minds o_lasts r_size r_token r_place r_at r_open r_made t_size t_rule i_there i_rule i_size i_year i_gone i_minds i_lasts o_parent o_kind o_number o_odds o_above o_kidCount o_lead r_tape r_steps r_ends t_steps t_ends t_stack s_sort s_size s_items i_number i_odds x_prices x_facts x_laws x_clues) (xt_Ki o (WX o_size o_year o_gone o_minds o_lasts r_size r_token r_place r_at r_open r_made t_size t_rule i_there i_rule i_size i_year i_gone i_minds i_lasts o_parent o_kind o_number o_odds o_above o_kidCount o_lead r_tape r_steps r_ends t_steps t_ends t_stack s_sort s_size s_items i_number i_odds x_prices x_facts x_laws x_clues)) := by
  unfold sp_X5_isFair at hm
  refine xt_M.go (own := RX5) (lv := [some (.ref 0), some (.int p1), none, none, none]) rfl rfl (Nat.le_of_ble_eq_true rfl) rfl ?_
  refine x_iload1 eX5_isFair_0 ?_
  refine x_Si1 eX5_isFair_1 kJ6_bitCount_0f7a4 mX5_143 (t_J6_bitCount_0f7a4 rfl) (Nat.le_of_ble_eq_true rfl) ?_
  refine x_istore2 eX5_isFair_4 rfl ?_
  refine x_aload0 eX5_isFair_5 ?_
  refine x_iload1 eX5_isFair_6 ?_
  refine x_k eX5_isFair_7 ?_
  obtain ⟨r1, hr, hm⟩ := xo_bind hm
  refine x_Vi2 eX5_isFair_8 kX5_swings mX5_195 (t_X5_swings hr) rfl (Nat.le_of_ble_eq_true rfl) ?_
  refine x_istore3 eX5_isFair_11 rfl ?_
  refine x_k eX5_isFair_12 ?_
  refine x_istore4 eX5_isFair_13 rfl ?_
  exact l_X5_isFair_15 _ hm
set_option maxRecDepth 4000 in
theorem t_X5_counts {o : Int32 × (Nat → Int32) × (Nat → Int32) × (Nat → Int32)} {p1 : Int32} (hm : sp_X5_counts p1 o_size o_gone o_lasts o_parent o_kind o_number o_above o_kidCount o_lead x_laws = some o) : xt_M yX5_counts cX5_counts 3 (some .int) (d + 5) [.ref 0, .int p1] (WX o_size o_year o_gone o_minds o_lasts r_size r_token r_place r_at r_open r_made t_size t_rule i_there i_rule i_size i_year i_gone i_minds i_lasts o_parent o_kind o_number o_odds o_above o_kidCount o_lead r_tape r_steps r_ends t_steps t_ends t_stack s_sort s_size s_items i_number i_odds x_prices x_facts x_laws x_clues) (xt_Ki o.1 (WX o_size o_year o_gone o_minds o_lasts r_size r_token r_place r_at r_open r_made t_size t_rule i_there i_rule i_size i_year i_gone i_minds i_lasts o_parent o_kind o_number o_odds o_above o.2.1 o.2.2.1 r_tape r_steps r_ends t_steps t_ends t_stack s_sort s_size s_items i_number i_odds x_prices x_facts o.2.2.2 x_clues)) := by
  unfold sp_X5_counts at hm
  refine xt_M.go (own := RX5) (lv := [some (.ref 0), some (.int p1), none]) rfl rfl (Nat.le_of_ble_eq_true rfl) rfl ?_
  refine x_aload0 eX5_counts_0 ?_
  refine x_get eX5_counts_1 fX5_10 rfl rfl ?_
  refine x_aload0 eX5_counts_4 ?_
  refine x_get eX5_counts_5 fX5_10 rfl rfl ?_
  refine x_k eX5_counts_8 ?_
  obtain ⟨r1, hr, hm⟩ := xo_bind hm
  refine x_Vi1 eX5_counts_9 kX1_standing mX5_125 (t_X1_standing hr) rfl (Nat.le_of_ble_eq_true rfl) ?_
  obtain ⟨r2, hr, hm⟩ := xo_bind hm
  refine x_Vi1 eX5_counts_12 kX1_twigsOf mX5_134 (t_X1_twigsOf hr) rfl (Nat.le_of_ble_eq_true rfl) ?_
  refine x_istore2 eX5_counts_15 rfl ?_
  refine x_iload1 eX5_counts_16 ?_
  refine x_k eX5_counts_17 ?_
  refine x_icmp_ne eX5_counts_18 (fun c => ?_) (fun c => ?_)
  · rw [if_neg c] at hm
    refine x_aload0 eX5_counts_32 ?_
    refine x_get eX5_counts_33 fX5_10 rfl rfl ?_
    refine x_iload1 eX5_counts_36 ?_
    refine x_Vi1 eX5_counts_37 kX1_has mX5_96 (t_X1_has rfl) rfl (Nat.le_of_ble_eq_true rfl) ?_
    refine x_if_eq eX5_counts_40 (fun c => ?_) (fun c => ?_)
    · rw [if_pos c] at hm
      refine x_k eX5_counts_51 ?_
      obtain rfl := Option.some.inj hm
      exact x_iret eX5_counts_53 ⟨rfl, rfl⟩
    · rw [if_neg c] at hm
      refine x_iload2 eX5_counts_43 ?_
      refine x_iload1 eX5_counts_44 ?_
      refine x_Si2 eX5_counts_45 kX5_bit mX5_109 (t_X5_bit rfl) (Nat.le_of_ble_eq_true rfl) ?_
      refine x_if_ne eX5_counts_48 (fun c => ?_) (fun c => ?_)
      · rw [if_neg c] at hm
        refine x_aload0 eX5_counts_54 ?_
        refine x_iload2 eX5_counts_55 ?_
        obtain ⟨r3, hr, hm⟩ := xo_bind hm
        refine x_Vv1 eX5_counts_56 kX5_keepLaws mX5_188 (t_X5_keepLaws hr) rfl (Nat.le_of_ble_eq_true rfl) ?_
        refine x_aload0 eX5_counts_59 ?_
        refine x_iload2 eX5_counts_60 ?_
        refine x_iload2 eX5_counts_61 ?_
        refine x_k eX5_counts_62 ?_
        refine x_iload1 eX5_counts_63 ?_
        refine x_ishl eX5_counts_64 ?_
        refine x_k eX5_counts_65 ?_
        refine x_isub eX5_counts_66 ?_
        refine x_iand eX5_counts_67 ?_
        refine x_Si1 eX5_counts_68 kJ6_bitCount_0f7a4 mX5_143 (t_J6_bitCount_0f7a4 rfl) (Nat.le_of_ble_eq_true rfl) ?_
        obtain ⟨r4, hr, hm⟩ := xo_bind hm
        refine x_Vi2 eX5_counts_71 kX5_swings mX5_195 (t_X5_swings hr) rfl (Nat.le_of_ble_eq_true rfl) ?_
        obtain rfl := Option.some.inj hm
        exact x_iret eX5_counts_74 ⟨rfl, rfl⟩
      · rw [if_pos c] at hm
        refine x_k eX5_counts_51 ?_
        obtain rfl := Option.some.inj hm
        exact x_iret eX5_counts_53 ⟨rfl, rfl⟩
  · rw [if_pos c] at hm
    refine x_aload0 eX5_counts_21 ?_
    refine x_iload2 eX5_counts_22 ?_
    obtain ⟨r5, hr, hm⟩ := xo_bind hm
    refine x_Vv1 eX5_counts_23 kX5_keepLaws mX5_188 (t_X5_keepLaws hr) rfl (Nat.le_of_ble_eq_true rfl) ?_
    refine x_aload0 eX5_counts_26 ?_
    refine x_iload2 eX5_counts_27 ?_
    obtain ⟨r6, hr, hm⟩ := xo_bind hm
    refine x_Vi1 eX5_counts_28 kX5_isFair mX5_192 (t_X5_isFair hr) rfl (Nat.le_of_ble_eq_true rfl) ?_
    obtain rfl := Option.some.inj hm
    exact x_iret eX5_counts_31 ⟨rfl, rfl⟩
set_option maxRecDepth 4000 in
theorem l_X5_oddsOf_p24_5 {o : Int64} {u0 : Int32} {u1 : Int32} {x_prices : Nat → Int32} : ∀ (n : Nat) {u3 : Int64} {u5 : Int32}, sp_X5_oddsOf_p24_5 u0 u1 x_prices n u3 u5 = some o → xt_T RX5 cX5_oddsOf 6 (some .long) (d + 1) (xt_Kl o (WX o_size o_year o_gone o_minds o_lasts r_size r_token r_place r_at r_open r_made t_size t_rule i_there i_rule i_size i_year i_gone i_minds i_lasts o_parent o_kind o_number o_odds o_above o_kidCount o_lead r_tape r_steps r_ends t_steps t_ends t_stack s_sort s_size s_items i_number i_odds x_prices x_facts x_laws x_clues)) 5 [some (.int u0), some (.int u1), some (.ref 24), some (.long u3), none, some (.int u5)] [] (WX o_size o_year o_gone o_minds o_lasts r_size r_token r_place r_at r_open r_made t_size t_rule i_there i_rule i_size i_year i_gone i_minds i_lasts o_parent o_kind o_number o_odds o_above o_kidCount o_lead r_tape r_steps r_ends t_steps t_ends t_stack s_sort s_size s_items i_number i_odds x_prices x_facts x_laws x_clues) := by
  intro n
  induction n with
  | zero => intro u3 u5 hm; rw [sp_X5_oddsOf_p24_5] at hm; cases hm
  | succ n ih =>
    intro u3 u5 hm
    rw [sp_X5_oddsOf_p24_5] at hm
    refine x_iload5 eX5_oddsOf_5 ?_
    refine x_aload2 eX5_oddsOf_7 ?_
    refine x_alen (v := 12) eX5_oddsOf_8 rfl (by decide) ?_
    refine x_icmp_ge eX5_oddsOf_9 (fun c => ?_) (fun c => ?_)
    · rw [if_pos c] at hm
      refine x_lload3 eX5_oddsOf_57 ?_
      obtain rfl := Option.some.inj hm
      exact x_lret eX5_oddsOf_58 ⟨rfl, rfl⟩
    · rw [if_neg c] at hm
      refine x_iload1 eX5_oddsOf_12 ?_
      refine x_iload5 eX5_oddsOf_13 ?_
      refine x_Si2 eX5_oddsOf_15 kX5_bit mX5_109 (t_X5_bit rfl) (Nat.le_of_ble_eq_true rfl) ?_
      refine x_k eX5_oddsOf_18 ?_
      refine x_icmp_ne eX5_oddsOf_19 (fun c => ?_) (fun c => ?_)
      · rw [if_neg c] at hm
        refine x_iinc5 eX5_oddsOf_51 rfl ?_
        refine x_goto eX5_oddsOf_54 ?_
        exact ih hm
      · rw [if_pos c] at hm
        refine x_lload3 eX5_oddsOf_22 ?_
        refine x_iload0 eX5_oddsOf_23 ?_
        refine x_iload5 eX5_oddsOf_24 ?_
        refine x_Si2 eX5_oddsOf_26 kX5_bit mX5_109 (t_X5_bit rfl) (Nat.le_of_ble_eq_true rfl) ?_
        refine x_k eX5_oddsOf_29 ?_
        refine x_icmp_ne eX5_oddsOf_30 (fun c => ?_) (fun c => ?_)
        · rw [if_neg c] at hm
          refine x_k eX5_oddsOf_41 ?_
          refine x_aload2 eX5_oddsOf_43 ?_
          refine x_iload5 eX5_oddsOf_44 ?_
          obtain ⟨v1, hv, hm⟩ := xo_bind hm
          obtain ⟨hi, rfl⟩ := xo_at_some hv
          refine x_iaload eX5_oddsOf_46 rfl hi ?_
          refine x_isub eX5_oddsOf_47 ?_
          refine x_i2l eX5_oddsOf_48 ?_
          refine x_lmul eX5_oddsOf_49 ?_
          refine x_lstore3 eX5_oddsOf_50 rfl ?_
          refine x_iinc5 eX5_oddsOf_51 rfl ?_
          refine x_goto eX5_oddsOf_54 ?_
          exact ih hm
        · rw [if_pos c] at hm
          refine x_aload2 eX5_oddsOf_33 ?_
          refine x_iload5 eX5_oddsOf_34 ?_
          obtain ⟨v2, hv, hm⟩ := xo_bind hm
          obtain ⟨hi, rfl⟩ := xo_at_some hv
          refine x_iaload eX5_oddsOf_36 rfl hi ?_
          refine x_i2l eX5_oddsOf_37 ?_
          refine x_goto eX5_oddsOf_38 ?_
          refine x_lmul eX5_oddsOf_49 ?_
          refine x_lstore3 eX5_oddsOf_50 rfl ?_
          refine x_iinc5 eX5_oddsOf_51 rfl ?_
          refine x_goto eX5_oddsOf_54 ?_
          exact ih hm
set_option maxRecDepth 4000 in
theorem t_X5_oddsOf_p24 {o : Int64} {p1 : Int32} {p2 : Int32} (hm : sp_X5_oddsOf_p24 p1 p2 x_prices = some o) : xt_M yX5_oddsOf cX5_oddsOf 6 (some .long) (d + 1) [.int p1, .int p2, .ref 24] (WX o_size o_year o_gone o_minds o_lasts r_size r_token r_place r_at r_open r_made t_size t_rule i_there i_rule i_size i_year i_gone i_minds i_lasts o_parent o_kind o_number o_odds o_above o_kidCount o_lead r_tape r_steps r_ends t_steps t_ends t_stack s_sort s_size s_items i_number i_odds x_prices x_facts x_laws x_clues) (xt_Kl o (WX o_size o_year o_gone o_minds o_lasts r_size r_token r_place r_at r_open r_made t_size t_rule i_there i_rule i_size i_year i_gone i_minds i_lasts o_parent o_kind o_number o_odds o_above o_kidCount o_lead r_tape r_steps r_ends t_steps t_ends t_stack s_sort s_size s_items i_number i_odds x_prices x_facts x_laws x_clues)) := by
  unfold sp_X5_oddsOf_p24 at hm
  refine xt_M.go (own := RX5) (lv := [some (.int p1), some (.int p2), some (.ref 24), none, none, none]) rfl rfl (Nat.le_of_ble_eq_true rfl) rfl ?_
  refine x_lk eX5_oddsOf_0 ?_
  refine x_lstore3 eX5_oddsOf_1 rfl ?_
  refine x_k eX5_oddsOf_2 ?_
  refine x_istore5 eX5_oddsOf_3 rfl ?_
  exact l_X5_oddsOf_p24_5 _ hm
set_option maxRecDepth 4000 in
theorem t_X5_lawIfCut {o : Int32 × (Nat → Int32) × (Nat → Int32)} {p1 : Int32} (hm : sp_X5_lawIfCut p1 o_size o_gone o_minds o_lasts o_parent o_kind o_number o_above o_kidCount o_lead = some o) : xt_M yX5_lawIfCut cX5_lawIfCut 2 (some .int) (d + 4) [.ref 0, .int p1] (WX o_size o_year o_gone o_minds o_lasts r_size r_token r_place r_at r_open r_made t_size t_rule i_there i_rule i_size i_year i_gone i_minds i_lasts o_parent o_kind o_number o_odds o_above o_kidCount o_lead r_tape r_steps r_ends t_steps t_ends t_stack s_sort s_size s_items i_number i_odds x_prices x_facts x_laws x_clues) (xt_Ki o.1 (WX o_size o_year o_gone o_minds o_lasts r_size r_token r_place r_at r_open r_made t_size t_rule i_there i_rule i_size i_year i_gone i_minds i_lasts o_parent o_kind o_number o_odds o_above o.2.1 o.2.2 r_tape r_steps r_ends t_steps t_ends t_stack s_sort s_size s_items i_number i_odds x_prices x_facts x_laws x_clues)) := by
  unfold sp_X5_lawIfCut at hm
  refine xt_M.go (own := RX5) (lv := [some (.ref 0), some (.int p1)]) rfl rfl (Nat.le_of_ble_eq_true rfl) rfl ?_
  refine x_aload0 eX5_lawIfCut_0 ?_
  refine x_get eX5_lawIfCut_1 fX5_10 rfl rfl ?_
  refine x_aload0 eX5_lawIfCut_4 ?_
  refine x_get eX5_lawIfCut_5 fX5_10 rfl rfl ?_
  refine x_iload1 eX5_lawIfCut_8 ?_
  obtain ⟨r1, hr, hm⟩ := xo_bind hm
  refine x_Vi1 eX5_lawIfCut_9 kX1_standing mX5_125 (t_X1_standing hr) rfl (Nat.le_of_ble_eq_true rfl) ?_
  refine x_aload0 eX5_lawIfCut_12 ?_
  refine x_get eX5_lawIfCut_13 fX5_10 rfl rfl ?_
  refine x_get eX5_lawIfCut_16 fX5_105 rfl rfl ?_
  obtain ⟨r2, hr, hm⟩ := xo_bind hm
  refine x_Vi2 eX5_lawIfCut_19 kX1_vote mX5_137 (t_X1_vote hr) rfl (Nat.le_of_ble_eq_true rfl) ?_
  refine x_k eX5_lawIfCut_22 ?_
  refine x_Si2 eX5_lawIfCut_23 kX5_bit mX5_109 (t_X5_bit rfl) (Nat.le_of_ble_eq_true rfl) ?_
  obtain rfl := Option.some.inj hm
  exact x_iret eX5_lawIfCut_26 ⟨rfl, rfl⟩
set_option maxRecDepth 4000 in
theorem l_X5_stormOdds_14 {o : Int64 × (Nat → Int32) × (Nat → Int32)} {u1 : Int32} {u2 : Int32} {u3 : Int32} {o_size : Int32} {o_gone : Int32} {o_minds : Int32} {o_lasts : Int32} {o_parent : Nat → Int32} {o_kind : Nat → Int32} {o_number : Nat → Int32} {o_above : Nat → Int32} {x_prices : Nat → Int32} : ∀ (n : Nat) {u4 : Int64} {u6 : Int32} {u7 : Int32} {o_kidCount : Nat → Int32} {o_lead : Nat → Int32}, sp_X5_stormOdds_14 u1 u2 u3 o_size o_gone o_minds o_lasts o_parent o_kind o_number o_above x_prices n u4 u6 u7 o_kidCount o_lead = some o → xt_T RX5 cX5_stormOdds 10 (some .long) (d + 5) (xt_Kl o.1 (WX o_size o_year o_gone o_minds o_lasts r_size r_token r_place r_at r_open r_made t_size t_rule i_there i_rule i_size i_year i_gone i_minds i_lasts o_parent o_kind o_number o_odds o_above o.2.1 o.2.2 r_tape r_steps r_ends t_steps t_ends t_stack s_sort s_size s_items i_number i_odds x_prices x_facts x_laws x_clues)) 14 [some (.ref 0), some (.int u1), some (.int u2), some (.int u3), some (.long u4), none, some (.int u6), some (.int u7), none, none] [] (WX o_size o_year o_gone o_minds o_lasts r_size r_token r_place r_at r_open r_made t_size t_rule i_there i_rule i_size i_year i_gone i_minds i_lasts o_parent o_kind o_number o_odds o_above o_kidCount o_lead r_tape r_steps r_ends t_steps t_ends t_stack s_sort s_size s_items i_number i_odds x_prices x_facts x_laws x_clues) := by
  intro n
  induction n with
  | zero => intro u4 u6 u7 o_kidCount o_lead hm; rw [sp_X5_stormOdds_14] at hm; cases hm
  | succ n ih =>
    intro u4 u6 u7 o_kidCount o_lead hm
    rw [sp_X5_stormOdds_14] at hm
    refine x_iload7 eX5_stormOdds_14 ?_
    refine x_iload3 eX5_stormOdds_16 ?_
    refine x_icmp_ge eX5_stormOdds_17 (fun c => ?_) (fun c => ?_)
    · rw [if_pos c] at hm
      refine x_lload4 eX5_stormOdds_70 ?_
      obtain rfl := Option.some.inj hm
      exact x_lret eX5_stormOdds_72 ⟨rfl, rfl⟩
    · rw [if_neg c] at hm
      refine x_iload6 eX5_stormOdds_20 ?_
      refine x_iload1 eX5_stormOdds_22 ?_
      refine x_aload0 eX5_stormOdds_23 ?_
      refine x_get eX5_stormOdds_24 fX5_44 rfl rfl ?_
      obtain ⟨r1, hr, hm⟩ := xo_bind hm
      refine x_Sl3 eX5_stormOdds_27 kX5_oddsOf mX5_295 (t_X5_oddsOf_p24 hr) (Nat.le_of_ble_eq_true rfl) ?_
      refine x_lstore8 eX5_stormOdds_30 rfl ?_
      refine x_lload8 eX5_stormOdds_32 ?_
      refine x_lk eX5_stormOdds_34 ?_
      refine x_lcmp eX5_stormOdds_35 ?_
      refine x_if_le eX5_stormOdds_36 (fun c => ?_) (fun c => ?_)
      · rw [if_pos c] at hm
        refine x_iload6 eX5_stormOdds_56 ?_
        refine x_iload1 eX5_stormOdds_58 ?_
        refine x_Si2 eX5_stormOdds_59 kX5_nextSet mX5_185 (t_X5_nextSet rfl) (Nat.le_of_ble_eq_true rfl) ?_
        refine x_istore6 eX5_stormOdds_62 rfl ?_
        refine x_iinc7 eX5_stormOdds_64 rfl ?_
        refine x_goto eX5_stormOdds_67 ?_
        exact x_weak (by simp [xt_le]) (ih hm)
      · rw [if_neg c] at hm
        refine x_aload0 eX5_stormOdds_39 ?_
        refine x_iload6 eX5_stormOdds_40 ?_
        obtain ⟨r2, hr, hm⟩ := xo_bind hm
        refine x_Vi1 eX5_stormOdds_42 kX5_lawIfCut mX5_299 (t_X5_lawIfCut hr) rfl (Nat.le_of_ble_eq_true rfl) ?_
        refine x_iload2 eX5_stormOdds_45 ?_
        refine x_icmp_ne eX5_stormOdds_46 (fun c => ?_) (fun c => ?_)
        · rw [if_neg c] at hm
          refine x_iload6 eX5_stormOdds_56 ?_
          refine x_iload1 eX5_stormOdds_58 ?_
          refine x_Si2 eX5_stormOdds_59 kX5_nextSet mX5_185 (t_X5_nextSet rfl) (Nat.le_of_ble_eq_true rfl) ?_
          refine x_istore6 eX5_stormOdds_62 rfl ?_
          refine x_iinc7 eX5_stormOdds_64 rfl ?_
          refine x_goto eX5_stormOdds_67 ?_
          exact x_weak (by simp [xt_le]) (ih hm)
        · rw [if_pos c] at hm
          refine x_lload4 eX5_stormOdds_49 ?_
          refine x_lload8 eX5_stormOdds_51 ?_
          refine x_ladd eX5_stormOdds_53 ?_
          refine x_lstore4 eX5_stormOdds_54 rfl ?_
          refine x_iload6 eX5_stormOdds_56 ?_
          refine x_iload1 eX5_stormOdds_58 ?_
          refine x_Si2 eX5_stormOdds_59 kX5_nextSet mX5_185 (t_X5_nextSet rfl) (Nat.le_of_ble_eq_true rfl) ?_
          refine x_istore6 eX5_stormOdds_62 rfl ?_
          refine x_iinc7 eX5_stormOdds_64 rfl ?_
          refine x_goto eX5_stormOdds_67 ?_
          exact x_weak (by simp [xt_le]) (ih hm)
set_option maxRecDepth 4000 in
theorem t_X5_stormOdds {o : Int64 × (Nat → Int32) × (Nat → Int32)} {p1 : Int32} {p2 : Int32} (hm : sp_X5_stormOdds p1 p2 o_size o_gone o_minds o_lasts o_parent o_kind o_number o_above o_kidCount o_lead x_prices = some o) : xt_M yX5_stormOdds cX5_stormOdds 10 (some .long) (d + 5) [.ref 0, .int p1, .int p2] (WX o_size o_year o_gone o_minds o_lasts r_size r_token r_place r_at r_open r_made t_size t_rule i_there i_rule i_size i_year i_gone i_minds i_lasts o_parent o_kind o_number o_odds o_above o_kidCount o_lead r_tape r_steps r_ends t_steps t_ends t_stack s_sort s_size s_items i_number i_odds x_prices x_facts x_laws x_clues) (xt_Kl o.1 (WX o_size o_year o_gone o_minds o_lasts r_size r_token r_place r_at r_open r_made t_size t_rule i_there i_rule i_size i_year i_gone i_minds i_lasts o_parent o_kind o_number o_odds o_above o.2.1 o.2.2 r_tape r_steps r_ends t_steps t_ends t_stack s_sort s_size s_items i_number i_odds x_prices x_facts x_laws x_clues)) := by
  unfold sp_X5_stormOdds at hm
  refine xt_M.go (own := RX5) (lv := [some (.ref 0), some (.int p1), some (.int p2), none, none, none, none, none, none, none]) rfl rfl (Nat.le_of_ble_eq_true rfl) rfl ?_
  refine x_iload1 eX5_stormOdds_0 ?_
  refine x_Si1 eX5_stormOdds_1 kX5_waysOf mX5_179 (t_X5_waysOf rfl) (Nat.le_of_ble_eq_true rfl) ?_
  refine x_istore3 eX5_stormOdds_4 rfl ?_
  refine x_lk eX5_stormOdds_5 ?_
  refine x_lstore4 eX5_stormOdds_6 rfl ?_
  refine x_k eX5_stormOdds_8 ?_
  refine x_istore6 eX5_stormOdds_9 rfl ?_
  refine x_k eX5_stormOdds_11 ?_
  refine x_istore7 eX5_stormOdds_12 rfl ?_
  exact l_X5_stormOdds_14 _ hm
set_option maxRecDepth 4000 in
theorem l_X5_hundreds_10 {o : Int64} {u3 : Int32} {u0 : Int32} : ∀ (n : Nat) {u1 : Int64} {u4 : Int32}, sp_X5_hundreds_10 u3 n u1 u4 = some o → xt_T RX5 cX5_hundreds 5 (some .long) (d + 1) (xt_Kl o (WX o_size o_year o_gone o_minds o_lasts r_size r_token r_place r_at r_open r_made t_size t_rule i_there i_rule i_size i_year i_gone i_minds i_lasts o_parent o_kind o_number o_odds o_above o_kidCount o_lead r_tape r_steps r_ends t_steps t_ends t_stack s_sort s_size s_items i_number i_odds x_prices x_facts x_laws x_clues)) 10 [some (.int u0), some (.long u1), none, some (.int u3), some (.int u4)] [] (WX o_size o_year o_gone o_minds o_lasts r_size r_token r_place r_at r_open r_made t_size t_rule i_there i_rule i_size i_year i_gone i_minds i_lasts o_parent o_kind o_number o_odds o_above o_kidCount o_lead r_tape r_steps r_ends t_steps t_ends t_stack s_sort s_size s_items i_number i_odds x_prices x_facts x_laws x_clues) := by
  intro n
  induction n with
  | zero => intro u1 u4 hm; rw [sp_X5_hundreds_10] at hm; cases hm
  | succ n ih =>
    intro u1 u4 hm
    rw [sp_X5_hundreds_10] at hm
    refine x_iload4 eX5_hundreds_10 ?_
    refine x_iload3 eX5_hundreds_12 ?_
    refine x_icmp_ge eX5_hundreds_13 (fun c => ?_) (fun c => ?_)
    · rw [if_pos c] at hm
      refine x_lload1 eX5_hundreds_28 ?_
      obtain rfl := Option.some.inj hm
      exact x_lret eX5_hundreds_29 ⟨rfl, rfl⟩
    · rw [if_neg c] at hm
      refine x_lload1 eX5_hundreds_16 ?_
      refine x_ldc2 eX5_hundreds_17 cX5_293 ?_
      refine x_lmul eX5_hundreds_20 ?_
      refine x_lstore1 eX5_hundreds_21 rfl ?_
      refine x_iinc4 eX5_hundreds_22 rfl ?_
      refine x_goto eX5_hundreds_25 ?_
      exact ih hm
set_option maxRecDepth 4000 in
theorem t_X5_hundreds {o : Int64} {p1 : Int32} (hm : sp_X5_hundreds p1 = some o) : xt_M yX5_hundreds cX5_hundreds 5 (some .long) (d + 1) [.int p1] (WX o_size o_year o_gone o_minds o_lasts r_size r_token r_place r_at r_open r_made t_size t_rule i_there i_rule i_size i_year i_gone i_minds i_lasts o_parent o_kind o_number o_odds o_above o_kidCount o_lead r_tape r_steps r_ends t_steps t_ends t_stack s_sort s_size s_items i_number i_odds x_prices x_facts x_laws x_clues) (xt_Kl o (WX o_size o_year o_gone o_minds o_lasts r_size r_token r_place r_at r_open r_made t_size t_rule i_there i_rule i_size i_year i_gone i_minds i_lasts o_parent o_kind o_number o_odds o_above o_kidCount o_lead r_tape r_steps r_ends t_steps t_ends t_stack s_sort s_size s_items i_number i_odds x_prices x_facts x_laws x_clues)) := by
  unfold sp_X5_hundreds at hm
  refine xt_M.go (own := RX5) (lv := [some (.int p1), none, none, none, none]) rfl rfl (Nat.le_of_ble_eq_true rfl) rfl ?_
  refine x_lk eX5_hundreds_0 ?_
  refine x_lstore1 eX5_hundreds_1 rfl ?_
  refine x_iload0 eX5_hundreds_2 ?_
  refine x_Si1 eX5_hundreds_3 kJ6_bitCount_0f7a4 mX5_143 (t_J6_bitCount_0f7a4 rfl) (Nat.le_of_ble_eq_true rfl) ?_
  refine x_istore3 eX5_hundreds_6 rfl ?_
  refine x_k eX5_hundreds_7 ?_
  refine x_istore4 eX5_hundreds_8 rfl ?_
  exact l_X5_hundreds_10 _ hm
set_option maxRecDepth 4000 in
theorem l_X5_divisorOf_3 {o : Int64} : ∀ (n : Nat) {u0 : Int64} {u2 : Int64} {u4 : Int32}, sp_X5_divisorOf_3 n u0 u2 u4 = some o → xt_T RX5 cX5_divisorOf 7 (some .long) (d + 0) (xt_Kl o (WX o_size o_year o_gone o_minds o_lasts r_size r_token r_place r_at r_open r_made t_size t_rule i_there i_rule i_size i_year i_gone i_minds i_lasts o_parent o_kind o_number o_odds o_above o_kidCount o_lead r_tape r_steps r_ends t_steps t_ends t_stack s_sort s_size s_items i_number i_odds x_prices x_facts x_laws x_clues)) 3 [some (.long u0), none, some (.long u2), none, some (.int u4), none, none] [] (WX o_size o_year o_gone o_minds o_lasts r_size r_token r_place r_at r_open r_made t_size t_rule i_there i_rule i_size i_year i_gone i_minds i_lasts o_parent o_kind o_number o_odds o_above o_kidCount o_lead r_tape r_steps r_ends t_steps t_ends t_stack s_sort s_size s_items i_number i_odds x_prices x_facts x_laws x_clues) := by
  intro n
  induction n with
  | zero => intro u0 u2 u4 hm; rw [sp_X5_divisorOf_3] at hm; cases hm
  | succ n ih =>
    intro u0 u2 u4 hm
    rw [sp_X5_divisorOf_3] at hm
    refine x_iload4 eX5_divisorOf_3 ?_
    refine x_k eX5_divisorOf_5 ?_
    refine x_icmp_ge eX5_divisorOf_8 (fun c => ?_) (fun c => ?_)
    · rw [if_pos c] at hm
      refine x_lload0 eX5_divisorOf_33 ?_
      obtain rfl := Option.some.inj hm
      exact x_lret eX5_divisorOf_34 ⟨rfl, rfl⟩
    · rw [if_neg c] at hm
      refine x_lload2 eX5_divisorOf_11 ?_
      refine x_lk eX5_divisorOf_12 ?_
      refine x_lcmp eX5_divisorOf_13 ?_
      refine x_if_eq eX5_divisorOf_14 (fun c => ?_) (fun c => ?_)
      · rw [if_pos c] at hm
        refine x_lload0 eX5_divisorOf_33 ?_
        obtain rfl := Option.some.inj hm
        exact x_lret eX5_divisorOf_34 ⟨rfl, rfl⟩
      · rw [if_neg c] at hm
        refine x_lload0 eX5_divisorOf_17 ?_
        refine x_lload2 eX5_divisorOf_18 ?_
        obtain ⟨hz, hm⟩ := xo_ifn hm
        refine x_lrem eX5_divisorOf_19 hz ?_
        refine x_lstore5 eX5_divisorOf_20 rfl ?_
        refine x_lload2 eX5_divisorOf_22 ?_
        refine x_lstore0 eX5_divisorOf_23 ?_
        refine x_lload5 eX5_divisorOf_24 ?_
        refine x_lstore2 eX5_divisorOf_26 rfl ?_
        refine x_iinc4 eX5_divisorOf_27 rfl ?_
        refine x_goto eX5_divisorOf_30 ?_
        exact x_weak (by simp [xt_le]) (ih hm)
set_option maxRecDepth 4000 in
theorem t_X5_divisorOf {o : Int64} {p1 : Int64} {p2 : Int64} (hm : sp_X5_divisorOf p1 p2 = some o) : xt_M yX5_divisorOf cX5_divisorOf 7 (some .long) (d + 0) [.long p1, .long p2] (WX o_size o_year o_gone o_minds o_lasts r_size r_token r_place r_at r_open r_made t_size t_rule i_there i_rule i_size i_year i_gone i_minds i_lasts o_parent o_kind o_number o_odds o_above o_kidCount o_lead r_tape r_steps r_ends t_steps t_ends t_stack s_sort s_size s_items i_number i_odds x_prices x_facts x_laws x_clues) (xt_Kl o (WX o_size o_year o_gone o_minds o_lasts r_size r_token r_place r_at r_open r_made t_size t_rule i_there i_rule i_size i_year i_gone i_minds i_lasts o_parent o_kind o_number o_odds o_above o_kidCount o_lead r_tape r_steps r_ends t_steps t_ends t_stack s_sort s_size s_items i_number i_odds x_prices x_facts x_laws x_clues)) := by
  unfold sp_X5_divisorOf at hm
  refine xt_M.go (own := RX5) (lv := [some (.long p1), none, some (.long p2), none, none, none, none]) rfl rfl (Nat.le_of_ble_eq_true rfl) rfl ?_
  refine x_k eX5_divisorOf_0 ?_
  refine x_istore4 eX5_divisorOf_1 rfl ?_
  exact l_X5_divisorOf_3 _ hm
set_option maxRecDepth 4000 in
theorem t_X5_lowest {o : Int64} {p1 : Int64} {p2 : Int64} {p3 : Int32} (hm : sp_X5_lowest p1 p2 p3 = some o) : xt_M yX5_lowest cX5_lowest 7 (some .long) (d + 1) [.long p1, .long p2, .int p3] (WX o_size o_year o_gone o_minds o_lasts r_size r_token r_place r_at r_open r_made t_size t_rule i_there i_rule i_size i_year i_gone i_minds i_lasts o_parent o_kind o_number o_odds o_above o_kidCount o_lead r_tape r_steps r_ends t_steps t_ends t_stack s_sort s_size s_items i_number i_odds x_prices x_facts x_laws x_clues) (xt_Kl o (WX o_size o_year o_gone o_minds o_lasts r_size r_token r_place r_at r_open r_made t_size t_rule i_there i_rule i_size i_year i_gone i_minds i_lasts o_parent o_kind o_number o_odds o_above o_kidCount o_lead r_tape r_steps r_ends t_steps t_ends t_stack s_sort s_size s_items i_number i_odds x_prices x_facts x_laws x_clues)) := by
  unfold sp_X5_lowest at hm
  refine xt_M.go (own := RX5) (lv := [some (.long p1), none, some (.long p2), none, some (.int p3), none, none]) rfl rfl (Nat.le_of_ble_eq_true rfl) rfl ?_
  refine x_lload0 eX5_lowest_0 ?_
  refine x_lload2 eX5_lowest_1 ?_
  obtain ⟨r1, hr, hm⟩ := xo_bind hm
  refine x_Sl2 eX5_lowest_2 kX5_divisorOf mX5_302 (t_X5_divisorOf hr) (Nat.le_of_ble_eq_true rfl) ?_
  refine x_lstore5 eX5_lowest_5 rfl ?_
  refine x_lload5 eX5_lowest_7 ?_
  refine x_lk eX5_lowest_9 ?_
  refine x_lcmp eX5_lowest_10 ?_
  refine x_if_gt eX5_lowest_11 (fun c => ?_) (fun c => ?_)
  · rw [if_pos c] at hm
    refine x_iload4 eX5_lowest_18 ?_
    refine x_if_ne eX5_lowest_20 (fun c => ?_) (fun c => ?_)
    · rw [if_neg c] at hm
      refine x_lload2 eX5_lowest_30 ?_
      refine x_lload5 eX5_lowest_31 ?_
      obtain ⟨hz, hm⟩ := xo_ifn hm
      refine x_ldiv eX5_lowest_33 hz ?_
      obtain rfl := Option.some.inj hm
      exact x_lret eX5_lowest_34 ⟨rfl, rfl⟩
    · rw [if_pos c] at hm
      refine x_lload0 eX5_lowest_23 ?_
      refine x_lload5 eX5_lowest_24 ?_
      obtain ⟨hz, hm⟩ := xo_ifn hm
      refine x_ldiv eX5_lowest_26 hz ?_
      refine x_goto eX5_lowest_27 ?_
      obtain rfl := Option.some.inj hm
      exact x_lret eX5_lowest_34 ⟨rfl, rfl⟩
  · rw [if_neg c] at hm
    refine x_ldc2 eX5_lowest_14 cX5_198 ?_
    obtain rfl := Option.some.inj hm
    exact x_lret eX5_lowest_17 ⟨rfl, rfl⟩
set_option maxRecDepth 4000 in
theorem l_X5_oddsOf_p5_5 {o : Int64} {u0 : Int32} {u1 : Int32} {o_odds : Nat → Int32} : ∀ (n : Nat) {u3 : Int64} {u5 : Int32}, sp_X5_oddsOf_p5_5 u0 u1 o_odds n u3 u5 = some o → xt_T RX5 cX5_oddsOf 6 (some .long) (d + 1) (xt_Kl o (WX o_size o_year o_gone o_minds o_lasts r_size r_token r_place r_at r_open r_made t_size t_rule i_there i_rule i_size i_year i_gone i_minds i_lasts o_parent o_kind o_number o_odds o_above o_kidCount o_lead r_tape r_steps r_ends t_steps t_ends t_stack s_sort s_size s_items i_number i_odds x_prices x_facts x_laws x_clues)) 5 [some (.int u0), some (.int u1), some (.ref 5), some (.long u3), none, some (.int u5)] [] (WX o_size o_year o_gone o_minds o_lasts r_size r_token r_place r_at r_open r_made t_size t_rule i_there i_rule i_size i_year i_gone i_minds i_lasts o_parent o_kind o_number o_odds o_above o_kidCount o_lead r_tape r_steps r_ends t_steps t_ends t_stack s_sort s_size s_items i_number i_odds x_prices x_facts x_laws x_clues) := by
  intro n
  induction n with
  | zero => intro u3 u5 hm; rw [sp_X5_oddsOf_p5_5] at hm; cases hm
  | succ n ih =>
    intro u3 u5 hm
    rw [sp_X5_oddsOf_p5_5] at hm
    refine x_iload5 eX5_oddsOf_5 ?_
    refine x_aload2 eX5_oddsOf_7 ?_
    refine x_alen (v := 12) eX5_oddsOf_8 rfl (by decide) ?_
    refine x_icmp_ge eX5_oddsOf_9 (fun c => ?_) (fun c => ?_)
    · rw [if_pos c] at hm
      refine x_lload3 eX5_oddsOf_57 ?_
      obtain rfl := Option.some.inj hm
      exact x_lret eX5_oddsOf_58 ⟨rfl, rfl⟩
    · rw [if_neg c] at hm
      refine x_iload1 eX5_oddsOf_12 ?_
      refine x_iload5 eX5_oddsOf_13 ?_
      refine x_Si2 eX5_oddsOf_15 kX5_bit mX5_109 (t_X5_bit rfl) (Nat.le_of_ble_eq_true rfl) ?_
      refine x_k eX5_oddsOf_18 ?_
      refine x_icmp_ne eX5_oddsOf_19 (fun c => ?_) (fun c => ?_)
      · rw [if_neg c] at hm
        refine x_iinc5 eX5_oddsOf_51 rfl ?_
        refine x_goto eX5_oddsOf_54 ?_
        exact ih hm
      · rw [if_pos c] at hm
        refine x_lload3 eX5_oddsOf_22 ?_
        refine x_iload0 eX5_oddsOf_23 ?_
        refine x_iload5 eX5_oddsOf_24 ?_
        refine x_Si2 eX5_oddsOf_26 kX5_bit mX5_109 (t_X5_bit rfl) (Nat.le_of_ble_eq_true rfl) ?_
        refine x_k eX5_oddsOf_29 ?_
        refine x_icmp_ne eX5_oddsOf_30 (fun c => ?_) (fun c => ?_)
        · rw [if_neg c] at hm
          refine x_k eX5_oddsOf_41 ?_
          refine x_aload2 eX5_oddsOf_43 ?_
          refine x_iload5 eX5_oddsOf_44 ?_
          obtain ⟨v1, hv, hm⟩ := xo_bind hm
          obtain ⟨hi, rfl⟩ := xo_at_some hv
          refine x_iaload eX5_oddsOf_46 rfl hi ?_
          refine x_isub eX5_oddsOf_47 ?_
          refine x_i2l eX5_oddsOf_48 ?_
          refine x_lmul eX5_oddsOf_49 ?_
          refine x_lstore3 eX5_oddsOf_50 rfl ?_
          refine x_iinc5 eX5_oddsOf_51 rfl ?_
          refine x_goto eX5_oddsOf_54 ?_
          exact ih hm
        · rw [if_pos c] at hm
          refine x_aload2 eX5_oddsOf_33 ?_
          refine x_iload5 eX5_oddsOf_34 ?_
          obtain ⟨v2, hv, hm⟩ := xo_bind hm
          obtain ⟨hi, rfl⟩ := xo_at_some hv
          refine x_iaload eX5_oddsOf_36 rfl hi ?_
          refine x_i2l eX5_oddsOf_37 ?_
          refine x_goto eX5_oddsOf_38 ?_
          refine x_lmul eX5_oddsOf_49 ?_
          refine x_lstore3 eX5_oddsOf_50 rfl ?_
          refine x_iinc5 eX5_oddsOf_51 rfl ?_
          refine x_goto eX5_oddsOf_54 ?_
          exact ih hm
set_option maxRecDepth 4000 in
theorem t_X5_oddsOf_p5 {o : Int64} {p1 : Int32} {p2 : Int32} (hm : sp_X5_oddsOf_p5 p1 p2 o_odds = some o) : xt_M yX5_oddsOf cX5_oddsOf 6 (some .long) (d + 1) [.int p1, .int p2, .ref 5] (WX o_size o_year o_gone o_minds o_lasts r_size r_token r_place r_at r_open r_made t_size t_rule i_there i_rule i_size i_year i_gone i_minds i_lasts o_parent o_kind o_number o_odds o_above o_kidCount o_lead r_tape r_steps r_ends t_steps t_ends t_stack s_sort s_size s_items i_number i_odds x_prices x_facts x_laws x_clues) (xt_Kl o (WX o_size o_year o_gone o_minds o_lasts r_size r_token r_place r_at r_open r_made t_size t_rule i_there i_rule i_size i_year i_gone i_minds i_lasts o_parent o_kind o_number o_odds o_above o_kidCount o_lead r_tape r_steps r_ends t_steps t_ends t_stack s_sort s_size s_items i_number i_odds x_prices x_facts x_laws x_clues)) := by
  unfold sp_X5_oddsOf_p5 at hm
  refine xt_M.go (own := RX5) (lv := [some (.int p1), some (.int p2), some (.ref 5), none, none, none]) rfl rfl (Nat.le_of_ble_eq_true rfl) rfl ?_
  refine x_lk eX5_oddsOf_0 ?_
  refine x_lstore3 eX5_oddsOf_1 rfl ?_
  refine x_k eX5_oddsOf_2 ?_
  refine x_istore5 eX5_oddsOf_3 rfl ?_
  exact l_X5_oddsOf_p5_5 _ hm
set_option maxRecDepth 4000 in
theorem l_X5_mindOdds_14 {o : Int64 × (Nat → Int32) × (Nat → Int32)} {u1 : Int32} {u2 : Int32} {u3 : Int32} {o_size : Int32} {o_lasts : Int32} {o_parent : Nat → Int32} {o_kind : Nat → Int32} {o_number : Nat → Int32} {o_odds : Nat → Int32} : ∀ (n : Nat) {u4 : Int64} {u6 : Int32} {u7 : Int32} {o_kidCount : Nat → Int32} {o_lead : Nat → Int32}, sp_X5_mindOdds_14 u1 u2 u3 o_size o_lasts o_parent o_kind o_number o_odds n u4 u6 u7 o_kidCount o_lead = some o → xt_T RX5 cX5_mindOdds 8 (some .long) (d + 4) (xt_Kl o.1 (WX o_size o_year o_gone o_minds o_lasts r_size r_token r_place r_at r_open r_made t_size t_rule i_there i_rule i_size i_year i_gone i_minds i_lasts o_parent o_kind o_number o_odds o_above o.2.1 o.2.2 r_tape r_steps r_ends t_steps t_ends t_stack s_sort s_size s_items i_number i_odds x_prices x_facts x_laws x_clues)) 14 [some (.ref 0), some (.int u1), some (.int u2), some (.int u3), some (.long u4), none, some (.int u6), some (.int u7)] [] (WX o_size o_year o_gone o_minds o_lasts r_size r_token r_place r_at r_open r_made t_size t_rule i_there i_rule i_size i_year i_gone i_minds i_lasts o_parent o_kind o_number o_odds o_above o_kidCount o_lead r_tape r_steps r_ends t_steps t_ends t_stack s_sort s_size s_items i_number i_odds x_prices x_facts x_laws x_clues) := by
  intro n
  induction n with
  | zero => intro u4 u6 u7 o_kidCount o_lead hm; rw [sp_X5_mindOdds_14] at hm; cases hm
  | succ n ih =>
    intro u4 u6 u7 o_kidCount o_lead hm
    rw [sp_X5_mindOdds_14] at hm
    refine x_iload7 eX5_mindOdds_14 ?_
    refine x_iload3 eX5_mindOdds_16 ?_
    refine x_icmp_ge eX5_mindOdds_17 (fun c => ?_) (fun c => ?_)
    · rw [if_pos c] at hm
      refine x_lload4 eX5_mindOdds_70 ?_
      obtain rfl := Option.some.inj hm
      exact x_lret eX5_mindOdds_72 ⟨rfl, rfl⟩
    · rw [if_neg c] at hm
      refine x_aload0 eX5_mindOdds_20 ?_
      refine x_get eX5_mindOdds_21 fX5_10 rfl rfl ?_
      refine x_iload1 eX5_mindOdds_24 ?_
      refine x_iload6 eX5_mindOdds_25 ?_
      obtain ⟨r1, hr, hm⟩ := xo_bind hm
      refine x_Vi2 eX5_mindOdds_27 kX1_vote mX5_137 (t_X1_vote hr) rfl (Nat.le_of_ble_eq_true rfl) ?_
      refine x_k eX5_mindOdds_30 ?_
      refine x_Si2 eX5_mindOdds_31 kX5_bit mX5_109 (t_X5_bit rfl) (Nat.le_of_ble_eq_true rfl) ?_
      refine x_k eX5_mindOdds_34 ?_
      refine x_icmp_ne eX5_mindOdds_35 (fun c => ?_) (fun c => ?_)
      · rw [if_neg c] at hm
        refine x_iload6 eX5_mindOdds_56 ?_
        refine x_iload2 eX5_mindOdds_58 ?_
        refine x_Si2 eX5_mindOdds_59 kX5_nextSet mX5_185 (t_X5_nextSet rfl) (Nat.le_of_ble_eq_true rfl) ?_
        refine x_istore6 eX5_mindOdds_62 rfl ?_
        refine x_iinc7 eX5_mindOdds_64 rfl ?_
        refine x_goto eX5_mindOdds_67 ?_
        exact ih hm
      · rw [if_pos c] at hm
        refine x_lload4 eX5_mindOdds_38 ?_
        refine x_iload6 eX5_mindOdds_40 ?_
        refine x_iload2 eX5_mindOdds_42 ?_
        refine x_aload0 eX5_mindOdds_43 ?_
        refine x_get eX5_mindOdds_44 fX5_10 rfl rfl ?_
        refine x_get eX5_mindOdds_47 fX5_116 rfl rfl ?_
        obtain ⟨r2, hr, hm⟩ := xo_bind hm
        refine x_Sl3 eX5_mindOdds_50 kX5_oddsOf mX5_295 (t_X5_oddsOf_p5 hr) (Nat.le_of_ble_eq_true rfl) ?_
        refine x_ladd eX5_mindOdds_53 ?_
        refine x_lstore4 eX5_mindOdds_54 rfl ?_
        refine x_iload6 eX5_mindOdds_56 ?_
        refine x_iload2 eX5_mindOdds_58 ?_
        refine x_Si2 eX5_mindOdds_59 kX5_nextSet mX5_185 (t_X5_nextSet rfl) (Nat.le_of_ble_eq_true rfl) ?_
        refine x_istore6 eX5_mindOdds_62 rfl ?_
        refine x_iinc7 eX5_mindOdds_64 rfl ?_
        refine x_goto eX5_mindOdds_67 ?_
        exact ih hm
set_option maxRecDepth 4000 in
theorem t_X5_mindOdds {o : Int64 × (Nat → Int32) × (Nat → Int32)} {p1 : Int32} {p2 : Int32} (hm : sp_X5_mindOdds p1 p2 o_size o_lasts o_parent o_kind o_number o_odds o_kidCount o_lead = some o) : xt_M yX5_mindOdds cX5_mindOdds 8 (some .long) (d + 4) [.ref 0, .int p1, .int p2] (WX o_size o_year o_gone o_minds o_lasts r_size r_token r_place r_at r_open r_made t_size t_rule i_there i_rule i_size i_year i_gone i_minds i_lasts o_parent o_kind o_number o_odds o_above o_kidCount o_lead r_tape r_steps r_ends t_steps t_ends t_stack s_sort s_size s_items i_number i_odds x_prices x_facts x_laws x_clues) (xt_Kl o.1 (WX o_size o_year o_gone o_minds o_lasts r_size r_token r_place r_at r_open r_made t_size t_rule i_there i_rule i_size i_year i_gone i_minds i_lasts o_parent o_kind o_number o_odds o_above o.2.1 o.2.2 r_tape r_steps r_ends t_steps t_ends t_stack s_sort s_size s_items i_number i_odds x_prices x_facts x_laws x_clues)) := by
  unfold sp_X5_mindOdds at hm
  refine xt_M.go (own := RX5) (lv := [some (.ref 0), some (.int p1), some (.int p2), none, none, none, none, none]) rfl rfl (Nat.le_of_ble_eq_true rfl) rfl ?_
  refine x_iload2 eX5_mindOdds_0 ?_
  refine x_Si1 eX5_mindOdds_1 kX5_waysOf mX5_179 (t_X5_waysOf rfl) (Nat.le_of_ble_eq_true rfl) ?_
  refine x_istore3 eX5_mindOdds_4 rfl ?_
  refine x_lk eX5_mindOdds_5 ?_
  refine x_lstore4 eX5_mindOdds_6 rfl ?_
  refine x_k eX5_mindOdds_8 ?_
  refine x_istore6 eX5_mindOdds_9 rfl ?_
  refine x_k eX5_mindOdds_11 ?_
  refine x_istore7 eX5_mindOdds_12 rfl ?_
  exact l_X5_mindOdds_14 _ hm
set_option maxRecDepth 4000 in
theorem t_X5_sure {o : Int64 × (Nat → Int32) × (Nat → Int32) × (Nat → Int32) × (Nat → Int32) × (Nat → Int32)} {p1 : Int32} {p2 : Int32} (hm : sp_X5_sure p1 p2 o_size o_year o_gone o_minds o_lasts t_rule o_parent o_kind o_number o_odds o_above o_kidCount o_lead t_steps t_ends t_stack x_prices x_facts = some o) : xt_M yX5_sure cX5_sure 5 (some .long) (d + 6) [.ref 0, .int p1, .int p2] (WX o_size o_year o_gone o_minds o_lasts r_size r_token r_place r_at r_open r_made t_size t_rule i_there i_rule i_size i_year i_gone i_minds i_lasts o_parent o_kind o_number o_odds o_above o_kidCount o_lead r_tape r_steps r_ends t_steps t_ends t_stack s_sort s_size s_items i_number i_odds x_prices x_facts x_laws x_clues) (xt_Kl o.1 (WX o_size o_year o_gone o_minds o_lasts r_size r_token r_place r_at r_open r_made t_size t_rule i_there i_rule i_size i_year i_gone i_minds i_lasts o_parent o_kind o_number o_odds o_above o.2.1 o.2.2.1 r_tape r_steps r_ends t_steps t_ends o.2.2.2.1 s_sort s_size s_items i_number i_odds o.2.2.2.2.1 o.2.2.2.2.2 x_laws x_clues)) := by
  unfold sp_X5_sure at hm
  refine xt_M.go (own := RX5) (lv := [some (.ref 0), some (.int p1), some (.int p2), none, none]) rfl rfl (Nat.le_of_ble_eq_true rfl) rfl ?_
  refine x_iload1 eX5_sure_0 ?_
  refine x_k eX5_sure_1 ?_
  refine x_k eX5_sure_2 ?_
  refine x_Si3 eX5_sure_3 kX5_isIn mX5_88 (t_X5_isIn rfl) (Nat.le_of_ble_eq_true rfl) ?_
  refine x_if_eq eX5_sure_6 (fun c => ?_) (fun c => ?_)
  · rw [if_pos c] at hm
    refine x_ldc2 eX5_sure_18 cX5_198 ?_
    obtain rfl := Option.some.inj hm
    exact x_lret eX5_sure_21 ⟨rfl, rfl⟩
  · rw [if_neg c] at hm
    refine x_iload2 eX5_sure_9 ?_
    refine x_k eX5_sure_10 ?_
    refine x_k eX5_sure_11 ?_
    refine x_Si3 eX5_sure_12 kX5_isIn mX5_88 (t_X5_isIn rfl) (Nat.le_of_ble_eq_true rfl) ?_
    refine x_if_ne eX5_sure_15 (fun c => ?_) (fun c => ?_)
    · rw [if_neg c] at hm
      refine x_aload0 eX5_sure_22 ?_
      refine x_get eX5_sure_23 fX5_10 rfl rfl ?_
      refine x_k eX5_sure_26 ?_
      obtain ⟨r1, hr, hm⟩ := xo_bind hm
      refine x_Vi1 eX5_sure_27 kX1_standing mX5_125 (t_X1_standing hr) rfl (Nat.le_of_ble_eq_true rfl) ?_
      refine x_istore3 eX5_sure_30 rfl ?_
      refine x_iload1 eX5_sure_31 ?_
      refine x_if_ne eX5_sure_32 (fun c => ?_) (fun c => ?_)
      · rw [if_neg c] at hm
        refine x_aload0 eX5_sure_46 ?_
        refine x_get eX5_sure_47 fX5_10 rfl rfl ?_
        refine x_k eX5_sure_50 ?_
        refine x_iload3 eX5_sure_51 ?_
        obtain ⟨r2, hr, hm⟩ := xo_bind hm
        refine x_Vi2 eX5_sure_52 kX1_kidSet mX5_140 (t_X1_kidSet hr) rfl (Nat.le_of_ble_eq_true rfl) ?_
        refine x_istore4 eX5_sure_55 rfl ?_
        refine x_iload4 eX5_sure_57 ?_
        refine x_Si1 eX5_sure_59 kJ6_bitCount_0f7a4 mX5_143 (t_J6_bitCount_0f7a4 rfl) (Nat.le_of_ble_eq_true rfl) ?_
        refine x_k eX5_sure_62 ?_
        refine x_icmp_le eX5_sure_64 (fun c => ?_) (fun c => ?_)
        · rw [if_pos c] at hm
          refine x_iload1 eX5_sure_71 ?_
          refine x_if_ne eX5_sure_72 (fun c => ?_) (fun c => ?_)
          · rw [if_neg c] at hm
            refine x_aload0 eX5_sure_92 ?_
            refine x_iload4 eX5_sure_93 ?_
            refine x_k eX5_sure_95 ?_
            refine x_iload3 eX5_sure_96 ?_
            obtain ⟨r3, hr, hm⟩ := xo_bind hm
            refine x_Vv3 eX5_sure_97 kX5_keepPrices mX5_212 (t_X5_keepPrices hr) rfl (Nat.le_of_ble_eq_true rfl) ?_
            refine x_aload0 eX5_sure_100 ?_
            refine x_iload4 eX5_sure_101 ?_
            refine x_k eX5_sure_103 ?_
            obtain ⟨r4, hr, hm⟩ := xo_bind hm
            refine x_Vl2 eX5_sure_104 kX5_stormOdds mX5_216 (t_X5_stormOdds hr) rfl (Nat.le_of_ble_eq_true rfl) ?_
            refine x_iload4 eX5_sure_107 ?_
            obtain ⟨r5, hr, hm⟩ := xo_bind hm
            refine x_Sl1 eX5_sure_109 kX5_hundreds mX5_204 (t_X5_hundreds hr) (Nat.le_of_ble_eq_true rfl) ?_
            refine x_iload2 eX5_sure_112 ?_
            obtain ⟨r6, hr, hm⟩ := xo_bind hm
            refine x_Sl3 eX5_sure_113 kX5_lowest mX5_208 (t_X5_lowest hr) (Nat.le_of_ble_eq_true rfl) ?_
            obtain rfl := Option.some.inj hm
            exact x_lret eX5_sure_116 ⟨rfl, rfl⟩
          · rw [if_pos c] at hm
            refine x_aload0 eX5_sure_75 ?_
            refine x_iload3 eX5_sure_76 ?_
            refine x_iload4 eX5_sure_77 ?_
            obtain ⟨r7, hr, hm⟩ := xo_bind hm
            refine x_Vl2 eX5_sure_79 kX5_mindOdds mX5_200 (t_X5_mindOdds hr) rfl (Nat.le_of_ble_eq_true rfl) ?_
            refine x_iload4 eX5_sure_82 ?_
            obtain ⟨r8, hr, hm⟩ := xo_bind hm
            refine x_Sl1 eX5_sure_84 kX5_hundreds mX5_204 (t_X5_hundreds hr) (Nat.le_of_ble_eq_true rfl) ?_
            refine x_iload2 eX5_sure_87 ?_
            obtain ⟨r9, hr, hm⟩ := xo_bind hm
            refine x_Sl3 eX5_sure_88 kX5_lowest mX5_208 (t_X5_lowest hr) (Nat.le_of_ble_eq_true rfl) ?_
            obtain rfl := Option.some.inj hm
            exact x_lret eX5_sure_91 ⟨rfl, rfl⟩
        · rw [if_neg c] at hm
          refine x_ldc2 eX5_sure_67 cX5_198 ?_
          obtain rfl := Option.some.inj hm
          exact x_lret eX5_sure_70 ⟨rfl, rfl⟩
      · rw [if_pos c] at hm
        refine x_aload0 eX5_sure_35 ?_
        refine x_get eX5_sure_36 fX5_10 rfl rfl ?_
        refine x_iload3 eX5_sure_39 ?_
        obtain ⟨r10, hr, hm⟩ := xo_bind hm
        refine x_Vi1 eX5_sure_40 kX1_twigsOf mX5_134 (t_X1_twigsOf hr) rfl (Nat.le_of_ble_eq_true rfl) ?_
        refine x_goto eX5_sure_43 ?_
        refine x_istore4 eX5_sure_55 rfl ?_
        refine x_iload4 eX5_sure_57 ?_
        refine x_Si1 eX5_sure_59 kJ6_bitCount_0f7a4 mX5_143 (t_J6_bitCount_0f7a4 rfl) (Nat.le_of_ble_eq_true rfl) ?_
        refine x_k eX5_sure_62 ?_
        refine x_icmp_le eX5_sure_64 (fun c => ?_) (fun c => ?_)
        · rw [if_pos c] at hm
          refine x_iload1 eX5_sure_71 ?_
          refine x_if_ne eX5_sure_72 (fun c => ?_) (fun c => ?_)
          · rw [if_neg c] at hm
            refine x_aload0 eX5_sure_92 ?_
            refine x_iload4 eX5_sure_93 ?_
            refine x_k eX5_sure_95 ?_
            refine x_iload3 eX5_sure_96 ?_
            obtain ⟨r11, hr, hm⟩ := xo_bind hm
            refine x_Vv3 eX5_sure_97 kX5_keepPrices mX5_212 (t_X5_keepPrices hr) rfl (Nat.le_of_ble_eq_true rfl) ?_
            refine x_aload0 eX5_sure_100 ?_
            refine x_iload4 eX5_sure_101 ?_
            refine x_k eX5_sure_103 ?_
            obtain ⟨r12, hr, hm⟩ := xo_bind hm
            refine x_Vl2 eX5_sure_104 kX5_stormOdds mX5_216 (t_X5_stormOdds hr) rfl (Nat.le_of_ble_eq_true rfl) ?_
            refine x_iload4 eX5_sure_107 ?_
            obtain ⟨r13, hr, hm⟩ := xo_bind hm
            refine x_Sl1 eX5_sure_109 kX5_hundreds mX5_204 (t_X5_hundreds hr) (Nat.le_of_ble_eq_true rfl) ?_
            refine x_iload2 eX5_sure_112 ?_
            obtain ⟨r14, hr, hm⟩ := xo_bind hm
            refine x_Sl3 eX5_sure_113 kX5_lowest mX5_208 (t_X5_lowest hr) (Nat.le_of_ble_eq_true rfl) ?_
            obtain rfl := Option.some.inj hm
            exact x_lret eX5_sure_116 ⟨rfl, rfl⟩
          · rw [if_pos c] at hm
            refine x_aload0 eX5_sure_75 ?_
            refine x_iload3 eX5_sure_76 ?_
            refine x_iload4 eX5_sure_77 ?_
            obtain ⟨r15, hr, hm⟩ := xo_bind hm
            refine x_Vl2 eX5_sure_79 kX5_mindOdds mX5_200 (t_X5_mindOdds hr) rfl (Nat.le_of_ble_eq_true rfl) ?_
            refine x_iload4 eX5_sure_82 ?_
            obtain ⟨r16, hr, hm⟩ := xo_bind hm
            refine x_Sl1 eX5_sure_84 kX5_hundreds mX5_204 (t_X5_hundreds hr) (Nat.le_of_ble_eq_true rfl) ?_
            refine x_iload2 eX5_sure_87 ?_
            obtain ⟨r17, hr, hm⟩ := xo_bind hm
            refine x_Sl3 eX5_sure_88 kX5_lowest mX5_208 (t_X5_lowest hr) (Nat.le_of_ble_eq_true rfl) ?_
            obtain rfl := Option.some.inj hm
            exact x_lret eX5_sure_91 ⟨rfl, rfl⟩
        · rw [if_neg c] at hm
          refine x_ldc2 eX5_sure_67 cX5_198 ?_
          obtain rfl := Option.some.inj hm
          exact x_lret eX5_sure_70 ⟨rfl, rfl⟩
    · rw [if_pos c] at hm
      refine x_ldc2 eX5_sure_18 cX5_198 ?_
      obtain rfl := Option.some.inj hm
      exact x_lret eX5_sure_21 ⟨rfl, rfl⟩
set_option maxRecDepth 4000 in
theorem l_X5_prop_52 {o : Int32 × (Nat → Int32) × (Nat → Int32) × (Nat → Int32) × (Nat → Int32) × (Nat → Int32)} {u2 : Int32} {u3 : Int32} {o_size : Int32} {o_gone : Int32} {o_minds : Int32} {o_lasts : Int32} {o_parent : Nat → Int32} {o_kind : Nat → Int32} {o_number : Nat → Int32} {o_above : Nat → Int32} {u1 : Int32} : ∀ (n : Nat) {u4 : Int32} {u5 : Int64} {u7 : Int32} {o_kidCount : Nat → Int32} {o_lead : Nat → Int32} {t_stack : Nat → Int32} {x_prices : Nat → Int32} {x_facts : Nat → Int32}, sp_X5_prop_52 u2 u3 o_size o_gone o_minds o_lasts o_parent o_kind o_number o_above n u4 u5 u7 o_kidCount o_lead t_stack x_prices x_facts = some o → xt_T RX5 cX5_prop 11 (some .int) (d + 6) (xt_Ki o.1 (WX o_size o_year o_gone o_minds o_lasts r_size r_token r_place r_at r_open r_made t_size t_rule i_there i_rule i_size i_year i_gone i_minds i_lasts o_parent o_kind o_number o_odds o_above o.2.1 o.2.2.1 r_tape r_steps r_ends t_steps t_ends o.2.2.2.1 s_sort s_size s_items i_number i_odds o.2.2.2.2.1 o.2.2.2.2.2 x_laws x_clues)) 52 [some (.ref 0), some (.int u1), some (.int u2), some (.int u3), some (.int u4), some (.long u5), none, some (.int u7), none, none, none] [] (WX o_size o_year o_gone o_minds o_lasts r_size r_token r_place r_at r_open r_made t_size t_rule i_there i_rule i_size i_year i_gone i_minds i_lasts o_parent o_kind o_number o_odds o_above o_kidCount o_lead r_tape r_steps r_ends t_steps t_ends t_stack s_sort s_size s_items i_number i_odds x_prices x_facts x_laws x_clues) := by
  intro n
  induction n with
  | zero => intro u4 u5 u7 o_kidCount o_lead t_stack x_prices x_facts hm; rw [sp_X5_prop_52] at hm; cases hm
  | succ n ih =>
    intro u4 u5 u7 o_kidCount o_lead t_stack x_prices x_facts hm
    rw [sp_X5_prop_52] at hm
    refine x_iload7 eX5_prop_52 ?_
    refine x_k eX5_prop_54 ?_
    refine x_icmp_ge eX5_prop_56 (fun c => ?_) (fun c => ?_)
    · rw [if_pos c] at hm
      refine x_iload4 eX5_prop_131 ?_
      obtain rfl := Option.some.inj hm
      exact x_iret eX5_prop_133 ⟨rfl, rfl⟩
    · rw [if_neg c] at hm
      refine x_iload2 eX5_prop_59 ?_
      refine x_iload7 eX5_prop_60 ?_
      refine x_Si2 eX5_prop_62 kX5_bit mX5_109 (t_X5_bit rfl) (Nat.le_of_ble_eq_true rfl) ?_
      refine x_k eX5_prop_65 ?_
      refine x_icmp_ne eX5_prop_66 (fun c => ?_) (fun c => ?_)
      · rw [if_neg c] at hm
        refine x_iinc7 eX5_prop_125 rfl ?_
        refine x_goto eX5_prop_128 ?_
        exact ih hm
      · rw [if_pos c] at hm
        refine x_aload0 eX5_prop_69 ?_
        refine x_get eX5_prop_70 fX5_44 rfl rfl ?_
        refine x_iload7 eX5_prop_73 ?_
        obtain ⟨v5, hv, hm⟩ := xo_bind hm
        obtain ⟨hi, rfl⟩ := xo_at_some hv
        refine x_iaload eX5_prop_75 rfl hi ?_
        refine x_istore8 eX5_prop_76 rfl ?_
        refine x_aload0 eX5_prop_78 ?_
        refine x_get eX5_prop_79 fX5_44 rfl rfl ?_
        refine x_iload7 eX5_prop_82 ?_
        refine x_k eX5_prop_84 ?_
        obtain ⟨f6, hv, hm⟩ := xo_bind hm
        obtain ⟨hi, rfl⟩ := xo_set_some hv
        refine x_iastore (w' := WX _ _ _ _ _ _ _ _ _ _ _ _ _ _ _ _ _ _ _ _ _ _ _ _ _ _ _ _ _ _ _ _ _ _ _ _ _ _ _ _ _ _) eX5_prop_85 rfl hi rfl ?_
        refine x_aload0 eX5_prop_86 ?_
        refine x_iload2 eX5_prop_87 ?_
        refine x_iload3 eX5_prop_88 ?_
        obtain ⟨r7, hr, hm⟩ := xo_bind hm
        refine x_Vl2 eX5_prop_89 kX5_stormOdds mX5_216 (t_X5_stormOdds hr) rfl (Nat.le_of_ble_eq_true rfl) ?_
        refine x_lstore9 eX5_prop_92 rfl ?_
        refine x_aload0 eX5_prop_94 ?_
        refine x_get eX5_prop_95 fX5_44 rfl rfl ?_
        refine x_iload7 eX5_prop_98 ?_
        refine x_iload8 eX5_prop_100 ?_
        obtain ⟨f8, hv, hm⟩ := xo_bind hm
        obtain ⟨hi, rfl⟩ := xo_set_some hv
        refine x_iastore (w' := WX _ _ _ _ _ _ _ _ _ _ _ _ _ _ _ _ _ _ _ _ _ _ _ _ _ _ _ _ _ _ _ _ _ _ _ _ _ _ _ _ _ _) eX5_prop_102 rfl hi rfl ?_
        refine x_iload4 eX5_prop_103 ?_
        refine x_k eX5_prop_105 ?_
        refine x_icmp_eq eX5_prop_106 (fun c => ?_) (fun c => ?_)
        · rw [if_pos c] at hm
          refine x_iload7 eX5_prop_117 ?_
          refine x_istore4 eX5_prop_119 rfl ?_
          refine x_lload9 eX5_prop_121 ?_
          refine x_lstore5 eX5_prop_123 rfl ?_
          refine x_iinc7 eX5_prop_125 rfl ?_
          refine x_goto eX5_prop_128 ?_
          exact x_weak (by simp [xt_le]) (ih hm)
        · rw [if_neg c] at hm
          refine x_lload9 eX5_prop_109 ?_
          refine x_lload5 eX5_prop_111 ?_
          refine x_lcmp eX5_prop_113 ?_
          refine x_if_le eX5_prop_114 (fun c => ?_) (fun c => ?_)
          · rw [if_pos c] at hm
            refine x_iinc7 eX5_prop_125 rfl ?_
            refine x_goto eX5_prop_128 ?_
            exact x_weak (by simp [xt_le]) (ih hm)
          · rw [if_neg c] at hm
            refine x_iload7 eX5_prop_117 ?_
            refine x_istore4 eX5_prop_119 rfl ?_
            refine x_lload9 eX5_prop_121 ?_
            refine x_lstore5 eX5_prop_123 rfl ?_
            refine x_iinc7 eX5_prop_125 rfl ?_
            refine x_goto eX5_prop_128 ?_
            exact x_weak (by simp [xt_le]) (ih hm)
set_option maxRecDepth 4000 in
theorem t_X5_prop {o : Int32 × (Nat → Int32) × (Nat → Int32) × (Nat → Int32) × (Nat → Int32) × (Nat → Int32)}  (hm : sp_X5_prop o_size o_year o_gone o_minds o_lasts t_rule o_parent o_kind o_number o_above o_kidCount o_lead t_steps t_ends t_stack x_prices x_facts = some o) : xt_M yX5_prop cX5_prop 11 (some .int) (d + 6) [.ref 0] (WX o_size o_year o_gone o_minds o_lasts r_size r_token r_place r_at r_open r_made t_size t_rule i_there i_rule i_size i_year i_gone i_minds i_lasts o_parent o_kind o_number o_odds o_above o_kidCount o_lead r_tape r_steps r_ends t_steps t_ends t_stack s_sort s_size s_items i_number i_odds x_prices x_facts x_laws x_clues) (xt_Ki o.1 (WX o_size o_year o_gone o_minds o_lasts r_size r_token r_place r_at r_open r_made t_size t_rule i_there i_rule i_size i_year i_gone i_minds i_lasts o_parent o_kind o_number o_odds o_above o.2.1 o.2.2.1 r_tape r_steps r_ends t_steps t_ends o.2.2.2.1 s_sort s_size s_items i_number i_odds o.2.2.2.2.1 o.2.2.2.2.2 x_laws x_clues)) := by
  unfold sp_X5_prop at hm
  refine xt_M.go (own := RX5) (lv := [some (.ref 0), none, none, none, none, none, none, none, none, none, none]) rfl rfl (Nat.le_of_ble_eq_true rfl) rfl ?_
  refine x_aload0 eX5_prop_0 ?_
  refine x_get eX5_prop_1 fX5_10 rfl rfl ?_
  refine x_k eX5_prop_4 ?_
  obtain ⟨r1, hr, hm⟩ := xo_bind hm
  refine x_Vi1 eX5_prop_5 kX1_standing mX5_125 (t_X1_standing hr) rfl (Nat.le_of_ble_eq_true rfl) ?_
  refine x_istore1 eX5_prop_8 rfl ?_
  refine x_aload0 eX5_prop_9 ?_
  refine x_get eX5_prop_10 fX5_10 rfl rfl ?_
  refine x_k eX5_prop_13 ?_
  refine x_iload1 eX5_prop_14 ?_
  obtain ⟨r2, hr, hm⟩ := xo_bind hm
  refine x_Vi2 eX5_prop_15 kX1_kidSet mX5_140 (t_X1_kidSet hr) rfl (Nat.le_of_ble_eq_true rfl) ?_
  refine x_istore2 eX5_prop_18 rfl ?_
  refine x_iload2 eX5_prop_19 ?_
  refine x_Si1 eX5_prop_20 kJ6_bitCount_0f7a4 mX5_143 (t_J6_bitCount_0f7a4 rfl) (Nat.le_of_ble_eq_true rfl) ?_
  refine x_k eX5_prop_23 ?_
  refine x_icmp_le eX5_prop_25 (fun c => ?_) (fun c => ?_)
  · rw [if_pos c] at hm
    refine x_aload0 eX5_prop_31 ?_
    refine x_iload2 eX5_prop_32 ?_
    refine x_k eX5_prop_33 ?_
    refine x_iload1 eX5_prop_34 ?_
    obtain ⟨r3, hr, hm⟩ := xo_bind hm
    refine x_Vv3 eX5_prop_35 kX5_keepPrices mX5_212 (t_X5_keepPrices hr) rfl (Nat.le_of_ble_eq_true rfl) ?_
    refine x_aload0 eX5_prop_38 ?_
    obtain ⟨r4, hr, hm⟩ := xo_bind hm
    refine x_Vi0 eX5_prop_39 kX5_lawNow mX5_164 (t_X5_lawNow hr) rfl (Nat.le_of_ble_eq_true rfl) ?_
    refine x_istore3 eX5_prop_42 rfl ?_
    refine x_k eX5_prop_43 ?_
    refine x_istore4 eX5_prop_44 rfl ?_
    refine x_lk eX5_prop_46 ?_
    refine x_lstore5 eX5_prop_47 rfl ?_
    refine x_k eX5_prop_49 ?_
    refine x_istore7 eX5_prop_50 rfl ?_
    exact l_X5_prop_52 _ hm
  · rw [if_neg c] at hm
    refine x_k eX5_prop_28 ?_
    obtain rfl := Option.some.inj hm
    exact x_iret eX5_prop_30 ⟨rfl, rfl⟩
set_option maxRecDepth 4000 in
theorem l_X5_playedOut_p1_46 {o : Int32 × (Nat → Int32) × (Nat → Int32)} {R : Int32 → Int32 → Int32 → Int32 → Int32 → Int32 → Int32 → (Nat → Int32) → (Nat → Int32) → (Nat → Int32) → (Nat → Int32) → (Nat → Int32) → (Nat → Int32) → Option (Int32 × (Nat → Int32) × (Nat → Int32))} (hR0 : ∀ {zp2 : Int32} {zp3 : Int32} {zp4 : Int32} {z_o_size : Int32} {z_o_year : Int32} {z_o_gone : Int32} {z_o_minds : Int32} {z_o_lasts : Int32} {z_r_size : Int32} {z_r_token : Int32} {z_r_place : Int32} {z_r_at : Int32} {z_r_open : Int32} {z_r_made : Int32} {z_t_size : Int32} {z_t_rule : Int32} {z_i_there : Int32} {z_i_rule : Int32} {z_i_size : Int32} {z_i_year : Int32} {z_i_gone : Int32} {z_i_minds : Int32} {z_i_lasts : Int32} {z_o_parent : Nat → Int32} {z_o_kind : Nat → Int32} {z_o_number : Nat → Int32} {z_o_odds : Nat → Int32} {z_o_above : Nat → Int32} {z_o_kidCount : Nat → Int32} {z_o_lead : Nat → Int32} {z_r_tape : Nat → Int32} {z_r_steps : Nat → Int32} {z_r_ends : Nat → Int32} {z_t_steps : Nat → Int32} {z_t_ends : Nat → Int32} {z_t_stack : Nat → Int32} {z_s_sort : Nat → Int32} {z_s_size : Nat → Int32} {z_s_items : Nat → Int32} {z_i_number : Nat → Int32} {z_i_odds : Nat → Int32} {z_x_prices : Nat → Int32} {z_x_facts : Nat → Int32} {z_x_laws : Nat → Int32} {z_x_clues : Nat → Int32} {r : Int32 × (Nat → Int32) × (Nat → Int32)}, R zp2 zp3 zp4 z_o_size z_o_gone z_o_minds z_o_lasts z_o_parent z_o_kind z_o_number z_o_above z_o_kidCount z_o_lead = some r → xt_M yX5_playedOut cX5_playedOut 7 (some .int) (d + 4) [.ref 1, .int zp2, .int zp3, .int zp4] (WX z_o_size z_o_year z_o_gone z_o_minds z_o_lasts z_r_size z_r_token z_r_place z_r_at z_r_open z_r_made z_t_size z_t_rule z_i_there z_i_rule z_i_size z_i_year z_i_gone z_i_minds z_i_lasts z_o_parent z_o_kind z_o_number z_o_odds z_o_above z_o_kidCount z_o_lead z_r_tape z_r_steps z_r_ends z_t_steps z_t_ends z_t_stack z_s_sort z_s_size z_s_items z_i_number z_i_odds z_x_prices z_x_facts z_x_laws z_x_clues) (xt_Ki r.1 (WX z_o_size z_o_year z_o_gone z_o_minds z_o_lasts z_r_size z_r_token z_r_place z_r_at z_r_open z_r_made z_t_size z_t_rule z_i_there z_i_rule z_i_size z_i_year z_i_gone z_i_minds z_i_lasts z_o_parent z_o_kind z_o_number z_o_odds z_o_above r.2.1 r.2.2 z_r_tape z_r_steps z_r_ends z_t_steps z_t_ends z_t_stack z_s_sort z_s_size z_s_items z_i_number z_i_odds z_x_prices z_x_facts z_x_laws z_x_clues))) {u1 : Int32} {u2 : Int32} {u3 : Int32} {u5 : Int32} {o_size : Int32} {o_gone : Int32} {o_minds : Int32} {o_lasts : Int32} {o_parent : Nat → Int32} {o_kind : Nat → Int32} {o_number : Nat → Int32} {o_above : Nat → Int32} {u4 : Int32} : ∀ (n : Nat) {u6 : Int32} {o_kidCount : Nat → Int32} {o_lead : Nat → Int32}, sp_X5_playedOut_p1_46 R u1 u2 u3 u5 o_size o_gone o_minds o_lasts o_parent o_kind o_number o_above n u6 o_kidCount o_lead = some o → xt_T RX5 cX5_playedOut 7 (some .int) (d + 4 + 1) (xt_Ki o.1 (WX o_size o_year o_gone o_minds o_lasts r_size r_token r_place r_at r_open r_made t_size t_rule i_there i_rule i_size i_year i_gone i_minds i_lasts o_parent o_kind o_number o_odds o_above o.2.1 o.2.2 r_tape r_steps r_ends t_steps t_ends t_stack s_sort s_size s_items i_number i_odds x_prices x_facts x_laws x_clues)) 46 [some (.ref 1), some (.int u1), some (.int u2), some (.int u3), some (.int u4), some (.int u5), some (.int u6)] [] (WX o_size o_year o_gone o_minds o_lasts r_size r_token r_place r_at r_open r_made t_size t_rule i_there i_rule i_size i_year i_gone i_minds i_lasts o_parent o_kind o_number o_odds o_above o_kidCount o_lead r_tape r_steps r_ends t_steps t_ends t_stack s_sort s_size s_items i_number i_odds x_prices x_facts x_laws x_clues) := by
  intro n
  induction n with
  | zero => intro u6 o_kidCount o_lead hm; rw [sp_X5_playedOut_p1_46] at hm; cases hm
  | succ n ih =>
    intro u6 o_kidCount o_lead hm
    rw [sp_X5_playedOut_p1_46] at hm
    refine x_iload6 eX5_playedOut_46 ?_
    refine x_k eX5_playedOut_48 ?_
    refine x_icmp_ge eX5_playedOut_50 (fun c => ?_) (fun c => ?_)
    · rw [if_pos c] at hm
      refine x_k eX5_playedOut_92 ?_
      refine x_iload3 eX5_playedOut_93 ?_
      refine x_isub eX5_playedOut_94 ?_
      obtain rfl := Option.some.inj hm
      exact x_iret eX5_playedOut_95 ⟨rfl, rfl⟩
    · rw [if_neg c] at hm
      refine x_iload5 eX5_playedOut_53 ?_
      refine x_iload6 eX5_playedOut_55 ?_
      refine x_Si2 eX5_playedOut_57 kX5_bit mX5_109 (t_X5_bit rfl) (Nat.le_of_ble_eq_true rfl) ?_
      refine x_k eX5_playedOut_60 ?_
      refine x_icmp_ne eX5_playedOut_61 (fun c => ?_) (fun c => ?_)
      · rw [if_neg c] at hm
        refine x_iinc6 eX5_playedOut_86 rfl ?_
        refine x_goto eX5_playedOut_89 ?_
        exact ih hm
      · rw [if_pos c] at hm
        refine x_aload0 eX5_playedOut_64 ?_
        refine x_iload1 eX5_playedOut_65 ?_
        refine x_k eX5_playedOut_66 ?_
        refine x_iload6 eX5_playedOut_67 ?_
        refine x_ishl eX5_playedOut_69 ?_
        refine x_ior eX5_playedOut_70 ?_
        refine x_iload2 eX5_playedOut_71 ?_
        refine x_k eX5_playedOut_72 ?_
        refine x_isub eX5_playedOut_73 ?_
        refine x_k eX5_playedOut_74 ?_
        refine x_iload3 eX5_playedOut_75 ?_
        refine x_isub eX5_playedOut_76 ?_
        obtain ⟨r2, hr, hm⟩ := xo_bind hm
        refine x_Si4 eX5_playedOut_77 kX5_playedOut mX5_219 (hR0 hr) (Nat.le_of_ble_eq_true rfl) ?_
        refine x_iload3 eX5_playedOut_80 ?_
        refine x_icmp_ne eX5_playedOut_81 (fun c => ?_) (fun c => ?_)
        · rw [if_neg c] at hm
          refine x_iinc6 eX5_playedOut_86 rfl ?_
          refine x_goto eX5_playedOut_89 ?_
          exact ih hm
        · rw [if_pos c] at hm
          refine x_iload3 eX5_playedOut_84 ?_
          obtain rfl := Option.some.inj hm
          exact x_iret eX5_playedOut_85 ⟨rfl, rfl⟩
set_option maxRecDepth 4000 in
theorem t_X5_playedOut_p1 {o : Int32 × (Nat → Int32) × (Nat → Int32)} {R : Int32 → Int32 → Int32 → Int32 → Int32 → Int32 → Int32 → (Nat → Int32) → (Nat → Int32) → (Nat → Int32) → (Nat → Int32) → (Nat → Int32) → (Nat → Int32) → Option (Int32 × (Nat → Int32) × (Nat → Int32))} (hR0 : ∀ {zp2 : Int32} {zp3 : Int32} {zp4 : Int32} {z_o_size : Int32} {z_o_year : Int32} {z_o_gone : Int32} {z_o_minds : Int32} {z_o_lasts : Int32} {z_r_size : Int32} {z_r_token : Int32} {z_r_place : Int32} {z_r_at : Int32} {z_r_open : Int32} {z_r_made : Int32} {z_t_size : Int32} {z_t_rule : Int32} {z_i_there : Int32} {z_i_rule : Int32} {z_i_size : Int32} {z_i_year : Int32} {z_i_gone : Int32} {z_i_minds : Int32} {z_i_lasts : Int32} {z_o_parent : Nat → Int32} {z_o_kind : Nat → Int32} {z_o_number : Nat → Int32} {z_o_odds : Nat → Int32} {z_o_above : Nat → Int32} {z_o_kidCount : Nat → Int32} {z_o_lead : Nat → Int32} {z_r_tape : Nat → Int32} {z_r_steps : Nat → Int32} {z_r_ends : Nat → Int32} {z_t_steps : Nat → Int32} {z_t_ends : Nat → Int32} {z_t_stack : Nat → Int32} {z_s_sort : Nat → Int32} {z_s_size : Nat → Int32} {z_s_items : Nat → Int32} {z_i_number : Nat → Int32} {z_i_odds : Nat → Int32} {z_x_prices : Nat → Int32} {z_x_facts : Nat → Int32} {z_x_laws : Nat → Int32} {z_x_clues : Nat → Int32} {r : Int32 × (Nat → Int32) × (Nat → Int32)}, R zp2 zp3 zp4 z_o_size z_o_gone z_o_minds z_o_lasts z_o_parent z_o_kind z_o_number z_o_above z_o_kidCount z_o_lead = some r → xt_M yX5_playedOut cX5_playedOut 7 (some .int) (d + 4) [.ref 1, .int zp2, .int zp3, .int zp4] (WX z_o_size z_o_year z_o_gone z_o_minds z_o_lasts z_r_size z_r_token z_r_place z_r_at z_r_open z_r_made z_t_size z_t_rule z_i_there z_i_rule z_i_size z_i_year z_i_gone z_i_minds z_i_lasts z_o_parent z_o_kind z_o_number z_o_odds z_o_above z_o_kidCount z_o_lead z_r_tape z_r_steps z_r_ends z_t_steps z_t_ends z_t_stack z_s_sort z_s_size z_s_items z_i_number z_i_odds z_x_prices z_x_facts z_x_laws z_x_clues) (xt_Ki r.1 (WX z_o_size z_o_year z_o_gone z_o_minds z_o_lasts z_r_size z_r_token z_r_place z_r_at z_r_open z_r_made z_t_size z_t_rule z_i_there z_i_rule z_i_size z_i_year z_i_gone z_i_minds z_i_lasts z_o_parent z_o_kind z_o_number z_o_odds z_o_above r.2.1 r.2.2 z_r_tape z_r_steps z_r_ends z_t_steps z_t_ends z_t_stack z_s_sort z_s_size z_s_items z_i_number z_i_odds z_x_prices z_x_facts z_x_laws z_x_clues))) {p2 : Int32} {p3 : Int32} {p4 : Int32} (hm : sp_X5_playedOut_p1 R p2 p3 p4 o_size o_gone o_minds o_lasts o_parent o_kind o_number o_above o_kidCount o_lead = some o) : xt_M yX5_playedOut cX5_playedOut 7 (some .int) (d + 4 + 1) [.ref 1, .int p2, .int p3, .int p4] (WX o_size o_year o_gone o_minds o_lasts r_size r_token r_place r_at r_open r_made t_size t_rule i_there i_rule i_size i_year i_gone i_minds i_lasts o_parent o_kind o_number o_odds o_above o_kidCount o_lead r_tape r_steps r_ends t_steps t_ends t_stack s_sort s_size s_items i_number i_odds x_prices x_facts x_laws x_clues) (xt_Ki o.1 (WX o_size o_year o_gone o_minds o_lasts r_size r_token r_place r_at r_open r_made t_size t_rule i_there i_rule i_size i_year i_gone i_minds i_lasts o_parent o_kind o_number o_odds o_above o.2.1 o.2.2 r_tape r_steps r_ends t_steps t_ends t_stack s_sort s_size s_items i_number i_odds x_prices x_facts x_laws x_clues)) := by
  unfold sp_X5_playedOut_p1 at hm
  refine xt_M.go (own := RX5) (lv := [some (.ref 1), some (.int p2), some (.int p3), some (.int p4), none, none, none]) rfl rfl (Nat.le_of_ble_eq_true rfl) rfl ?_
  refine x_aload0 eX5_playedOut_0 ?_
  refine x_iload1 eX5_playedOut_1 ?_
  obtain ⟨r1, hr, hm⟩ := xo_bind hm
  refine x_Vi1 eX5_playedOut_2 kX1_standing mX5_125 (t_X1_standing hr) rfl (Nat.le_of_ble_eq_true rfl) ?_
  refine x_istore4 eX5_playedOut_5 rfl ?_
  refine x_iload2 eX5_playedOut_7 ?_
  refine x_if_le eX5_playedOut_8 (fun c => ?_) (fun c => ?_)
  · rw [if_pos c] at hm
    refine x_k eX5_playedOut_20 ?_
    refine x_istore5 eX5_playedOut_21 rfl ?_
    refine x_iload5 eX5_playedOut_23 ?_
    refine x_if_ne eX5_playedOut_25 (fun c => ?_) (fun c => ?_)
    · rw [if_neg c] at hm
      refine x_k eX5_playedOut_43 ?_
      refine x_istore6 eX5_playedOut_44 rfl ?_
      exact l_X5_playedOut_p1_46 hR0 _ hm
    · rw [if_pos c] at hm
      refine x_aload0 eX5_playedOut_28 ?_
      refine x_iload4 eX5_playedOut_29 ?_
      refine x_aload0 eX5_playedOut_31 ?_
      refine x_get eX5_playedOut_32 fX5_105 rfl rfl ?_
      obtain ⟨r3, hr, hm⟩ := xo_bind hm
      refine x_Vi2 eX5_playedOut_35 kX1_vote mX5_137 (t_X1_vote hr) rfl (Nat.le_of_ble_eq_true rfl) ?_
      refine x_k eX5_playedOut_38 ?_
      refine x_Si2 eX5_playedOut_39 kX5_bit mX5_109 (t_X5_bit rfl) (Nat.le_of_ble_eq_true rfl) ?_
      obtain rfl := Option.some.inj hm
      exact x_iret eX5_playedOut_42 ⟨rfl, rfl⟩
  · rw [if_neg c] at hm
    refine x_aload0 eX5_playedOut_11 ?_
    refine x_iload4 eX5_playedOut_12 ?_
    obtain ⟨r4, hr, hm⟩ := xo_bind hm
    refine x_Vi1 eX5_playedOut_14 kX1_twigsOf mX5_134 (t_X1_twigsOf hr) rfl (Nat.le_of_ble_eq_true rfl) ?_
    refine x_goto eX5_playedOut_17 ?_
    refine x_istore5 eX5_playedOut_21 rfl ?_
    refine x_iload5 eX5_playedOut_23 ?_
    refine x_if_ne eX5_playedOut_25 (fun c => ?_) (fun c => ?_)
    · rw [if_neg c] at hm
      refine x_k eX5_playedOut_43 ?_
      refine x_istore6 eX5_playedOut_44 rfl ?_
      exact l_X5_playedOut_p1_46 hR0 _ hm
    · rw [if_pos c] at hm
      refine x_aload0 eX5_playedOut_28 ?_
      refine x_iload4 eX5_playedOut_29 ?_
      refine x_aload0 eX5_playedOut_31 ?_
      refine x_get eX5_playedOut_32 fX5_105 rfl rfl ?_
      obtain ⟨r5, hr, hm⟩ := xo_bind hm
      refine x_Vi2 eX5_playedOut_35 kX1_vote mX5_137 (t_X1_vote hr) rfl (Nat.le_of_ble_eq_true rfl) ?_
      refine x_k eX5_playedOut_38 ?_
      refine x_Si2 eX5_playedOut_39 kX5_bit mX5_109 (t_X5_bit rfl) (Nat.le_of_ble_eq_true rfl) ?_
      obtain rfl := Option.some.inj hm
      exact x_iret eX5_playedOut_42 ⟨rfl, rfl⟩
set_option maxRecDepth 4000 in
theorem t_gXP : ∀ n : Nat, (∀ {zp2 : Int32} {zp3 : Int32} {zp4 : Int32} {z_o_size : Int32} {z_o_year : Int32} {z_o_gone : Int32} {z_o_minds : Int32} {z_o_lasts : Int32} {z_r_size : Int32} {z_r_token : Int32} {z_r_place : Int32} {z_r_at : Int32} {z_r_open : Int32} {z_r_made : Int32} {z_t_size : Int32} {z_t_rule : Int32} {z_i_there : Int32} {z_i_rule : Int32} {z_i_size : Int32} {z_i_year : Int32} {z_i_gone : Int32} {z_i_minds : Int32} {z_i_lasts : Int32} {z_o_parent : Nat → Int32} {z_o_kind : Nat → Int32} {z_o_number : Nat → Int32} {z_o_odds : Nat → Int32} {z_o_above : Nat → Int32} {z_o_kidCount : Nat → Int32} {z_o_lead : Nat → Int32} {z_r_tape : Nat → Int32} {z_r_steps : Nat → Int32} {z_r_ends : Nat → Int32} {z_t_steps : Nat → Int32} {z_t_ends : Nat → Int32} {z_t_stack : Nat → Int32} {z_s_sort : Nat → Int32} {z_s_size : Nat → Int32} {z_s_items : Nat → Int32} {z_i_number : Nat → Int32} {z_i_odds : Nat → Int32} {z_x_prices : Nat → Int32} {z_x_facts : Nat → Int32} {z_x_laws : Nat → Int32} {z_x_clues : Nat → Int32} {r : Int32 × (Nat → Int32) × (Nat → Int32)}, sp_gXP n zp2 zp3 zp4 z_o_size z_o_gone z_o_minds z_o_lasts z_o_parent z_o_kind z_o_number z_o_above z_o_kidCount z_o_lead = some r → xt_M yX5_playedOut cX5_playedOut 7 (some .int) (d + n + 4) [.ref 1, .int zp2, .int zp3, .int zp4] (WX z_o_size z_o_year z_o_gone z_o_minds z_o_lasts z_r_size z_r_token z_r_place z_r_at z_r_open z_r_made z_t_size z_t_rule z_i_there z_i_rule z_i_size z_i_year z_i_gone z_i_minds z_i_lasts z_o_parent z_o_kind z_o_number z_o_odds z_o_above z_o_kidCount z_o_lead z_r_tape z_r_steps z_r_ends z_t_steps z_t_ends z_t_stack z_s_sort z_s_size z_s_items z_i_number z_i_odds z_x_prices z_x_facts z_x_laws z_x_clues) (xt_Ki r.1 (WX z_o_size z_o_year z_o_gone z_o_minds z_o_lasts z_r_size z_r_token z_r_place z_r_at z_r_open z_r_made z_t_size z_t_rule z_i_there z_i_rule z_i_size z_i_year z_i_gone z_i_minds z_i_lasts z_o_parent z_o_kind z_o_number z_o_odds z_o_above r.2.1 r.2.2 z_r_tape z_r_steps z_r_ends z_t_steps z_t_ends z_t_stack z_s_sort z_s_size z_s_items z_i_number z_i_odds z_x_prices z_x_facts z_x_laws z_x_clues))) := by
  intro n
  induction n with
  | zero => intros; rename_i hm; rw [sp_gXP] at hm; cases hm
  | succ n ih => intros; rename_i hm; rw [sp_gXP] at hm; exact t_X5_playedOut_p1 (d := d + n) ih hm
set_option maxRecDepth 4000 in
theorem l_X5_turns_75 {o : Int32 × (Nat → Int32) × (Nat → Int32)} {u1 : Int32} {u3 : Int32} {u4 : Int32} {o_size : Int32} {o_gone : Int32} {o_minds : Int32} {o_lasts : Int32} {o_parent : Nat → Int32} {o_kind : Nat → Int32} {o_number : Nat → Int32} {o_above : Nat → Int32} {u2 : Int32} : ∀ (n : Nat) {u5 : Int32} {o_kidCount : Nat → Int32} {o_lead : Nat → Int32}, sp_X5_turns_75 u1 u3 u4 o_size o_gone o_minds o_lasts o_parent o_kind o_number o_above n u5 o_kidCount o_lead = some o → xt_T RX5 cX5_turns 6 (some .int) (d + 13) (xt_Ki o.1 (WX o_size o_year o_gone o_minds o_lasts r_size r_token r_place r_at r_open r_made t_size t_rule i_there i_rule i_size i_year i_gone i_minds i_lasts o_parent o_kind o_number o_odds o_above o.2.1 o.2.2 r_tape r_steps r_ends t_steps t_ends t_stack s_sort s_size s_items i_number i_odds x_prices x_facts x_laws x_clues)) 75 [some (.ref 0), some (.int u1), some (.int u2), some (.int u3), some (.int u4), some (.int u5)] [] (WX o_size o_year o_gone o_minds o_lasts r_size r_token r_place r_at r_open r_made t_size t_rule i_there i_rule i_size i_year i_gone i_minds i_lasts o_parent o_kind o_number o_odds o_above o_kidCount o_lead r_tape r_steps r_ends t_steps t_ends t_stack s_sort s_size s_items i_number i_odds x_prices x_facts x_laws x_clues) := by
  intro n
  induction n with
  | zero => intro u5 o_kidCount o_lead hm; rw [sp_X5_turns_75] at hm; cases hm
  | succ n ih =>
    intro u5 o_kidCount o_lead hm
    rw [sp_X5_turns_75] at hm
    refine x_iload5 eX5_turns_75 ?_
    refine x_k eX5_turns_77 ?_
    refine x_icmp_ge eX5_turns_79 (fun c => ?_) (fun c => ?_)
    · rw [if_pos c] at hm
      refine x_k eX5_turns_121 ?_
      obtain rfl := Option.some.inj hm
      exact x_iret eX5_turns_122 ⟨rfl, rfl⟩
    · rw [if_neg c] at hm
      refine x_iload3 eX5_turns_82 ?_
      refine x_iload5 eX5_turns_83 ?_
      refine x_Si2 eX5_turns_85 kX5_bit mX5_109 (t_X5_bit rfl) (Nat.le_of_ble_eq_true rfl) ?_
      refine x_k eX5_turns_88 ?_
      refine x_icmp_ne eX5_turns_89 (fun c => ?_) (fun c => ?_)
      · rw [if_neg c] at hm
        refine x_iinc5 eX5_turns_115 rfl ?_
        refine x_goto eX5_turns_118 ?_
        exact ih hm
      · rw [if_pos c] at hm
        refine x_aload0 eX5_turns_92 ?_
        refine x_get eX5_turns_93 fX5_10 rfl rfl ?_
        refine x_k eX5_turns_96 ?_
        refine x_iload5 eX5_turns_97 ?_
        refine x_ishl eX5_turns_99 ?_
        refine x_iload1 eX5_turns_100 ?_
        refine x_k eX5_turns_101 ?_
        refine x_isub eX5_turns_102 ?_
        refine x_k eX5_turns_103 ?_
        obtain ⟨r4, hr, hm⟩ := xo_bind hm
        refine x_Si4 eX5_turns_104 kX5_playedOut mX5_219 ((t_gXP 8) hr) (Nat.le_of_ble_eq_true rfl) ?_
        refine x_iload4 eX5_turns_107 ?_
        refine x_icmp_ne eX5_turns_109 (fun c => ?_) (fun c => ?_)
        · rw [if_neg c] at hm
          refine x_iinc5 eX5_turns_115 rfl ?_
          refine x_goto eX5_turns_118 ?_
          exact ih hm
        · rw [if_pos c] at hm
          refine x_iload5 eX5_turns_112 ?_
          obtain rfl := Option.some.inj hm
          exact x_iret eX5_turns_114 ⟨rfl, rfl⟩
set_option maxRecDepth 4000 in
theorem t_X5_turns {o : Int32 × (Nat → Int32) × (Nat → Int32)} {p1 : Int32} {p2 : Int32} (hm : sp_X5_turns p1 p2 o_size o_gone o_minds o_lasts o_parent o_kind o_number o_above o_kidCount o_lead = some o) : xt_M yX5_turns cX5_turns 6 (some .int) (d + 13) [.ref 0, .int p1, .int p2] (WX o_size o_year o_gone o_minds o_lasts r_size r_token r_place r_at r_open r_made t_size t_rule i_there i_rule i_size i_year i_gone i_minds i_lasts o_parent o_kind o_number o_odds o_above o_kidCount o_lead r_tape r_steps r_ends t_steps t_ends t_stack s_sort s_size s_items i_number i_odds x_prices x_facts x_laws x_clues) (xt_Ki o.1 (WX o_size o_year o_gone o_minds o_lasts r_size r_token r_place r_at r_open r_made t_size t_rule i_there i_rule i_size i_year i_gone i_minds i_lasts o_parent o_kind o_number o_odds o_above o.2.1 o.2.2 r_tape r_steps r_ends t_steps t_ends t_stack s_sort s_size s_items i_number i_odds x_prices x_facts x_laws x_clues)) := by
  unfold sp_X5_turns at hm
  refine xt_M.go (own := RX5) (lv := [some (.ref 0), some (.int p1), some (.int p2), none, none, none]) rfl rfl (Nat.le_of_ble_eq_true rfl) rfl ?_
  refine x_iload1 eX5_turns_0 ?_
  refine x_k eX5_turns_1 ?_
  refine x_k eX5_turns_2 ?_
  refine x_Si3 eX5_turns_3 kX5_isIn mX5_88 (t_X5_isIn rfl) (Nat.le_of_ble_eq_true rfl) ?_
  refine x_if_eq eX5_turns_6 (fun c => ?_) (fun c => ?_)
  · rw [if_pos c] at hm
    refine x_k eX5_turns_18 ?_
    obtain rfl := Option.some.inj hm
    exact x_iret eX5_turns_20 ⟨rfl, rfl⟩
  · rw [if_neg c] at hm
    refine x_iload2 eX5_turns_9 ?_
    refine x_k eX5_turns_10 ?_
    refine x_k eX5_turns_11 ?_
    refine x_Si3 eX5_turns_12 kX5_isIn mX5_88 (t_X5_isIn rfl) (Nat.le_of_ble_eq_true rfl) ?_
    refine x_if_ne eX5_turns_15 (fun c => ?_) (fun c => ?_)
    · rw [if_neg c] at hm
      refine x_aload0 eX5_turns_21 ?_
      refine x_get eX5_turns_22 fX5_10 rfl rfl ?_
      refine x_aload0 eX5_turns_25 ?_
      refine x_get eX5_turns_26 fX5_10 rfl rfl ?_
      refine x_k eX5_turns_29 ?_
      obtain ⟨r1, hr, hm⟩ := xo_bind hm
      refine x_Vi1 eX5_turns_30 kX1_standing mX5_125 (t_X1_standing hr) rfl (Nat.le_of_ble_eq_true rfl) ?_
      obtain ⟨r2, hr, hm⟩ := xo_bind hm
      refine x_Vi1 eX5_turns_33 kX1_twigsOf mX5_134 (t_X1_twigsOf hr) rfl (Nat.le_of_ble_eq_true rfl) ?_
      refine x_istore3 eX5_turns_36 rfl ?_
      refine x_iload3 eX5_turns_37 ?_
      refine x_Si1 eX5_turns_38 kJ6_bitCount_0f7a4 mX5_143 (t_J6_bitCount_0f7a4 rfl) (Nat.le_of_ble_eq_true rfl) ?_
      refine x_k eX5_turns_41 ?_
      refine x_icmp_le eX5_turns_43 (fun c => ?_) (fun c => ?_)
      · rw [if_pos c] at hm
        refine x_aload0 eX5_turns_49 ?_
        refine x_get eX5_turns_50 fX5_10 rfl rfl ?_
        refine x_k eX5_turns_53 ?_
        refine x_iload1 eX5_turns_54 ?_
        refine x_k eX5_turns_55 ?_
        obtain ⟨r3, hr, hm⟩ := xo_bind hm
        refine x_Si4 eX5_turns_56 kX5_playedOut mX5_219 ((t_gXP 8) hr) (Nat.le_of_ble_eq_true rfl) ?_
        refine x_istore4 eX5_turns_59 rfl ?_
        refine x_iload2 eX5_turns_61 ?_
        refine x_if_ne eX5_turns_62 (fun c => ?_) (fun c => ?_)
        · rw [if_neg c] at hm
          refine x_iload1 eX5_turns_68 ?_
          refine x_if_le eX5_turns_69 (fun c => ?_) (fun c => ?_)
          · rw [if_pos c] at hm
            refine x_k eX5_turns_121 ?_
            obtain rfl := Option.some.inj hm
            exact x_iret eX5_turns_122 ⟨rfl, rfl⟩
          · rw [if_neg c] at hm
            refine x_k eX5_turns_72 ?_
            refine x_istore5 eX5_turns_73 rfl ?_
            exact l_X5_turns_75 _ hm
        · rw [if_pos c] at hm
          refine x_iload4 eX5_turns_65 ?_
          obtain rfl := Option.some.inj hm
          exact x_iret eX5_turns_67 ⟨rfl, rfl⟩
      · rw [if_neg c] at hm
        refine x_k eX5_turns_46 ?_
        obtain rfl := Option.some.inj hm
        exact x_iret eX5_turns_48 ⟨rfl, rfl⟩
    · rw [if_pos c] at hm
      refine x_k eX5_turns_18 ?_
      obtain rfl := Option.some.inj hm
      exact x_iret eX5_turns_20 ⟨rfl, rfl⟩
set_option maxRecDepth 4000 in
theorem l_J7_fill_53178_p27_5 {o : (Nat → Int32)} {u1 : Int32} {u3 : Int32} : ∀ (n : Nat) {u2 : Int32} {x_clues : Nat → Int32}, sp_J7_fill_53178_p27_5 u1 u3 n u2 x_clues = some o → xt_T RJ7 cJ7_fill_53178 4 none (d + 0) (xt_Kv (WX o_size o_year o_gone o_minds o_lasts r_size r_token r_place r_at r_open r_made t_size t_rule i_there i_rule i_size i_year i_gone i_minds i_lasts o_parent o_kind o_number o_odds o_above o_kidCount o_lead r_tape r_steps r_ends t_steps t_ends t_stack s_sort s_size s_items i_number i_odds x_prices x_facts x_laws o)) 5 [some (.ref 27), some (.int u1), some (.int u2), some (.int u3)] [] (WX o_size o_year o_gone o_minds o_lasts r_size r_token r_place r_at r_open r_made t_size t_rule i_there i_rule i_size i_year i_gone i_minds i_lasts o_parent o_kind o_number o_odds o_above o_kidCount o_lead r_tape r_steps r_ends t_steps t_ends t_stack s_sort s_size s_items i_number i_odds x_prices x_facts x_laws x_clues) := by
  intro n
  induction n with
  | zero => intro u2 x_clues hm; rw [sp_J7_fill_53178_p27_5] at hm; cases hm
  | succ n ih =>
    intro u2 x_clues hm
    rw [sp_J7_fill_53178_p27_5] at hm
    refine x_iload2 eJ7_fill_53178_5 ?_
    refine x_iload3 eJ7_fill_53178_6 ?_
    refine x_icmp_ge eJ7_fill_53178_7 (fun c => ?_) (fun c => ?_)
    · rw [if_pos c] at hm
      obtain rfl := Option.some.inj hm
      exact x_vret eJ7_fill_53178_20 ⟨rfl, rfl⟩
    · rw [if_neg c] at hm
      refine x_aload0 eJ7_fill_53178_10 ?_
      refine x_iload2 eJ7_fill_53178_11 ?_
      refine x_iload1 eJ7_fill_53178_12 ?_
      obtain ⟨f1, hv, hm⟩ := xo_bind hm
      obtain ⟨hi, rfl⟩ := xo_set_some hv
      refine x_iastore (w' := WX _ _ _ _ _ _ _ _ _ _ _ _ _ _ _ _ _ _ _ _ _ _ _ _ _ _ _ _ _ _ _ _ _ _ _ _ _ _ _ _ _ _) eJ7_fill_53178_13 rfl hi rfl ?_
      refine x_iinc2 eJ7_fill_53178_14 rfl ?_
      refine x_goto eJ7_fill_53178_17 ?_
      exact ih hm
set_option maxRecDepth 4000 in
theorem t_J7_fill_53178_p27 {o : (Nat → Int32)} {p2 : Int32} (hm : sp_J7_fill_53178_p27 p2 x_clues = some o) : xt_M yJ7_fill_53178 cJ7_fill_53178 4 none (d + 0) [.ref 27, .int p2] (WX o_size o_year o_gone o_minds o_lasts r_size r_token r_place r_at r_open r_made t_size t_rule i_there i_rule i_size i_year i_gone i_minds i_lasts o_parent o_kind o_number o_odds o_above o_kidCount o_lead r_tape r_steps r_ends t_steps t_ends t_stack s_sort s_size s_items i_number i_odds x_prices x_facts x_laws x_clues) (xt_Kv (WX o_size o_year o_gone o_minds o_lasts r_size r_token r_place r_at r_open r_made t_size t_rule i_there i_rule i_size i_year i_gone i_minds i_lasts o_parent o_kind o_number o_odds o_above o_kidCount o_lead r_tape r_steps r_ends t_steps t_ends t_stack s_sort s_size s_items i_number i_odds x_prices x_facts x_laws o)) := by
  unfold sp_J7_fill_53178_p27 at hm
  refine xt_M.go (own := RJ7) (lv := [some (.ref 27), some (.int p2), none, none]) rfl rfl (Nat.le_of_ble_eq_true rfl) rfl ?_
  refine x_k eJ7_fill_53178_0 ?_
  refine x_istore2 eJ7_fill_53178_1 rfl ?_
  refine x_aload0 eJ7_fill_53178_2 ?_
  refine x_alen (v := 3) eJ7_fill_53178_3 rfl (by decide) ?_
  refine x_istore3 eJ7_fill_53178_4 rfl ?_
  exact l_J7_fill_53178_p27_5 _ hm
set_option maxRecDepth 4000 in
theorem l_X5_readsClues_28 {o : Int32 × (Nat → Int32)} {u1 : Int32} {u2 : Int32} {o_size : Int32} {s_items : Nat → Int32} : ∀ (n : Nat) {u3 : Int32} {x_clues : Nat → Int32}, sp_X5_readsClues_28 u1 u2 o_size s_items n u3 x_clues = some o → xt_T RX5 cX5_readsClues 6 (some .boolean) (d + 1) (xt_Ki o.1 (WX o_size o_year o_gone o_minds o_lasts r_size r_token r_place r_at r_open r_made t_size t_rule i_there i_rule i_size i_year i_gone i_minds i_lasts o_parent o_kind o_number o_odds o_above o_kidCount o_lead r_tape r_steps r_ends t_steps t_ends t_stack s_sort s_size s_items i_number i_odds x_prices x_facts x_laws o.2)) 28 [some (.ref 0), some (.int u1), some (.int u2), some (.int u3), none, none] [] (WX o_size o_year o_gone o_minds o_lasts r_size r_token r_place r_at r_open r_made t_size t_rule i_there i_rule i_size i_year i_gone i_minds i_lasts o_parent o_kind o_number o_odds o_above o_kidCount o_lead r_tape r_steps r_ends t_steps t_ends t_stack s_sort s_size s_items i_number i_odds x_prices x_facts x_laws x_clues) := by
  intro n
  induction n with
  | zero => intro u3 x_clues hm; rw [sp_X5_readsClues_28] at hm; cases hm
  | succ n ih =>
    intro u3 x_clues hm
    rw [sp_X5_readsClues_28] at hm
    refine x_iload3 eX5_readsClues_28 ?_
    refine x_k eX5_readsClues_29 ?_
    refine x_iadd eX5_readsClues_30 ?_
    refine x_iload2 eX5_readsClues_31 ?_
    refine x_icmp_ge eX5_readsClues_32 (fun c => ?_) (fun c => ?_)
    · rw [if_pos c] at hm
      refine x_k eX5_readsClues_103 ?_
      obtain rfl := Option.some.inj hm
      exact x_zret eX5_readsClues_104 (by decide) ⟨rfl, rfl⟩
    · rw [if_neg c] at hm
      refine x_aload0 eX5_readsClues_35 ?_
      refine x_get eX5_readsClues_36 fX5_33 rfl rfl ?_
      refine x_iload1 eX5_readsClues_39 ?_
      refine x_iload3 eX5_readsClues_40 ?_
      obtain ⟨r3, hr, hm⟩ := xo_bind hm
      refine x_Vi2 eX5_readsClues_41 kX3_read mX5_265 (t_X3_read hr) rfl (Nat.le_of_ble_eq_true rfl) ?_
      refine x_istore4 eX5_readsClues_44 rfl ?_
      refine x_aload0 eX5_readsClues_46 ?_
      refine x_get eX5_readsClues_47 fX5_33 rfl rfl ?_
      refine x_iload1 eX5_readsClues_50 ?_
      refine x_iload3 eX5_readsClues_51 ?_
      refine x_k eX5_readsClues_52 ?_
      refine x_iadd eX5_readsClues_53 ?_
      obtain ⟨r4, hr, hm⟩ := xo_bind hm
      refine x_Vi2 eX5_readsClues_54 kX3_read mX5_265 (t_X3_read hr) rfl (Nat.le_of_ble_eq_true rfl) ?_
      refine x_istore5 eX5_readsClues_57 rfl ?_
      refine x_aload0 eX5_readsClues_59 ?_
      refine x_get eX5_readsClues_60 fX5_10 rfl rfl ?_
      refine x_iload4 eX5_readsClues_63 ?_
      refine x_Vi1 eX5_readsClues_65 kX1_has mX5_96 (t_X1_has rfl) rfl (Nat.le_of_ble_eq_true rfl) ?_
      refine x_if_eq eX5_readsClues_68 (fun c => ?_) (fun c => ?_)
      · rw [if_pos c] at hm
        refine x_k eX5_readsClues_81 ?_
        obtain rfl := Option.some.inj hm
        exact x_zret eX5_readsClues_82 (by decide) ⟨rfl, rfl⟩
      · rw [if_neg c] at hm
        refine x_iload5 eX5_readsClues_71 ?_
        refine x_k eX5_readsClues_73 ?_
        refine x_k eX5_readsClues_74 ?_
        refine x_Si3 eX5_readsClues_75 kX5_isIn mX5_88 (t_X5_isIn rfl) (Nat.le_of_ble_eq_true rfl) ?_
        refine x_if_ne eX5_readsClues_78 (fun c => ?_) (fun c => ?_)
        · rw [if_neg c] at hm
          refine x_aload0 eX5_readsClues_83 ?_
          refine x_get eX5_readsClues_84 fX5_54 rfl rfl ?_
          refine x_iload5 eX5_readsClues_87 ?_
          refine x_dup2 eX5_readsClues_89 rfl rfl ?_
          obtain ⟨v5, hv, hm⟩ := xo_bind hm
          obtain ⟨hi, rfl⟩ := xo_at_some hv
          refine x_iaload eX5_readsClues_90 rfl hi ?_
          refine x_k eX5_readsClues_91 ?_
          refine x_iload4 eX5_readsClues_92 ?_
          refine x_ishl eX5_readsClues_94 ?_
          refine x_ior eX5_readsClues_95 ?_
          obtain ⟨f6, hv, hm⟩ := xo_bind hm
          obtain ⟨hi, rfl⟩ := xo_set_some hv
          refine x_iastore (w' := WX _ _ _ _ _ _ _ _ _ _ _ _ _ _ _ _ _ _ _ _ _ _ _ _ _ _ _ _ _ _ _ _ _ _ _ _ _ _ _ _ _ _) eX5_readsClues_96 rfl hi rfl ?_
          refine x_iinc3 eX5_readsClues_97 rfl ?_
          refine x_goto eX5_readsClues_100 ?_
          exact x_weak (by simp [xt_le]) (ih hm)
        · rw [if_pos c] at hm
          refine x_k eX5_readsClues_81 ?_
          obtain rfl := Option.some.inj hm
          exact x_zret eX5_readsClues_82 (by decide) ⟨rfl, rfl⟩
set_option maxRecDepth 4000 in
theorem t_X5_readsClues {o : Int32 × (Nat → Int32)} {p1 : Int32} (hm : sp_X5_readsClues p1 o_size s_size s_items x_clues = some o) : xt_M yX5_readsClues cX5_readsClues 6 (some .boolean) (d + 1) [.ref 0, .int p1] (WX o_size o_year o_gone o_minds o_lasts r_size r_token r_place r_at r_open r_made t_size t_rule i_there i_rule i_size i_year i_gone i_minds i_lasts o_parent o_kind o_number o_odds o_above o_kidCount o_lead r_tape r_steps r_ends t_steps t_ends t_stack s_sort s_size s_items i_number i_odds x_prices x_facts x_laws x_clues) (xt_Ki o.1 (WX o_size o_year o_gone o_minds o_lasts r_size r_token r_place r_at r_open r_made t_size t_rule i_there i_rule i_size i_year i_gone i_minds i_lasts o_parent o_kind o_number o_odds o_above o_kidCount o_lead r_tape r_steps r_ends t_steps t_ends t_stack s_sort s_size s_items i_number i_odds x_prices x_facts x_laws o.2)) := by
  unfold sp_X5_readsClues at hm
  refine xt_M.go (own := RX5) (lv := [some (.ref 0), some (.int p1), none, none, none, none]) rfl rfl (Nat.le_of_ble_eq_true rfl) rfl ?_
  refine x_aload0 eX5_readsClues_0 ?_
  refine x_get eX5_readsClues_1 fX5_54 rfl rfl ?_
  refine x_k eX5_readsClues_4 ?_
  obtain ⟨r1, hr, hm⟩ := xo_bind hm
  refine x_Sv2 eX5_readsClues_5 kJ7_fill_53178 mX5_287 (t_J7_fill_53178_p27 hr) (Nat.le_of_ble_eq_true rfl) ?_
  refine x_aload0 eX5_readsClues_8 ?_
  refine x_get eX5_readsClues_9 fX5_33 rfl rfl ?_
  refine x_get eX5_readsClues_12 fX5_306 rfl rfl ?_
  refine x_iload1 eX5_readsClues_15 ?_
  obtain ⟨v2, hv, hm⟩ := xo_bind hm
  obtain ⟨hi, rfl⟩ := xo_at_some hv
  refine x_iaload eX5_readsClues_16 rfl hi ?_
  refine x_istore2 eX5_readsClues_17 rfl ?_
  refine x_iload2 eX5_readsClues_18 ?_
  refine x_k eX5_readsClues_19 ?_
  refine x_irem eX5_readsClues_20 (by decide) ?_
  refine x_if_eq eX5_readsClues_21 (fun c => ?_) (fun c => ?_)
  · rw [if_pos c] at hm
    refine x_k eX5_readsClues_26 ?_
    refine x_istore3 eX5_readsClues_27 rfl ?_
    exact l_X5_readsClues_28 _ hm
  · rw [if_neg c] at hm
    refine x_k eX5_readsClues_24 ?_
    obtain rfl := Option.some.inj hm
    exact x_zret eX5_readsClues_25 (by decide) ⟨rfl, rfl⟩
set_option maxRecDepth 4000 in
theorem t_X5_fitsClues {o : Int32 × (Nat → Int32) × (Nat → Int32)} {p1 : Int32} (hm : sp_X5_fitsClues p1 o_size o_gone o_minds o_lasts o_parent o_kind o_number o_above o_kidCount o_lead x_clues = some o) : xt_M yX5_fitsClues cX5_fitsClues 4 (some .boolean) (d + 4) [.ref 0, .int p1] (WX o_size o_year o_gone o_minds o_lasts r_size r_token r_place r_at r_open r_made t_size t_rule i_there i_rule i_size i_year i_gone i_minds i_lasts o_parent o_kind o_number o_odds o_above o_kidCount o_lead r_tape r_steps r_ends t_steps t_ends t_stack s_sort s_size s_items i_number i_odds x_prices x_facts x_laws x_clues) (xt_Ki o.1 (WX o_size o_year o_gone o_minds o_lasts r_size r_token r_place r_at r_open r_made t_size t_rule i_there i_rule i_size i_year i_gone i_minds i_lasts o_parent o_kind o_number o_odds o_above o.2.1 o.2.2 r_tape r_steps r_ends t_steps t_ends t_stack s_sort s_size s_items i_number i_odds x_prices x_facts x_laws x_clues)) := by
  unfold sp_X5_fitsClues at hm
  refine xt_M.go (own := RX5) (lv := [some (.ref 0), some (.int p1), none, none]) rfl rfl (Nat.le_of_ble_eq_true rfl) rfl ?_
  refine x_aload0 eX5_fitsClues_0 ?_
  refine x_get eX5_fitsClues_1 fX5_10 rfl rfl ?_
  refine x_iload1 eX5_fitsClues_4 ?_
  obtain ⟨r1, hr, hm⟩ := xo_bind hm
  refine x_Vi1 eX5_fitsClues_5 kX1_standing mX5_125 (t_X1_standing hr) rfl (Nat.le_of_ble_eq_true rfl) ?_
  refine x_istore2 eX5_fitsClues_8 rfl ?_
  refine x_iload2 eX5_fitsClues_9 ?_
  refine x_aload0 eX5_fitsClues_10 ?_
  refine x_get eX5_fitsClues_11 fX5_54 rfl rfl ?_
  refine x_k eX5_fitsClues_14 ?_
  obtain ⟨v2, hv, hm⟩ := xo_bind hm
  obtain ⟨hi, rfl⟩ := xo_at_some hv
  refine x_iaload eX5_fitsClues_15 rfl hi ?_
  refine x_iand eX5_fitsClues_16 ?_
  refine x_if_ne eX5_fitsClues_17 (fun c => ?_) (fun c => ?_)
  · rw [if_neg c] at hm
    refine x_k eX5_fitsClues_40 ?_
    obtain rfl := Option.some.inj hm
    exact x_zret eX5_fitsClues_41 (by decide) ⟨rfl, rfl⟩
  · rw [if_pos c] at hm
    refine x_iload2 eX5_fitsClues_20 ?_
    refine x_k eX5_fitsClues_21 ?_
    refine x_ixor eX5_fitsClues_22 ?_
    refine x_aload0 eX5_fitsClues_23 ?_
    refine x_get eX5_fitsClues_24 fX5_54 rfl rfl ?_
    refine x_k eX5_fitsClues_27 ?_
    obtain ⟨v3, hv, hm⟩ := xo_bind hm
    obtain ⟨hi, rfl⟩ := xo_at_some hv
    refine x_iaload eX5_fitsClues_28 rfl hi ?_
    refine x_aload0 eX5_fitsClues_29 ?_
    refine x_get eX5_fitsClues_30 fX5_54 rfl rfl ?_
    refine x_k eX5_fitsClues_33 ?_
    obtain ⟨v4, hv, hm⟩ := xo_bind hm
    obtain ⟨hi, rfl⟩ := xo_at_some hv
    refine x_iaload eX5_fitsClues_34 rfl hi ?_
    refine x_ior eX5_fitsClues_35 ?_
    refine x_iand eX5_fitsClues_36 ?_
    refine x_if_eq eX5_fitsClues_37 (fun c => ?_) (fun c => ?_)
    · rw [if_pos c] at hm
      refine x_aload0 eX5_fitsClues_42 ?_
      refine x_get eX5_fitsClues_43 fX5_10 rfl rfl ?_
      refine x_iload2 eX5_fitsClues_46 ?_
      refine x_aload0 eX5_fitsClues_47 ?_
      refine x_get eX5_fitsClues_48 fX5_10 rfl rfl ?_
      refine x_get eX5_fitsClues_51 fX5_105 rfl rfl ?_
      obtain ⟨r5, hr, hm⟩ := xo_bind hm
      refine x_Vi2 eX5_fitsClues_54 kX1_vote mX5_137 (t_X1_vote hr) rfl (Nat.le_of_ble_eq_true rfl) ?_
      refine x_istore3 eX5_fitsClues_57 rfl ?_
      refine x_iload3 eX5_fitsClues_58 ?_
      refine x_aload0 eX5_fitsClues_59 ?_
      refine x_get eX5_fitsClues_60 fX5_54 rfl rfl ?_
      refine x_k eX5_fitsClues_63 ?_
      obtain ⟨v6, hv, hm⟩ := xo_bind hm
      obtain ⟨hi, rfl⟩ := xo_at_some hv
      refine x_iaload eX5_fitsClues_64 rfl hi ?_
      refine x_iand eX5_fitsClues_65 ?_
      refine x_if_ne eX5_fitsClues_66 (fun c => ?_) (fun c => ?_)
      · rw [if_neg c] at hm
        refine x_k eX5_fitsClues_86 ?_
        obtain rfl := Option.some.inj hm
        exact x_zret eX5_fitsClues_87 (by decide) ⟨rfl, rfl⟩
      · rw [if_pos c] at hm
        refine x_iload3 eX5_fitsClues_69 ?_
        refine x_k eX5_fitsClues_70 ?_
        refine x_ixor eX5_fitsClues_71 ?_
        refine x_aload0 eX5_fitsClues_72 ?_
        refine x_get eX5_fitsClues_73 fX5_54 rfl rfl ?_
        refine x_k eX5_fitsClues_76 ?_
        obtain ⟨v7, hv, hm⟩ := xo_bind hm
        obtain ⟨hi, rfl⟩ := xo_at_some hv
        refine x_iaload eX5_fitsClues_77 rfl hi ?_
        refine x_iand eX5_fitsClues_78 ?_
        refine x_if_ne eX5_fitsClues_79 (fun c => ?_) (fun c => ?_)
        · rw [if_neg c] at hm
          refine x_k eX5_fitsClues_86 ?_
          obtain rfl := Option.some.inj hm
          exact x_zret eX5_fitsClues_87 (by decide) ⟨rfl, rfl⟩
        · rw [if_pos c] at hm
          refine x_k eX5_fitsClues_82 ?_
          refine x_goto eX5_fitsClues_83 ?_
          obtain rfl := Option.some.inj hm
          exact x_zret eX5_fitsClues_87 (by decide) ⟨rfl, rfl⟩
    · rw [if_neg c] at hm
      refine x_k eX5_fitsClues_40 ?_
      obtain rfl := Option.some.inj hm
      exact x_zret eX5_fitsClues_41 (by decide) ⟨rfl, rfl⟩
set_option maxRecDepth 4000 in
theorem l_X5_whoCut_80 {o : Int32 × (Nat → Int32) × (Nat → Int32) × (Nat → Int32)} {u2 : Int32} {u3 : Int32} {u4 : Int32} {o_size : Int32} {o_gone : Int32} {o_minds : Int32} {o_lasts : Int32} {o_parent : Nat → Int32} {o_kind : Nat → Int32} {o_number : Nat → Int32} {o_above : Nat → Int32} {u1 : Int32} : ∀ (n : Nat) {u5 : Int32} {u6 : Int32} {u7 : Int32} {u8 : Int32} {o_kidCount : Nat → Int32} {o_lead : Nat → Int32} {x_clues : Nat → Int32}, sp_X5_whoCut_80 u2 u3 u4 o_size o_gone o_minds o_lasts o_parent o_kind o_number o_above n u5 u6 u7 u8 o_kidCount o_lead x_clues = some o → xt_T RX5 cX5_whoCut 9 (some .int) (d + 5) (xt_Ki o.1 (WX o_size o_year o_gone o_minds o_lasts r_size r_token r_place r_at r_open r_made t_size t_rule i_there i_rule i_size i_year i_gone i_minds i_lasts o_parent o_kind o_number o_odds o_above o.2.1 o.2.2.1 r_tape r_steps r_ends t_steps t_ends t_stack s_sort s_size s_items i_number i_odds x_prices x_facts x_laws o.2.2.2)) 80 [some (.ref 0), some (.int u1), some (.int u2), some (.int u3), some (.int u4), some (.int u5), some (.int u6), some (.int u7), some (.int u8)] [] (WX o_size o_year o_gone o_minds o_lasts r_size r_token r_place r_at r_open r_made t_size t_rule i_there i_rule i_size i_year i_gone i_minds i_lasts o_parent o_kind o_number o_odds o_above o_kidCount o_lead r_tape r_steps r_ends t_steps t_ends t_stack s_sort s_size s_items i_number i_odds x_prices x_facts x_laws x_clues) := by
  intro n
  induction n with
  | zero => intro u5 u6 u7 u8 o_kidCount o_lead x_clues hm; rw [sp_X5_whoCut_80] at hm; cases hm
  | succ n ih =>
    intro u5 u6 u7 u8 o_kidCount o_lead x_clues hm
    rw [sp_X5_whoCut_80] at hm
    refine x_iload8 eX5_whoCut_80 ?_
    refine x_iload4 eX5_whoCut_82 ?_
    refine x_icmp_ge eX5_whoCut_84 (fun c => ?_) (fun c => ?_)
    · rw [if_pos c] at hm
      refine x_iload2 eX5_whoCut_135 ?_
      refine x_if_ne eX5_whoCut_136 (fun c => ?_) (fun c => ?_)
      · rw [if_neg c] at hm
        refine x_iload6 eX5_whoCut_144 ?_
        obtain rfl := Option.some.inj hm
        exact x_iret eX5_whoCut_146 ⟨rfl, rfl⟩
      · rw [if_pos c] at hm
        refine x_iload5 eX5_whoCut_139 ?_
        refine x_goto eX5_whoCut_141 ?_
        obtain rfl := Option.some.inj hm
        exact x_iret eX5_whoCut_146 ⟨rfl, rfl⟩
    · rw [if_neg c] at hm
      refine x_aload0 eX5_whoCut_87 ?_
      refine x_get eX5_whoCut_88 fX5_10 rfl rfl ?_
      refine x_iload7 eX5_whoCut_91 ?_
      obtain ⟨r4, hr, hm⟩ := xo_bind hm
      refine x_Vi1 eX5_whoCut_93 kX1_isNested mX5_229 (t_X1_isNested hr) rfl (Nat.le_of_ble_eq_true rfl) ?_
      refine x_if_ne eX5_whoCut_96 (fun c => ?_) (fun c => ?_)
      · rw [if_neg c] at hm
        refine x_iload7 eX5_whoCut_121 ?_
        refine x_iload3 eX5_whoCut_123 ?_
        refine x_Si2 eX5_whoCut_124 kX5_nextSet mX5_185 (t_X5_nextSet rfl) (Nat.le_of_ble_eq_true rfl) ?_
        refine x_istore7 eX5_whoCut_127 rfl ?_
        refine x_iinc8 eX5_whoCut_129 rfl ?_
        refine x_goto eX5_whoCut_132 ?_
        exact ih hm
      · rw [if_pos c] at hm
        refine x_aload0 eX5_whoCut_99 ?_
        refine x_iload7 eX5_whoCut_100 ?_
        obtain ⟨r5, hr, hm⟩ := xo_bind hm
        refine x_Vi1 eX5_whoCut_102 kX5_fitsClues mX5_232 (t_X5_fitsClues hr) rfl (Nat.le_of_ble_eq_true rfl) ?_
        refine x_if_eq eX5_whoCut_105 (fun c => ?_) (fun c => ?_)
        · rw [if_pos c] at hm
          refine x_iload7 eX5_whoCut_121 ?_
          refine x_iload3 eX5_whoCut_123 ?_
          refine x_Si2 eX5_whoCut_124 kX5_nextSet mX5_185 (t_X5_nextSet rfl) (Nat.le_of_ble_eq_true rfl) ?_
          refine x_istore7 eX5_whoCut_127 rfl ?_
          refine x_iinc8 eX5_whoCut_129 rfl ?_
          refine x_goto eX5_whoCut_132 ?_
          exact ih hm
        · rw [if_neg c] at hm
          refine x_iinc5 eX5_whoCut_108 rfl ?_
          refine x_iload6 eX5_whoCut_111 ?_
          refine x_k eX5_whoCut_113 ?_
          refine x_icmp_ne eX5_whoCut_114 (fun c => ?_) (fun c => ?_)
          · rw [if_neg c] at hm
            refine x_iload7 eX5_whoCut_121 ?_
            refine x_iload3 eX5_whoCut_123 ?_
            refine x_Si2 eX5_whoCut_124 kX5_nextSet mX5_185 (t_X5_nextSet rfl) (Nat.le_of_ble_eq_true rfl) ?_
            refine x_istore7 eX5_whoCut_127 rfl ?_
            refine x_iinc8 eX5_whoCut_129 rfl ?_
            refine x_goto eX5_whoCut_132 ?_
            exact ih hm
          · rw [if_pos c] at hm
            refine x_iload7 eX5_whoCut_117 ?_
            refine x_istore6 eX5_whoCut_119 rfl ?_
            refine x_iload7 eX5_whoCut_121 ?_
            refine x_iload3 eX5_whoCut_123 ?_
            refine x_Si2 eX5_whoCut_124 kX5_nextSet mX5_185 (t_X5_nextSet rfl) (Nat.le_of_ble_eq_true rfl) ?_
            refine x_istore7 eX5_whoCut_127 rfl ?_
            refine x_iinc8 eX5_whoCut_129 rfl ?_
            refine x_goto eX5_whoCut_132 ?_
            exact ih hm
set_option maxRecDepth 4000 in
theorem t_X5_whoCut {o : Int32 × (Nat → Int32) × (Nat → Int32) × (Nat → Int32)} {p1 : Int32} {p2 : Int32} (hm : sp_X5_whoCut p1 p2 o_size o_gone o_minds o_lasts o_parent o_kind o_number o_above o_kidCount o_lead s_sort s_size s_items x_clues = some o) : xt_M yX5_whoCut cX5_whoCut 9 (some .int) (d + 5) [.ref 0, .int p1, .int p2] (WX o_size o_year o_gone o_minds o_lasts r_size r_token r_place r_at r_open r_made t_size t_rule i_there i_rule i_size i_year i_gone i_minds i_lasts o_parent o_kind o_number o_odds o_above o_kidCount o_lead r_tape r_steps r_ends t_steps t_ends t_stack s_sort s_size s_items i_number i_odds x_prices x_facts x_laws x_clues) (xt_Ki o.1 (WX o_size o_year o_gone o_minds o_lasts r_size r_token r_place r_at r_open r_made t_size t_rule i_there i_rule i_size i_year i_gone i_minds i_lasts o_parent o_kind o_number o_odds o_above o.2.1 o.2.2.1 r_tape r_steps r_ends t_steps t_ends t_stack s_sort s_size s_items i_number i_odds x_prices x_facts x_laws o.2.2.2)) := by
  unfold sp_X5_whoCut at hm
  refine xt_M.go (own := RX5) (lv := [some (.ref 0), some (.int p1), some (.int p2), none, none, none, none, none, none]) rfl rfl (Nat.le_of_ble_eq_true rfl) rfl ?_
  refine x_iload1 eX5_whoCut_0 ?_
  refine x_k eX5_whoCut_1 ?_
  refine x_k eX5_whoCut_2 ?_
  refine x_Si3 eX5_whoCut_3 kX5_isIn mX5_88 (t_X5_isIn rfl) (Nat.le_of_ble_eq_true rfl) ?_
  refine x_if_eq eX5_whoCut_6 (fun c => ?_) (fun c => ?_)
  · rw [if_pos c] at hm
    refine x_k eX5_whoCut_18 ?_
    obtain rfl := Option.some.inj hm
    exact x_iret eX5_whoCut_20 ⟨rfl, rfl⟩
  · rw [if_neg c] at hm
    refine x_iload2 eX5_whoCut_9 ?_
    refine x_k eX5_whoCut_10 ?_
    refine x_k eX5_whoCut_11 ?_
    refine x_Si3 eX5_whoCut_12 kX5_isIn mX5_88 (t_X5_isIn rfl) (Nat.le_of_ble_eq_true rfl) ?_
    refine x_if_ne eX5_whoCut_15 (fun c => ?_) (fun c => ?_)
    · rw [if_neg c] at hm
      refine x_aload0 eX5_whoCut_21 ?_
      refine x_get eX5_whoCut_22 fX5_33 rfl rfl ?_
      refine x_get eX5_whoCut_25 fX5_223 rfl rfl ?_
      refine x_iload1 eX5_whoCut_28 ?_
      obtain ⟨v1, hv, hm⟩ := xo_bind hm
      obtain ⟨hi, rfl⟩ := xo_at_some hv
      refine x_iaload eX5_whoCut_29 rfl hi ?_
      refine x_k eX5_whoCut_30 ?_
      refine x_icmp_ne eX5_whoCut_31 (fun c => ?_) (fun c => ?_)
      · rw [if_neg c] at hm
        refine x_aload0 eX5_whoCut_37 ?_
        refine x_iload1 eX5_whoCut_38 ?_
        obtain ⟨r2, hr, hm⟩ := xo_bind hm
        refine x_Vi1 eX5_whoCut_39 kX5_readsClues mX5_226 (t_X5_readsClues hr) rfl (Nat.le_of_ble_eq_true rfl) ?_
        refine x_if_ne eX5_whoCut_42 (fun c => ?_) (fun c => ?_)
        · rw [if_neg c] at hm
          refine x_aload0 eX5_whoCut_48 ?_
          refine x_get eX5_whoCut_49 fX5_10 rfl rfl ?_
          refine x_k eX5_whoCut_52 ?_
          obtain ⟨r3, hr, hm⟩ := xo_bind hm
          refine x_Vi1 eX5_whoCut_53 kX1_standing mX5_125 (t_X1_standing hr) rfl (Nat.le_of_ble_eq_true rfl) ?_
          refine x_k eX5_whoCut_56 ?_
          refine x_k eX5_whoCut_57 ?_
          refine x_Si3 eX5_whoCut_58 kX5_withBit mX5_113 (t_X5_withBit rfl) (Nat.le_of_ble_eq_true rfl) ?_
          refine x_istore3 eX5_whoCut_61 rfl ?_
          refine x_iload3 eX5_whoCut_62 ?_
          refine x_Si1 eX5_whoCut_63 kX5_waysOf mX5_179 (t_X5_waysOf rfl) (Nat.le_of_ble_eq_true rfl) ?_
          refine x_istore4 eX5_whoCut_66 rfl ?_
          refine x_k eX5_whoCut_68 ?_
          refine x_istore5 eX5_whoCut_69 rfl ?_
          refine x_k eX5_whoCut_71 ?_
          refine x_istore6 eX5_whoCut_72 rfl ?_
          refine x_k eX5_whoCut_74 ?_
          refine x_istore7 eX5_whoCut_75 rfl ?_
          refine x_k eX5_whoCut_77 ?_
          refine x_istore8 eX5_whoCut_78 rfl ?_
          exact l_X5_whoCut_80 _ hm
        · rw [if_pos c] at hm
          refine x_k eX5_whoCut_45 ?_
          obtain rfl := Option.some.inj hm
          exact x_iret eX5_whoCut_47 ⟨rfl, rfl⟩
      · rw [if_pos c] at hm
        refine x_k eX5_whoCut_34 ?_
        obtain rfl := Option.some.inj hm
        exact x_iret eX5_whoCut_36 ⟨rfl, rfl⟩
    · rw [if_pos c] at hm
      refine x_k eX5_whoCut_18 ?_
      obtain rfl := Option.some.inj hm
      exact x_iret eX5_whoCut_20 ⟨rfl, rfl⟩
set_option maxRecDepth 4000 in
theorem l_X5_lawByLot_9 {o : Int32 × (Nat → Int32) × (Nat → Int32)} {u2 : Int32} {u3 : Int32} {o_size : Int32} {o_lasts : Int32} {o_parent : Nat → Int32} {o_kind : Nat → Int32} {o_number : Nat → Int32} {o_odds : Nat → Int32} {u1 : Int32} : ∀ (n : Nat) {u4 : Int32} {u5 : Int32} {u6 : Int32} {o_kidCount : Nat → Int32} {o_lead : Nat → Int32}, sp_X5_lawByLot_9 u2 u3 o_size o_lasts o_parent o_kind o_number o_odds n u4 u5 u6 o_kidCount o_lead = some o → xt_T RX5 cX5_lawByLot 7 (some .int) (d + 4) (xt_Ki o.1 (WX o_size o_year o_gone o_minds o_lasts r_size r_token r_place r_at r_open r_made t_size t_rule i_there i_rule i_size i_year i_gone i_minds i_lasts o_parent o_kind o_number o_odds o_above o.2.1 o.2.2 r_tape r_steps r_ends t_steps t_ends t_stack s_sort s_size s_items i_number i_odds x_prices x_facts x_laws x_clues)) 9 [some (.ref 0), some (.int u1), some (.int u2), some (.int u3), some (.int u4), some (.int u5), some (.int u6)] [] (WX o_size o_year o_gone o_minds o_lasts r_size r_token r_place r_at r_open r_made t_size t_rule i_there i_rule i_size i_year i_gone i_minds i_lasts o_parent o_kind o_number o_odds o_above o_kidCount o_lead r_tape r_steps r_ends t_steps t_ends t_stack s_sort s_size s_items i_number i_odds x_prices x_facts x_laws x_clues) := by
  intro n
  induction n with
  | zero => intro u4 u5 u6 o_kidCount o_lead hm; rw [sp_X5_lawByLot_9] at hm; cases hm
  | succ n ih =>
    intro u4 u5 u6 o_kidCount o_lead hm
    rw [sp_X5_lawByLot_9] at hm
    refine x_iload6 eX5_lawByLot_9 ?_
    refine x_k eX5_lawByLot_11 ?_
    refine x_icmp_ge eX5_lawByLot_13 (fun c => ?_) (fun c => ?_)
    · rw [if_pos c] at hm
      refine x_aload0 eX5_lawByLot_74 ?_
      refine x_get eX5_lawByLot_75 fX5_10 rfl rfl ?_
      refine x_iload2 eX5_lawByLot_78 ?_
      refine x_iload5 eX5_lawByLot_79 ?_
      obtain ⟨r1, hr, hm⟩ := xo_bind hm
      refine x_Vi2 eX5_lawByLot_81 kX1_vote mX5_137 (t_X1_vote hr) rfl (Nat.le_of_ble_eq_true rfl) ?_
      refine x_k eX5_lawByLot_84 ?_
      refine x_Si2 eX5_lawByLot_85 kX5_bit mX5_109 (t_X5_bit rfl) (Nat.le_of_ble_eq_true rfl) ?_
      obtain rfl := Option.some.inj hm
      exact x_iret eX5_lawByLot_88 ⟨rfl, rfl⟩
    · rw [if_neg c] at hm
      refine x_iload3 eX5_lawByLot_16 ?_
      refine x_iload6 eX5_lawByLot_17 ?_
      refine x_Si2 eX5_lawByLot_19 kX5_bit mX5_109 (t_X5_bit rfl) (Nat.le_of_ble_eq_true rfl) ?_
      refine x_k eX5_lawByLot_22 ?_
      refine x_icmp_ne eX5_lawByLot_23 (fun c => ?_) (fun c => ?_)
      · rw [if_neg c] at hm
        refine x_iinc6 eX5_lawByLot_68 rfl ?_
        refine x_goto eX5_lawByLot_71 ?_
        exact ih hm
      · rw [if_pos c] at hm
        refine x_iload4 eX5_lawByLot_26 ?_
        refine x_ldcw eX5_lawByLot_28 cX5_308 ?_
        refine x_imul eX5_lawByLot_31 ?_
        refine x_k eX5_lawByLot_32 ?_
        refine x_iadd eX5_lawByLot_35 ?_
        refine x_istore4 eX5_lawByLot_36 rfl ?_
        refine x_iload4 eX5_lawByLot_38 ?_
        refine x_k eX5_lawByLot_40 ?_
        refine x_iushr eX5_lawByLot_42 ?_
        refine x_k eX5_lawByLot_43 ?_
        refine x_irem eX5_lawByLot_45 (by decide) ?_
        refine x_aload0 eX5_lawByLot_46 ?_
        refine x_get eX5_lawByLot_47 fX5_10 rfl rfl ?_
        refine x_get eX5_lawByLot_50 fX5_116 rfl rfl ?_
        refine x_iload6 eX5_lawByLot_53 ?_
        obtain ⟨v2, hv, hm⟩ := xo_bind hm
        obtain ⟨hi, rfl⟩ := xo_at_some hv
        refine x_iaload eX5_lawByLot_55 rfl hi ?_
        refine x_icmp_ge eX5_lawByLot_56 (fun c => ?_) (fun c => ?_)
        · rw [if_pos c] at hm
          refine x_iinc6 eX5_lawByLot_68 rfl ?_
          refine x_goto eX5_lawByLot_71 ?_
          exact ih hm
        · rw [if_neg c] at hm
          refine x_iload5 eX5_lawByLot_59 ?_
          refine x_k eX5_lawByLot_61 ?_
          refine x_iload6 eX5_lawByLot_62 ?_
          refine x_ishl eX5_lawByLot_64 ?_
          refine x_ior eX5_lawByLot_65 ?_
          refine x_istore5 eX5_lawByLot_66 rfl ?_
          refine x_iinc6 eX5_lawByLot_68 rfl ?_
          refine x_goto eX5_lawByLot_71 ?_
          exact ih hm
set_option maxRecDepth 4000 in
theorem t_X5_lawByLot {o : Int32 × (Nat → Int32) × (Nat → Int32)} {p1 : Int32} {p2 : Int32} {p3 : Int32} (hm : sp_X5_lawByLot p1 p2 p3 o_size o_lasts o_parent o_kind o_number o_odds o_kidCount o_lead = some o) : xt_M yX5_lawByLot cX5_lawByLot 7 (some .int) (d + 4) [.ref 0, .int p1, .int p2, .int p3] (WX o_size o_year o_gone o_minds o_lasts r_size r_token r_place r_at r_open r_made t_size t_rule i_there i_rule i_size i_year i_gone i_minds i_lasts o_parent o_kind o_number o_odds o_above o_kidCount o_lead r_tape r_steps r_ends t_steps t_ends t_stack s_sort s_size s_items i_number i_odds x_prices x_facts x_laws x_clues) (xt_Ki o.1 (WX o_size o_year o_gone o_minds o_lasts r_size r_token r_place r_at r_open r_made t_size t_rule i_there i_rule i_size i_year i_gone i_minds i_lasts o_parent o_kind o_number o_odds o_above o.2.1 o.2.2 r_tape r_steps r_ends t_steps t_ends t_stack s_sort s_size s_items i_number i_odds x_prices x_facts x_laws x_clues)) := by
  unfold sp_X5_lawByLot at hm
  refine xt_M.go (own := RX5) (lv := [some (.ref 0), some (.int p1), some (.int p2), some (.int p3), none, none, none]) rfl rfl (Nat.le_of_ble_eq_true rfl) rfl ?_
  refine x_iload1 eX5_lawByLot_0 ?_
  refine x_istore4 eX5_lawByLot_1 rfl ?_
  refine x_k eX5_lawByLot_3 ?_
  refine x_istore5 eX5_lawByLot_4 rfl ?_
  refine x_k eX5_lawByLot_6 ?_
  refine x_istore6 eX5_lawByLot_7 rfl ?_
  exact l_X5_lawByLot_9 _ hm
set_option maxRecDepth 4000 in
theorem t_X5_drawn {o : Int32 × (Nat → Int32) × (Nat → Int32)} {p1 : Int32} (hm : sp_X5_drawn p1 o_size o_gone o_lasts o_parent o_kind o_number o_odds o_above o_kidCount o_lead = some o) : xt_M yX5_drawn cX5_drawn 3 (some .int) (d + 5) [.ref 0, .int p1] (WX o_size o_year o_gone o_minds o_lasts r_size r_token r_place r_at r_open r_made t_size t_rule i_there i_rule i_size i_year i_gone i_minds i_lasts o_parent o_kind o_number o_odds o_above o_kidCount o_lead r_tape r_steps r_ends t_steps t_ends t_stack s_sort s_size s_items i_number i_odds x_prices x_facts x_laws x_clues) (xt_Ki o.1 (WX o_size o_year o_gone o_minds o_lasts r_size r_token r_place r_at r_open r_made t_size t_rule i_there i_rule i_size i_year i_gone i_minds i_lasts o_parent o_kind o_number o_odds o_above o.2.1 o.2.2 r_tape r_steps r_ends t_steps t_ends t_stack s_sort s_size s_items i_number i_odds x_prices x_facts x_laws x_clues)) := by
  unfold sp_X5_drawn at hm
  refine xt_M.go (own := RX5) (lv := [some (.ref 0), some (.int p1), none]) rfl rfl (Nat.le_of_ble_eq_true rfl) rfl ?_
  refine x_aload0 eX5_drawn_0 ?_
  refine x_get eX5_drawn_1 fX5_10 rfl rfl ?_
  refine x_k eX5_drawn_4 ?_
  obtain ⟨r1, hr, hm⟩ := xo_bind hm
  refine x_Vi1 eX5_drawn_5 kX1_standing mX5_125 (t_X1_standing hr) rfl (Nat.le_of_ble_eq_true rfl) ?_
  refine x_istore2 eX5_drawn_8 rfl ?_
  refine x_aload0 eX5_drawn_9 ?_
  refine x_iload1 eX5_drawn_10 ?_
  refine x_iload2 eX5_drawn_11 ?_
  refine x_aload0 eX5_drawn_12 ?_
  refine x_get eX5_drawn_13 fX5_10 rfl rfl ?_
  refine x_iload2 eX5_drawn_16 ?_
  obtain ⟨r2, hr, hm⟩ := xo_bind hm
  refine x_Vi1 eX5_drawn_17 kX1_twigsOf mX5_134 (t_X1_twigsOf hr) rfl (Nat.le_of_ble_eq_true rfl) ?_
  obtain ⟨r3, hr, hm⟩ := xo_bind hm
  refine x_Vi3 eX5_drawn_20 kX5_lawByLot mX5_235 (t_X5_lawByLot hr) rfl (Nat.le_of_ble_eq_true rfl) ?_
  obtain rfl := Option.some.inj hm
  exact x_iret eX5_drawn_23 ⟨rfl, rfl⟩
set_option maxRecDepth 4000 in
theorem l_X5_chance_50 {o : Int64 × (Nat → Int32) × (Nat → Int32)} {u1 : Int32} {u2 : Int32} {u3 : Int32} {u4 : Int32} {u5 : Int32} {o_size : Int32} {o_lasts : Int32} {o_parent : Nat → Int32} {o_kind : Nat → Int32} {o_number : Nat → Int32} {o_odds : Nat → Int32} : ∀ (n : Nat) {u6 : Int32} {u7 : Int32} {o_kidCount : Nat → Int32} {o_lead : Nat → Int32}, sp_X5_chance_50 u1 u2 u3 u4 u5 o_size o_lasts o_parent o_kind o_number o_odds n u6 u7 o_kidCount o_lead = some o → xt_T RX5 cX5_chance 8 (some .long) (d + 5) (xt_Kl o.1 (WX o_size o_year o_gone o_minds o_lasts r_size r_token r_place r_at r_open r_made t_size t_rule i_there i_rule i_size i_year i_gone i_minds i_lasts o_parent o_kind o_number o_odds o_above o.2.1 o.2.2 r_tape r_steps r_ends t_steps t_ends t_stack s_sort s_size s_items i_number i_odds x_prices x_facts x_laws x_clues)) 50 [some (.ref 0), some (.int u1), some (.int u2), some (.int u3), some (.int u4), some (.int u5), some (.int u6), some (.int u7)] [] (WX o_size o_year o_gone o_minds o_lasts r_size r_token r_place r_at r_open r_made t_size t_rule i_there i_rule i_size i_year i_gone i_minds i_lasts o_parent o_kind o_number o_odds o_above o_kidCount o_lead r_tape r_steps r_ends t_steps t_ends t_stack s_sort s_size s_items i_number i_odds x_prices x_facts x_laws x_clues) := by
  intro n
  induction n with
  | zero => intro u6 u7 o_kidCount o_lead hm; rw [sp_X5_chance_50] at hm; cases hm
  | succ n ih =>
    intro u6 u7 o_kidCount o_lead hm
    rw [sp_X5_chance_50] at hm
    refine x_iload7 eX5_chance_50 ?_
    refine x_iload2 eX5_chance_52 ?_
    refine x_icmp_ge eX5_chance_53 (fun c => ?_) (fun c => ?_)
    · rw [if_pos c] at hm
      refine x_iload6 eX5_chance_79 ?_
      refine x_i2l eX5_chance_81 ?_
      refine x_iload2 eX5_chance_82 ?_
      refine x_i2l eX5_chance_83 ?_
      refine x_iload3 eX5_chance_84 ?_
      obtain ⟨r3, hr, hm⟩ := xo_bind hm
      refine x_Sl3 eX5_chance_85 kX5_lowest mX5_208 (t_X5_lowest hr) (Nat.le_of_ble_eq_true rfl) ?_
      obtain rfl := Option.some.inj hm
      exact x_lret eX5_chance_88 ⟨rfl, rfl⟩
    · rw [if_neg c] at hm
      refine x_iload6 eX5_chance_56 ?_
      refine x_aload0 eX5_chance_58 ?_
      refine x_iload1 eX5_chance_59 ?_
      refine x_iload7 eX5_chance_60 ?_
      refine x_iadd eX5_chance_62 ?_
      refine x_iload4 eX5_chance_63 ?_
      refine x_iload5 eX5_chance_65 ?_
      obtain ⟨r4, hr, hm⟩ := xo_bind hm
      refine x_Vi3 eX5_chance_67 kX5_lawByLot mX5_235 (t_X5_lawByLot hr) rfl (Nat.le_of_ble_eq_true rfl) ?_
      refine x_iadd eX5_chance_70 ?_
      refine x_istore6 eX5_chance_71 rfl ?_
      refine x_iinc7 eX5_chance_73 rfl ?_
      refine x_goto eX5_chance_76 ?_
      exact ih hm
set_option maxRecDepth 4000 in
theorem t_X5_chance {o : Int64 × (Nat → Int32) × (Nat → Int32)} {p1 : Int32} {p2 : Int32} {p3 : Int32} (hm : sp_X5_chance p1 p2 p3 o_size o_gone o_lasts o_parent o_kind o_number o_odds o_above o_kidCount o_lead = some o) : xt_M yX5_chance cX5_chance 8 (some .long) (d + 5) [.ref 0, .int p1, .int p2, .int p3] (WX o_size o_year o_gone o_minds o_lasts r_size r_token r_place r_at r_open r_made t_size t_rule i_there i_rule i_size i_year i_gone i_minds i_lasts o_parent o_kind o_number o_odds o_above o_kidCount o_lead r_tape r_steps r_ends t_steps t_ends t_stack s_sort s_size s_items i_number i_odds x_prices x_facts x_laws x_clues) (xt_Kl o.1 (WX o_size o_year o_gone o_minds o_lasts r_size r_token r_place r_at r_open r_made t_size t_rule i_there i_rule i_size i_year i_gone i_minds i_lasts o_parent o_kind o_number o_odds o_above o.2.1 o.2.2 r_tape r_steps r_ends t_steps t_ends t_stack s_sort s_size s_items i_number i_odds x_prices x_facts x_laws x_clues)) := by
  unfold sp_X5_chance at hm
  refine xt_M.go (own := RX5) (lv := [some (.ref 0), some (.int p1), some (.int p2), some (.int p3), none, none, none, none]) rfl rfl (Nat.le_of_ble_eq_true rfl) rfl ?_
  refine x_iload2 eX5_chance_0 ?_
  refine x_k eX5_chance_1 ?_
  refine x_k eX5_chance_2 ?_
  refine x_Si3 eX5_chance_4 kX5_isIn mX5_88 (t_X5_isIn rfl) (Nat.le_of_ble_eq_true rfl) ?_
  refine x_if_eq eX5_chance_7 (fun c => ?_) (fun c => ?_)
  · rw [if_pos c] at hm
    refine x_ldc2 eX5_chance_19 cX5_198 ?_
    obtain rfl := Option.some.inj hm
    exact x_lret eX5_chance_22 ⟨rfl, rfl⟩
  · rw [if_neg c] at hm
    refine x_iload3 eX5_chance_10 ?_
    refine x_k eX5_chance_11 ?_
    refine x_k eX5_chance_12 ?_
    refine x_Si3 eX5_chance_13 kX5_isIn mX5_88 (t_X5_isIn rfl) (Nat.le_of_ble_eq_true rfl) ?_
    refine x_if_ne eX5_chance_16 (fun c => ?_) (fun c => ?_)
    · rw [if_neg c] at hm
      refine x_aload0 eX5_chance_23 ?_
      refine x_get eX5_chance_24 fX5_10 rfl rfl ?_
      refine x_k eX5_chance_27 ?_
      obtain ⟨r1, hr, hm⟩ := xo_bind hm
      refine x_Vi1 eX5_chance_28 kX1_standing mX5_125 (t_X1_standing hr) rfl (Nat.le_of_ble_eq_true rfl) ?_
      refine x_istore4 eX5_chance_31 rfl ?_
      refine x_aload0 eX5_chance_33 ?_
      refine x_get eX5_chance_34 fX5_10 rfl rfl ?_
      refine x_iload4 eX5_chance_37 ?_
      obtain ⟨r2, hr, hm⟩ := xo_bind hm
      refine x_Vi1 eX5_chance_39 kX1_twigsOf mX5_134 (t_X1_twigsOf hr) rfl (Nat.le_of_ble_eq_true rfl) ?_
      refine x_istore5 eX5_chance_42 rfl ?_
      refine x_k eX5_chance_44 ?_
      refine x_istore6 eX5_chance_45 rfl ?_
      refine x_k eX5_chance_47 ?_
      refine x_istore7 eX5_chance_48 rfl ?_
      exact l_X5_chance_50 _ hm
    · rw [if_pos c] at hm
      refine x_ldc2 eX5_chance_19 cX5_198 ?_
      obtain rfl := Option.some.inj hm
      exact x_lret eX5_chance_22 ⟨rfl, rfl⟩
set_option maxRecDepth 4000 in
theorem t_X5_image {o : Int32 × Int32 × Int32 × Int32 × Int32 × Int32 × Int32 × Int32 × (Nat → Int32) × (Nat → Int32)}  (hm : sp_X5_image o_size o_year o_gone o_minds o_lasts t_rule i_there i_rule i_size i_year i_gone i_minds i_lasts o_number o_odds i_number i_odds = some o) : xt_M yX5_image cX5_image 1 (some .int) (d + 2) [.ref 0] (WX o_size o_year o_gone o_minds o_lasts r_size r_token r_place r_at r_open r_made t_size t_rule i_there i_rule i_size i_year i_gone i_minds i_lasts o_parent o_kind o_number o_odds o_above o_kidCount o_lead r_tape r_steps r_ends t_steps t_ends t_stack s_sort s_size s_items i_number i_odds x_prices x_facts x_laws x_clues) (xt_Ki o.1 (WX o_size o_year o_gone o_minds o_lasts r_size r_token r_place r_at r_open r_made t_size t_rule o.2.1 o.2.2.1 o.2.2.2.1 o.2.2.2.2.1 o.2.2.2.2.2.1 o.2.2.2.2.2.2.1 o.2.2.2.2.2.2.2.1 o_parent o_kind o_number o_odds o_above o_kidCount o_lead r_tape r_steps r_ends t_steps t_ends t_stack s_sort s_size s_items o.2.2.2.2.2.2.2.2.1 o.2.2.2.2.2.2.2.2.2 x_prices x_facts x_laws x_clues)) := by
  unfold sp_X5_image at hm
  refine xt_M.go (own := RX5) (lv := [some (.ref 0)]) rfl rfl (Nat.le_of_ble_eq_true rfl) rfl ?_
  refine x_aload0 eX5_image_0 ?_
  refine x_get eX5_image_1 fX5_40 rfl rfl ?_
  refine x_aload0 eX5_image_4 ?_
  refine x_get eX5_image_5 fX5_10 rfl rfl ?_
  refine x_aload0 eX5_image_8 ?_
  refine x_get eX5_image_9 fX5_26 rfl rfl ?_
  refine x_get eX5_image_12 fX5_161 rfl rfl ?_
  obtain ⟨r1, hr, hm⟩ := xo_bind hm
  refine x_Vv2 eX5_image_15 kX0_keep mX5_238 (t_X0_keep_p1 hr) rfl (Nat.le_of_ble_eq_true rfl) ?_
  refine x_aload0 eX5_image_18 ?_
  refine x_get eX5_image_19 fX5_10 rfl rfl ?_
  refine x_get eX5_image_22 fX5_242 rfl rfl ?_
  obtain rfl := Option.some.inj hm
  exact x_iret eX5_image_25 ⟨rfl, rfl⟩
set_option maxRecDepth 4000 in
theorem t_X5_back {o : Int32 × Int32 × Int32 × Int32 × Int32 × Int32 × Int32 × (Nat → Int32) × (Nat → Int32)}  (hm : sp_X5_back o_size o_year o_gone o_minds o_lasts t_rule i_there i_rule i_size i_year i_gone i_minds i_lasts o_number o_odds i_number i_odds = some o) : xt_M yX5_back cX5_back 1 (some .int) (d + 2) [.ref 0] (WX o_size o_year o_gone o_minds o_lasts r_size r_token r_place r_at r_open r_made t_size t_rule i_there i_rule i_size i_year i_gone i_minds i_lasts o_parent o_kind o_number o_odds o_above o_kidCount o_lead r_tape r_steps r_ends t_steps t_ends t_stack s_sort s_size s_items i_number i_odds x_prices x_facts x_laws x_clues) (xt_Ki o.1 (WX o.2.1 o.2.2.1 o.2.2.2.1 o.2.2.2.2.1 o.2.2.2.2.2.1 r_size r_token r_place r_at r_open r_made t_size o.2.2.2.2.2.2.1 i_there i_rule i_size i_year i_gone i_minds i_lasts o_parent o_kind o.2.2.2.2.2.2.2.1 o.2.2.2.2.2.2.2.2 o_above o_kidCount o_lead r_tape r_steps r_ends t_steps t_ends t_stack s_sort s_size s_items i_number i_odds x_prices x_facts x_laws x_clues)) := by
  unfold sp_X5_back at hm
  refine xt_M.go (own := RX5) (lv := [some (.ref 0)]) rfl rfl (Nat.le_of_ble_eq_true rfl) rfl ?_
  refine x_aload0 eX5_back_0 ?_
  refine x_get eX5_back_1 fX5_40 rfl rfl ?_
  refine x_get eX5_back_4 fX5_243 rfl rfl ?_
  refine x_if_ne eX5_back_7 (fun c => ?_) (fun c => ?_)
  · rw [if_neg c] at hm
    refine x_aload0 eX5_back_13 ?_
    refine x_get eX5_back_14 fX5_40 rfl rfl ?_
    refine x_aload0 eX5_back_17 ?_
    refine x_get eX5_back_18 fX5_10 rfl rfl ?_
    obtain ⟨r1, hr, hm⟩ := xo_bind hm
    refine x_Vv1 eX5_back_21 kX0_layBack mX5_247 (t_X0_layBack_p1 hr) rfl (Nat.le_of_ble_eq_true rfl) ?_
    refine x_aload0 eX5_back_24 ?_
    refine x_get eX5_back_25 fX5_26 rfl rfl ?_
    refine x_aload0 eX5_back_28 ?_
    refine x_get eX5_back_29 fX5_40 rfl rfl ?_
    refine x_get eX5_back_32 fX5_251 rfl rfl ?_
    refine x_puti (w' := WX _ _ _ _ _ _ _ _ _ _ _ _ _ _ _ _ _ _ _ _ _ _ _ _ _ _ _ _ _ _ _ _ _ _ _ _ _ _ _ _ _ _) eX5_back_35 pX5_161 rfl (Nat.le_of_ble_eq_true rfl) rfl ?_
    refine x_aload0 eX5_back_38 ?_
    refine x_get eX5_back_39 fX5_10 rfl rfl ?_
    refine x_get eX5_back_42 fX5_242 rfl rfl ?_
    obtain rfl := Option.some.inj hm
    exact x_iret eX5_back_45 ⟨rfl, rfl⟩
  · rw [if_pos c] at hm
    refine x_k eX5_back_10 ?_
    obtain rfl := Option.some.inj hm
    exact x_iret eX5_back_12 ⟨rfl, rfl⟩
set_option maxRecDepth 4000 in
theorem t_X5_count {o : Int32} {p1 : Int32} (hm : sp_X5_count p1 o_size o_year o_gone r_size t_size t_rule o_parent o_above = some o) : xt_M yX5_count cX5_count 2 (some .int) (d + 2) [.ref 0, .int p1] (WX o_size o_year o_gone o_minds o_lasts r_size r_token r_place r_at r_open r_made t_size t_rule i_there i_rule i_size i_year i_gone i_minds i_lasts o_parent o_kind o_number o_odds o_above o_kidCount o_lead r_tape r_steps r_ends t_steps t_ends t_stack s_sort s_size s_items i_number i_odds x_prices x_facts x_laws x_clues) (xt_Ki o (WX o_size o_year o_gone o_minds o_lasts r_size r_token r_place r_at r_open r_made t_size t_rule i_there i_rule i_size i_year i_gone i_minds i_lasts o_parent o_kind o_number o_odds o_above o_kidCount o_lead r_tape r_steps r_ends t_steps t_ends t_stack s_sort s_size s_items i_number i_odds x_prices x_facts x_laws x_clues)) := by
  unfold sp_X5_count at hm
  refine xt_M.go (own := RX5) (lv := [some (.ref 0), some (.int p1)]) rfl rfl (Nat.le_of_ble_eq_true rfl) rfl ?_
  refine x_iload1 eX5_count_0 ?_
  refine x_sw eX5_count_1 (xt_sw_cons (fun c => ?_) (fun d0 => (xt_sw_cons (fun c => ?_) (fun d1 => (xt_sw_cons (fun c => ?_) (fun d2 => (xt_sw_cons (fun c => ?_) (fun d3 => (xt_sw_cons (fun c => ?_) (fun d4 => (xt_sw_cons (fun c => ?_) (fun d5 => (xt_sw_cons (fun c => ?_) (fun d6 => (xt_sw_nil ?_)))))))))))))))
  · rw [if_pos c] at hm
    refine x_aload0 eX5_count_44 ?_
    refine x_get eX5_count_45 fX5_10 rfl rfl ?_
    refine x_get eX5_count_48 fX5_242 rfl rfl ?_
    obtain rfl := Option.some.inj hm
    exact x_iret eX5_count_51 ⟨rfl, rfl⟩
  · rw [if_neg d0, if_pos c] at hm
    refine x_aload0 eX5_count_52 ?_
    refine x_get eX5_count_53 fX5_10 rfl rfl ?_
    refine x_k eX5_count_56 ?_
    obtain ⟨r1, hr, hm⟩ := xo_bind hm
    refine x_Vi1 eX5_count_57 kX1_standing mX5_125 (t_X1_standing hr) rfl (Nat.le_of_ble_eq_true rfl) ?_
    refine x_Si1 eX5_count_60 kJ6_bitCount_0f7a4 mX5_143 (t_J6_bitCount_0f7a4 rfl) (Nat.le_of_ble_eq_true rfl) ?_
    obtain rfl := Option.some.inj hm
    exact x_iret eX5_count_63 ⟨rfl, rfl⟩
  · rw [if_neg d0, if_neg d1, if_pos c] at hm
    refine x_aload0 eX5_count_64 ?_
    refine x_get eX5_count_65 fX5_10 rfl rfl ?_
    refine x_aload0 eX5_count_68 ?_
    refine x_get eX5_count_69 fX5_10 rfl rfl ?_
    refine x_k eX5_count_72 ?_
    obtain ⟨r2, hr, hm⟩ := xo_bind hm
    refine x_Vi1 eX5_count_73 kX1_standing mX5_125 (t_X1_standing hr) rfl (Nat.le_of_ble_eq_true rfl) ?_
    obtain ⟨r3, hr, hm⟩ := xo_bind hm
    refine x_Vi1 eX5_count_76 kX1_twigsOf mX5_134 (t_X1_twigsOf hr) rfl (Nat.le_of_ble_eq_true rfl) ?_
    refine x_Si1 eX5_count_79 kJ6_bitCount_0f7a4 mX5_143 (t_J6_bitCount_0f7a4 rfl) (Nat.le_of_ble_eq_true rfl) ?_
    obtain rfl := Option.some.inj hm
    exact x_iret eX5_count_82 ⟨rfl, rfl⟩
  · rw [if_neg d0, if_neg d1, if_neg d2, if_pos c] at hm
    refine x_aload0 eX5_count_83 ?_
    refine x_get eX5_count_84 fX5_26 rfl rfl ?_
    refine x_get eX5_count_87 fX5_157 rfl rfl ?_
    obtain rfl := Option.some.inj hm
    exact x_iret eX5_count_90 ⟨rfl, rfl⟩
  · rw [if_neg d0, if_neg d1, if_neg d2, if_neg d3, if_pos c] at hm
    refine x_aload0 eX5_count_91 ?_
    refine x_get eX5_count_92 fX5_19 rfl rfl ?_
    refine x_get eX5_count_95 fX5_154 rfl rfl ?_
    obtain rfl := Option.some.inj hm
    exact x_iret eX5_count_98 ⟨rfl, rfl⟩
  · rw [if_neg d0, if_neg d1, if_neg d2, if_neg d3, if_neg d4, if_pos c] at hm
    refine x_aload0 eX5_count_99 ?_
    refine x_get eX5_count_100 fX5_26 rfl rfl ?_
    refine x_get eX5_count_103 fX5_161 rfl rfl ?_
    obtain rfl := Option.some.inj hm
    exact x_iret eX5_count_106 ⟨rfl, rfl⟩
  · rw [if_neg d0, if_neg d1, if_neg d2, if_neg d3, if_neg d4, if_neg d5, if_pos c] at hm
    refine x_aload0 eX5_count_107 ?_
    refine x_get eX5_count_108 fX5_10 rfl rfl ?_
    refine x_get eX5_count_111 fX5_122 rfl rfl ?_
    obtain rfl := Option.some.inj hm
    exact x_iret eX5_count_114 ⟨rfl, rfl⟩
  · rw [if_neg d0, if_neg d1, if_neg d2, if_neg d3, if_neg d4, if_neg d5, if_neg d6] at hm
    refine x_k eX5_count_115 ?_
    obtain rfl := Option.some.inj hm
    exact x_iret eX5_count_117 ⟨rfl, rfl⟩
set_option maxRecDepth 4000 in
theorem t_X5_sheet {o : Int32 × (Nat → Int32) × (Nat → Int32) × (Nat → Int32)} {p1 : Int32} {p2 : Int32} {p3 : Int32} (hm : sp_X5_sheet p1 p2 p3 s_sort s_size s_items = some o) : xt_M yX5_sheet cX5_sheet 4 (some .int) (d + 1) [.ref 0, .int p1, .int p2, .int p3] (WX o_size o_year o_gone o_minds o_lasts r_size r_token r_place r_at r_open r_made t_size t_rule i_there i_rule i_size i_year i_gone i_minds i_lasts o_parent o_kind o_number o_odds o_above o_kidCount o_lead r_tape r_steps r_ends t_steps t_ends t_stack s_sort s_size s_items i_number i_odds x_prices x_facts x_laws x_clues) (xt_Ki o.1 (WX o_size o_year o_gone o_minds o_lasts r_size r_token r_place r_at r_open r_made t_size t_rule i_there i_rule i_size i_year i_gone i_minds i_lasts o_parent o_kind o_number o_odds o_above o_kidCount o_lead r_tape r_steps r_ends t_steps t_ends t_stack o.2.1 o.2.2.1 o.2.2.2 i_number i_odds x_prices x_facts x_laws x_clues)) := by
  unfold sp_X5_sheet at hm
  refine xt_M.go (own := RX5) (lv := [some (.ref 0), some (.int p1), some (.int p2), some (.int p3)]) rfl rfl (Nat.le_of_ble_eq_true rfl) rfl ?_
  refine x_iload1 eX5_sheet_0 ?_
  refine x_k eX5_sheet_1 ?_
  refine x_k eX5_sheet_2 ?_
  refine x_Si3 eX5_sheet_3 kX5_isIn mX5_88 (t_X5_isIn rfl) (Nat.le_of_ble_eq_true rfl) ?_
  refine x_if_eq eX5_sheet_6 (fun c => ?_) (fun c => ?_)
  · rw [if_pos c] at hm
    refine x_k eX5_sheet_18 ?_
    obtain rfl := Option.some.inj hm
    exact x_iret eX5_sheet_20 ⟨rfl, rfl⟩
  · rw [if_neg c] at hm
    refine x_iload2 eX5_sheet_9 ?_
    refine x_k eX5_sheet_10 ?_
    refine x_k eX5_sheet_11 ?_
    refine x_Si3 eX5_sheet_12 kX5_isIn mX5_88 (t_X5_isIn rfl) (Nat.le_of_ble_eq_true rfl) ?_
    refine x_if_ne eX5_sheet_15 (fun c => ?_) (fun c => ?_)
    · rw [if_neg c] at hm
      refine x_iload2 eX5_sheet_21 ?_
      refine x_k eX5_sheet_22 ?_
      refine x_icmp_ne eX5_sheet_23 (fun c => ?_) (fun c => ?_)
      · rw [if_neg c] at hm
        refine x_iload3 eX5_sheet_38 ?_
        refine x_k eX5_sheet_39 ?_
        refine x_icmp_le eX5_sheet_41 (fun c => ?_) (fun c => ?_)
        · rw [if_pos c] at hm
          refine x_iload3 eX5_sheet_47 ?_
          refine x_if_ge eX5_sheet_48 (fun c => ?_) (fun c => ?_)
          · rw [if_pos c] at hm
            refine x_aload0 eX5_sheet_54 ?_
            refine x_get eX5_sheet_55 fX5_33 rfl rfl ?_
            refine x_iload1 eX5_sheet_58 ?_
            refine x_iload2 eX5_sheet_59 ?_
            refine x_iload3 eX5_sheet_60 ?_
            obtain ⟨r1, hr, hm⟩ := xo_bind hm
            refine x_Vv3 eX5_sheet_61 kX3_lay mX5_252 (t_X3_lay hr) rfl (Nat.le_of_ble_eq_true rfl) ?_
            refine x_k eX5_sheet_64 ?_
            obtain rfl := Option.some.inj hm
            exact x_iret eX5_sheet_65 ⟨rfl, rfl⟩
          · rw [if_neg c] at hm
            refine x_k eX5_sheet_51 ?_
            obtain rfl := Option.some.inj hm
            exact x_iret eX5_sheet_53 ⟨rfl, rfl⟩
        · rw [if_neg c] at hm
          refine x_k eX5_sheet_44 ?_
          obtain rfl := Option.some.inj hm
          exact x_iret eX5_sheet_46 ⟨rfl, rfl⟩
      · rw [if_pos c] at hm
        refine x_aload0 eX5_sheet_26 ?_
        refine x_get eX5_sheet_27 fX5_33 rfl rfl ?_
        refine x_iload1 eX5_sheet_30 ?_
        refine x_k eX5_sheet_31 ?_
        refine x_k eX5_sheet_32 ?_
        obtain ⟨r2, hr, hm⟩ := xo_bind hm
        refine x_Vv3 eX5_sheet_33 kX3_lay mX5_252 (t_X3_lay hr) rfl (Nat.le_of_ble_eq_true rfl) ?_
        refine x_k eX5_sheet_36 ?_
        obtain rfl := Option.some.inj hm
        exact x_iret eX5_sheet_37 ⟨rfl, rfl⟩
    · rw [if_pos c] at hm
      refine x_k eX5_sheet_18 ?_
      obtain rfl := Option.some.inj hm
      exact x_iret eX5_sheet_20 ⟨rfl, rfl⟩
set_option maxRecDepth 4000 in
theorem t_X5_cell {o : Int32 × (Nat → Int32)} {p1 : Int32} {p2 : Int32} {p3 : Int32} (hm : sp_X5_cell p1 p2 p3 s_sort s_size s_items = some o) : xt_M yX5_cell cX5_cell 4 (some .int) (d + 1) [.ref 0, .int p1, .int p2, .int p3] (WX o_size o_year o_gone o_minds o_lasts r_size r_token r_place r_at r_open r_made t_size t_rule i_there i_rule i_size i_year i_gone i_minds i_lasts o_parent o_kind o_number o_odds o_above o_kidCount o_lead r_tape r_steps r_ends t_steps t_ends t_stack s_sort s_size s_items i_number i_odds x_prices x_facts x_laws x_clues) (xt_Ki o.1 (WX o_size o_year o_gone o_minds o_lasts r_size r_token r_place r_at r_open r_made t_size t_rule i_there i_rule i_size i_year i_gone i_minds i_lasts o_parent o_kind o_number o_odds o_above o_kidCount o_lead r_tape r_steps r_ends t_steps t_ends t_stack s_sort s_size o.2 i_number i_odds x_prices x_facts x_laws x_clues)) := by
  unfold sp_X5_cell at hm
  refine xt_M.go (own := RX5) (lv := [some (.ref 0), some (.int p1), some (.int p2), some (.int p3)]) rfl rfl (Nat.le_of_ble_eq_true rfl) rfl ?_
  refine x_iload1 eX5_cell_0 ?_
  refine x_k eX5_cell_1 ?_
  refine x_k eX5_cell_2 ?_
  refine x_Si3 eX5_cell_3 kX5_isIn mX5_88 (t_X5_isIn rfl) (Nat.le_of_ble_eq_true rfl) ?_
  refine x_if_ne eX5_cell_6 (fun c => ?_) (fun c => ?_)
  · rw [if_neg c] at hm
    refine x_aload0 eX5_cell_12 ?_
    refine x_get eX5_cell_13 fX5_33 rfl rfl ?_
    refine x_get eX5_cell_16 fX5_223 rfl rfl ?_
    refine x_iload1 eX5_cell_19 ?_
    obtain ⟨v1, hv, hm⟩ := xo_bind hm
    obtain ⟨hi, rfl⟩ := xo_at_some hv
    refine x_iaload eX5_cell_20 rfl hi ?_
    refine x_k eX5_cell_21 ?_
    refine x_icmp_ne eX5_cell_22 (fun c => ?_) (fun c => ?_)
    · rw [if_neg c] at hm
      refine x_aload0 eX5_cell_28 ?_
      refine x_get eX5_cell_29 fX5_33 rfl rfl ?_
      refine x_iload1 eX5_cell_32 ?_
      refine x_iload2 eX5_cell_33 ?_
      refine x_k eX5_cell_34 ?_
      obtain ⟨r2, hr, hm⟩ := xo_bind hm
      refine x_Vi3 eX5_cell_35 kX3_holds mX5_255 (t_X3_holds hr) rfl (Nat.le_of_ble_eq_true rfl) ?_
      refine x_if_ne eX5_cell_38 (fun c => ?_) (fun c => ?_)
      · rw [if_neg c] at hm
        refine x_aload0 eX5_cell_44 ?_
        refine x_get eX5_cell_45 fX5_33 rfl rfl ?_
        refine x_iload1 eX5_cell_48 ?_
        refine x_iload2 eX5_cell_49 ?_
        refine x_iload3 eX5_cell_50 ?_
        obtain ⟨r3, hr, hm⟩ := xo_bind hm
        refine x_Vv3 eX5_cell_51 kX3_write mX5_258 (t_X3_write hr) rfl (Nat.le_of_ble_eq_true rfl) ?_
        refine x_k eX5_cell_54 ?_
        obtain rfl := Option.some.inj hm
        exact x_iret eX5_cell_55 ⟨rfl, rfl⟩
      · rw [if_pos c] at hm
        refine x_k eX5_cell_41 ?_
        obtain rfl := Option.some.inj hm
        exact x_iret eX5_cell_43 ⟨rfl, rfl⟩
    · rw [if_pos c] at hm
      refine x_k eX5_cell_25 ?_
      obtain rfl := Option.some.inj hm
      exact x_iret eX5_cell_27 ⟨rfl, rfl⟩
  · rw [if_pos c] at hm
    refine x_k eX5_cell_9 ?_
    obtain rfl := Option.some.inj hm
    exact x_iret eX5_cell_11 ⟨rfl, rfl⟩
set_option maxRecDepth 4000 in
theorem t_X5_copy {o : Int32 × (Nat → Int32)} {p1 : Int32} {p2 : Int32} {p3 : Int32} {p4 : Int32} {p5 : Int32} (hm : sp_X5_copy p1 p2 p3 p4 p5 s_sort s_size s_items = some o) : xt_M yX5_copy cX5_copy 6 (some .int) (d + 2) [.ref 0, .int p1, .int p2, .int p3, .int p4, .int p5] (WX o_size o_year o_gone o_minds o_lasts r_size r_token r_place r_at r_open r_made t_size t_rule i_there i_rule i_size i_year i_gone i_minds i_lasts o_parent o_kind o_number o_odds o_above o_kidCount o_lead r_tape r_steps r_ends t_steps t_ends t_stack s_sort s_size s_items i_number i_odds x_prices x_facts x_laws x_clues) (xt_Ki o.1 (WX o_size o_year o_gone o_minds o_lasts r_size r_token r_place r_at r_open r_made t_size t_rule i_there i_rule i_size i_year i_gone i_minds i_lasts o_parent o_kind o_number o_odds o_above o_kidCount o_lead r_tape r_steps r_ends t_steps t_ends t_stack s_sort s_size o.2 i_number i_odds x_prices x_facts x_laws x_clues)) := by
  unfold sp_X5_copy at hm
  refine xt_M.go (own := RX5) (lv := [some (.ref 0), some (.int p1), some (.int p2), some (.int p3), some (.int p4), some (.int p5)]) rfl rfl (Nat.le_of_ble_eq_true rfl) rfl ?_
  refine x_iload1 eX5_copy_0 ?_
  refine x_k eX5_copy_1 ?_
  refine x_k eX5_copy_2 ?_
  refine x_Si3 eX5_copy_3 kX5_isIn mX5_88 (t_X5_isIn rfl) (Nat.le_of_ble_eq_true rfl) ?_
  refine x_if_eq eX5_copy_6 (fun c => ?_) (fun c => ?_)
  · rw [if_pos c] at hm
    refine x_k eX5_copy_18 ?_
    obtain rfl := Option.some.inj hm
    exact x_iret eX5_copy_20 ⟨rfl, rfl⟩
  · rw [if_neg c] at hm
    refine x_iload3 eX5_copy_9 ?_
    refine x_k eX5_copy_10 ?_
    refine x_k eX5_copy_11 ?_
    refine x_Si3 eX5_copy_12 kX5_isIn mX5_88 (t_X5_isIn rfl) (Nat.le_of_ble_eq_true rfl) ?_
    refine x_if_ne eX5_copy_15 (fun c => ?_) (fun c => ?_)
    · rw [if_neg c] at hm
      refine x_aload0 eX5_copy_21 ?_
      refine x_get eX5_copy_22 fX5_33 rfl rfl ?_
      refine x_get eX5_copy_25 fX5_223 rfl rfl ?_
      refine x_iload1 eX5_copy_28 ?_
      obtain ⟨v1, hv, hm⟩ := xo_bind hm
      obtain ⟨hi, rfl⟩ := xo_at_some hv
      refine x_iaload eX5_copy_29 rfl hi ?_
      refine x_k eX5_copy_30 ?_
      refine x_icmp_eq eX5_copy_31 (fun c => ?_) (fun c => ?_)
      · rw [if_pos c] at hm
        refine x_k eX5_copy_47 ?_
        obtain rfl := Option.some.inj hm
        exact x_iret eX5_copy_49 ⟨rfl, rfl⟩
      · rw [if_neg c] at hm
        refine x_aload0 eX5_copy_34 ?_
        refine x_get eX5_copy_35 fX5_33 rfl rfl ?_
        refine x_get eX5_copy_38 fX5_223 rfl rfl ?_
        refine x_iload3 eX5_copy_41 ?_
        obtain ⟨v2, hv, hm⟩ := xo_bind hm
        obtain ⟨hi, rfl⟩ := xo_at_some hv
        refine x_iaload eX5_copy_42 rfl hi ?_
        refine x_k eX5_copy_43 ?_
        refine x_icmp_ne eX5_copy_44 (fun c => ?_) (fun c => ?_)
        · rw [if_neg c] at hm
          refine x_aload0 eX5_copy_50 ?_
          refine x_get eX5_copy_51 fX5_33 rfl rfl ?_
          refine x_get eX5_copy_54 fX5_223 rfl rfl ?_
          refine x_iload1 eX5_copy_57 ?_
          obtain ⟨v3, hv, hm⟩ := xo_bind hm
          obtain ⟨hi, rfl⟩ := xo_at_some hv
          refine x_iaload eX5_copy_58 rfl hi ?_
          refine x_aload0 eX5_copy_59 ?_
          refine x_get eX5_copy_60 fX5_33 rfl rfl ?_
          refine x_get eX5_copy_63 fX5_223 rfl rfl ?_
          refine x_iload3 eX5_copy_66 ?_
          obtain ⟨v4, hv, hm⟩ := xo_bind hm
          obtain ⟨hi, rfl⟩ := xo_at_some hv
          refine x_iaload eX5_copy_67 rfl hi ?_
          refine x_icmp_eq eX5_copy_68 (fun c => ?_) (fun c => ?_)
          · rw [if_pos c] at hm
            refine x_aload0 eX5_copy_74 ?_
            refine x_get eX5_copy_75 fX5_33 rfl rfl ?_
            refine x_iload1 eX5_copy_78 ?_
            refine x_iload2 eX5_copy_79 ?_
            refine x_iload5 eX5_copy_80 ?_
            obtain ⟨r5, hr, hm⟩ := xo_bind hm
            refine x_Vi3 eX5_copy_82 kX3_holds mX5_255 (t_X3_holds hr) rfl (Nat.le_of_ble_eq_true rfl) ?_
            refine x_if_eq eX5_copy_85 (fun c => ?_) (fun c => ?_)
            · rw [if_pos c] at hm
              refine x_k eX5_copy_103 ?_
              obtain rfl := Option.some.inj hm
              exact x_iret eX5_copy_105 ⟨rfl, rfl⟩
            · rw [if_neg c] at hm
              refine x_aload0 eX5_copy_88 ?_
              refine x_get eX5_copy_89 fX5_33 rfl rfl ?_
              refine x_iload3 eX5_copy_92 ?_
              refine x_iload4 eX5_copy_93 ?_
              refine x_iload5 eX5_copy_95 ?_
              obtain ⟨r6, hr, hm⟩ := xo_bind hm
              refine x_Vi3 eX5_copy_97 kX3_holds mX5_255 (t_X3_holds hr) rfl (Nat.le_of_ble_eq_true rfl) ?_
              refine x_if_ne eX5_copy_100 (fun c => ?_) (fun c => ?_)
              · rw [if_neg c] at hm
                refine x_aload0 eX5_copy_106 ?_
                refine x_get eX5_copy_107 fX5_33 rfl rfl ?_
                refine x_iload1 eX5_copy_110 ?_
                refine x_iload2 eX5_copy_111 ?_
                refine x_iload3 eX5_copy_112 ?_
                refine x_iload4 eX5_copy_113 ?_
                refine x_iload5 eX5_copy_115 ?_
                obtain ⟨r7, hr, hm⟩ := xo_bind hm
                refine x_Vv5 eX5_copy_117 kX3_move mX5_261 (t_X3_move hr) rfl (Nat.le_of_ble_eq_true rfl) ?_
                refine x_iload5 eX5_copy_120 ?_
                obtain rfl := Option.some.inj hm
                exact x_iret eX5_copy_122 ⟨rfl, rfl⟩
              · rw [if_pos c] at hm
                refine x_k eX5_copy_103 ?_
                obtain rfl := Option.some.inj hm
                exact x_iret eX5_copy_105 ⟨rfl, rfl⟩
          · rw [if_neg c] at hm
            refine x_k eX5_copy_71 ?_
            obtain rfl := Option.some.inj hm
            exact x_iret eX5_copy_73 ⟨rfl, rfl⟩
        · rw [if_pos c] at hm
          refine x_k eX5_copy_47 ?_
          obtain rfl := Option.some.inj hm
          exact x_iret eX5_copy_49 ⟨rfl, rfl⟩
    · rw [if_pos c] at hm
      refine x_k eX5_copy_18 ?_
      obtain rfl := Option.some.inj hm
      exact x_iret eX5_copy_20 ⟨rfl, rfl⟩
set_option maxRecDepth 4000 in
theorem l_X5_nodes_83 {o : Int32 × Int32 × Int32 × Int32 × Int32 × (Nat → Int32) × (Nat → Int32) × (Nat → Int32) × (Nat → Int32) × (Nat → Int32)} {u1 : Int32} {u3 : Int32} {u4 : Int32} {s_size : Nat → Int32} {s_items : Nat → Int32} {u2 : Int32} : ∀ (n : Nat) {u5 : Int32} {u6 : Int32} {o_size : Int32} {o_gone : Int32} {o_minds : Int32} {o_lasts : Int32} {o_parent : Nat → Int32} {o_kind : Nat → Int32} {o_number : Nat → Int32} {o_odds : Nat → Int32} {o_above : Nat → Int32}, sp_X5_nodes_83 u1 u3 u4 s_size s_items n u5 u6 o_size o_gone o_minds o_lasts o_parent o_kind o_number o_odds o_above = some o → xt_T RX5 cX5_nodes 9 (some .int) (d + 2) (xt_Ki o.1 (WX o.2.1 o_year o.2.2.1 o.2.2.2.1 o.2.2.2.2.1 r_size r_token r_place r_at r_open r_made t_size t_rule i_there i_rule i_size i_year i_gone i_minds i_lasts o.2.2.2.2.2.1 o.2.2.2.2.2.2.1 o.2.2.2.2.2.2.2.1 o.2.2.2.2.2.2.2.2.1 o.2.2.2.2.2.2.2.2.2 o_kidCount o_lead r_tape r_steps r_ends t_steps t_ends t_stack s_sort s_size s_items i_number i_odds x_prices x_facts x_laws x_clues)) 83 [some (.ref 0), some (.int u1), some (.int u2), some (.int u3), some (.int u4), some (.int u5), some (.int u6), none, none] [] (WX o_size o_year o_gone o_minds o_lasts r_size r_token r_place r_at r_open r_made t_size t_rule i_there i_rule i_size i_year i_gone i_minds i_lasts o_parent o_kind o_number o_odds o_above o_kidCount o_lead r_tape r_steps r_ends t_steps t_ends t_stack s_sort s_size s_items i_number i_odds x_prices x_facts x_laws x_clues) := by
  intro n
  induction n with
  | zero => intro u5 u6 o_size o_gone o_minds o_lasts o_parent o_kind o_number o_odds o_above hm; rw [sp_X5_nodes_83] at hm; cases hm
  | succ n ih =>
    intro u5 u6 o_size o_gone o_minds o_lasts o_parent o_kind o_number o_odds o_above hm
    rw [sp_X5_nodes_83] at hm
    refine x_iload6 eX5_nodes_83 ?_
    refine x_iload4 eX5_nodes_85 ?_
    refine x_icmp_ge eX5_nodes_87 (fun c => ?_) (fun c => ?_)
    · rw [if_pos c] at hm
      refine x_iload5 eX5_nodes_172 ?_
      obtain rfl := Option.some.inj hm
      exact x_iret eX5_nodes_174 ⟨rfl, rfl⟩
    · rw [if_neg c] at hm
      refine x_iload3 eX5_nodes_90 ?_
      refine x_k eX5_nodes_91 ?_
      refine x_iload6 eX5_nodes_92 ?_
      refine x_imul eX5_nodes_94 ?_
      refine x_iadd eX5_nodes_95 ?_
      refine x_istore7 eX5_nodes_96 rfl ?_
      refine x_aload0 eX5_nodes_98 ?_
      refine x_get eX5_nodes_99 fX5_33 rfl rfl ?_
      refine x_iload1 eX5_nodes_102 ?_
      refine x_iload7 eX5_nodes_103 ?_
      refine x_k eX5_nodes_105 ?_
      obtain ⟨r3, hr, hm⟩ := xo_bind hm
      refine x_Vi3 eX5_nodes_106 kX3_holds mX5_255 (t_X3_holds hr) rfl (Nat.le_of_ble_eq_true rfl) ?_
      refine x_if_ne eX5_nodes_109 (fun c => ?_) (fun c => ?_)
      · rw [if_neg c] at hm
        refine x_aload0 eX5_nodes_115 ?_
        refine x_get eX5_nodes_116 fX5_10 rfl rfl ?_
        refine x_aload0 eX5_nodes_119 ?_
        refine x_get eX5_nodes_120 fX5_33 rfl rfl ?_
        refine x_iload1 eX5_nodes_123 ?_
        refine x_iload7 eX5_nodes_124 ?_
        obtain ⟨r4, hr, hm⟩ := xo_bind hm
        refine x_Vi2 eX5_nodes_126 kX3_read mX5_265 (t_X3_read hr) rfl (Nat.le_of_ble_eq_true rfl) ?_
        refine x_aload0 eX5_nodes_129 ?_
        refine x_get eX5_nodes_130 fX5_33 rfl rfl ?_
        refine x_iload1 eX5_nodes_133 ?_
        refine x_iload7 eX5_nodes_134 ?_
        refine x_k eX5_nodes_136 ?_
        refine x_iadd eX5_nodes_137 ?_
        obtain ⟨r5, hr, hm⟩ := xo_bind hm
        refine x_Vi2 eX5_nodes_138 kX3_read mX5_265 (t_X3_read hr) rfl (Nat.le_of_ble_eq_true rfl) ?_
        refine x_aload0 eX5_nodes_141 ?_
        refine x_get eX5_nodes_142 fX5_33 rfl rfl ?_
        refine x_iload1 eX5_nodes_145 ?_
        refine x_iload7 eX5_nodes_146 ?_
        refine x_k eX5_nodes_148 ?_
        refine x_iadd eX5_nodes_149 ?_
        obtain ⟨r6, hr, hm⟩ := xo_bind hm
        refine x_Vi2 eX5_nodes_150 kX3_read mX5_265 (t_X3_read hr) rfl (Nat.le_of_ble_eq_true rfl) ?_
        obtain ⟨r7, hr, hm⟩ := xo_bind hm
        refine x_Vi3 eX5_nodes_153 kX1_sprout mX5_84 (t_X1_sprout hr) rfl (Nat.le_of_ble_eq_true rfl) ?_
        refine x_istore8 eX5_nodes_156 rfl ?_
        refine x_iload8 eX5_nodes_158 ?_
        refine x_if_lt eX5_nodes_160 (fun c => ?_) (fun c => ?_)
        · rw [if_pos c] at hm
          refine x_iinc6 eX5_nodes_166 rfl ?_
          refine x_goto eX5_nodes_169 ?_
          exact x_weak (by simp [xt_le]) (ih hm)
        · rw [if_neg c] at hm
          refine x_iinc5 eX5_nodes_163 rfl ?_
          refine x_iinc6 eX5_nodes_166 rfl ?_
          refine x_goto eX5_nodes_169 ?_
          exact x_weak (by simp [xt_le]) (ih hm)
      · rw [if_pos c] at hm
        refine x_k eX5_nodes_112 ?_
        obtain rfl := Option.some.inj hm
        exact x_iret eX5_nodes_114 ⟨rfl, rfl⟩
set_option maxRecDepth 4000 in
theorem t_X5_nodes {o : Int32 × Int32 × Int32 × Int32 × Int32 × (Nat → Int32) × (Nat → Int32) × (Nat → Int32) × (Nat → Int32) × (Nat → Int32)} {p1 : Int32} {p2 : Int32} {p3 : Int32} {p4 : Int32} (hm : sp_X5_nodes p1 p2 p3 p4 o_size o_gone o_minds o_lasts o_parent o_kind o_number o_odds o_above s_sort s_size s_items = some o) : xt_M yX5_nodes cX5_nodes 9 (some .int) (d + 2) [.ref 0, .int p1, .int p2, .int p3, .int p4] (WX o_size o_year o_gone o_minds o_lasts r_size r_token r_place r_at r_open r_made t_size t_rule i_there i_rule i_size i_year i_gone i_minds i_lasts o_parent o_kind o_number o_odds o_above o_kidCount o_lead r_tape r_steps r_ends t_steps t_ends t_stack s_sort s_size s_items i_number i_odds x_prices x_facts x_laws x_clues) (xt_Ki o.1 (WX o.2.1 o_year o.2.2.1 o.2.2.2.1 o.2.2.2.2.1 r_size r_token r_place r_at r_open r_made t_size t_rule i_there i_rule i_size i_year i_gone i_minds i_lasts o.2.2.2.2.2.1 o.2.2.2.2.2.2.1 o.2.2.2.2.2.2.2.1 o.2.2.2.2.2.2.2.2.1 o.2.2.2.2.2.2.2.2.2 o_kidCount o_lead r_tape r_steps r_ends t_steps t_ends t_stack s_sort s_size s_items i_number i_odds x_prices x_facts x_laws x_clues)) := by
  unfold sp_X5_nodes at hm
  refine xt_M.go (own := RX5) (lv := [some (.ref 0), some (.int p1), some (.int p2), some (.int p3), some (.int p4), none, none, none, none]) rfl rfl (Nat.le_of_ble_eq_true rfl) rfl ?_
  refine x_iload1 eX5_nodes_0 ?_
  refine x_k eX5_nodes_1 ?_
  refine x_k eX5_nodes_2 ?_
  refine x_Si3 eX5_nodes_3 kX5_isIn mX5_88 (t_X5_isIn rfl) (Nat.le_of_ble_eq_true rfl) ?_
  refine x_if_eq eX5_nodes_6 (fun c => ?_) (fun c => ?_)
  · rw [if_pos c] at hm
    refine x_k eX5_nodes_29 ?_
    obtain rfl := Option.some.inj hm
    exact x_iret eX5_nodes_31 ⟨rfl, rfl⟩
  · rw [if_neg c] at hm
    refine x_iload2 eX5_nodes_9 ?_
    refine x_k eX5_nodes_10 ?_
    refine x_k eX5_nodes_11 ?_
    refine x_Si3 eX5_nodes_12 kX5_isIn mX5_88 (t_X5_isIn rfl) (Nat.le_of_ble_eq_true rfl) ?_
    refine x_if_eq eX5_nodes_15 (fun c => ?_) (fun c => ?_)
    · rw [if_pos c] at hm
      refine x_k eX5_nodes_29 ?_
      obtain rfl := Option.some.inj hm
      exact x_iret eX5_nodes_31 ⟨rfl, rfl⟩
    · rw [if_neg c] at hm
      refine x_iload4 eX5_nodes_18 ?_
      refine x_k eX5_nodes_20 ?_
      refine x_k eX5_nodes_21 ?_
      refine x_Si3 eX5_nodes_23 kX5_isIn mX5_88 (t_X5_isIn rfl) (Nat.le_of_ble_eq_true rfl) ?_
      refine x_if_ne eX5_nodes_26 (fun c => ?_) (fun c => ?_)
      · rw [if_neg c] at hm
        refine x_aload0 eX5_nodes_32 ?_
        refine x_get eX5_nodes_33 fX5_33 rfl rfl ?_
        refine x_get eX5_nodes_36 fX5_223 rfl rfl ?_
        refine x_iload1 eX5_nodes_39 ?_
        obtain ⟨v1, hv, hm⟩ := xo_bind hm
        obtain ⟨hi, rfl⟩ := xo_at_some hv
        refine x_iaload eX5_nodes_40 rfl hi ?_
        refine x_k eX5_nodes_41 ?_
        refine x_icmp_eq eX5_nodes_42 (fun c => ?_) (fun c => ?_)
        · rw [if_pos c] at hm
          refine x_aload0 eX5_nodes_61 ?_
          refine x_get eX5_nodes_62 fX5_33 rfl rfl ?_
          refine x_get eX5_nodes_65 fX5_223 rfl rfl ?_
          refine x_iload1 eX5_nodes_68 ?_
          obtain ⟨v2, hv, hm⟩ := xo_bind hm
          obtain ⟨hi, rfl⟩ := xo_at_some hv
          refine x_iaload eX5_nodes_69 rfl hi ?_
          refine x_k eX5_nodes_70 ?_
          refine x_icmp_ne eX5_nodes_71 (fun c => ?_) (fun c => ?_)
          · rw [if_neg c] at hm
            refine x_k eX5_nodes_77 ?_
            refine x_istore5 eX5_nodes_78 rfl ?_
            refine x_k eX5_nodes_80 ?_
            refine x_istore6 eX5_nodes_81 rfl ?_
            exact l_X5_nodes_83 _ hm
          · rw [if_pos c] at hm
            refine x_k eX5_nodes_74 ?_
            obtain rfl := Option.some.inj hm
            exact x_iret eX5_nodes_76 ⟨rfl, rfl⟩
        · rw [if_neg c] at hm
          refine x_aload0 eX5_nodes_45 ?_
          refine x_get eX5_nodes_46 fX5_33 rfl rfl ?_
          refine x_get eX5_nodes_49 fX5_223 rfl rfl ?_
          refine x_iload1 eX5_nodes_52 ?_
          obtain ⟨v8, hv, hm⟩ := xo_bind hm
          obtain ⟨hi, rfl⟩ := xo_at_some hv
          refine x_iaload eX5_nodes_53 rfl hi ?_
          refine x_iload2 eX5_nodes_54 ?_
          refine x_icmp_eq eX5_nodes_55 (fun c => ?_) (fun c => ?_)
          · rw [if_pos c] at hm
            refine x_aload0 eX5_nodes_61 ?_
            refine x_get eX5_nodes_62 fX5_33 rfl rfl ?_
            refine x_get eX5_nodes_65 fX5_223 rfl rfl ?_
            refine x_iload1 eX5_nodes_68 ?_
            obtain ⟨v9, hv, hm⟩ := xo_bind hm
            obtain ⟨hi, rfl⟩ := xo_at_some hv
            refine x_iaload eX5_nodes_69 rfl hi ?_
            refine x_k eX5_nodes_70 ?_
            refine x_icmp_ne eX5_nodes_71 (fun c => ?_) (fun c => ?_)
            · rw [if_neg c] at hm
              refine x_k eX5_nodes_77 ?_
              refine x_istore5 eX5_nodes_78 rfl ?_
              refine x_k eX5_nodes_80 ?_
              refine x_istore6 eX5_nodes_81 rfl ?_
              exact l_X5_nodes_83 _ hm
            · rw [if_pos c] at hm
              refine x_k eX5_nodes_74 ?_
              obtain rfl := Option.some.inj hm
              exact x_iret eX5_nodes_76 ⟨rfl, rfl⟩
          · rw [if_neg c] at hm
            refine x_k eX5_nodes_58 ?_
            obtain rfl := Option.some.inj hm
            exact x_iret eX5_nodes_60 ⟨rfl, rfl⟩
      · rw [if_pos c] at hm
        refine x_k eX5_nodes_29 ?_
        obtain rfl := Option.some.inj hm
        exact x_iret eX5_nodes_31 ⟨rfl, rfl⟩
set_option maxRecDepth 4000 in
theorem t_X5_isUnder {o : Int32} {p1 : Int32} {p2 : Int32} (hm : sp_X5_isUnder p1 p2 = o) : xt_M yX5_isUnder cX5_isUnder 2 (some .boolean) (d + 0) [.int p1, .int p2] (WX o_size o_year o_gone o_minds o_lasts r_size r_token r_place r_at r_open r_made t_size t_rule i_there i_rule i_size i_year i_gone i_minds i_lasts o_parent o_kind o_number o_odds o_above o_kidCount o_lead r_tape r_steps r_ends t_steps t_ends t_stack s_sort s_size s_items i_number i_odds x_prices x_facts x_laws x_clues) (xt_Ki o (WX o_size o_year o_gone o_minds o_lasts r_size r_token r_place r_at r_open r_made t_size t_rule i_there i_rule i_size i_year i_gone i_minds i_lasts o_parent o_kind o_number o_odds o_above o_kidCount o_lead r_tape r_steps r_ends t_steps t_ends t_stack s_sort s_size s_items i_number i_odds x_prices x_facts x_laws x_clues)) := by
  unfold sp_X5_isUnder at hm
  refine xt_M.go (own := RX5) (lv := [some (.int p1), some (.int p2)]) rfl rfl (Nat.le_of_ble_eq_true rfl) rfl ?_
  refine x_iload0 eX5_isUnder_0 ?_
  refine x_iload1 eX5_isUnder_1 ?_
  refine x_icmp_eq eX5_isUnder_2 (fun c => ?_) (fun c => ?_)
  · rw [if_pos c] at hm
    refine x_k eX5_isUnder_9 ?_
    subst hm
    exact x_zret eX5_isUnder_10 (by decide) ⟨rfl, rfl⟩
  · rw [if_neg c] at hm
    refine x_iload1 eX5_isUnder_5 ?_
    refine x_if_ne eX5_isUnder_6 (fun c => ?_) (fun c => ?_)
    · rw [if_neg c] at hm
      refine x_iload1 eX5_isUnder_11 ?_
      refine x_k eX5_isUnder_12 ?_
      refine x_icmp_ne eX5_isUnder_13 (fun c => ?_) (fun c => ?_)
      · rw [if_neg c] at hm
        refine x_iload1 eX5_isUnder_34 ?_
        refine x_k eX5_isUnder_35 ?_
        refine x_icmp_ne eX5_isUnder_36 (fun c => ?_) (fun c => ?_)
        · rw [if_neg c] at hm
          refine x_k eX5_isUnder_48 ?_
          subst hm
          exact x_zret eX5_isUnder_49 (by decide) ⟨rfl, rfl⟩
        · rw [if_pos c] at hm
          refine x_iload0 eX5_isUnder_39 ?_
          refine x_k eX5_isUnder_40 ?_
          refine x_icmp_ne eX5_isUnder_41 (fun c => ?_) (fun c => ?_)
          · rw [if_neg c] at hm
            refine x_k eX5_isUnder_48 ?_
            subst hm
            exact x_zret eX5_isUnder_49 (by decide) ⟨rfl, rfl⟩
          · rw [if_pos c] at hm
            refine x_k eX5_isUnder_44 ?_
            refine x_goto eX5_isUnder_45 ?_
            subst hm
            exact x_zret eX5_isUnder_49 (by decide) ⟨rfl, rfl⟩
      · rw [if_pos c] at hm
        refine x_iload0 eX5_isUnder_16 ?_
        refine x_k eX5_isUnder_17 ?_
        refine x_icmp_eq eX5_isUnder_18 (fun c => ?_) (fun c => ?_)
        · rw [if_pos c] at hm
          refine x_k eX5_isUnder_26 ?_
          refine x_goto eX5_isUnder_27 ?_
          subst hm
          exact x_zret eX5_isUnder_49 (by decide) ⟨rfl, rfl⟩
        · rw [if_neg c] at hm
          refine x_iload0 eX5_isUnder_21 ?_
          refine x_k eX5_isUnder_22 ?_
          refine x_icmp_ne eX5_isUnder_23 (fun c => ?_) (fun c => ?_)
          · rw [if_neg c] at hm
            refine x_k eX5_isUnder_30 ?_
            refine x_goto eX5_isUnder_31 ?_
            subst hm
            exact x_zret eX5_isUnder_49 (by decide) ⟨rfl, rfl⟩
          · rw [if_pos c] at hm
            refine x_k eX5_isUnder_26 ?_
            refine x_goto eX5_isUnder_27 ?_
            subst hm
            exact x_zret eX5_isUnder_49 (by decide) ⟨rfl, rfl⟩
    · rw [if_pos c] at hm
      refine x_k eX5_isUnder_9 ?_
      subst hm
      exact x_zret eX5_isUnder_10 (by decide) ⟨rfl, rfl⟩
set_option maxRecDepth 4000 in
theorem t_X5_taken {o : Int32} {p1 : Int32} {p2 : Int32} (hm : sp_X5_taken p1 p2 o_size o_kind o_number = some o) : xt_M yX5_taken cX5_taken 3 (some .int) (d + 1) [.ref 0, .int p1, .int p2] (WX o_size o_year o_gone o_minds o_lasts r_size r_token r_place r_at r_open r_made t_size t_rule i_there i_rule i_size i_year i_gone i_minds i_lasts o_parent o_kind o_number o_odds o_above o_kidCount o_lead r_tape r_steps r_ends t_steps t_ends t_stack s_sort s_size s_items i_number i_odds x_prices x_facts x_laws x_clues) (xt_Ki o (WX o_size o_year o_gone o_minds o_lasts r_size r_token r_place r_at r_open r_made t_size t_rule i_there i_rule i_size i_year i_gone i_minds i_lasts o_parent o_kind o_number o_odds o_above o_kidCount o_lead r_tape r_steps r_ends t_steps t_ends t_stack s_sort s_size s_items i_number i_odds x_prices x_facts x_laws x_clues)) := by
  unfold sp_X5_taken at hm
  refine xt_M.go (own := RX5) (lv := [some (.ref 0), some (.int p1), some (.int p2)]) rfl rfl (Nat.le_of_ble_eq_true rfl) rfl ?_
  refine x_iload2 eX5_taken_0 ?_
  refine x_k eX5_taken_1 ?_
  refine x_k eX5_taken_2 ?_
  refine x_Si3 eX5_taken_3 kX5_isIn mX5_88 (t_X5_isIn rfl) (Nat.le_of_ble_eq_true rfl) ?_
  refine x_if_ne eX5_taken_6 (fun c => ?_) (fun c => ?_)
  · rw [if_neg c] at hm
    refine x_aload0 eX5_taken_12 ?_
    refine x_get eX5_taken_13 fX5_10 rfl rfl ?_
    refine x_iload1 eX5_taken_16 ?_
    refine x_Vi1 eX5_taken_17 kX1_has mX5_96 (t_X1_has rfl) rfl (Nat.le_of_ble_eq_true rfl) ?_
    refine x_if_ne eX5_taken_20 (fun c => ?_) (fun c => ?_)
    · rw [if_neg c] at hm
      refine x_aload0 eX5_taken_26 ?_
      refine x_get eX5_taken_27 fX5_10 rfl rfl ?_
      refine x_get eX5_taken_30 fX5_128 rfl rfl ?_
      refine x_iload1 eX5_taken_33 ?_
      obtain ⟨v1, hv, hm⟩ := xo_bind hm
      obtain ⟨hi, rfl⟩ := xo_at_some hv
      refine x_iaload eX5_taken_34 rfl hi ?_
      refine x_iload2 eX5_taken_35 ?_
      refine x_Si2 eX5_taken_36 kX5_isUnder mX5_268 (t_X5_isUnder rfl) (Nat.le_of_ble_eq_true rfl) ?_
      refine x_if_eq eX5_taken_39 (fun c => ?_) (fun c => ?_)
      · rw [if_pos c] at hm
        refine x_k eX5_taken_54 ?_
        obtain rfl := Option.some.inj hm
        exact x_iret eX5_taken_56 ⟨rfl, rfl⟩
      · rw [if_neg c] at hm
        refine x_aload0 eX5_taken_42 ?_
        refine x_get eX5_taken_43 fX5_10 rfl rfl ?_
        refine x_get eX5_taken_46 fX5_102 rfl rfl ?_
        refine x_iload1 eX5_taken_49 ?_
        obtain ⟨v2, hv, hm⟩ := xo_bind hm
        obtain ⟨hi, rfl⟩ := xo_at_some hv
        refine x_iaload eX5_taken_50 rfl hi ?_
        refine x_goto eX5_taken_51 ?_
        obtain rfl := Option.some.inj hm
        exact x_iret eX5_taken_56 ⟨rfl, rfl⟩
    · rw [if_pos c] at hm
      refine x_k eX5_taken_23 ?_
      obtain rfl := Option.some.inj hm
      exact x_iret eX5_taken_25 ⟨rfl, rfl⟩
  · rw [if_pos c] at hm
    refine x_k eX5_taken_9 ?_
    obtain rfl := Option.some.inj hm
    exact x_iret eX5_taken_11 ⟨rfl, rfl⟩
end S12
