section S12
variable {d : Nat}
variable {o_size o_year o_gone o_minds o_lasts r_size r_token r_place r_at r_open r_made t_size t_rule i_there i_rule i_size i_year i_gone i_minds i_lasts : Int32} {o_parent o_kind o_number o_odds o_above o_kidCount o_lead r_tape r_steps r_ends t_steps t_ends t_stack s_sort s_size s_items i_number i_odds x_prices x_facts x_laws x_clues : Nat → Int32}
def sp_X2_empty (r_size : Int32) : Int32 :=
  0
def sp_X2_isLetter (p1 : Int32)  : Int32 :=
  if p1 < 97 then
    0
  else
    if 122 < p1 then
      0
    else
      1
def sp_X2_isDigit (p1 : Int32)  : Int32 :=
  if p1 < 48 then
    0
  else
    if 57 < p1 then
      0
    else
      1
def sp_X2_sign (p1 : Int32)  : Int32 :=
  if p1 = 40 then
    10020
  else if p1 = 41 then
    10021
  else if p1 = 42 then
    10025
  else if p1 = 43 then
    10023
  else if p1 = 44 then
    10032
  else if p1 = 45 then
    10024
  else if p1 = 46 then
    10032
  else if p1 = 47 then
    10032
  else if p1 = 48 then
    10032
  else if p1 = 49 then
    10032
  else if p1 = 50 then
    10032
  else if p1 = 51 then
    10032
  else if p1 = 52 then
    10032
  else if p1 = 53 then
    10032
  else if p1 = 54 then
    10032
  else if p1 = 55 then
    10032
  else if p1 = 56 then
    10032
  else if p1 = 57 then
    10032
  else if p1 = 58 then
    10032
  else if p1 = 59 then
    10022
  else if p1 = 60 then
    10026
  else if p1 = 61 then
    10027
  else 
    10032
def sp_X2_figure_2 (r_size : Int32) (r_place : Int32) (r_tape : Nat → Int32) : Nat → Int32 → Int32 → Option (Int32 × Int32)
  | 0, _, _ => none
  | n + 1, u1, r_at =>
    if r_size ≤ r_at then
      if (r_at - r_place) ≤ 4 then
        some (u1, r_at)
      else
        some (10032, r_at)
    else
      (xo_at r_tape 160 r_at).bind fun v1 =>
      if (sp_X2_isDigit v1) = 0 then
        if (r_at - r_place) ≤ 4 then
          some (u1, r_at)
        else
          some (10032, r_at)
      else
        (xo_at r_tape 160 r_at).bind fun v2 =>
        sp_X2_figure_2 r_size r_place r_tape n (((u1 * 10) + v2) - 48) (r_at + 1)
def sp_X2_figure (r_size : Int32) (r_place : Int32) (r_at : Int32) (r_tape : Nat → Int32) : Option (Int32 × Int32) :=
  sp_X2_figure_2 r_size r_place r_tape 5000 0 r_at
def sp_J0_coder_7d493_p1000  : Int32 :=
  if (1 : Int32) = 0 then
    1
  else
    0
def sp_J0_length_8abf5_p1000  : Int32 :=
  (xi_shr 4 (sp_J0_coder_7d493_p1000))
def sp_J0_isLatin1_aae02_p1000  : Int32 :=
  if (1 : Int32) = 0 then
    0
  else
    if (0 : Int32) = 0 then
      1
    else
      0
def sp_J3_checkIndex_8e157_p9999 (p1 : Int32) (p2 : Int32)  : Option (Int32) :=
  if p1 < 0 then
    none
  else
    if p1 < p2 then
      some p1
    else
      none
def sp_J0_checkIndex_df160 (p1 : Int32) (p2 : Int32)  : Option (Unit) :=
  (sp_J3_checkIndex_8e157_p9999 p1 p2).bind fun r1 =>
  some ()
def sp_J1_charAt_3b067_p2000 (p2 : Int32)  : Option (Int32) :=
  (sp_J0_checkIndex_df160 p2 4).bind fun r1 =>
  (xo_str 0 p2).bind fun v2 =>
  some (UInt32.toInt32 (Int32.toUInt32 (v2 &&& 255) % 65536))
def sp_J0_charAt_5068e_p1000 (p1 : Int32)  : Option (Int32) :=
  if (sp_J0_isLatin1_aae02_p1000) = 0 then
    none
  else
    (sp_J1_charAt_3b067_p2000 p1).bind fun r1 =>
    if ¬ (UInt32.toInt32 (Int32.toUInt32 r1 % 65536)) = r1 then none else
    some r1
def sp_X2_spells_p1000_20 (r_place : Int32) (r_tape : Nat → Int32) : Nat → Int32 → Option (Int32)
  | 0, _ => none
  | n + 1, u2 =>
    if (sp_J0_length_8abf5_p1000) ≤ u2 then
      some 1
    else
      (xo_at r_tape 160 (r_place + u2)).bind fun v1 =>
      (sp_J0_charAt_5068e_p1000 u2).bind fun r2 =>
      if v1 = r2 then
        sp_X2_spells_p1000_20 r_place r_tape n (u2 + 1)
      else
        some 0
def sp_X2_spells_p1000 (r_place : Int32) (r_at : Int32) (r_tape : Nat → Int32) : Option (Int32) :=
  if (r_at - r_place) = (sp_J0_length_8abf5_p1000) then
    sp_X2_spells_p1000_20 r_place r_tape 5000 0
  else
    some 0
def sp_J0_coder_7d493_p1001  : Int32 :=
  if (1 : Int32) = 0 then
    1
  else
    0
def sp_J0_length_8abf5_p1001  : Int32 :=
  (xi_shr 5 (sp_J0_coder_7d493_p1001))
def sp_J0_isLatin1_aae02_p1001  : Int32 :=
  if (1 : Int32) = 0 then
    0
  else
    if (0 : Int32) = 0 then
      1
    else
      0
def sp_J1_charAt_3b067_p2001 (p2 : Int32)  : Option (Int32) :=
  (sp_J0_checkIndex_df160 p2 5).bind fun r1 =>
  (xo_str 1 p2).bind fun v2 =>
  some (UInt32.toInt32 (Int32.toUInt32 (v2 &&& 255) % 65536))
def sp_J0_charAt_5068e_p1001 (p1 : Int32)  : Option (Int32) :=
  if (sp_J0_isLatin1_aae02_p1001) = 0 then
    none
  else
    (sp_J1_charAt_3b067_p2001 p1).bind fun r1 =>
    if ¬ (UInt32.toInt32 (Int32.toUInt32 r1 % 65536)) = r1 then none else
    some r1
def sp_X2_spells_p1001_20 (r_place : Int32) (r_tape : Nat → Int32) : Nat → Int32 → Option (Int32)
  | 0, _ => none
  | n + 1, u2 =>
    if (sp_J0_length_8abf5_p1001) ≤ u2 then
      some 1
    else
      (xo_at r_tape 160 (r_place + u2)).bind fun v1 =>
      (sp_J0_charAt_5068e_p1001 u2).bind fun r2 =>
      if v1 = r2 then
        sp_X2_spells_p1001_20 r_place r_tape n (u2 + 1)
      else
        some 0
def sp_X2_spells_p1001 (r_place : Int32) (r_at : Int32) (r_tape : Nat → Int32) : Option (Int32) :=
  if (r_at - r_place) = (sp_J0_length_8abf5_p1001) then
    sp_X2_spells_p1001_20 r_place r_tape 5000 0
  else
    some 0
def sp_J0_coder_7d493_p1002  : Int32 :=
  if (1 : Int32) = 0 then
    1
  else
    0
def sp_J0_length_8abf5_p1002  : Int32 :=
  (xi_shr 4 (sp_J0_coder_7d493_p1002))
def sp_J0_isLatin1_aae02_p1002  : Int32 :=
  if (1 : Int32) = 0 then
    0
  else
    if (0 : Int32) = 0 then
      1
    else
      0
def sp_J1_charAt_3b067_p2002 (p2 : Int32)  : Option (Int32) :=
  (sp_J0_checkIndex_df160 p2 4).bind fun r1 =>
  (xo_str 2 p2).bind fun v2 =>
  some (UInt32.toInt32 (Int32.toUInt32 (v2 &&& 255) % 65536))
def sp_J0_charAt_5068e_p1002 (p1 : Int32)  : Option (Int32) :=
  if (sp_J0_isLatin1_aae02_p1002) = 0 then
    none
  else
    (sp_J1_charAt_3b067_p2002 p1).bind fun r1 =>
    if ¬ (UInt32.toInt32 (Int32.toUInt32 r1 % 65536)) = r1 then none else
    some r1
def sp_X2_spells_p1002_20 (r_place : Int32) (r_tape : Nat → Int32) : Nat → Int32 → Option (Int32)
  | 0, _ => none
  | n + 1, u2 =>
    if (sp_J0_length_8abf5_p1002) ≤ u2 then
      some 1
    else
      (xo_at r_tape 160 (r_place + u2)).bind fun v1 =>
      (sp_J0_charAt_5068e_p1002 u2).bind fun r2 =>
      if v1 = r2 then
        sp_X2_spells_p1002_20 r_place r_tape n (u2 + 1)
      else
        some 0
def sp_X2_spells_p1002 (r_place : Int32) (r_at : Int32) (r_tape : Nat → Int32) : Option (Int32) :=
  if (r_at - r_place) = (sp_J0_length_8abf5_p1002) then
    sp_X2_spells_p1002_20 r_place r_tape 5000 0
  else
    some 0
def sp_J0_coder_7d493_p1003  : Int32 :=
  if (1 : Int32) = 0 then
    1
  else
    0
def sp_J0_length_8abf5_p1003  : Int32 :=
  (xi_shr 5 (sp_J0_coder_7d493_p1003))
def sp_J0_isLatin1_aae02_p1003  : Int32 :=
  if (1 : Int32) = 0 then
    0
  else
    if (0 : Int32) = 0 then
      1
    else
      0
def sp_J1_charAt_3b067_p2003 (p2 : Int32)  : Option (Int32) :=
  (sp_J0_checkIndex_df160 p2 5).bind fun r1 =>
  (xo_str 3 p2).bind fun v2 =>
  some (UInt32.toInt32 (Int32.toUInt32 (v2 &&& 255) % 65536))
def sp_J0_charAt_5068e_p1003 (p1 : Int32)  : Option (Int32) :=
  if (sp_J0_isLatin1_aae02_p1003) = 0 then
    none
  else
    (sp_J1_charAt_3b067_p2003 p1).bind fun r1 =>
    if ¬ (UInt32.toInt32 (Int32.toUInt32 r1 % 65536)) = r1 then none else
    some r1
def sp_X2_spells_p1003_20 (r_place : Int32) (r_tape : Nat → Int32) : Nat → Int32 → Option (Int32)
  | 0, _ => none
  | n + 1, u2 =>
    if (sp_J0_length_8abf5_p1003) ≤ u2 then
      some 1
    else
      (xo_at r_tape 160 (r_place + u2)).bind fun v1 =>
      (sp_J0_charAt_5068e_p1003 u2).bind fun r2 =>
      if v1 = r2 then
        sp_X2_spells_p1003_20 r_place r_tape n (u2 + 1)
      else
        some 0
def sp_X2_spells_p1003 (r_place : Int32) (r_at : Int32) (r_tape : Nat → Int32) : Option (Int32) :=
  if (r_at - r_place) = (sp_J0_length_8abf5_p1003) then
    sp_X2_spells_p1003_20 r_place r_tape 5000 0
  else
    some 0
def sp_J0_coder_7d493_p1004  : Int32 :=
  if (1 : Int32) = 0 then
    1
  else
    0
def sp_J0_length_8abf5_p1004  : Int32 :=
  (xi_shr 4 (sp_J0_coder_7d493_p1004))
def sp_J0_isLatin1_aae02_p1004  : Int32 :=
  if (1 : Int32) = 0 then
    0
  else
    if (0 : Int32) = 0 then
      1
    else
      0
def sp_J1_charAt_3b067_p2004 (p2 : Int32)  : Option (Int32) :=
  (sp_J0_checkIndex_df160 p2 4).bind fun r1 =>
  (xo_str 4 p2).bind fun v2 =>
  some (UInt32.toInt32 (Int32.toUInt32 (v2 &&& 255) % 65536))
def sp_J0_charAt_5068e_p1004 (p1 : Int32)  : Option (Int32) :=
  if (sp_J0_isLatin1_aae02_p1004) = 0 then
    none
  else
    (sp_J1_charAt_3b067_p2004 p1).bind fun r1 =>
    if ¬ (UInt32.toInt32 (Int32.toUInt32 r1 % 65536)) = r1 then none else
    some r1
def sp_X2_spells_p1004_20 (r_place : Int32) (r_tape : Nat → Int32) : Nat → Int32 → Option (Int32)
  | 0, _ => none
  | n + 1, u2 =>
    if (sp_J0_length_8abf5_p1004) ≤ u2 then
      some 1
    else
      (xo_at r_tape 160 (r_place + u2)).bind fun v1 =>
      (sp_J0_charAt_5068e_p1004 u2).bind fun r2 =>
      if v1 = r2 then
        sp_X2_spells_p1004_20 r_place r_tape n (u2 + 1)
      else
        some 0
def sp_X2_spells_p1004 (r_place : Int32) (r_at : Int32) (r_tape : Nat → Int32) : Option (Int32) :=
  if (r_at - r_place) = (sp_J0_length_8abf5_p1004) then
    sp_X2_spells_p1004_20 r_place r_tape 5000 0
  else
    some 0
def sp_J0_coder_7d493_p1005  : Int32 :=
  if (1 : Int32) = 0 then
    1
  else
    0
def sp_J0_length_8abf5_p1005  : Int32 :=
  (xi_shr 4 (sp_J0_coder_7d493_p1005))
def sp_J0_isLatin1_aae02_p1005  : Int32 :=
  if (1 : Int32) = 0 then
    0
  else
    if (0 : Int32) = 0 then
      1
    else
      0
def sp_J1_charAt_3b067_p2005 (p2 : Int32)  : Option (Int32) :=
  (sp_J0_checkIndex_df160 p2 4).bind fun r1 =>
  (xo_str 5 p2).bind fun v2 =>
  some (UInt32.toInt32 (Int32.toUInt32 (v2 &&& 255) % 65536))
def sp_J0_charAt_5068e_p1005 (p1 : Int32)  : Option (Int32) :=
  if (sp_J0_isLatin1_aae02_p1005) = 0 then
    none
  else
    (sp_J1_charAt_3b067_p2005 p1).bind fun r1 =>
    if ¬ (UInt32.toInt32 (Int32.toUInt32 r1 % 65536)) = r1 then none else
    some r1
def sp_X2_spells_p1005_20 (r_place : Int32) (r_tape : Nat → Int32) : Nat → Int32 → Option (Int32)
  | 0, _ => none
  | n + 1, u2 =>
    if (sp_J0_length_8abf5_p1005) ≤ u2 then
      some 1
    else
      (xo_at r_tape 160 (r_place + u2)).bind fun v1 =>
      (sp_J0_charAt_5068e_p1005 u2).bind fun r2 =>
      if v1 = r2 then
        sp_X2_spells_p1005_20 r_place r_tape n (u2 + 1)
      else
        some 0
def sp_X2_spells_p1005 (r_place : Int32) (r_at : Int32) (r_tape : Nat → Int32) : Option (Int32) :=
  if (r_at - r_place) = (sp_J0_length_8abf5_p1005) then
    sp_X2_spells_p1005_20 r_place r_tape 5000 0
  else
    some 0
def sp_J0_coder_7d493_p1006  : Int32 :=
  if (1 : Int32) = 0 then
    1
  else
    0
def sp_J0_length_8abf5_p1006  : Int32 :=
  (xi_shr 5 (sp_J0_coder_7d493_p1006))
def sp_J0_isLatin1_aae02_p1006  : Int32 :=
  if (1 : Int32) = 0 then
    0
  else
    if (0 : Int32) = 0 then
      1
    else
      0
def sp_J1_charAt_3b067_p2006 (p2 : Int32)  : Option (Int32) :=
  (sp_J0_checkIndex_df160 p2 5).bind fun r1 =>
  (xo_str 6 p2).bind fun v2 =>
  some (UInt32.toInt32 (Int32.toUInt32 (v2 &&& 255) % 65536))
def sp_J0_charAt_5068e_p1006 (p1 : Int32)  : Option (Int32) :=
  if (sp_J0_isLatin1_aae02_p1006) = 0 then
    none
  else
    (sp_J1_charAt_3b067_p2006 p1).bind fun r1 =>
    if ¬ (UInt32.toInt32 (Int32.toUInt32 r1 % 65536)) = r1 then none else
    some r1
def sp_X2_spells_p1006_20 (r_place : Int32) (r_tape : Nat → Int32) : Nat → Int32 → Option (Int32)
  | 0, _ => none
  | n + 1, u2 =>
    if (sp_J0_length_8abf5_p1006) ≤ u2 then
      some 1
    else
      (xo_at r_tape 160 (r_place + u2)).bind fun v1 =>
      (sp_J0_charAt_5068e_p1006 u2).bind fun r2 =>
      if v1 = r2 then
        sp_X2_spells_p1006_20 r_place r_tape n (u2 + 1)
      else
        some 0
def sp_X2_spells_p1006 (r_place : Int32) (r_at : Int32) (r_tape : Nat → Int32) : Option (Int32) :=
  if (r_at - r_place) = (sp_J0_length_8abf5_p1006) then
    sp_X2_spells_p1006_20 r_place r_tape 5000 0
  else
    some 0
def sp_J0_coder_7d493_p1007  : Int32 :=
  if (1 : Int32) = 0 then
    1
  else
    0
def sp_J0_length_8abf5_p1007  : Int32 :=
  (xi_shr 5 (sp_J0_coder_7d493_p1007))
def sp_J0_isLatin1_aae02_p1007  : Int32 :=
  if (1 : Int32) = 0 then
    0
  else
    if (0 : Int32) = 0 then
      1
    else
      0
def sp_J1_charAt_3b067_p2007 (p2 : Int32)  : Option (Int32) :=
  (sp_J0_checkIndex_df160 p2 5).bind fun r1 =>
  (xo_str 7 p2).bind fun v2 =>
  some (UInt32.toInt32 (Int32.toUInt32 (v2 &&& 255) % 65536))
def sp_J0_charAt_5068e_p1007 (p1 : Int32)  : Option (Int32) :=
  if (sp_J0_isLatin1_aae02_p1007) = 0 then
    none
  else
    (sp_J1_charAt_3b067_p2007 p1).bind fun r1 =>
    if ¬ (UInt32.toInt32 (Int32.toUInt32 r1 % 65536)) = r1 then none else
    some r1
def sp_X2_spells_p1007_20 (r_place : Int32) (r_tape : Nat → Int32) : Nat → Int32 → Option (Int32)
  | 0, _ => none
  | n + 1, u2 =>
    if (sp_J0_length_8abf5_p1007) ≤ u2 then
      some 1
    else
      (xo_at r_tape 160 (r_place + u2)).bind fun v1 =>
      (sp_J0_charAt_5068e_p1007 u2).bind fun r2 =>
      if v1 = r2 then
        sp_X2_spells_p1007_20 r_place r_tape n (u2 + 1)
      else
        some 0
def sp_X2_spells_p1007 (r_place : Int32) (r_at : Int32) (r_tape : Nat → Int32) : Option (Int32) :=
  if (r_at - r_place) = (sp_J0_length_8abf5_p1007) then
    sp_X2_spells_p1007_20 r_place r_tape 5000 0
  else
    some 0
def sp_J0_coder_7d493_p1008  : Int32 :=
  if (1 : Int32) = 0 then
    1
  else
    0
def sp_J0_length_8abf5_p1008  : Int32 :=
  (xi_shr 5 (sp_J0_coder_7d493_p1008))
def sp_J0_isLatin1_aae02_p1008  : Int32 :=
  if (1 : Int32) = 0 then
    0
  else
    if (0 : Int32) = 0 then
      1
    else
      0
def sp_J1_charAt_3b067_p2008 (p2 : Int32)  : Option (Int32) :=
  (sp_J0_checkIndex_df160 p2 5).bind fun r1 =>
  (xo_str 8 p2).bind fun v2 =>
  some (UInt32.toInt32 (Int32.toUInt32 (v2 &&& 255) % 65536))
def sp_J0_charAt_5068e_p1008 (p1 : Int32)  : Option (Int32) :=
  if (sp_J0_isLatin1_aae02_p1008) = 0 then
    none
  else
    (sp_J1_charAt_3b067_p2008 p1).bind fun r1 =>
    if ¬ (UInt32.toInt32 (Int32.toUInt32 r1 % 65536)) = r1 then none else
    some r1
def sp_X2_spells_p1008_20 (r_place : Int32) (r_tape : Nat → Int32) : Nat → Int32 → Option (Int32)
  | 0, _ => none
  | n + 1, u2 =>
    if (sp_J0_length_8abf5_p1008) ≤ u2 then
      some 1
    else
      (xo_at r_tape 160 (r_place + u2)).bind fun v1 =>
      (sp_J0_charAt_5068e_p1008 u2).bind fun r2 =>
      if v1 = r2 then
        sp_X2_spells_p1008_20 r_place r_tape n (u2 + 1)
      else
        some 0
def sp_X2_spells_p1008 (r_place : Int32) (r_at : Int32) (r_tape : Nat → Int32) : Option (Int32) :=
  if (r_at - r_place) = (sp_J0_length_8abf5_p1008) then
    sp_X2_spells_p1008_20 r_place r_tape 5000 0
  else
    some 0
def sp_J0_coder_7d493_p1009  : Int32 :=
  if (1 : Int32) = 0 then
    1
  else
    0
def sp_J0_length_8abf5_p1009  : Int32 :=
  (xi_shr 2 (sp_J0_coder_7d493_p1009))
def sp_J0_isLatin1_aae02_p1009  : Int32 :=
  if (1 : Int32) = 0 then
    0
  else
    if (0 : Int32) = 0 then
      1
    else
      0
def sp_J1_charAt_3b067_p2009 (p2 : Int32)  : Option (Int32) :=
  (sp_J0_checkIndex_df160 p2 2).bind fun r1 =>
  (xo_str 9 p2).bind fun v2 =>
  some (UInt32.toInt32 (Int32.toUInt32 (v2 &&& 255) % 65536))
def sp_J0_charAt_5068e_p1009 (p1 : Int32)  : Option (Int32) :=
  if (sp_J0_isLatin1_aae02_p1009) = 0 then
    none
  else
    (sp_J1_charAt_3b067_p2009 p1).bind fun r1 =>
    if ¬ (UInt32.toInt32 (Int32.toUInt32 r1 % 65536)) = r1 then none else
    some r1
def sp_X2_spells_p1009_20 (r_place : Int32) (r_tape : Nat → Int32) : Nat → Int32 → Option (Int32)
  | 0, _ => none
  | n + 1, u2 =>
    if (sp_J0_length_8abf5_p1009) ≤ u2 then
      some 1
    else
      (xo_at r_tape 160 (r_place + u2)).bind fun v1 =>
      (sp_J0_charAt_5068e_p1009 u2).bind fun r2 =>
      if v1 = r2 then
        sp_X2_spells_p1009_20 r_place r_tape n (u2 + 1)
      else
        some 0
def sp_X2_spells_p1009 (r_place : Int32) (r_at : Int32) (r_tape : Nat → Int32) : Option (Int32) :=
  if (r_at - r_place) = (sp_J0_length_8abf5_p1009) then
    sp_X2_spells_p1009_20 r_place r_tape 5000 0
  else
    some 0
def sp_J0_coder_7d493_p1010  : Int32 :=
  if (1 : Int32) = 0 then
    1
  else
    0
def sp_J0_length_8abf5_p1010  : Int32 :=
  (xi_shr 3 (sp_J0_coder_7d493_p1010))
def sp_J0_isLatin1_aae02_p1010  : Int32 :=
  if (1 : Int32) = 0 then
    0
  else
    if (0 : Int32) = 0 then
      1
    else
      0
def sp_J1_charAt_3b067_p2010 (p2 : Int32)  : Option (Int32) :=
  (sp_J0_checkIndex_df160 p2 3).bind fun r1 =>
  (xo_str 10 p2).bind fun v2 =>
  some (UInt32.toInt32 (Int32.toUInt32 (v2 &&& 255) % 65536))
def sp_J0_charAt_5068e_p1010 (p1 : Int32)  : Option (Int32) :=
  if (sp_J0_isLatin1_aae02_p1010) = 0 then
    none
  else
    (sp_J1_charAt_3b067_p2010 p1).bind fun r1 =>
    if ¬ (UInt32.toInt32 (Int32.toUInt32 r1 % 65536)) = r1 then none else
    some r1
def sp_X2_spells_p1010_20 (r_place : Int32) (r_tape : Nat → Int32) : Nat → Int32 → Option (Int32)
  | 0, _ => none
  | n + 1, u2 =>
    if (sp_J0_length_8abf5_p1010) ≤ u2 then
      some 1
    else
      (xo_at r_tape 160 (r_place + u2)).bind fun v1 =>
      (sp_J0_charAt_5068e_p1010 u2).bind fun r2 =>
      if v1 = r2 then
        sp_X2_spells_p1010_20 r_place r_tape n (u2 + 1)
      else
        some 0
def sp_X2_spells_p1010 (r_place : Int32) (r_at : Int32) (r_tape : Nat → Int32) : Option (Int32) :=
  if (r_at - r_place) = (sp_J0_length_8abf5_p1010) then
    sp_X2_spells_p1010_20 r_place r_tape 5000 0
  else
    some 0
def sp_J0_coder_7d493_p1011  : Int32 :=
  if (1 : Int32) = 0 then
    1
  else
    0
def sp_J0_length_8abf5_p1011  : Int32 :=
  (xi_shr 3 (sp_J0_coder_7d493_p1011))
def sp_J0_isLatin1_aae02_p1011  : Int32 :=
  if (1 : Int32) = 0 then
    0
  else
    if (0 : Int32) = 0 then
      1
    else
      0
def sp_J1_charAt_3b067_p2011 (p2 : Int32)  : Option (Int32) :=
  (sp_J0_checkIndex_df160 p2 3).bind fun r1 =>
  (xo_str 11 p2).bind fun v2 =>
  some (UInt32.toInt32 (Int32.toUInt32 (v2 &&& 255) % 65536))
def sp_J0_charAt_5068e_p1011 (p1 : Int32)  : Option (Int32) :=
  if (sp_J0_isLatin1_aae02_p1011) = 0 then
    none
  else
    (sp_J1_charAt_3b067_p2011 p1).bind fun r1 =>
    if ¬ (UInt32.toInt32 (Int32.toUInt32 r1 % 65536)) = r1 then none else
    some r1
def sp_X2_spells_p1011_20 (r_place : Int32) (r_tape : Nat → Int32) : Nat → Int32 → Option (Int32)
  | 0, _ => none
  | n + 1, u2 =>
    if (sp_J0_length_8abf5_p1011) ≤ u2 then
      some 1
    else
      (xo_at r_tape 160 (r_place + u2)).bind fun v1 =>
      (sp_J0_charAt_5068e_p1011 u2).bind fun r2 =>
      if v1 = r2 then
        sp_X2_spells_p1011_20 r_place r_tape n (u2 + 1)
      else
        some 0
def sp_X2_spells_p1011 (r_place : Int32) (r_at : Int32) (r_tape : Nat → Int32) : Option (Int32) :=
  if (r_at - r_place) = (sp_J0_length_8abf5_p1011) then
    sp_X2_spells_p1011_20 r_place r_tape 5000 0
  else
    some 0
def sp_X2_word_0 (r_size : Int32) (r_place : Int32) (r_tape : Nat → Int32) : Nat → Int32 → Option (Int32 × Int32)
  | 0, _ => none
  | n + 1, r_at =>
    if r_size ≤ r_at then
      (sp_X2_spells_p1000 r_place r_at r_tape).bind fun r1 =>
      if r1 = 0 then
        (sp_X2_spells_p1001 r_place r_at r_tape).bind fun r2 =>
        if r2 = 0 then
          (sp_X2_spells_p1002 r_place r_at r_tape).bind fun r3 =>
          if r3 = 0 then
            (sp_X2_spells_p1003 r_place r_at r_tape).bind fun r4 =>
            if r4 = 0 then
              (sp_X2_spells_p1004 r_place r_at r_tape).bind fun r5 =>
              if r5 = 0 then
                (sp_X2_spells_p1005 r_place r_at r_tape).bind fun r6 =>
                if r6 = 0 then
                  (sp_X2_spells_p1006 r_place r_at r_tape).bind fun r7 =>
                  if r7 = 0 then
                    (sp_X2_spells_p1007 r_place r_at r_tape).bind fun r8 =>
                    if r8 = 0 then
                      (sp_X2_spells_p1008 r_place r_at r_tape).bind fun r9 =>
                      if r9 = 0 then
                        (sp_X2_spells_p1009 r_place r_at r_tape).bind fun r10 =>
                        if r10 = 0 then
                          (sp_X2_spells_p1010 r_place r_at r_tape).bind fun r11 =>
                          if r11 = 0 then
                            (sp_X2_spells_p1011 r_place r_at r_tape).bind fun r12 =>
                            if r12 = 0 then
                              some (10032, r_at)
                            else
                              some (10015, r_at)
                          else
                            some (10014, r_at)
                        else
                          some (10013, r_at)
                      else
                        some (10012, r_at)
                    else
                      some (10011, r_at)
                  else
                    some (10010, r_at)
                else
                  some (10005, r_at)
              else
                some (10004, r_at)
            else
              some (10003, r_at)
          else
            some (10002, r_at)
        else
          some (10001, r_at)
      else
        some (10000, r_at)
    else
      (xo_at r_tape 160 r_at).bind fun v13 =>
      if (sp_X2_isLetter v13) = 0 then
        (sp_X2_spells_p1000 r_place r_at r_tape).bind fun r14 =>
        if r14 = 0 then
          (sp_X2_spells_p1001 r_place r_at r_tape).bind fun r15 =>
          if r15 = 0 then
            (sp_X2_spells_p1002 r_place r_at r_tape).bind fun r16 =>
            if r16 = 0 then
              (sp_X2_spells_p1003 r_place r_at r_tape).bind fun r17 =>
              if r17 = 0 then
                (sp_X2_spells_p1004 r_place r_at r_tape).bind fun r18 =>
                if r18 = 0 then
                  (sp_X2_spells_p1005 r_place r_at r_tape).bind fun r19 =>
                  if r19 = 0 then
                    (sp_X2_spells_p1006 r_place r_at r_tape).bind fun r20 =>
                    if r20 = 0 then
                      (sp_X2_spells_p1007 r_place r_at r_tape).bind fun r21 =>
                      if r21 = 0 then
                        (sp_X2_spells_p1008 r_place r_at r_tape).bind fun r22 =>
                        if r22 = 0 then
                          (sp_X2_spells_p1009 r_place r_at r_tape).bind fun r23 =>
                          if r23 = 0 then
                            (sp_X2_spells_p1010 r_place r_at r_tape).bind fun r24 =>
                            if r24 = 0 then
                              (sp_X2_spells_p1011 r_place r_at r_tape).bind fun r25 =>
                              if r25 = 0 then
                                some (10032, r_at)
                              else
                                some (10015, r_at)
                            else
                              some (10014, r_at)
                          else
                            some (10013, r_at)
                        else
                          some (10012, r_at)
                      else
                        some (10011, r_at)
                    else
                      some (10010, r_at)
                  else
                    some (10005, r_at)
                else
                  some (10004, r_at)
              else
                some (10003, r_at)
            else
              some (10002, r_at)
          else
            some (10001, r_at)
        else
          some (10000, r_at)
      else
        sp_X2_word_0 r_size r_place r_tape n (r_at + 1)
def sp_X2_word (r_size : Int32) (r_place : Int32) (r_at : Int32) (r_tape : Nat → Int32) : Option (Int32 × Int32) :=
  sp_X2_word_0 r_size r_place r_tape 5000 r_at
def sp_X2_next_0 (r_size : Int32) (r_tape : Nat → Int32) : Nat → Int32 → Int32 → Int32 → Option (Int32 × Int32 × Int32)
  | 0, _, _, _ => none
  | n + 1, r_token, r_place, r_at =>
    if r_size ≤ r_at then
      if r_at < r_size then
        (xo_at r_tape 160 r_at).bind fun v1 =>
        if (sp_X2_isLetter v1) = 0 then
          (xo_at r_tape 160 r_at).bind fun v2 =>
          if (sp_X2_isDigit v2) = 0 then
            (xo_at r_tape 160 r_at).bind fun v3 =>
            some ((sp_X2_sign v3), r_at, (r_at + 1))
          else
            (sp_X2_figure r_size r_at r_at r_tape).bind fun r4 =>
            some (r4.1, r_at, r4.2)
        else
          (sp_X2_word r_size r_at r_at r_tape).bind fun r5 =>
          some (r5.1, r_at, r5.2)
      else
        some (10031, r_at, r_at)
    else
      (xo_at r_tape 160 r_at).bind fun v6 =>
      if v6 = 32 then
        sp_X2_next_0 r_size r_tape n r_token r_place (r_at + 1)
      else
        (xo_at r_tape 160 r_at).bind fun v7 =>
        if v7 = 10 then
          sp_X2_next_0 r_size r_tape n r_token r_place (r_at + 1)
        else
          if r_at < r_size then
            (xo_at r_tape 160 r_at).bind fun v8 =>
            if (sp_X2_isLetter v8) = 0 then
              (xo_at r_tape 160 r_at).bind fun v9 =>
              if (sp_X2_isDigit v9) = 0 then
                (xo_at r_tape 160 r_at).bind fun v10 =>
                some ((sp_X2_sign v10), r_at, (r_at + 1))
              else
                (sp_X2_figure r_size r_at r_at r_tape).bind fun r11 =>
                some (r11.1, r_at, r11.2)
            else
              (sp_X2_word r_size r_at r_at r_tape).bind fun r12 =>
              some (r12.1, r_at, r12.2)
          else
            some (10031, r_at, r_at)
def sp_X2_next (r_size : Int32) (r_token : Int32) (r_place : Int32) (r_at : Int32) (r_tape : Nat → Int32) : Option (Int32 × Int32 × Int32) :=
  sp_X2_next_0 r_size r_tape 5000 r_token r_place r_at
def sp_X2_takes (p1 : Int32) (r_size : Int32) (r_token : Int32) (r_place : Int32) (r_at : Int32) (r_tape : Nat → Int32) : Option (Int32 × Int32 × Int32 × Int32) :=
  if r_token = p1 then
    (sp_X2_next r_size r_token r_place r_at r_tape).bind fun r1 =>
    some (1, r1.1, r1.2.1, r1.2.2)
  else
    some (0, r_token, r_place, r_at)
def sp_X2_make (p1 : Int32) (r_made : Int32) (r_steps : Nat → Int32) : Option (Int32 × (Nat → Int32)) :=
  if 160 ≤ r_made then
    some (r_made, r_steps)
  else
    (xo_set r_steps 160 r_made p1).bind fun f1 =>
    some ((r_made + 1), f1)
def sp_X2_opensAll_5 (u1 : Int32) (u2 : Int32) (r_size : Int32) (r_tape : Nat → Int32) : Nat → Int32 → Int32 → Int32 → Int32 → Option (Int32 × Int32 × Int32 × Int32 × Int32)
  | 0, _, _, _, _ => none
  | n + 1, r_token, r_place, r_at, r_open =>
    if 5 ≤ r_open then
      some ((r_open - u2), r_token, r_place, r_at, r_open)
    else
      if r_token = u1 then
        (sp_X2_next r_size r_token r_place r_at r_tape).bind fun r1 =>
        sp_X2_opensAll_5 u1 u2 r_size r_tape n r1.1 r1.2.1 r1.2.2 (r_open + 1)
      else
        some ((r_open - u2), r_token, r_place, r_at, r_open)
def sp_X2_opensAll (p1 : Int32) (r_size : Int32) (r_token : Int32) (r_place : Int32) (r_at : Int32) (r_open : Int32) (r_tape : Nat → Int32) : Option (Int32 × Int32 × Int32 × Int32 × Int32) :=
  sp_X2_opensAll_5 p1 r_open r_size r_tape 5000 r_token r_place r_at r_open
def sp_X2_closes_2 (u1 : Int32) (u2 : Int32) : Nat → Int32 → Int32 → Int32 → (Nat → Int32) → Option (Int32 × Int32 × Int32 × (Nat → Int32))
  | 0, _, _, _, _ => none
  | n + 1, u3, r_open, r_made, r_steps =>
    if u1 ≤ u3 then
      some (1, r_open, r_made, r_steps)
    else
      (sp_X2_make u2 r_made r_steps).bind fun r1 =>
      sp_X2_closes_2 u1 u2 n (u3 + 1) (r_open - 1) r1.1 r1.2
def sp_X2_closes (p1 : Int32) (p2 : Int32) (r_open : Int32) (r_made : Int32) (r_steps : Nat → Int32) : Option (Int32 × Int32 × Int32 × (Nat → Int32)) :=
  sp_X2_closes_2 p1 p2 5000 0 r_open r_made r_steps
def sp_X2_readsE_11 (R : Nat → Int32 → Int32 → Int32 → Int32 → Int32 → Int32 → (Nat → Int32) → (Nat → Int32) → Option (Int32 × Int32 × Int32 × Int32 × Int32 × Int32 × (Nat → Int32))) (r_size : Int32) (r_tape : Nat → Int32) : Nat → Int32 → Int32 → Int32 → Int32 → Int32 → Int32 → (Nat → Int32) → Option (Int32 × Int32 × Int32 × Int32 × Int32 × Int32 × (Nat → Int32))
  | 0, _, _, _, _, _, _, _ => none
  | n + 1, u1, r_token, r_place, r_at, r_open, r_made, r_steps =>
    if 160 ≤ u1 then
      some (1, r_token, r_place, r_at, r_open, r_made, r_steps)
    else
      if r_token = 10013 then
        (sp_X2_next r_size r_token r_place r_at r_tape).bind fun r2 =>
        (R 1 r_size r2.1 r2.2.1 r2.2.2 r_open r_made r_tape r_steps).bind fun r3 =>
        if r3.1 = 0 then
          some (0, r3.2.1, r3.2.2.1, r3.2.2.2.1, r3.2.2.2.2.1, r3.2.2.2.2.2.1, r3.2.2.2.2.2.2)
        else
          (sp_X2_make 10013 r3.2.2.2.2.2.1 r3.2.2.2.2.2.2).bind fun r4 =>
          sp_X2_readsE_11 R r_size r_tape n (u1 + 1) r3.2.1 r3.2.2.1 r3.2.2.2.1 r3.2.2.2.2.1 r4.1 r4.2
      else
        some (1, r_token, r_place, r_at, r_open, r_made, r_steps)
def sp_X2_readsE (R : Nat → Int32 → Int32 → Int32 → Int32 → Int32 → Int32 → (Nat → Int32) → (Nat → Int32) → Option (Int32 × Int32 × Int32 × Int32 × Int32 × Int32 × (Nat → Int32))) (r_size : Int32) (r_token : Int32) (r_place : Int32) (r_at : Int32) (r_open : Int32) (r_made : Int32) (r_tape : Nat → Int32) (r_steps : Nat → Int32) : Option (Int32 × Int32 × Int32 × Int32 × Int32 × Int32 × (Nat → Int32)) :=
  (R 1 r_size r_token r_place r_at r_open r_made r_tape r_steps).bind fun r1 =>
  if r1.1 = 0 then
    some (0, r1.2.1, r1.2.2.1, r1.2.2.2.1, r1.2.2.2.2.1, r1.2.2.2.2.2.1, r1.2.2.2.2.2.2)
  else
    sp_X2_readsE_11 R r_size r_tape 5000 0 r1.2.1 r1.2.2.1 r1.2.2.2.1 r1.2.2.2.2.1 r1.2.2.2.2.2.1 r1.2.2.2.2.2.2
def sp_X2_readsAnd_11 (R : Nat → Int32 → Int32 → Int32 → Int32 → Int32 → Int32 → (Nat → Int32) → (Nat → Int32) → Option (Int32 × Int32 × Int32 × Int32 × Int32 × Int32 × (Nat → Int32))) (r_size : Int32) (r_tape : Nat → Int32) : Nat → Int32 → Int32 → Int32 → Int32 → Int32 → Int32 → (Nat → Int32) → Option (Int32 × Int32 × Int32 × Int32 × Int32 × Int32 × (Nat → Int32))
  | 0, _, _, _, _, _, _, _ => none
  | n + 1, u1, r_token, r_place, r_at, r_open, r_made, r_steps =>
    if 160 ≤ u1 then
      some (1, r_token, r_place, r_at, r_open, r_made, r_steps)
    else
      if r_token = 10014 then
        (sp_X2_next r_size r_token r_place r_at r_tape).bind fun r2 =>
        (R 2 r_size r2.1 r2.2.1 r2.2.2 r_open r_made r_tape r_steps).bind fun r3 =>
        if r3.1 = 0 then
          some (0, r3.2.1, r3.2.2.1, r3.2.2.2.1, r3.2.2.2.2.1, r3.2.2.2.2.2.1, r3.2.2.2.2.2.2)
        else
          (sp_X2_make 10014 r3.2.2.2.2.2.1 r3.2.2.2.2.2.2).bind fun r4 =>
          sp_X2_readsAnd_11 R r_size r_tape n (u1 + 1) r3.2.1 r3.2.2.1 r3.2.2.2.1 r3.2.2.2.2.1 r4.1 r4.2
      else
        some (1, r_token, r_place, r_at, r_open, r_made, r_steps)
def sp_X2_readsAnd (R : Nat → Int32 → Int32 → Int32 → Int32 → Int32 → Int32 → (Nat → Int32) → (Nat → Int32) → Option (Int32 × Int32 × Int32 × Int32 × Int32 × Int32 × (Nat → Int32))) (r_size : Int32) (r_token : Int32) (r_place : Int32) (r_at : Int32) (r_open : Int32) (r_made : Int32) (r_tape : Nat → Int32) (r_steps : Nat → Int32) : Option (Int32 × Int32 × Int32 × Int32 × Int32 × Int32 × (Nat → Int32)) :=
  (R 2 r_size r_token r_place r_at r_open r_made r_tape r_steps).bind fun r1 =>
  if r1.1 = 0 then
    some (0, r1.2.1, r1.2.2.1, r1.2.2.2.1, r1.2.2.2.2.1, r1.2.2.2.2.2.1, r1.2.2.2.2.2.2)
  else
    sp_X2_readsAnd_11 R r_size r_tape 5000 0 r1.2.1 r1.2.2.1 r1.2.2.2.1 r1.2.2.2.2.1 r1.2.2.2.2.2.1 r1.2.2.2.2.2.2
def sp_X2_readsNot (R : Nat → Int32 → Int32 → Int32 → Int32 → Int32 → Int32 → (Nat → Int32) → (Nat → Int32) → Option (Int32 × Int32 × Int32 × Int32 × Int32 × Int32 × (Nat → Int32))) (r_size : Int32) (r_token : Int32) (r_place : Int32) (r_at : Int32) (r_open : Int32) (r_made : Int32) (r_tape : Nat → Int32) (r_steps : Nat → Int32) : Option (Int32 × Int32 × Int32 × Int32 × Int32 × Int32 × (Nat → Int32)) :=
  (sp_X2_opensAll 10015 r_size r_token r_place r_at r_open r_tape).bind fun r1 =>
  (R 3 r_size r1.2.1 r1.2.2.1 r1.2.2.2.1 r1.2.2.2.2 r_made r_tape r_steps).bind fun r2 =>
  if r2.1 = 0 then
    some (0, r2.2.1, r2.2.2.1, r2.2.2.2.1, r2.2.2.2.2.1, r2.2.2.2.2.2.1, r2.2.2.2.2.2.2)
  else
    (sp_X2_closes r1.1 10015 r2.2.2.2.2.1 r2.2.2.2.2.2.1 r2.2.2.2.2.2.2).bind fun r3 =>
    if r3.1 = 0 then
      some (0, r2.2.1, r2.2.2.1, r2.2.2.2.1, r3.2.1, r3.2.2.1, r3.2.2.2)
    else
      some (1, r2.2.1, r2.2.2.1, r2.2.2.2.1, r3.2.1, r3.2.2.1, r3.2.2.2)
def sp_X2_readsComparison (R : Nat → Int32 → Int32 → Int32 → Int32 → Int32 → Int32 → (Nat → Int32) → (Nat → Int32) → Option (Int32 × Int32 × Int32 × Int32 × Int32 × Int32 × (Nat → Int32))) (r_size : Int32) (r_token : Int32) (r_place : Int32) (r_at : Int32) (r_open : Int32) (r_made : Int32) (r_tape : Nat → Int32) (r_steps : Nat → Int32) : Option (Int32 × Int32 × Int32 × Int32 × Int32 × Int32 × (Nat → Int32)) :=
  (R 4 r_size r_token r_place r_at r_open r_made r_tape r_steps).bind fun r1 =>
  if r1.1 = 0 then
    some (0, r1.2.1, r1.2.2.1, r1.2.2.2.1, r1.2.2.2.2.1, r1.2.2.2.2.2.1, r1.2.2.2.2.2.2)
  else
    if r1.2.1 = 10026 then
      (sp_X2_next r_size r1.2.1 r1.2.2.1 r1.2.2.2.1 r_tape).bind fun r2 =>
      (R 4 r_size r2.1 r2.2.1 r2.2.2 r1.2.2.2.2.1 r1.2.2.2.2.2.1 r_tape r1.2.2.2.2.2.2).bind fun r3 =>
      if r3.1 = 0 then
        some (0, r3.2.1, r3.2.2.1, r3.2.2.2.1, r3.2.2.2.2.1, r3.2.2.2.2.2.1, r3.2.2.2.2.2.2)
      else
        (sp_X2_make r1.2.1 r3.2.2.2.2.2.1 r3.2.2.2.2.2.2).bind fun r4 =>
        some (1, r3.2.1, r3.2.2.1, r3.2.2.2.1, r3.2.2.2.2.1, r4.1, r4.2)
    else
      if r1.2.1 = 10027 then
        (sp_X2_next r_size r1.2.1 r1.2.2.1 r1.2.2.2.1 r_tape).bind fun r5 =>
        (R 4 r_size r5.1 r5.2.1 r5.2.2 r1.2.2.2.2.1 r1.2.2.2.2.2.1 r_tape r1.2.2.2.2.2.2).bind fun r6 =>
        if r6.1 = 0 then
          some (0, r6.2.1, r6.2.2.1, r6.2.2.2.1, r6.2.2.2.2.1, r6.2.2.2.2.2.1, r6.2.2.2.2.2.2)
        else
          (sp_X2_make r1.2.1 r6.2.2.2.2.2.1 r6.2.2.2.2.2.2).bind fun r7 =>
          some (1, r6.2.1, r6.2.2.1, r6.2.2.2.1, r6.2.2.2.2.1, r7.1, r7.2)
      else
        some (1, r1.2.1, r1.2.2.1, r1.2.2.2.1, r1.2.2.2.2.1, r1.2.2.2.2.2.1, r1.2.2.2.2.2.2)
def sp_X2_readsSum_11 (R : Nat → Int32 → Int32 → Int32 → Int32 → Int32 → Int32 → (Nat → Int32) → (Nat → Int32) → Option (Int32 × Int32 × Int32 × Int32 × Int32 × Int32 × (Nat → Int32))) (r_size : Int32) (r_tape : Nat → Int32) : Nat → Int32 → Int32 → Int32 → Int32 → Int32 → Int32 → (Nat → Int32) → Option (Int32 × Int32 × Int32 × Int32 × Int32 × Int32 × (Nat → Int32))
  | 0, _, _, _, _, _, _, _ => none
  | n + 1, u1, r_token, r_place, r_at, r_open, r_made, r_steps =>
    if 160 ≤ u1 then
      some (1, r_token, r_place, r_at, r_open, r_made, r_steps)
    else
      if r_token = 10023 then
        (sp_X2_next r_size r_token r_place r_at r_tape).bind fun r2 =>
        (R 5 r_size r2.1 r2.2.1 r2.2.2 r_open r_made r_tape r_steps).bind fun r3 =>
        if r3.1 = 0 then
          some (0, r3.2.1, r3.2.2.1, r3.2.2.2.1, r3.2.2.2.2.1, r3.2.2.2.2.2.1, r3.2.2.2.2.2.2)
        else
          (sp_X2_make r_token r3.2.2.2.2.2.1 r3.2.2.2.2.2.2).bind fun r4 =>
          sp_X2_readsSum_11 R r_size r_tape n (u1 + 1) r3.2.1 r3.2.2.1 r3.2.2.2.1 r3.2.2.2.2.1 r4.1 r4.2
      else
        if r_token = 10024 then
          (sp_X2_next r_size r_token r_place r_at r_tape).bind fun r5 =>
          (R 5 r_size r5.1 r5.2.1 r5.2.2 r_open r_made r_tape r_steps).bind fun r6 =>
          if r6.1 = 0 then
            some (0, r6.2.1, r6.2.2.1, r6.2.2.2.1, r6.2.2.2.2.1, r6.2.2.2.2.2.1, r6.2.2.2.2.2.2)
          else
            (sp_X2_make r_token r6.2.2.2.2.2.1 r6.2.2.2.2.2.2).bind fun r7 =>
            sp_X2_readsSum_11 R r_size r_tape n (u1 + 1) r6.2.1 r6.2.2.1 r6.2.2.2.1 r6.2.2.2.2.1 r7.1 r7.2
        else
          some (1, r_token, r_place, r_at, r_open, r_made, r_steps)
def sp_X2_readsSum (R : Nat → Int32 → Int32 → Int32 → Int32 → Int32 → Int32 → (Nat → Int32) → (Nat → Int32) → Option (Int32 × Int32 × Int32 × Int32 × Int32 × Int32 × (Nat → Int32))) (r_size : Int32) (r_token : Int32) (r_place : Int32) (r_at : Int32) (r_open : Int32) (r_made : Int32) (r_tape : Nat → Int32) (r_steps : Nat → Int32) : Option (Int32 × Int32 × Int32 × Int32 × Int32 × Int32 × (Nat → Int32)) :=
  (R 5 r_size r_token r_place r_at r_open r_made r_tape r_steps).bind fun r1 =>
  if r1.1 = 0 then
    some (0, r1.2.1, r1.2.2.1, r1.2.2.2.1, r1.2.2.2.2.1, r1.2.2.2.2.2.1, r1.2.2.2.2.2.2)
  else
    sp_X2_readsSum_11 R r_size r_tape 5000 0 r1.2.1 r1.2.2.1 r1.2.2.2.1 r1.2.2.2.2.1 r1.2.2.2.2.2.1 r1.2.2.2.2.2.2
def sp_X2_readsTerm_11 (R : Nat → Int32 → Int32 → Int32 → Int32 → Int32 → Int32 → (Nat → Int32) → (Nat → Int32) → Option (Int32 × Int32 × Int32 × Int32 × Int32 × Int32 × (Nat → Int32))) (r_size : Int32) (r_tape : Nat → Int32) : Nat → Int32 → Int32 → Int32 → Int32 → Int32 → Int32 → (Nat → Int32) → Option (Int32 × Int32 × Int32 × Int32 × Int32 × Int32 × (Nat → Int32))
  | 0, _, _, _, _, _, _, _ => none
  | n + 1, u1, r_token, r_place, r_at, r_open, r_made, r_steps =>
    if 160 ≤ u1 then
      some (1, r_token, r_place, r_at, r_open, r_made, r_steps)
    else
      if r_token = 10025 then
        (sp_X2_next r_size r_token r_place r_at r_tape).bind fun r2 =>
        (R 6 r_size r2.1 r2.2.1 r2.2.2 r_open r_made r_tape r_steps).bind fun r3 =>
        if r3.1 = 0 then
          some (0, r3.2.1, r3.2.2.1, r3.2.2.2.1, r3.2.2.2.2.1, r3.2.2.2.2.2.1, r3.2.2.2.2.2.2)
        else
          (sp_X2_make 10025 r3.2.2.2.2.2.1 r3.2.2.2.2.2.2).bind fun r4 =>
          sp_X2_readsTerm_11 R r_size r_tape n (u1 + 1) r3.2.1 r3.2.2.1 r3.2.2.2.1 r3.2.2.2.2.1 r4.1 r4.2
      else
        some (1, r_token, r_place, r_at, r_open, r_made, r_steps)
def sp_X2_readsTerm (R : Nat → Int32 → Int32 → Int32 → Int32 → Int32 → Int32 → (Nat → Int32) → (Nat → Int32) → Option (Int32 × Int32 × Int32 × Int32 × Int32 × Int32 × (Nat → Int32))) (r_size : Int32) (r_token : Int32) (r_place : Int32) (r_at : Int32) (r_open : Int32) (r_made : Int32) (r_tape : Nat → Int32) (r_steps : Nat → Int32) : Option (Int32 × Int32 × Int32 × Int32 × Int32 × Int32 × (Nat → Int32)) :=
  (R 6 r_size r_token r_place r_at r_open r_made r_tape r_steps).bind fun r1 =>
  if r1.1 = 0 then
    some (0, r1.2.1, r1.2.2.1, r1.2.2.2.1, r1.2.2.2.2.1, r1.2.2.2.2.2.1, r1.2.2.2.2.2.2)
  else
    sp_X2_readsTerm_11 R r_size r_tape 5000 0 r1.2.1 r1.2.2.1 r1.2.2.2.1 r1.2.2.2.2.1 r1.2.2.2.2.2.1 r1.2.2.2.2.2.2
def sp_X2_readsOne (R : Nat → Int32 → Int32 → Int32 → Int32 → Int32 → Int32 → (Nat → Int32) → (Nat → Int32) → Option (Int32 × Int32 × Int32 × Int32 × Int32 × Int32 × (Nat → Int32))) (r_size : Int32) (r_token : Int32) (r_place : Int32) (r_at : Int32) (r_open : Int32) (r_made : Int32) (r_tape : Nat → Int32) (r_steps : Nat → Int32) : Option (Int32 × Int32 × Int32 × Int32 × Int32 × Int32 × (Nat → Int32)) :=
  (sp_X2_opensAll 10024 r_size r_token r_place r_at r_open r_tape).bind fun r1 =>
  (R 7 r_size r1.2.1 r1.2.2.1 r1.2.2.2.1 r1.2.2.2.2 r_made r_tape r_steps).bind fun r2 =>
  if r2.1 = 0 then
    some (0, r2.2.1, r2.2.2.1, r2.2.2.2.1, r2.2.2.2.2.1, r2.2.2.2.2.2.1, r2.2.2.2.2.2.2)
  else
    (sp_X2_closes r1.1 10030 r2.2.2.2.2.1 r2.2.2.2.2.2.1 r2.2.2.2.2.2.2).bind fun r3 =>
    if r3.1 = 0 then
      some (0, r2.2.1, r2.2.2.1, r2.2.2.2.1, r3.2.1, r3.2.2.1, r3.2.2.2)
    else
      some (1, r2.2.1, r2.2.2.1, r2.2.2.2.1, r3.2.1, r3.2.2.1, r3.2.2.2)
def sp_X2_readsPlainOne (R : Nat → Int32 → Int32 → Int32 → Int32 → Int32 → Int32 → (Nat → Int32) → (Nat → Int32) → Option (Int32 × Int32 × Int32 × Int32 × Int32 × Int32 × (Nat → Int32))) (r_size : Int32) (r_token : Int32) (r_place : Int32) (r_at : Int32) (r_open : Int32) (r_made : Int32) (r_tape : Nat → Int32) (r_steps : Nat → Int32) : Option (Int32 × Int32 × Int32 × Int32 × Int32 × Int32 × (Nat → Int32)) :=
  if 10006 ≤ r_token then
    if r_token = 10020 then
      if r_open < 5 then
        (sp_X2_next r_size r_token r_place r_at r_tape).bind fun r1 =>
        (R 0 r_size r1.1 r1.2.1 r1.2.2 (r_open + 1) r_made r_tape r_steps).bind fun r2 =>
        if r2.1 = 0 then
          some (0, r2.2.1, r2.2.2.1, r2.2.2.2.1, r2.2.2.2.2.1, r2.2.2.2.2.2.1, r2.2.2.2.2.2.2)
        else
          (sp_X2_takes 10021 r_size r2.2.1 r2.2.2.1 r2.2.2.2.1 r_tape).bind fun r3 =>
          if r3.1 = 0 then
            some (0, r3.2.1, r3.2.2.1, r3.2.2.2, r2.2.2.2.2.1, r2.2.2.2.2.2.1, r2.2.2.2.2.2.2)
          else
            some (1, r3.2.1, r3.2.2.1, r3.2.2.2, (r2.2.2.2.2.1 - 1), r2.2.2.2.2.2.1, r2.2.2.2.2.2.2)
      else
        some (0, r_token, r_place, r_at, r_open, r_made, r_steps)
    else
      some (0, r_token, r_place, r_at, r_open, r_made, r_steps)
  else
    (sp_X2_make r_token r_made r_steps).bind fun r4 =>
    (sp_X2_next r_size r_token r_place r_at r_tape).bind fun r5 =>
    some (1, r5.1, r5.2.1, r5.2.2, r_open, r4.1, r4.2)
def sp_gX2 : Nat → Nat → Int32 → Int32 → Int32 → Int32 → Int32 → Int32 → (Nat → Int32) → (Nat → Int32) → Option (Int32 × Int32 × Int32 × Int32 × Int32 × Int32 × (Nat → Int32))
  | 0, _, _, _, _, _, _, _, _, _ => none
  | n + 1, tag, r_size, r_token, r_place, r_at, r_open, r_made, r_tape, r_steps => if tag = 0 then sp_X2_readsE (sp_gX2 n) r_size r_token r_place r_at r_open r_made r_tape r_steps else if tag = 1 then sp_X2_readsAnd (sp_gX2 n) r_size r_token r_place r_at r_open r_made r_tape r_steps else if tag = 2 then sp_X2_readsNot (sp_gX2 n) r_size r_token r_place r_at r_open r_made r_tape r_steps else if tag = 3 then sp_X2_readsComparison (sp_gX2 n) r_size r_token r_place r_at r_open r_made r_tape r_steps else if tag = 4 then sp_X2_readsSum (sp_gX2 n) r_size r_token r_place r_at r_open r_made r_tape r_steps else if tag = 5 then sp_X2_readsTerm (sp_gX2 n) r_size r_token r_place r_at r_open r_made r_tape r_steps else if tag = 6 then sp_X2_readsOne (sp_gX2 n) r_size r_token r_place r_at r_open r_made r_tape r_steps else if tag = 7 then sp_X2_readsPlainOne (sp_gX2 n) r_size r_token r_place r_at r_open r_made r_tape r_steps else none
def sp_X2_isText_21 (r_size : Int32) (r_tape : Nat → Int32) : Nat → Int32 → Int32 → Int32 → Int32 → Int32 → Int32 → (Nat → Int32) → (Nat → Int32) → Option (Int32 × Int32 × Int32 × Int32 × Int32 × Int32 × (Nat → Int32) × (Nat → Int32))
  | 0, _, _, _, _, _, _, _, _ => none
  | n + 1, u1, r_token, r_place, r_at, r_open, r_made, r_steps, r_ends =>
    if 3 ≤ u1 then
      if r_token = 10031 then
        some (1, r_token, r_place, r_at, r_open, r_made, r_steps, r_ends)
      else
        some (0, r_token, r_place, r_at, r_open, r_made, r_steps, r_ends)
    else
      (sp_X2_takes (10010 + u1) r_size r_token r_place r_at r_tape).bind fun r2 =>
      if r2.1 = 0 then
        some (0, r2.2.1, r2.2.2.1, r2.2.2.2, r_open, r_made, r_steps, r_ends)
      else
        (sp_gX2 80 0 r_size r2.2.1 r2.2.2.1 r2.2.2.2 r_open r_made r_tape r_steps).bind fun r3 =>
        if r3.1 = 0 then
          some (0, r3.2.1, r3.2.2.1, r3.2.2.2.1, r3.2.2.2.2.1, r3.2.2.2.2.2.1, r3.2.2.2.2.2.2, r_ends)
        else
          (sp_X2_takes 10022 r_size r3.2.1 r3.2.2.1 r3.2.2.2.1 r_tape).bind fun r4 =>
          if r4.1 = 0 then
            some (0, r4.2.1, r4.2.2.1, r4.2.2.2, r3.2.2.2.2.1, r3.2.2.2.2.2.1, r3.2.2.2.2.2.2, r_ends)
          else
            (xo_set r_ends 3 u1 r3.2.2.2.2.2.1).bind fun f5 =>
            sp_X2_isText_21 r_size r_tape n (u1 + 1) r4.2.1 r4.2.2.1 r4.2.2.2 r3.2.2.2.2.1 r3.2.2.2.2.2.1 r3.2.2.2.2.2.2 f5
def sp_X2_isText (r_size : Int32) (r_token : Int32) (r_place : Int32) (r_at : Int32) (r_open : Int32) (r_made : Int32) (r_tape : Nat → Int32) (r_steps : Nat → Int32) (r_ends : Nat → Int32) : Option (Int32 × Int32 × Int32 × Int32 × Int32 × Int32 × (Nat → Int32) × (Nat → Int32)) :=
  (sp_X2_next r_size r_token r_place 0 r_tape).bind fun r1 =>
  sp_X2_isText_21 r_size r_tape 5000 0 r1.1 r1.2.1 r1.2.2 0 0 r_steps r_ends
def sp_X5_text (r_size : Int32) (r_token : Int32) (r_place : Int32) (r_at : Int32) (r_open : Int32) (r_made : Int32) (t_size : Int32) (r_tape : Nat → Int32) (r_steps : Nat → Int32) (r_ends : Nat → Int32) (t_steps : Nat → Int32) (t_ends : Nat → Int32) : Option (Int32 × Int32 × Int32 × Int32 × Int32 × Int32 × Int32 × Int32 × (Nat → Int32) × (Nat → Int32) × (Nat → Int32) × (Nat → Int32)) :=
  if t_size < 6 then
    (sp_X2_isText r_size r_token r_place r_at r_open r_made r_tape r_steps r_ends).bind fun r1 =>
    if r1.1 = 0 then
      some (((-100) - r1.2.2.1), (sp_X2_empty r_size), r1.2.1, r1.2.2.1, r1.2.2.2.1, r1.2.2.2.2.1, r1.2.2.2.2.2.1, t_size, r1.2.2.2.2.2.2.1, r1.2.2.2.2.2.2.2, t_steps, t_ends)
    else
      (sp_X4_add_p9 t_size r1.2.2.2.2.2.2.1 r1.2.2.2.2.2.2.2 t_steps t_ends).bind fun r2 =>
      some (r2.1, (sp_X2_empty r_size), r1.2.1, r1.2.2.1, r1.2.2.2.1, r1.2.2.2.2.1, r1.2.2.2.2.2.1, r2.2.1, r1.2.2.2.2.2.2.1, r1.2.2.2.2.2.2.2, r2.2.2.1, r2.2.2.2)
  else
    some ((-4), r_size, r_token, r_place, r_at, r_open, r_made, t_size, r_steps, r_ends, t_steps, t_ends)
def sp_J0_coder_7d493_p1012  : Int32 :=
  if (1 : Int32) = 0 then
    1
  else
    0
def sp_J0_length_8abf5_p1012  : Int32 :=
  (xi_shr 49 (sp_J0_coder_7d493_p1012))
def sp_J0_isLatin1_aae02_p1012  : Int32 :=
  if (1 : Int32) = 0 then
    0
  else
    if (0 : Int32) = 0 then
      1
    else
      0
def sp_J1_charAt_3b067_p2012 (p2 : Int32)  : Option (Int32) :=
  (sp_J0_checkIndex_df160 p2 49).bind fun r1 =>
  (xo_str 12 p2).bind fun v2 =>
  some (UInt32.toInt32 (Int32.toUInt32 (v2 &&& 255) % 65536))
def sp_J0_charAt_5068e_p1012 (p1 : Int32)  : Option (Int32) :=
  if (sp_J0_isLatin1_aae02_p1012) = 0 then
    none
  else
    (sp_J1_charAt_3b067_p2012 p1).bind fun r1 =>
    if ¬ (UInt32.toInt32 (Int32.toUInt32 r1 % 65536)) = r1 then none else
    some r1
set_option maxRecDepth 4000 in
theorem t_X2_empty {o : Int32}  (hm : sp_X2_empty r_size = o) : xt_M yX2_empty cX2_empty 1 none (d + 0) [.ref 9] (WX o_size o_year o_gone o_minds o_lasts r_size r_token r_place r_at r_open r_made t_size t_rule i_there i_rule i_size i_year i_gone i_minds i_lasts o_parent o_kind o_number o_odds o_above o_kidCount o_lead r_tape r_steps r_ends t_steps t_ends t_stack s_sort s_size s_items i_number i_odds x_prices x_facts x_laws x_clues) (xt_Kv (WX o_size o_year o_gone o_minds o_lasts o r_token r_place r_at r_open r_made t_size t_rule i_there i_rule i_size i_year i_gone i_minds i_lasts o_parent o_kind o_number o_odds o_above o_kidCount o_lead r_tape r_steps r_ends t_steps t_ends t_stack s_sort s_size s_items i_number i_odds x_prices x_facts x_laws x_clues)) := by
  unfold sp_X2_empty at hm
  refine xt_M.go (own := RX2) (lv := [some (.ref 9)]) rfl rfl (Nat.le_of_ble_eq_true rfl) rfl ?_
  refine x_aload0 eX2_empty_0 ?_
  refine x_k eX2_empty_1 ?_
  refine x_puti (w' := WX _ _ _ _ _ _ _ _ _ _ _ _ _ _ _ _ _ _ _ _ _ _ _ _ _ _ _ _ _ _ _ _ _ _ _ _ _ _ _ _ _ _) eX2_empty_2 pX2_9 rfl (Nat.le_of_ble_eq_true rfl) rfl ?_
  subst hm
  exact x_vret eX2_empty_5 ⟨rfl, rfl⟩
set_option maxRecDepth 4000 in
theorem t_X2_isLetter {o : Int32} {p1 : Int32} (hm : sp_X2_isLetter p1 = o) : xt_M yX2_isLetter cX2_isLetter 1 (some .boolean) (d + 0) [.int p1] (WX o_size o_year o_gone o_minds o_lasts r_size r_token r_place r_at r_open r_made t_size t_rule i_there i_rule i_size i_year i_gone i_minds i_lasts o_parent o_kind o_number o_odds o_above o_kidCount o_lead r_tape r_steps r_ends t_steps t_ends t_stack s_sort s_size s_items i_number i_odds x_prices x_facts x_laws x_clues) (xt_Ki o (WX o_size o_year o_gone o_minds o_lasts r_size r_token r_place r_at r_open r_made t_size t_rule i_there i_rule i_size i_year i_gone i_minds i_lasts o_parent o_kind o_number o_odds o_above o_kidCount o_lead r_tape r_steps r_ends t_steps t_ends t_stack s_sort s_size s_items i_number i_odds x_prices x_facts x_laws x_clues)) := by
  unfold sp_X2_isLetter at hm
  refine xt_M.go (own := RX2) (lv := [some (.int p1)]) rfl rfl (Nat.le_of_ble_eq_true rfl) rfl ?_
  refine x_iload0 eX2_isLetter_0 ?_
  refine x_k eX2_isLetter_1 ?_
  refine x_icmp_lt eX2_isLetter_3 (fun c => ?_) (fun c => ?_)
  · rw [if_pos c] at hm
    refine x_k eX2_isLetter_16 ?_
    subst hm
    exact x_zret eX2_isLetter_17 (by decide) ⟨rfl, rfl⟩
  · rw [if_neg c] at hm
    refine x_iload0 eX2_isLetter_6 ?_
    refine x_k eX2_isLetter_7 ?_
    refine x_icmp_gt eX2_isLetter_9 (fun c => ?_) (fun c => ?_)
    · rw [if_pos c] at hm
      refine x_k eX2_isLetter_16 ?_
      subst hm
      exact x_zret eX2_isLetter_17 (by decide) ⟨rfl, rfl⟩
    · rw [if_neg c] at hm
      refine x_k eX2_isLetter_12 ?_
      refine x_goto eX2_isLetter_13 ?_
      subst hm
      exact x_zret eX2_isLetter_17 (by decide) ⟨rfl, rfl⟩
set_option maxRecDepth 4000 in
theorem t_X2_isDigit {o : Int32} {p1 : Int32} (hm : sp_X2_isDigit p1 = o) : xt_M yX2_isDigit cX2_isDigit 1 (some .boolean) (d + 0) [.int p1] (WX o_size o_year o_gone o_minds o_lasts r_size r_token r_place r_at r_open r_made t_size t_rule i_there i_rule i_size i_year i_gone i_minds i_lasts o_parent o_kind o_number o_odds o_above o_kidCount o_lead r_tape r_steps r_ends t_steps t_ends t_stack s_sort s_size s_items i_number i_odds x_prices x_facts x_laws x_clues) (xt_Ki o (WX o_size o_year o_gone o_minds o_lasts r_size r_token r_place r_at r_open r_made t_size t_rule i_there i_rule i_size i_year i_gone i_minds i_lasts o_parent o_kind o_number o_odds o_above o_kidCount o_lead r_tape r_steps r_ends t_steps t_ends t_stack s_sort s_size s_items i_number i_odds x_prices x_facts x_laws x_clues)) := by
  unfold sp_X2_isDigit at hm
  refine xt_M.go (own := RX2) (lv := [some (.int p1)]) rfl rfl (Nat.le_of_ble_eq_true rfl) rfl ?_
  refine x_iload0 eX2_isDigit_0 ?_
  refine x_k eX2_isDigit_1 ?_
  refine x_icmp_lt eX2_isDigit_3 (fun c => ?_) (fun c => ?_)
  · rw [if_pos c] at hm
    refine x_k eX2_isDigit_16 ?_
    subst hm
    exact x_zret eX2_isDigit_17 (by decide) ⟨rfl, rfl⟩
  · rw [if_neg c] at hm
    refine x_iload0 eX2_isDigit_6 ?_
    refine x_k eX2_isDigit_7 ?_
    refine x_icmp_gt eX2_isDigit_9 (fun c => ?_) (fun c => ?_)
    · rw [if_pos c] at hm
      refine x_k eX2_isDigit_16 ?_
      subst hm
      exact x_zret eX2_isDigit_17 (by decide) ⟨rfl, rfl⟩
    · rw [if_neg c] at hm
      refine x_k eX2_isDigit_12 ?_
      refine x_goto eX2_isDigit_13 ?_
      subst hm
      exact x_zret eX2_isDigit_17 (by decide) ⟨rfl, rfl⟩
set_option maxRecDepth 4000 in
theorem t_X2_sign {o : Int32} {p1 : Int32} (hm : sp_X2_sign p1 = o) : xt_M yX2_sign cX2_sign 1 (some .int) (d + 0) [.int p1] (WX o_size o_year o_gone o_minds o_lasts r_size r_token r_place r_at r_open r_made t_size t_rule i_there i_rule i_size i_year i_gone i_minds i_lasts o_parent o_kind o_number o_odds o_above o_kidCount o_lead r_tape r_steps r_ends t_steps t_ends t_stack s_sort s_size s_items i_number i_odds x_prices x_facts x_laws x_clues) (xt_Ki o (WX o_size o_year o_gone o_minds o_lasts r_size r_token r_place r_at r_open r_made t_size t_rule i_there i_rule i_size i_year i_gone i_minds i_lasts o_parent o_kind o_number o_odds o_above o_kidCount o_lead r_tape r_steps r_ends t_steps t_ends t_stack s_sort s_size s_items i_number i_odds x_prices x_facts x_laws x_clues)) := by
  unfold sp_X2_sign at hm
  refine xt_M.go (own := RX2) (lv := [some (.int p1)]) rfl rfl (Nat.le_of_ble_eq_true rfl) rfl ?_
  refine x_iload0 eX2_sign_0 ?_
  refine x_sw eX2_sign_1 (xt_sw_cons (fun c => ?_) (fun d0 => (xt_sw_cons (fun c => ?_) (fun d1 => (xt_sw_cons (fun c => ?_) (fun d2 => (xt_sw_cons (fun c => ?_) (fun d3 => (xt_sw_cons (fun c => ?_) (fun d4 => (xt_sw_cons (fun c => ?_) (fun d5 => (xt_sw_cons (fun c => ?_) (fun d6 => (xt_sw_cons (fun c => ?_) (fun d7 => (xt_sw_cons (fun c => ?_) (fun d8 => (xt_sw_cons (fun c => ?_) (fun d9 => (xt_sw_cons (fun c => ?_) (fun d10 => (xt_sw_cons (fun c => ?_) (fun d11 => (xt_sw_cons (fun c => ?_) (fun d12 => (xt_sw_cons (fun c => ?_) (fun d13 => (xt_sw_cons (fun c => ?_) (fun d14 => (xt_sw_cons (fun c => ?_) (fun d15 => (xt_sw_cons (fun c => ?_) (fun d16 => (xt_sw_cons (fun c => ?_) (fun d17 => (xt_sw_cons (fun c => ?_) (fun d18 => (xt_sw_cons (fun c => ?_) (fun d19 => (xt_sw_cons (fun c => ?_) (fun d20 => (xt_sw_cons (fun c => ?_) (fun d21 => (xt_sw_nil ?_)))))))))))))))))))))))))))))))))))))))))))))
  · rw [if_pos c] at hm
    refine x_k eX2_sign_104 ?_
    subst hm
    exact x_iret eX2_sign_107 ⟨rfl, rfl⟩
  · rw [if_neg d0, if_pos c] at hm
    refine x_k eX2_sign_108 ?_
    subst hm
    exact x_iret eX2_sign_111 ⟨rfl, rfl⟩
  · rw [if_neg d0, if_neg d1, if_pos c] at hm
    refine x_k eX2_sign_124 ?_
    subst hm
    exact x_iret eX2_sign_127 ⟨rfl, rfl⟩
  · rw [if_neg d0, if_neg d1, if_neg d2, if_pos c] at hm
    refine x_k eX2_sign_116 ?_
    subst hm
    exact x_iret eX2_sign_119 ⟨rfl, rfl⟩
  · rw [if_neg d0, if_neg d1, if_neg d2, if_neg d3, if_pos c] at hm
    refine x_k eX2_sign_136 ?_
    subst hm
    exact x_iret eX2_sign_139 ⟨rfl, rfl⟩
  · rw [if_neg d0, if_neg d1, if_neg d2, if_neg d3, if_neg d4, if_pos c] at hm
    refine x_k eX2_sign_120 ?_
    subst hm
    exact x_iret eX2_sign_123 ⟨rfl, rfl⟩
  · rw [if_neg d0, if_neg d1, if_neg d2, if_neg d3, if_neg d4, if_neg d5, if_pos c] at hm
    refine x_k eX2_sign_136 ?_
    subst hm
    exact x_iret eX2_sign_139 ⟨rfl, rfl⟩
  · rw [if_neg d0, if_neg d1, if_neg d2, if_neg d3, if_neg d4, if_neg d5, if_neg d6, if_pos c] at hm
    refine x_k eX2_sign_136 ?_
    subst hm
    exact x_iret eX2_sign_139 ⟨rfl, rfl⟩
  · rw [if_neg d0, if_neg d1, if_neg d2, if_neg d3, if_neg d4, if_neg d5, if_neg d6, if_neg d7, if_pos c] at hm
    refine x_k eX2_sign_136 ?_
    subst hm
    exact x_iret eX2_sign_139 ⟨rfl, rfl⟩
  · rw [if_neg d0, if_neg d1, if_neg d2, if_neg d3, if_neg d4, if_neg d5, if_neg d6, if_neg d7, if_neg d8, if_pos c] at hm
    refine x_k eX2_sign_136 ?_
    subst hm
    exact x_iret eX2_sign_139 ⟨rfl, rfl⟩
  · rw [if_neg d0, if_neg d1, if_neg d2, if_neg d3, if_neg d4, if_neg d5, if_neg d6, if_neg d7, if_neg d8, if_neg d9, if_pos c] at hm
    refine x_k eX2_sign_136 ?_
    subst hm
    exact x_iret eX2_sign_139 ⟨rfl, rfl⟩
  · rw [if_neg d0, if_neg d1, if_neg d2, if_neg d3, if_neg d4, if_neg d5, if_neg d6, if_neg d7, if_neg d8, if_neg d9, if_neg d10, if_pos c] at hm
    refine x_k eX2_sign_136 ?_
    subst hm
    exact x_iret eX2_sign_139 ⟨rfl, rfl⟩
  · rw [if_neg d0, if_neg d1, if_neg d2, if_neg d3, if_neg d4, if_neg d5, if_neg d6, if_neg d7, if_neg d8, if_neg d9, if_neg d10, if_neg d11, if_pos c] at hm
    refine x_k eX2_sign_136 ?_
    subst hm
    exact x_iret eX2_sign_139 ⟨rfl, rfl⟩
  · rw [if_neg d0, if_neg d1, if_neg d2, if_neg d3, if_neg d4, if_neg d5, if_neg d6, if_neg d7, if_neg d8, if_neg d9, if_neg d10, if_neg d11, if_neg d12, if_pos c] at hm
    refine x_k eX2_sign_136 ?_
    subst hm
    exact x_iret eX2_sign_139 ⟨rfl, rfl⟩
  · rw [if_neg d0, if_neg d1, if_neg d2, if_neg d3, if_neg d4, if_neg d5, if_neg d6, if_neg d7, if_neg d8, if_neg d9, if_neg d10, if_neg d11, if_neg d12, if_neg d13, if_pos c] at hm
    refine x_k eX2_sign_136 ?_
    subst hm
    exact x_iret eX2_sign_139 ⟨rfl, rfl⟩
  · rw [if_neg d0, if_neg d1, if_neg d2, if_neg d3, if_neg d4, if_neg d5, if_neg d6, if_neg d7, if_neg d8, if_neg d9, if_neg d10, if_neg d11, if_neg d12, if_neg d13, if_neg d14, if_pos c] at hm
    refine x_k eX2_sign_136 ?_
    subst hm
    exact x_iret eX2_sign_139 ⟨rfl, rfl⟩
  · rw [if_neg d0, if_neg d1, if_neg d2, if_neg d3, if_neg d4, if_neg d5, if_neg d6, if_neg d7, if_neg d8, if_neg d9, if_neg d10, if_neg d11, if_neg d12, if_neg d13, if_neg d14, if_neg d15, if_pos c] at hm
    refine x_k eX2_sign_136 ?_
    subst hm
    exact x_iret eX2_sign_139 ⟨rfl, rfl⟩
  · rw [if_neg d0, if_neg d1, if_neg d2, if_neg d3, if_neg d4, if_neg d5, if_neg d6, if_neg d7, if_neg d8, if_neg d9, if_neg d10, if_neg d11, if_neg d12, if_neg d13, if_neg d14, if_neg d15, if_neg d16, if_pos c] at hm
    refine x_k eX2_sign_136 ?_
    subst hm
    exact x_iret eX2_sign_139 ⟨rfl, rfl⟩
  · rw [if_neg d0, if_neg d1, if_neg d2, if_neg d3, if_neg d4, if_neg d5, if_neg d6, if_neg d7, if_neg d8, if_neg d9, if_neg d10, if_neg d11, if_neg d12, if_neg d13, if_neg d14, if_neg d15, if_neg d16, if_neg d17, if_pos c] at hm
    refine x_k eX2_sign_136 ?_
    subst hm
    exact x_iret eX2_sign_139 ⟨rfl, rfl⟩
  · rw [if_neg d0, if_neg d1, if_neg d2, if_neg d3, if_neg d4, if_neg d5, if_neg d6, if_neg d7, if_neg d8, if_neg d9, if_neg d10, if_neg d11, if_neg d12, if_neg d13, if_neg d14, if_neg d15, if_neg d16, if_neg d17, if_neg d18, if_pos c] at hm
    refine x_k eX2_sign_112 ?_
    subst hm
    exact x_iret eX2_sign_115 ⟨rfl, rfl⟩
  · rw [if_neg d0, if_neg d1, if_neg d2, if_neg d3, if_neg d4, if_neg d5, if_neg d6, if_neg d7, if_neg d8, if_neg d9, if_neg d10, if_neg d11, if_neg d12, if_neg d13, if_neg d14, if_neg d15, if_neg d16, if_neg d17, if_neg d18, if_neg d19, if_pos c] at hm
    refine x_k eX2_sign_128 ?_
    subst hm
    exact x_iret eX2_sign_131 ⟨rfl, rfl⟩
  · rw [if_neg d0, if_neg d1, if_neg d2, if_neg d3, if_neg d4, if_neg d5, if_neg d6, if_neg d7, if_neg d8, if_neg d9, if_neg d10, if_neg d11, if_neg d12, if_neg d13, if_neg d14, if_neg d15, if_neg d16, if_neg d17, if_neg d18, if_neg d19, if_neg d20, if_pos c] at hm
    refine x_k eX2_sign_132 ?_
    subst hm
    exact x_iret eX2_sign_135 ⟨rfl, rfl⟩
  · rw [if_neg d0, if_neg d1, if_neg d2, if_neg d3, if_neg d4, if_neg d5, if_neg d6, if_neg d7, if_neg d8, if_neg d9, if_neg d10, if_neg d11, if_neg d12, if_neg d13, if_neg d14, if_neg d15, if_neg d16, if_neg d17, if_neg d18, if_neg d19, if_neg d20, if_neg d21] at hm
    refine x_k eX2_sign_136 ?_
    subst hm
    exact x_iret eX2_sign_139 ⟨rfl, rfl⟩
set_option maxRecDepth 4000 in
theorem l_X2_figure_2 {o : Int32 × Int32} {r_size : Int32} {r_place : Int32} {r_tape : Nat → Int32} : ∀ (n : Nat) {u1 : Int32} {r_at : Int32}, sp_X2_figure_2 r_size r_place r_tape n u1 r_at = some o → xt_T RX2 cX2_figure 2 (some .int) (d + 1) (xt_Ki o.1 (WX o_size o_year o_gone o_minds o_lasts r_size r_token r_place o.2 r_open r_made t_size t_rule i_there i_rule i_size i_year i_gone i_minds i_lasts o_parent o_kind o_number o_odds o_above o_kidCount o_lead r_tape r_steps r_ends t_steps t_ends t_stack s_sort s_size s_items i_number i_odds x_prices x_facts x_laws x_clues)) 2 [some (.ref 9), some (.int u1)] [] (WX o_size o_year o_gone o_minds o_lasts r_size r_token r_place r_at r_open r_made t_size t_rule i_there i_rule i_size i_year i_gone i_minds i_lasts o_parent o_kind o_number o_odds o_above o_kidCount o_lead r_tape r_steps r_ends t_steps t_ends t_stack s_sort s_size s_items i_number i_odds x_prices x_facts x_laws x_clues) := by
  intro n
  induction n with
  | zero => intro u1 r_at hm; rw [sp_X2_figure_2] at hm; cases hm
  | succ n ih =>
    intro u1 r_at hm
    rw [sp_X2_figure_2] at hm
    refine x_aload0 eX2_figure_2 ?_
    refine x_get eX2_figure_3 fX2_25 rfl rfl ?_
    refine x_aload0 eX2_figure_6 ?_
    refine x_get eX2_figure_7 fX2_9 rfl rfl ?_
    refine x_icmp_ge eX2_figure_10 (fun c => ?_) (fun c => ?_)
    · rw [if_pos c] at hm
      refine x_aload0 eX2_figure_59 ?_
      refine x_get eX2_figure_60 fX2_25 rfl rfl ?_
      refine x_aload0 eX2_figure_63 ?_
      refine x_get eX2_figure_64 fX2_22 rfl rfl ?_
      refine x_isub eX2_figure_67 ?_
      refine x_k eX2_figure_68 ?_
      refine x_icmp_le eX2_figure_69 (fun c => ?_) (fun c => ?_)
      · rw [if_pos c] at hm
        refine x_iload1 eX2_figure_78 ?_
        obtain rfl := Option.some.inj hm
        exact x_iret eX2_figure_79 ⟨rfl, rfl⟩
      · rw [if_neg c] at hm
        refine x_k eX2_figure_72 ?_
        refine x_goto eX2_figure_75 ?_
        obtain rfl := Option.some.inj hm
        exact x_iret eX2_figure_79 ⟨rfl, rfl⟩
    · rw [if_neg c] at hm
      refine x_aload0 eX2_figure_13 ?_
      refine x_get eX2_figure_14 fX2_15 rfl rfl ?_
      refine x_aload0 eX2_figure_17 ?_
      refine x_get eX2_figure_18 fX2_25 rfl rfl ?_
      obtain ⟨v1, hv, hm⟩ := xo_bind hm
      obtain ⟨hi, rfl⟩ := xo_at_some hv
      refine x_iaload eX2_figure_21 rfl hi ?_
      refine x_Si1 eX2_figure_22 kX2_isDigit mX2_91 (t_X2_isDigit rfl) (Nat.le_of_ble_eq_true rfl) ?_
      refine x_if_eq eX2_figure_25 (fun c => ?_) (fun c => ?_)
      · rw [if_pos c] at hm
        refine x_aload0 eX2_figure_59 ?_
        refine x_get eX2_figure_60 fX2_25 rfl rfl ?_
        refine x_aload0 eX2_figure_63 ?_
        refine x_get eX2_figure_64 fX2_22 rfl rfl ?_
        refine x_isub eX2_figure_67 ?_
        refine x_k eX2_figure_68 ?_
        refine x_icmp_le eX2_figure_69 (fun c => ?_) (fun c => ?_)
        · rw [if_pos c] at hm
          refine x_iload1 eX2_figure_78 ?_
          obtain rfl := Option.some.inj hm
          exact x_iret eX2_figure_79 ⟨rfl, rfl⟩
        · rw [if_neg c] at hm
          refine x_k eX2_figure_72 ?_
          refine x_goto eX2_figure_75 ?_
          obtain rfl := Option.some.inj hm
          exact x_iret eX2_figure_79 ⟨rfl, rfl⟩
      · rw [if_neg c] at hm
        refine x_iload1 eX2_figure_28 ?_
        refine x_k eX2_figure_29 ?_
        refine x_imul eX2_figure_31 ?_
        refine x_aload0 eX2_figure_32 ?_
        refine x_get eX2_figure_33 fX2_15 rfl rfl ?_
        refine x_aload0 eX2_figure_36 ?_
        refine x_get eX2_figure_37 fX2_25 rfl rfl ?_
        obtain ⟨v2, hv, hm⟩ := xo_bind hm
        obtain ⟨hi, rfl⟩ := xo_at_some hv
        refine x_iaload eX2_figure_40 rfl hi ?_
        refine x_iadd eX2_figure_41 ?_
        refine x_k eX2_figure_42 ?_
        refine x_isub eX2_figure_44 ?_
        refine x_istore1 eX2_figure_45 rfl ?_
        refine x_aload0 eX2_figure_46 ?_
        refine x_dup eX2_figure_47 rfl ?_
        refine x_get eX2_figure_48 fX2_25 rfl rfl ?_
        refine x_k eX2_figure_51 ?_
        refine x_iadd eX2_figure_52 ?_
        refine x_puti (w' := WX _ _ _ _ _ _ _ _ _ _ _ _ _ _ _ _ _ _ _ _ _ _ _ _ _ _ _ _ _ _ _ _ _ _ _ _ _ _ _ _ _ _) eX2_figure_53 pX2_25 rfl (Nat.le_of_ble_eq_true rfl) rfl ?_
        refine x_goto eX2_figure_56 ?_
        exact ih hm
set_option maxRecDepth 4000 in
theorem t_X2_figure {o : Int32 × Int32}  (hm : sp_X2_figure r_size r_place r_at r_tape = some o) : xt_M yX2_figure cX2_figure 2 (some .int) (d + 1) [.ref 9] (WX o_size o_year o_gone o_minds o_lasts r_size r_token r_place r_at r_open r_made t_size t_rule i_there i_rule i_size i_year i_gone i_minds i_lasts o_parent o_kind o_number o_odds o_above o_kidCount o_lead r_tape r_steps r_ends t_steps t_ends t_stack s_sort s_size s_items i_number i_odds x_prices x_facts x_laws x_clues) (xt_Ki o.1 (WX o_size o_year o_gone o_minds o_lasts r_size r_token r_place o.2 r_open r_made t_size t_rule i_there i_rule i_size i_year i_gone i_minds i_lasts o_parent o_kind o_number o_odds o_above o_kidCount o_lead r_tape r_steps r_ends t_steps t_ends t_stack s_sort s_size s_items i_number i_odds x_prices x_facts x_laws x_clues)) := by
  unfold sp_X2_figure at hm
  refine xt_M.go (own := RX2) (lv := [some (.ref 9), none]) rfl rfl (Nat.le_of_ble_eq_true rfl) rfl ?_
  refine x_k eX2_figure_0 ?_
  refine x_istore1 eX2_figure_1 rfl ?_
  exact l_X2_figure_2 _ hm
set_option maxRecDepth 4000 in
theorem t_J0_coder_7d493_p1000 {o : Int32}  (hm : sp_J0_coder_7d493_p1000 = o) : xt_M yJ0_coder_7d493 cJ0_coder_7d493 1 (some .byte) (d + 0) [.ref 1000] (WX o_size o_year o_gone o_minds o_lasts r_size r_token r_place r_at r_open r_made t_size t_rule i_there i_rule i_size i_year i_gone i_minds i_lasts o_parent o_kind o_number o_odds o_above o_kidCount o_lead r_tape r_steps r_ends t_steps t_ends t_stack s_sort s_size s_items i_number i_odds x_prices x_facts x_laws x_clues) (xt_Ki o (WX o_size o_year o_gone o_minds o_lasts r_size r_token r_place r_at r_open r_made t_size t_rule i_there i_rule i_size i_year i_gone i_minds i_lasts o_parent o_kind o_number o_odds o_above o_kidCount o_lead r_tape r_steps r_ends t_steps t_ends t_stack s_sort s_size s_items i_number i_odds x_prices x_facts x_laws x_clues)) := by
  unfold sp_J0_coder_7d493_p1000 at hm
  refine xt_M.go (own := RJ0) (lv := [some (.ref 1000)]) rfl rfl (Nat.le_of_ble_eq_true rfl) rfl ?_
  refine x_stZ eJ0_coder_7d493_0 xs_J0_38 ?_
  refine x_if_eq eJ0_coder_7d493_3 (fun c => ?_) (fun c => ?_)
  · rw [if_pos c] at hm
    refine x_k eJ0_coder_7d493_13 ?_
    subst hm
    exact x_nret eJ0_coder_7d493_14 rfl ⟨rfl, rfl⟩
  · rw [if_neg c] at hm
    refine x_aload0 eJ0_coder_7d493_6 ?_
    refine x_strC (i := 0) eJ0_coder_7d493_7 xs_J0_15 (Nat.le_of_ble_eq_true rfl) rfl ?_
    refine x_goto eJ0_coder_7d493_10 ?_
    subst hm
    exact x_nret eJ0_coder_7d493_14 rfl ⟨rfl, rfl⟩
set_option maxRecDepth 4000 in
theorem t_J0_length_8abf5_p1000 {o : Int32}  (hm : sp_J0_length_8abf5_p1000 = o) : xt_M yJ0_length_8abf5 cJ0_length_8abf5 1 (some .int) (d + 1) [.ref 1000] (WX o_size o_year o_gone o_minds o_lasts r_size r_token r_place r_at r_open r_made t_size t_rule i_there i_rule i_size i_year i_gone i_minds i_lasts o_parent o_kind o_number o_odds o_above o_kidCount o_lead r_tape r_steps r_ends t_steps t_ends t_stack s_sort s_size s_items i_number i_odds x_prices x_facts x_laws x_clues) (xt_Ki o (WX o_size o_year o_gone o_minds o_lasts r_size r_token r_place r_at r_open r_made t_size t_rule i_there i_rule i_size i_year i_gone i_minds i_lasts o_parent o_kind o_number o_odds o_above o_kidCount o_lead r_tape r_steps r_ends t_steps t_ends t_stack s_sort s_size s_items i_number i_odds x_prices x_facts x_laws x_clues)) := by
  unfold sp_J0_length_8abf5_p1000 at hm
  refine xt_M.go (own := RJ0) (lv := [some (.ref 1000)]) rfl rfl (Nat.le_of_ble_eq_true rfl) rfl ?_
  refine x_aload0 eJ0_length_8abf5_0 ?_
  refine x_strV (i := 0) (q := 2000) eJ0_length_8abf5_1 xs_J0_9 (Nat.le_of_ble_eq_true rfl) rfl rfl ?_
  refine x_strL (i := 0) (v := 4) eJ0_length_8abf5_4 (Nat.le_of_ble_eq_true rfl) rfl (by decide) ?_
  refine x_aload0 eJ0_length_8abf5_5 ?_
  refine x_Wi0 (i := 0) eJ0_length_8abf5_6 kJ0_coder_7d493 mJ0_335 (Nat.le_of_ble_eq_true rfl) rfl (t_J0_coder_7d493_p1000 rfl) (Nat.le_of_ble_eq_true rfl) ?_
  refine x_ishr eJ0_length_8abf5_9 ?_
  subst hm
  exact x_iret eJ0_length_8abf5_10 ⟨rfl, rfl⟩
set_option maxRecDepth 4000 in
theorem t_J0_isLatin1_aae02_p1000 {o : Int32}  (hm : sp_J0_isLatin1_aae02_p1000 = o) : xt_M yJ0_isLatin1_aae02 cJ0_isLatin1_aae02 1 (some .boolean) (d + 0) [.ref 1000] (WX o_size o_year o_gone o_minds o_lasts r_size r_token r_place r_at r_open r_made t_size t_rule i_there i_rule i_size i_year i_gone i_minds i_lasts o_parent o_kind o_number o_odds o_above o_kidCount o_lead r_tape r_steps r_ends t_steps t_ends t_stack s_sort s_size s_items i_number i_odds x_prices x_facts x_laws x_clues) (xt_Ki o (WX o_size o_year o_gone o_minds o_lasts r_size r_token r_place r_at r_open r_made t_size t_rule i_there i_rule i_size i_year i_gone i_minds i_lasts o_parent o_kind o_number o_odds o_above o_kidCount o_lead r_tape r_steps r_ends t_steps t_ends t_stack s_sort s_size s_items i_number i_odds x_prices x_facts x_laws x_clues)) := by
  unfold sp_J0_isLatin1_aae02_p1000 at hm
  refine xt_M.go (own := RJ0) (lv := [some (.ref 1000)]) rfl rfl (Nat.le_of_ble_eq_true rfl) rfl ?_
  refine x_stZ eJ0_isLatin1_aae02_0 xs_J0_38 ?_
  refine x_if_eq eJ0_isLatin1_aae02_3 (fun c => ?_) (fun c => ?_)
  · rw [if_pos c] at hm
    refine x_k eJ0_isLatin1_aae02_17 ?_
    subst hm
    exact x_zret eJ0_isLatin1_aae02_18 (by decide) ⟨rfl, rfl⟩
  · rw [if_neg c] at hm
    refine x_aload0 eJ0_isLatin1_aae02_6 ?_
    refine x_strC (i := 0) eJ0_isLatin1_aae02_7 xs_J0_15 (Nat.le_of_ble_eq_true rfl) rfl ?_
    refine x_if_ne eJ0_isLatin1_aae02_10 (fun c => ?_) (fun c => ?_)
    · rw [if_neg c] at hm
      refine x_k eJ0_isLatin1_aae02_17 ?_
      subst hm
      exact x_zret eJ0_isLatin1_aae02_18 (by decide) ⟨rfl, rfl⟩
    · rw [if_pos c] at hm
      refine x_k eJ0_isLatin1_aae02_13 ?_
      refine x_goto eJ0_isLatin1_aae02_14 ?_
      subst hm
      exact x_zret eJ0_isLatin1_aae02_18 (by decide) ⟨rfl, rfl⟩
set_option maxRecDepth 4000 in
theorem t_J3_checkIndex_8e157_p9999 {o : Int32} {p1 : Int32} {p2 : Int32} (hm : sp_J3_checkIndex_8e157_p9999 p1 p2 = some o) : xt_M yJ3_checkIndex_8e157 cJ3_checkIndex_8e157 3 (some .int) (d + 0) [.int p1, .int p2, .retAddr 0] (WX o_size o_year o_gone o_minds o_lasts r_size r_token r_place r_at r_open r_made t_size t_rule i_there i_rule i_size i_year i_gone i_minds i_lasts o_parent o_kind o_number o_odds o_above o_kidCount o_lead r_tape r_steps r_ends t_steps t_ends t_stack s_sort s_size s_items i_number i_odds x_prices x_facts x_laws x_clues) (xt_Ki o (WX o_size o_year o_gone o_minds o_lasts r_size r_token r_place r_at r_open r_made t_size t_rule i_there i_rule i_size i_year i_gone i_minds i_lasts o_parent o_kind o_number o_odds o_above o_kidCount o_lead r_tape r_steps r_ends t_steps t_ends t_stack s_sort s_size s_items i_number i_odds x_prices x_facts x_laws x_clues)) := by
  unfold sp_J3_checkIndex_8e157_p9999 at hm
  refine xt_M.go (own := RJ3) (lv := [some (.int p1), some (.int p2), some (.retAddr 0)]) rfl rfl (Nat.le_of_ble_eq_true rfl) rfl ?_
  refine x_iload0 eJ3_checkIndex_8e157_0 ?_
  refine x_if_lt eJ3_checkIndex_8e157_1 (fun c => ?_) (fun c => ?_)
  · rw [if_pos c] at hm
    cases hm
  · rw [if_neg c] at hm
    refine x_iload0 eJ3_checkIndex_8e157_4 ?_
    refine x_iload1 eJ3_checkIndex_8e157_5 ?_
    refine x_icmp_lt eJ3_checkIndex_8e157_6 (fun c => ?_) (fun c => ?_)
    · rw [if_pos c] at hm
      refine x_iload0 eJ3_checkIndex_8e157_16 ?_
      obtain rfl := Option.some.inj hm
      exact x_iret eJ3_checkIndex_8e157_17 ⟨rfl, rfl⟩
    · rw [if_neg c] at hm
      cases hm
set_option maxRecDepth 4000 in
theorem t_J0_checkIndex_df160 {o : Unit} {p1 : Int32} {p2 : Int32} (hm : sp_J0_checkIndex_df160 p1 p2 = some o) : xt_M yJ0_checkIndex_df160 cJ0_checkIndex_df160 2 none (d + 1) [.int p1, .int p2] (WX o_size o_year o_gone o_minds o_lasts r_size r_token r_place r_at r_open r_made t_size t_rule i_there i_rule i_size i_year i_gone i_minds i_lasts o_parent o_kind o_number o_odds o_above o_kidCount o_lead r_tape r_steps r_ends t_steps t_ends t_stack s_sort s_size s_items i_number i_odds x_prices x_facts x_laws x_clues) (xt_Kv (WX o_size o_year o_gone o_minds o_lasts r_size r_token r_place r_at r_open r_made t_size t_rule i_there i_rule i_size i_year i_gone i_minds i_lasts o_parent o_kind o_number o_odds o_above o_kidCount o_lead r_tape r_steps r_ends t_steps t_ends t_stack s_sort s_size s_items i_number i_odds x_prices x_facts x_laws x_clues)) := by
  unfold sp_J0_checkIndex_df160 at hm
  refine xt_M.go (own := RJ0) (lv := [some (.int p1), some (.int p2)]) rfl rfl (Nat.le_of_ble_eq_true rfl) rfl ?_
  refine x_iload0 eJ0_checkIndex_df160_0 ?_
  refine x_iload1 eJ0_checkIndex_df160_1 ?_
  refine x_stF eJ0_checkIndex_df160_2 xs_J0_1053 ?_
  obtain ⟨r1, hr, hm⟩ := xo_bind hm
  refine x_Si3 eJ0_checkIndex_df160_5 kJ3_checkIndex_8e157 mJ0_1059 (t_J3_checkIndex_8e157_p9999 hr) (Nat.le_of_ble_eq_true rfl) ?_
  refine x_pop eJ0_checkIndex_df160_8 rfl ?_
  obtain rfl := Option.some.inj hm
  exact x_vret eJ0_checkIndex_df160_9 ⟨rfl, rfl⟩
set_option maxRecDepth 4000 in
theorem t_J1_charAt_3b067_p2000 {o : Int32} {p2 : Int32} (hm : sp_J1_charAt_3b067_p2000 p2 = some o) : xt_M yJ1_charAt_3b067 cJ1_charAt_3b067 2 (some .char) (d + 2) [.ref 2000, .int p2] (WX o_size o_year o_gone o_minds o_lasts r_size r_token r_place r_at r_open r_made t_size t_rule i_there i_rule i_size i_year i_gone i_minds i_lasts o_parent o_kind o_number o_odds o_above o_kidCount o_lead r_tape r_steps r_ends t_steps t_ends t_stack s_sort s_size s_items i_number i_odds x_prices x_facts x_laws x_clues) (xt_Ki o (WX o_size o_year o_gone o_minds o_lasts r_size r_token r_place r_at r_open r_made t_size t_rule i_there i_rule i_size i_year i_gone i_minds i_lasts o_parent o_kind o_number o_odds o_above o_kidCount o_lead r_tape r_steps r_ends t_steps t_ends t_stack s_sort s_size s_items i_number i_odds x_prices x_facts x_laws x_clues)) := by
  unfold sp_J1_charAt_3b067_p2000 at hm
  refine xt_M.go (own := RJ1) (lv := [some (.ref 2000), some (.int p2)]) rfl rfl (Nat.le_of_ble_eq_true rfl) rfl ?_
  refine x_iload1 eJ1_charAt_3b067_0 ?_
  refine x_aload0 eJ1_charAt_3b067_1 ?_
  refine x_strL (i := 0) (v := 4) eJ1_charAt_3b067_2 (Nat.le_of_ble_eq_true rfl) rfl (by decide) ?_
  obtain ⟨r1, hr, hm⟩ := xo_bind hm
  refine x_Sv2 eJ1_charAt_3b067_3 kJ0_checkIndex_df160 mJ1_9 (t_J0_checkIndex_df160 hr) (Nat.le_of_ble_eq_true rfl) ?_
  refine x_aload0 eJ1_charAt_3b067_6 ?_
  refine x_iload1 eJ1_charAt_3b067_7 ?_
  obtain ⟨v2, hv, hm⟩ := xo_bind hm
  obtain ⟨hi, rfl⟩ := xo_str_some hv
  refine x_strB (i := 0) eJ1_charAt_3b067_8 (Nat.le_of_ble_eq_true rfl) rfl hi ?_
  refine x_k eJ1_charAt_3b067_9 ?_
  refine x_iand eJ1_charAt_3b067_12 ?_
  refine x_i2c eJ1_charAt_3b067_13 ?_
  obtain rfl := Option.some.inj hm
  exact x_nret eJ1_charAt_3b067_14 (pk_nc _) ⟨rfl, rfl⟩
set_option maxRecDepth 4000 in
theorem t_J0_charAt_5068e_p1000 {o : Int32} {p1 : Int32} (hm : sp_J0_charAt_5068e_p1000 p1 = some o) : xt_M yJ0_charAt_5068e cJ0_charAt_5068e 2 (some .char) (d + 3) [.ref 1000, .int p1] (WX o_size o_year o_gone o_minds o_lasts r_size r_token r_place r_at r_open r_made t_size t_rule i_there i_rule i_size i_year i_gone i_minds i_lasts o_parent o_kind o_number o_odds o_above o_kidCount o_lead r_tape r_steps r_ends t_steps t_ends t_stack s_sort s_size s_items i_number i_odds x_prices x_facts x_laws x_clues) (xt_Ki o (WX o_size o_year o_gone o_minds o_lasts r_size r_token r_place r_at r_open r_made t_size t_rule i_there i_rule i_size i_year i_gone i_minds i_lasts o_parent o_kind o_number o_odds o_above o_kidCount o_lead r_tape r_steps r_ends t_steps t_ends t_stack s_sort s_size s_items i_number i_odds x_prices x_facts x_laws x_clues)) := by
  unfold sp_J0_charAt_5068e_p1000 at hm
  refine xt_M.go (own := RJ0) (lv := [some (.ref 1000), some (.int p1)]) rfl rfl (Nat.le_of_ble_eq_true rfl) rfl ?_
  refine x_aload0 eJ0_charAt_5068e_0 ?_
  refine x_Wi0 (i := 0) eJ0_charAt_5068e_1 kJ0_isLatin1_aae02 mJ0_492 (Nat.le_of_ble_eq_true rfl) rfl (t_J0_isLatin1_aae02_p1000 rfl) (Nat.le_of_ble_eq_true rfl) ?_
  refine x_if_eq eJ0_charAt_5068e_4 (fun c => ?_) (fun c => ?_)
  · rw [if_pos c] at hm
    refine x_aload0 eJ0_charAt_5068e_16 ?_
    refine x_strV (i := 0) (q := 2000) eJ0_charAt_5068e_17 xs_J0_9 (Nat.le_of_ble_eq_true rfl) rfl rfl ?_
    refine x_iload1 eJ0_charAt_5068e_20 ?_
    cases hm
  · rw [if_neg c] at hm
    refine x_aload0 eJ0_charAt_5068e_7 ?_
    refine x_strV (i := 0) (q := 2000) eJ0_charAt_5068e_8 xs_J0_9 (Nat.le_of_ble_eq_true rfl) rfl rfl ?_
    refine x_iload1 eJ0_charAt_5068e_11 ?_
    obtain ⟨r1, hr, hm⟩ := xo_bind hm
    refine x_Si2 eJ0_charAt_5068e_12 kJ1_charAt_3b067 mJ0_495 (t_J1_charAt_3b067_p2000 hr) (Nat.le_of_ble_eq_true rfl) ?_
    obtain ⟨hz, hm⟩ := xo_ifn hm
    obtain rfl := Option.some.inj hm
    exact x_nret eJ0_charAt_5068e_15 (xo_char (Decidable.not_not.mp hz)) ⟨rfl, rfl⟩
set_option maxRecDepth 4000 in
theorem l_X2_spells_p1000_20 {o : Int32} {r_place : Int32} {r_tape : Nat → Int32} : ∀ (n : Nat) {u2 : Int32}, sp_X2_spells_p1000_20 r_place r_tape n u2 = some o → xt_T RX2 cX2_spells 3 (some .boolean) (d + 4) (xt_Ki o (WX o_size o_year o_gone o_minds o_lasts r_size r_token r_place r_at r_open r_made t_size t_rule i_there i_rule i_size i_year i_gone i_minds i_lasts o_parent o_kind o_number o_odds o_above o_kidCount o_lead r_tape r_steps r_ends t_steps t_ends t_stack s_sort s_size s_items i_number i_odds x_prices x_facts x_laws x_clues)) 20 [some (.ref 9), some (.ref 1000), some (.int u2)] [] (WX o_size o_year o_gone o_minds o_lasts r_size r_token r_place r_at r_open r_made t_size t_rule i_there i_rule i_size i_year i_gone i_minds i_lasts o_parent o_kind o_number o_odds o_above o_kidCount o_lead r_tape r_steps r_ends t_steps t_ends t_stack s_sort s_size s_items i_number i_odds x_prices x_facts x_laws x_clues) := by
  intro n
  induction n with
  | zero => intro u2 hm; rw [sp_X2_spells_p1000_20] at hm; cases hm
  | succ n ih =>
    intro u2 hm
    rw [sp_X2_spells_p1000_20] at hm
    refine x_iload2 eX2_spells_20 ?_
    refine x_aload1 eX2_spells_21 ?_
    refine x_Wi0 (i := 0) eX2_spells_22 kJ0_length_8abf5 mX2_128 (Nat.le_of_ble_eq_true rfl) rfl (t_J0_length_8abf5_p1000 rfl) (Nat.le_of_ble_eq_true rfl) ?_
    refine x_icmp_ge eX2_spells_25 (fun c => ?_) (fun c => ?_)
    · rw [if_pos c] at hm
      refine x_k eX2_spells_55 ?_
      obtain rfl := Option.some.inj hm
      exact x_zret eX2_spells_56 (by decide) ⟨rfl, rfl⟩
    · rw [if_neg c] at hm
      refine x_aload0 eX2_spells_28 ?_
      refine x_get eX2_spells_29 fX2_15 rfl rfl ?_
      refine x_aload0 eX2_spells_32 ?_
      refine x_get eX2_spells_33 fX2_22 rfl rfl ?_
      refine x_iload2 eX2_spells_36 ?_
      refine x_iadd eX2_spells_37 ?_
      obtain ⟨v1, hv, hm⟩ := xo_bind hm
      obtain ⟨hi, rfl⟩ := xo_at_some hv
      refine x_iaload eX2_spells_38 rfl hi ?_
      refine x_aload1 eX2_spells_39 ?_
      refine x_iload2 eX2_spells_40 ?_
      obtain ⟨r2, hr, hm⟩ := xo_bind hm
      refine x_Wi1 (i := 0) eX2_spells_41 kJ0_charAt_5068e mX2_133 (Nat.le_of_ble_eq_true rfl) rfl (t_J0_charAt_5068e_p1000 hr) (Nat.le_of_ble_eq_true rfl) ?_
      refine x_icmp_eq eX2_spells_44 (fun c => ?_) (fun c => ?_)
      · rw [if_pos c] at hm
        refine x_iinc2 eX2_spells_49 rfl ?_
        refine x_goto eX2_spells_52 ?_
        exact ih hm
      · rw [if_neg c] at hm
        refine x_k eX2_spells_47 ?_
        obtain rfl := Option.some.inj hm
        exact x_zret eX2_spells_48 (by decide) ⟨rfl, rfl⟩
set_option maxRecDepth 4000 in
theorem t_X2_spells_p1000 {o : Int32}  (hm : sp_X2_spells_p1000 r_place r_at r_tape = some o) : xt_M yX2_spells cX2_spells 3 (some .boolean) (d + 4) [.ref 9, .ref 1000] (WX o_size o_year o_gone o_minds o_lasts r_size r_token r_place r_at r_open r_made t_size t_rule i_there i_rule i_size i_year i_gone i_minds i_lasts o_parent o_kind o_number o_odds o_above o_kidCount o_lead r_tape r_steps r_ends t_steps t_ends t_stack s_sort s_size s_items i_number i_odds x_prices x_facts x_laws x_clues) (xt_Ki o (WX o_size o_year o_gone o_minds o_lasts r_size r_token r_place r_at r_open r_made t_size t_rule i_there i_rule i_size i_year i_gone i_minds i_lasts o_parent o_kind o_number o_odds o_above o_kidCount o_lead r_tape r_steps r_ends t_steps t_ends t_stack s_sort s_size s_items i_number i_odds x_prices x_facts x_laws x_clues)) := by
  unfold sp_X2_spells_p1000 at hm
  refine xt_M.go (own := RX2) (lv := [some (.ref 9), some (.ref 1000), none]) rfl rfl (Nat.le_of_ble_eq_true rfl) rfl ?_
  refine x_aload0 eX2_spells_0 ?_
  refine x_get eX2_spells_1 fX2_25 rfl rfl ?_
  refine x_aload0 eX2_spells_4 ?_
  refine x_get eX2_spells_5 fX2_22 rfl rfl ?_
  refine x_isub eX2_spells_8 ?_
  refine x_aload1 eX2_spells_9 ?_
  refine x_Wi0 (i := 0) eX2_spells_10 kJ0_length_8abf5 mX2_128 (Nat.le_of_ble_eq_true rfl) rfl (t_J0_length_8abf5_p1000 rfl) (Nat.le_of_ble_eq_true rfl) ?_
  refine x_icmp_eq eX2_spells_13 (fun c => ?_) (fun c => ?_)
  · rw [if_pos c] at hm
    refine x_k eX2_spells_18 ?_
    refine x_istore2 eX2_spells_19 rfl ?_
    exact l_X2_spells_p1000_20 _ hm
  · rw [if_neg c] at hm
    refine x_k eX2_spells_16 ?_
    obtain rfl := Option.some.inj hm
    exact x_zret eX2_spells_17 (by decide) ⟨rfl, rfl⟩
set_option maxRecDepth 4000 in
theorem t_J0_coder_7d493_p1001 {o : Int32}  (hm : sp_J0_coder_7d493_p1001 = o) : xt_M yJ0_coder_7d493 cJ0_coder_7d493 1 (some .byte) (d + 0) [.ref 1001] (WX o_size o_year o_gone o_minds o_lasts r_size r_token r_place r_at r_open r_made t_size t_rule i_there i_rule i_size i_year i_gone i_minds i_lasts o_parent o_kind o_number o_odds o_above o_kidCount o_lead r_tape r_steps r_ends t_steps t_ends t_stack s_sort s_size s_items i_number i_odds x_prices x_facts x_laws x_clues) (xt_Ki o (WX o_size o_year o_gone o_minds o_lasts r_size r_token r_place r_at r_open r_made t_size t_rule i_there i_rule i_size i_year i_gone i_minds i_lasts o_parent o_kind o_number o_odds o_above o_kidCount o_lead r_tape r_steps r_ends t_steps t_ends t_stack s_sort s_size s_items i_number i_odds x_prices x_facts x_laws x_clues)) := by
  unfold sp_J0_coder_7d493_p1001 at hm
  refine xt_M.go (own := RJ0) (lv := [some (.ref 1001)]) rfl rfl (Nat.le_of_ble_eq_true rfl) rfl ?_
  refine x_stZ eJ0_coder_7d493_0 xs_J0_38 ?_
  refine x_if_eq eJ0_coder_7d493_3 (fun c => ?_) (fun c => ?_)
  · rw [if_pos c] at hm
    refine x_k eJ0_coder_7d493_13 ?_
    subst hm
    exact x_nret eJ0_coder_7d493_14 rfl ⟨rfl, rfl⟩
  · rw [if_neg c] at hm
    refine x_aload0 eJ0_coder_7d493_6 ?_
    refine x_strC (i := 1) eJ0_coder_7d493_7 xs_J0_15 (Nat.le_of_ble_eq_true rfl) rfl ?_
    refine x_goto eJ0_coder_7d493_10 ?_
    subst hm
    exact x_nret eJ0_coder_7d493_14 rfl ⟨rfl, rfl⟩
set_option maxRecDepth 4000 in
theorem t_J0_length_8abf5_p1001 {o : Int32}  (hm : sp_J0_length_8abf5_p1001 = o) : xt_M yJ0_length_8abf5 cJ0_length_8abf5 1 (some .int) (d + 1) [.ref 1001] (WX o_size o_year o_gone o_minds o_lasts r_size r_token r_place r_at r_open r_made t_size t_rule i_there i_rule i_size i_year i_gone i_minds i_lasts o_parent o_kind o_number o_odds o_above o_kidCount o_lead r_tape r_steps r_ends t_steps t_ends t_stack s_sort s_size s_items i_number i_odds x_prices x_facts x_laws x_clues) (xt_Ki o (WX o_size o_year o_gone o_minds o_lasts r_size r_token r_place r_at r_open r_made t_size t_rule i_there i_rule i_size i_year i_gone i_minds i_lasts o_parent o_kind o_number o_odds o_above o_kidCount o_lead r_tape r_steps r_ends t_steps t_ends t_stack s_sort s_size s_items i_number i_odds x_prices x_facts x_laws x_clues)) := by
  unfold sp_J0_length_8abf5_p1001 at hm
  refine xt_M.go (own := RJ0) (lv := [some (.ref 1001)]) rfl rfl (Nat.le_of_ble_eq_true rfl) rfl ?_
  refine x_aload0 eJ0_length_8abf5_0 ?_
  refine x_strV (i := 1) (q := 2001) eJ0_length_8abf5_1 xs_J0_9 (Nat.le_of_ble_eq_true rfl) rfl rfl ?_
  refine x_strL (i := 1) (v := 5) eJ0_length_8abf5_4 (Nat.le_of_ble_eq_true rfl) rfl (by decide) ?_
  refine x_aload0 eJ0_length_8abf5_5 ?_
  refine x_Wi0 (i := 1) eJ0_length_8abf5_6 kJ0_coder_7d493 mJ0_335 (Nat.le_of_ble_eq_true rfl) rfl (t_J0_coder_7d493_p1001 rfl) (Nat.le_of_ble_eq_true rfl) ?_
  refine x_ishr eJ0_length_8abf5_9 ?_
  subst hm
  exact x_iret eJ0_length_8abf5_10 ⟨rfl, rfl⟩
set_option maxRecDepth 4000 in
theorem t_J0_isLatin1_aae02_p1001 {o : Int32}  (hm : sp_J0_isLatin1_aae02_p1001 = o) : xt_M yJ0_isLatin1_aae02 cJ0_isLatin1_aae02 1 (some .boolean) (d + 0) [.ref 1001] (WX o_size o_year o_gone o_minds o_lasts r_size r_token r_place r_at r_open r_made t_size t_rule i_there i_rule i_size i_year i_gone i_minds i_lasts o_parent o_kind o_number o_odds o_above o_kidCount o_lead r_tape r_steps r_ends t_steps t_ends t_stack s_sort s_size s_items i_number i_odds x_prices x_facts x_laws x_clues) (xt_Ki o (WX o_size o_year o_gone o_minds o_lasts r_size r_token r_place r_at r_open r_made t_size t_rule i_there i_rule i_size i_year i_gone i_minds i_lasts o_parent o_kind o_number o_odds o_above o_kidCount o_lead r_tape r_steps r_ends t_steps t_ends t_stack s_sort s_size s_items i_number i_odds x_prices x_facts x_laws x_clues)) := by
  unfold sp_J0_isLatin1_aae02_p1001 at hm
  refine xt_M.go (own := RJ0) (lv := [some (.ref 1001)]) rfl rfl (Nat.le_of_ble_eq_true rfl) rfl ?_
  refine x_stZ eJ0_isLatin1_aae02_0 xs_J0_38 ?_
  refine x_if_eq eJ0_isLatin1_aae02_3 (fun c => ?_) (fun c => ?_)
  · rw [if_pos c] at hm
    refine x_k eJ0_isLatin1_aae02_17 ?_
    subst hm
    exact x_zret eJ0_isLatin1_aae02_18 (by decide) ⟨rfl, rfl⟩
  · rw [if_neg c] at hm
    refine x_aload0 eJ0_isLatin1_aae02_6 ?_
    refine x_strC (i := 1) eJ0_isLatin1_aae02_7 xs_J0_15 (Nat.le_of_ble_eq_true rfl) rfl ?_
    refine x_if_ne eJ0_isLatin1_aae02_10 (fun c => ?_) (fun c => ?_)
    · rw [if_neg c] at hm
      refine x_k eJ0_isLatin1_aae02_17 ?_
      subst hm
      exact x_zret eJ0_isLatin1_aae02_18 (by decide) ⟨rfl, rfl⟩
    · rw [if_pos c] at hm
      refine x_k eJ0_isLatin1_aae02_13 ?_
      refine x_goto eJ0_isLatin1_aae02_14 ?_
      subst hm
      exact x_zret eJ0_isLatin1_aae02_18 (by decide) ⟨rfl, rfl⟩
set_option maxRecDepth 4000 in
theorem t_J1_charAt_3b067_p2001 {o : Int32} {p2 : Int32} (hm : sp_J1_charAt_3b067_p2001 p2 = some o) : xt_M yJ1_charAt_3b067 cJ1_charAt_3b067 2 (some .char) (d + 2) [.ref 2001, .int p2] (WX o_size o_year o_gone o_minds o_lasts r_size r_token r_place r_at r_open r_made t_size t_rule i_there i_rule i_size i_year i_gone i_minds i_lasts o_parent o_kind o_number o_odds o_above o_kidCount o_lead r_tape r_steps r_ends t_steps t_ends t_stack s_sort s_size s_items i_number i_odds x_prices x_facts x_laws x_clues) (xt_Ki o (WX o_size o_year o_gone o_minds o_lasts r_size r_token r_place r_at r_open r_made t_size t_rule i_there i_rule i_size i_year i_gone i_minds i_lasts o_parent o_kind o_number o_odds o_above o_kidCount o_lead r_tape r_steps r_ends t_steps t_ends t_stack s_sort s_size s_items i_number i_odds x_prices x_facts x_laws x_clues)) := by
  unfold sp_J1_charAt_3b067_p2001 at hm
  refine xt_M.go (own := RJ1) (lv := [some (.ref 2001), some (.int p2)]) rfl rfl (Nat.le_of_ble_eq_true rfl) rfl ?_
  refine x_iload1 eJ1_charAt_3b067_0 ?_
  refine x_aload0 eJ1_charAt_3b067_1 ?_
  refine x_strL (i := 1) (v := 5) eJ1_charAt_3b067_2 (Nat.le_of_ble_eq_true rfl) rfl (by decide) ?_
  obtain ⟨r1, hr, hm⟩ := xo_bind hm
  refine x_Sv2 eJ1_charAt_3b067_3 kJ0_checkIndex_df160 mJ1_9 (t_J0_checkIndex_df160 hr) (Nat.le_of_ble_eq_true rfl) ?_
  refine x_aload0 eJ1_charAt_3b067_6 ?_
  refine x_iload1 eJ1_charAt_3b067_7 ?_
  obtain ⟨v2, hv, hm⟩ := xo_bind hm
  obtain ⟨hi, rfl⟩ := xo_str_some hv
  refine x_strB (i := 1) eJ1_charAt_3b067_8 (Nat.le_of_ble_eq_true rfl) rfl hi ?_
  refine x_k eJ1_charAt_3b067_9 ?_
  refine x_iand eJ1_charAt_3b067_12 ?_
  refine x_i2c eJ1_charAt_3b067_13 ?_
  obtain rfl := Option.some.inj hm
  exact x_nret eJ1_charAt_3b067_14 (pk_nc _) ⟨rfl, rfl⟩
set_option maxRecDepth 4000 in
theorem t_J0_charAt_5068e_p1001 {o : Int32} {p1 : Int32} (hm : sp_J0_charAt_5068e_p1001 p1 = some o) : xt_M yJ0_charAt_5068e cJ0_charAt_5068e 2 (some .char) (d + 3) [.ref 1001, .int p1] (WX o_size o_year o_gone o_minds o_lasts r_size r_token r_place r_at r_open r_made t_size t_rule i_there i_rule i_size i_year i_gone i_minds i_lasts o_parent o_kind o_number o_odds o_above o_kidCount o_lead r_tape r_steps r_ends t_steps t_ends t_stack s_sort s_size s_items i_number i_odds x_prices x_facts x_laws x_clues) (xt_Ki o (WX o_size o_year o_gone o_minds o_lasts r_size r_token r_place r_at r_open r_made t_size t_rule i_there i_rule i_size i_year i_gone i_minds i_lasts o_parent o_kind o_number o_odds o_above o_kidCount o_lead r_tape r_steps r_ends t_steps t_ends t_stack s_sort s_size s_items i_number i_odds x_prices x_facts x_laws x_clues)) := by
  unfold sp_J0_charAt_5068e_p1001 at hm
  refine xt_M.go (own := RJ0) (lv := [some (.ref 1001), some (.int p1)]) rfl rfl (Nat.le_of_ble_eq_true rfl) rfl ?_
  refine x_aload0 eJ0_charAt_5068e_0 ?_
  refine x_Wi0 (i := 1) eJ0_charAt_5068e_1 kJ0_isLatin1_aae02 mJ0_492 (Nat.le_of_ble_eq_true rfl) rfl (t_J0_isLatin1_aae02_p1001 rfl) (Nat.le_of_ble_eq_true rfl) ?_
  refine x_if_eq eJ0_charAt_5068e_4 (fun c => ?_) (fun c => ?_)
  · rw [if_pos c] at hm
    refine x_aload0 eJ0_charAt_5068e_16 ?_
    refine x_strV (i := 1) (q := 2001) eJ0_charAt_5068e_17 xs_J0_9 (Nat.le_of_ble_eq_true rfl) rfl rfl ?_
    refine x_iload1 eJ0_charAt_5068e_20 ?_
    cases hm
  · rw [if_neg c] at hm
    refine x_aload0 eJ0_charAt_5068e_7 ?_
    refine x_strV (i := 1) (q := 2001) eJ0_charAt_5068e_8 xs_J0_9 (Nat.le_of_ble_eq_true rfl) rfl rfl ?_
    refine x_iload1 eJ0_charAt_5068e_11 ?_
    obtain ⟨r1, hr, hm⟩ := xo_bind hm
    refine x_Si2 eJ0_charAt_5068e_12 kJ1_charAt_3b067 mJ0_495 (t_J1_charAt_3b067_p2001 hr) (Nat.le_of_ble_eq_true rfl) ?_
    obtain ⟨hz, hm⟩ := xo_ifn hm
    obtain rfl := Option.some.inj hm
    exact x_nret eJ0_charAt_5068e_15 (xo_char (Decidable.not_not.mp hz)) ⟨rfl, rfl⟩
set_option maxRecDepth 4000 in
theorem l_X2_spells_p1001_20 {o : Int32} {r_place : Int32} {r_tape : Nat → Int32} : ∀ (n : Nat) {u2 : Int32}, sp_X2_spells_p1001_20 r_place r_tape n u2 = some o → xt_T RX2 cX2_spells 3 (some .boolean) (d + 4) (xt_Ki o (WX o_size o_year o_gone o_minds o_lasts r_size r_token r_place r_at r_open r_made t_size t_rule i_there i_rule i_size i_year i_gone i_minds i_lasts o_parent o_kind o_number o_odds o_above o_kidCount o_lead r_tape r_steps r_ends t_steps t_ends t_stack s_sort s_size s_items i_number i_odds x_prices x_facts x_laws x_clues)) 20 [some (.ref 9), some (.ref 1001), some (.int u2)] [] (WX o_size o_year o_gone o_minds o_lasts r_size r_token r_place r_at r_open r_made t_size t_rule i_there i_rule i_size i_year i_gone i_minds i_lasts o_parent o_kind o_number o_odds o_above o_kidCount o_lead r_tape r_steps r_ends t_steps t_ends t_stack s_sort s_size s_items i_number i_odds x_prices x_facts x_laws x_clues) := by
  intro n
  induction n with
  | zero => intro u2 hm; rw [sp_X2_spells_p1001_20] at hm; cases hm
  | succ n ih =>
    intro u2 hm
    rw [sp_X2_spells_p1001_20] at hm
    refine x_iload2 eX2_spells_20 ?_
    refine x_aload1 eX2_spells_21 ?_
    refine x_Wi0 (i := 1) eX2_spells_22 kJ0_length_8abf5 mX2_128 (Nat.le_of_ble_eq_true rfl) rfl (t_J0_length_8abf5_p1001 rfl) (Nat.le_of_ble_eq_true rfl) ?_
    refine x_icmp_ge eX2_spells_25 (fun c => ?_) (fun c => ?_)
    · rw [if_pos c] at hm
      refine x_k eX2_spells_55 ?_
      obtain rfl := Option.some.inj hm
      exact x_zret eX2_spells_56 (by decide) ⟨rfl, rfl⟩
    · rw [if_neg c] at hm
      refine x_aload0 eX2_spells_28 ?_
      refine x_get eX2_spells_29 fX2_15 rfl rfl ?_
      refine x_aload0 eX2_spells_32 ?_
      refine x_get eX2_spells_33 fX2_22 rfl rfl ?_
      refine x_iload2 eX2_spells_36 ?_
      refine x_iadd eX2_spells_37 ?_
      obtain ⟨v1, hv, hm⟩ := xo_bind hm
      obtain ⟨hi, rfl⟩ := xo_at_some hv
      refine x_iaload eX2_spells_38 rfl hi ?_
      refine x_aload1 eX2_spells_39 ?_
      refine x_iload2 eX2_spells_40 ?_
      obtain ⟨r2, hr, hm⟩ := xo_bind hm
      refine x_Wi1 (i := 1) eX2_spells_41 kJ0_charAt_5068e mX2_133 (Nat.le_of_ble_eq_true rfl) rfl (t_J0_charAt_5068e_p1001 hr) (Nat.le_of_ble_eq_true rfl) ?_
      refine x_icmp_eq eX2_spells_44 (fun c => ?_) (fun c => ?_)
      · rw [if_pos c] at hm
        refine x_iinc2 eX2_spells_49 rfl ?_
        refine x_goto eX2_spells_52 ?_
        exact ih hm
      · rw [if_neg c] at hm
        refine x_k eX2_spells_47 ?_
        obtain rfl := Option.some.inj hm
        exact x_zret eX2_spells_48 (by decide) ⟨rfl, rfl⟩
set_option maxRecDepth 4000 in
theorem t_X2_spells_p1001 {o : Int32}  (hm : sp_X2_spells_p1001 r_place r_at r_tape = some o) : xt_M yX2_spells cX2_spells 3 (some .boolean) (d + 4) [.ref 9, .ref 1001] (WX o_size o_year o_gone o_minds o_lasts r_size r_token r_place r_at r_open r_made t_size t_rule i_there i_rule i_size i_year i_gone i_minds i_lasts o_parent o_kind o_number o_odds o_above o_kidCount o_lead r_tape r_steps r_ends t_steps t_ends t_stack s_sort s_size s_items i_number i_odds x_prices x_facts x_laws x_clues) (xt_Ki o (WX o_size o_year o_gone o_minds o_lasts r_size r_token r_place r_at r_open r_made t_size t_rule i_there i_rule i_size i_year i_gone i_minds i_lasts o_parent o_kind o_number o_odds o_above o_kidCount o_lead r_tape r_steps r_ends t_steps t_ends t_stack s_sort s_size s_items i_number i_odds x_prices x_facts x_laws x_clues)) := by
  unfold sp_X2_spells_p1001 at hm
  refine xt_M.go (own := RX2) (lv := [some (.ref 9), some (.ref 1001), none]) rfl rfl (Nat.le_of_ble_eq_true rfl) rfl ?_
  refine x_aload0 eX2_spells_0 ?_
  refine x_get eX2_spells_1 fX2_25 rfl rfl ?_
  refine x_aload0 eX2_spells_4 ?_
  refine x_get eX2_spells_5 fX2_22 rfl rfl ?_
  refine x_isub eX2_spells_8 ?_
  refine x_aload1 eX2_spells_9 ?_
  refine x_Wi0 (i := 1) eX2_spells_10 kJ0_length_8abf5 mX2_128 (Nat.le_of_ble_eq_true rfl) rfl (t_J0_length_8abf5_p1001 rfl) (Nat.le_of_ble_eq_true rfl) ?_
  refine x_icmp_eq eX2_spells_13 (fun c => ?_) (fun c => ?_)
  · rw [if_pos c] at hm
    refine x_k eX2_spells_18 ?_
    refine x_istore2 eX2_spells_19 rfl ?_
    exact l_X2_spells_p1001_20 _ hm
  · rw [if_neg c] at hm
    refine x_k eX2_spells_16 ?_
    obtain rfl := Option.some.inj hm
    exact x_zret eX2_spells_17 (by decide) ⟨rfl, rfl⟩
set_option maxRecDepth 4000 in
theorem t_J0_coder_7d493_p1002 {o : Int32}  (hm : sp_J0_coder_7d493_p1002 = o) : xt_M yJ0_coder_7d493 cJ0_coder_7d493 1 (some .byte) (d + 0) [.ref 1002] (WX o_size o_year o_gone o_minds o_lasts r_size r_token r_place r_at r_open r_made t_size t_rule i_there i_rule i_size i_year i_gone i_minds i_lasts o_parent o_kind o_number o_odds o_above o_kidCount o_lead r_tape r_steps r_ends t_steps t_ends t_stack s_sort s_size s_items i_number i_odds x_prices x_facts x_laws x_clues) (xt_Ki o (WX o_size o_year o_gone o_minds o_lasts r_size r_token r_place r_at r_open r_made t_size t_rule i_there i_rule i_size i_year i_gone i_minds i_lasts o_parent o_kind o_number o_odds o_above o_kidCount o_lead r_tape r_steps r_ends t_steps t_ends t_stack s_sort s_size s_items i_number i_odds x_prices x_facts x_laws x_clues)) := by
  unfold sp_J0_coder_7d493_p1002 at hm
  refine xt_M.go (own := RJ0) (lv := [some (.ref 1002)]) rfl rfl (Nat.le_of_ble_eq_true rfl) rfl ?_
  refine x_stZ eJ0_coder_7d493_0 xs_J0_38 ?_
  refine x_if_eq eJ0_coder_7d493_3 (fun c => ?_) (fun c => ?_)
  · rw [if_pos c] at hm
    refine x_k eJ0_coder_7d493_13 ?_
    subst hm
    exact x_nret eJ0_coder_7d493_14 rfl ⟨rfl, rfl⟩
  · rw [if_neg c] at hm
    refine x_aload0 eJ0_coder_7d493_6 ?_
    refine x_strC (i := 2) eJ0_coder_7d493_7 xs_J0_15 (Nat.le_of_ble_eq_true rfl) rfl ?_
    refine x_goto eJ0_coder_7d493_10 ?_
    subst hm
    exact x_nret eJ0_coder_7d493_14 rfl ⟨rfl, rfl⟩
set_option maxRecDepth 4000 in
theorem t_J0_length_8abf5_p1002 {o : Int32}  (hm : sp_J0_length_8abf5_p1002 = o) : xt_M yJ0_length_8abf5 cJ0_length_8abf5 1 (some .int) (d + 1) [.ref 1002] (WX o_size o_year o_gone o_minds o_lasts r_size r_token r_place r_at r_open r_made t_size t_rule i_there i_rule i_size i_year i_gone i_minds i_lasts o_parent o_kind o_number o_odds o_above o_kidCount o_lead r_tape r_steps r_ends t_steps t_ends t_stack s_sort s_size s_items i_number i_odds x_prices x_facts x_laws x_clues) (xt_Ki o (WX o_size o_year o_gone o_minds o_lasts r_size r_token r_place r_at r_open r_made t_size t_rule i_there i_rule i_size i_year i_gone i_minds i_lasts o_parent o_kind o_number o_odds o_above o_kidCount o_lead r_tape r_steps r_ends t_steps t_ends t_stack s_sort s_size s_items i_number i_odds x_prices x_facts x_laws x_clues)) := by
  unfold sp_J0_length_8abf5_p1002 at hm
  refine xt_M.go (own := RJ0) (lv := [some (.ref 1002)]) rfl rfl (Nat.le_of_ble_eq_true rfl) rfl ?_
  refine x_aload0 eJ0_length_8abf5_0 ?_
  refine x_strV (i := 2) (q := 2002) eJ0_length_8abf5_1 xs_J0_9 (Nat.le_of_ble_eq_true rfl) rfl rfl ?_
  refine x_strL (i := 2) (v := 4) eJ0_length_8abf5_4 (Nat.le_of_ble_eq_true rfl) rfl (by decide) ?_
  refine x_aload0 eJ0_length_8abf5_5 ?_
  refine x_Wi0 (i := 2) eJ0_length_8abf5_6 kJ0_coder_7d493 mJ0_335 (Nat.le_of_ble_eq_true rfl) rfl (t_J0_coder_7d493_p1002 rfl) (Nat.le_of_ble_eq_true rfl) ?_
  refine x_ishr eJ0_length_8abf5_9 ?_
  subst hm
  exact x_iret eJ0_length_8abf5_10 ⟨rfl, rfl⟩
set_option maxRecDepth 4000 in
theorem t_J0_isLatin1_aae02_p1002 {o : Int32}  (hm : sp_J0_isLatin1_aae02_p1002 = o) : xt_M yJ0_isLatin1_aae02 cJ0_isLatin1_aae02 1 (some .boolean) (d + 0) [.ref 1002] (WX o_size o_year o_gone o_minds o_lasts r_size r_token r_place r_at r_open r_made t_size t_rule i_there i_rule i_size i_year i_gone i_minds i_lasts o_parent o_kind o_number o_odds o_above o_kidCount o_lead r_tape r_steps r_ends t_steps t_ends t_stack s_sort s_size s_items i_number i_odds x_prices x_facts x_laws x_clues) (xt_Ki o (WX o_size o_year o_gone o_minds o_lasts r_size r_token r_place r_at r_open r_made t_size t_rule i_there i_rule i_size i_year i_gone i_minds i_lasts o_parent o_kind o_number o_odds o_above o_kidCount o_lead r_tape r_steps r_ends t_steps t_ends t_stack s_sort s_size s_items i_number i_odds x_prices x_facts x_laws x_clues)) := by
  unfold sp_J0_isLatin1_aae02_p1002 at hm
  refine xt_M.go (own := RJ0) (lv := [some (.ref 1002)]) rfl rfl (Nat.le_of_ble_eq_true rfl) rfl ?_
  refine x_stZ eJ0_isLatin1_aae02_0 xs_J0_38 ?_
  refine x_if_eq eJ0_isLatin1_aae02_3 (fun c => ?_) (fun c => ?_)
  · rw [if_pos c] at hm
    refine x_k eJ0_isLatin1_aae02_17 ?_
    subst hm
    exact x_zret eJ0_isLatin1_aae02_18 (by decide) ⟨rfl, rfl⟩
  · rw [if_neg c] at hm
    refine x_aload0 eJ0_isLatin1_aae02_6 ?_
    refine x_strC (i := 2) eJ0_isLatin1_aae02_7 xs_J0_15 (Nat.le_of_ble_eq_true rfl) rfl ?_
    refine x_if_ne eJ0_isLatin1_aae02_10 (fun c => ?_) (fun c => ?_)
    · rw [if_neg c] at hm
      refine x_k eJ0_isLatin1_aae02_17 ?_
      subst hm
      exact x_zret eJ0_isLatin1_aae02_18 (by decide) ⟨rfl, rfl⟩
    · rw [if_pos c] at hm
      refine x_k eJ0_isLatin1_aae02_13 ?_
      refine x_goto eJ0_isLatin1_aae02_14 ?_
      subst hm
      exact x_zret eJ0_isLatin1_aae02_18 (by decide) ⟨rfl, rfl⟩
set_option maxRecDepth 4000 in
theorem t_J1_charAt_3b067_p2002 {o : Int32} {p2 : Int32} (hm : sp_J1_charAt_3b067_p2002 p2 = some o) : xt_M yJ1_charAt_3b067 cJ1_charAt_3b067 2 (some .char) (d + 2) [.ref 2002, .int p2] (WX o_size o_year o_gone o_minds o_lasts r_size r_token r_place r_at r_open r_made t_size t_rule i_there i_rule i_size i_year i_gone i_minds i_lasts o_parent o_kind o_number o_odds o_above o_kidCount o_lead r_tape r_steps r_ends t_steps t_ends t_stack s_sort s_size s_items i_number i_odds x_prices x_facts x_laws x_clues) (xt_Ki o (WX o_size o_year o_gone o_minds o_lasts r_size r_token r_place r_at r_open r_made t_size t_rule i_there i_rule i_size i_year i_gone i_minds i_lasts o_parent o_kind o_number o_odds o_above o_kidCount o_lead r_tape r_steps r_ends t_steps t_ends t_stack s_sort s_size s_items i_number i_odds x_prices x_facts x_laws x_clues)) := by
  unfold sp_J1_charAt_3b067_p2002 at hm
  refine xt_M.go (own := RJ1) (lv := [some (.ref 2002), some (.int p2)]) rfl rfl (Nat.le_of_ble_eq_true rfl) rfl ?_
  refine x_iload1 eJ1_charAt_3b067_0 ?_
  refine x_aload0 eJ1_charAt_3b067_1 ?_
  refine x_strL (i := 2) (v := 4) eJ1_charAt_3b067_2 (Nat.le_of_ble_eq_true rfl) rfl (by decide) ?_
  obtain ⟨r1, hr, hm⟩ := xo_bind hm
  refine x_Sv2 eJ1_charAt_3b067_3 kJ0_checkIndex_df160 mJ1_9 (t_J0_checkIndex_df160 hr) (Nat.le_of_ble_eq_true rfl) ?_
  refine x_aload0 eJ1_charAt_3b067_6 ?_
  refine x_iload1 eJ1_charAt_3b067_7 ?_
  obtain ⟨v2, hv, hm⟩ := xo_bind hm
  obtain ⟨hi, rfl⟩ := xo_str_some hv
  refine x_strB (i := 2) eJ1_charAt_3b067_8 (Nat.le_of_ble_eq_true rfl) rfl hi ?_
  refine x_k eJ1_charAt_3b067_9 ?_
  refine x_iand eJ1_charAt_3b067_12 ?_
  refine x_i2c eJ1_charAt_3b067_13 ?_
  obtain rfl := Option.some.inj hm
  exact x_nret eJ1_charAt_3b067_14 (pk_nc _) ⟨rfl, rfl⟩
set_option maxRecDepth 4000 in
theorem t_J0_charAt_5068e_p1002 {o : Int32} {p1 : Int32} (hm : sp_J0_charAt_5068e_p1002 p1 = some o) : xt_M yJ0_charAt_5068e cJ0_charAt_5068e 2 (some .char) (d + 3) [.ref 1002, .int p1] (WX o_size o_year o_gone o_minds o_lasts r_size r_token r_place r_at r_open r_made t_size t_rule i_there i_rule i_size i_year i_gone i_minds i_lasts o_parent o_kind o_number o_odds o_above o_kidCount o_lead r_tape r_steps r_ends t_steps t_ends t_stack s_sort s_size s_items i_number i_odds x_prices x_facts x_laws x_clues) (xt_Ki o (WX o_size o_year o_gone o_minds o_lasts r_size r_token r_place r_at r_open r_made t_size t_rule i_there i_rule i_size i_year i_gone i_minds i_lasts o_parent o_kind o_number o_odds o_above o_kidCount o_lead r_tape r_steps r_ends t_steps t_ends t_stack s_sort s_size s_items i_number i_odds x_prices x_facts x_laws x_clues)) := by
  unfold sp_J0_charAt_5068e_p1002 at hm
  refine xt_M.go (own := RJ0) (lv := [some (.ref 1002), some (.int p1)]) rfl rfl (Nat.le_of_ble_eq_true rfl) rfl ?_
  refine x_aload0 eJ0_charAt_5068e_0 ?_
  refine x_Wi0 (i := 2) eJ0_charAt_5068e_1 kJ0_isLatin1_aae02 mJ0_492 (Nat.le_of_ble_eq_true rfl) rfl (t_J0_isLatin1_aae02_p1002 rfl) (Nat.le_of_ble_eq_true rfl) ?_
  refine x_if_eq eJ0_charAt_5068e_4 (fun c => ?_) (fun c => ?_)
  · rw [if_pos c] at hm
    refine x_aload0 eJ0_charAt_5068e_16 ?_
    refine x_strV (i := 2) (q := 2002) eJ0_charAt_5068e_17 xs_J0_9 (Nat.le_of_ble_eq_true rfl) rfl rfl ?_
    refine x_iload1 eJ0_charAt_5068e_20 ?_
    cases hm
  · rw [if_neg c] at hm
    refine x_aload0 eJ0_charAt_5068e_7 ?_
    refine x_strV (i := 2) (q := 2002) eJ0_charAt_5068e_8 xs_J0_9 (Nat.le_of_ble_eq_true rfl) rfl rfl ?_
    refine x_iload1 eJ0_charAt_5068e_11 ?_
    obtain ⟨r1, hr, hm⟩ := xo_bind hm
    refine x_Si2 eJ0_charAt_5068e_12 kJ1_charAt_3b067 mJ0_495 (t_J1_charAt_3b067_p2002 hr) (Nat.le_of_ble_eq_true rfl) ?_
    obtain ⟨hz, hm⟩ := xo_ifn hm
    obtain rfl := Option.some.inj hm
    exact x_nret eJ0_charAt_5068e_15 (xo_char (Decidable.not_not.mp hz)) ⟨rfl, rfl⟩
set_option maxRecDepth 4000 in
theorem l_X2_spells_p1002_20 {o : Int32} {r_place : Int32} {r_tape : Nat → Int32} : ∀ (n : Nat) {u2 : Int32}, sp_X2_spells_p1002_20 r_place r_tape n u2 = some o → xt_T RX2 cX2_spells 3 (some .boolean) (d + 4) (xt_Ki o (WX o_size o_year o_gone o_minds o_lasts r_size r_token r_place r_at r_open r_made t_size t_rule i_there i_rule i_size i_year i_gone i_minds i_lasts o_parent o_kind o_number o_odds o_above o_kidCount o_lead r_tape r_steps r_ends t_steps t_ends t_stack s_sort s_size s_items i_number i_odds x_prices x_facts x_laws x_clues)) 20 [some (.ref 9), some (.ref 1002), some (.int u2)] [] (WX o_size o_year o_gone o_minds o_lasts r_size r_token r_place r_at r_open r_made t_size t_rule i_there i_rule i_size i_year i_gone i_minds i_lasts o_parent o_kind o_number o_odds o_above o_kidCount o_lead r_tape r_steps r_ends t_steps t_ends t_stack s_sort s_size s_items i_number i_odds x_prices x_facts x_laws x_clues) := by
  intro n
  induction n with
  | zero => intro u2 hm; rw [sp_X2_spells_p1002_20] at hm; cases hm
  | succ n ih =>
    intro u2 hm
    rw [sp_X2_spells_p1002_20] at hm
    refine x_iload2 eX2_spells_20 ?_
    refine x_aload1 eX2_spells_21 ?_
    refine x_Wi0 (i := 2) eX2_spells_22 kJ0_length_8abf5 mX2_128 (Nat.le_of_ble_eq_true rfl) rfl (t_J0_length_8abf5_p1002 rfl) (Nat.le_of_ble_eq_true rfl) ?_
    refine x_icmp_ge eX2_spells_25 (fun c => ?_) (fun c => ?_)
    · rw [if_pos c] at hm
      refine x_k eX2_spells_55 ?_
      obtain rfl := Option.some.inj hm
      exact x_zret eX2_spells_56 (by decide) ⟨rfl, rfl⟩
    · rw [if_neg c] at hm
      refine x_aload0 eX2_spells_28 ?_
      refine x_get eX2_spells_29 fX2_15 rfl rfl ?_
      refine x_aload0 eX2_spells_32 ?_
      refine x_get eX2_spells_33 fX2_22 rfl rfl ?_
      refine x_iload2 eX2_spells_36 ?_
      refine x_iadd eX2_spells_37 ?_
      obtain ⟨v1, hv, hm⟩ := xo_bind hm
      obtain ⟨hi, rfl⟩ := xo_at_some hv
      refine x_iaload eX2_spells_38 rfl hi ?_
      refine x_aload1 eX2_spells_39 ?_
      refine x_iload2 eX2_spells_40 ?_
      obtain ⟨r2, hr, hm⟩ := xo_bind hm
      refine x_Wi1 (i := 2) eX2_spells_41 kJ0_charAt_5068e mX2_133 (Nat.le_of_ble_eq_true rfl) rfl (t_J0_charAt_5068e_p1002 hr) (Nat.le_of_ble_eq_true rfl) ?_
      refine x_icmp_eq eX2_spells_44 (fun c => ?_) (fun c => ?_)
      · rw [if_pos c] at hm
        refine x_iinc2 eX2_spells_49 rfl ?_
        refine x_goto eX2_spells_52 ?_
        exact ih hm
      · rw [if_neg c] at hm
        refine x_k eX2_spells_47 ?_
        obtain rfl := Option.some.inj hm
        exact x_zret eX2_spells_48 (by decide) ⟨rfl, rfl⟩
set_option maxRecDepth 4000 in
theorem t_X2_spells_p1002 {o : Int32}  (hm : sp_X2_spells_p1002 r_place r_at r_tape = some o) : xt_M yX2_spells cX2_spells 3 (some .boolean) (d + 4) [.ref 9, .ref 1002] (WX o_size o_year o_gone o_minds o_lasts r_size r_token r_place r_at r_open r_made t_size t_rule i_there i_rule i_size i_year i_gone i_minds i_lasts o_parent o_kind o_number o_odds o_above o_kidCount o_lead r_tape r_steps r_ends t_steps t_ends t_stack s_sort s_size s_items i_number i_odds x_prices x_facts x_laws x_clues) (xt_Ki o (WX o_size o_year o_gone o_minds o_lasts r_size r_token r_place r_at r_open r_made t_size t_rule i_there i_rule i_size i_year i_gone i_minds i_lasts o_parent o_kind o_number o_odds o_above o_kidCount o_lead r_tape r_steps r_ends t_steps t_ends t_stack s_sort s_size s_items i_number i_odds x_prices x_facts x_laws x_clues)) := by
  unfold sp_X2_spells_p1002 at hm
  refine xt_M.go (own := RX2) (lv := [some (.ref 9), some (.ref 1002), none]) rfl rfl (Nat.le_of_ble_eq_true rfl) rfl ?_
  refine x_aload0 eX2_spells_0 ?_
  refine x_get eX2_spells_1 fX2_25 rfl rfl ?_
  refine x_aload0 eX2_spells_4 ?_
  refine x_get eX2_spells_5 fX2_22 rfl rfl ?_
  refine x_isub eX2_spells_8 ?_
  refine x_aload1 eX2_spells_9 ?_
  refine x_Wi0 (i := 2) eX2_spells_10 kJ0_length_8abf5 mX2_128 (Nat.le_of_ble_eq_true rfl) rfl (t_J0_length_8abf5_p1002 rfl) (Nat.le_of_ble_eq_true rfl) ?_
  refine x_icmp_eq eX2_spells_13 (fun c => ?_) (fun c => ?_)
  · rw [if_pos c] at hm
    refine x_k eX2_spells_18 ?_
    refine x_istore2 eX2_spells_19 rfl ?_
    exact l_X2_spells_p1002_20 _ hm
  · rw [if_neg c] at hm
    refine x_k eX2_spells_16 ?_
    obtain rfl := Option.some.inj hm
    exact x_zret eX2_spells_17 (by decide) ⟨rfl, rfl⟩
set_option maxRecDepth 4000 in
theorem t_J0_coder_7d493_p1003 {o : Int32}  (hm : sp_J0_coder_7d493_p1003 = o) : xt_M yJ0_coder_7d493 cJ0_coder_7d493 1 (some .byte) (d + 0) [.ref 1003] (WX o_size o_year o_gone o_minds o_lasts r_size r_token r_place r_at r_open r_made t_size t_rule i_there i_rule i_size i_year i_gone i_minds i_lasts o_parent o_kind o_number o_odds o_above o_kidCount o_lead r_tape r_steps r_ends t_steps t_ends t_stack s_sort s_size s_items i_number i_odds x_prices x_facts x_laws x_clues) (xt_Ki o (WX o_size o_year o_gone o_minds o_lasts r_size r_token r_place r_at r_open r_made t_size t_rule i_there i_rule i_size i_year i_gone i_minds i_lasts o_parent o_kind o_number o_odds o_above o_kidCount o_lead r_tape r_steps r_ends t_steps t_ends t_stack s_sort s_size s_items i_number i_odds x_prices x_facts x_laws x_clues)) := by
  unfold sp_J0_coder_7d493_p1003 at hm
  refine xt_M.go (own := RJ0) (lv := [some (.ref 1003)]) rfl rfl (Nat.le_of_ble_eq_true rfl) rfl ?_
  refine x_stZ eJ0_coder_7d493_0 xs_J0_38 ?_
  refine x_if_eq eJ0_coder_7d493_3 (fun c => ?_) (fun c => ?_)
  · rw [if_pos c] at hm
    refine x_k eJ0_coder_7d493_13 ?_
    subst hm
    exact x_nret eJ0_coder_7d493_14 rfl ⟨rfl, rfl⟩
  · rw [if_neg c] at hm
    refine x_aload0 eJ0_coder_7d493_6 ?_
    refine x_strC (i := 3) eJ0_coder_7d493_7 xs_J0_15 (Nat.le_of_ble_eq_true rfl) rfl ?_
    refine x_goto eJ0_coder_7d493_10 ?_
    subst hm
    exact x_nret eJ0_coder_7d493_14 rfl ⟨rfl, rfl⟩
set_option maxRecDepth 4000 in
theorem t_J0_length_8abf5_p1003 {o : Int32}  (hm : sp_J0_length_8abf5_p1003 = o) : xt_M yJ0_length_8abf5 cJ0_length_8abf5 1 (some .int) (d + 1) [.ref 1003] (WX o_size o_year o_gone o_minds o_lasts r_size r_token r_place r_at r_open r_made t_size t_rule i_there i_rule i_size i_year i_gone i_minds i_lasts o_parent o_kind o_number o_odds o_above o_kidCount o_lead r_tape r_steps r_ends t_steps t_ends t_stack s_sort s_size s_items i_number i_odds x_prices x_facts x_laws x_clues) (xt_Ki o (WX o_size o_year o_gone o_minds o_lasts r_size r_token r_place r_at r_open r_made t_size t_rule i_there i_rule i_size i_year i_gone i_minds i_lasts o_parent o_kind o_number o_odds o_above o_kidCount o_lead r_tape r_steps r_ends t_steps t_ends t_stack s_sort s_size s_items i_number i_odds x_prices x_facts x_laws x_clues)) := by
  unfold sp_J0_length_8abf5_p1003 at hm
  refine xt_M.go (own := RJ0) (lv := [some (.ref 1003)]) rfl rfl (Nat.le_of_ble_eq_true rfl) rfl ?_
  refine x_aload0 eJ0_length_8abf5_0 ?_
  refine x_strV (i := 3) (q := 2003) eJ0_length_8abf5_1 xs_J0_9 (Nat.le_of_ble_eq_true rfl) rfl rfl ?_
  refine x_strL (i := 3) (v := 5) eJ0_length_8abf5_4 (Nat.le_of_ble_eq_true rfl) rfl (by decide) ?_
  refine x_aload0 eJ0_length_8abf5_5 ?_
  refine x_Wi0 (i := 3) eJ0_length_8abf5_6 kJ0_coder_7d493 mJ0_335 (Nat.le_of_ble_eq_true rfl) rfl (t_J0_coder_7d493_p1003 rfl) (Nat.le_of_ble_eq_true rfl) ?_
  refine x_ishr eJ0_length_8abf5_9 ?_
  subst hm
  exact x_iret eJ0_length_8abf5_10 ⟨rfl, rfl⟩
set_option maxRecDepth 4000 in
theorem t_J0_isLatin1_aae02_p1003 {o : Int32}  (hm : sp_J0_isLatin1_aae02_p1003 = o) : xt_M yJ0_isLatin1_aae02 cJ0_isLatin1_aae02 1 (some .boolean) (d + 0) [.ref 1003] (WX o_size o_year o_gone o_minds o_lasts r_size r_token r_place r_at r_open r_made t_size t_rule i_there i_rule i_size i_year i_gone i_minds i_lasts o_parent o_kind o_number o_odds o_above o_kidCount o_lead r_tape r_steps r_ends t_steps t_ends t_stack s_sort s_size s_items i_number i_odds x_prices x_facts x_laws x_clues) (xt_Ki o (WX o_size o_year o_gone o_minds o_lasts r_size r_token r_place r_at r_open r_made t_size t_rule i_there i_rule i_size i_year i_gone i_minds i_lasts o_parent o_kind o_number o_odds o_above o_kidCount o_lead r_tape r_steps r_ends t_steps t_ends t_stack s_sort s_size s_items i_number i_odds x_prices x_facts x_laws x_clues)) := by
  unfold sp_J0_isLatin1_aae02_p1003 at hm
  refine xt_M.go (own := RJ0) (lv := [some (.ref 1003)]) rfl rfl (Nat.le_of_ble_eq_true rfl) rfl ?_
  refine x_stZ eJ0_isLatin1_aae02_0 xs_J0_38 ?_
  refine x_if_eq eJ0_isLatin1_aae02_3 (fun c => ?_) (fun c => ?_)
  · rw [if_pos c] at hm
    refine x_k eJ0_isLatin1_aae02_17 ?_
    subst hm
    exact x_zret eJ0_isLatin1_aae02_18 (by decide) ⟨rfl, rfl⟩
  · rw [if_neg c] at hm
    refine x_aload0 eJ0_isLatin1_aae02_6 ?_
    refine x_strC (i := 3) eJ0_isLatin1_aae02_7 xs_J0_15 (Nat.le_of_ble_eq_true rfl) rfl ?_
    refine x_if_ne eJ0_isLatin1_aae02_10 (fun c => ?_) (fun c => ?_)
    · rw [if_neg c] at hm
      refine x_k eJ0_isLatin1_aae02_17 ?_
      subst hm
      exact x_zret eJ0_isLatin1_aae02_18 (by decide) ⟨rfl, rfl⟩
    · rw [if_pos c] at hm
      refine x_k eJ0_isLatin1_aae02_13 ?_
      refine x_goto eJ0_isLatin1_aae02_14 ?_
      subst hm
      exact x_zret eJ0_isLatin1_aae02_18 (by decide) ⟨rfl, rfl⟩
set_option maxRecDepth 4000 in
theorem t_J1_charAt_3b067_p2003 {o : Int32} {p2 : Int32} (hm : sp_J1_charAt_3b067_p2003 p2 = some o) : xt_M yJ1_charAt_3b067 cJ1_charAt_3b067 2 (some .char) (d + 2) [.ref 2003, .int p2] (WX o_size o_year o_gone o_minds o_lasts r_size r_token r_place r_at r_open r_made t_size t_rule i_there i_rule i_size i_year i_gone i_minds i_lasts o_parent o_kind o_number o_odds o_above o_kidCount o_lead r_tape r_steps r_ends t_steps t_ends t_stack s_sort s_size s_items i_number i_odds x_prices x_facts x_laws x_clues) (xt_Ki o (WX o_size o_year o_gone o_minds o_lasts r_size r_token r_place r_at r_open r_made t_size t_rule i_there i_rule i_size i_year i_gone i_minds i_lasts o_parent o_kind o_number o_odds o_above o_kidCount o_lead r_tape r_steps r_ends t_steps t_ends t_stack s_sort s_size s_items i_number i_odds x_prices x_facts x_laws x_clues)) := by
  unfold sp_J1_charAt_3b067_p2003 at hm
  refine xt_M.go (own := RJ1) (lv := [some (.ref 2003), some (.int p2)]) rfl rfl (Nat.le_of_ble_eq_true rfl) rfl ?_
  refine x_iload1 eJ1_charAt_3b067_0 ?_
  refine x_aload0 eJ1_charAt_3b067_1 ?_
  refine x_strL (i := 3) (v := 5) eJ1_charAt_3b067_2 (Nat.le_of_ble_eq_true rfl) rfl (by decide) ?_
  obtain ⟨r1, hr, hm⟩ := xo_bind hm
  refine x_Sv2 eJ1_charAt_3b067_3 kJ0_checkIndex_df160 mJ1_9 (t_J0_checkIndex_df160 hr) (Nat.le_of_ble_eq_true rfl) ?_
  refine x_aload0 eJ1_charAt_3b067_6 ?_
  refine x_iload1 eJ1_charAt_3b067_7 ?_
  obtain ⟨v2, hv, hm⟩ := xo_bind hm
  obtain ⟨hi, rfl⟩ := xo_str_some hv
  refine x_strB (i := 3) eJ1_charAt_3b067_8 (Nat.le_of_ble_eq_true rfl) rfl hi ?_
  refine x_k eJ1_charAt_3b067_9 ?_
  refine x_iand eJ1_charAt_3b067_12 ?_
  refine x_i2c eJ1_charAt_3b067_13 ?_
  obtain rfl := Option.some.inj hm
  exact x_nret eJ1_charAt_3b067_14 (pk_nc _) ⟨rfl, rfl⟩
set_option maxRecDepth 4000 in
theorem t_J0_charAt_5068e_p1003 {o : Int32} {p1 : Int32} (hm : sp_J0_charAt_5068e_p1003 p1 = some o) : xt_M yJ0_charAt_5068e cJ0_charAt_5068e 2 (some .char) (d + 3) [.ref 1003, .int p1] (WX o_size o_year o_gone o_minds o_lasts r_size r_token r_place r_at r_open r_made t_size t_rule i_there i_rule i_size i_year i_gone i_minds i_lasts o_parent o_kind o_number o_odds o_above o_kidCount o_lead r_tape r_steps r_ends t_steps t_ends t_stack s_sort s_size s_items i_number i_odds x_prices x_facts x_laws x_clues) (xt_Ki o (WX o_size o_year o_gone o_minds o_lasts r_size r_token r_place r_at r_open r_made t_size t_rule i_there i_rule i_size i_year i_gone i_minds i_lasts o_parent o_kind o_number o_odds o_above o_kidCount o_lead r_tape r_steps r_ends t_steps t_ends t_stack s_sort s_size s_items i_number i_odds x_prices x_facts x_laws x_clues)) := by
  unfold sp_J0_charAt_5068e_p1003 at hm
  refine xt_M.go (own := RJ0) (lv := [some (.ref 1003), some (.int p1)]) rfl rfl (Nat.le_of_ble_eq_true rfl) rfl ?_
  refine x_aload0 eJ0_charAt_5068e_0 ?_
  refine x_Wi0 (i := 3) eJ0_charAt_5068e_1 kJ0_isLatin1_aae02 mJ0_492 (Nat.le_of_ble_eq_true rfl) rfl (t_J0_isLatin1_aae02_p1003 rfl) (Nat.le_of_ble_eq_true rfl) ?_
  refine x_if_eq eJ0_charAt_5068e_4 (fun c => ?_) (fun c => ?_)
  · rw [if_pos c] at hm
    refine x_aload0 eJ0_charAt_5068e_16 ?_
    refine x_strV (i := 3) (q := 2003) eJ0_charAt_5068e_17 xs_J0_9 (Nat.le_of_ble_eq_true rfl) rfl rfl ?_
    refine x_iload1 eJ0_charAt_5068e_20 ?_
    cases hm
  · rw [if_neg c] at hm
    refine x_aload0 eJ0_charAt_5068e_7 ?_
    refine x_strV (i := 3) (q := 2003) eJ0_charAt_5068e_8 xs_J0_9 (Nat.le_of_ble_eq_true rfl) rfl rfl ?_
    refine x_iload1 eJ0_charAt_5068e_11 ?_
    obtain ⟨r1, hr, hm⟩ := xo_bind hm
    refine x_Si2 eJ0_charAt_5068e_12 kJ1_charAt_3b067 mJ0_495 (t_J1_charAt_3b067_p2003 hr) (Nat.le_of_ble_eq_true rfl) ?_
    obtain ⟨hz, hm⟩ := xo_ifn hm
    obtain rfl := Option.some.inj hm
    exact x_nret eJ0_charAt_5068e_15 (xo_char (Decidable.not_not.mp hz)) ⟨rfl, rfl⟩
set_option maxRecDepth 4000 in
theorem l_X2_spells_p1003_20 {o : Int32} {r_place : Int32} {r_tape : Nat → Int32} : ∀ (n : Nat) {u2 : Int32}, sp_X2_spells_p1003_20 r_place r_tape n u2 = some o → xt_T RX2 cX2_spells 3 (some .boolean) (d + 4) (xt_Ki o (WX o_size o_year o_gone o_minds o_lasts r_size r_token r_place r_at r_open r_made t_size t_rule i_there i_rule i_size i_year i_gone i_minds i_lasts o_parent o_kind o_number o_odds o_above o_kidCount o_lead r_tape r_steps r_ends t_steps t_ends t_stack s_sort s_size s_items i_number i_odds x_prices x_facts x_laws x_clues)) 20 [some (.ref 9), some (.ref 1003), some (.int u2)] [] (WX o_size o_year o_gone o_minds o_lasts r_size r_token r_place r_at r_open r_made t_size t_rule i_there i_rule i_size i_year i_gone i_minds i_lasts o_parent o_kind o_number o_odds o_above o_kidCount o_lead r_tape r_steps r_ends t_steps t_ends t_stack s_sort s_size s_items i_number i_odds x_prices x_facts x_laws x_clues) := by
  intro n
  induction n with
  | zero => intro u2 hm; rw [sp_X2_spells_p1003_20] at hm; cases hm
  | succ n ih =>
    intro u2 hm
    rw [sp_X2_spells_p1003_20] at hm
    refine x_iload2 eX2_spells_20 ?_
    refine x_aload1 eX2_spells_21 ?_
    refine x_Wi0 (i := 3) eX2_spells_22 kJ0_length_8abf5 mX2_128 (Nat.le_of_ble_eq_true rfl) rfl (t_J0_length_8abf5_p1003 rfl) (Nat.le_of_ble_eq_true rfl) ?_
    refine x_icmp_ge eX2_spells_25 (fun c => ?_) (fun c => ?_)
    · rw [if_pos c] at hm
      refine x_k eX2_spells_55 ?_
      obtain rfl := Option.some.inj hm
      exact x_zret eX2_spells_56 (by decide) ⟨rfl, rfl⟩
    · rw [if_neg c] at hm
      refine x_aload0 eX2_spells_28 ?_
      refine x_get eX2_spells_29 fX2_15 rfl rfl ?_
      refine x_aload0 eX2_spells_32 ?_
      refine x_get eX2_spells_33 fX2_22 rfl rfl ?_
      refine x_iload2 eX2_spells_36 ?_
      refine x_iadd eX2_spells_37 ?_
      obtain ⟨v1, hv, hm⟩ := xo_bind hm
      obtain ⟨hi, rfl⟩ := xo_at_some hv
      refine x_iaload eX2_spells_38 rfl hi ?_
      refine x_aload1 eX2_spells_39 ?_
      refine x_iload2 eX2_spells_40 ?_
      obtain ⟨r2, hr, hm⟩ := xo_bind hm
      refine x_Wi1 (i := 3) eX2_spells_41 kJ0_charAt_5068e mX2_133 (Nat.le_of_ble_eq_true rfl) rfl (t_J0_charAt_5068e_p1003 hr) (Nat.le_of_ble_eq_true rfl) ?_
      refine x_icmp_eq eX2_spells_44 (fun c => ?_) (fun c => ?_)
      · rw [if_pos c] at hm
        refine x_iinc2 eX2_spells_49 rfl ?_
        refine x_goto eX2_spells_52 ?_
        exact ih hm
      · rw [if_neg c] at hm
        refine x_k eX2_spells_47 ?_
        obtain rfl := Option.some.inj hm
        exact x_zret eX2_spells_48 (by decide) ⟨rfl, rfl⟩
set_option maxRecDepth 4000 in
theorem t_X2_spells_p1003 {o : Int32}  (hm : sp_X2_spells_p1003 r_place r_at r_tape = some o) : xt_M yX2_spells cX2_spells 3 (some .boolean) (d + 4) [.ref 9, .ref 1003] (WX o_size o_year o_gone o_minds o_lasts r_size r_token r_place r_at r_open r_made t_size t_rule i_there i_rule i_size i_year i_gone i_minds i_lasts o_parent o_kind o_number o_odds o_above o_kidCount o_lead r_tape r_steps r_ends t_steps t_ends t_stack s_sort s_size s_items i_number i_odds x_prices x_facts x_laws x_clues) (xt_Ki o (WX o_size o_year o_gone o_minds o_lasts r_size r_token r_place r_at r_open r_made t_size t_rule i_there i_rule i_size i_year i_gone i_minds i_lasts o_parent o_kind o_number o_odds o_above o_kidCount o_lead r_tape r_steps r_ends t_steps t_ends t_stack s_sort s_size s_items i_number i_odds x_prices x_facts x_laws x_clues)) := by
  unfold sp_X2_spells_p1003 at hm
  refine xt_M.go (own := RX2) (lv := [some (.ref 9), some (.ref 1003), none]) rfl rfl (Nat.le_of_ble_eq_true rfl) rfl ?_
  refine x_aload0 eX2_spells_0 ?_
  refine x_get eX2_spells_1 fX2_25 rfl rfl ?_
  refine x_aload0 eX2_spells_4 ?_
  refine x_get eX2_spells_5 fX2_22 rfl rfl ?_
  refine x_isub eX2_spells_8 ?_
  refine x_aload1 eX2_spells_9 ?_
  refine x_Wi0 (i := 3) eX2_spells_10 kJ0_length_8abf5 mX2_128 (Nat.le_of_ble_eq_true rfl) rfl (t_J0_length_8abf5_p1003 rfl) (Nat.le_of_ble_eq_true rfl) ?_
  refine x_icmp_eq eX2_spells_13 (fun c => ?_) (fun c => ?_)
  · rw [if_pos c] at hm
    refine x_k eX2_spells_18 ?_
    refine x_istore2 eX2_spells_19 rfl ?_
    exact l_X2_spells_p1003_20 _ hm
  · rw [if_neg c] at hm
    refine x_k eX2_spells_16 ?_
    obtain rfl := Option.some.inj hm
    exact x_zret eX2_spells_17 (by decide) ⟨rfl, rfl⟩
set_option maxRecDepth 4000 in
theorem t_J0_coder_7d493_p1004 {o : Int32}  (hm : sp_J0_coder_7d493_p1004 = o) : xt_M yJ0_coder_7d493 cJ0_coder_7d493 1 (some .byte) (d + 0) [.ref 1004] (WX o_size o_year o_gone o_minds o_lasts r_size r_token r_place r_at r_open r_made t_size t_rule i_there i_rule i_size i_year i_gone i_minds i_lasts o_parent o_kind o_number o_odds o_above o_kidCount o_lead r_tape r_steps r_ends t_steps t_ends t_stack s_sort s_size s_items i_number i_odds x_prices x_facts x_laws x_clues) (xt_Ki o (WX o_size o_year o_gone o_minds o_lasts r_size r_token r_place r_at r_open r_made t_size t_rule i_there i_rule i_size i_year i_gone i_minds i_lasts o_parent o_kind o_number o_odds o_above o_kidCount o_lead r_tape r_steps r_ends t_steps t_ends t_stack s_sort s_size s_items i_number i_odds x_prices x_facts x_laws x_clues)) := by
  unfold sp_J0_coder_7d493_p1004 at hm
  refine xt_M.go (own := RJ0) (lv := [some (.ref 1004)]) rfl rfl (Nat.le_of_ble_eq_true rfl) rfl ?_
  refine x_stZ eJ0_coder_7d493_0 xs_J0_38 ?_
  refine x_if_eq eJ0_coder_7d493_3 (fun c => ?_) (fun c => ?_)
  · rw [if_pos c] at hm
    refine x_k eJ0_coder_7d493_13 ?_
    subst hm
    exact x_nret eJ0_coder_7d493_14 rfl ⟨rfl, rfl⟩
  · rw [if_neg c] at hm
    refine x_aload0 eJ0_coder_7d493_6 ?_
    refine x_strC (i := 4) eJ0_coder_7d493_7 xs_J0_15 (Nat.le_of_ble_eq_true rfl) rfl ?_
    refine x_goto eJ0_coder_7d493_10 ?_
    subst hm
    exact x_nret eJ0_coder_7d493_14 rfl ⟨rfl, rfl⟩
set_option maxRecDepth 4000 in
theorem t_J0_length_8abf5_p1004 {o : Int32}  (hm : sp_J0_length_8abf5_p1004 = o) : xt_M yJ0_length_8abf5 cJ0_length_8abf5 1 (some .int) (d + 1) [.ref 1004] (WX o_size o_year o_gone o_minds o_lasts r_size r_token r_place r_at r_open r_made t_size t_rule i_there i_rule i_size i_year i_gone i_minds i_lasts o_parent o_kind o_number o_odds o_above o_kidCount o_lead r_tape r_steps r_ends t_steps t_ends t_stack s_sort s_size s_items i_number i_odds x_prices x_facts x_laws x_clues) (xt_Ki o (WX o_size o_year o_gone o_minds o_lasts r_size r_token r_place r_at r_open r_made t_size t_rule i_there i_rule i_size i_year i_gone i_minds i_lasts o_parent o_kind o_number o_odds o_above o_kidCount o_lead r_tape r_steps r_ends t_steps t_ends t_stack s_sort s_size s_items i_number i_odds x_prices x_facts x_laws x_clues)) := by
  unfold sp_J0_length_8abf5_p1004 at hm
  refine xt_M.go (own := RJ0) (lv := [some (.ref 1004)]) rfl rfl (Nat.le_of_ble_eq_true rfl) rfl ?_
  refine x_aload0 eJ0_length_8abf5_0 ?_
  refine x_strV (i := 4) (q := 2004) eJ0_length_8abf5_1 xs_J0_9 (Nat.le_of_ble_eq_true rfl) rfl rfl ?_
  refine x_strL (i := 4) (v := 4) eJ0_length_8abf5_4 (Nat.le_of_ble_eq_true rfl) rfl (by decide) ?_
  refine x_aload0 eJ0_length_8abf5_5 ?_
  refine x_Wi0 (i := 4) eJ0_length_8abf5_6 kJ0_coder_7d493 mJ0_335 (Nat.le_of_ble_eq_true rfl) rfl (t_J0_coder_7d493_p1004 rfl) (Nat.le_of_ble_eq_true rfl) ?_
  refine x_ishr eJ0_length_8abf5_9 ?_
  subst hm
  exact x_iret eJ0_length_8abf5_10 ⟨rfl, rfl⟩
set_option maxRecDepth 4000 in
theorem t_J0_isLatin1_aae02_p1004 {o : Int32}  (hm : sp_J0_isLatin1_aae02_p1004 = o) : xt_M yJ0_isLatin1_aae02 cJ0_isLatin1_aae02 1 (some .boolean) (d + 0) [.ref 1004] (WX o_size o_year o_gone o_minds o_lasts r_size r_token r_place r_at r_open r_made t_size t_rule i_there i_rule i_size i_year i_gone i_minds i_lasts o_parent o_kind o_number o_odds o_above o_kidCount o_lead r_tape r_steps r_ends t_steps t_ends t_stack s_sort s_size s_items i_number i_odds x_prices x_facts x_laws x_clues) (xt_Ki o (WX o_size o_year o_gone o_minds o_lasts r_size r_token r_place r_at r_open r_made t_size t_rule i_there i_rule i_size i_year i_gone i_minds i_lasts o_parent o_kind o_number o_odds o_above o_kidCount o_lead r_tape r_steps r_ends t_steps t_ends t_stack s_sort s_size s_items i_number i_odds x_prices x_facts x_laws x_clues)) := by
  unfold sp_J0_isLatin1_aae02_p1004 at hm
  refine xt_M.go (own := RJ0) (lv := [some (.ref 1004)]) rfl rfl (Nat.le_of_ble_eq_true rfl) rfl ?_
  refine x_stZ eJ0_isLatin1_aae02_0 xs_J0_38 ?_
  refine x_if_eq eJ0_isLatin1_aae02_3 (fun c => ?_) (fun c => ?_)
  · rw [if_pos c] at hm
    refine x_k eJ0_isLatin1_aae02_17 ?_
    subst hm
    exact x_zret eJ0_isLatin1_aae02_18 (by decide) ⟨rfl, rfl⟩
  · rw [if_neg c] at hm
    refine x_aload0 eJ0_isLatin1_aae02_6 ?_
    refine x_strC (i := 4) eJ0_isLatin1_aae02_7 xs_J0_15 (Nat.le_of_ble_eq_true rfl) rfl ?_
    refine x_if_ne eJ0_isLatin1_aae02_10 (fun c => ?_) (fun c => ?_)
    · rw [if_neg c] at hm
      refine x_k eJ0_isLatin1_aae02_17 ?_
      subst hm
      exact x_zret eJ0_isLatin1_aae02_18 (by decide) ⟨rfl, rfl⟩
    · rw [if_pos c] at hm
      refine x_k eJ0_isLatin1_aae02_13 ?_
      refine x_goto eJ0_isLatin1_aae02_14 ?_
      subst hm
      exact x_zret eJ0_isLatin1_aae02_18 (by decide) ⟨rfl, rfl⟩
set_option maxRecDepth 4000 in
theorem t_J1_charAt_3b067_p2004 {o : Int32} {p2 : Int32} (hm : sp_J1_charAt_3b067_p2004 p2 = some o) : xt_M yJ1_charAt_3b067 cJ1_charAt_3b067 2 (some .char) (d + 2) [.ref 2004, .int p2] (WX o_size o_year o_gone o_minds o_lasts r_size r_token r_place r_at r_open r_made t_size t_rule i_there i_rule i_size i_year i_gone i_minds i_lasts o_parent o_kind o_number o_odds o_above o_kidCount o_lead r_tape r_steps r_ends t_steps t_ends t_stack s_sort s_size s_items i_number i_odds x_prices x_facts x_laws x_clues) (xt_Ki o (WX o_size o_year o_gone o_minds o_lasts r_size r_token r_place r_at r_open r_made t_size t_rule i_there i_rule i_size i_year i_gone i_minds i_lasts o_parent o_kind o_number o_odds o_above o_kidCount o_lead r_tape r_steps r_ends t_steps t_ends t_stack s_sort s_size s_items i_number i_odds x_prices x_facts x_laws x_clues)) := by
  unfold sp_J1_charAt_3b067_p2004 at hm
  refine xt_M.go (own := RJ1) (lv := [some (.ref 2004), some (.int p2)]) rfl rfl (Nat.le_of_ble_eq_true rfl) rfl ?_
  refine x_iload1 eJ1_charAt_3b067_0 ?_
  refine x_aload0 eJ1_charAt_3b067_1 ?_
  refine x_strL (i := 4) (v := 4) eJ1_charAt_3b067_2 (Nat.le_of_ble_eq_true rfl) rfl (by decide) ?_
  obtain ⟨r1, hr, hm⟩ := xo_bind hm
  refine x_Sv2 eJ1_charAt_3b067_3 kJ0_checkIndex_df160 mJ1_9 (t_J0_checkIndex_df160 hr) (Nat.le_of_ble_eq_true rfl) ?_
  refine x_aload0 eJ1_charAt_3b067_6 ?_
  refine x_iload1 eJ1_charAt_3b067_7 ?_
  obtain ⟨v2, hv, hm⟩ := xo_bind hm
  obtain ⟨hi, rfl⟩ := xo_str_some hv
  refine x_strB (i := 4) eJ1_charAt_3b067_8 (Nat.le_of_ble_eq_true rfl) rfl hi ?_
  refine x_k eJ1_charAt_3b067_9 ?_
  refine x_iand eJ1_charAt_3b067_12 ?_
  refine x_i2c eJ1_charAt_3b067_13 ?_
  obtain rfl := Option.some.inj hm
  exact x_nret eJ1_charAt_3b067_14 (pk_nc _) ⟨rfl, rfl⟩
set_option maxRecDepth 4000 in
theorem t_J0_charAt_5068e_p1004 {o : Int32} {p1 : Int32} (hm : sp_J0_charAt_5068e_p1004 p1 = some o) : xt_M yJ0_charAt_5068e cJ0_charAt_5068e 2 (some .char) (d + 3) [.ref 1004, .int p1] (WX o_size o_year o_gone o_minds o_lasts r_size r_token r_place r_at r_open r_made t_size t_rule i_there i_rule i_size i_year i_gone i_minds i_lasts o_parent o_kind o_number o_odds o_above o_kidCount o_lead r_tape r_steps r_ends t_steps t_ends t_stack s_sort s_size s_items i_number i_odds x_prices x_facts x_laws x_clues) (xt_Ki o (WX o_size o_year o_gone o_minds o_lasts r_size r_token r_place r_at r_open r_made t_size t_rule i_there i_rule i_size i_year i_gone i_minds i_lasts o_parent o_kind o_number o_odds o_above o_kidCount o_lead r_tape r_steps r_ends t_steps t_ends t_stack s_sort s_size s_items i_number i_odds x_prices x_facts x_laws x_clues)) := by
  unfold sp_J0_charAt_5068e_p1004 at hm
  refine xt_M.go (own := RJ0) (lv := [some (.ref 1004), some (.int p1)]) rfl rfl (Nat.le_of_ble_eq_true rfl) rfl ?_
  refine x_aload0 eJ0_charAt_5068e_0 ?_
  refine x_Wi0 (i := 4) eJ0_charAt_5068e_1 kJ0_isLatin1_aae02 mJ0_492 (Nat.le_of_ble_eq_true rfl) rfl (t_J0_isLatin1_aae02_p1004 rfl) (Nat.le_of_ble_eq_true rfl) ?_
  refine x_if_eq eJ0_charAt_5068e_4 (fun c => ?_) (fun c => ?_)
  · rw [if_pos c] at hm
    refine x_aload0 eJ0_charAt_5068e_16 ?_
    refine x_strV (i := 4) (q := 2004) eJ0_charAt_5068e_17 xs_J0_9 (Nat.le_of_ble_eq_true rfl) rfl rfl ?_
    refine x_iload1 eJ0_charAt_5068e_20 ?_
    cases hm
  · rw [if_neg c] at hm
    refine x_aload0 eJ0_charAt_5068e_7 ?_
    refine x_strV (i := 4) (q := 2004) eJ0_charAt_5068e_8 xs_J0_9 (Nat.le_of_ble_eq_true rfl) rfl rfl ?_
    refine x_iload1 eJ0_charAt_5068e_11 ?_
    obtain ⟨r1, hr, hm⟩ := xo_bind hm
    refine x_Si2 eJ0_charAt_5068e_12 kJ1_charAt_3b067 mJ0_495 (t_J1_charAt_3b067_p2004 hr) (Nat.le_of_ble_eq_true rfl) ?_
    obtain ⟨hz, hm⟩ := xo_ifn hm
    obtain rfl := Option.some.inj hm
    exact x_nret eJ0_charAt_5068e_15 (xo_char (Decidable.not_not.mp hz)) ⟨rfl, rfl⟩
set_option maxRecDepth 4000 in
theorem l_X2_spells_p1004_20 {o : Int32} {r_place : Int32} {r_tape : Nat → Int32} : ∀ (n : Nat) {u2 : Int32}, sp_X2_spells_p1004_20 r_place r_tape n u2 = some o → xt_T RX2 cX2_spells 3 (some .boolean) (d + 4) (xt_Ki o (WX o_size o_year o_gone o_minds o_lasts r_size r_token r_place r_at r_open r_made t_size t_rule i_there i_rule i_size i_year i_gone i_minds i_lasts o_parent o_kind o_number o_odds o_above o_kidCount o_lead r_tape r_steps r_ends t_steps t_ends t_stack s_sort s_size s_items i_number i_odds x_prices x_facts x_laws x_clues)) 20 [some (.ref 9), some (.ref 1004), some (.int u2)] [] (WX o_size o_year o_gone o_minds o_lasts r_size r_token r_place r_at r_open r_made t_size t_rule i_there i_rule i_size i_year i_gone i_minds i_lasts o_parent o_kind o_number o_odds o_above o_kidCount o_lead r_tape r_steps r_ends t_steps t_ends t_stack s_sort s_size s_items i_number i_odds x_prices x_facts x_laws x_clues) := by
  intro n
  induction n with
  | zero => intro u2 hm; rw [sp_X2_spells_p1004_20] at hm; cases hm
  | succ n ih =>
    intro u2 hm
    rw [sp_X2_spells_p1004_20] at hm
    refine x_iload2 eX2_spells_20 ?_
    refine x_aload1 eX2_spells_21 ?_
    refine x_Wi0 (i := 4) eX2_spells_22 kJ0_length_8abf5 mX2_128 (Nat.le_of_ble_eq_true rfl) rfl (t_J0_length_8abf5_p1004 rfl) (Nat.le_of_ble_eq_true rfl) ?_
    refine x_icmp_ge eX2_spells_25 (fun c => ?_) (fun c => ?_)
    · rw [if_pos c] at hm
      refine x_k eX2_spells_55 ?_
      obtain rfl := Option.some.inj hm
      exact x_zret eX2_spells_56 (by decide) ⟨rfl, rfl⟩
    · rw [if_neg c] at hm
      refine x_aload0 eX2_spells_28 ?_
      refine x_get eX2_spells_29 fX2_15 rfl rfl ?_
      refine x_aload0 eX2_spells_32 ?_
      refine x_get eX2_spells_33 fX2_22 rfl rfl ?_
      refine x_iload2 eX2_spells_36 ?_
      refine x_iadd eX2_spells_37 ?_
      obtain ⟨v1, hv, hm⟩ := xo_bind hm
      obtain ⟨hi, rfl⟩ := xo_at_some hv
      refine x_iaload eX2_spells_38 rfl hi ?_
      refine x_aload1 eX2_spells_39 ?_
      refine x_iload2 eX2_spells_40 ?_
      obtain ⟨r2, hr, hm⟩ := xo_bind hm
      refine x_Wi1 (i := 4) eX2_spells_41 kJ0_charAt_5068e mX2_133 (Nat.le_of_ble_eq_true rfl) rfl (t_J0_charAt_5068e_p1004 hr) (Nat.le_of_ble_eq_true rfl) ?_
      refine x_icmp_eq eX2_spells_44 (fun c => ?_) (fun c => ?_)
      · rw [if_pos c] at hm
        refine x_iinc2 eX2_spells_49 rfl ?_
        refine x_goto eX2_spells_52 ?_
        exact ih hm
      · rw [if_neg c] at hm
        refine x_k eX2_spells_47 ?_
        obtain rfl := Option.some.inj hm
        exact x_zret eX2_spells_48 (by decide) ⟨rfl, rfl⟩
set_option maxRecDepth 4000 in
theorem t_X2_spells_p1004 {o : Int32}  (hm : sp_X2_spells_p1004 r_place r_at r_tape = some o) : xt_M yX2_spells cX2_spells 3 (some .boolean) (d + 4) [.ref 9, .ref 1004] (WX o_size o_year o_gone o_minds o_lasts r_size r_token r_place r_at r_open r_made t_size t_rule i_there i_rule i_size i_year i_gone i_minds i_lasts o_parent o_kind o_number o_odds o_above o_kidCount o_lead r_tape r_steps r_ends t_steps t_ends t_stack s_sort s_size s_items i_number i_odds x_prices x_facts x_laws x_clues) (xt_Ki o (WX o_size o_year o_gone o_minds o_lasts r_size r_token r_place r_at r_open r_made t_size t_rule i_there i_rule i_size i_year i_gone i_minds i_lasts o_parent o_kind o_number o_odds o_above o_kidCount o_lead r_tape r_steps r_ends t_steps t_ends t_stack s_sort s_size s_items i_number i_odds x_prices x_facts x_laws x_clues)) := by
  unfold sp_X2_spells_p1004 at hm
  refine xt_M.go (own := RX2) (lv := [some (.ref 9), some (.ref 1004), none]) rfl rfl (Nat.le_of_ble_eq_true rfl) rfl ?_
  refine x_aload0 eX2_spells_0 ?_
  refine x_get eX2_spells_1 fX2_25 rfl rfl ?_
  refine x_aload0 eX2_spells_4 ?_
  refine x_get eX2_spells_5 fX2_22 rfl rfl ?_
  refine x_isub eX2_spells_8 ?_
  refine x_aload1 eX2_spells_9 ?_
  refine x_Wi0 (i := 4) eX2_spells_10 kJ0_length_8abf5 mX2_128 (Nat.le_of_ble_eq_true rfl) rfl (t_J0_length_8abf5_p1004 rfl) (Nat.le_of_ble_eq_true rfl) ?_
  refine x_icmp_eq eX2_spells_13 (fun c => ?_) (fun c => ?_)
  · rw [if_pos c] at hm
    refine x_k eX2_spells_18 ?_
    refine x_istore2 eX2_spells_19 rfl ?_
    exact l_X2_spells_p1004_20 _ hm
  · rw [if_neg c] at hm
    refine x_k eX2_spells_16 ?_
    obtain rfl := Option.some.inj hm
    exact x_zret eX2_spells_17 (by decide) ⟨rfl, rfl⟩
set_option maxRecDepth 4000 in
theorem t_J0_coder_7d493_p1005 {o : Int32}  (hm : sp_J0_coder_7d493_p1005 = o) : xt_M yJ0_coder_7d493 cJ0_coder_7d493 1 (some .byte) (d + 0) [.ref 1005] (WX o_size o_year o_gone o_minds o_lasts r_size r_token r_place r_at r_open r_made t_size t_rule i_there i_rule i_size i_year i_gone i_minds i_lasts o_parent o_kind o_number o_odds o_above o_kidCount o_lead r_tape r_steps r_ends t_steps t_ends t_stack s_sort s_size s_items i_number i_odds x_prices x_facts x_laws x_clues) (xt_Ki o (WX o_size o_year o_gone o_minds o_lasts r_size r_token r_place r_at r_open r_made t_size t_rule i_there i_rule i_size i_year i_gone i_minds i_lasts o_parent o_kind o_number o_odds o_above o_kidCount o_lead r_tape r_steps r_ends t_steps t_ends t_stack s_sort s_size s_items i_number i_odds x_prices x_facts x_laws x_clues)) := by
  unfold sp_J0_coder_7d493_p1005 at hm
  refine xt_M.go (own := RJ0) (lv := [some (.ref 1005)]) rfl rfl (Nat.le_of_ble_eq_true rfl) rfl ?_
  refine x_stZ eJ0_coder_7d493_0 xs_J0_38 ?_
  refine x_if_eq eJ0_coder_7d493_3 (fun c => ?_) (fun c => ?_)
  · rw [if_pos c] at hm
    refine x_k eJ0_coder_7d493_13 ?_
    subst hm
    exact x_nret eJ0_coder_7d493_14 rfl ⟨rfl, rfl⟩
  · rw [if_neg c] at hm
    refine x_aload0 eJ0_coder_7d493_6 ?_
    refine x_strC (i := 5) eJ0_coder_7d493_7 xs_J0_15 (Nat.le_of_ble_eq_true rfl) rfl ?_
    refine x_goto eJ0_coder_7d493_10 ?_
    subst hm
    exact x_nret eJ0_coder_7d493_14 rfl ⟨rfl, rfl⟩
set_option maxRecDepth 4000 in
theorem t_J0_length_8abf5_p1005 {o : Int32}  (hm : sp_J0_length_8abf5_p1005 = o) : xt_M yJ0_length_8abf5 cJ0_length_8abf5 1 (some .int) (d + 1) [.ref 1005] (WX o_size o_year o_gone o_minds o_lasts r_size r_token r_place r_at r_open r_made t_size t_rule i_there i_rule i_size i_year i_gone i_minds i_lasts o_parent o_kind o_number o_odds o_above o_kidCount o_lead r_tape r_steps r_ends t_steps t_ends t_stack s_sort s_size s_items i_number i_odds x_prices x_facts x_laws x_clues) (xt_Ki o (WX o_size o_year o_gone o_minds o_lasts r_size r_token r_place r_at r_open r_made t_size t_rule i_there i_rule i_size i_year i_gone i_minds i_lasts o_parent o_kind o_number o_odds o_above o_kidCount o_lead r_tape r_steps r_ends t_steps t_ends t_stack s_sort s_size s_items i_number i_odds x_prices x_facts x_laws x_clues)) := by
  unfold sp_J0_length_8abf5_p1005 at hm
  refine xt_M.go (own := RJ0) (lv := [some (.ref 1005)]) rfl rfl (Nat.le_of_ble_eq_true rfl) rfl ?_
  refine x_aload0 eJ0_length_8abf5_0 ?_
  refine x_strV (i := 5) (q := 2005) eJ0_length_8abf5_1 xs_J0_9 (Nat.le_of_ble_eq_true rfl) rfl rfl ?_
  refine x_strL (i := 5) (v := 4) eJ0_length_8abf5_4 (Nat.le_of_ble_eq_true rfl) rfl (by decide) ?_
  refine x_aload0 eJ0_length_8abf5_5 ?_
  refine x_Wi0 (i := 5) eJ0_length_8abf5_6 kJ0_coder_7d493 mJ0_335 (Nat.le_of_ble_eq_true rfl) rfl (t_J0_coder_7d493_p1005 rfl) (Nat.le_of_ble_eq_true rfl) ?_
  refine x_ishr eJ0_length_8abf5_9 ?_
  subst hm
  exact x_iret eJ0_length_8abf5_10 ⟨rfl, rfl⟩
set_option maxRecDepth 4000 in
theorem t_J0_isLatin1_aae02_p1005 {o : Int32}  (hm : sp_J0_isLatin1_aae02_p1005 = o) : xt_M yJ0_isLatin1_aae02 cJ0_isLatin1_aae02 1 (some .boolean) (d + 0) [.ref 1005] (WX o_size o_year o_gone o_minds o_lasts r_size r_token r_place r_at r_open r_made t_size t_rule i_there i_rule i_size i_year i_gone i_minds i_lasts o_parent o_kind o_number o_odds o_above o_kidCount o_lead r_tape r_steps r_ends t_steps t_ends t_stack s_sort s_size s_items i_number i_odds x_prices x_facts x_laws x_clues) (xt_Ki o (WX o_size o_year o_gone o_minds o_lasts r_size r_token r_place r_at r_open r_made t_size t_rule i_there i_rule i_size i_year i_gone i_minds i_lasts o_parent o_kind o_number o_odds o_above o_kidCount o_lead r_tape r_steps r_ends t_steps t_ends t_stack s_sort s_size s_items i_number i_odds x_prices x_facts x_laws x_clues)) := by
  unfold sp_J0_isLatin1_aae02_p1005 at hm
  refine xt_M.go (own := RJ0) (lv := [some (.ref 1005)]) rfl rfl (Nat.le_of_ble_eq_true rfl) rfl ?_
  refine x_stZ eJ0_isLatin1_aae02_0 xs_J0_38 ?_
  refine x_if_eq eJ0_isLatin1_aae02_3 (fun c => ?_) (fun c => ?_)
  · rw [if_pos c] at hm
    refine x_k eJ0_isLatin1_aae02_17 ?_
    subst hm
    exact x_zret eJ0_isLatin1_aae02_18 (by decide) ⟨rfl, rfl⟩
  · rw [if_neg c] at hm
    refine x_aload0 eJ0_isLatin1_aae02_6 ?_
    refine x_strC (i := 5) eJ0_isLatin1_aae02_7 xs_J0_15 (Nat.le_of_ble_eq_true rfl) rfl ?_
    refine x_if_ne eJ0_isLatin1_aae02_10 (fun c => ?_) (fun c => ?_)
    · rw [if_neg c] at hm
      refine x_k eJ0_isLatin1_aae02_17 ?_
      subst hm
      exact x_zret eJ0_isLatin1_aae02_18 (by decide) ⟨rfl, rfl⟩
    · rw [if_pos c] at hm
      refine x_k eJ0_isLatin1_aae02_13 ?_
      refine x_goto eJ0_isLatin1_aae02_14 ?_
      subst hm
      exact x_zret eJ0_isLatin1_aae02_18 (by decide) ⟨rfl, rfl⟩
set_option maxRecDepth 4000 in
theorem t_J1_charAt_3b067_p2005 {o : Int32} {p2 : Int32} (hm : sp_J1_charAt_3b067_p2005 p2 = some o) : xt_M yJ1_charAt_3b067 cJ1_charAt_3b067 2 (some .char) (d + 2) [.ref 2005, .int p2] (WX o_size o_year o_gone o_minds o_lasts r_size r_token r_place r_at r_open r_made t_size t_rule i_there i_rule i_size i_year i_gone i_minds i_lasts o_parent o_kind o_number o_odds o_above o_kidCount o_lead r_tape r_steps r_ends t_steps t_ends t_stack s_sort s_size s_items i_number i_odds x_prices x_facts x_laws x_clues) (xt_Ki o (WX o_size o_year o_gone o_minds o_lasts r_size r_token r_place r_at r_open r_made t_size t_rule i_there i_rule i_size i_year i_gone i_minds i_lasts o_parent o_kind o_number o_odds o_above o_kidCount o_lead r_tape r_steps r_ends t_steps t_ends t_stack s_sort s_size s_items i_number i_odds x_prices x_facts x_laws x_clues)) := by
  unfold sp_J1_charAt_3b067_p2005 at hm
  refine xt_M.go (own := RJ1) (lv := [some (.ref 2005), some (.int p2)]) rfl rfl (Nat.le_of_ble_eq_true rfl) rfl ?_
  refine x_iload1 eJ1_charAt_3b067_0 ?_
  refine x_aload0 eJ1_charAt_3b067_1 ?_
  refine x_strL (i := 5) (v := 4) eJ1_charAt_3b067_2 (Nat.le_of_ble_eq_true rfl) rfl (by decide) ?_
  obtain ⟨r1, hr, hm⟩ := xo_bind hm
  refine x_Sv2 eJ1_charAt_3b067_3 kJ0_checkIndex_df160 mJ1_9 (t_J0_checkIndex_df160 hr) (Nat.le_of_ble_eq_true rfl) ?_
  refine x_aload0 eJ1_charAt_3b067_6 ?_
  refine x_iload1 eJ1_charAt_3b067_7 ?_
  obtain ⟨v2, hv, hm⟩ := xo_bind hm
  obtain ⟨hi, rfl⟩ := xo_str_some hv
  refine x_strB (i := 5) eJ1_charAt_3b067_8 (Nat.le_of_ble_eq_true rfl) rfl hi ?_
  refine x_k eJ1_charAt_3b067_9 ?_
  refine x_iand eJ1_charAt_3b067_12 ?_
  refine x_i2c eJ1_charAt_3b067_13 ?_
  obtain rfl := Option.some.inj hm
  exact x_nret eJ1_charAt_3b067_14 (pk_nc _) ⟨rfl, rfl⟩
set_option maxRecDepth 4000 in
theorem t_J0_charAt_5068e_p1005 {o : Int32} {p1 : Int32} (hm : sp_J0_charAt_5068e_p1005 p1 = some o) : xt_M yJ0_charAt_5068e cJ0_charAt_5068e 2 (some .char) (d + 3) [.ref 1005, .int p1] (WX o_size o_year o_gone o_minds o_lasts r_size r_token r_place r_at r_open r_made t_size t_rule i_there i_rule i_size i_year i_gone i_minds i_lasts o_parent o_kind o_number o_odds o_above o_kidCount o_lead r_tape r_steps r_ends t_steps t_ends t_stack s_sort s_size s_items i_number i_odds x_prices x_facts x_laws x_clues) (xt_Ki o (WX o_size o_year o_gone o_minds o_lasts r_size r_token r_place r_at r_open r_made t_size t_rule i_there i_rule i_size i_year i_gone i_minds i_lasts o_parent o_kind o_number o_odds o_above o_kidCount o_lead r_tape r_steps r_ends t_steps t_ends t_stack s_sort s_size s_items i_number i_odds x_prices x_facts x_laws x_clues)) := by
  unfold sp_J0_charAt_5068e_p1005 at hm
  refine xt_M.go (own := RJ0) (lv := [some (.ref 1005), some (.int p1)]) rfl rfl (Nat.le_of_ble_eq_true rfl) rfl ?_
  refine x_aload0 eJ0_charAt_5068e_0 ?_
  refine x_Wi0 (i := 5) eJ0_charAt_5068e_1 kJ0_isLatin1_aae02 mJ0_492 (Nat.le_of_ble_eq_true rfl) rfl (t_J0_isLatin1_aae02_p1005 rfl) (Nat.le_of_ble_eq_true rfl) ?_
  refine x_if_eq eJ0_charAt_5068e_4 (fun c => ?_) (fun c => ?_)
  · rw [if_pos c] at hm
    refine x_aload0 eJ0_charAt_5068e_16 ?_
    refine x_strV (i := 5) (q := 2005) eJ0_charAt_5068e_17 xs_J0_9 (Nat.le_of_ble_eq_true rfl) rfl rfl ?_
    refine x_iload1 eJ0_charAt_5068e_20 ?_
    cases hm
  · rw [if_neg c] at hm
    refine x_aload0 eJ0_charAt_5068e_7 ?_
    refine x_strV (i := 5) (q := 2005) eJ0_charAt_5068e_8 xs_J0_9 (Nat.le_of_ble_eq_true rfl) rfl rfl ?_
    refine x_iload1 eJ0_charAt_5068e_11 ?_
    obtain ⟨r1, hr, hm⟩ := xo_bind hm
    refine x_Si2 eJ0_charAt_5068e_12 kJ1_charAt_3b067 mJ0_495 (t_J1_charAt_3b067_p2005 hr) (Nat.le_of_ble_eq_true rfl) ?_
    obtain ⟨hz, hm⟩ := xo_ifn hm
    obtain rfl := Option.some.inj hm
    exact x_nret eJ0_charAt_5068e_15 (xo_char (Decidable.not_not.mp hz)) ⟨rfl, rfl⟩
set_option maxRecDepth 4000 in
theorem l_X2_spells_p1005_20 {o : Int32} {r_place : Int32} {r_tape : Nat → Int32} : ∀ (n : Nat) {u2 : Int32}, sp_X2_spells_p1005_20 r_place r_tape n u2 = some o → xt_T RX2 cX2_spells 3 (some .boolean) (d + 4) (xt_Ki o (WX o_size o_year o_gone o_minds o_lasts r_size r_token r_place r_at r_open r_made t_size t_rule i_there i_rule i_size i_year i_gone i_minds i_lasts o_parent o_kind o_number o_odds o_above o_kidCount o_lead r_tape r_steps r_ends t_steps t_ends t_stack s_sort s_size s_items i_number i_odds x_prices x_facts x_laws x_clues)) 20 [some (.ref 9), some (.ref 1005), some (.int u2)] [] (WX o_size o_year o_gone o_minds o_lasts r_size r_token r_place r_at r_open r_made t_size t_rule i_there i_rule i_size i_year i_gone i_minds i_lasts o_parent o_kind o_number o_odds o_above o_kidCount o_lead r_tape r_steps r_ends t_steps t_ends t_stack s_sort s_size s_items i_number i_odds x_prices x_facts x_laws x_clues) := by
  intro n
  induction n with
  | zero => intro u2 hm; rw [sp_X2_spells_p1005_20] at hm; cases hm
  | succ n ih =>
    intro u2 hm
    rw [sp_X2_spells_p1005_20] at hm
    refine x_iload2 eX2_spells_20 ?_
    refine x_aload1 eX2_spells_21 ?_
    refine x_Wi0 (i := 5) eX2_spells_22 kJ0_length_8abf5 mX2_128 (Nat.le_of_ble_eq_true rfl) rfl (t_J0_length_8abf5_p1005 rfl) (Nat.le_of_ble_eq_true rfl) ?_
    refine x_icmp_ge eX2_spells_25 (fun c => ?_) (fun c => ?_)
    · rw [if_pos c] at hm
      refine x_k eX2_spells_55 ?_
      obtain rfl := Option.some.inj hm
      exact x_zret eX2_spells_56 (by decide) ⟨rfl, rfl⟩
    · rw [if_neg c] at hm
      refine x_aload0 eX2_spells_28 ?_
      refine x_get eX2_spells_29 fX2_15 rfl rfl ?_
      refine x_aload0 eX2_spells_32 ?_
      refine x_get eX2_spells_33 fX2_22 rfl rfl ?_
      refine x_iload2 eX2_spells_36 ?_
      refine x_iadd eX2_spells_37 ?_
      obtain ⟨v1, hv, hm⟩ := xo_bind hm
      obtain ⟨hi, rfl⟩ := xo_at_some hv
      refine x_iaload eX2_spells_38 rfl hi ?_
      refine x_aload1 eX2_spells_39 ?_
      refine x_iload2 eX2_spells_40 ?_
      obtain ⟨r2, hr, hm⟩ := xo_bind hm
      refine x_Wi1 (i := 5) eX2_spells_41 kJ0_charAt_5068e mX2_133 (Nat.le_of_ble_eq_true rfl) rfl (t_J0_charAt_5068e_p1005 hr) (Nat.le_of_ble_eq_true rfl) ?_
      refine x_icmp_eq eX2_spells_44 (fun c => ?_) (fun c => ?_)
      · rw [if_pos c] at hm
        refine x_iinc2 eX2_spells_49 rfl ?_
        refine x_goto eX2_spells_52 ?_
        exact ih hm
      · rw [if_neg c] at hm
        refine x_k eX2_spells_47 ?_
        obtain rfl := Option.some.inj hm
        exact x_zret eX2_spells_48 (by decide) ⟨rfl, rfl⟩
set_option maxRecDepth 4000 in
theorem t_X2_spells_p1005 {o : Int32}  (hm : sp_X2_spells_p1005 r_place r_at r_tape = some o) : xt_M yX2_spells cX2_spells 3 (some .boolean) (d + 4) [.ref 9, .ref 1005] (WX o_size o_year o_gone o_minds o_lasts r_size r_token r_place r_at r_open r_made t_size t_rule i_there i_rule i_size i_year i_gone i_minds i_lasts o_parent o_kind o_number o_odds o_above o_kidCount o_lead r_tape r_steps r_ends t_steps t_ends t_stack s_sort s_size s_items i_number i_odds x_prices x_facts x_laws x_clues) (xt_Ki o (WX o_size o_year o_gone o_minds o_lasts r_size r_token r_place r_at r_open r_made t_size t_rule i_there i_rule i_size i_year i_gone i_minds i_lasts o_parent o_kind o_number o_odds o_above o_kidCount o_lead r_tape r_steps r_ends t_steps t_ends t_stack s_sort s_size s_items i_number i_odds x_prices x_facts x_laws x_clues)) := by
  unfold sp_X2_spells_p1005 at hm
  refine xt_M.go (own := RX2) (lv := [some (.ref 9), some (.ref 1005), none]) rfl rfl (Nat.le_of_ble_eq_true rfl) rfl ?_
  refine x_aload0 eX2_spells_0 ?_
  refine x_get eX2_spells_1 fX2_25 rfl rfl ?_
  refine x_aload0 eX2_spells_4 ?_
  refine x_get eX2_spells_5 fX2_22 rfl rfl ?_
  refine x_isub eX2_spells_8 ?_
  refine x_aload1 eX2_spells_9 ?_
  refine x_Wi0 (i := 5) eX2_spells_10 kJ0_length_8abf5 mX2_128 (Nat.le_of_ble_eq_true rfl) rfl (t_J0_length_8abf5_p1005 rfl) (Nat.le_of_ble_eq_true rfl) ?_
  refine x_icmp_eq eX2_spells_13 (fun c => ?_) (fun c => ?_)
  · rw [if_pos c] at hm
    refine x_k eX2_spells_18 ?_
    refine x_istore2 eX2_spells_19 rfl ?_
    exact l_X2_spells_p1005_20 _ hm
  · rw [if_neg c] at hm
    refine x_k eX2_spells_16 ?_
    obtain rfl := Option.some.inj hm
    exact x_zret eX2_spells_17 (by decide) ⟨rfl, rfl⟩
set_option maxRecDepth 4000 in
theorem t_J0_coder_7d493_p1006 {o : Int32}  (hm : sp_J0_coder_7d493_p1006 = o) : xt_M yJ0_coder_7d493 cJ0_coder_7d493 1 (some .byte) (d + 0) [.ref 1006] (WX o_size o_year o_gone o_minds o_lasts r_size r_token r_place r_at r_open r_made t_size t_rule i_there i_rule i_size i_year i_gone i_minds i_lasts o_parent o_kind o_number o_odds o_above o_kidCount o_lead r_tape r_steps r_ends t_steps t_ends t_stack s_sort s_size s_items i_number i_odds x_prices x_facts x_laws x_clues) (xt_Ki o (WX o_size o_year o_gone o_minds o_lasts r_size r_token r_place r_at r_open r_made t_size t_rule i_there i_rule i_size i_year i_gone i_minds i_lasts o_parent o_kind o_number o_odds o_above o_kidCount o_lead r_tape r_steps r_ends t_steps t_ends t_stack s_sort s_size s_items i_number i_odds x_prices x_facts x_laws x_clues)) := by
  unfold sp_J0_coder_7d493_p1006 at hm
  refine xt_M.go (own := RJ0) (lv := [some (.ref 1006)]) rfl rfl (Nat.le_of_ble_eq_true rfl) rfl ?_
  refine x_stZ eJ0_coder_7d493_0 xs_J0_38 ?_
  refine x_if_eq eJ0_coder_7d493_3 (fun c => ?_) (fun c => ?_)
  · rw [if_pos c] at hm
    refine x_k eJ0_coder_7d493_13 ?_
    subst hm
    exact x_nret eJ0_coder_7d493_14 rfl ⟨rfl, rfl⟩
  · rw [if_neg c] at hm
    refine x_aload0 eJ0_coder_7d493_6 ?_
    refine x_strC (i := 6) eJ0_coder_7d493_7 xs_J0_15 (Nat.le_of_ble_eq_true rfl) rfl ?_
    refine x_goto eJ0_coder_7d493_10 ?_
    subst hm
    exact x_nret eJ0_coder_7d493_14 rfl ⟨rfl, rfl⟩
set_option maxRecDepth 4000 in
theorem t_J0_length_8abf5_p1006 {o : Int32}  (hm : sp_J0_length_8abf5_p1006 = o) : xt_M yJ0_length_8abf5 cJ0_length_8abf5 1 (some .int) (d + 1) [.ref 1006] (WX o_size o_year o_gone o_minds o_lasts r_size r_token r_place r_at r_open r_made t_size t_rule i_there i_rule i_size i_year i_gone i_minds i_lasts o_parent o_kind o_number o_odds o_above o_kidCount o_lead r_tape r_steps r_ends t_steps t_ends t_stack s_sort s_size s_items i_number i_odds x_prices x_facts x_laws x_clues) (xt_Ki o (WX o_size o_year o_gone o_minds o_lasts r_size r_token r_place r_at r_open r_made t_size t_rule i_there i_rule i_size i_year i_gone i_minds i_lasts o_parent o_kind o_number o_odds o_above o_kidCount o_lead r_tape r_steps r_ends t_steps t_ends t_stack s_sort s_size s_items i_number i_odds x_prices x_facts x_laws x_clues)) := by
  unfold sp_J0_length_8abf5_p1006 at hm
  refine xt_M.go (own := RJ0) (lv := [some (.ref 1006)]) rfl rfl (Nat.le_of_ble_eq_true rfl) rfl ?_
  refine x_aload0 eJ0_length_8abf5_0 ?_
  refine x_strV (i := 6) (q := 2006) eJ0_length_8abf5_1 xs_J0_9 (Nat.le_of_ble_eq_true rfl) rfl rfl ?_
  refine x_strL (i := 6) (v := 5) eJ0_length_8abf5_4 (Nat.le_of_ble_eq_true rfl) rfl (by decide) ?_
  refine x_aload0 eJ0_length_8abf5_5 ?_
  refine x_Wi0 (i := 6) eJ0_length_8abf5_6 kJ0_coder_7d493 mJ0_335 (Nat.le_of_ble_eq_true rfl) rfl (t_J0_coder_7d493_p1006 rfl) (Nat.le_of_ble_eq_true rfl) ?_
  refine x_ishr eJ0_length_8abf5_9 ?_
  subst hm
  exact x_iret eJ0_length_8abf5_10 ⟨rfl, rfl⟩
set_option maxRecDepth 4000 in
theorem t_J0_isLatin1_aae02_p1006 {o : Int32}  (hm : sp_J0_isLatin1_aae02_p1006 = o) : xt_M yJ0_isLatin1_aae02 cJ0_isLatin1_aae02 1 (some .boolean) (d + 0) [.ref 1006] (WX o_size o_year o_gone o_minds o_lasts r_size r_token r_place r_at r_open r_made t_size t_rule i_there i_rule i_size i_year i_gone i_minds i_lasts o_parent o_kind o_number o_odds o_above o_kidCount o_lead r_tape r_steps r_ends t_steps t_ends t_stack s_sort s_size s_items i_number i_odds x_prices x_facts x_laws x_clues) (xt_Ki o (WX o_size o_year o_gone o_minds o_lasts r_size r_token r_place r_at r_open r_made t_size t_rule i_there i_rule i_size i_year i_gone i_minds i_lasts o_parent o_kind o_number o_odds o_above o_kidCount o_lead r_tape r_steps r_ends t_steps t_ends t_stack s_sort s_size s_items i_number i_odds x_prices x_facts x_laws x_clues)) := by
  unfold sp_J0_isLatin1_aae02_p1006 at hm
  refine xt_M.go (own := RJ0) (lv := [some (.ref 1006)]) rfl rfl (Nat.le_of_ble_eq_true rfl) rfl ?_
  refine x_stZ eJ0_isLatin1_aae02_0 xs_J0_38 ?_
  refine x_if_eq eJ0_isLatin1_aae02_3 (fun c => ?_) (fun c => ?_)
  · rw [if_pos c] at hm
    refine x_k eJ0_isLatin1_aae02_17 ?_
    subst hm
    exact x_zret eJ0_isLatin1_aae02_18 (by decide) ⟨rfl, rfl⟩
  · rw [if_neg c] at hm
    refine x_aload0 eJ0_isLatin1_aae02_6 ?_
    refine x_strC (i := 6) eJ0_isLatin1_aae02_7 xs_J0_15 (Nat.le_of_ble_eq_true rfl) rfl ?_
    refine x_if_ne eJ0_isLatin1_aae02_10 (fun c => ?_) (fun c => ?_)
    · rw [if_neg c] at hm
      refine x_k eJ0_isLatin1_aae02_17 ?_
      subst hm
      exact x_zret eJ0_isLatin1_aae02_18 (by decide) ⟨rfl, rfl⟩
    · rw [if_pos c] at hm
      refine x_k eJ0_isLatin1_aae02_13 ?_
      refine x_goto eJ0_isLatin1_aae02_14 ?_
      subst hm
      exact x_zret eJ0_isLatin1_aae02_18 (by decide) ⟨rfl, rfl⟩
set_option maxRecDepth 4000 in
theorem t_J1_charAt_3b067_p2006 {o : Int32} {p2 : Int32} (hm : sp_J1_charAt_3b067_p2006 p2 = some o) : xt_M yJ1_charAt_3b067 cJ1_charAt_3b067 2 (some .char) (d + 2) [.ref 2006, .int p2] (WX o_size o_year o_gone o_minds o_lasts r_size r_token r_place r_at r_open r_made t_size t_rule i_there i_rule i_size i_year i_gone i_minds i_lasts o_parent o_kind o_number o_odds o_above o_kidCount o_lead r_tape r_steps r_ends t_steps t_ends t_stack s_sort s_size s_items i_number i_odds x_prices x_facts x_laws x_clues) (xt_Ki o (WX o_size o_year o_gone o_minds o_lasts r_size r_token r_place r_at r_open r_made t_size t_rule i_there i_rule i_size i_year i_gone i_minds i_lasts o_parent o_kind o_number o_odds o_above o_kidCount o_lead r_tape r_steps r_ends t_steps t_ends t_stack s_sort s_size s_items i_number i_odds x_prices x_facts x_laws x_clues)) := by
  unfold sp_J1_charAt_3b067_p2006 at hm
  refine xt_M.go (own := RJ1) (lv := [some (.ref 2006), some (.int p2)]) rfl rfl (Nat.le_of_ble_eq_true rfl) rfl ?_
  refine x_iload1 eJ1_charAt_3b067_0 ?_
  refine x_aload0 eJ1_charAt_3b067_1 ?_
  refine x_strL (i := 6) (v := 5) eJ1_charAt_3b067_2 (Nat.le_of_ble_eq_true rfl) rfl (by decide) ?_
  obtain ⟨r1, hr, hm⟩ := xo_bind hm
  refine x_Sv2 eJ1_charAt_3b067_3 kJ0_checkIndex_df160 mJ1_9 (t_J0_checkIndex_df160 hr) (Nat.le_of_ble_eq_true rfl) ?_
  refine x_aload0 eJ1_charAt_3b067_6 ?_
  refine x_iload1 eJ1_charAt_3b067_7 ?_
  obtain ⟨v2, hv, hm⟩ := xo_bind hm
  obtain ⟨hi, rfl⟩ := xo_str_some hv
  refine x_strB (i := 6) eJ1_charAt_3b067_8 (Nat.le_of_ble_eq_true rfl) rfl hi ?_
  refine x_k eJ1_charAt_3b067_9 ?_
  refine x_iand eJ1_charAt_3b067_12 ?_
  refine x_i2c eJ1_charAt_3b067_13 ?_
  obtain rfl := Option.some.inj hm
  exact x_nret eJ1_charAt_3b067_14 (pk_nc _) ⟨rfl, rfl⟩
set_option maxRecDepth 4000 in
theorem t_J0_charAt_5068e_p1006 {o : Int32} {p1 : Int32} (hm : sp_J0_charAt_5068e_p1006 p1 = some o) : xt_M yJ0_charAt_5068e cJ0_charAt_5068e 2 (some .char) (d + 3) [.ref 1006, .int p1] (WX o_size o_year o_gone o_minds o_lasts r_size r_token r_place r_at r_open r_made t_size t_rule i_there i_rule i_size i_year i_gone i_minds i_lasts o_parent o_kind o_number o_odds o_above o_kidCount o_lead r_tape r_steps r_ends t_steps t_ends t_stack s_sort s_size s_items i_number i_odds x_prices x_facts x_laws x_clues) (xt_Ki o (WX o_size o_year o_gone o_minds o_lasts r_size r_token r_place r_at r_open r_made t_size t_rule i_there i_rule i_size i_year i_gone i_minds i_lasts o_parent o_kind o_number o_odds o_above o_kidCount o_lead r_tape r_steps r_ends t_steps t_ends t_stack s_sort s_size s_items i_number i_odds x_prices x_facts x_laws x_clues)) := by
  unfold sp_J0_charAt_5068e_p1006 at hm
  refine xt_M.go (own := RJ0) (lv := [some (.ref 1006), some (.int p1)]) rfl rfl (Nat.le_of_ble_eq_true rfl) rfl ?_
  refine x_aload0 eJ0_charAt_5068e_0 ?_
  refine x_Wi0 (i := 6) eJ0_charAt_5068e_1 kJ0_isLatin1_aae02 mJ0_492 (Nat.le_of_ble_eq_true rfl) rfl (t_J0_isLatin1_aae02_p1006 rfl) (Nat.le_of_ble_eq_true rfl) ?_
  refine x_if_eq eJ0_charAt_5068e_4 (fun c => ?_) (fun c => ?_)
  · rw [if_pos c] at hm
    refine x_aload0 eJ0_charAt_5068e_16 ?_
    refine x_strV (i := 6) (q := 2006) eJ0_charAt_5068e_17 xs_J0_9 (Nat.le_of_ble_eq_true rfl) rfl rfl ?_
    refine x_iload1 eJ0_charAt_5068e_20 ?_
    cases hm
  · rw [if_neg c] at hm
    refine x_aload0 eJ0_charAt_5068e_7 ?_
    refine x_strV (i := 6) (q := 2006) eJ0_charAt_5068e_8 xs_J0_9 (Nat.le_of_ble_eq_true rfl) rfl rfl ?_
    refine x_iload1 eJ0_charAt_5068e_11 ?_
    obtain ⟨r1, hr, hm⟩ := xo_bind hm
    refine x_Si2 eJ0_charAt_5068e_12 kJ1_charAt_3b067 mJ0_495 (t_J1_charAt_3b067_p2006 hr) (Nat.le_of_ble_eq_true rfl) ?_
    obtain ⟨hz, hm⟩ := xo_ifn hm
    obtain rfl := Option.some.inj hm
    exact x_nret eJ0_charAt_5068e_15 (xo_char (Decidable.not_not.mp hz)) ⟨rfl, rfl⟩
set_option maxRecDepth 4000 in
theorem l_X2_spells_p1006_20 {o : Int32} {r_place : Int32} {r_tape : Nat → Int32} : ∀ (n : Nat) {u2 : Int32}, sp_X2_spells_p1006_20 r_place r_tape n u2 = some o → xt_T RX2 cX2_spells 3 (some .boolean) (d + 4) (xt_Ki o (WX o_size o_year o_gone o_minds o_lasts r_size r_token r_place r_at r_open r_made t_size t_rule i_there i_rule i_size i_year i_gone i_minds i_lasts o_parent o_kind o_number o_odds o_above o_kidCount o_lead r_tape r_steps r_ends t_steps t_ends t_stack s_sort s_size s_items i_number i_odds x_prices x_facts x_laws x_clues)) 20 [some (.ref 9), some (.ref 1006), some (.int u2)] [] (WX o_size o_year o_gone o_minds o_lasts r_size r_token r_place r_at r_open r_made t_size t_rule i_there i_rule i_size i_year i_gone i_minds i_lasts o_parent o_kind o_number o_odds o_above o_kidCount o_lead r_tape r_steps r_ends t_steps t_ends t_stack s_sort s_size s_items i_number i_odds x_prices x_facts x_laws x_clues) := by
  intro n
  induction n with
  | zero => intro u2 hm; rw [sp_X2_spells_p1006_20] at hm; cases hm
  | succ n ih =>
    intro u2 hm
    rw [sp_X2_spells_p1006_20] at hm
    refine x_iload2 eX2_spells_20 ?_
    refine x_aload1 eX2_spells_21 ?_
    refine x_Wi0 (i := 6) eX2_spells_22 kJ0_length_8abf5 mX2_128 (Nat.le_of_ble_eq_true rfl) rfl (t_J0_length_8abf5_p1006 rfl) (Nat.le_of_ble_eq_true rfl) ?_
    refine x_icmp_ge eX2_spells_25 (fun c => ?_) (fun c => ?_)
    · rw [if_pos c] at hm
      refine x_k eX2_spells_55 ?_
      obtain rfl := Option.some.inj hm
      exact x_zret eX2_spells_56 (by decide) ⟨rfl, rfl⟩
    · rw [if_neg c] at hm
      refine x_aload0 eX2_spells_28 ?_
      refine x_get eX2_spells_29 fX2_15 rfl rfl ?_
      refine x_aload0 eX2_spells_32 ?_
      refine x_get eX2_spells_33 fX2_22 rfl rfl ?_
      refine x_iload2 eX2_spells_36 ?_
      refine x_iadd eX2_spells_37 ?_
      obtain ⟨v1, hv, hm⟩ := xo_bind hm
      obtain ⟨hi, rfl⟩ := xo_at_some hv
      refine x_iaload eX2_spells_38 rfl hi ?_
      refine x_aload1 eX2_spells_39 ?_
      refine x_iload2 eX2_spells_40 ?_
      obtain ⟨r2, hr, hm⟩ := xo_bind hm
      refine x_Wi1 (i := 6) eX2_spells_41 kJ0_charAt_5068e mX2_133 (Nat.le_of_ble_eq_true rfl) rfl (t_J0_charAt_5068e_p1006 hr) (Nat.le_of_ble_eq_true rfl) ?_
      refine x_icmp_eq eX2_spells_44 (fun c => ?_) (fun c => ?_)
      · rw [if_pos c] at hm
        refine x_iinc2 eX2_spells_49 rfl ?_
        refine x_goto eX2_spells_52 ?_
        exact ih hm
      · rw [if_neg c] at hm
        refine x_k eX2_spells_47 ?_
        obtain rfl := Option.some.inj hm
        exact x_zret eX2_spells_48 (by decide) ⟨rfl, rfl⟩
set_option maxRecDepth 4000 in
theorem t_X2_spells_p1006 {o : Int32}  (hm : sp_X2_spells_p1006 r_place r_at r_tape = some o) : xt_M yX2_spells cX2_spells 3 (some .boolean) (d + 4) [.ref 9, .ref 1006] (WX o_size o_year o_gone o_minds o_lasts r_size r_token r_place r_at r_open r_made t_size t_rule i_there i_rule i_size i_year i_gone i_minds i_lasts o_parent o_kind o_number o_odds o_above o_kidCount o_lead r_tape r_steps r_ends t_steps t_ends t_stack s_sort s_size s_items i_number i_odds x_prices x_facts x_laws x_clues) (xt_Ki o (WX o_size o_year o_gone o_minds o_lasts r_size r_token r_place r_at r_open r_made t_size t_rule i_there i_rule i_size i_year i_gone i_minds i_lasts o_parent o_kind o_number o_odds o_above o_kidCount o_lead r_tape r_steps r_ends t_steps t_ends t_stack s_sort s_size s_items i_number i_odds x_prices x_facts x_laws x_clues)) := by
  unfold sp_X2_spells_p1006 at hm
  refine xt_M.go (own := RX2) (lv := [some (.ref 9), some (.ref 1006), none]) rfl rfl (Nat.le_of_ble_eq_true rfl) rfl ?_
  refine x_aload0 eX2_spells_0 ?_
  refine x_get eX2_spells_1 fX2_25 rfl rfl ?_
  refine x_aload0 eX2_spells_4 ?_
  refine x_get eX2_spells_5 fX2_22 rfl rfl ?_
  refine x_isub eX2_spells_8 ?_
  refine x_aload1 eX2_spells_9 ?_
  refine x_Wi0 (i := 6) eX2_spells_10 kJ0_length_8abf5 mX2_128 (Nat.le_of_ble_eq_true rfl) rfl (t_J0_length_8abf5_p1006 rfl) (Nat.le_of_ble_eq_true rfl) ?_
  refine x_icmp_eq eX2_spells_13 (fun c => ?_) (fun c => ?_)
  · rw [if_pos c] at hm
    refine x_k eX2_spells_18 ?_
    refine x_istore2 eX2_spells_19 rfl ?_
    exact l_X2_spells_p1006_20 _ hm
  · rw [if_neg c] at hm
    refine x_k eX2_spells_16 ?_
    obtain rfl := Option.some.inj hm
    exact x_zret eX2_spells_17 (by decide) ⟨rfl, rfl⟩
set_option maxRecDepth 4000 in
theorem t_J0_coder_7d493_p1007 {o : Int32}  (hm : sp_J0_coder_7d493_p1007 = o) : xt_M yJ0_coder_7d493 cJ0_coder_7d493 1 (some .byte) (d + 0) [.ref 1007] (WX o_size o_year o_gone o_minds o_lasts r_size r_token r_place r_at r_open r_made t_size t_rule i_there i_rule i_size i_year i_gone i_minds i_lasts o_parent o_kind o_number o_odds o_above o_kidCount o_lead r_tape r_steps r_ends t_steps t_ends t_stack s_sort s_size s_items i_number i_odds x_prices x_facts x_laws x_clues) (xt_Ki o (WX o_size o_year o_gone o_minds o_lasts r_size r_token r_place r_at r_open r_made t_size t_rule i_there i_rule i_size i_year i_gone i_minds i_lasts o_parent o_kind o_number o_odds o_above o_kidCount o_lead r_tape r_steps r_ends t_steps t_ends t_stack s_sort s_size s_items i_number i_odds x_prices x_facts x_laws x_clues)) := by
  unfold sp_J0_coder_7d493_p1007 at hm
  refine xt_M.go (own := RJ0) (lv := [some (.ref 1007)]) rfl rfl (Nat.le_of_ble_eq_true rfl) rfl ?_
  refine x_stZ eJ0_coder_7d493_0 xs_J0_38 ?_
  refine x_if_eq eJ0_coder_7d493_3 (fun c => ?_) (fun c => ?_)
  · rw [if_pos c] at hm
    refine x_k eJ0_coder_7d493_13 ?_
    subst hm
    exact x_nret eJ0_coder_7d493_14 rfl ⟨rfl, rfl⟩
  · rw [if_neg c] at hm
    refine x_aload0 eJ0_coder_7d493_6 ?_
    refine x_strC (i := 7) eJ0_coder_7d493_7 xs_J0_15 (Nat.le_of_ble_eq_true rfl) rfl ?_
    refine x_goto eJ0_coder_7d493_10 ?_
    subst hm
    exact x_nret eJ0_coder_7d493_14 rfl ⟨rfl, rfl⟩
set_option maxRecDepth 4000 in
theorem t_J0_length_8abf5_p1007 {o : Int32}  (hm : sp_J0_length_8abf5_p1007 = o) : xt_M yJ0_length_8abf5 cJ0_length_8abf5 1 (some .int) (d + 1) [.ref 1007] (WX o_size o_year o_gone o_minds o_lasts r_size r_token r_place r_at r_open r_made t_size t_rule i_there i_rule i_size i_year i_gone i_minds i_lasts o_parent o_kind o_number o_odds o_above o_kidCount o_lead r_tape r_steps r_ends t_steps t_ends t_stack s_sort s_size s_items i_number i_odds x_prices x_facts x_laws x_clues) (xt_Ki o (WX o_size o_year o_gone o_minds o_lasts r_size r_token r_place r_at r_open r_made t_size t_rule i_there i_rule i_size i_year i_gone i_minds i_lasts o_parent o_kind o_number o_odds o_above o_kidCount o_lead r_tape r_steps r_ends t_steps t_ends t_stack s_sort s_size s_items i_number i_odds x_prices x_facts x_laws x_clues)) := by
  unfold sp_J0_length_8abf5_p1007 at hm
  refine xt_M.go (own := RJ0) (lv := [some (.ref 1007)]) rfl rfl (Nat.le_of_ble_eq_true rfl) rfl ?_
  refine x_aload0 eJ0_length_8abf5_0 ?_
  refine x_strV (i := 7) (q := 2007) eJ0_length_8abf5_1 xs_J0_9 (Nat.le_of_ble_eq_true rfl) rfl rfl ?_
  refine x_strL (i := 7) (v := 5) eJ0_length_8abf5_4 (Nat.le_of_ble_eq_true rfl) rfl (by decide) ?_
  refine x_aload0 eJ0_length_8abf5_5 ?_
  refine x_Wi0 (i := 7) eJ0_length_8abf5_6 kJ0_coder_7d493 mJ0_335 (Nat.le_of_ble_eq_true rfl) rfl (t_J0_coder_7d493_p1007 rfl) (Nat.le_of_ble_eq_true rfl) ?_
  refine x_ishr eJ0_length_8abf5_9 ?_
  subst hm
  exact x_iret eJ0_length_8abf5_10 ⟨rfl, rfl⟩
set_option maxRecDepth 4000 in
theorem t_J0_isLatin1_aae02_p1007 {o : Int32}  (hm : sp_J0_isLatin1_aae02_p1007 = o) : xt_M yJ0_isLatin1_aae02 cJ0_isLatin1_aae02 1 (some .boolean) (d + 0) [.ref 1007] (WX o_size o_year o_gone o_minds o_lasts r_size r_token r_place r_at r_open r_made t_size t_rule i_there i_rule i_size i_year i_gone i_minds i_lasts o_parent o_kind o_number o_odds o_above o_kidCount o_lead r_tape r_steps r_ends t_steps t_ends t_stack s_sort s_size s_items i_number i_odds x_prices x_facts x_laws x_clues) (xt_Ki o (WX o_size o_year o_gone o_minds o_lasts r_size r_token r_place r_at r_open r_made t_size t_rule i_there i_rule i_size i_year i_gone i_minds i_lasts o_parent o_kind o_number o_odds o_above o_kidCount o_lead r_tape r_steps r_ends t_steps t_ends t_stack s_sort s_size s_items i_number i_odds x_prices x_facts x_laws x_clues)) := by
  unfold sp_J0_isLatin1_aae02_p1007 at hm
  refine xt_M.go (own := RJ0) (lv := [some (.ref 1007)]) rfl rfl (Nat.le_of_ble_eq_true rfl) rfl ?_
  refine x_stZ eJ0_isLatin1_aae02_0 xs_J0_38 ?_
  refine x_if_eq eJ0_isLatin1_aae02_3 (fun c => ?_) (fun c => ?_)
  · rw [if_pos c] at hm
    refine x_k eJ0_isLatin1_aae02_17 ?_
    subst hm
    exact x_zret eJ0_isLatin1_aae02_18 (by decide) ⟨rfl, rfl⟩
  · rw [if_neg c] at hm
    refine x_aload0 eJ0_isLatin1_aae02_6 ?_
    refine x_strC (i := 7) eJ0_isLatin1_aae02_7 xs_J0_15 (Nat.le_of_ble_eq_true rfl) rfl ?_
    refine x_if_ne eJ0_isLatin1_aae02_10 (fun c => ?_) (fun c => ?_)
    · rw [if_neg c] at hm
      refine x_k eJ0_isLatin1_aae02_17 ?_
      subst hm
      exact x_zret eJ0_isLatin1_aae02_18 (by decide) ⟨rfl, rfl⟩
    · rw [if_pos c] at hm
      refine x_k eJ0_isLatin1_aae02_13 ?_
      refine x_goto eJ0_isLatin1_aae02_14 ?_
      subst hm
      exact x_zret eJ0_isLatin1_aae02_18 (by decide) ⟨rfl, rfl⟩
set_option maxRecDepth 4000 in
theorem t_J1_charAt_3b067_p2007 {o : Int32} {p2 : Int32} (hm : sp_J1_charAt_3b067_p2007 p2 = some o) : xt_M yJ1_charAt_3b067 cJ1_charAt_3b067 2 (some .char) (d + 2) [.ref 2007, .int p2] (WX o_size o_year o_gone o_minds o_lasts r_size r_token r_place r_at r_open r_made t_size t_rule i_there i_rule i_size i_year i_gone i_minds i_lasts o_parent o_kind o_number o_odds o_above o_kidCount o_lead r_tape r_steps r_ends t_steps t_ends t_stack s_sort s_size s_items i_number i_odds x_prices x_facts x_laws x_clues) (xt_Ki o (WX o_size o_year o_gone o_minds o_lasts r_size r_token r_place r_at r_open r_made t_size t_rule i_there i_rule i_size i_year i_gone i_minds i_lasts o_parent o_kind o_number o_odds o_above o_kidCount o_lead r_tape r_steps r_ends t_steps t_ends t_stack s_sort s_size s_items i_number i_odds x_prices x_facts x_laws x_clues)) := by
  unfold sp_J1_charAt_3b067_p2007 at hm
  refine xt_M.go (own := RJ1) (lv := [some (.ref 2007), some (.int p2)]) rfl rfl (Nat.le_of_ble_eq_true rfl) rfl ?_
  refine x_iload1 eJ1_charAt_3b067_0 ?_
  refine x_aload0 eJ1_charAt_3b067_1 ?_
  refine x_strL (i := 7) (v := 5) eJ1_charAt_3b067_2 (Nat.le_of_ble_eq_true rfl) rfl (by decide) ?_
  obtain ⟨r1, hr, hm⟩ := xo_bind hm
  refine x_Sv2 eJ1_charAt_3b067_3 kJ0_checkIndex_df160 mJ1_9 (t_J0_checkIndex_df160 hr) (Nat.le_of_ble_eq_true rfl) ?_
  refine x_aload0 eJ1_charAt_3b067_6 ?_
  refine x_iload1 eJ1_charAt_3b067_7 ?_
  obtain ⟨v2, hv, hm⟩ := xo_bind hm
  obtain ⟨hi, rfl⟩ := xo_str_some hv
  refine x_strB (i := 7) eJ1_charAt_3b067_8 (Nat.le_of_ble_eq_true rfl) rfl hi ?_
  refine x_k eJ1_charAt_3b067_9 ?_
  refine x_iand eJ1_charAt_3b067_12 ?_
  refine x_i2c eJ1_charAt_3b067_13 ?_
  obtain rfl := Option.some.inj hm
  exact x_nret eJ1_charAt_3b067_14 (pk_nc _) ⟨rfl, rfl⟩
set_option maxRecDepth 4000 in
theorem t_J0_charAt_5068e_p1007 {o : Int32} {p1 : Int32} (hm : sp_J0_charAt_5068e_p1007 p1 = some o) : xt_M yJ0_charAt_5068e cJ0_charAt_5068e 2 (some .char) (d + 3) [.ref 1007, .int p1] (WX o_size o_year o_gone o_minds o_lasts r_size r_token r_place r_at r_open r_made t_size t_rule i_there i_rule i_size i_year i_gone i_minds i_lasts o_parent o_kind o_number o_odds o_above o_kidCount o_lead r_tape r_steps r_ends t_steps t_ends t_stack s_sort s_size s_items i_number i_odds x_prices x_facts x_laws x_clues) (xt_Ki o (WX o_size o_year o_gone o_minds o_lasts r_size r_token r_place r_at r_open r_made t_size t_rule i_there i_rule i_size i_year i_gone i_minds i_lasts o_parent o_kind o_number o_odds o_above o_kidCount o_lead r_tape r_steps r_ends t_steps t_ends t_stack s_sort s_size s_items i_number i_odds x_prices x_facts x_laws x_clues)) := by
  unfold sp_J0_charAt_5068e_p1007 at hm
  refine xt_M.go (own := RJ0) (lv := [some (.ref 1007), some (.int p1)]) rfl rfl (Nat.le_of_ble_eq_true rfl) rfl ?_
  refine x_aload0 eJ0_charAt_5068e_0 ?_
  refine x_Wi0 (i := 7) eJ0_charAt_5068e_1 kJ0_isLatin1_aae02 mJ0_492 (Nat.le_of_ble_eq_true rfl) rfl (t_J0_isLatin1_aae02_p1007 rfl) (Nat.le_of_ble_eq_true rfl) ?_
  refine x_if_eq eJ0_charAt_5068e_4 (fun c => ?_) (fun c => ?_)
  · rw [if_pos c] at hm
    refine x_aload0 eJ0_charAt_5068e_16 ?_
    refine x_strV (i := 7) (q := 2007) eJ0_charAt_5068e_17 xs_J0_9 (Nat.le_of_ble_eq_true rfl) rfl rfl ?_
    refine x_iload1 eJ0_charAt_5068e_20 ?_
    cases hm
  · rw [if_neg c] at hm
    refine x_aload0 eJ0_charAt_5068e_7 ?_
    refine x_strV (i := 7) (q := 2007) eJ0_charAt_5068e_8 xs_J0_9 (Nat.le_of_ble_eq_true rfl) rfl rfl ?_
    refine x_iload1 eJ0_charAt_5068e_11 ?_
    obtain ⟨r1, hr, hm⟩ := xo_bind hm
    refine x_Si2 eJ0_charAt_5068e_12 kJ1_charAt_3b067 mJ0_495 (t_J1_charAt_3b067_p2007 hr) (Nat.le_of_ble_eq_true rfl) ?_
    obtain ⟨hz, hm⟩ := xo_ifn hm
    obtain rfl := Option.some.inj hm
    exact x_nret eJ0_charAt_5068e_15 (xo_char (Decidable.not_not.mp hz)) ⟨rfl, rfl⟩
set_option maxRecDepth 4000 in
theorem l_X2_spells_p1007_20 {o : Int32} {r_place : Int32} {r_tape : Nat → Int32} : ∀ (n : Nat) {u2 : Int32}, sp_X2_spells_p1007_20 r_place r_tape n u2 = some o → xt_T RX2 cX2_spells 3 (some .boolean) (d + 4) (xt_Ki o (WX o_size o_year o_gone o_minds o_lasts r_size r_token r_place r_at r_open r_made t_size t_rule i_there i_rule i_size i_year i_gone i_minds i_lasts o_parent o_kind o_number o_odds o_above o_kidCount o_lead r_tape r_steps r_ends t_steps t_ends t_stack s_sort s_size s_items i_number i_odds x_prices x_facts x_laws x_clues)) 20 [some (.ref 9), some (.ref 1007), some (.int u2)] [] (WX o_size o_year o_gone o_minds o_lasts r_size r_token r_place r_at r_open r_made t_size t_rule i_there i_rule i_size i_year i_gone i_minds i_lasts o_parent o_kind o_number o_odds o_above o_kidCount o_lead r_tape r_steps r_ends t_steps t_ends t_stack s_sort s_size s_items i_number i_odds x_prices x_facts x_laws x_clues) := by
  intro n
  induction n with
  | zero => intro u2 hm; rw [sp_X2_spells_p1007_20] at hm; cases hm
  | succ n ih =>
    intro u2 hm
    rw [sp_X2_spells_p1007_20] at hm
    refine x_iload2 eX2_spells_20 ?_
    refine x_aload1 eX2_spells_21 ?_
    refine x_Wi0 (i := 7) eX2_spells_22 kJ0_length_8abf5 mX2_128 (Nat.le_of_ble_eq_true rfl) rfl (t_J0_length_8abf5_p1007 rfl) (Nat.le_of_ble_eq_true rfl) ?_
    refine x_icmp_ge eX2_spells_25 (fun c => ?_) (fun c => ?_)
    · rw [if_pos c] at hm
      refine x_k eX2_spells_55 ?_
      obtain rfl := Option.some.inj hm
      exact x_zret eX2_spells_56 (by decide) ⟨rfl, rfl⟩
    · rw [if_neg c] at hm
      refine x_aload0 eX2_spells_28 ?_
      refine x_get eX2_spells_29 fX2_15 rfl rfl ?_
      refine x_aload0 eX2_spells_32 ?_
      refine x_get eX2_spells_33 fX2_22 rfl rfl ?_
      refine x_iload2 eX2_spells_36 ?_
      refine x_iadd eX2_spells_37 ?_
      obtain ⟨v1, hv, hm⟩ := xo_bind hm
      obtain ⟨hi, rfl⟩ := xo_at_some hv
      refine x_iaload eX2_spells_38 rfl hi ?_
      refine x_aload1 eX2_spells_39 ?_
      refine x_iload2 eX2_spells_40 ?_
      obtain ⟨r2, hr, hm⟩ := xo_bind hm
      refine x_Wi1 (i := 7) eX2_spells_41 kJ0_charAt_5068e mX2_133 (Nat.le_of_ble_eq_true rfl) rfl (t_J0_charAt_5068e_p1007 hr) (Nat.le_of_ble_eq_true rfl) ?_
      refine x_icmp_eq eX2_spells_44 (fun c => ?_) (fun c => ?_)
      · rw [if_pos c] at hm
        refine x_iinc2 eX2_spells_49 rfl ?_
        refine x_goto eX2_spells_52 ?_
        exact ih hm
      · rw [if_neg c] at hm
        refine x_k eX2_spells_47 ?_
        obtain rfl := Option.some.inj hm
        exact x_zret eX2_spells_48 (by decide) ⟨rfl, rfl⟩
set_option maxRecDepth 4000 in
theorem t_X2_spells_p1007 {o : Int32}  (hm : sp_X2_spells_p1007 r_place r_at r_tape = some o) : xt_M yX2_spells cX2_spells 3 (some .boolean) (d + 4) [.ref 9, .ref 1007] (WX o_size o_year o_gone o_minds o_lasts r_size r_token r_place r_at r_open r_made t_size t_rule i_there i_rule i_size i_year i_gone i_minds i_lasts o_parent o_kind o_number o_odds o_above o_kidCount o_lead r_tape r_steps r_ends t_steps t_ends t_stack s_sort s_size s_items i_number i_odds x_prices x_facts x_laws x_clues) (xt_Ki o (WX o_size o_year o_gone o_minds o_lasts r_size r_token r_place r_at r_open r_made t_size t_rule i_there i_rule i_size i_year i_gone i_minds i_lasts o_parent o_kind o_number o_odds o_above o_kidCount o_lead r_tape r_steps r_ends t_steps t_ends t_stack s_sort s_size s_items i_number i_odds x_prices x_facts x_laws x_clues)) := by
  unfold sp_X2_spells_p1007 at hm
  refine xt_M.go (own := RX2) (lv := [some (.ref 9), some (.ref 1007), none]) rfl rfl (Nat.le_of_ble_eq_true rfl) rfl ?_
  refine x_aload0 eX2_spells_0 ?_
  refine x_get eX2_spells_1 fX2_25 rfl rfl ?_
  refine x_aload0 eX2_spells_4 ?_
  refine x_get eX2_spells_5 fX2_22 rfl rfl ?_
  refine x_isub eX2_spells_8 ?_
  refine x_aload1 eX2_spells_9 ?_
  refine x_Wi0 (i := 7) eX2_spells_10 kJ0_length_8abf5 mX2_128 (Nat.le_of_ble_eq_true rfl) rfl (t_J0_length_8abf5_p1007 rfl) (Nat.le_of_ble_eq_true rfl) ?_
  refine x_icmp_eq eX2_spells_13 (fun c => ?_) (fun c => ?_)
  · rw [if_pos c] at hm
    refine x_k eX2_spells_18 ?_
    refine x_istore2 eX2_spells_19 rfl ?_
    exact l_X2_spells_p1007_20 _ hm
  · rw [if_neg c] at hm
    refine x_k eX2_spells_16 ?_
    obtain rfl := Option.some.inj hm
    exact x_zret eX2_spells_17 (by decide) ⟨rfl, rfl⟩
set_option maxRecDepth 4000 in
theorem t_J0_coder_7d493_p1008 {o : Int32}  (hm : sp_J0_coder_7d493_p1008 = o) : xt_M yJ0_coder_7d493 cJ0_coder_7d493 1 (some .byte) (d + 0) [.ref 1008] (WX o_size o_year o_gone o_minds o_lasts r_size r_token r_place r_at r_open r_made t_size t_rule i_there i_rule i_size i_year i_gone i_minds i_lasts o_parent o_kind o_number o_odds o_above o_kidCount o_lead r_tape r_steps r_ends t_steps t_ends t_stack s_sort s_size s_items i_number i_odds x_prices x_facts x_laws x_clues) (xt_Ki o (WX o_size o_year o_gone o_minds o_lasts r_size r_token r_place r_at r_open r_made t_size t_rule i_there i_rule i_size i_year i_gone i_minds i_lasts o_parent o_kind o_number o_odds o_above o_kidCount o_lead r_tape r_steps r_ends t_steps t_ends t_stack s_sort s_size s_items i_number i_odds x_prices x_facts x_laws x_clues)) := by
  unfold sp_J0_coder_7d493_p1008 at hm
  refine xt_M.go (own := RJ0) (lv := [some (.ref 1008)]) rfl rfl (Nat.le_of_ble_eq_true rfl) rfl ?_
  refine x_stZ eJ0_coder_7d493_0 xs_J0_38 ?_
  refine x_if_eq eJ0_coder_7d493_3 (fun c => ?_) (fun c => ?_)
  · rw [if_pos c] at hm
    refine x_k eJ0_coder_7d493_13 ?_
    subst hm
    exact x_nret eJ0_coder_7d493_14 rfl ⟨rfl, rfl⟩
  · rw [if_neg c] at hm
    refine x_aload0 eJ0_coder_7d493_6 ?_
    refine x_strC (i := 8) eJ0_coder_7d493_7 xs_J0_15 (Nat.le_of_ble_eq_true rfl) rfl ?_
    refine x_goto eJ0_coder_7d493_10 ?_
    subst hm
    exact x_nret eJ0_coder_7d493_14 rfl ⟨rfl, rfl⟩
set_option maxRecDepth 4000 in
theorem t_J0_length_8abf5_p1008 {o : Int32}  (hm : sp_J0_length_8abf5_p1008 = o) : xt_M yJ0_length_8abf5 cJ0_length_8abf5 1 (some .int) (d + 1) [.ref 1008] (WX o_size o_year o_gone o_minds o_lasts r_size r_token r_place r_at r_open r_made t_size t_rule i_there i_rule i_size i_year i_gone i_minds i_lasts o_parent o_kind o_number o_odds o_above o_kidCount o_lead r_tape r_steps r_ends t_steps t_ends t_stack s_sort s_size s_items i_number i_odds x_prices x_facts x_laws x_clues) (xt_Ki o (WX o_size o_year o_gone o_minds o_lasts r_size r_token r_place r_at r_open r_made t_size t_rule i_there i_rule i_size i_year i_gone i_minds i_lasts o_parent o_kind o_number o_odds o_above o_kidCount o_lead r_tape r_steps r_ends t_steps t_ends t_stack s_sort s_size s_items i_number i_odds x_prices x_facts x_laws x_clues)) := by
  unfold sp_J0_length_8abf5_p1008 at hm
  refine xt_M.go (own := RJ0) (lv := [some (.ref 1008)]) rfl rfl (Nat.le_of_ble_eq_true rfl) rfl ?_
  refine x_aload0 eJ0_length_8abf5_0 ?_
  refine x_strV (i := 8) (q := 2008) eJ0_length_8abf5_1 xs_J0_9 (Nat.le_of_ble_eq_true rfl) rfl rfl ?_
  refine x_strL (i := 8) (v := 5) eJ0_length_8abf5_4 (Nat.le_of_ble_eq_true rfl) rfl (by decide) ?_
  refine x_aload0 eJ0_length_8abf5_5 ?_
  refine x_Wi0 (i := 8) eJ0_length_8abf5_6 kJ0_coder_7d493 mJ0_335 (Nat.le_of_ble_eq_true rfl) rfl (t_J0_coder_7d493_p1008 rfl) (Nat.le_of_ble_eq_true rfl) ?_
  refine x_ishr eJ0_length_8abf5_9 ?_
  subst hm
  exact x_iret eJ0_length_8abf5_10 ⟨rfl, rfl⟩
set_option maxRecDepth 4000 in
theorem t_J0_isLatin1_aae02_p1008 {o : Int32}  (hm : sp_J0_isLatin1_aae02_p1008 = o) : xt_M yJ0_isLatin1_aae02 cJ0_isLatin1_aae02 1 (some .boolean) (d + 0) [.ref 1008] (WX o_size o_year o_gone o_minds o_lasts r_size r_token r_place r_at r_open r_made t_size t_rule i_there i_rule i_size i_year i_gone i_minds i_lasts o_parent o_kind o_number o_odds o_above o_kidCount o_lead r_tape r_steps r_ends t_steps t_ends t_stack s_sort s_size s_items i_number i_odds x_prices x_facts x_laws x_clues) (xt_Ki o (WX o_size o_year o_gone o_minds o_lasts r_size r_token r_place r_at r_open r_made t_size t_rule i_there i_rule i_size i_year i_gone i_minds i_lasts o_parent o_kind o_number o_odds o_above o_kidCount o_lead r_tape r_steps r_ends t_steps t_ends t_stack s_sort s_size s_items i_number i_odds x_prices x_facts x_laws x_clues)) := by
  unfold sp_J0_isLatin1_aae02_p1008 at hm
  refine xt_M.go (own := RJ0) (lv := [some (.ref 1008)]) rfl rfl (Nat.le_of_ble_eq_true rfl) rfl ?_
  refine x_stZ eJ0_isLatin1_aae02_0 xs_J0_38 ?_
  refine x_if_eq eJ0_isLatin1_aae02_3 (fun c => ?_) (fun c => ?_)
  · rw [if_pos c] at hm
    refine x_k eJ0_isLatin1_aae02_17 ?_
    subst hm
    exact x_zret eJ0_isLatin1_aae02_18 (by decide) ⟨rfl, rfl⟩
  · rw [if_neg c] at hm
    refine x_aload0 eJ0_isLatin1_aae02_6 ?_
    refine x_strC (i := 8) eJ0_isLatin1_aae02_7 xs_J0_15 (Nat.le_of_ble_eq_true rfl) rfl ?_
    refine x_if_ne eJ0_isLatin1_aae02_10 (fun c => ?_) (fun c => ?_)
    · rw [if_neg c] at hm
      refine x_k eJ0_isLatin1_aae02_17 ?_
      subst hm
      exact x_zret eJ0_isLatin1_aae02_18 (by decide) ⟨rfl, rfl⟩
    · rw [if_pos c] at hm
      refine x_k eJ0_isLatin1_aae02_13 ?_
      refine x_goto eJ0_isLatin1_aae02_14 ?_
      subst hm
      exact x_zret eJ0_isLatin1_aae02_18 (by decide) ⟨rfl, rfl⟩
set_option maxRecDepth 4000 in
theorem t_J1_charAt_3b067_p2008 {o : Int32} {p2 : Int32} (hm : sp_J1_charAt_3b067_p2008 p2 = some o) : xt_M yJ1_charAt_3b067 cJ1_charAt_3b067 2 (some .char) (d + 2) [.ref 2008, .int p2] (WX o_size o_year o_gone o_minds o_lasts r_size r_token r_place r_at r_open r_made t_size t_rule i_there i_rule i_size i_year i_gone i_minds i_lasts o_parent o_kind o_number o_odds o_above o_kidCount o_lead r_tape r_steps r_ends t_steps t_ends t_stack s_sort s_size s_items i_number i_odds x_prices x_facts x_laws x_clues) (xt_Ki o (WX o_size o_year o_gone o_minds o_lasts r_size r_token r_place r_at r_open r_made t_size t_rule i_there i_rule i_size i_year i_gone i_minds i_lasts o_parent o_kind o_number o_odds o_above o_kidCount o_lead r_tape r_steps r_ends t_steps t_ends t_stack s_sort s_size s_items i_number i_odds x_prices x_facts x_laws x_clues)) := by
  unfold sp_J1_charAt_3b067_p2008 at hm
  refine xt_M.go (own := RJ1) (lv := [some (.ref 2008), some (.int p2)]) rfl rfl (Nat.le_of_ble_eq_true rfl) rfl ?_
  refine x_iload1 eJ1_charAt_3b067_0 ?_
  refine x_aload0 eJ1_charAt_3b067_1 ?_
  refine x_strL (i := 8) (v := 5) eJ1_charAt_3b067_2 (Nat.le_of_ble_eq_true rfl) rfl (by decide) ?_
  obtain ⟨r1, hr, hm⟩ := xo_bind hm
  refine x_Sv2 eJ1_charAt_3b067_3 kJ0_checkIndex_df160 mJ1_9 (t_J0_checkIndex_df160 hr) (Nat.le_of_ble_eq_true rfl) ?_
  refine x_aload0 eJ1_charAt_3b067_6 ?_
  refine x_iload1 eJ1_charAt_3b067_7 ?_
  obtain ⟨v2, hv, hm⟩ := xo_bind hm
  obtain ⟨hi, rfl⟩ := xo_str_some hv
  refine x_strB (i := 8) eJ1_charAt_3b067_8 (Nat.le_of_ble_eq_true rfl) rfl hi ?_
  refine x_k eJ1_charAt_3b067_9 ?_
  refine x_iand eJ1_charAt_3b067_12 ?_
  refine x_i2c eJ1_charAt_3b067_13 ?_
  obtain rfl := Option.some.inj hm
  exact x_nret eJ1_charAt_3b067_14 (pk_nc _) ⟨rfl, rfl⟩
set_option maxRecDepth 4000 in
theorem t_J0_charAt_5068e_p1008 {o : Int32} {p1 : Int32} (hm : sp_J0_charAt_5068e_p1008 p1 = some o) : xt_M yJ0_charAt_5068e cJ0_charAt_5068e 2 (some .char) (d + 3) [.ref 1008, .int p1] (WX o_size o_year o_gone o_minds o_lasts r_size r_token r_place r_at r_open r_made t_size t_rule i_there i_rule i_size i_year i_gone i_minds i_lasts o_parent o_kind o_number o_odds o_above o_kidCount o_lead r_tape r_steps r_ends t_steps t_ends t_stack s_sort s_size s_items i_number i_odds x_prices x_facts x_laws x_clues) (xt_Ki o (WX o_size o_year o_gone o_minds o_lasts r_size r_token r_place r_at r_open r_made t_size t_rule i_there i_rule i_size i_year i_gone i_minds i_lasts o_parent o_kind o_number o_odds o_above o_kidCount o_lead r_tape r_steps r_ends t_steps t_ends t_stack s_sort s_size s_items i_number i_odds x_prices x_facts x_laws x_clues)) := by
  unfold sp_J0_charAt_5068e_p1008 at hm
  refine xt_M.go (own := RJ0) (lv := [some (.ref 1008), some (.int p1)]) rfl rfl (Nat.le_of_ble_eq_true rfl) rfl ?_
  refine x_aload0 eJ0_charAt_5068e_0 ?_
  refine x_Wi0 (i := 8) eJ0_charAt_5068e_1 kJ0_isLatin1_aae02 mJ0_492 (Nat.le_of_ble_eq_true rfl) rfl (t_J0_isLatin1_aae02_p1008 rfl) (Nat.le_of_ble_eq_true rfl) ?_
  refine x_if_eq eJ0_charAt_5068e_4 (fun c => ?_) (fun c => ?_)
  · rw [if_pos c] at hm
    refine x_aload0 eJ0_charAt_5068e_16 ?_
    refine x_strV (i := 8) (q := 2008) eJ0_charAt_5068e_17 xs_J0_9 (Nat.le_of_ble_eq_true rfl) rfl rfl ?_
    refine x_iload1 eJ0_charAt_5068e_20 ?_
    cases hm
  · rw [if_neg c] at hm
    refine x_aload0 eJ0_charAt_5068e_7 ?_
    refine x_strV (i := 8) (q := 2008) eJ0_charAt_5068e_8 xs_J0_9 (Nat.le_of_ble_eq_true rfl) rfl rfl ?_
    refine x_iload1 eJ0_charAt_5068e_11 ?_
    obtain ⟨r1, hr, hm⟩ := xo_bind hm
    refine x_Si2 eJ0_charAt_5068e_12 kJ1_charAt_3b067 mJ0_495 (t_J1_charAt_3b067_p2008 hr) (Nat.le_of_ble_eq_true rfl) ?_
    obtain ⟨hz, hm⟩ := xo_ifn hm
    obtain rfl := Option.some.inj hm
    exact x_nret eJ0_charAt_5068e_15 (xo_char (Decidable.not_not.mp hz)) ⟨rfl, rfl⟩
set_option maxRecDepth 4000 in
theorem l_X2_spells_p1008_20 {o : Int32} {r_place : Int32} {r_tape : Nat → Int32} : ∀ (n : Nat) {u2 : Int32}, sp_X2_spells_p1008_20 r_place r_tape n u2 = some o → xt_T RX2 cX2_spells 3 (some .boolean) (d + 4) (xt_Ki o (WX o_size o_year o_gone o_minds o_lasts r_size r_token r_place r_at r_open r_made t_size t_rule i_there i_rule i_size i_year i_gone i_minds i_lasts o_parent o_kind o_number o_odds o_above o_kidCount o_lead r_tape r_steps r_ends t_steps t_ends t_stack s_sort s_size s_items i_number i_odds x_prices x_facts x_laws x_clues)) 20 [some (.ref 9), some (.ref 1008), some (.int u2)] [] (WX o_size o_year o_gone o_minds o_lasts r_size r_token r_place r_at r_open r_made t_size t_rule i_there i_rule i_size i_year i_gone i_minds i_lasts o_parent o_kind o_number o_odds o_above o_kidCount o_lead r_tape r_steps r_ends t_steps t_ends t_stack s_sort s_size s_items i_number i_odds x_prices x_facts x_laws x_clues) := by
  intro n
  induction n with
  | zero => intro u2 hm; rw [sp_X2_spells_p1008_20] at hm; cases hm
  | succ n ih =>
    intro u2 hm
    rw [sp_X2_spells_p1008_20] at hm
    refine x_iload2 eX2_spells_20 ?_
    refine x_aload1 eX2_spells_21 ?_
    refine x_Wi0 (i := 8) eX2_spells_22 kJ0_length_8abf5 mX2_128 (Nat.le_of_ble_eq_true rfl) rfl (t_J0_length_8abf5_p1008 rfl) (Nat.le_of_ble_eq_true rfl) ?_
    refine x_icmp_ge eX2_spells_25 (fun c => ?_) (fun c => ?_)
    · rw [if_pos c] at hm
      refine x_k eX2_spells_55 ?_
      obtain rfl := Option.some.inj hm
      exact x_zret eX2_spells_56 (by decide) ⟨rfl, rfl⟩
    · rw [if_neg c] at hm
      refine x_aload0 eX2_spells_28 ?_
      refine x_get eX2_spells_29 fX2_15 rfl rfl ?_
      refine x_aload0 eX2_spells_32 ?_
      refine x_get eX2_spells_33 fX2_22 rfl rfl ?_
      refine x_iload2 eX2_spells_36 ?_
      refine x_iadd eX2_spells_37 ?_
      obtain ⟨v1, hv, hm⟩ := xo_bind hm
      obtain ⟨hi, rfl⟩ := xo_at_some hv
      refine x_iaload eX2_spells_38 rfl hi ?_
      refine x_aload1 eX2_spells_39 ?_
      refine x_iload2 eX2_spells_40 ?_
      obtain ⟨r2, hr, hm⟩ := xo_bind hm
      refine x_Wi1 (i := 8) eX2_spells_41 kJ0_charAt_5068e mX2_133 (Nat.le_of_ble_eq_true rfl) rfl (t_J0_charAt_5068e_p1008 hr) (Nat.le_of_ble_eq_true rfl) ?_
      refine x_icmp_eq eX2_spells_44 (fun c => ?_) (fun c => ?_)
      · rw [if_pos c] at hm
        refine x_iinc2 eX2_spells_49 rfl ?_
        refine x_goto eX2_spells_52 ?_
        exact ih hm
      · rw [if_neg c] at hm
        refine x_k eX2_spells_47 ?_
        obtain rfl := Option.some.inj hm
        exact x_zret eX2_spells_48 (by decide) ⟨rfl, rfl⟩
set_option maxRecDepth 4000 in
theorem t_X2_spells_p1008 {o : Int32}  (hm : sp_X2_spells_p1008 r_place r_at r_tape = some o) : xt_M yX2_spells cX2_spells 3 (some .boolean) (d + 4) [.ref 9, .ref 1008] (WX o_size o_year o_gone o_minds o_lasts r_size r_token r_place r_at r_open r_made t_size t_rule i_there i_rule i_size i_year i_gone i_minds i_lasts o_parent o_kind o_number o_odds o_above o_kidCount o_lead r_tape r_steps r_ends t_steps t_ends t_stack s_sort s_size s_items i_number i_odds x_prices x_facts x_laws x_clues) (xt_Ki o (WX o_size o_year o_gone o_minds o_lasts r_size r_token r_place r_at r_open r_made t_size t_rule i_there i_rule i_size i_year i_gone i_minds i_lasts o_parent o_kind o_number o_odds o_above o_kidCount o_lead r_tape r_steps r_ends t_steps t_ends t_stack s_sort s_size s_items i_number i_odds x_prices x_facts x_laws x_clues)) := by
  unfold sp_X2_spells_p1008 at hm
  refine xt_M.go (own := RX2) (lv := [some (.ref 9), some (.ref 1008), none]) rfl rfl (Nat.le_of_ble_eq_true rfl) rfl ?_
  refine x_aload0 eX2_spells_0 ?_
  refine x_get eX2_spells_1 fX2_25 rfl rfl ?_
  refine x_aload0 eX2_spells_4 ?_
  refine x_get eX2_spells_5 fX2_22 rfl rfl ?_
  refine x_isub eX2_spells_8 ?_
  refine x_aload1 eX2_spells_9 ?_
  refine x_Wi0 (i := 8) eX2_spells_10 kJ0_length_8abf5 mX2_128 (Nat.le_of_ble_eq_true rfl) rfl (t_J0_length_8abf5_p1008 rfl) (Nat.le_of_ble_eq_true rfl) ?_
  refine x_icmp_eq eX2_spells_13 (fun c => ?_) (fun c => ?_)
  · rw [if_pos c] at hm
    refine x_k eX2_spells_18 ?_
    refine x_istore2 eX2_spells_19 rfl ?_
    exact l_X2_spells_p1008_20 _ hm
  · rw [if_neg c] at hm
    refine x_k eX2_spells_16 ?_
    obtain rfl := Option.some.inj hm
    exact x_zret eX2_spells_17 (by decide) ⟨rfl, rfl⟩
set_option maxRecDepth 4000 in
theorem t_J0_coder_7d493_p1009 {o : Int32}  (hm : sp_J0_coder_7d493_p1009 = o) : xt_M yJ0_coder_7d493 cJ0_coder_7d493 1 (some .byte) (d + 0) [.ref 1009] (WX o_size o_year o_gone o_minds o_lasts r_size r_token r_place r_at r_open r_made t_size t_rule i_there i_rule i_size i_year i_gone i_minds i_lasts o_parent o_kind o_number o_odds o_above o_kidCount o_lead r_tape r_steps r_ends t_steps t_ends t_stack s_sort s_size s_items i_number i_odds x_prices x_facts x_laws x_clues) (xt_Ki o (WX o_size o_year o_gone o_minds o_lasts r_size r_token r_place r_at r_open r_made t_size t_rule i_there i_rule i_size i_year i_gone i_minds i_lasts o_parent o_kind o_number o_odds o_above o_kidCount o_lead r_tape r_steps r_ends t_steps t_ends t_stack s_sort s_size s_items i_number i_odds x_prices x_facts x_laws x_clues)) := by
  unfold sp_J0_coder_7d493_p1009 at hm
  refine xt_M.go (own := RJ0) (lv := [some (.ref 1009)]) rfl rfl (Nat.le_of_ble_eq_true rfl) rfl ?_
  refine x_stZ eJ0_coder_7d493_0 xs_J0_38 ?_
  refine x_if_eq eJ0_coder_7d493_3 (fun c => ?_) (fun c => ?_)
  · rw [if_pos c] at hm
    refine x_k eJ0_coder_7d493_13 ?_
    subst hm
    exact x_nret eJ0_coder_7d493_14 rfl ⟨rfl, rfl⟩
  · rw [if_neg c] at hm
    refine x_aload0 eJ0_coder_7d493_6 ?_
    refine x_strC (i := 9) eJ0_coder_7d493_7 xs_J0_15 (Nat.le_of_ble_eq_true rfl) rfl ?_
    refine x_goto eJ0_coder_7d493_10 ?_
    subst hm
    exact x_nret eJ0_coder_7d493_14 rfl ⟨rfl, rfl⟩
set_option maxRecDepth 4000 in
theorem t_J0_length_8abf5_p1009 {o : Int32}  (hm : sp_J0_length_8abf5_p1009 = o) : xt_M yJ0_length_8abf5 cJ0_length_8abf5 1 (some .int) (d + 1) [.ref 1009] (WX o_size o_year o_gone o_minds o_lasts r_size r_token r_place r_at r_open r_made t_size t_rule i_there i_rule i_size i_year i_gone i_minds i_lasts o_parent o_kind o_number o_odds o_above o_kidCount o_lead r_tape r_steps r_ends t_steps t_ends t_stack s_sort s_size s_items i_number i_odds x_prices x_facts x_laws x_clues) (xt_Ki o (WX o_size o_year o_gone o_minds o_lasts r_size r_token r_place r_at r_open r_made t_size t_rule i_there i_rule i_size i_year i_gone i_minds i_lasts o_parent o_kind o_number o_odds o_above o_kidCount o_lead r_tape r_steps r_ends t_steps t_ends t_stack s_sort s_size s_items i_number i_odds x_prices x_facts x_laws x_clues)) := by
  unfold sp_J0_length_8abf5_p1009 at hm
  refine xt_M.go (own := RJ0) (lv := [some (.ref 1009)]) rfl rfl (Nat.le_of_ble_eq_true rfl) rfl ?_
  refine x_aload0 eJ0_length_8abf5_0 ?_
  refine x_strV (i := 9) (q := 2009) eJ0_length_8abf5_1 xs_J0_9 (Nat.le_of_ble_eq_true rfl) rfl rfl ?_
  refine x_strL (i := 9) (v := 2) eJ0_length_8abf5_4 (Nat.le_of_ble_eq_true rfl) rfl (by decide) ?_
  refine x_aload0 eJ0_length_8abf5_5 ?_
  refine x_Wi0 (i := 9) eJ0_length_8abf5_6 kJ0_coder_7d493 mJ0_335 (Nat.le_of_ble_eq_true rfl) rfl (t_J0_coder_7d493_p1009 rfl) (Nat.le_of_ble_eq_true rfl) ?_
  refine x_ishr eJ0_length_8abf5_9 ?_
  subst hm
  exact x_iret eJ0_length_8abf5_10 ⟨rfl, rfl⟩
set_option maxRecDepth 4000 in
theorem t_J0_isLatin1_aae02_p1009 {o : Int32}  (hm : sp_J0_isLatin1_aae02_p1009 = o) : xt_M yJ0_isLatin1_aae02 cJ0_isLatin1_aae02 1 (some .boolean) (d + 0) [.ref 1009] (WX o_size o_year o_gone o_minds o_lasts r_size r_token r_place r_at r_open r_made t_size t_rule i_there i_rule i_size i_year i_gone i_minds i_lasts o_parent o_kind o_number o_odds o_above o_kidCount o_lead r_tape r_steps r_ends t_steps t_ends t_stack s_sort s_size s_items i_number i_odds x_prices x_facts x_laws x_clues) (xt_Ki o (WX o_size o_year o_gone o_minds o_lasts r_size r_token r_place r_at r_open r_made t_size t_rule i_there i_rule i_size i_year i_gone i_minds i_lasts o_parent o_kind o_number o_odds o_above o_kidCount o_lead r_tape r_steps r_ends t_steps t_ends t_stack s_sort s_size s_items i_number i_odds x_prices x_facts x_laws x_clues)) := by
  unfold sp_J0_isLatin1_aae02_p1009 at hm
  refine xt_M.go (own := RJ0) (lv := [some (.ref 1009)]) rfl rfl (Nat.le_of_ble_eq_true rfl) rfl ?_
  refine x_stZ eJ0_isLatin1_aae02_0 xs_J0_38 ?_
  refine x_if_eq eJ0_isLatin1_aae02_3 (fun c => ?_) (fun c => ?_)
  · rw [if_pos c] at hm
    refine x_k eJ0_isLatin1_aae02_17 ?_
    subst hm
    exact x_zret eJ0_isLatin1_aae02_18 (by decide) ⟨rfl, rfl⟩
  · rw [if_neg c] at hm
    refine x_aload0 eJ0_isLatin1_aae02_6 ?_
    refine x_strC (i := 9) eJ0_isLatin1_aae02_7 xs_J0_15 (Nat.le_of_ble_eq_true rfl) rfl ?_
    refine x_if_ne eJ0_isLatin1_aae02_10 (fun c => ?_) (fun c => ?_)
    · rw [if_neg c] at hm
      refine x_k eJ0_isLatin1_aae02_17 ?_
      subst hm
      exact x_zret eJ0_isLatin1_aae02_18 (by decide) ⟨rfl, rfl⟩
    · rw [if_pos c] at hm
      refine x_k eJ0_isLatin1_aae02_13 ?_
      refine x_goto eJ0_isLatin1_aae02_14 ?_
      subst hm
      exact x_zret eJ0_isLatin1_aae02_18 (by decide) ⟨rfl, rfl⟩
set_option maxRecDepth 4000 in
theorem t_J1_charAt_3b067_p2009 {o : Int32} {p2 : Int32} (hm : sp_J1_charAt_3b067_p2009 p2 = some o) : xt_M yJ1_charAt_3b067 cJ1_charAt_3b067 2 (some .char) (d + 2) [.ref 2009, .int p2] (WX o_size o_year o_gone o_minds o_lasts r_size r_token r_place r_at r_open r_made t_size t_rule i_there i_rule i_size i_year i_gone i_minds i_lasts o_parent o_kind o_number o_odds o_above o_kidCount o_lead r_tape r_steps r_ends t_steps t_ends t_stack s_sort s_size s_items i_number i_odds x_prices x_facts x_laws x_clues) (xt_Ki o (WX o_size o_year o_gone o_minds o_lasts r_size r_token r_place r_at r_open r_made t_size t_rule i_there i_rule i_size i_year i_gone i_minds i_lasts o_parent o_kind o_number o_odds o_above o_kidCount o_lead r_tape r_steps r_ends t_steps t_ends t_stack s_sort s_size s_items i_number i_odds x_prices x_facts x_laws x_clues)) := by
  unfold sp_J1_charAt_3b067_p2009 at hm
  refine xt_M.go (own := RJ1) (lv := [some (.ref 2009), some (.int p2)]) rfl rfl (Nat.le_of_ble_eq_true rfl) rfl ?_
  refine x_iload1 eJ1_charAt_3b067_0 ?_
  refine x_aload0 eJ1_charAt_3b067_1 ?_
  refine x_strL (i := 9) (v := 2) eJ1_charAt_3b067_2 (Nat.le_of_ble_eq_true rfl) rfl (by decide) ?_
  obtain ⟨r1, hr, hm⟩ := xo_bind hm
  refine x_Sv2 eJ1_charAt_3b067_3 kJ0_checkIndex_df160 mJ1_9 (t_J0_checkIndex_df160 hr) (Nat.le_of_ble_eq_true rfl) ?_
  refine x_aload0 eJ1_charAt_3b067_6 ?_
  refine x_iload1 eJ1_charAt_3b067_7 ?_
  obtain ⟨v2, hv, hm⟩ := xo_bind hm
  obtain ⟨hi, rfl⟩ := xo_str_some hv
  refine x_strB (i := 9) eJ1_charAt_3b067_8 (Nat.le_of_ble_eq_true rfl) rfl hi ?_
  refine x_k eJ1_charAt_3b067_9 ?_
  refine x_iand eJ1_charAt_3b067_12 ?_
  refine x_i2c eJ1_charAt_3b067_13 ?_
  obtain rfl := Option.some.inj hm
  exact x_nret eJ1_charAt_3b067_14 (pk_nc _) ⟨rfl, rfl⟩
set_option maxRecDepth 4000 in
theorem t_J0_charAt_5068e_p1009 {o : Int32} {p1 : Int32} (hm : sp_J0_charAt_5068e_p1009 p1 = some o) : xt_M yJ0_charAt_5068e cJ0_charAt_5068e 2 (some .char) (d + 3) [.ref 1009, .int p1] (WX o_size o_year o_gone o_minds o_lasts r_size r_token r_place r_at r_open r_made t_size t_rule i_there i_rule i_size i_year i_gone i_minds i_lasts o_parent o_kind o_number o_odds o_above o_kidCount o_lead r_tape r_steps r_ends t_steps t_ends t_stack s_sort s_size s_items i_number i_odds x_prices x_facts x_laws x_clues) (xt_Ki o (WX o_size o_year o_gone o_minds o_lasts r_size r_token r_place r_at r_open r_made t_size t_rule i_there i_rule i_size i_year i_gone i_minds i_lasts o_parent o_kind o_number o_odds o_above o_kidCount o_lead r_tape r_steps r_ends t_steps t_ends t_stack s_sort s_size s_items i_number i_odds x_prices x_facts x_laws x_clues)) := by
  unfold sp_J0_charAt_5068e_p1009 at hm
  refine xt_M.go (own := RJ0) (lv := [some (.ref 1009), some (.int p1)]) rfl rfl (Nat.le_of_ble_eq_true rfl) rfl ?_
  refine x_aload0 eJ0_charAt_5068e_0 ?_
  refine x_Wi0 (i := 9) eJ0_charAt_5068e_1 kJ0_isLatin1_aae02 mJ0_492 (Nat.le_of_ble_eq_true rfl) rfl (t_J0_isLatin1_aae02_p1009 rfl) (Nat.le_of_ble_eq_true rfl) ?_
  refine x_if_eq eJ0_charAt_5068e_4 (fun c => ?_) (fun c => ?_)
  · rw [if_pos c] at hm
    refine x_aload0 eJ0_charAt_5068e_16 ?_
    refine x_strV (i := 9) (q := 2009) eJ0_charAt_5068e_17 xs_J0_9 (Nat.le_of_ble_eq_true rfl) rfl rfl ?_
    refine x_iload1 eJ0_charAt_5068e_20 ?_
    cases hm
  · rw [if_neg c] at hm
    refine x_aload0 eJ0_charAt_5068e_7 ?_
    refine x_strV (i := 9) (q := 2009) eJ0_charAt_5068e_8 xs_J0_9 (Nat.le_of_ble_eq_true rfl) rfl rfl ?_
    refine x_iload1 eJ0_charAt_5068e_11 ?_
    obtain ⟨r1, hr, hm⟩ := xo_bind hm
    refine x_Si2 eJ0_charAt_5068e_12 kJ1_charAt_3b067 mJ0_495 (t_J1_charAt_3b067_p2009 hr) (Nat.le_of_ble_eq_true rfl) ?_
    obtain ⟨hz, hm⟩ := xo_ifn hm
    obtain rfl := Option.some.inj hm
    exact x_nret eJ0_charAt_5068e_15 (xo_char (Decidable.not_not.mp hz)) ⟨rfl, rfl⟩
set_option maxRecDepth 4000 in
theorem l_X2_spells_p1009_20 {o : Int32} {r_place : Int32} {r_tape : Nat → Int32} : ∀ (n : Nat) {u2 : Int32}, sp_X2_spells_p1009_20 r_place r_tape n u2 = some o → xt_T RX2 cX2_spells 3 (some .boolean) (d + 4) (xt_Ki o (WX o_size o_year o_gone o_minds o_lasts r_size r_token r_place r_at r_open r_made t_size t_rule i_there i_rule i_size i_year i_gone i_minds i_lasts o_parent o_kind o_number o_odds o_above o_kidCount o_lead r_tape r_steps r_ends t_steps t_ends t_stack s_sort s_size s_items i_number i_odds x_prices x_facts x_laws x_clues)) 20 [some (.ref 9), some (.ref 1009), some (.int u2)] [] (WX o_size o_year o_gone o_minds o_lasts r_size r_token r_place r_at r_open r_made t_size t_rule i_there i_rule i_size i_year i_gone i_minds i_lasts o_parent o_kind o_number o_odds o_above o_kidCount o_lead r_tape r_steps r_ends t_steps t_ends t_stack s_sort s_size s_items i_number i_odds x_prices x_facts x_laws x_clues) := by
  intro n
  induction n with
  | zero => intro u2 hm; rw [sp_X2_spells_p1009_20] at hm; cases hm
  | succ n ih =>
    intro u2 hm
    rw [sp_X2_spells_p1009_20] at hm
    refine x_iload2 eX2_spells_20 ?_
    refine x_aload1 eX2_spells_21 ?_
    refine x_Wi0 (i := 9) eX2_spells_22 kJ0_length_8abf5 mX2_128 (Nat.le_of_ble_eq_true rfl) rfl (t_J0_length_8abf5_p1009 rfl) (Nat.le_of_ble_eq_true rfl) ?_
    refine x_icmp_ge eX2_spells_25 (fun c => ?_) (fun c => ?_)
    · rw [if_pos c] at hm
      refine x_k eX2_spells_55 ?_
      obtain rfl := Option.some.inj hm
      exact x_zret eX2_spells_56 (by decide) ⟨rfl, rfl⟩
    · rw [if_neg c] at hm
      refine x_aload0 eX2_spells_28 ?_
      refine x_get eX2_spells_29 fX2_15 rfl rfl ?_
      refine x_aload0 eX2_spells_32 ?_
      refine x_get eX2_spells_33 fX2_22 rfl rfl ?_
      refine x_iload2 eX2_spells_36 ?_
      refine x_iadd eX2_spells_37 ?_
      obtain ⟨v1, hv, hm⟩ := xo_bind hm
      obtain ⟨hi, rfl⟩ := xo_at_some hv
      refine x_iaload eX2_spells_38 rfl hi ?_
      refine x_aload1 eX2_spells_39 ?_
      refine x_iload2 eX2_spells_40 ?_
      obtain ⟨r2, hr, hm⟩ := xo_bind hm
      refine x_Wi1 (i := 9) eX2_spells_41 kJ0_charAt_5068e mX2_133 (Nat.le_of_ble_eq_true rfl) rfl (t_J0_charAt_5068e_p1009 hr) (Nat.le_of_ble_eq_true rfl) ?_
      refine x_icmp_eq eX2_spells_44 (fun c => ?_) (fun c => ?_)
      · rw [if_pos c] at hm
        refine x_iinc2 eX2_spells_49 rfl ?_
        refine x_goto eX2_spells_52 ?_
        exact ih hm
      · rw [if_neg c] at hm
        refine x_k eX2_spells_47 ?_
        obtain rfl := Option.some.inj hm
        exact x_zret eX2_spells_48 (by decide) ⟨rfl, rfl⟩
set_option maxRecDepth 4000 in
theorem t_X2_spells_p1009 {o : Int32}  (hm : sp_X2_spells_p1009 r_place r_at r_tape = some o) : xt_M yX2_spells cX2_spells 3 (some .boolean) (d + 4) [.ref 9, .ref 1009] (WX o_size o_year o_gone o_minds o_lasts r_size r_token r_place r_at r_open r_made t_size t_rule i_there i_rule i_size i_year i_gone i_minds i_lasts o_parent o_kind o_number o_odds o_above o_kidCount o_lead r_tape r_steps r_ends t_steps t_ends t_stack s_sort s_size s_items i_number i_odds x_prices x_facts x_laws x_clues) (xt_Ki o (WX o_size o_year o_gone o_minds o_lasts r_size r_token r_place r_at r_open r_made t_size t_rule i_there i_rule i_size i_year i_gone i_minds i_lasts o_parent o_kind o_number o_odds o_above o_kidCount o_lead r_tape r_steps r_ends t_steps t_ends t_stack s_sort s_size s_items i_number i_odds x_prices x_facts x_laws x_clues)) := by
  unfold sp_X2_spells_p1009 at hm
  refine xt_M.go (own := RX2) (lv := [some (.ref 9), some (.ref 1009), none]) rfl rfl (Nat.le_of_ble_eq_true rfl) rfl ?_
  refine x_aload0 eX2_spells_0 ?_
  refine x_get eX2_spells_1 fX2_25 rfl rfl ?_
  refine x_aload0 eX2_spells_4 ?_
  refine x_get eX2_spells_5 fX2_22 rfl rfl ?_
  refine x_isub eX2_spells_8 ?_
  refine x_aload1 eX2_spells_9 ?_
  refine x_Wi0 (i := 9) eX2_spells_10 kJ0_length_8abf5 mX2_128 (Nat.le_of_ble_eq_true rfl) rfl (t_J0_length_8abf5_p1009 rfl) (Nat.le_of_ble_eq_true rfl) ?_
  refine x_icmp_eq eX2_spells_13 (fun c => ?_) (fun c => ?_)
  · rw [if_pos c] at hm
    refine x_k eX2_spells_18 ?_
    refine x_istore2 eX2_spells_19 rfl ?_
    exact l_X2_spells_p1009_20 _ hm
  · rw [if_neg c] at hm
    refine x_k eX2_spells_16 ?_
    obtain rfl := Option.some.inj hm
    exact x_zret eX2_spells_17 (by decide) ⟨rfl, rfl⟩
set_option maxRecDepth 4000 in
theorem t_J0_coder_7d493_p1010 {o : Int32}  (hm : sp_J0_coder_7d493_p1010 = o) : xt_M yJ0_coder_7d493 cJ0_coder_7d493 1 (some .byte) (d + 0) [.ref 1010] (WX o_size o_year o_gone o_minds o_lasts r_size r_token r_place r_at r_open r_made t_size t_rule i_there i_rule i_size i_year i_gone i_minds i_lasts o_parent o_kind o_number o_odds o_above o_kidCount o_lead r_tape r_steps r_ends t_steps t_ends t_stack s_sort s_size s_items i_number i_odds x_prices x_facts x_laws x_clues) (xt_Ki o (WX o_size o_year o_gone o_minds o_lasts r_size r_token r_place r_at r_open r_made t_size t_rule i_there i_rule i_size i_year i_gone i_minds i_lasts o_parent o_kind o_number o_odds o_above o_kidCount o_lead r_tape r_steps r_ends t_steps t_ends t_stack s_sort s_size s_items i_number i_odds x_prices x_facts x_laws x_clues)) := by
  unfold sp_J0_coder_7d493_p1010 at hm
  refine xt_M.go (own := RJ0) (lv := [some (.ref 1010)]) rfl rfl (Nat.le_of_ble_eq_true rfl) rfl ?_
  refine x_stZ eJ0_coder_7d493_0 xs_J0_38 ?_
  refine x_if_eq eJ0_coder_7d493_3 (fun c => ?_) (fun c => ?_)
  · rw [if_pos c] at hm
    refine x_k eJ0_coder_7d493_13 ?_
    subst hm
    exact x_nret eJ0_coder_7d493_14 rfl ⟨rfl, rfl⟩
  · rw [if_neg c] at hm
    refine x_aload0 eJ0_coder_7d493_6 ?_
    refine x_strC (i := 10) eJ0_coder_7d493_7 xs_J0_15 (Nat.le_of_ble_eq_true rfl) rfl ?_
    refine x_goto eJ0_coder_7d493_10 ?_
    subst hm
    exact x_nret eJ0_coder_7d493_14 rfl ⟨rfl, rfl⟩
set_option maxRecDepth 4000 in
theorem t_J0_length_8abf5_p1010 {o : Int32}  (hm : sp_J0_length_8abf5_p1010 = o) : xt_M yJ0_length_8abf5 cJ0_length_8abf5 1 (some .int) (d + 1) [.ref 1010] (WX o_size o_year o_gone o_minds o_lasts r_size r_token r_place r_at r_open r_made t_size t_rule i_there i_rule i_size i_year i_gone i_minds i_lasts o_parent o_kind o_number o_odds o_above o_kidCount o_lead r_tape r_steps r_ends t_steps t_ends t_stack s_sort s_size s_items i_number i_odds x_prices x_facts x_laws x_clues) (xt_Ki o (WX o_size o_year o_gone o_minds o_lasts r_size r_token r_place r_at r_open r_made t_size t_rule i_there i_rule i_size i_year i_gone i_minds i_lasts o_parent o_kind o_number o_odds o_above o_kidCount o_lead r_tape r_steps r_ends t_steps t_ends t_stack s_sort s_size s_items i_number i_odds x_prices x_facts x_laws x_clues)) := by
  unfold sp_J0_length_8abf5_p1010 at hm
  refine xt_M.go (own := RJ0) (lv := [some (.ref 1010)]) rfl rfl (Nat.le_of_ble_eq_true rfl) rfl ?_
  refine x_aload0 eJ0_length_8abf5_0 ?_
  refine x_strV (i := 10) (q := 2010) eJ0_length_8abf5_1 xs_J0_9 (Nat.le_of_ble_eq_true rfl) rfl rfl ?_
  refine x_strL (i := 10) (v := 3) eJ0_length_8abf5_4 (Nat.le_of_ble_eq_true rfl) rfl (by decide) ?_
  refine x_aload0 eJ0_length_8abf5_5 ?_
  refine x_Wi0 (i := 10) eJ0_length_8abf5_6 kJ0_coder_7d493 mJ0_335 (Nat.le_of_ble_eq_true rfl) rfl (t_J0_coder_7d493_p1010 rfl) (Nat.le_of_ble_eq_true rfl) ?_
  refine x_ishr eJ0_length_8abf5_9 ?_
  subst hm
  exact x_iret eJ0_length_8abf5_10 ⟨rfl, rfl⟩
set_option maxRecDepth 4000 in
theorem t_J0_isLatin1_aae02_p1010 {o : Int32}  (hm : sp_J0_isLatin1_aae02_p1010 = o) : xt_M yJ0_isLatin1_aae02 cJ0_isLatin1_aae02 1 (some .boolean) (d + 0) [.ref 1010] (WX o_size o_year o_gone o_minds o_lasts r_size r_token r_place r_at r_open r_made t_size t_rule i_there i_rule i_size i_year i_gone i_minds i_lasts o_parent o_kind o_number o_odds o_above o_kidCount o_lead r_tape r_steps r_ends t_steps t_ends t_stack s_sort s_size s_items i_number i_odds x_prices x_facts x_laws x_clues) (xt_Ki o (WX o_size o_year o_gone o_minds o_lasts r_size r_token r_place r_at r_open r_made t_size t_rule i_there i_rule i_size i_year i_gone i_minds i_lasts o_parent o_kind o_number o_odds o_above o_kidCount o_lead r_tape r_steps r_ends t_steps t_ends t_stack s_sort s_size s_items i_number i_odds x_prices x_facts x_laws x_clues)) := by
  unfold sp_J0_isLatin1_aae02_p1010 at hm
  refine xt_M.go (own := RJ0) (lv := [some (.ref 1010)]) rfl rfl (Nat.le_of_ble_eq_true rfl) rfl ?_
  refine x_stZ eJ0_isLatin1_aae02_0 xs_J0_38 ?_
  refine x_if_eq eJ0_isLatin1_aae02_3 (fun c => ?_) (fun c => ?_)
  · rw [if_pos c] at hm
    refine x_k eJ0_isLatin1_aae02_17 ?_
    subst hm
    exact x_zret eJ0_isLatin1_aae02_18 (by decide) ⟨rfl, rfl⟩
  · rw [if_neg c] at hm
    refine x_aload0 eJ0_isLatin1_aae02_6 ?_
    refine x_strC (i := 10) eJ0_isLatin1_aae02_7 xs_J0_15 (Nat.le_of_ble_eq_true rfl) rfl ?_
    refine x_if_ne eJ0_isLatin1_aae02_10 (fun c => ?_) (fun c => ?_)
    · rw [if_neg c] at hm
      refine x_k eJ0_isLatin1_aae02_17 ?_
      subst hm
      exact x_zret eJ0_isLatin1_aae02_18 (by decide) ⟨rfl, rfl⟩
    · rw [if_pos c] at hm
      refine x_k eJ0_isLatin1_aae02_13 ?_
      refine x_goto eJ0_isLatin1_aae02_14 ?_
      subst hm
      exact x_zret eJ0_isLatin1_aae02_18 (by decide) ⟨rfl, rfl⟩
set_option maxRecDepth 4000 in
theorem t_J1_charAt_3b067_p2010 {o : Int32} {p2 : Int32} (hm : sp_J1_charAt_3b067_p2010 p2 = some o) : xt_M yJ1_charAt_3b067 cJ1_charAt_3b067 2 (some .char) (d + 2) [.ref 2010, .int p2] (WX o_size o_year o_gone o_minds o_lasts r_size r_token r_place r_at r_open r_made t_size t_rule i_there i_rule i_size i_year i_gone i_minds i_lasts o_parent o_kind o_number o_odds o_above o_kidCount o_lead r_tape r_steps r_ends t_steps t_ends t_stack s_sort s_size s_items i_number i_odds x_prices x_facts x_laws x_clues) (xt_Ki o (WX o_size o_year o_gone o_minds o_lasts r_size r_token r_place r_at r_open r_made t_size t_rule i_there i_rule i_size i_year i_gone i_minds i_lasts o_parent o_kind o_number o_odds o_above o_kidCount o_lead r_tape r_steps r_ends t_steps t_ends t_stack s_sort s_size s_items i_number i_odds x_prices x_facts x_laws x_clues)) := by
  unfold sp_J1_charAt_3b067_p2010 at hm
  refine xt_M.go (own := RJ1) (lv := [some (.ref 2010), some (.int p2)]) rfl rfl (Nat.le_of_ble_eq_true rfl) rfl ?_
  refine x_iload1 eJ1_charAt_3b067_0 ?_
  refine x_aload0 eJ1_charAt_3b067_1 ?_
  refine x_strL (i := 10) (v := 3) eJ1_charAt_3b067_2 (Nat.le_of_ble_eq_true rfl) rfl (by decide) ?_
  obtain ⟨r1, hr, hm⟩ := xo_bind hm
  refine x_Sv2 eJ1_charAt_3b067_3 kJ0_checkIndex_df160 mJ1_9 (t_J0_checkIndex_df160 hr) (Nat.le_of_ble_eq_true rfl) ?_
  refine x_aload0 eJ1_charAt_3b067_6 ?_
  refine x_iload1 eJ1_charAt_3b067_7 ?_
  obtain ⟨v2, hv, hm⟩ := xo_bind hm
  obtain ⟨hi, rfl⟩ := xo_str_some hv
  refine x_strB (i := 10) eJ1_charAt_3b067_8 (Nat.le_of_ble_eq_true rfl) rfl hi ?_
  refine x_k eJ1_charAt_3b067_9 ?_
  refine x_iand eJ1_charAt_3b067_12 ?_
  refine x_i2c eJ1_charAt_3b067_13 ?_
  obtain rfl := Option.some.inj hm
  exact x_nret eJ1_charAt_3b067_14 (pk_nc _) ⟨rfl, rfl⟩
set_option maxRecDepth 4000 in
theorem t_J0_charAt_5068e_p1010 {o : Int32} {p1 : Int32} (hm : sp_J0_charAt_5068e_p1010 p1 = some o) : xt_M yJ0_charAt_5068e cJ0_charAt_5068e 2 (some .char) (d + 3) [.ref 1010, .int p1] (WX o_size o_year o_gone o_minds o_lasts r_size r_token r_place r_at r_open r_made t_size t_rule i_there i_rule i_size i_year i_gone i_minds i_lasts o_parent o_kind o_number o_odds o_above o_kidCount o_lead r_tape r_steps r_ends t_steps t_ends t_stack s_sort s_size s_items i_number i_odds x_prices x_facts x_laws x_clues) (xt_Ki o (WX o_size o_year o_gone o_minds o_lasts r_size r_token r_place r_at r_open r_made t_size t_rule i_there i_rule i_size i_year i_gone i_minds i_lasts o_parent o_kind o_number o_odds o_above o_kidCount o_lead r_tape r_steps r_ends t_steps t_ends t_stack s_sort s_size s_items i_number i_odds x_prices x_facts x_laws x_clues)) := by
  unfold sp_J0_charAt_5068e_p1010 at hm
  refine xt_M.go (own := RJ0) (lv := [some (.ref 1010), some (.int p1)]) rfl rfl (Nat.le_of_ble_eq_true rfl) rfl ?_
  refine x_aload0 eJ0_charAt_5068e_0 ?_
  refine x_Wi0 (i := 10) eJ0_charAt_5068e_1 kJ0_isLatin1_aae02 mJ0_492 (Nat.le_of_ble_eq_true rfl) rfl (t_J0_isLatin1_aae02_p1010 rfl) (Nat.le_of_ble_eq_true rfl) ?_
  refine x_if_eq eJ0_charAt_5068e_4 (fun c => ?_) (fun c => ?_)
  · rw [if_pos c] at hm
    refine x_aload0 eJ0_charAt_5068e_16 ?_
    refine x_strV (i := 10) (q := 2010) eJ0_charAt_5068e_17 xs_J0_9 (Nat.le_of_ble_eq_true rfl) rfl rfl ?_
    refine x_iload1 eJ0_charAt_5068e_20 ?_
    cases hm
  · rw [if_neg c] at hm
    refine x_aload0 eJ0_charAt_5068e_7 ?_
    refine x_strV (i := 10) (q := 2010) eJ0_charAt_5068e_8 xs_J0_9 (Nat.le_of_ble_eq_true rfl) rfl rfl ?_
    refine x_iload1 eJ0_charAt_5068e_11 ?_
    obtain ⟨r1, hr, hm⟩ := xo_bind hm
    refine x_Si2 eJ0_charAt_5068e_12 kJ1_charAt_3b067 mJ0_495 (t_J1_charAt_3b067_p2010 hr) (Nat.le_of_ble_eq_true rfl) ?_
    obtain ⟨hz, hm⟩ := xo_ifn hm
    obtain rfl := Option.some.inj hm
    exact x_nret eJ0_charAt_5068e_15 (xo_char (Decidable.not_not.mp hz)) ⟨rfl, rfl⟩
set_option maxRecDepth 4000 in
theorem l_X2_spells_p1010_20 {o : Int32} {r_place : Int32} {r_tape : Nat → Int32} : ∀ (n : Nat) {u2 : Int32}, sp_X2_spells_p1010_20 r_place r_tape n u2 = some o → xt_T RX2 cX2_spells 3 (some .boolean) (d + 4) (xt_Ki o (WX o_size o_year o_gone o_minds o_lasts r_size r_token r_place r_at r_open r_made t_size t_rule i_there i_rule i_size i_year i_gone i_minds i_lasts o_parent o_kind o_number o_odds o_above o_kidCount o_lead r_tape r_steps r_ends t_steps t_ends t_stack s_sort s_size s_items i_number i_odds x_prices x_facts x_laws x_clues)) 20 [some (.ref 9), some (.ref 1010), some (.int u2)] [] (WX o_size o_year o_gone o_minds o_lasts r_size r_token r_place r_at r_open r_made t_size t_rule i_there i_rule i_size i_year i_gone i_minds i_lasts o_parent o_kind o_number o_odds o_above o_kidCount o_lead r_tape r_steps r_ends t_steps t_ends t_stack s_sort s_size s_items i_number i_odds x_prices x_facts x_laws x_clues) := by
  intro n
  induction n with
  | zero => intro u2 hm; rw [sp_X2_spells_p1010_20] at hm; cases hm
  | succ n ih =>
    intro u2 hm
    rw [sp_X2_spells_p1010_20] at hm
    refine x_iload2 eX2_spells_20 ?_
    refine x_aload1 eX2_spells_21 ?_
    refine x_Wi0 (i := 10) eX2_spells_22 kJ0_length_8abf5 mX2_128 (Nat.le_of_ble_eq_true rfl) rfl (t_J0_length_8abf5_p1010 rfl) (Nat.le_of_ble_eq_true rfl) ?_
    refine x_icmp_ge eX2_spells_25 (fun c => ?_) (fun c => ?_)
    · rw [if_pos c] at hm
      refine x_k eX2_spells_55 ?_
      obtain rfl := Option.some.inj hm
      exact x_zret eX2_spells_56 (by decide) ⟨rfl, rfl⟩
    · rw [if_neg c] at hm
      refine x_aload0 eX2_spells_28 ?_
      refine x_get eX2_spells_29 fX2_15 rfl rfl ?_
      refine x_aload0 eX2_spells_32 ?_
      refine x_get eX2_spells_33 fX2_22 rfl rfl ?_
      refine x_iload2 eX2_spells_36 ?_
      refine x_iadd eX2_spells_37 ?_
      obtain ⟨v1, hv, hm⟩ := xo_bind hm
      obtain ⟨hi, rfl⟩ := xo_at_some hv
      refine x_iaload eX2_spells_38 rfl hi ?_
      refine x_aload1 eX2_spells_39 ?_
      refine x_iload2 eX2_spells_40 ?_
      obtain ⟨r2, hr, hm⟩ := xo_bind hm
      refine x_Wi1 (i := 10) eX2_spells_41 kJ0_charAt_5068e mX2_133 (Nat.le_of_ble_eq_true rfl) rfl (t_J0_charAt_5068e_p1010 hr) (Nat.le_of_ble_eq_true rfl) ?_
      refine x_icmp_eq eX2_spells_44 (fun c => ?_) (fun c => ?_)
      · rw [if_pos c] at hm
        refine x_iinc2 eX2_spells_49 rfl ?_
        refine x_goto eX2_spells_52 ?_
        exact ih hm
      · rw [if_neg c] at hm
        refine x_k eX2_spells_47 ?_
        obtain rfl := Option.some.inj hm
        exact x_zret eX2_spells_48 (by decide) ⟨rfl, rfl⟩
set_option maxRecDepth 4000 in
theorem t_X2_spells_p1010 {o : Int32}  (hm : sp_X2_spells_p1010 r_place r_at r_tape = some o) : xt_M yX2_spells cX2_spells 3 (some .boolean) (d + 4) [.ref 9, .ref 1010] (WX o_size o_year o_gone o_minds o_lasts r_size r_token r_place r_at r_open r_made t_size t_rule i_there i_rule i_size i_year i_gone i_minds i_lasts o_parent o_kind o_number o_odds o_above o_kidCount o_lead r_tape r_steps r_ends t_steps t_ends t_stack s_sort s_size s_items i_number i_odds x_prices x_facts x_laws x_clues) (xt_Ki o (WX o_size o_year o_gone o_minds o_lasts r_size r_token r_place r_at r_open r_made t_size t_rule i_there i_rule i_size i_year i_gone i_minds i_lasts o_parent o_kind o_number o_odds o_above o_kidCount o_lead r_tape r_steps r_ends t_steps t_ends t_stack s_sort s_size s_items i_number i_odds x_prices x_facts x_laws x_clues)) := by
  unfold sp_X2_spells_p1010 at hm
  refine xt_M.go (own := RX2) (lv := [some (.ref 9), some (.ref 1010), none]) rfl rfl (Nat.le_of_ble_eq_true rfl) rfl ?_
  refine x_aload0 eX2_spells_0 ?_
  refine x_get eX2_spells_1 fX2_25 rfl rfl ?_
  refine x_aload0 eX2_spells_4 ?_
  refine x_get eX2_spells_5 fX2_22 rfl rfl ?_
  refine x_isub eX2_spells_8 ?_
  refine x_aload1 eX2_spells_9 ?_
  refine x_Wi0 (i := 10) eX2_spells_10 kJ0_length_8abf5 mX2_128 (Nat.le_of_ble_eq_true rfl) rfl (t_J0_length_8abf5_p1010 rfl) (Nat.le_of_ble_eq_true rfl) ?_
  refine x_icmp_eq eX2_spells_13 (fun c => ?_) (fun c => ?_)
  · rw [if_pos c] at hm
    refine x_k eX2_spells_18 ?_
    refine x_istore2 eX2_spells_19 rfl ?_
    exact l_X2_spells_p1010_20 _ hm
  · rw [if_neg c] at hm
    refine x_k eX2_spells_16 ?_
    obtain rfl := Option.some.inj hm
    exact x_zret eX2_spells_17 (by decide) ⟨rfl, rfl⟩
set_option maxRecDepth 4000 in
theorem t_J0_coder_7d493_p1011 {o : Int32}  (hm : sp_J0_coder_7d493_p1011 = o) : xt_M yJ0_coder_7d493 cJ0_coder_7d493 1 (some .byte) (d + 0) [.ref 1011] (WX o_size o_year o_gone o_minds o_lasts r_size r_token r_place r_at r_open r_made t_size t_rule i_there i_rule i_size i_year i_gone i_minds i_lasts o_parent o_kind o_number o_odds o_above o_kidCount o_lead r_tape r_steps r_ends t_steps t_ends t_stack s_sort s_size s_items i_number i_odds x_prices x_facts x_laws x_clues) (xt_Ki o (WX o_size o_year o_gone o_minds o_lasts r_size r_token r_place r_at r_open r_made t_size t_rule i_there i_rule i_size i_year i_gone i_minds i_lasts o_parent o_kind o_number o_odds o_above o_kidCount o_lead r_tape r_steps r_ends t_steps t_ends t_stack s_sort s_size s_items i_number i_odds x_prices x_facts x_laws x_clues)) := by
  unfold sp_J0_coder_7d493_p1011 at hm
  refine xt_M.go (own := RJ0) (lv := [some (.ref 1011)]) rfl rfl (Nat.le_of_ble_eq_true rfl) rfl ?_
  refine x_stZ eJ0_coder_7d493_0 xs_J0_38 ?_
  refine x_if_eq eJ0_coder_7d493_3 (fun c => ?_) (fun c => ?_)
  · rw [if_pos c] at hm
    refine x_k eJ0_coder_7d493_13 ?_
    subst hm
    exact x_nret eJ0_coder_7d493_14 rfl ⟨rfl, rfl⟩
  · rw [if_neg c] at hm
    refine x_aload0 eJ0_coder_7d493_6 ?_
    refine x_strC (i := 11) eJ0_coder_7d493_7 xs_J0_15 (Nat.le_of_ble_eq_true rfl) rfl ?_
    refine x_goto eJ0_coder_7d493_10 ?_
    subst hm
    exact x_nret eJ0_coder_7d493_14 rfl ⟨rfl, rfl⟩
set_option maxRecDepth 4000 in
theorem t_J0_length_8abf5_p1011 {o : Int32}  (hm : sp_J0_length_8abf5_p1011 = o) : xt_M yJ0_length_8abf5 cJ0_length_8abf5 1 (some .int) (d + 1) [.ref 1011] (WX o_size o_year o_gone o_minds o_lasts r_size r_token r_place r_at r_open r_made t_size t_rule i_there i_rule i_size i_year i_gone i_minds i_lasts o_parent o_kind o_number o_odds o_above o_kidCount o_lead r_tape r_steps r_ends t_steps t_ends t_stack s_sort s_size s_items i_number i_odds x_prices x_facts x_laws x_clues) (xt_Ki o (WX o_size o_year o_gone o_minds o_lasts r_size r_token r_place r_at r_open r_made t_size t_rule i_there i_rule i_size i_year i_gone i_minds i_lasts o_parent o_kind o_number o_odds o_above o_kidCount o_lead r_tape r_steps r_ends t_steps t_ends t_stack s_sort s_size s_items i_number i_odds x_prices x_facts x_laws x_clues)) := by
  unfold sp_J0_length_8abf5_p1011 at hm
  refine xt_M.go (own := RJ0) (lv := [some (.ref 1011)]) rfl rfl (Nat.le_of_ble_eq_true rfl) rfl ?_
  refine x_aload0 eJ0_length_8abf5_0 ?_
  refine x_strV (i := 11) (q := 2011) eJ0_length_8abf5_1 xs_J0_9 (Nat.le_of_ble_eq_true rfl) rfl rfl ?_
  refine x_strL (i := 11) (v := 3) eJ0_length_8abf5_4 (Nat.le_of_ble_eq_true rfl) rfl (by decide) ?_
  refine x_aload0 eJ0_length_8abf5_5 ?_
  refine x_Wi0 (i := 11) eJ0_length_8abf5_6 kJ0_coder_7d493 mJ0_335 (Nat.le_of_ble_eq_true rfl) rfl (t_J0_coder_7d493_p1011 rfl) (Nat.le_of_ble_eq_true rfl) ?_
  refine x_ishr eJ0_length_8abf5_9 ?_
  subst hm
  exact x_iret eJ0_length_8abf5_10 ⟨rfl, rfl⟩
set_option maxRecDepth 4000 in
theorem t_J0_isLatin1_aae02_p1011 {o : Int32}  (hm : sp_J0_isLatin1_aae02_p1011 = o) : xt_M yJ0_isLatin1_aae02 cJ0_isLatin1_aae02 1 (some .boolean) (d + 0) [.ref 1011] (WX o_size o_year o_gone o_minds o_lasts r_size r_token r_place r_at r_open r_made t_size t_rule i_there i_rule i_size i_year i_gone i_minds i_lasts o_parent o_kind o_number o_odds o_above o_kidCount o_lead r_tape r_steps r_ends t_steps t_ends t_stack s_sort s_size s_items i_number i_odds x_prices x_facts x_laws x_clues) (xt_Ki o (WX o_size o_year o_gone o_minds o_lasts r_size r_token r_place r_at r_open r_made t_size t_rule i_there i_rule i_size i_year i_gone i_minds i_lasts o_parent o_kind o_number o_odds o_above o_kidCount o_lead r_tape r_steps r_ends t_steps t_ends t_stack s_sort s_size s_items i_number i_odds x_prices x_facts x_laws x_clues)) := by
  unfold sp_J0_isLatin1_aae02_p1011 at hm
  refine xt_M.go (own := RJ0) (lv := [some (.ref 1011)]) rfl rfl (Nat.le_of_ble_eq_true rfl) rfl ?_
  refine x_stZ eJ0_isLatin1_aae02_0 xs_J0_38 ?_
  refine x_if_eq eJ0_isLatin1_aae02_3 (fun c => ?_) (fun c => ?_)
  · rw [if_pos c] at hm
    refine x_k eJ0_isLatin1_aae02_17 ?_
    subst hm
    exact x_zret eJ0_isLatin1_aae02_18 (by decide) ⟨rfl, rfl⟩
  · rw [if_neg c] at hm
    refine x_aload0 eJ0_isLatin1_aae02_6 ?_
    refine x_strC (i := 11) eJ0_isLatin1_aae02_7 xs_J0_15 (Nat.le_of_ble_eq_true rfl) rfl ?_
    refine x_if_ne eJ0_isLatin1_aae02_10 (fun c => ?_) (fun c => ?_)
    · rw [if_neg c] at hm
      refine x_k eJ0_isLatin1_aae02_17 ?_
      subst hm
      exact x_zret eJ0_isLatin1_aae02_18 (by decide) ⟨rfl, rfl⟩
    · rw [if_pos c] at hm
      refine x_k eJ0_isLatin1_aae02_13 ?_
      refine x_goto eJ0_isLatin1_aae02_14 ?_
      subst hm
      exact x_zret eJ0_isLatin1_aae02_18 (by decide) ⟨rfl, rfl⟩
set_option maxRecDepth 4000 in
theorem t_J1_charAt_3b067_p2011 {o : Int32} {p2 : Int32} (hm : sp_J1_charAt_3b067_p2011 p2 = some o) : xt_M yJ1_charAt_3b067 cJ1_charAt_3b067 2 (some .char) (d + 2) [.ref 2011, .int p2] (WX o_size o_year o_gone o_minds o_lasts r_size r_token r_place r_at r_open r_made t_size t_rule i_there i_rule i_size i_year i_gone i_minds i_lasts o_parent o_kind o_number o_odds o_above o_kidCount o_lead r_tape r_steps r_ends t_steps t_ends t_stack s_sort s_size s_items i_number i_odds x_prices x_facts x_laws x_clues) (xt_Ki o (WX o_size o_year o_gone o_minds o_lasts r_size r_token r_place r_at r_open r_made t_size t_rule i_there i_rule i_size i_year i_gone i_minds i_lasts o_parent o_kind o_number o_odds o_above o_kidCount o_lead r_tape r_steps r_ends t_steps t_ends t_stack s_sort s_size s_items i_number i_odds x_prices x_facts x_laws x_clues)) := by
  unfold sp_J1_charAt_3b067_p2011 at hm
  refine xt_M.go (own := RJ1) (lv := [some (.ref 2011), some (.int p2)]) rfl rfl (Nat.le_of_ble_eq_true rfl) rfl ?_
  refine x_iload1 eJ1_charAt_3b067_0 ?_
  refine x_aload0 eJ1_charAt_3b067_1 ?_
  refine x_strL (i := 11) (v := 3) eJ1_charAt_3b067_2 (Nat.le_of_ble_eq_true rfl) rfl (by decide) ?_
  obtain ⟨r1, hr, hm⟩ := xo_bind hm
  refine x_Sv2 eJ1_charAt_3b067_3 kJ0_checkIndex_df160 mJ1_9 (t_J0_checkIndex_df160 hr) (Nat.le_of_ble_eq_true rfl) ?_
  refine x_aload0 eJ1_charAt_3b067_6 ?_
  refine x_iload1 eJ1_charAt_3b067_7 ?_
  obtain ⟨v2, hv, hm⟩ := xo_bind hm
  obtain ⟨hi, rfl⟩ := xo_str_some hv
  refine x_strB (i := 11) eJ1_charAt_3b067_8 (Nat.le_of_ble_eq_true rfl) rfl hi ?_
  refine x_k eJ1_charAt_3b067_9 ?_
  refine x_iand eJ1_charAt_3b067_12 ?_
  refine x_i2c eJ1_charAt_3b067_13 ?_
  obtain rfl := Option.some.inj hm
  exact x_nret eJ1_charAt_3b067_14 (pk_nc _) ⟨rfl, rfl⟩
set_option maxRecDepth 4000 in
theorem t_J0_charAt_5068e_p1011 {o : Int32} {p1 : Int32} (hm : sp_J0_charAt_5068e_p1011 p1 = some o) : xt_M yJ0_charAt_5068e cJ0_charAt_5068e 2 (some .char) (d + 3) [.ref 1011, .int p1] (WX o_size o_year o_gone o_minds o_lasts r_size r_token r_place r_at r_open r_made t_size t_rule i_there i_rule i_size i_year i_gone i_minds i_lasts o_parent o_kind o_number o_odds o_above o_kidCount o_lead r_tape r_steps r_ends t_steps t_ends t_stack s_sort s_size s_items i_number i_odds x_prices x_facts x_laws x_clues) (xt_Ki o (WX o_size o_year o_gone o_minds o_lasts r_size r_token r_place r_at r_open r_made t_size t_rule i_there i_rule i_size i_year i_gone i_minds i_lasts o_parent o_kind o_number o_odds o_above o_kidCount o_lead r_tape r_steps r_ends t_steps t_ends t_stack s_sort s_size s_items i_number i_odds x_prices x_facts x_laws x_clues)) := by
  unfold sp_J0_charAt_5068e_p1011 at hm
  refine xt_M.go (own := RJ0) (lv := [some (.ref 1011), some (.int p1)]) rfl rfl (Nat.le_of_ble_eq_true rfl) rfl ?_
  refine x_aload0 eJ0_charAt_5068e_0 ?_
  refine x_Wi0 (i := 11) eJ0_charAt_5068e_1 kJ0_isLatin1_aae02 mJ0_492 (Nat.le_of_ble_eq_true rfl) rfl (t_J0_isLatin1_aae02_p1011 rfl) (Nat.le_of_ble_eq_true rfl) ?_
  refine x_if_eq eJ0_charAt_5068e_4 (fun c => ?_) (fun c => ?_)
  · rw [if_pos c] at hm
    refine x_aload0 eJ0_charAt_5068e_16 ?_
    refine x_strV (i := 11) (q := 2011) eJ0_charAt_5068e_17 xs_J0_9 (Nat.le_of_ble_eq_true rfl) rfl rfl ?_
    refine x_iload1 eJ0_charAt_5068e_20 ?_
    cases hm
  · rw [if_neg c] at hm
    refine x_aload0 eJ0_charAt_5068e_7 ?_
    refine x_strV (i := 11) (q := 2011) eJ0_charAt_5068e_8 xs_J0_9 (Nat.le_of_ble_eq_true rfl) rfl rfl ?_
    refine x_iload1 eJ0_charAt_5068e_11 ?_
    obtain ⟨r1, hr, hm⟩ := xo_bind hm
    refine x_Si2 eJ0_charAt_5068e_12 kJ1_charAt_3b067 mJ0_495 (t_J1_charAt_3b067_p2011 hr) (Nat.le_of_ble_eq_true rfl) ?_
    obtain ⟨hz, hm⟩ := xo_ifn hm
    obtain rfl := Option.some.inj hm
    exact x_nret eJ0_charAt_5068e_15 (xo_char (Decidable.not_not.mp hz)) ⟨rfl, rfl⟩
set_option maxRecDepth 4000 in
theorem l_X2_spells_p1011_20 {o : Int32} {r_place : Int32} {r_tape : Nat → Int32} : ∀ (n : Nat) {u2 : Int32}, sp_X2_spells_p1011_20 r_place r_tape n u2 = some o → xt_T RX2 cX2_spells 3 (some .boolean) (d + 4) (xt_Ki o (WX o_size o_year o_gone o_minds o_lasts r_size r_token r_place r_at r_open r_made t_size t_rule i_there i_rule i_size i_year i_gone i_minds i_lasts o_parent o_kind o_number o_odds o_above o_kidCount o_lead r_tape r_steps r_ends t_steps t_ends t_stack s_sort s_size s_items i_number i_odds x_prices x_facts x_laws x_clues)) 20 [some (.ref 9), some (.ref 1011), some (.int u2)] [] (WX o_size o_year o_gone o_minds o_lasts r_size r_token r_place r_at r_open r_made t_size t_rule i_there i_rule i_size i_year i_gone i_minds i_lasts o_parent o_kind o_number o_odds o_above o_kidCount o_lead r_tape r_steps r_ends t_steps t_ends t_stack s_sort s_size s_items i_number i_odds x_prices x_facts x_laws x_clues) := by
  intro n
  induction n with
  | zero => intro u2 hm; rw [sp_X2_spells_p1011_20] at hm; cases hm
  | succ n ih =>
    intro u2 hm
    rw [sp_X2_spells_p1011_20] at hm
    refine x_iload2 eX2_spells_20 ?_
    refine x_aload1 eX2_spells_21 ?_
    refine x_Wi0 (i := 11) eX2_spells_22 kJ0_length_8abf5 mX2_128 (Nat.le_of_ble_eq_true rfl) rfl (t_J0_length_8abf5_p1011 rfl) (Nat.le_of_ble_eq_true rfl) ?_
    refine x_icmp_ge eX2_spells_25 (fun c => ?_) (fun c => ?_)
    · rw [if_pos c] at hm
      refine x_k eX2_spells_55 ?_
      obtain rfl := Option.some.inj hm
      exact x_zret eX2_spells_56 (by decide) ⟨rfl, rfl⟩
    · rw [if_neg c] at hm
      refine x_aload0 eX2_spells_28 ?_
      refine x_get eX2_spells_29 fX2_15 rfl rfl ?_
      refine x_aload0 eX2_spells_32 ?_
      refine x_get eX2_spells_33 fX2_22 rfl rfl ?_
      refine x_iload2 eX2_spells_36 ?_
      refine x_iadd eX2_spells_37 ?_
      obtain ⟨v1, hv, hm⟩ := xo_bind hm
      obtain ⟨hi, rfl⟩ := xo_at_some hv
      refine x_iaload eX2_spells_38 rfl hi ?_
      refine x_aload1 eX2_spells_39 ?_
      refine x_iload2 eX2_spells_40 ?_
      obtain ⟨r2, hr, hm⟩ := xo_bind hm
      refine x_Wi1 (i := 11) eX2_spells_41 kJ0_charAt_5068e mX2_133 (Nat.le_of_ble_eq_true rfl) rfl (t_J0_charAt_5068e_p1011 hr) (Nat.le_of_ble_eq_true rfl) ?_
      refine x_icmp_eq eX2_spells_44 (fun c => ?_) (fun c => ?_)
      · rw [if_pos c] at hm
        refine x_iinc2 eX2_spells_49 rfl ?_
        refine x_goto eX2_spells_52 ?_
        exact ih hm
      · rw [if_neg c] at hm
        refine x_k eX2_spells_47 ?_
        obtain rfl := Option.some.inj hm
        exact x_zret eX2_spells_48 (by decide) ⟨rfl, rfl⟩
set_option maxRecDepth 4000 in
theorem t_X2_spells_p1011 {o : Int32}  (hm : sp_X2_spells_p1011 r_place r_at r_tape = some o) : xt_M yX2_spells cX2_spells 3 (some .boolean) (d + 4) [.ref 9, .ref 1011] (WX o_size o_year o_gone o_minds o_lasts r_size r_token r_place r_at r_open r_made t_size t_rule i_there i_rule i_size i_year i_gone i_minds i_lasts o_parent o_kind o_number o_odds o_above o_kidCount o_lead r_tape r_steps r_ends t_steps t_ends t_stack s_sort s_size s_items i_number i_odds x_prices x_facts x_laws x_clues) (xt_Ki o (WX o_size o_year o_gone o_minds o_lasts r_size r_token r_place r_at r_open r_made t_size t_rule i_there i_rule i_size i_year i_gone i_minds i_lasts o_parent o_kind o_number o_odds o_above o_kidCount o_lead r_tape r_steps r_ends t_steps t_ends t_stack s_sort s_size s_items i_number i_odds x_prices x_facts x_laws x_clues)) := by
  unfold sp_X2_spells_p1011 at hm
  refine xt_M.go (own := RX2) (lv := [some (.ref 9), some (.ref 1011), none]) rfl rfl (Nat.le_of_ble_eq_true rfl) rfl ?_
  refine x_aload0 eX2_spells_0 ?_
  refine x_get eX2_spells_1 fX2_25 rfl rfl ?_
  refine x_aload0 eX2_spells_4 ?_
  refine x_get eX2_spells_5 fX2_22 rfl rfl ?_
  refine x_isub eX2_spells_8 ?_
  refine x_aload1 eX2_spells_9 ?_
  refine x_Wi0 (i := 11) eX2_spells_10 kJ0_length_8abf5 mX2_128 (Nat.le_of_ble_eq_true rfl) rfl (t_J0_length_8abf5_p1011 rfl) (Nat.le_of_ble_eq_true rfl) ?_
  refine x_icmp_eq eX2_spells_13 (fun c => ?_) (fun c => ?_)
  · rw [if_pos c] at hm
    refine x_k eX2_spells_18 ?_
    refine x_istore2 eX2_spells_19 rfl ?_
    exact l_X2_spells_p1011_20 _ hm
  · rw [if_neg c] at hm
    refine x_k eX2_spells_16 ?_
    obtain rfl := Option.some.inj hm
    exact x_zret eX2_spells_17 (by decide) ⟨rfl, rfl⟩
set_option maxRecDepth 4000 in
theorem l_X2_word_0 {o : Int32 × Int32} {r_size : Int32} {r_place : Int32} {r_tape : Nat → Int32} : ∀ (n : Nat) {r_at : Int32}, sp_X2_word_0 r_size r_place r_tape n r_at = some o → xt_T RX2 cX2_word 1 (some .int) (d + 5) (xt_Ki o.1 (WX o_size o_year o_gone o_minds o_lasts r_size r_token r_place o.2 r_open r_made t_size t_rule i_there i_rule i_size i_year i_gone i_minds i_lasts o_parent o_kind o_number o_odds o_above o_kidCount o_lead r_tape r_steps r_ends t_steps t_ends t_stack s_sort s_size s_items i_number i_odds x_prices x_facts x_laws x_clues)) 0 [some (.ref 9)] [] (WX o_size o_year o_gone o_minds o_lasts r_size r_token r_place r_at r_open r_made t_size t_rule i_there i_rule i_size i_year i_gone i_minds i_lasts o_parent o_kind o_number o_odds o_above o_kidCount o_lead r_tape r_steps r_ends t_steps t_ends t_stack s_sort s_size s_items i_number i_odds x_prices x_facts x_laws x_clues) := by
  intro n
  induction n with
  | zero => intro r_at hm; rw [sp_X2_word_0] at hm; cases hm
  | succ n ih =>
    intro r_at hm
    rw [sp_X2_word_0] at hm
    refine x_aload0 eX2_word_0 ?_
    refine x_get eX2_word_1 fX2_25 rfl rfl ?_
    refine x_aload0 eX2_word_4 ?_
    refine x_get eX2_word_5 fX2_9 rfl rfl ?_
    refine x_icmp_ge eX2_word_8 (fun c => ?_) (fun c => ?_)
    · rw [if_pos c] at hm
      refine x_aload0 eX2_word_39 ?_
      refine x_ldcS (i := 0) (r := 1000) eX2_word_40 rfl rfl ?_
      obtain ⟨r1, hr, hm⟩ := xo_bind hm
      refine x_Vi1 eX2_word_42 kX2_spells mX2_102 (t_X2_spells_p1000 hr) rfl (Nat.le_of_ble_eq_true rfl) ?_
      refine x_if_eq eX2_word_45 (fun c => ?_) (fun c => ?_)
      · rw [if_pos c] at hm
        refine x_aload0 eX2_word_52 ?_
        refine x_ldcS (i := 1) (r := 1001) eX2_word_53 rfl rfl ?_
        obtain ⟨r2, hr, hm⟩ := xo_bind hm
        refine x_Vi1 eX2_word_55 kX2_spells mX2_102 (t_X2_spells_p1001 hr) rfl (Nat.le_of_ble_eq_true rfl) ?_
        refine x_if_eq eX2_word_58 (fun c => ?_) (fun c => ?_)
        · rw [if_pos c] at hm
          refine x_aload0 eX2_word_65 ?_
          refine x_ldcS (i := 2) (r := 1002) eX2_word_66 rfl rfl ?_
          obtain ⟨r3, hr, hm⟩ := xo_bind hm
          refine x_Vi1 eX2_word_68 kX2_spells mX2_102 (t_X2_spells_p1002 hr) rfl (Nat.le_of_ble_eq_true rfl) ?_
          refine x_if_eq eX2_word_71 (fun c => ?_) (fun c => ?_)
          · rw [if_pos c] at hm
            refine x_aload0 eX2_word_78 ?_
            refine x_ldcS (i := 3) (r := 1003) eX2_word_79 rfl rfl ?_
            obtain ⟨r4, hr, hm⟩ := xo_bind hm
            refine x_Vi1 eX2_word_81 kX2_spells mX2_102 (t_X2_spells_p1003 hr) rfl (Nat.le_of_ble_eq_true rfl) ?_
            refine x_if_eq eX2_word_84 (fun c => ?_) (fun c => ?_)
            · rw [if_pos c] at hm
              refine x_aload0 eX2_word_91 ?_
              refine x_ldcS (i := 4) (r := 1004) eX2_word_92 rfl rfl ?_
              obtain ⟨r5, hr, hm⟩ := xo_bind hm
              refine x_Vi1 eX2_word_94 kX2_spells mX2_102 (t_X2_spells_p1004 hr) rfl (Nat.le_of_ble_eq_true rfl) ?_
              refine x_if_eq eX2_word_97 (fun c => ?_) (fun c => ?_)
              · rw [if_pos c] at hm
                refine x_aload0 eX2_word_104 ?_
                refine x_ldcS (i := 5) (r := 1005) eX2_word_105 rfl rfl ?_
                obtain ⟨r6, hr, hm⟩ := xo_bind hm
                refine x_Vi1 eX2_word_107 kX2_spells mX2_102 (t_X2_spells_p1005 hr) rfl (Nat.le_of_ble_eq_true rfl) ?_
                refine x_if_eq eX2_word_110 (fun c => ?_) (fun c => ?_)
                · rw [if_pos c] at hm
                  refine x_aload0 eX2_word_117 ?_
                  refine x_ldcS (i := 6) (r := 1006) eX2_word_118 rfl rfl ?_
                  obtain ⟨r7, hr, hm⟩ := xo_bind hm
                  refine x_Vi1 eX2_word_120 kX2_spells mX2_102 (t_X2_spells_p1006 hr) rfl (Nat.le_of_ble_eq_true rfl) ?_
                  refine x_if_eq eX2_word_123 (fun c => ?_) (fun c => ?_)
                  · rw [if_pos c] at hm
                    refine x_aload0 eX2_word_130 ?_
                    refine x_ldcS (i := 7) (r := 1007) eX2_word_131 rfl rfl ?_
                    obtain ⟨r8, hr, hm⟩ := xo_bind hm
                    refine x_Vi1 eX2_word_133 kX2_spells mX2_102 (t_X2_spells_p1007 hr) rfl (Nat.le_of_ble_eq_true rfl) ?_
                    refine x_if_eq eX2_word_136 (fun c => ?_) (fun c => ?_)
                    · rw [if_pos c] at hm
                      refine x_aload0 eX2_word_143 ?_
                      refine x_ldcS (i := 8) (r := 1008) eX2_word_144 rfl rfl ?_
                      obtain ⟨r9, hr, hm⟩ := xo_bind hm
                      refine x_Vi1 eX2_word_146 kX2_spells mX2_102 (t_X2_spells_p1008 hr) rfl (Nat.le_of_ble_eq_true rfl) ?_
                      refine x_if_eq eX2_word_149 (fun c => ?_) (fun c => ?_)
                      · rw [if_pos c] at hm
                        refine x_aload0 eX2_word_156 ?_
                        refine x_ldcS (i := 9) (r := 1009) eX2_word_157 rfl rfl ?_
                        obtain ⟨r10, hr, hm⟩ := xo_bind hm
                        refine x_Vi1 eX2_word_159 kX2_spells mX2_102 (t_X2_spells_p1009 hr) rfl (Nat.le_of_ble_eq_true rfl) ?_
                        refine x_if_eq eX2_word_162 (fun c => ?_) (fun c => ?_)
                        · rw [if_pos c] at hm
                          refine x_aload0 eX2_word_169 ?_
                          refine x_ldcS (i := 10) (r := 1010) eX2_word_170 rfl rfl ?_
                          obtain ⟨r11, hr, hm⟩ := xo_bind hm
                          refine x_Vi1 eX2_word_172 kX2_spells mX2_102 (t_X2_spells_p1010 hr) rfl (Nat.le_of_ble_eq_true rfl) ?_
                          refine x_if_eq eX2_word_175 (fun c => ?_) (fun c => ?_)
                          · rw [if_pos c] at hm
                            refine x_aload0 eX2_word_182 ?_
                            refine x_ldcS (i := 11) (r := 1011) eX2_word_183 rfl rfl ?_
                            obtain ⟨r12, hr, hm⟩ := xo_bind hm
                            refine x_Vi1 eX2_word_185 kX2_spells mX2_102 (t_X2_spells_p1011 hr) rfl (Nat.le_of_ble_eq_true rfl) ?_
                            refine x_if_eq eX2_word_188 (fun c => ?_) (fun c => ?_)
                            · rw [if_pos c] at hm
                              refine x_k eX2_word_197 ?_
                              obtain rfl := Option.some.inj hm
                              exact x_iret eX2_word_200 ⟨rfl, rfl⟩
                            · rw [if_neg c] at hm
                              refine x_k eX2_word_191 ?_
                              refine x_goto eX2_word_194 ?_
                              obtain rfl := Option.some.inj hm
                              exact x_iret eX2_word_200 ⟨rfl, rfl⟩
                          · rw [if_neg c] at hm
                            refine x_k eX2_word_178 ?_
                            obtain rfl := Option.some.inj hm
                            exact x_iret eX2_word_181 ⟨rfl, rfl⟩
                        · rw [if_neg c] at hm
                          refine x_k eX2_word_165 ?_
                          obtain rfl := Option.some.inj hm
                          exact x_iret eX2_word_168 ⟨rfl, rfl⟩
                      · rw [if_neg c] at hm
                        refine x_k eX2_word_152 ?_
                        obtain rfl := Option.some.inj hm
                        exact x_iret eX2_word_155 ⟨rfl, rfl⟩
                    · rw [if_neg c] at hm
                      refine x_k eX2_word_139 ?_
                      obtain rfl := Option.some.inj hm
                      exact x_iret eX2_word_142 ⟨rfl, rfl⟩
                  · rw [if_neg c] at hm
                    refine x_k eX2_word_126 ?_
                    obtain rfl := Option.some.inj hm
                    exact x_iret eX2_word_129 ⟨rfl, rfl⟩
                · rw [if_neg c] at hm
                  refine x_k eX2_word_113 ?_
                  obtain rfl := Option.some.inj hm
                  exact x_iret eX2_word_116 ⟨rfl, rfl⟩
              · rw [if_neg c] at hm
                refine x_k eX2_word_100 ?_
                obtain rfl := Option.some.inj hm
                exact x_iret eX2_word_103 ⟨rfl, rfl⟩
            · rw [if_neg c] at hm
              refine x_k eX2_word_87 ?_
              obtain rfl := Option.some.inj hm
              exact x_iret eX2_word_90 ⟨rfl, rfl⟩
          · rw [if_neg c] at hm
            refine x_k eX2_word_74 ?_
            obtain rfl := Option.some.inj hm
            exact x_iret eX2_word_77 ⟨rfl, rfl⟩
        · rw [if_neg c] at hm
          refine x_k eX2_word_61 ?_
          obtain rfl := Option.some.inj hm
          exact x_iret eX2_word_64 ⟨rfl, rfl⟩
      · rw [if_neg c] at hm
        refine x_k eX2_word_48 ?_
        obtain rfl := Option.some.inj hm
        exact x_iret eX2_word_51 ⟨rfl, rfl⟩
    · rw [if_neg c] at hm
      refine x_aload0 eX2_word_11 ?_
      refine x_get eX2_word_12 fX2_15 rfl rfl ?_
      refine x_aload0 eX2_word_15 ?_
      refine x_get eX2_word_16 fX2_25 rfl rfl ?_
      obtain ⟨v13, hv, hm⟩ := xo_bind hm
      obtain ⟨hi, rfl⟩ := xo_at_some hv
      refine x_iaload eX2_word_19 rfl hi ?_
      refine x_Si1 eX2_word_20 kX2_isLetter mX2_84 (t_X2_isLetter rfl) (Nat.le_of_ble_eq_true rfl) ?_
      refine x_if_eq eX2_word_23 (fun c => ?_) (fun c => ?_)
      · rw [if_pos c] at hm
        refine x_aload0 eX2_word_39 ?_
        refine x_ldcS (i := 0) (r := 1000) eX2_word_40 rfl rfl ?_
        obtain ⟨r14, hr, hm⟩ := xo_bind hm
        refine x_Vi1 eX2_word_42 kX2_spells mX2_102 (t_X2_spells_p1000 hr) rfl (Nat.le_of_ble_eq_true rfl) ?_
        refine x_if_eq eX2_word_45 (fun c => ?_) (fun c => ?_)
        · rw [if_pos c] at hm
          refine x_aload0 eX2_word_52 ?_
          refine x_ldcS (i := 1) (r := 1001) eX2_word_53 rfl rfl ?_
          obtain ⟨r15, hr, hm⟩ := xo_bind hm
          refine x_Vi1 eX2_word_55 kX2_spells mX2_102 (t_X2_spells_p1001 hr) rfl (Nat.le_of_ble_eq_true rfl) ?_
          refine x_if_eq eX2_word_58 (fun c => ?_) (fun c => ?_)
          · rw [if_pos c] at hm
            refine x_aload0 eX2_word_65 ?_
            refine x_ldcS (i := 2) (r := 1002) eX2_word_66 rfl rfl ?_
            obtain ⟨r16, hr, hm⟩ := xo_bind hm
            refine x_Vi1 eX2_word_68 kX2_spells mX2_102 (t_X2_spells_p1002 hr) rfl (Nat.le_of_ble_eq_true rfl) ?_
            refine x_if_eq eX2_word_71 (fun c => ?_) (fun c => ?_)
            · rw [if_pos c] at hm
              refine x_aload0 eX2_word_78 ?_
              refine x_ldcS (i := 3) (r := 1003) eX2_word_79 rfl rfl ?_
              obtain ⟨r17, hr, hm⟩ := xo_bind hm
              refine x_Vi1 eX2_word_81 kX2_spells mX2_102 (t_X2_spells_p1003 hr) rfl (Nat.le_of_ble_eq_true rfl) ?_
              refine x_if_eq eX2_word_84 (fun c => ?_) (fun c => ?_)
              · rw [if_pos c] at hm
                refine x_aload0 eX2_word_91 ?_
                refine x_ldcS (i := 4) (r := 1004) eX2_word_92 rfl rfl ?_
                obtain ⟨r18, hr, hm⟩ := xo_bind hm
                refine x_Vi1 eX2_word_94 kX2_spells mX2_102 (t_X2_spells_p1004 hr) rfl (Nat.le_of_ble_eq_true rfl) ?_
                refine x_if_eq eX2_word_97 (fun c => ?_) (fun c => ?_)
                · rw [if_pos c] at hm
                  refine x_aload0 eX2_word_104 ?_
                  refine x_ldcS (i := 5) (r := 1005) eX2_word_105 rfl rfl ?_
                  obtain ⟨r19, hr, hm⟩ := xo_bind hm
                  refine x_Vi1 eX2_word_107 kX2_spells mX2_102 (t_X2_spells_p1005 hr) rfl (Nat.le_of_ble_eq_true rfl) ?_
                  refine x_if_eq eX2_word_110 (fun c => ?_) (fun c => ?_)
                  · rw [if_pos c] at hm
                    refine x_aload0 eX2_word_117 ?_
                    refine x_ldcS (i := 6) (r := 1006) eX2_word_118 rfl rfl ?_
                    obtain ⟨r20, hr, hm⟩ := xo_bind hm
                    refine x_Vi1 eX2_word_120 kX2_spells mX2_102 (t_X2_spells_p1006 hr) rfl (Nat.le_of_ble_eq_true rfl) ?_
                    refine x_if_eq eX2_word_123 (fun c => ?_) (fun c => ?_)
                    · rw [if_pos c] at hm
                      refine x_aload0 eX2_word_130 ?_
                      refine x_ldcS (i := 7) (r := 1007) eX2_word_131 rfl rfl ?_
                      obtain ⟨r21, hr, hm⟩ := xo_bind hm
                      refine x_Vi1 eX2_word_133 kX2_spells mX2_102 (t_X2_spells_p1007 hr) rfl (Nat.le_of_ble_eq_true rfl) ?_
                      refine x_if_eq eX2_word_136 (fun c => ?_) (fun c => ?_)
                      · rw [if_pos c] at hm
                        refine x_aload0 eX2_word_143 ?_
                        refine x_ldcS (i := 8) (r := 1008) eX2_word_144 rfl rfl ?_
                        obtain ⟨r22, hr, hm⟩ := xo_bind hm
                        refine x_Vi1 eX2_word_146 kX2_spells mX2_102 (t_X2_spells_p1008 hr) rfl (Nat.le_of_ble_eq_true rfl) ?_
                        refine x_if_eq eX2_word_149 (fun c => ?_) (fun c => ?_)
                        · rw [if_pos c] at hm
                          refine x_aload0 eX2_word_156 ?_
                          refine x_ldcS (i := 9) (r := 1009) eX2_word_157 rfl rfl ?_
                          obtain ⟨r23, hr, hm⟩ := xo_bind hm
                          refine x_Vi1 eX2_word_159 kX2_spells mX2_102 (t_X2_spells_p1009 hr) rfl (Nat.le_of_ble_eq_true rfl) ?_
                          refine x_if_eq eX2_word_162 (fun c => ?_) (fun c => ?_)
                          · rw [if_pos c] at hm
                            refine x_aload0 eX2_word_169 ?_
                            refine x_ldcS (i := 10) (r := 1010) eX2_word_170 rfl rfl ?_
                            obtain ⟨r24, hr, hm⟩ := xo_bind hm
                            refine x_Vi1 eX2_word_172 kX2_spells mX2_102 (t_X2_spells_p1010 hr) rfl (Nat.le_of_ble_eq_true rfl) ?_
                            refine x_if_eq eX2_word_175 (fun c => ?_) (fun c => ?_)
                            · rw [if_pos c] at hm
                              refine x_aload0 eX2_word_182 ?_
                              refine x_ldcS (i := 11) (r := 1011) eX2_word_183 rfl rfl ?_
                              obtain ⟨r25, hr, hm⟩ := xo_bind hm
                              refine x_Vi1 eX2_word_185 kX2_spells mX2_102 (t_X2_spells_p1011 hr) rfl (Nat.le_of_ble_eq_true rfl) ?_
                              refine x_if_eq eX2_word_188 (fun c => ?_) (fun c => ?_)
                              · rw [if_pos c] at hm
                                refine x_k eX2_word_197 ?_
                                obtain rfl := Option.some.inj hm
                                exact x_iret eX2_word_200 ⟨rfl, rfl⟩
                              · rw [if_neg c] at hm
                                refine x_k eX2_word_191 ?_
                                refine x_goto eX2_word_194 ?_
                                obtain rfl := Option.some.inj hm
                                exact x_iret eX2_word_200 ⟨rfl, rfl⟩
                            · rw [if_neg c] at hm
                              refine x_k eX2_word_178 ?_
                              obtain rfl := Option.some.inj hm
                              exact x_iret eX2_word_181 ⟨rfl, rfl⟩
                          · rw [if_neg c] at hm
                            refine x_k eX2_word_165 ?_
                            obtain rfl := Option.some.inj hm
                            exact x_iret eX2_word_168 ⟨rfl, rfl⟩
                        · rw [if_neg c] at hm
                          refine x_k eX2_word_152 ?_
                          obtain rfl := Option.some.inj hm
                          exact x_iret eX2_word_155 ⟨rfl, rfl⟩
                      · rw [if_neg c] at hm
                        refine x_k eX2_word_139 ?_
                        obtain rfl := Option.some.inj hm
                        exact x_iret eX2_word_142 ⟨rfl, rfl⟩
                    · rw [if_neg c] at hm
                      refine x_k eX2_word_126 ?_
                      obtain rfl := Option.some.inj hm
                      exact x_iret eX2_word_129 ⟨rfl, rfl⟩
                  · rw [if_neg c] at hm
                    refine x_k eX2_word_113 ?_
                    obtain rfl := Option.some.inj hm
                    exact x_iret eX2_word_116 ⟨rfl, rfl⟩
                · rw [if_neg c] at hm
                  refine x_k eX2_word_100 ?_
                  obtain rfl := Option.some.inj hm
                  exact x_iret eX2_word_103 ⟨rfl, rfl⟩
              · rw [if_neg c] at hm
                refine x_k eX2_word_87 ?_
                obtain rfl := Option.some.inj hm
                exact x_iret eX2_word_90 ⟨rfl, rfl⟩
            · rw [if_neg c] at hm
              refine x_k eX2_word_74 ?_
              obtain rfl := Option.some.inj hm
              exact x_iret eX2_word_77 ⟨rfl, rfl⟩
          · rw [if_neg c] at hm
            refine x_k eX2_word_61 ?_
            obtain rfl := Option.some.inj hm
            exact x_iret eX2_word_64 ⟨rfl, rfl⟩
        · rw [if_neg c] at hm
          refine x_k eX2_word_48 ?_
          obtain rfl := Option.some.inj hm
          exact x_iret eX2_word_51 ⟨rfl, rfl⟩
      · rw [if_neg c] at hm
        refine x_aload0 eX2_word_26 ?_
        refine x_dup eX2_word_27 rfl ?_
        refine x_get eX2_word_28 fX2_25 rfl rfl ?_
        refine x_k eX2_word_31 ?_
        refine x_iadd eX2_word_32 ?_
        refine x_puti (w' := WX _ _ _ _ _ _ _ _ _ _ _ _ _ _ _ _ _ _ _ _ _ _ _ _ _ _ _ _ _ _ _ _ _ _ _ _ _ _ _ _ _ _) eX2_word_33 pX2_25 rfl (Nat.le_of_ble_eq_true rfl) rfl ?_
        refine x_goto eX2_word_36 ?_
        exact ih hm
set_option maxRecDepth 4000 in
theorem t_X2_word {o : Int32 × Int32}  (hm : sp_X2_word r_size r_place r_at r_tape = some o) : xt_M yX2_word cX2_word 1 (some .int) (d + 5) [.ref 9] (WX o_size o_year o_gone o_minds o_lasts r_size r_token r_place r_at r_open r_made t_size t_rule i_there i_rule i_size i_year i_gone i_minds i_lasts o_parent o_kind o_number o_odds o_above o_kidCount o_lead r_tape r_steps r_ends t_steps t_ends t_stack s_sort s_size s_items i_number i_odds x_prices x_facts x_laws x_clues) (xt_Ki o.1 (WX o_size o_year o_gone o_minds o_lasts r_size r_token r_place o.2 r_open r_made t_size t_rule i_there i_rule i_size i_year i_gone i_minds i_lasts o_parent o_kind o_number o_odds o_above o_kidCount o_lead r_tape r_steps r_ends t_steps t_ends t_stack s_sort s_size s_items i_number i_odds x_prices x_facts x_laws x_clues)) := by
  unfold sp_X2_word at hm
  refine xt_M.go (own := RX2) (lv := [some (.ref 9)]) rfl rfl (Nat.le_of_ble_eq_true rfl) rfl ?_
  exact l_X2_word_0 _ hm
set_option maxRecDepth 4000 in
theorem l_X2_next_0 {o : Int32 × Int32 × Int32} {r_size : Int32} {r_tape : Nat → Int32} : ∀ (n : Nat) {r_token : Int32} {r_place : Int32} {r_at : Int32}, sp_X2_next_0 r_size r_tape n r_token r_place r_at = some o → xt_T RX2 cX2_next 1 none (d + 6) (xt_Kv (WX o_size o_year o_gone o_minds o_lasts r_size o.1 o.2.1 o.2.2 r_open r_made t_size t_rule i_there i_rule i_size i_year i_gone i_minds i_lasts o_parent o_kind o_number o_odds o_above o_kidCount o_lead r_tape r_steps r_ends t_steps t_ends t_stack s_sort s_size s_items i_number i_odds x_prices x_facts x_laws x_clues)) 0 [some (.ref 9)] [] (WX o_size o_year o_gone o_minds o_lasts r_size r_token r_place r_at r_open r_made t_size t_rule i_there i_rule i_size i_year i_gone i_minds i_lasts o_parent o_kind o_number o_odds o_above o_kidCount o_lead r_tape r_steps r_ends t_steps t_ends t_stack s_sort s_size s_items i_number i_odds x_prices x_facts x_laws x_clues) := by
  intro n
  induction n with
  | zero => intro r_token r_place r_at hm; rw [sp_X2_next_0] at hm; cases hm
  | succ n ih =>
    intro r_token r_place r_at hm
    rw [sp_X2_next_0] at hm
    refine x_aload0 eX2_next_0 ?_
    refine x_get eX2_next_1 fX2_25 rfl rfl ?_
    refine x_aload0 eX2_next_4 ?_
    refine x_get eX2_next_5 fX2_9 rfl rfl ?_
    refine x_icmp_ge eX2_next_8 (fun c => ?_) (fun c => ?_)
    · rw [if_pos c] at hm
      refine x_aload0 eX2_next_52 ?_
      refine x_aload0 eX2_next_53 ?_
      refine x_get eX2_next_54 fX2_25 rfl rfl ?_
      refine x_puti (w' := WX _ _ _ _ _ _ _ _ _ _ _ _ _ _ _ _ _ _ _ _ _ _ _ _ _ _ _ _ _ _ _ _ _ _ _ _ _ _ _ _ _ _) eX2_next_57 pX2_22 rfl (Nat.le_of_ble_eq_true rfl) rfl ?_
      refine x_aload0 eX2_next_60 ?_
      refine x_get eX2_next_61 fX2_25 rfl rfl ?_
      refine x_aload0 eX2_next_64 ?_
      refine x_get eX2_next_65 fX2_9 rfl rfl ?_
      refine x_icmp_lt eX2_next_68 (fun c => ?_) (fun c => ?_)
      · rw [if_pos c] at hm
        refine x_aload0 eX2_next_81 ?_
        refine x_get eX2_next_82 fX2_15 rfl rfl ?_
        refine x_aload0 eX2_next_85 ?_
        refine x_get eX2_next_86 fX2_25 rfl rfl ?_
        obtain ⟨v1, hv, hm⟩ := xo_bind hm
        obtain ⟨hi, rfl⟩ := xo_at_some hv
        refine x_iaload eX2_next_89 rfl hi ?_
        refine x_Si1 eX2_next_90 kX2_isLetter mX2_84 (t_X2_isLetter rfl) (Nat.le_of_ble_eq_true rfl) ?_
        refine x_if_eq eX2_next_93 (fun c => ?_) (fun c => ?_)
        · rw [if_pos c] at hm
          refine x_aload0 eX2_next_107 ?_
          refine x_get eX2_next_108 fX2_15 rfl rfl ?_
          refine x_aload0 eX2_next_111 ?_
          refine x_get eX2_next_112 fX2_25 rfl rfl ?_
          obtain ⟨v2, hv, hm⟩ := xo_bind hm
          obtain ⟨hi, rfl⟩ := xo_at_some hv
          refine x_iaload eX2_next_115 rfl hi ?_
          refine x_Si1 eX2_next_116 kX2_isDigit mX2_91 (t_X2_isDigit rfl) (Nat.le_of_ble_eq_true rfl) ?_
          refine x_if_eq eX2_next_119 (fun c => ?_) (fun c => ?_)
          · rw [if_pos c] at hm
            refine x_aload0 eX2_next_133 ?_
            refine x_aload0 eX2_next_134 ?_
            refine x_get eX2_next_135 fX2_15 rfl rfl ?_
            refine x_aload0 eX2_next_138 ?_
            refine x_get eX2_next_139 fX2_25 rfl rfl ?_
            obtain ⟨v3, hv, hm⟩ := xo_bind hm
            obtain ⟨hi, rfl⟩ := xo_at_some hv
            refine x_iaload eX2_next_142 rfl hi ?_
            refine x_Si1 eX2_next_143 kX2_sign mX2_97 (t_X2_sign rfl) (Nat.le_of_ble_eq_true rfl) ?_
            refine x_puti (w' := WX _ _ _ _ _ _ _ _ _ _ _ _ _ _ _ _ _ _ _ _ _ _ _ _ _ _ _ _ _ _ _ _ _ _ _ _ _ _ _ _ _ _) eX2_next_146 pX2_19 rfl (Nat.le_of_ble_eq_true rfl) rfl ?_
            refine x_aload0 eX2_next_149 ?_
            refine x_dup eX2_next_150 rfl ?_
            refine x_get eX2_next_151 fX2_25 rfl rfl ?_
            refine x_k eX2_next_154 ?_
            refine x_iadd eX2_next_155 ?_
            refine x_puti (w' := WX _ _ _ _ _ _ _ _ _ _ _ _ _ _ _ _ _ _ _ _ _ _ _ _ _ _ _ _ _ _ _ _ _ _ _ _ _ _ _ _ _ _) eX2_next_156 pX2_25 rfl (Nat.le_of_ble_eq_true rfl) rfl ?_
            obtain rfl := Option.some.inj hm
            exact x_vret eX2_next_159 ⟨rfl, rfl⟩
          · rw [if_neg c] at hm
            refine x_aload0 eX2_next_122 ?_
            refine x_aload0 eX2_next_123 ?_
            obtain ⟨r4, hr, hm⟩ := xo_bind hm
            refine x_Vi0 eX2_next_124 kX2_figure mX2_94 (t_X2_figure hr) rfl (Nat.le_of_ble_eq_true rfl) ?_
            refine x_puti (w' := WX _ _ _ _ _ _ _ _ _ _ _ _ _ _ _ _ _ _ _ _ _ _ _ _ _ _ _ _ _ _ _ _ _ _ _ _ _ _ _ _ _ _) eX2_next_127 pX2_19 rfl (Nat.le_of_ble_eq_true rfl) rfl ?_
            refine x_goto eX2_next_130 ?_
            obtain rfl := Option.some.inj hm
            exact x_vret eX2_next_159 ⟨rfl, rfl⟩
        · rw [if_neg c] at hm
          refine x_aload0 eX2_next_96 ?_
          refine x_aload0 eX2_next_97 ?_
          obtain ⟨r5, hr, hm⟩ := xo_bind hm
          refine x_Vi0 eX2_next_98 kX2_word mX2_87 (t_X2_word hr) rfl (Nat.le_of_ble_eq_true rfl) ?_
          refine x_puti (w' := WX _ _ _ _ _ _ _ _ _ _ _ _ _ _ _ _ _ _ _ _ _ _ _ _ _ _ _ _ _ _ _ _ _ _ _ _ _ _ _ _ _ _) eX2_next_101 pX2_19 rfl (Nat.le_of_ble_eq_true rfl) rfl ?_
          refine x_goto eX2_next_104 ?_
          obtain rfl := Option.some.inj hm
          exact x_vret eX2_next_159 ⟨rfl, rfl⟩
      · rw [if_neg c] at hm
        refine x_aload0 eX2_next_71 ?_
        refine x_k eX2_next_72 ?_
        refine x_puti (w' := WX _ _ _ _ _ _ _ _ _ _ _ _ _ _ _ _ _ _ _ _ _ _ _ _ _ _ _ _ _ _ _ _ _ _ _ _ _ _ _ _ _ _) eX2_next_75 pX2_19 rfl (Nat.le_of_ble_eq_true rfl) rfl ?_
        refine x_goto eX2_next_78 ?_
        obtain rfl := Option.some.inj hm
        exact x_vret eX2_next_159 ⟨rfl, rfl⟩
    · rw [if_neg c] at hm
      refine x_aload0 eX2_next_11 ?_
      refine x_get eX2_next_12 fX2_15 rfl rfl ?_
      refine x_aload0 eX2_next_15 ?_
      refine x_get eX2_next_16 fX2_25 rfl rfl ?_
      obtain ⟨v6, hv, hm⟩ := xo_bind hm
      obtain ⟨hi, rfl⟩ := xo_at_some hv
      refine x_iaload eX2_next_19 rfl hi ?_
      refine x_k eX2_next_20 ?_
      refine x_icmp_eq eX2_next_22 (fun c => ?_) (fun c => ?_)
      · rw [if_pos c] at hm
        refine x_aload0 eX2_next_39 ?_
        refine x_dup eX2_next_40 rfl ?_
        refine x_get eX2_next_41 fX2_25 rfl rfl ?_
        refine x_k eX2_next_44 ?_
        refine x_iadd eX2_next_45 ?_
        refine x_puti (w' := WX _ _ _ _ _ _ _ _ _ _ _ _ _ _ _ _ _ _ _ _ _ _ _ _ _ _ _ _ _ _ _ _ _ _ _ _ _ _ _ _ _ _) eX2_next_46 pX2_25 rfl (Nat.le_of_ble_eq_true rfl) rfl ?_
        refine x_goto eX2_next_49 ?_
        exact ih hm
      · rw [if_neg c] at hm
        refine x_aload0 eX2_next_25 ?_
        refine x_get eX2_next_26 fX2_15 rfl rfl ?_
        refine x_aload0 eX2_next_29 ?_
        refine x_get eX2_next_30 fX2_25 rfl rfl ?_
        obtain ⟨v7, hv, hm⟩ := xo_bind hm
        obtain ⟨hi, rfl⟩ := xo_at_some hv
        refine x_iaload eX2_next_33 rfl hi ?_
        refine x_k eX2_next_34 ?_
        refine x_icmp_ne eX2_next_36 (fun c => ?_) (fun c => ?_)
        · rw [if_neg c] at hm
          refine x_aload0 eX2_next_52 ?_
          refine x_aload0 eX2_next_53 ?_
          refine x_get eX2_next_54 fX2_25 rfl rfl ?_
          refine x_puti (w' := WX _ _ _ _ _ _ _ _ _ _ _ _ _ _ _ _ _ _ _ _ _ _ _ _ _ _ _ _ _ _ _ _ _ _ _ _ _ _ _ _ _ _) eX2_next_57 pX2_22 rfl (Nat.le_of_ble_eq_true rfl) rfl ?_
          refine x_aload0 eX2_next_60 ?_
          refine x_get eX2_next_61 fX2_25 rfl rfl ?_
          refine x_aload0 eX2_next_64 ?_
          refine x_get eX2_next_65 fX2_9 rfl rfl ?_
          refine x_icmp_lt eX2_next_68 (fun c => ?_) (fun c => ?_)
          · rw [if_pos c] at hm
            refine x_aload0 eX2_next_81 ?_
            refine x_get eX2_next_82 fX2_15 rfl rfl ?_
            refine x_aload0 eX2_next_85 ?_
            refine x_get eX2_next_86 fX2_25 rfl rfl ?_
            obtain ⟨v8, hv, hm⟩ := xo_bind hm
            obtain ⟨hi, rfl⟩ := xo_at_some hv
            refine x_iaload eX2_next_89 rfl hi ?_
            refine x_Si1 eX2_next_90 kX2_isLetter mX2_84 (t_X2_isLetter rfl) (Nat.le_of_ble_eq_true rfl) ?_
            refine x_if_eq eX2_next_93 (fun c => ?_) (fun c => ?_)
            · rw [if_pos c] at hm
              refine x_aload0 eX2_next_107 ?_
              refine x_get eX2_next_108 fX2_15 rfl rfl ?_
              refine x_aload0 eX2_next_111 ?_
              refine x_get eX2_next_112 fX2_25 rfl rfl ?_
              obtain ⟨v9, hv, hm⟩ := xo_bind hm
              obtain ⟨hi, rfl⟩ := xo_at_some hv
              refine x_iaload eX2_next_115 rfl hi ?_
              refine x_Si1 eX2_next_116 kX2_isDigit mX2_91 (t_X2_isDigit rfl) (Nat.le_of_ble_eq_true rfl) ?_
              refine x_if_eq eX2_next_119 (fun c => ?_) (fun c => ?_)
              · rw [if_pos c] at hm
                refine x_aload0 eX2_next_133 ?_
                refine x_aload0 eX2_next_134 ?_
                refine x_get eX2_next_135 fX2_15 rfl rfl ?_
                refine x_aload0 eX2_next_138 ?_
                refine x_get eX2_next_139 fX2_25 rfl rfl ?_
                obtain ⟨v10, hv, hm⟩ := xo_bind hm
                obtain ⟨hi, rfl⟩ := xo_at_some hv
                refine x_iaload eX2_next_142 rfl hi ?_
                refine x_Si1 eX2_next_143 kX2_sign mX2_97 (t_X2_sign rfl) (Nat.le_of_ble_eq_true rfl) ?_
                refine x_puti (w' := WX _ _ _ _ _ _ _ _ _ _ _ _ _ _ _ _ _ _ _ _ _ _ _ _ _ _ _ _ _ _ _ _ _ _ _ _ _ _ _ _ _ _) eX2_next_146 pX2_19 rfl (Nat.le_of_ble_eq_true rfl) rfl ?_
                refine x_aload0 eX2_next_149 ?_
                refine x_dup eX2_next_150 rfl ?_
                refine x_get eX2_next_151 fX2_25 rfl rfl ?_
                refine x_k eX2_next_154 ?_
                refine x_iadd eX2_next_155 ?_
                refine x_puti (w' := WX _ _ _ _ _ _ _ _ _ _ _ _ _ _ _ _ _ _ _ _ _ _ _ _ _ _ _ _ _ _ _ _ _ _ _ _ _ _ _ _ _ _) eX2_next_156 pX2_25 rfl (Nat.le_of_ble_eq_true rfl) rfl ?_
                obtain rfl := Option.some.inj hm
                exact x_vret eX2_next_159 ⟨rfl, rfl⟩
              · rw [if_neg c] at hm
                refine x_aload0 eX2_next_122 ?_
                refine x_aload0 eX2_next_123 ?_
                obtain ⟨r11, hr, hm⟩ := xo_bind hm
                refine x_Vi0 eX2_next_124 kX2_figure mX2_94 (t_X2_figure hr) rfl (Nat.le_of_ble_eq_true rfl) ?_
                refine x_puti (w' := WX _ _ _ _ _ _ _ _ _ _ _ _ _ _ _ _ _ _ _ _ _ _ _ _ _ _ _ _ _ _ _ _ _ _ _ _ _ _ _ _ _ _) eX2_next_127 pX2_19 rfl (Nat.le_of_ble_eq_true rfl) rfl ?_
                refine x_goto eX2_next_130 ?_
                obtain rfl := Option.some.inj hm
                exact x_vret eX2_next_159 ⟨rfl, rfl⟩
            · rw [if_neg c] at hm
              refine x_aload0 eX2_next_96 ?_
              refine x_aload0 eX2_next_97 ?_
              obtain ⟨r12, hr, hm⟩ := xo_bind hm
              refine x_Vi0 eX2_next_98 kX2_word mX2_87 (t_X2_word hr) rfl (Nat.le_of_ble_eq_true rfl) ?_
              refine x_puti (w' := WX _ _ _ _ _ _ _ _ _ _ _ _ _ _ _ _ _ _ _ _ _ _ _ _ _ _ _ _ _ _ _ _ _ _ _ _ _ _ _ _ _ _) eX2_next_101 pX2_19 rfl (Nat.le_of_ble_eq_true rfl) rfl ?_
              refine x_goto eX2_next_104 ?_
              obtain rfl := Option.some.inj hm
              exact x_vret eX2_next_159 ⟨rfl, rfl⟩
          · rw [if_neg c] at hm
            refine x_aload0 eX2_next_71 ?_
            refine x_k eX2_next_72 ?_
            refine x_puti (w' := WX _ _ _ _ _ _ _ _ _ _ _ _ _ _ _ _ _ _ _ _ _ _ _ _ _ _ _ _ _ _ _ _ _ _ _ _ _ _ _ _ _ _) eX2_next_75 pX2_19 rfl (Nat.le_of_ble_eq_true rfl) rfl ?_
            refine x_goto eX2_next_78 ?_
            obtain rfl := Option.some.inj hm
            exact x_vret eX2_next_159 ⟨rfl, rfl⟩
        · rw [if_pos c] at hm
          refine x_aload0 eX2_next_39 ?_
          refine x_dup eX2_next_40 rfl ?_
          refine x_get eX2_next_41 fX2_25 rfl rfl ?_
          refine x_k eX2_next_44 ?_
          refine x_iadd eX2_next_45 ?_
          refine x_puti (w' := WX _ _ _ _ _ _ _ _ _ _ _ _ _ _ _ _ _ _ _ _ _ _ _ _ _ _ _ _ _ _ _ _ _ _ _ _ _ _ _ _ _ _) eX2_next_46 pX2_25 rfl (Nat.le_of_ble_eq_true rfl) rfl ?_
          refine x_goto eX2_next_49 ?_
          exact ih hm
set_option maxRecDepth 4000 in
theorem t_X2_next {o : Int32 × Int32 × Int32}  (hm : sp_X2_next r_size r_token r_place r_at r_tape = some o) : xt_M yX2_next cX2_next 1 none (d + 6) [.ref 9] (WX o_size o_year o_gone o_minds o_lasts r_size r_token r_place r_at r_open r_made t_size t_rule i_there i_rule i_size i_year i_gone i_minds i_lasts o_parent o_kind o_number o_odds o_above o_kidCount o_lead r_tape r_steps r_ends t_steps t_ends t_stack s_sort s_size s_items i_number i_odds x_prices x_facts x_laws x_clues) (xt_Kv (WX o_size o_year o_gone o_minds o_lasts r_size o.1 o.2.1 o.2.2 r_open r_made t_size t_rule i_there i_rule i_size i_year i_gone i_minds i_lasts o_parent o_kind o_number o_odds o_above o_kidCount o_lead r_tape r_steps r_ends t_steps t_ends t_stack s_sort s_size s_items i_number i_odds x_prices x_facts x_laws x_clues)) := by
  unfold sp_X2_next at hm
  refine xt_M.go (own := RX2) (lv := [some (.ref 9)]) rfl rfl (Nat.le_of_ble_eq_true rfl) rfl ?_
  exact l_X2_next_0 _ hm
set_option maxRecDepth 4000 in
theorem t_X2_takes {o : Int32 × Int32 × Int32 × Int32} {p1 : Int32} (hm : sp_X2_takes p1 r_size r_token r_place r_at r_tape = some o) : xt_M yX2_takes cX2_takes 2 (some .boolean) (d + 7) [.ref 9, .int p1] (WX o_size o_year o_gone o_minds o_lasts r_size r_token r_place r_at r_open r_made t_size t_rule i_there i_rule i_size i_year i_gone i_minds i_lasts o_parent o_kind o_number o_odds o_above o_kidCount o_lead r_tape r_steps r_ends t_steps t_ends t_stack s_sort s_size s_items i_number i_odds x_prices x_facts x_laws x_clues) (xt_Ki o.1 (WX o_size o_year o_gone o_minds o_lasts r_size o.2.1 o.2.2.1 o.2.2.2 r_open r_made t_size t_rule i_there i_rule i_size i_year i_gone i_minds i_lasts o_parent o_kind o_number o_odds o_above o_kidCount o_lead r_tape r_steps r_ends t_steps t_ends t_stack s_sort s_size s_items i_number i_odds x_prices x_facts x_laws x_clues)) := by
  unfold sp_X2_takes at hm
  refine xt_M.go (own := RX2) (lv := [some (.ref 9), some (.int p1)]) rfl rfl (Nat.le_of_ble_eq_true rfl) rfl ?_
  refine x_aload0 eX2_takes_0 ?_
  refine x_get eX2_takes_1 fX2_19 rfl rfl ?_
  refine x_iload1 eX2_takes_4 ?_
  refine x_icmp_eq eX2_takes_5 (fun c => ?_) (fun c => ?_)
  · rw [if_pos c] at hm
    refine x_aload0 eX2_takes_10 ?_
    obtain ⟨r1, hr, hm⟩ := xo_bind hm
    refine x_Vv0 eX2_takes_11 kX2_next mX2_40 (t_X2_next hr) rfl (Nat.le_of_ble_eq_true rfl) ?_
    refine x_k eX2_takes_14 ?_
    obtain rfl := Option.some.inj hm
    exact x_zret eX2_takes_15 (by decide) ⟨rfl, rfl⟩
  · rw [if_neg c] at hm
    refine x_k eX2_takes_8 ?_
    obtain rfl := Option.some.inj hm
    exact x_zret eX2_takes_9 (by decide) ⟨rfl, rfl⟩
set_option maxRecDepth 4000 in
theorem t_X2_make {o : Int32 × (Nat → Int32)} {p1 : Int32} (hm : sp_X2_make p1 r_made r_steps = some o) : xt_M yX2_make cX2_make 2 none (d + 0) [.ref 9, .int p1] (WX o_size o_year o_gone o_minds o_lasts r_size r_token r_place r_at r_open r_made t_size t_rule i_there i_rule i_size i_year i_gone i_minds i_lasts o_parent o_kind o_number o_odds o_above o_kidCount o_lead r_tape r_steps r_ends t_steps t_ends t_stack s_sort s_size s_items i_number i_odds x_prices x_facts x_laws x_clues) (xt_Kv (WX o_size o_year o_gone o_minds o_lasts r_size r_token r_place r_at r_open o.1 t_size t_rule i_there i_rule i_size i_year i_gone i_minds i_lasts o_parent o_kind o_number o_odds o_above o_kidCount o_lead r_tape o.2 r_ends t_steps t_ends t_stack s_sort s_size s_items i_number i_odds x_prices x_facts x_laws x_clues)) := by
  unfold sp_X2_make at hm
  refine xt_M.go (own := RX2) (lv := [some (.ref 9), some (.int p1)]) rfl rfl (Nat.le_of_ble_eq_true rfl) rfl ?_
  refine x_aload0 eX2_make_0 ?_
  refine x_get eX2_make_1 fX2_31 rfl rfl ?_
  refine x_aload0 eX2_make_4 ?_
  refine x_get eX2_make_5 fX2_34 rfl rfl ?_
  refine x_alen (v := 160) eX2_make_8 rfl (by decide) ?_
  refine x_icmp_ge eX2_make_9 (fun c => ?_) (fun c => ?_)
  · rw [if_pos c] at hm
    obtain rfl := Option.some.inj hm
    exact x_vret eX2_make_32 ⟨rfl, rfl⟩
  · rw [if_neg c] at hm
    refine x_aload0 eX2_make_12 ?_
    refine x_get eX2_make_13 fX2_34 rfl rfl ?_
    refine x_aload0 eX2_make_16 ?_
    refine x_get eX2_make_17 fX2_31 rfl rfl ?_
    refine x_iload1 eX2_make_20 ?_
    obtain ⟨f1, hv, hm⟩ := xo_bind hm
    obtain ⟨hi, rfl⟩ := xo_set_some hv
    refine x_iastore (w' := WX _ _ _ _ _ _ _ _ _ _ _ _ _ _ _ _ _ _ _ _ _ _ _ _ _ _ _ _ _ _ _ _ _ _ _ _ _ _ _ _ _ _) eX2_make_21 rfl hi rfl ?_
    refine x_aload0 eX2_make_22 ?_
    refine x_dup eX2_make_23 rfl ?_
    refine x_get eX2_make_24 fX2_31 rfl rfl ?_
    refine x_k eX2_make_27 ?_
    refine x_iadd eX2_make_28 ?_
    refine x_puti (w' := WX _ _ _ _ _ _ _ _ _ _ _ _ _ _ _ _ _ _ _ _ _ _ _ _ _ _ _ _ _ _ _ _ _ _ _ _ _ _ _ _ _ _) eX2_make_29 pX2_31 rfl (Nat.le_of_ble_eq_true rfl) rfl ?_
    obtain rfl := Option.some.inj hm
    exact x_vret eX2_make_32 ⟨rfl, rfl⟩
set_option maxRecDepth 4000 in
theorem l_X2_opensAll_5 {o : Int32 × Int32 × Int32 × Int32 × Int32} {u1 : Int32} {u2 : Int32} {r_size : Int32} {r_tape : Nat → Int32} : ∀ (n : Nat) {r_token : Int32} {r_place : Int32} {r_at : Int32} {r_open : Int32}, sp_X2_opensAll_5 u1 u2 r_size r_tape n r_token r_place r_at r_open = some o → xt_T RX2 cX2_opensAll 3 (some .int) (d + 7) (xt_Ki o.1 (WX o_size o_year o_gone o_minds o_lasts r_size o.2.1 o.2.2.1 o.2.2.2.1 o.2.2.2.2 r_made t_size t_rule i_there i_rule i_size i_year i_gone i_minds i_lasts o_parent o_kind o_number o_odds o_above o_kidCount o_lead r_tape r_steps r_ends t_steps t_ends t_stack s_sort s_size s_items i_number i_odds x_prices x_facts x_laws x_clues)) 5 [some (.ref 9), some (.int u1), some (.int u2)] [] (WX o_size o_year o_gone o_minds o_lasts r_size r_token r_place r_at r_open r_made t_size t_rule i_there i_rule i_size i_year i_gone i_minds i_lasts o_parent o_kind o_number o_odds o_above o_kidCount o_lead r_tape r_steps r_ends t_steps t_ends t_stack s_sort s_size s_items i_number i_odds x_prices x_facts x_laws x_clues) := by
  intro n
  induction n with
  | zero => intro r_token r_place r_at r_open hm; rw [sp_X2_opensAll_5] at hm; cases hm
  | succ n ih =>
    intro r_token r_place r_at r_open hm
    rw [sp_X2_opensAll_5] at hm
    refine x_aload0 eX2_opensAll_5 ?_
    refine x_get eX2_opensAll_6 fX2_28 rfl rfl ?_
    refine x_k eX2_opensAll_9 ?_
    refine x_icmp_ge eX2_opensAll_10 (fun c => ?_) (fun c => ?_)
    · rw [if_pos c] at hm
      refine x_aload0 eX2_opensAll_38 ?_
      refine x_get eX2_opensAll_39 fX2_28 rfl rfl ?_
      refine x_iload2 eX2_opensAll_42 ?_
      refine x_isub eX2_opensAll_43 ?_
      obtain rfl := Option.some.inj hm
      exact x_iret eX2_opensAll_44 ⟨rfl, rfl⟩
    · rw [if_neg c] at hm
      refine x_aload0 eX2_opensAll_13 ?_
      refine x_get eX2_opensAll_14 fX2_19 rfl rfl ?_
      refine x_iload1 eX2_opensAll_17 ?_
      refine x_icmp_ne eX2_opensAll_18 (fun c => ?_) (fun c => ?_)
      · rw [if_neg c] at hm
        refine x_aload0 eX2_opensAll_38 ?_
        refine x_get eX2_opensAll_39 fX2_28 rfl rfl ?_
        refine x_iload2 eX2_opensAll_42 ?_
        refine x_isub eX2_opensAll_43 ?_
        obtain rfl := Option.some.inj hm
        exact x_iret eX2_opensAll_44 ⟨rfl, rfl⟩
      · rw [if_pos c] at hm
        refine x_aload0 eX2_opensAll_21 ?_
        refine x_dup eX2_opensAll_22 rfl ?_
        refine x_get eX2_opensAll_23 fX2_28 rfl rfl ?_
        refine x_k eX2_opensAll_26 ?_
        refine x_iadd eX2_opensAll_27 ?_
        refine x_puti (w' := WX _ _ _ _ _ _ _ _ _ _ _ _ _ _ _ _ _ _ _ _ _ _ _ _ _ _ _ _ _ _ _ _ _ _ _ _ _ _ _ _ _ _) eX2_opensAll_28 pX2_28 rfl (Nat.le_of_ble_eq_true rfl) rfl ?_
        refine x_aload0 eX2_opensAll_31 ?_
        obtain ⟨r1, hr, hm⟩ := xo_bind hm
        refine x_Vv0 eX2_opensAll_32 kX2_next mX2_40 (t_X2_next hr) rfl (Nat.le_of_ble_eq_true rfl) ?_
        refine x_goto eX2_opensAll_35 ?_
        exact ih hm
set_option maxRecDepth 4000 in
theorem t_X2_opensAll {o : Int32 × Int32 × Int32 × Int32 × Int32} {p1 : Int32} (hm : sp_X2_opensAll p1 r_size r_token r_place r_at r_open r_tape = some o) : xt_M yX2_opensAll cX2_opensAll 3 (some .int) (d + 7) [.ref 9, .int p1] (WX o_size o_year o_gone o_minds o_lasts r_size r_token r_place r_at r_open r_made t_size t_rule i_there i_rule i_size i_year i_gone i_minds i_lasts o_parent o_kind o_number o_odds o_above o_kidCount o_lead r_tape r_steps r_ends t_steps t_ends t_stack s_sort s_size s_items i_number i_odds x_prices x_facts x_laws x_clues) (xt_Ki o.1 (WX o_size o_year o_gone o_minds o_lasts r_size o.2.1 o.2.2.1 o.2.2.2.1 o.2.2.2.2 r_made t_size t_rule i_there i_rule i_size i_year i_gone i_minds i_lasts o_parent o_kind o_number o_odds o_above o_kidCount o_lead r_tape r_steps r_ends t_steps t_ends t_stack s_sort s_size s_items i_number i_odds x_prices x_facts x_laws x_clues)) := by
  unfold sp_X2_opensAll at hm
  refine xt_M.go (own := RX2) (lv := [some (.ref 9), some (.int p1), none]) rfl rfl (Nat.le_of_ble_eq_true rfl) rfl ?_
  refine x_aload0 eX2_opensAll_0 ?_
  refine x_get eX2_opensAll_1 fX2_28 rfl rfl ?_
  refine x_istore2 eX2_opensAll_4 rfl ?_
  exact l_X2_opensAll_5 _ hm
set_option maxRecDepth 4000 in
theorem l_X2_closes_2 {o : Int32 × Int32 × Int32 × (Nat → Int32)} {u1 : Int32} {u2 : Int32} : ∀ (n : Nat) {u3 : Int32} {r_open : Int32} {r_made : Int32} {r_steps : Nat → Int32}, sp_X2_closes_2 u1 u2 n u3 r_open r_made r_steps = some o → xt_T RX2 cX2_closes 4 (some .boolean) (d + 1) (xt_Ki o.1 (WX o_size o_year o_gone o_minds o_lasts r_size r_token r_place r_at o.2.1 o.2.2.1 t_size t_rule i_there i_rule i_size i_year i_gone i_minds i_lasts o_parent o_kind o_number o_odds o_above o_kidCount o_lead r_tape o.2.2.2 r_ends t_steps t_ends t_stack s_sort s_size s_items i_number i_odds x_prices x_facts x_laws x_clues)) 2 [some (.ref 9), some (.int u1), some (.int u2), some (.int u3)] [] (WX o_size o_year o_gone o_minds o_lasts r_size r_token r_place r_at r_open r_made t_size t_rule i_there i_rule i_size i_year i_gone i_minds i_lasts o_parent o_kind o_number o_odds o_above o_kidCount o_lead r_tape r_steps r_ends t_steps t_ends t_stack s_sort s_size s_items i_number i_odds x_prices x_facts x_laws x_clues) := by
  intro n
  induction n with
  | zero => intro u3 r_open r_made r_steps hm; rw [sp_X2_closes_2] at hm; cases hm
  | succ n ih =>
    intro u3 r_open r_made r_steps hm
    rw [sp_X2_closes_2] at hm
    refine x_iload3 eX2_closes_2 ?_
    refine x_iload1 eX2_closes_3 ?_
    refine x_icmp_ge eX2_closes_4 (fun c => ?_) (fun c => ?_)
    · rw [if_pos c] at hm
      refine x_k eX2_closes_28 ?_
      obtain rfl := Option.some.inj hm
      exact x_zret eX2_closes_29 (by decide) ⟨rfl, rfl⟩
    · rw [if_neg c] at hm
      refine x_aload0 eX2_closes_7 ?_
      refine x_dup eX2_closes_8 rfl ?_
      refine x_get eX2_closes_9 fX2_28 rfl rfl ?_
      refine x_k eX2_closes_12 ?_
      refine x_isub eX2_closes_13 ?_
      refine x_puti (w' := WX _ _ _ _ _ _ _ _ _ _ _ _ _ _ _ _ _ _ _ _ _ _ _ _ _ _ _ _ _ _ _ _ _ _ _ _ _ _ _ _ _ _) eX2_closes_14 pX2_28 rfl (Nat.le_of_ble_eq_true rfl) rfl ?_
      refine x_aload0 eX2_closes_17 ?_
      refine x_iload2 eX2_closes_18 ?_
      obtain ⟨r1, hr, hm⟩ := xo_bind hm
      refine x_Vv1 eX2_closes_19 kX2_make mX2_54 (t_X2_make hr) rfl (Nat.le_of_ble_eq_true rfl) ?_
      refine x_iinc3 eX2_closes_22 rfl ?_
      refine x_goto eX2_closes_25 ?_
      exact ih hm
set_option maxRecDepth 4000 in
theorem t_X2_closes {o : Int32 × Int32 × Int32 × (Nat → Int32)} {p1 : Int32} {p2 : Int32} (hm : sp_X2_closes p1 p2 r_open r_made r_steps = some o) : xt_M yX2_closes cX2_closes 4 (some .boolean) (d + 1) [.ref 9, .int p1, .int p2] (WX o_size o_year o_gone o_minds o_lasts r_size r_token r_place r_at r_open r_made t_size t_rule i_there i_rule i_size i_year i_gone i_minds i_lasts o_parent o_kind o_number o_odds o_above o_kidCount o_lead r_tape r_steps r_ends t_steps t_ends t_stack s_sort s_size s_items i_number i_odds x_prices x_facts x_laws x_clues) (xt_Ki o.1 (WX o_size o_year o_gone o_minds o_lasts r_size r_token r_place r_at o.2.1 o.2.2.1 t_size t_rule i_there i_rule i_size i_year i_gone i_minds i_lasts o_parent o_kind o_number o_odds o_above o_kidCount o_lead r_tape o.2.2.2 r_ends t_steps t_ends t_stack s_sort s_size s_items i_number i_odds x_prices x_facts x_laws x_clues)) := by
  unfold sp_X2_closes at hm
  refine xt_M.go (own := RX2) (lv := [some (.ref 9), some (.int p1), some (.int p2), none]) rfl rfl (Nat.le_of_ble_eq_true rfl) rfl ?_
  refine x_k eX2_closes_0 ?_
  refine x_istore3 eX2_closes_1 rfl ?_
  exact l_X2_closes_2 _ hm
set_option maxRecDepth 4000 in
theorem l_X2_readsE_11 {o : Int32 × Int32 × Int32 × Int32 × Int32 × Int32 × (Nat → Int32)} {R : Nat → Int32 → Int32 → Int32 → Int32 → Int32 → Int32 → (Nat → Int32) → (Nat → Int32) → Option (Int32 × Int32 × Int32 × Int32 × Int32 × Int32 × (Nat → Int32))} (hR1 : ∀  {z_o_size : Int32} {z_o_year : Int32} {z_o_gone : Int32} {z_o_minds : Int32} {z_o_lasts : Int32} {z_r_size : Int32} {z_r_token : Int32} {z_r_place : Int32} {z_r_at : Int32} {z_r_open : Int32} {z_r_made : Int32} {z_t_size : Int32} {z_t_rule : Int32} {z_i_there : Int32} {z_i_rule : Int32} {z_i_size : Int32} {z_i_year : Int32} {z_i_gone : Int32} {z_i_minds : Int32} {z_i_lasts : Int32} {z_o_parent : Nat → Int32} {z_o_kind : Nat → Int32} {z_o_number : Nat → Int32} {z_o_odds : Nat → Int32} {z_o_above : Nat → Int32} {z_o_kidCount : Nat → Int32} {z_o_lead : Nat → Int32} {z_r_tape : Nat → Int32} {z_r_steps : Nat → Int32} {z_r_ends : Nat → Int32} {z_t_steps : Nat → Int32} {z_t_ends : Nat → Int32} {z_t_stack : Nat → Int32} {z_s_sort : Nat → Int32} {z_s_size : Nat → Int32} {z_s_items : Nat → Int32} {z_i_number : Nat → Int32} {z_i_odds : Nat → Int32} {z_x_prices : Nat → Int32} {z_x_facts : Nat → Int32} {z_x_laws : Nat → Int32} {z_x_clues : Nat → Int32} {r : Int32 × Int32 × Int32 × Int32 × Int32 × Int32 × (Nat → Int32)}, R 1 z_r_size z_r_token z_r_place z_r_at z_r_open z_r_made z_r_tape z_r_steps = some r → xt_M yX2_readsAnd cX2_readsAnd 2 (some .boolean) (d + 8) [.ref 9] (WX z_o_size z_o_year z_o_gone z_o_minds z_o_lasts z_r_size z_r_token z_r_place z_r_at z_r_open z_r_made z_t_size z_t_rule z_i_there z_i_rule z_i_size z_i_year z_i_gone z_i_minds z_i_lasts z_o_parent z_o_kind z_o_number z_o_odds z_o_above z_o_kidCount z_o_lead z_r_tape z_r_steps z_r_ends z_t_steps z_t_ends z_t_stack z_s_sort z_s_size z_s_items z_i_number z_i_odds z_x_prices z_x_facts z_x_laws z_x_clues) (xt_Ki r.1 (WX z_o_size z_o_year z_o_gone z_o_minds z_o_lasts z_r_size r.2.1 r.2.2.1 r.2.2.2.1 r.2.2.2.2.1 r.2.2.2.2.2.1 z_t_size z_t_rule z_i_there z_i_rule z_i_size z_i_year z_i_gone z_i_minds z_i_lasts z_o_parent z_o_kind z_o_number z_o_odds z_o_above z_o_kidCount z_o_lead z_r_tape r.2.2.2.2.2.2 z_r_ends z_t_steps z_t_ends z_t_stack z_s_sort z_s_size z_s_items z_i_number z_i_odds z_x_prices z_x_facts z_x_laws z_x_clues))) {r_size : Int32} {r_tape : Nat → Int32} : ∀ (n : Nat) {u1 : Int32} {r_token : Int32} {r_place : Int32} {r_at : Int32} {r_open : Int32} {r_made : Int32} {r_steps : Nat → Int32}, sp_X2_readsE_11 R r_size r_tape n u1 r_token r_place r_at r_open r_made r_steps = some o → xt_T RX2 cX2_readsE 2 (some .boolean) (d + 8 + 1) (xt_Ki o.1 (WX o_size o_year o_gone o_minds o_lasts r_size o.2.1 o.2.2.1 o.2.2.2.1 o.2.2.2.2.1 o.2.2.2.2.2.1 t_size t_rule i_there i_rule i_size i_year i_gone i_minds i_lasts o_parent o_kind o_number o_odds o_above o_kidCount o_lead r_tape o.2.2.2.2.2.2 r_ends t_steps t_ends t_stack s_sort s_size s_items i_number i_odds x_prices x_facts x_laws x_clues)) 11 [some (.ref 9), some (.int u1)] [] (WX o_size o_year o_gone o_minds o_lasts r_size r_token r_place r_at r_open r_made t_size t_rule i_there i_rule i_size i_year i_gone i_minds i_lasts o_parent o_kind o_number o_odds o_above o_kidCount o_lead r_tape r_steps r_ends t_steps t_ends t_stack s_sort s_size s_items i_number i_odds x_prices x_facts x_laws x_clues) := by
  intro n
  induction n with
  | zero => intro u1 r_token r_place r_at r_open r_made r_steps hm; rw [sp_X2_readsE_11] at hm; cases hm
  | succ n ih =>
    intro u1 r_token r_place r_at r_open r_made r_steps hm
    rw [sp_X2_readsE_11] at hm
    refine x_iload1 eX2_readsE_11 ?_
    refine x_k eX2_readsE_12 ?_
    refine x_icmp_ge eX2_readsE_15 (fun c => ?_) (fun c => ?_)
    · rw [if_pos c] at hm
      refine x_k eX2_readsE_54 ?_
      obtain rfl := Option.some.inj hm
      exact x_zret eX2_readsE_55 (by decide) ⟨rfl, rfl⟩
    · rw [if_neg c] at hm
      refine x_aload0 eX2_readsE_18 ?_
      refine x_get eX2_readsE_19 fX2_19 rfl rfl ?_
      refine x_k eX2_readsE_22 ?_
      refine x_icmp_ne eX2_readsE_25 (fun c => ?_) (fun c => ?_)
      · rw [if_neg c] at hm
        refine x_k eX2_readsE_54 ?_
        obtain rfl := Option.some.inj hm
        exact x_zret eX2_readsE_55 (by decide) ⟨rfl, rfl⟩
      · rw [if_pos c] at hm
        refine x_aload0 eX2_readsE_28 ?_
        obtain ⟨r2, hr, hm⟩ := xo_bind hm
        refine x_Vv0 eX2_readsE_29 kX2_next mX2_40 (t_X2_next hr) rfl (Nat.le_of_ble_eq_true rfl) ?_
        refine x_aload0 eX2_readsE_32 ?_
        obtain ⟨r3, hr, hm⟩ := xo_bind hm
        refine x_Vi0 eX2_readsE_33 kX2_readsAnd mX2_51 (hR1 hr) rfl (Nat.le_of_ble_eq_true rfl) ?_
        refine x_if_ne eX2_readsE_36 (fun c => ?_) (fun c => ?_)
        · rw [if_neg c] at hm
          refine x_aload0 eX2_readsE_41 ?_
          refine x_k eX2_readsE_42 ?_
          obtain ⟨r4, hr, hm⟩ := xo_bind hm
          refine x_Vv1 eX2_readsE_45 kX2_make mX2_54 (t_X2_make hr) rfl (Nat.le_of_ble_eq_true rfl) ?_
          refine x_iinc1 eX2_readsE_48 rfl ?_
          refine x_goto eX2_readsE_51 ?_
          exact ih hm
        · rw [if_pos c] at hm
          refine x_k eX2_readsE_39 ?_
          obtain rfl := Option.some.inj hm
          exact x_zret eX2_readsE_40 (by decide) ⟨rfl, rfl⟩
set_option maxRecDepth 4000 in
theorem t_X2_readsE {o : Int32 × Int32 × Int32 × Int32 × Int32 × Int32 × (Nat → Int32)} {R : Nat → Int32 → Int32 → Int32 → Int32 → Int32 → Int32 → (Nat → Int32) → (Nat → Int32) → Option (Int32 × Int32 × Int32 × Int32 × Int32 × Int32 × (Nat → Int32))} (hR1 : ∀  {z_o_size : Int32} {z_o_year : Int32} {z_o_gone : Int32} {z_o_minds : Int32} {z_o_lasts : Int32} {z_r_size : Int32} {z_r_token : Int32} {z_r_place : Int32} {z_r_at : Int32} {z_r_open : Int32} {z_r_made : Int32} {z_t_size : Int32} {z_t_rule : Int32} {z_i_there : Int32} {z_i_rule : Int32} {z_i_size : Int32} {z_i_year : Int32} {z_i_gone : Int32} {z_i_minds : Int32} {z_i_lasts : Int32} {z_o_parent : Nat → Int32} {z_o_kind : Nat → Int32} {z_o_number : Nat → Int32} {z_o_odds : Nat → Int32} {z_o_above : Nat → Int32} {z_o_kidCount : Nat → Int32} {z_o_lead : Nat → Int32} {z_r_tape : Nat → Int32} {z_r_steps : Nat → Int32} {z_r_ends : Nat → Int32} {z_t_steps : Nat → Int32} {z_t_ends : Nat → Int32} {z_t_stack : Nat → Int32} {z_s_sort : Nat → Int32} {z_s_size : Nat → Int32} {z_s_items : Nat → Int32} {z_i_number : Nat → Int32} {z_i_odds : Nat → Int32} {z_x_prices : Nat → Int32} {z_x_facts : Nat → Int32} {z_x_laws : Nat → Int32} {z_x_clues : Nat → Int32} {r : Int32 × Int32 × Int32 × Int32 × Int32 × Int32 × (Nat → Int32)}, R 1 z_r_size z_r_token z_r_place z_r_at z_r_open z_r_made z_r_tape z_r_steps = some r → xt_M yX2_readsAnd cX2_readsAnd 2 (some .boolean) (d + 8) [.ref 9] (WX z_o_size z_o_year z_o_gone z_o_minds z_o_lasts z_r_size z_r_token z_r_place z_r_at z_r_open z_r_made z_t_size z_t_rule z_i_there z_i_rule z_i_size z_i_year z_i_gone z_i_minds z_i_lasts z_o_parent z_o_kind z_o_number z_o_odds z_o_above z_o_kidCount z_o_lead z_r_tape z_r_steps z_r_ends z_t_steps z_t_ends z_t_stack z_s_sort z_s_size z_s_items z_i_number z_i_odds z_x_prices z_x_facts z_x_laws z_x_clues) (xt_Ki r.1 (WX z_o_size z_o_year z_o_gone z_o_minds z_o_lasts z_r_size r.2.1 r.2.2.1 r.2.2.2.1 r.2.2.2.2.1 r.2.2.2.2.2.1 z_t_size z_t_rule z_i_there z_i_rule z_i_size z_i_year z_i_gone z_i_minds z_i_lasts z_o_parent z_o_kind z_o_number z_o_odds z_o_above z_o_kidCount z_o_lead z_r_tape r.2.2.2.2.2.2 z_r_ends z_t_steps z_t_ends z_t_stack z_s_sort z_s_size z_s_items z_i_number z_i_odds z_x_prices z_x_facts z_x_laws z_x_clues)))  (hm : sp_X2_readsE R r_size r_token r_place r_at r_open r_made r_tape r_steps = some o) : xt_M yX2_readsE cX2_readsE 2 (some .boolean) (d + 8 + 1) [.ref 9] (WX o_size o_year o_gone o_minds o_lasts r_size r_token r_place r_at r_open r_made t_size t_rule i_there i_rule i_size i_year i_gone i_minds i_lasts o_parent o_kind o_number o_odds o_above o_kidCount o_lead r_tape r_steps r_ends t_steps t_ends t_stack s_sort s_size s_items i_number i_odds x_prices x_facts x_laws x_clues) (xt_Ki o.1 (WX o_size o_year o_gone o_minds o_lasts r_size o.2.1 o.2.2.1 o.2.2.2.1 o.2.2.2.2.1 o.2.2.2.2.2.1 t_size t_rule i_there i_rule i_size i_year i_gone i_minds i_lasts o_parent o_kind o_number o_odds o_above o_kidCount o_lead r_tape o.2.2.2.2.2.2 r_ends t_steps t_ends t_stack s_sort s_size s_items i_number i_odds x_prices x_facts x_laws x_clues)) := by
  unfold sp_X2_readsE at hm
  refine xt_M.go (own := RX2) (lv := [some (.ref 9), none]) rfl rfl (Nat.le_of_ble_eq_true rfl) rfl ?_
  refine x_aload0 eX2_readsE_0 ?_
  obtain ⟨r1, hr, hm⟩ := xo_bind hm
  refine x_Vi0 eX2_readsE_1 kX2_readsAnd mX2_51 (hR1 hr) rfl (Nat.le_of_ble_eq_true rfl) ?_
  refine x_if_ne eX2_readsE_4 (fun c => ?_) (fun c => ?_)
  · rw [if_neg c] at hm
    refine x_k eX2_readsE_9 ?_
    refine x_istore1 eX2_readsE_10 rfl ?_
    exact l_X2_readsE_11 hR1 _ hm
  · rw [if_pos c] at hm
    refine x_k eX2_readsE_7 ?_
    obtain rfl := Option.some.inj hm
    exact x_zret eX2_readsE_8 (by decide) ⟨rfl, rfl⟩
set_option maxRecDepth 4000 in
theorem l_X2_readsAnd_11 {o : Int32 × Int32 × Int32 × Int32 × Int32 × Int32 × (Nat → Int32)} {R : Nat → Int32 → Int32 → Int32 → Int32 → Int32 → Int32 → (Nat → Int32) → (Nat → Int32) → Option (Int32 × Int32 × Int32 × Int32 × Int32 × Int32 × (Nat → Int32))} (hR2 : ∀  {z_o_size : Int32} {z_o_year : Int32} {z_o_gone : Int32} {z_o_minds : Int32} {z_o_lasts : Int32} {z_r_size : Int32} {z_r_token : Int32} {z_r_place : Int32} {z_r_at : Int32} {z_r_open : Int32} {z_r_made : Int32} {z_t_size : Int32} {z_t_rule : Int32} {z_i_there : Int32} {z_i_rule : Int32} {z_i_size : Int32} {z_i_year : Int32} {z_i_gone : Int32} {z_i_minds : Int32} {z_i_lasts : Int32} {z_o_parent : Nat → Int32} {z_o_kind : Nat → Int32} {z_o_number : Nat → Int32} {z_o_odds : Nat → Int32} {z_o_above : Nat → Int32} {z_o_kidCount : Nat → Int32} {z_o_lead : Nat → Int32} {z_r_tape : Nat → Int32} {z_r_steps : Nat → Int32} {z_r_ends : Nat → Int32} {z_t_steps : Nat → Int32} {z_t_ends : Nat → Int32} {z_t_stack : Nat → Int32} {z_s_sort : Nat → Int32} {z_s_size : Nat → Int32} {z_s_items : Nat → Int32} {z_i_number : Nat → Int32} {z_i_odds : Nat → Int32} {z_x_prices : Nat → Int32} {z_x_facts : Nat → Int32} {z_x_laws : Nat → Int32} {z_x_clues : Nat → Int32} {r : Int32 × Int32 × Int32 × Int32 × Int32 × Int32 × (Nat → Int32)}, R 2 z_r_size z_r_token z_r_place z_r_at z_r_open z_r_made z_r_tape z_r_steps = some r → xt_M yX2_readsNot cX2_readsNot 2 (some .boolean) (d + 8) [.ref 9] (WX z_o_size z_o_year z_o_gone z_o_minds z_o_lasts z_r_size z_r_token z_r_place z_r_at z_r_open z_r_made z_t_size z_t_rule z_i_there z_i_rule z_i_size z_i_year z_i_gone z_i_minds z_i_lasts z_o_parent z_o_kind z_o_number z_o_odds z_o_above z_o_kidCount z_o_lead z_r_tape z_r_steps z_r_ends z_t_steps z_t_ends z_t_stack z_s_sort z_s_size z_s_items z_i_number z_i_odds z_x_prices z_x_facts z_x_laws z_x_clues) (xt_Ki r.1 (WX z_o_size z_o_year z_o_gone z_o_minds z_o_lasts z_r_size r.2.1 r.2.2.1 r.2.2.2.1 r.2.2.2.2.1 r.2.2.2.2.2.1 z_t_size z_t_rule z_i_there z_i_rule z_i_size z_i_year z_i_gone z_i_minds z_i_lasts z_o_parent z_o_kind z_o_number z_o_odds z_o_above z_o_kidCount z_o_lead z_r_tape r.2.2.2.2.2.2 z_r_ends z_t_steps z_t_ends z_t_stack z_s_sort z_s_size z_s_items z_i_number z_i_odds z_x_prices z_x_facts z_x_laws z_x_clues))) {r_size : Int32} {r_tape : Nat → Int32} : ∀ (n : Nat) {u1 : Int32} {r_token : Int32} {r_place : Int32} {r_at : Int32} {r_open : Int32} {r_made : Int32} {r_steps : Nat → Int32}, sp_X2_readsAnd_11 R r_size r_tape n u1 r_token r_place r_at r_open r_made r_steps = some o → xt_T RX2 cX2_readsAnd 2 (some .boolean) (d + 8 + 1) (xt_Ki o.1 (WX o_size o_year o_gone o_minds o_lasts r_size o.2.1 o.2.2.1 o.2.2.2.1 o.2.2.2.2.1 o.2.2.2.2.2.1 t_size t_rule i_there i_rule i_size i_year i_gone i_minds i_lasts o_parent o_kind o_number o_odds o_above o_kidCount o_lead r_tape o.2.2.2.2.2.2 r_ends t_steps t_ends t_stack s_sort s_size s_items i_number i_odds x_prices x_facts x_laws x_clues)) 11 [some (.ref 9), some (.int u1)] [] (WX o_size o_year o_gone o_minds o_lasts r_size r_token r_place r_at r_open r_made t_size t_rule i_there i_rule i_size i_year i_gone i_minds i_lasts o_parent o_kind o_number o_odds o_above o_kidCount o_lead r_tape r_steps r_ends t_steps t_ends t_stack s_sort s_size s_items i_number i_odds x_prices x_facts x_laws x_clues) := by
  intro n
  induction n with
  | zero => intro u1 r_token r_place r_at r_open r_made r_steps hm; rw [sp_X2_readsAnd_11] at hm; cases hm
  | succ n ih =>
    intro u1 r_token r_place r_at r_open r_made r_steps hm
    rw [sp_X2_readsAnd_11] at hm
    refine x_iload1 eX2_readsAnd_11 ?_
    refine x_k eX2_readsAnd_12 ?_
    refine x_icmp_ge eX2_readsAnd_15 (fun c => ?_) (fun c => ?_)
    · rw [if_pos c] at hm
      refine x_k eX2_readsAnd_54 ?_
      obtain rfl := Option.some.inj hm
      exact x_zret eX2_readsAnd_55 (by decide) ⟨rfl, rfl⟩
    · rw [if_neg c] at hm
      refine x_aload0 eX2_readsAnd_18 ?_
      refine x_get eX2_readsAnd_19 fX2_19 rfl rfl ?_
      refine x_k eX2_readsAnd_22 ?_
      refine x_icmp_ne eX2_readsAnd_25 (fun c => ?_) (fun c => ?_)
      · rw [if_neg c] at hm
        refine x_k eX2_readsAnd_54 ?_
        obtain rfl := Option.some.inj hm
        exact x_zret eX2_readsAnd_55 (by decide) ⟨rfl, rfl⟩
      · rw [if_pos c] at hm
        refine x_aload0 eX2_readsAnd_28 ?_
        obtain ⟨r2, hr, hm⟩ := xo_bind hm
        refine x_Vv0 eX2_readsAnd_29 kX2_next mX2_40 (t_X2_next hr) rfl (Nat.le_of_ble_eq_true rfl) ?_
        refine x_aload0 eX2_readsAnd_32 ?_
        obtain ⟨r3, hr, hm⟩ := xo_bind hm
        refine x_Vi0 eX2_readsAnd_33 kX2_readsNot mX2_58 (hR2 hr) rfl (Nat.le_of_ble_eq_true rfl) ?_
        refine x_if_ne eX2_readsAnd_36 (fun c => ?_) (fun c => ?_)
        · rw [if_neg c] at hm
          refine x_aload0 eX2_readsAnd_41 ?_
          refine x_k eX2_readsAnd_42 ?_
          obtain ⟨r4, hr, hm⟩ := xo_bind hm
          refine x_Vv1 eX2_readsAnd_45 kX2_make mX2_54 (t_X2_make hr) rfl (Nat.le_of_ble_eq_true rfl) ?_
          refine x_iinc1 eX2_readsAnd_48 rfl ?_
          refine x_goto eX2_readsAnd_51 ?_
          exact ih hm
        · rw [if_pos c] at hm
          refine x_k eX2_readsAnd_39 ?_
          obtain rfl := Option.some.inj hm
          exact x_zret eX2_readsAnd_40 (by decide) ⟨rfl, rfl⟩
set_option maxRecDepth 4000 in
theorem t_X2_readsAnd {o : Int32 × Int32 × Int32 × Int32 × Int32 × Int32 × (Nat → Int32)} {R : Nat → Int32 → Int32 → Int32 → Int32 → Int32 → Int32 → (Nat → Int32) → (Nat → Int32) → Option (Int32 × Int32 × Int32 × Int32 × Int32 × Int32 × (Nat → Int32))} (hR2 : ∀  {z_o_size : Int32} {z_o_year : Int32} {z_o_gone : Int32} {z_o_minds : Int32} {z_o_lasts : Int32} {z_r_size : Int32} {z_r_token : Int32} {z_r_place : Int32} {z_r_at : Int32} {z_r_open : Int32} {z_r_made : Int32} {z_t_size : Int32} {z_t_rule : Int32} {z_i_there : Int32} {z_i_rule : Int32} {z_i_size : Int32} {z_i_year : Int32} {z_i_gone : Int32} {z_i_minds : Int32} {z_i_lasts : Int32} {z_o_parent : Nat → Int32} {z_o_kind : Nat → Int32} {z_o_number : Nat → Int32} {z_o_odds : Nat → Int32} {z_o_above : Nat → Int32} {z_o_kidCount : Nat → Int32} {z_o_lead : Nat → Int32} {z_r_tape : Nat → Int32} {z_r_steps : Nat → Int32} {z_r_ends : Nat → Int32} {z_t_steps : Nat → Int32} {z_t_ends : Nat → Int32} {z_t_stack : Nat → Int32} {z_s_sort : Nat → Int32} {z_s_size : Nat → Int32} {z_s_items : Nat → Int32} {z_i_number : Nat → Int32} {z_i_odds : Nat → Int32} {z_x_prices : Nat → Int32} {z_x_facts : Nat → Int32} {z_x_laws : Nat → Int32} {z_x_clues : Nat → Int32} {r : Int32 × Int32 × Int32 × Int32 × Int32 × Int32 × (Nat → Int32)}, R 2 z_r_size z_r_token z_r_place z_r_at z_r_open z_r_made z_r_tape z_r_steps = some r → xt_M yX2_readsNot cX2_readsNot 2 (some .boolean) (d + 8) [.ref 9] (WX z_o_size z_o_year z_o_gone z_o_minds z_o_lasts z_r_size z_r_token z_r_place z_r_at z_r_open z_r_made z_t_size z_t_rule z_i_there z_i_rule z_i_size z_i_year z_i_gone z_i_minds z_i_lasts z_o_parent z_o_kind z_o_number z_o_odds z_o_above z_o_kidCount z_o_lead z_r_tape z_r_steps z_r_ends z_t_steps z_t_ends z_t_stack z_s_sort z_s_size z_s_items z_i_number z_i_odds z_x_prices z_x_facts z_x_laws z_x_clues) (xt_Ki r.1 (WX z_o_size z_o_year z_o_gone z_o_minds z_o_lasts z_r_size r.2.1 r.2.2.1 r.2.2.2.1 r.2.2.2.2.1 r.2.2.2.2.2.1 z_t_size z_t_rule z_i_there z_i_rule z_i_size z_i_year z_i_gone z_i_minds z_i_lasts z_o_parent z_o_kind z_o_number z_o_odds z_o_above z_o_kidCount z_o_lead z_r_tape r.2.2.2.2.2.2 z_r_ends z_t_steps z_t_ends z_t_stack z_s_sort z_s_size z_s_items z_i_number z_i_odds z_x_prices z_x_facts z_x_laws z_x_clues)))  (hm : sp_X2_readsAnd R r_size r_token r_place r_at r_open r_made r_tape r_steps = some o) : xt_M yX2_readsAnd cX2_readsAnd 2 (some .boolean) (d + 8 + 1) [.ref 9] (WX o_size o_year o_gone o_minds o_lasts r_size r_token r_place r_at r_open r_made t_size t_rule i_there i_rule i_size i_year i_gone i_minds i_lasts o_parent o_kind o_number o_odds o_above o_kidCount o_lead r_tape r_steps r_ends t_steps t_ends t_stack s_sort s_size s_items i_number i_odds x_prices x_facts x_laws x_clues) (xt_Ki o.1 (WX o_size o_year o_gone o_minds o_lasts r_size o.2.1 o.2.2.1 o.2.2.2.1 o.2.2.2.2.1 o.2.2.2.2.2.1 t_size t_rule i_there i_rule i_size i_year i_gone i_minds i_lasts o_parent o_kind o_number o_odds o_above o_kidCount o_lead r_tape o.2.2.2.2.2.2 r_ends t_steps t_ends t_stack s_sort s_size s_items i_number i_odds x_prices x_facts x_laws x_clues)) := by
  unfold sp_X2_readsAnd at hm
  refine xt_M.go (own := RX2) (lv := [some (.ref 9), none]) rfl rfl (Nat.le_of_ble_eq_true rfl) rfl ?_
  refine x_aload0 eX2_readsAnd_0 ?_
  obtain ⟨r1, hr, hm⟩ := xo_bind hm
  refine x_Vi0 eX2_readsAnd_1 kX2_readsNot mX2_58 (hR2 hr) rfl (Nat.le_of_ble_eq_true rfl) ?_
  refine x_if_ne eX2_readsAnd_4 (fun c => ?_) (fun c => ?_)
  · rw [if_neg c] at hm
    refine x_k eX2_readsAnd_9 ?_
    refine x_istore1 eX2_readsAnd_10 rfl ?_
    exact l_X2_readsAnd_11 hR2 _ hm
  · rw [if_pos c] at hm
    refine x_k eX2_readsAnd_7 ?_
    obtain rfl := Option.some.inj hm
    exact x_zret eX2_readsAnd_8 (by decide) ⟨rfl, rfl⟩
set_option maxRecDepth 4000 in
theorem t_X2_readsNot {o : Int32 × Int32 × Int32 × Int32 × Int32 × Int32 × (Nat → Int32)} {R : Nat → Int32 → Int32 → Int32 → Int32 → Int32 → Int32 → (Nat → Int32) → (Nat → Int32) → Option (Int32 × Int32 × Int32 × Int32 × Int32 × Int32 × (Nat → Int32))} (hR3 : ∀  {z_o_size : Int32} {z_o_year : Int32} {z_o_gone : Int32} {z_o_minds : Int32} {z_o_lasts : Int32} {z_r_size : Int32} {z_r_token : Int32} {z_r_place : Int32} {z_r_at : Int32} {z_r_open : Int32} {z_r_made : Int32} {z_t_size : Int32} {z_t_rule : Int32} {z_i_there : Int32} {z_i_rule : Int32} {z_i_size : Int32} {z_i_year : Int32} {z_i_gone : Int32} {z_i_minds : Int32} {z_i_lasts : Int32} {z_o_parent : Nat → Int32} {z_o_kind : Nat → Int32} {z_o_number : Nat → Int32} {z_o_odds : Nat → Int32} {z_o_above : Nat → Int32} {z_o_kidCount : Nat → Int32} {z_o_lead : Nat → Int32} {z_r_tape : Nat → Int32} {z_r_steps : Nat → Int32} {z_r_ends : Nat → Int32} {z_t_steps : Nat → Int32} {z_t_ends : Nat → Int32} {z_t_stack : Nat → Int32} {z_s_sort : Nat → Int32} {z_s_size : Nat → Int32} {z_s_items : Nat → Int32} {z_i_number : Nat → Int32} {z_i_odds : Nat → Int32} {z_x_prices : Nat → Int32} {z_x_facts : Nat → Int32} {z_x_laws : Nat → Int32} {z_x_clues : Nat → Int32} {r : Int32 × Int32 × Int32 × Int32 × Int32 × Int32 × (Nat → Int32)}, R 3 z_r_size z_r_token z_r_place z_r_at z_r_open z_r_made z_r_tape z_r_steps = some r → xt_M yX2_readsComparison cX2_readsComparison 2 (some .boolean) (d + 8) [.ref 9] (WX z_o_size z_o_year z_o_gone z_o_minds z_o_lasts z_r_size z_r_token z_r_place z_r_at z_r_open z_r_made z_t_size z_t_rule z_i_there z_i_rule z_i_size z_i_year z_i_gone z_i_minds z_i_lasts z_o_parent z_o_kind z_o_number z_o_odds z_o_above z_o_kidCount z_o_lead z_r_tape z_r_steps z_r_ends z_t_steps z_t_ends z_t_stack z_s_sort z_s_size z_s_items z_i_number z_i_odds z_x_prices z_x_facts z_x_laws z_x_clues) (xt_Ki r.1 (WX z_o_size z_o_year z_o_gone z_o_minds z_o_lasts z_r_size r.2.1 r.2.2.1 r.2.2.2.1 r.2.2.2.2.1 r.2.2.2.2.2.1 z_t_size z_t_rule z_i_there z_i_rule z_i_size z_i_year z_i_gone z_i_minds z_i_lasts z_o_parent z_o_kind z_o_number z_o_odds z_o_above z_o_kidCount z_o_lead z_r_tape r.2.2.2.2.2.2 z_r_ends z_t_steps z_t_ends z_t_stack z_s_sort z_s_size z_s_items z_i_number z_i_odds z_x_prices z_x_facts z_x_laws z_x_clues)))  (hm : sp_X2_readsNot R r_size r_token r_place r_at r_open r_made r_tape r_steps = some o) : xt_M yX2_readsNot cX2_readsNot 2 (some .boolean) (d + 8 + 1) [.ref 9] (WX o_size o_year o_gone o_minds o_lasts r_size r_token r_place r_at r_open r_made t_size t_rule i_there i_rule i_size i_year i_gone i_minds i_lasts o_parent o_kind o_number o_odds o_above o_kidCount o_lead r_tape r_steps r_ends t_steps t_ends t_stack s_sort s_size s_items i_number i_odds x_prices x_facts x_laws x_clues) (xt_Ki o.1 (WX o_size o_year o_gone o_minds o_lasts r_size o.2.1 o.2.2.1 o.2.2.2.1 o.2.2.2.2.1 o.2.2.2.2.2.1 t_size t_rule i_there i_rule i_size i_year i_gone i_minds i_lasts o_parent o_kind o_number o_odds o_above o_kidCount o_lead r_tape o.2.2.2.2.2.2 r_ends t_steps t_ends t_stack s_sort s_size s_items i_number i_odds x_prices x_facts x_laws x_clues)) := by
  unfold sp_X2_readsNot at hm
  refine xt_M.go (own := RX2) (lv := [some (.ref 9), none]) rfl rfl (Nat.le_of_ble_eq_true rfl) rfl ?_
  refine x_aload0 eX2_readsNot_0 ?_
  refine x_k eX2_readsNot_1 ?_
  obtain ⟨r1, hr, hm⟩ := xo_bind hm
  refine x_Vi1 eX2_readsNot_4 kX2_opensAll mX2_61 (t_X2_opensAll hr) rfl (Nat.le_of_ble_eq_true rfl) ?_
  refine x_istore1 eX2_readsNot_7 rfl ?_
  refine x_aload0 eX2_readsNot_8 ?_
  obtain ⟨r2, hr, hm⟩ := xo_bind hm
  refine x_Vi0 eX2_readsNot_9 kX2_readsComparison mX2_65 (hR3 hr) rfl (Nat.le_of_ble_eq_true rfl) ?_
  refine x_if_eq eX2_readsNot_12 (fun c => ?_) (fun c => ?_)
  · rw [if_pos c] at hm
    refine x_k eX2_readsNot_30 ?_
    obtain rfl := Option.some.inj hm
    exact x_zret eX2_readsNot_31 (by decide) ⟨rfl, rfl⟩
  · rw [if_neg c] at hm
    refine x_aload0 eX2_readsNot_15 ?_
    refine x_iload1 eX2_readsNot_16 ?_
    refine x_k eX2_readsNot_17 ?_
    obtain ⟨r3, hr, hm⟩ := xo_bind hm
    refine x_Vi2 eX2_readsNot_20 kX2_closes mX2_68 (t_X2_closes hr) rfl (Nat.le_of_ble_eq_true rfl) ?_
    refine x_if_eq eX2_readsNot_23 (fun c => ?_) (fun c => ?_)
    · rw [if_pos c] at hm
      refine x_k eX2_readsNot_30 ?_
      obtain rfl := Option.some.inj hm
      exact x_zret eX2_readsNot_31 (by decide) ⟨rfl, rfl⟩
    · rw [if_neg c] at hm
      refine x_k eX2_readsNot_26 ?_
      refine x_goto eX2_readsNot_27 ?_
      obtain rfl := Option.some.inj hm
      exact x_zret eX2_readsNot_31 (by decide) ⟨rfl, rfl⟩
set_option maxRecDepth 4000 in
theorem t_X2_readsComparison {o : Int32 × Int32 × Int32 × Int32 × Int32 × Int32 × (Nat → Int32)} {R : Nat → Int32 → Int32 → Int32 → Int32 → Int32 → Int32 → (Nat → Int32) → (Nat → Int32) → Option (Int32 × Int32 × Int32 × Int32 × Int32 × Int32 × (Nat → Int32))} (hR4 : ∀  {z_o_size : Int32} {z_o_year : Int32} {z_o_gone : Int32} {z_o_minds : Int32} {z_o_lasts : Int32} {z_r_size : Int32} {z_r_token : Int32} {z_r_place : Int32} {z_r_at : Int32} {z_r_open : Int32} {z_r_made : Int32} {z_t_size : Int32} {z_t_rule : Int32} {z_i_there : Int32} {z_i_rule : Int32} {z_i_size : Int32} {z_i_year : Int32} {z_i_gone : Int32} {z_i_minds : Int32} {z_i_lasts : Int32} {z_o_parent : Nat → Int32} {z_o_kind : Nat → Int32} {z_o_number : Nat → Int32} {z_o_odds : Nat → Int32} {z_o_above : Nat → Int32} {z_o_kidCount : Nat → Int32} {z_o_lead : Nat → Int32} {z_r_tape : Nat → Int32} {z_r_steps : Nat → Int32} {z_r_ends : Nat → Int32} {z_t_steps : Nat → Int32} {z_t_ends : Nat → Int32} {z_t_stack : Nat → Int32} {z_s_sort : Nat → Int32} {z_s_size : Nat → Int32} {z_s_items : Nat → Int32} {z_i_number : Nat → Int32} {z_i_odds : Nat → Int32} {z_x_prices : Nat → Int32} {z_x_facts : Nat → Int32} {z_x_laws : Nat → Int32} {z_x_clues : Nat → Int32} {r : Int32 × Int32 × Int32 × Int32 × Int32 × Int32 × (Nat → Int32)}, R 4 z_r_size z_r_token z_r_place z_r_at z_r_open z_r_made z_r_tape z_r_steps = some r → xt_M yX2_readsSum cX2_readsSum 3 (some .boolean) (d + 8) [.ref 9] (WX z_o_size z_o_year z_o_gone z_o_minds z_o_lasts z_r_size z_r_token z_r_place z_r_at z_r_open z_r_made z_t_size z_t_rule z_i_there z_i_rule z_i_size z_i_year z_i_gone z_i_minds z_i_lasts z_o_parent z_o_kind z_o_number z_o_odds z_o_above z_o_kidCount z_o_lead z_r_tape z_r_steps z_r_ends z_t_steps z_t_ends z_t_stack z_s_sort z_s_size z_s_items z_i_number z_i_odds z_x_prices z_x_facts z_x_laws z_x_clues) (xt_Ki r.1 (WX z_o_size z_o_year z_o_gone z_o_minds z_o_lasts z_r_size r.2.1 r.2.2.1 r.2.2.2.1 r.2.2.2.2.1 r.2.2.2.2.2.1 z_t_size z_t_rule z_i_there z_i_rule z_i_size z_i_year z_i_gone z_i_minds z_i_lasts z_o_parent z_o_kind z_o_number z_o_odds z_o_above z_o_kidCount z_o_lead z_r_tape r.2.2.2.2.2.2 z_r_ends z_t_steps z_t_ends z_t_stack z_s_sort z_s_size z_s_items z_i_number z_i_odds z_x_prices z_x_facts z_x_laws z_x_clues)))  (hm : sp_X2_readsComparison R r_size r_token r_place r_at r_open r_made r_tape r_steps = some o) : xt_M yX2_readsComparison cX2_readsComparison 2 (some .boolean) (d + 8 + 1) [.ref 9] (WX o_size o_year o_gone o_minds o_lasts r_size r_token r_place r_at r_open r_made t_size t_rule i_there i_rule i_size i_year i_gone i_minds i_lasts o_parent o_kind o_number o_odds o_above o_kidCount o_lead r_tape r_steps r_ends t_steps t_ends t_stack s_sort s_size s_items i_number i_odds x_prices x_facts x_laws x_clues) (xt_Ki o.1 (WX o_size o_year o_gone o_minds o_lasts r_size o.2.1 o.2.2.1 o.2.2.2.1 o.2.2.2.2.1 o.2.2.2.2.2.1 t_size t_rule i_there i_rule i_size i_year i_gone i_minds i_lasts o_parent o_kind o_number o_odds o_above o_kidCount o_lead r_tape o.2.2.2.2.2.2 r_ends t_steps t_ends t_stack s_sort s_size s_items i_number i_odds x_prices x_facts x_laws x_clues)) := by
  unfold sp_X2_readsComparison at hm
  refine xt_M.go (own := RX2) (lv := [some (.ref 9), none]) rfl rfl (Nat.le_of_ble_eq_true rfl) rfl ?_
  refine x_aload0 eX2_readsComparison_0 ?_
  obtain ⟨r1, hr, hm⟩ := xo_bind hm
  refine x_Vi0 eX2_readsComparison_1 kX2_readsSum mX2_72 (hR4 hr) rfl (Nat.le_of_ble_eq_true rfl) ?_
  refine x_if_ne eX2_readsComparison_4 (fun c => ?_) (fun c => ?_)
  · rw [if_neg c] at hm
    refine x_aload0 eX2_readsComparison_9 ?_
    refine x_get eX2_readsComparison_10 fX2_19 rfl rfl ?_
    refine x_k eX2_readsComparison_13 ?_
    refine x_icmp_eq eX2_readsComparison_16 (fun c => ?_) (fun c => ?_)
    · rw [if_pos c] at hm
      refine x_aload0 eX2_readsComparison_31 ?_
      refine x_get eX2_readsComparison_32 fX2_19 rfl rfl ?_
      refine x_istore1 eX2_readsComparison_35 rfl ?_
      refine x_aload0 eX2_readsComparison_36 ?_
      obtain ⟨r2, hr, hm⟩ := xo_bind hm
      refine x_Vv0 eX2_readsComparison_37 kX2_next mX2_40 (t_X2_next hr) rfl (Nat.le_of_ble_eq_true rfl) ?_
      refine x_aload0 eX2_readsComparison_40 ?_
      obtain ⟨r3, hr, hm⟩ := xo_bind hm
      refine x_Vi0 eX2_readsComparison_41 kX2_readsSum mX2_72 (hR4 hr) rfl (Nat.le_of_ble_eq_true rfl) ?_
      refine x_if_ne eX2_readsComparison_44 (fun c => ?_) (fun c => ?_)
      · rw [if_neg c] at hm
        refine x_aload0 eX2_readsComparison_49 ?_
        refine x_iload1 eX2_readsComparison_50 ?_
        obtain ⟨r4, hr, hm⟩ := xo_bind hm
        refine x_Vv1 eX2_readsComparison_51 kX2_make mX2_54 (t_X2_make hr) rfl (Nat.le_of_ble_eq_true rfl) ?_
        refine x_k eX2_readsComparison_54 ?_
        obtain rfl := Option.some.inj hm
        exact x_zret eX2_readsComparison_55 (by decide) ⟨rfl, rfl⟩
      · rw [if_pos c] at hm
        refine x_k eX2_readsComparison_47 ?_
        obtain rfl := Option.some.inj hm
        exact x_zret eX2_readsComparison_48 (by decide) ⟨rfl, rfl⟩
    · rw [if_neg c] at hm
      refine x_aload0 eX2_readsComparison_19 ?_
      refine x_get eX2_readsComparison_20 fX2_19 rfl rfl ?_
      refine x_k eX2_readsComparison_23 ?_
      refine x_icmp_eq eX2_readsComparison_26 (fun c => ?_) (fun c => ?_)
      · rw [if_pos c] at hm
        refine x_aload0 eX2_readsComparison_31 ?_
        refine x_get eX2_readsComparison_32 fX2_19 rfl rfl ?_
        refine x_istore1 eX2_readsComparison_35 rfl ?_
        refine x_aload0 eX2_readsComparison_36 ?_
        obtain ⟨r5, hr, hm⟩ := xo_bind hm
        refine x_Vv0 eX2_readsComparison_37 kX2_next mX2_40 (t_X2_next hr) rfl (Nat.le_of_ble_eq_true rfl) ?_
        refine x_aload0 eX2_readsComparison_40 ?_
        obtain ⟨r6, hr, hm⟩ := xo_bind hm
        refine x_Vi0 eX2_readsComparison_41 kX2_readsSum mX2_72 (hR4 hr) rfl (Nat.le_of_ble_eq_true rfl) ?_
        refine x_if_ne eX2_readsComparison_44 (fun c => ?_) (fun c => ?_)
        · rw [if_neg c] at hm
          refine x_aload0 eX2_readsComparison_49 ?_
          refine x_iload1 eX2_readsComparison_50 ?_
          obtain ⟨r7, hr, hm⟩ := xo_bind hm
          refine x_Vv1 eX2_readsComparison_51 kX2_make mX2_54 (t_X2_make hr) rfl (Nat.le_of_ble_eq_true rfl) ?_
          refine x_k eX2_readsComparison_54 ?_
          obtain rfl := Option.some.inj hm
          exact x_zret eX2_readsComparison_55 (by decide) ⟨rfl, rfl⟩
        · rw [if_pos c] at hm
          refine x_k eX2_readsComparison_47 ?_
          obtain rfl := Option.some.inj hm
          exact x_zret eX2_readsComparison_48 (by decide) ⟨rfl, rfl⟩
      · rw [if_neg c] at hm
        refine x_k eX2_readsComparison_29 ?_
        obtain rfl := Option.some.inj hm
        exact x_zret eX2_readsComparison_30 (by decide) ⟨rfl, rfl⟩
  · rw [if_pos c] at hm
    refine x_k eX2_readsComparison_7 ?_
    obtain rfl := Option.some.inj hm
    exact x_zret eX2_readsComparison_8 (by decide) ⟨rfl, rfl⟩
set_option maxRecDepth 4000 in
theorem l_X2_readsSum_11 {o : Int32 × Int32 × Int32 × Int32 × Int32 × Int32 × (Nat → Int32)} {R : Nat → Int32 → Int32 → Int32 → Int32 → Int32 → Int32 → (Nat → Int32) → (Nat → Int32) → Option (Int32 × Int32 × Int32 × Int32 × Int32 × Int32 × (Nat → Int32))} (hR5 : ∀  {z_o_size : Int32} {z_o_year : Int32} {z_o_gone : Int32} {z_o_minds : Int32} {z_o_lasts : Int32} {z_r_size : Int32} {z_r_token : Int32} {z_r_place : Int32} {z_r_at : Int32} {z_r_open : Int32} {z_r_made : Int32} {z_t_size : Int32} {z_t_rule : Int32} {z_i_there : Int32} {z_i_rule : Int32} {z_i_size : Int32} {z_i_year : Int32} {z_i_gone : Int32} {z_i_minds : Int32} {z_i_lasts : Int32} {z_o_parent : Nat → Int32} {z_o_kind : Nat → Int32} {z_o_number : Nat → Int32} {z_o_odds : Nat → Int32} {z_o_above : Nat → Int32} {z_o_kidCount : Nat → Int32} {z_o_lead : Nat → Int32} {z_r_tape : Nat → Int32} {z_r_steps : Nat → Int32} {z_r_ends : Nat → Int32} {z_t_steps : Nat → Int32} {z_t_ends : Nat → Int32} {z_t_stack : Nat → Int32} {z_s_sort : Nat → Int32} {z_s_size : Nat → Int32} {z_s_items : Nat → Int32} {z_i_number : Nat → Int32} {z_i_odds : Nat → Int32} {z_x_prices : Nat → Int32} {z_x_facts : Nat → Int32} {z_x_laws : Nat → Int32} {z_x_clues : Nat → Int32} {r : Int32 × Int32 × Int32 × Int32 × Int32 × Int32 × (Nat → Int32)}, R 5 z_r_size z_r_token z_r_place z_r_at z_r_open z_r_made z_r_tape z_r_steps = some r → xt_M yX2_readsTerm cX2_readsTerm 2 (some .boolean) (d + 8) [.ref 9] (WX z_o_size z_o_year z_o_gone z_o_minds z_o_lasts z_r_size z_r_token z_r_place z_r_at z_r_open z_r_made z_t_size z_t_rule z_i_there z_i_rule z_i_size z_i_year z_i_gone z_i_minds z_i_lasts z_o_parent z_o_kind z_o_number z_o_odds z_o_above z_o_kidCount z_o_lead z_r_tape z_r_steps z_r_ends z_t_steps z_t_ends z_t_stack z_s_sort z_s_size z_s_items z_i_number z_i_odds z_x_prices z_x_facts z_x_laws z_x_clues) (xt_Ki r.1 (WX z_o_size z_o_year z_o_gone z_o_minds z_o_lasts z_r_size r.2.1 r.2.2.1 r.2.2.2.1 r.2.2.2.2.1 r.2.2.2.2.2.1 z_t_size z_t_rule z_i_there z_i_rule z_i_size z_i_year z_i_gone z_i_minds z_i_lasts z_o_parent z_o_kind z_o_number z_o_odds z_o_above z_o_kidCount z_o_lead z_r_tape r.2.2.2.2.2.2 z_r_ends z_t_steps z_t_ends z_t_stack z_s_sort z_s_size z_s_items z_i_number z_i_odds z_x_prices z_x_facts z_x_laws z_x_clues))) {r_size : Int32} {r_tape : Nat → Int32} : ∀ (n : Nat) {u1 : Int32} {r_token : Int32} {r_place : Int32} {r_at : Int32} {r_open : Int32} {r_made : Int32} {r_steps : Nat → Int32}, sp_X2_readsSum_11 R r_size r_tape n u1 r_token r_place r_at r_open r_made r_steps = some o → xt_T RX2 cX2_readsSum 3 (some .boolean) (d + 8 + 1) (xt_Ki o.1 (WX o_size o_year o_gone o_minds o_lasts r_size o.2.1 o.2.2.1 o.2.2.2.1 o.2.2.2.2.1 o.2.2.2.2.2.1 t_size t_rule i_there i_rule i_size i_year i_gone i_minds i_lasts o_parent o_kind o_number o_odds o_above o_kidCount o_lead r_tape o.2.2.2.2.2.2 r_ends t_steps t_ends t_stack s_sort s_size s_items i_number i_odds x_prices x_facts x_laws x_clues)) 11 [some (.ref 9), some (.int u1), none] [] (WX o_size o_year o_gone o_minds o_lasts r_size r_token r_place r_at r_open r_made t_size t_rule i_there i_rule i_size i_year i_gone i_minds i_lasts o_parent o_kind o_number o_odds o_above o_kidCount o_lead r_tape r_steps r_ends t_steps t_ends t_stack s_sort s_size s_items i_number i_odds x_prices x_facts x_laws x_clues) := by
  intro n
  induction n with
  | zero => intro u1 r_token r_place r_at r_open r_made r_steps hm; rw [sp_X2_readsSum_11] at hm; cases hm
  | succ n ih =>
    intro u1 r_token r_place r_at r_open r_made r_steps hm
    rw [sp_X2_readsSum_11] at hm
    refine x_iload1 eX2_readsSum_11 ?_
    refine x_k eX2_readsSum_12 ?_
    refine x_icmp_ge eX2_readsSum_15 (fun c => ?_) (fun c => ?_)
    · rw [if_pos c] at hm
      refine x_k eX2_readsSum_67 ?_
      obtain rfl := Option.some.inj hm
      exact x_zret eX2_readsSum_68 (by decide) ⟨rfl, rfl⟩
    · rw [if_neg c] at hm
      refine x_aload0 eX2_readsSum_18 ?_
      refine x_get eX2_readsSum_19 fX2_19 rfl rfl ?_
      refine x_k eX2_readsSum_22 ?_
      refine x_icmp_eq eX2_readsSum_25 (fun c => ?_) (fun c => ?_)
      · rw [if_pos c] at hm
        refine x_aload0 eX2_readsSum_38 ?_
        refine x_get eX2_readsSum_39 fX2_19 rfl rfl ?_
        refine x_istore2 eX2_readsSum_42 rfl ?_
        refine x_aload0 eX2_readsSum_43 ?_
        obtain ⟨r2, hr, hm⟩ := xo_bind hm
        refine x_Vv0 eX2_readsSum_44 kX2_next mX2_40 (t_X2_next hr) rfl (Nat.le_of_ble_eq_true rfl) ?_
        refine x_aload0 eX2_readsSum_47 ?_
        obtain ⟨r3, hr, hm⟩ := xo_bind hm
        refine x_Vi0 eX2_readsSum_48 kX2_readsTerm mX2_75 (hR5 hr) rfl (Nat.le_of_ble_eq_true rfl) ?_
        refine x_if_ne eX2_readsSum_51 (fun c => ?_) (fun c => ?_)
        · rw [if_neg c] at hm
          refine x_aload0 eX2_readsSum_56 ?_
          refine x_iload2 eX2_readsSum_57 ?_
          obtain ⟨r4, hr, hm⟩ := xo_bind hm
          refine x_Vv1 eX2_readsSum_58 kX2_make mX2_54 (t_X2_make hr) rfl (Nat.le_of_ble_eq_true rfl) ?_
          refine x_iinc1 eX2_readsSum_61 rfl ?_
          refine x_goto eX2_readsSum_64 ?_
          exact x_weak (by simp [xt_le]) (ih hm)
        · rw [if_pos c] at hm
          refine x_k eX2_readsSum_54 ?_
          obtain rfl := Option.some.inj hm
          exact x_zret eX2_readsSum_55 (by decide) ⟨rfl, rfl⟩
      · rw [if_neg c] at hm
        refine x_aload0 eX2_readsSum_28 ?_
        refine x_get eX2_readsSum_29 fX2_19 rfl rfl ?_
        refine x_k eX2_readsSum_32 ?_
        refine x_icmp_ne eX2_readsSum_35 (fun c => ?_) (fun c => ?_)
        · rw [if_neg c] at hm
          refine x_k eX2_readsSum_67 ?_
          obtain rfl := Option.some.inj hm
          exact x_zret eX2_readsSum_68 (by decide) ⟨rfl, rfl⟩
        · rw [if_pos c] at hm
          refine x_aload0 eX2_readsSum_38 ?_
          refine x_get eX2_readsSum_39 fX2_19 rfl rfl ?_
          refine x_istore2 eX2_readsSum_42 rfl ?_
          refine x_aload0 eX2_readsSum_43 ?_
          obtain ⟨r5, hr, hm⟩ := xo_bind hm
          refine x_Vv0 eX2_readsSum_44 kX2_next mX2_40 (t_X2_next hr) rfl (Nat.le_of_ble_eq_true rfl) ?_
          refine x_aload0 eX2_readsSum_47 ?_
          obtain ⟨r6, hr, hm⟩ := xo_bind hm
          refine x_Vi0 eX2_readsSum_48 kX2_readsTerm mX2_75 (hR5 hr) rfl (Nat.le_of_ble_eq_true rfl) ?_
          refine x_if_ne eX2_readsSum_51 (fun c => ?_) (fun c => ?_)
          · rw [if_neg c] at hm
            refine x_aload0 eX2_readsSum_56 ?_
            refine x_iload2 eX2_readsSum_57 ?_
            obtain ⟨r7, hr, hm⟩ := xo_bind hm
            refine x_Vv1 eX2_readsSum_58 kX2_make mX2_54 (t_X2_make hr) rfl (Nat.le_of_ble_eq_true rfl) ?_
            refine x_iinc1 eX2_readsSum_61 rfl ?_
            refine x_goto eX2_readsSum_64 ?_
            exact x_weak (by simp [xt_le]) (ih hm)
          · rw [if_pos c] at hm
            refine x_k eX2_readsSum_54 ?_
            obtain rfl := Option.some.inj hm
            exact x_zret eX2_readsSum_55 (by decide) ⟨rfl, rfl⟩
set_option maxRecDepth 4000 in
theorem t_X2_readsSum {o : Int32 × Int32 × Int32 × Int32 × Int32 × Int32 × (Nat → Int32)} {R : Nat → Int32 → Int32 → Int32 → Int32 → Int32 → Int32 → (Nat → Int32) → (Nat → Int32) → Option (Int32 × Int32 × Int32 × Int32 × Int32 × Int32 × (Nat → Int32))} (hR5 : ∀  {z_o_size : Int32} {z_o_year : Int32} {z_o_gone : Int32} {z_o_minds : Int32} {z_o_lasts : Int32} {z_r_size : Int32} {z_r_token : Int32} {z_r_place : Int32} {z_r_at : Int32} {z_r_open : Int32} {z_r_made : Int32} {z_t_size : Int32} {z_t_rule : Int32} {z_i_there : Int32} {z_i_rule : Int32} {z_i_size : Int32} {z_i_year : Int32} {z_i_gone : Int32} {z_i_minds : Int32} {z_i_lasts : Int32} {z_o_parent : Nat → Int32} {z_o_kind : Nat → Int32} {z_o_number : Nat → Int32} {z_o_odds : Nat → Int32} {z_o_above : Nat → Int32} {z_o_kidCount : Nat → Int32} {z_o_lead : Nat → Int32} {z_r_tape : Nat → Int32} {z_r_steps : Nat → Int32} {z_r_ends : Nat → Int32} {z_t_steps : Nat → Int32} {z_t_ends : Nat → Int32} {z_t_stack : Nat → Int32} {z_s_sort : Nat → Int32} {z_s_size : Nat → Int32} {z_s_items : Nat → Int32} {z_i_number : Nat → Int32} {z_i_odds : Nat → Int32} {z_x_prices : Nat → Int32} {z_x_facts : Nat → Int32} {z_x_laws : Nat → Int32} {z_x_clues : Nat → Int32} {r : Int32 × Int32 × Int32 × Int32 × Int32 × Int32 × (Nat → Int32)}, R 5 z_r_size z_r_token z_r_place z_r_at z_r_open z_r_made z_r_tape z_r_steps = some r → xt_M yX2_readsTerm cX2_readsTerm 2 (some .boolean) (d + 8) [.ref 9] (WX z_o_size z_o_year z_o_gone z_o_minds z_o_lasts z_r_size z_r_token z_r_place z_r_at z_r_open z_r_made z_t_size z_t_rule z_i_there z_i_rule z_i_size z_i_year z_i_gone z_i_minds z_i_lasts z_o_parent z_o_kind z_o_number z_o_odds z_o_above z_o_kidCount z_o_lead z_r_tape z_r_steps z_r_ends z_t_steps z_t_ends z_t_stack z_s_sort z_s_size z_s_items z_i_number z_i_odds z_x_prices z_x_facts z_x_laws z_x_clues) (xt_Ki r.1 (WX z_o_size z_o_year z_o_gone z_o_minds z_o_lasts z_r_size r.2.1 r.2.2.1 r.2.2.2.1 r.2.2.2.2.1 r.2.2.2.2.2.1 z_t_size z_t_rule z_i_there z_i_rule z_i_size z_i_year z_i_gone z_i_minds z_i_lasts z_o_parent z_o_kind z_o_number z_o_odds z_o_above z_o_kidCount z_o_lead z_r_tape r.2.2.2.2.2.2 z_r_ends z_t_steps z_t_ends z_t_stack z_s_sort z_s_size z_s_items z_i_number z_i_odds z_x_prices z_x_facts z_x_laws z_x_clues)))  (hm : sp_X2_readsSum R r_size r_token r_place r_at r_open r_made r_tape r_steps = some o) : xt_M yX2_readsSum cX2_readsSum 3 (some .boolean) (d + 8 + 1) [.ref 9] (WX o_size o_year o_gone o_minds o_lasts r_size r_token r_place r_at r_open r_made t_size t_rule i_there i_rule i_size i_year i_gone i_minds i_lasts o_parent o_kind o_number o_odds o_above o_kidCount o_lead r_tape r_steps r_ends t_steps t_ends t_stack s_sort s_size s_items i_number i_odds x_prices x_facts x_laws x_clues) (xt_Ki o.1 (WX o_size o_year o_gone o_minds o_lasts r_size o.2.1 o.2.2.1 o.2.2.2.1 o.2.2.2.2.1 o.2.2.2.2.2.1 t_size t_rule i_there i_rule i_size i_year i_gone i_minds i_lasts o_parent o_kind o_number o_odds o_above o_kidCount o_lead r_tape o.2.2.2.2.2.2 r_ends t_steps t_ends t_stack s_sort s_size s_items i_number i_odds x_prices x_facts x_laws x_clues)) := by
  unfold sp_X2_readsSum at hm
  refine xt_M.go (own := RX2) (lv := [some (.ref 9), none, none]) rfl rfl (Nat.le_of_ble_eq_true rfl) rfl ?_
  refine x_aload0 eX2_readsSum_0 ?_
  obtain ⟨r1, hr, hm⟩ := xo_bind hm
  refine x_Vi0 eX2_readsSum_1 kX2_readsTerm mX2_75 (hR5 hr) rfl (Nat.le_of_ble_eq_true rfl) ?_
  refine x_if_ne eX2_readsSum_4 (fun c => ?_) (fun c => ?_)
  · rw [if_neg c] at hm
    refine x_k eX2_readsSum_9 ?_
    refine x_istore1 eX2_readsSum_10 rfl ?_
    exact l_X2_readsSum_11 hR5 _ hm
  · rw [if_pos c] at hm
    refine x_k eX2_readsSum_7 ?_
    obtain rfl := Option.some.inj hm
    exact x_zret eX2_readsSum_8 (by decide) ⟨rfl, rfl⟩
set_option maxRecDepth 4000 in
theorem l_X2_readsTerm_11 {o : Int32 × Int32 × Int32 × Int32 × Int32 × Int32 × (Nat → Int32)} {R : Nat → Int32 → Int32 → Int32 → Int32 → Int32 → Int32 → (Nat → Int32) → (Nat → Int32) → Option (Int32 × Int32 × Int32 × Int32 × Int32 × Int32 × (Nat → Int32))} (hR6 : ∀  {z_o_size : Int32} {z_o_year : Int32} {z_o_gone : Int32} {z_o_minds : Int32} {z_o_lasts : Int32} {z_r_size : Int32} {z_r_token : Int32} {z_r_place : Int32} {z_r_at : Int32} {z_r_open : Int32} {z_r_made : Int32} {z_t_size : Int32} {z_t_rule : Int32} {z_i_there : Int32} {z_i_rule : Int32} {z_i_size : Int32} {z_i_year : Int32} {z_i_gone : Int32} {z_i_minds : Int32} {z_i_lasts : Int32} {z_o_parent : Nat → Int32} {z_o_kind : Nat → Int32} {z_o_number : Nat → Int32} {z_o_odds : Nat → Int32} {z_o_above : Nat → Int32} {z_o_kidCount : Nat → Int32} {z_o_lead : Nat → Int32} {z_r_tape : Nat → Int32} {z_r_steps : Nat → Int32} {z_r_ends : Nat → Int32} {z_t_steps : Nat → Int32} {z_t_ends : Nat → Int32} {z_t_stack : Nat → Int32} {z_s_sort : Nat → Int32} {z_s_size : Nat → Int32} {z_s_items : Nat → Int32} {z_i_number : Nat → Int32} {z_i_odds : Nat → Int32} {z_x_prices : Nat → Int32} {z_x_facts : Nat → Int32} {z_x_laws : Nat → Int32} {z_x_clues : Nat → Int32} {r : Int32 × Int32 × Int32 × Int32 × Int32 × Int32 × (Nat → Int32)}, R 6 z_r_size z_r_token z_r_place z_r_at z_r_open z_r_made z_r_tape z_r_steps = some r → xt_M yX2_readsOne cX2_readsOne 2 (some .boolean) (d + 8) [.ref 9] (WX z_o_size z_o_year z_o_gone z_o_minds z_o_lasts z_r_size z_r_token z_r_place z_r_at z_r_open z_r_made z_t_size z_t_rule z_i_there z_i_rule z_i_size z_i_year z_i_gone z_i_minds z_i_lasts z_o_parent z_o_kind z_o_number z_o_odds z_o_above z_o_kidCount z_o_lead z_r_tape z_r_steps z_r_ends z_t_steps z_t_ends z_t_stack z_s_sort z_s_size z_s_items z_i_number z_i_odds z_x_prices z_x_facts z_x_laws z_x_clues) (xt_Ki r.1 (WX z_o_size z_o_year z_o_gone z_o_minds z_o_lasts z_r_size r.2.1 r.2.2.1 r.2.2.2.1 r.2.2.2.2.1 r.2.2.2.2.2.1 z_t_size z_t_rule z_i_there z_i_rule z_i_size z_i_year z_i_gone z_i_minds z_i_lasts z_o_parent z_o_kind z_o_number z_o_odds z_o_above z_o_kidCount z_o_lead z_r_tape r.2.2.2.2.2.2 z_r_ends z_t_steps z_t_ends z_t_stack z_s_sort z_s_size z_s_items z_i_number z_i_odds z_x_prices z_x_facts z_x_laws z_x_clues))) {r_size : Int32} {r_tape : Nat → Int32} : ∀ (n : Nat) {u1 : Int32} {r_token : Int32} {r_place : Int32} {r_at : Int32} {r_open : Int32} {r_made : Int32} {r_steps : Nat → Int32}, sp_X2_readsTerm_11 R r_size r_tape n u1 r_token r_place r_at r_open r_made r_steps = some o → xt_T RX2 cX2_readsTerm 2 (some .boolean) (d + 8 + 1) (xt_Ki o.1 (WX o_size o_year o_gone o_minds o_lasts r_size o.2.1 o.2.2.1 o.2.2.2.1 o.2.2.2.2.1 o.2.2.2.2.2.1 t_size t_rule i_there i_rule i_size i_year i_gone i_minds i_lasts o_parent o_kind o_number o_odds o_above o_kidCount o_lead r_tape o.2.2.2.2.2.2 r_ends t_steps t_ends t_stack s_sort s_size s_items i_number i_odds x_prices x_facts x_laws x_clues)) 11 [some (.ref 9), some (.int u1)] [] (WX o_size o_year o_gone o_minds o_lasts r_size r_token r_place r_at r_open r_made t_size t_rule i_there i_rule i_size i_year i_gone i_minds i_lasts o_parent o_kind o_number o_odds o_above o_kidCount o_lead r_tape r_steps r_ends t_steps t_ends t_stack s_sort s_size s_items i_number i_odds x_prices x_facts x_laws x_clues) := by
  intro n
  induction n with
  | zero => intro u1 r_token r_place r_at r_open r_made r_steps hm; rw [sp_X2_readsTerm_11] at hm; cases hm
  | succ n ih =>
    intro u1 r_token r_place r_at r_open r_made r_steps hm
    rw [sp_X2_readsTerm_11] at hm
    refine x_iload1 eX2_readsTerm_11 ?_
    refine x_k eX2_readsTerm_12 ?_
    refine x_icmp_ge eX2_readsTerm_15 (fun c => ?_) (fun c => ?_)
    · rw [if_pos c] at hm
      refine x_k eX2_readsTerm_54 ?_
      obtain rfl := Option.some.inj hm
      exact x_zret eX2_readsTerm_55 (by decide) ⟨rfl, rfl⟩
    · rw [if_neg c] at hm
      refine x_aload0 eX2_readsTerm_18 ?_
      refine x_get eX2_readsTerm_19 fX2_19 rfl rfl ?_
      refine x_k eX2_readsTerm_22 ?_
      refine x_icmp_ne eX2_readsTerm_25 (fun c => ?_) (fun c => ?_)
      · rw [if_neg c] at hm
        refine x_k eX2_readsTerm_54 ?_
        obtain rfl := Option.some.inj hm
        exact x_zret eX2_readsTerm_55 (by decide) ⟨rfl, rfl⟩
      · rw [if_pos c] at hm
        refine x_aload0 eX2_readsTerm_28 ?_
        obtain ⟨r2, hr, hm⟩ := xo_bind hm
        refine x_Vv0 eX2_readsTerm_29 kX2_next mX2_40 (t_X2_next hr) rfl (Nat.le_of_ble_eq_true rfl) ?_
        refine x_aload0 eX2_readsTerm_32 ?_
        obtain ⟨r3, hr, hm⟩ := xo_bind hm
        refine x_Vi0 eX2_readsTerm_33 kX2_readsOne mX2_78 (hR6 hr) rfl (Nat.le_of_ble_eq_true rfl) ?_
        refine x_if_ne eX2_readsTerm_36 (fun c => ?_) (fun c => ?_)
        · rw [if_neg c] at hm
          refine x_aload0 eX2_readsTerm_41 ?_
          refine x_k eX2_readsTerm_42 ?_
          obtain ⟨r4, hr, hm⟩ := xo_bind hm
          refine x_Vv1 eX2_readsTerm_45 kX2_make mX2_54 (t_X2_make hr) rfl (Nat.le_of_ble_eq_true rfl) ?_
          refine x_iinc1 eX2_readsTerm_48 rfl ?_
          refine x_goto eX2_readsTerm_51 ?_
          exact ih hm
        · rw [if_pos c] at hm
          refine x_k eX2_readsTerm_39 ?_
          obtain rfl := Option.some.inj hm
          exact x_zret eX2_readsTerm_40 (by decide) ⟨rfl, rfl⟩
set_option maxRecDepth 4000 in
theorem t_X2_readsTerm {o : Int32 × Int32 × Int32 × Int32 × Int32 × Int32 × (Nat → Int32)} {R : Nat → Int32 → Int32 → Int32 → Int32 → Int32 → Int32 → (Nat → Int32) → (Nat → Int32) → Option (Int32 × Int32 × Int32 × Int32 × Int32 × Int32 × (Nat → Int32))} (hR6 : ∀  {z_o_size : Int32} {z_o_year : Int32} {z_o_gone : Int32} {z_o_minds : Int32} {z_o_lasts : Int32} {z_r_size : Int32} {z_r_token : Int32} {z_r_place : Int32} {z_r_at : Int32} {z_r_open : Int32} {z_r_made : Int32} {z_t_size : Int32} {z_t_rule : Int32} {z_i_there : Int32} {z_i_rule : Int32} {z_i_size : Int32} {z_i_year : Int32} {z_i_gone : Int32} {z_i_minds : Int32} {z_i_lasts : Int32} {z_o_parent : Nat → Int32} {z_o_kind : Nat → Int32} {z_o_number : Nat → Int32} {z_o_odds : Nat → Int32} {z_o_above : Nat → Int32} {z_o_kidCount : Nat → Int32} {z_o_lead : Nat → Int32} {z_r_tape : Nat → Int32} {z_r_steps : Nat → Int32} {z_r_ends : Nat → Int32} {z_t_steps : Nat → Int32} {z_t_ends : Nat → Int32} {z_t_stack : Nat → Int32} {z_s_sort : Nat → Int32} {z_s_size : Nat → Int32} {z_s_items : Nat → Int32} {z_i_number : Nat → Int32} {z_i_odds : Nat → Int32} {z_x_prices : Nat → Int32} {z_x_facts : Nat → Int32} {z_x_laws : Nat → Int32} {z_x_clues : Nat → Int32} {r : Int32 × Int32 × Int32 × Int32 × Int32 × Int32 × (Nat → Int32)}, R 6 z_r_size z_r_token z_r_place z_r_at z_r_open z_r_made z_r_tape z_r_steps = some r → xt_M yX2_readsOne cX2_readsOne 2 (some .boolean) (d + 8) [.ref 9] (WX z_o_size z_o_year z_o_gone z_o_minds z_o_lasts z_r_size z_r_token z_r_place z_r_at z_r_open z_r_made z_t_size z_t_rule z_i_there z_i_rule z_i_size z_i_year z_i_gone z_i_minds z_i_lasts z_o_parent z_o_kind z_o_number z_o_odds z_o_above z_o_kidCount z_o_lead z_r_tape z_r_steps z_r_ends z_t_steps z_t_ends z_t_stack z_s_sort z_s_size z_s_items z_i_number z_i_odds z_x_prices z_x_facts z_x_laws z_x_clues) (xt_Ki r.1 (WX z_o_size z_o_year z_o_gone z_o_minds z_o_lasts z_r_size r.2.1 r.2.2.1 r.2.2.2.1 r.2.2.2.2.1 r.2.2.2.2.2.1 z_t_size z_t_rule z_i_there z_i_rule z_i_size z_i_year z_i_gone z_i_minds z_i_lasts z_o_parent z_o_kind z_o_number z_o_odds z_o_above z_o_kidCount z_o_lead z_r_tape r.2.2.2.2.2.2 z_r_ends z_t_steps z_t_ends z_t_stack z_s_sort z_s_size z_s_items z_i_number z_i_odds z_x_prices z_x_facts z_x_laws z_x_clues)))  (hm : sp_X2_readsTerm R r_size r_token r_place r_at r_open r_made r_tape r_steps = some o) : xt_M yX2_readsTerm cX2_readsTerm 2 (some .boolean) (d + 8 + 1) [.ref 9] (WX o_size o_year o_gone o_minds o_lasts r_size r_token r_place r_at r_open r_made t_size t_rule i_there i_rule i_size i_year i_gone i_minds i_lasts o_parent o_kind o_number o_odds o_above o_kidCount o_lead r_tape r_steps r_ends t_steps t_ends t_stack s_sort s_size s_items i_number i_odds x_prices x_facts x_laws x_clues) (xt_Ki o.1 (WX o_size o_year o_gone o_minds o_lasts r_size o.2.1 o.2.2.1 o.2.2.2.1 o.2.2.2.2.1 o.2.2.2.2.2.1 t_size t_rule i_there i_rule i_size i_year i_gone i_minds i_lasts o_parent o_kind o_number o_odds o_above o_kidCount o_lead r_tape o.2.2.2.2.2.2 r_ends t_steps t_ends t_stack s_sort s_size s_items i_number i_odds x_prices x_facts x_laws x_clues)) := by
  unfold sp_X2_readsTerm at hm
  refine xt_M.go (own := RX2) (lv := [some (.ref 9), none]) rfl rfl (Nat.le_of_ble_eq_true rfl) rfl ?_
  refine x_aload0 eX2_readsTerm_0 ?_
  obtain ⟨r1, hr, hm⟩ := xo_bind hm
  refine x_Vi0 eX2_readsTerm_1 kX2_readsOne mX2_78 (hR6 hr) rfl (Nat.le_of_ble_eq_true rfl) ?_
  refine x_if_ne eX2_readsTerm_4 (fun c => ?_) (fun c => ?_)
  · rw [if_neg c] at hm
    refine x_k eX2_readsTerm_9 ?_
    refine x_istore1 eX2_readsTerm_10 rfl ?_
    exact l_X2_readsTerm_11 hR6 _ hm
  · rw [if_pos c] at hm
    refine x_k eX2_readsTerm_7 ?_
    obtain rfl := Option.some.inj hm
    exact x_zret eX2_readsTerm_8 (by decide) ⟨rfl, rfl⟩
set_option maxRecDepth 4000 in
theorem t_X2_readsOne {o : Int32 × Int32 × Int32 × Int32 × Int32 × Int32 × (Nat → Int32)} {R : Nat → Int32 → Int32 → Int32 → Int32 → Int32 → Int32 → (Nat → Int32) → (Nat → Int32) → Option (Int32 × Int32 × Int32 × Int32 × Int32 × Int32 × (Nat → Int32))} (hR7 : ∀  {z_o_size : Int32} {z_o_year : Int32} {z_o_gone : Int32} {z_o_minds : Int32} {z_o_lasts : Int32} {z_r_size : Int32} {z_r_token : Int32} {z_r_place : Int32} {z_r_at : Int32} {z_r_open : Int32} {z_r_made : Int32} {z_t_size : Int32} {z_t_rule : Int32} {z_i_there : Int32} {z_i_rule : Int32} {z_i_size : Int32} {z_i_year : Int32} {z_i_gone : Int32} {z_i_minds : Int32} {z_i_lasts : Int32} {z_o_parent : Nat → Int32} {z_o_kind : Nat → Int32} {z_o_number : Nat → Int32} {z_o_odds : Nat → Int32} {z_o_above : Nat → Int32} {z_o_kidCount : Nat → Int32} {z_o_lead : Nat → Int32} {z_r_tape : Nat → Int32} {z_r_steps : Nat → Int32} {z_r_ends : Nat → Int32} {z_t_steps : Nat → Int32} {z_t_ends : Nat → Int32} {z_t_stack : Nat → Int32} {z_s_sort : Nat → Int32} {z_s_size : Nat → Int32} {z_s_items : Nat → Int32} {z_i_number : Nat → Int32} {z_i_odds : Nat → Int32} {z_x_prices : Nat → Int32} {z_x_facts : Nat → Int32} {z_x_laws : Nat → Int32} {z_x_clues : Nat → Int32} {r : Int32 × Int32 × Int32 × Int32 × Int32 × Int32 × (Nat → Int32)}, R 7 z_r_size z_r_token z_r_place z_r_at z_r_open z_r_made z_r_tape z_r_steps = some r → xt_M yX2_readsPlainOne cX2_readsPlainOne 1 (some .boolean) (d + 8) [.ref 9] (WX z_o_size z_o_year z_o_gone z_o_minds z_o_lasts z_r_size z_r_token z_r_place z_r_at z_r_open z_r_made z_t_size z_t_rule z_i_there z_i_rule z_i_size z_i_year z_i_gone z_i_minds z_i_lasts z_o_parent z_o_kind z_o_number z_o_odds z_o_above z_o_kidCount z_o_lead z_r_tape z_r_steps z_r_ends z_t_steps z_t_ends z_t_stack z_s_sort z_s_size z_s_items z_i_number z_i_odds z_x_prices z_x_facts z_x_laws z_x_clues) (xt_Ki r.1 (WX z_o_size z_o_year z_o_gone z_o_minds z_o_lasts z_r_size r.2.1 r.2.2.1 r.2.2.2.1 r.2.2.2.2.1 r.2.2.2.2.2.1 z_t_size z_t_rule z_i_there z_i_rule z_i_size z_i_year z_i_gone z_i_minds z_i_lasts z_o_parent z_o_kind z_o_number z_o_odds z_o_above z_o_kidCount z_o_lead z_r_tape r.2.2.2.2.2.2 z_r_ends z_t_steps z_t_ends z_t_stack z_s_sort z_s_size z_s_items z_i_number z_i_odds z_x_prices z_x_facts z_x_laws z_x_clues)))  (hm : sp_X2_readsOne R r_size r_token r_place r_at r_open r_made r_tape r_steps = some o) : xt_M yX2_readsOne cX2_readsOne 2 (some .boolean) (d + 8 + 1) [.ref 9] (WX o_size o_year o_gone o_minds o_lasts r_size r_token r_place r_at r_open r_made t_size t_rule i_there i_rule i_size i_year i_gone i_minds i_lasts o_parent o_kind o_number o_odds o_above o_kidCount o_lead r_tape r_steps r_ends t_steps t_ends t_stack s_sort s_size s_items i_number i_odds x_prices x_facts x_laws x_clues) (xt_Ki o.1 (WX o_size o_year o_gone o_minds o_lasts r_size o.2.1 o.2.2.1 o.2.2.2.1 o.2.2.2.2.1 o.2.2.2.2.2.1 t_size t_rule i_there i_rule i_size i_year i_gone i_minds i_lasts o_parent o_kind o_number o_odds o_above o_kidCount o_lead r_tape o.2.2.2.2.2.2 r_ends t_steps t_ends t_stack s_sort s_size s_items i_number i_odds x_prices x_facts x_laws x_clues)) := by
  unfold sp_X2_readsOne at hm
  refine xt_M.go (own := RX2) (lv := [some (.ref 9), none]) rfl rfl (Nat.le_of_ble_eq_true rfl) rfl ?_
  refine x_aload0 eX2_readsOne_0 ?_
  refine x_k eX2_readsOne_1 ?_
  obtain ⟨r1, hr, hm⟩ := xo_bind hm
  refine x_Vi1 eX2_readsOne_4 kX2_opensAll mX2_61 (t_X2_opensAll hr) rfl (Nat.le_of_ble_eq_true rfl) ?_
  refine x_istore1 eX2_readsOne_7 rfl ?_
  refine x_aload0 eX2_readsOne_8 ?_
  obtain ⟨r2, hr, hm⟩ := xo_bind hm
  refine x_Vi0 eX2_readsOne_9 kX2_readsPlainOne mX2_81 (hR7 hr) rfl (Nat.le_of_ble_eq_true rfl) ?_
  refine x_if_eq eX2_readsOne_12 (fun c => ?_) (fun c => ?_)
  · rw [if_pos c] at hm
    refine x_k eX2_readsOne_30 ?_
    obtain rfl := Option.some.inj hm
    exact x_zret eX2_readsOne_31 (by decide) ⟨rfl, rfl⟩
  · rw [if_neg c] at hm
    refine x_aload0 eX2_readsOne_15 ?_
    refine x_iload1 eX2_readsOne_16 ?_
    refine x_k eX2_readsOne_17 ?_
    obtain ⟨r3, hr, hm⟩ := xo_bind hm
    refine x_Vi2 eX2_readsOne_20 kX2_closes mX2_68 (t_X2_closes hr) rfl (Nat.le_of_ble_eq_true rfl) ?_
    refine x_if_eq eX2_readsOne_23 (fun c => ?_) (fun c => ?_)
    · rw [if_pos c] at hm
      refine x_k eX2_readsOne_30 ?_
      obtain rfl := Option.some.inj hm
      exact x_zret eX2_readsOne_31 (by decide) ⟨rfl, rfl⟩
    · rw [if_neg c] at hm
      refine x_k eX2_readsOne_26 ?_
      refine x_goto eX2_readsOne_27 ?_
      obtain rfl := Option.some.inj hm
      exact x_zret eX2_readsOne_31 (by decide) ⟨rfl, rfl⟩
set_option maxRecDepth 4000 in
theorem t_X2_readsPlainOne {o : Int32 × Int32 × Int32 × Int32 × Int32 × Int32 × (Nat → Int32)} {R : Nat → Int32 → Int32 → Int32 → Int32 → Int32 → Int32 → (Nat → Int32) → (Nat → Int32) → Option (Int32 × Int32 × Int32 × Int32 × Int32 × Int32 × (Nat → Int32))} (hR0 : ∀  {z_o_size : Int32} {z_o_year : Int32} {z_o_gone : Int32} {z_o_minds : Int32} {z_o_lasts : Int32} {z_r_size : Int32} {z_r_token : Int32} {z_r_place : Int32} {z_r_at : Int32} {z_r_open : Int32} {z_r_made : Int32} {z_t_size : Int32} {z_t_rule : Int32} {z_i_there : Int32} {z_i_rule : Int32} {z_i_size : Int32} {z_i_year : Int32} {z_i_gone : Int32} {z_i_minds : Int32} {z_i_lasts : Int32} {z_o_parent : Nat → Int32} {z_o_kind : Nat → Int32} {z_o_number : Nat → Int32} {z_o_odds : Nat → Int32} {z_o_above : Nat → Int32} {z_o_kidCount : Nat → Int32} {z_o_lead : Nat → Int32} {z_r_tape : Nat → Int32} {z_r_steps : Nat → Int32} {z_r_ends : Nat → Int32} {z_t_steps : Nat → Int32} {z_t_ends : Nat → Int32} {z_t_stack : Nat → Int32} {z_s_sort : Nat → Int32} {z_s_size : Nat → Int32} {z_s_items : Nat → Int32} {z_i_number : Nat → Int32} {z_i_odds : Nat → Int32} {z_x_prices : Nat → Int32} {z_x_facts : Nat → Int32} {z_x_laws : Nat → Int32} {z_x_clues : Nat → Int32} {r : Int32 × Int32 × Int32 × Int32 × Int32 × Int32 × (Nat → Int32)}, R 0 z_r_size z_r_token z_r_place z_r_at z_r_open z_r_made z_r_tape z_r_steps = some r → xt_M yX2_readsE cX2_readsE 2 (some .boolean) (d + 8) [.ref 9] (WX z_o_size z_o_year z_o_gone z_o_minds z_o_lasts z_r_size z_r_token z_r_place z_r_at z_r_open z_r_made z_t_size z_t_rule z_i_there z_i_rule z_i_size z_i_year z_i_gone z_i_minds z_i_lasts z_o_parent z_o_kind z_o_number z_o_odds z_o_above z_o_kidCount z_o_lead z_r_tape z_r_steps z_r_ends z_t_steps z_t_ends z_t_stack z_s_sort z_s_size z_s_items z_i_number z_i_odds z_x_prices z_x_facts z_x_laws z_x_clues) (xt_Ki r.1 (WX z_o_size z_o_year z_o_gone z_o_minds z_o_lasts z_r_size r.2.1 r.2.2.1 r.2.2.2.1 r.2.2.2.2.1 r.2.2.2.2.2.1 z_t_size z_t_rule z_i_there z_i_rule z_i_size z_i_year z_i_gone z_i_minds z_i_lasts z_o_parent z_o_kind z_o_number z_o_odds z_o_above z_o_kidCount z_o_lead z_r_tape r.2.2.2.2.2.2 z_r_ends z_t_steps z_t_ends z_t_stack z_s_sort z_s_size z_s_items z_i_number z_i_odds z_x_prices z_x_facts z_x_laws z_x_clues)))  (hm : sp_X2_readsPlainOne R r_size r_token r_place r_at r_open r_made r_tape r_steps = some o) : xt_M yX2_readsPlainOne cX2_readsPlainOne 1 (some .boolean) (d + 8 + 1) [.ref 9] (WX o_size o_year o_gone o_minds o_lasts r_size r_token r_place r_at r_open r_made t_size t_rule i_there i_rule i_size i_year i_gone i_minds i_lasts o_parent o_kind o_number o_odds o_above o_kidCount o_lead r_tape r_steps r_ends t_steps t_ends t_stack s_sort s_size s_items i_number i_odds x_prices x_facts x_laws x_clues) (xt_Ki o.1 (WX o_size o_year o_gone o_minds o_lasts r_size o.2.1 o.2.2.1 o.2.2.2.1 o.2.2.2.2.1 o.2.2.2.2.2.1 t_size t_rule i_there i_rule i_size i_year i_gone i_minds i_lasts o_parent o_kind o_number o_odds o_above o_kidCount o_lead r_tape o.2.2.2.2.2.2 r_ends t_steps t_ends t_stack s_sort s_size s_items i_number i_odds x_prices x_facts x_laws x_clues)) := by
  unfold sp_X2_readsPlainOne at hm
  refine xt_M.go (own := RX2) (lv := [some (.ref 9)]) rfl rfl (Nat.le_of_ble_eq_true rfl) rfl ?_
  refine x_aload0 eX2_readsPlainOne_0 ?_
  refine x_get eX2_readsPlainOne_1 fX2_19 rfl rfl ?_
  refine x_k eX2_readsPlainOne_4 ?_
  refine x_icmp_ge eX2_readsPlainOne_7 (fun c => ?_) (fun c => ?_)
  · rw [if_pos c] at hm
    refine x_aload0 eX2_readsPlainOne_24 ?_
    refine x_get eX2_readsPlainOne_25 fX2_19 rfl rfl ?_
    refine x_k eX2_readsPlainOne_28 ?_
    refine x_icmp_ne eX2_readsPlainOne_31 (fun c => ?_) (fun c => ?_)
    · rw [if_neg c] at hm
      refine x_k eX2_readsPlainOne_42 ?_
      obtain rfl := Option.some.inj hm
      exact x_zret eX2_readsPlainOne_43 (by decide) ⟨rfl, rfl⟩
    · rw [if_pos c] at hm
      refine x_aload0 eX2_readsPlainOne_34 ?_
      refine x_get eX2_readsPlainOne_35 fX2_28 rfl rfl ?_
      refine x_k eX2_readsPlainOne_38 ?_
      refine x_icmp_lt eX2_readsPlainOne_39 (fun c => ?_) (fun c => ?_)
      · rw [if_pos c] at hm
        refine x_aload0 eX2_readsPlainOne_44 ?_
        refine x_dup eX2_readsPlainOne_45 rfl ?_
        refine x_get eX2_readsPlainOne_46 fX2_28 rfl rfl ?_
        refine x_k eX2_readsPlainOne_49 ?_
        refine x_iadd eX2_readsPlainOne_50 ?_
        refine x_puti (w' := WX _ _ _ _ _ _ _ _ _ _ _ _ _ _ _ _ _ _ _ _ _ _ _ _ _ _ _ _ _ _ _ _ _ _ _ _ _ _ _ _ _ _) eX2_readsPlainOne_51 pX2_28 rfl (Nat.le_of_ble_eq_true rfl) rfl ?_
        refine x_aload0 eX2_readsPlainOne_54 ?_
        obtain ⟨r1, hr, hm⟩ := xo_bind hm
        refine x_Vv0 eX2_readsPlainOne_55 kX2_next mX2_40 (t_X2_next hr) rfl (Nat.le_of_ble_eq_true rfl) ?_
        refine x_aload0 eX2_readsPlainOne_58 ?_
        obtain ⟨r2, hr, hm⟩ := xo_bind hm
        refine x_Vi0 eX2_readsPlainOne_59 kX2_readsE mX2_47 (hR0 hr) rfl (Nat.le_of_ble_eq_true rfl) ?_
        refine x_if_eq eX2_readsPlainOne_62 (fun c => ?_) (fun c => ?_)
        · rw [if_pos c] at hm
          refine x_k eX2_readsPlainOne_75 ?_
          obtain rfl := Option.some.inj hm
          exact x_zret eX2_readsPlainOne_76 (by decide) ⟨rfl, rfl⟩
        · rw [if_neg c] at hm
          refine x_aload0 eX2_readsPlainOne_65 ?_
          refine x_k eX2_readsPlainOne_66 ?_
          obtain ⟨r3, hr, hm⟩ := xo_bind hm
          refine x_Vi1 eX2_readsPlainOne_69 kX2_takes mX2_43 (t_X2_takes hr) rfl (Nat.le_of_ble_eq_true rfl) ?_
          refine x_if_ne eX2_readsPlainOne_72 (fun c => ?_) (fun c => ?_)
          · rw [if_neg c] at hm
            refine x_aload0 eX2_readsPlainOne_77 ?_
            refine x_dup eX2_readsPlainOne_78 rfl ?_
            refine x_get eX2_readsPlainOne_79 fX2_28 rfl rfl ?_
            refine x_k eX2_readsPlainOne_82 ?_
            refine x_isub eX2_readsPlainOne_83 ?_
            refine x_puti (w' := WX _ _ _ _ _ _ _ _ _ _ _ _ _ _ _ _ _ _ _ _ _ _ _ _ _ _ _ _ _ _ _ _ _ _ _ _ _ _ _ _ _ _) eX2_readsPlainOne_84 pX2_28 rfl (Nat.le_of_ble_eq_true rfl) rfl ?_
            refine x_k eX2_readsPlainOne_87 ?_
            obtain rfl := Option.some.inj hm
            exact x_zret eX2_readsPlainOne_88 (by decide) ⟨rfl, rfl⟩
          · rw [if_pos c] at hm
            refine x_k eX2_readsPlainOne_75 ?_
            obtain rfl := Option.some.inj hm
            exact x_zret eX2_readsPlainOne_76 (by decide) ⟨rfl, rfl⟩
      · rw [if_neg c] at hm
        refine x_k eX2_readsPlainOne_42 ?_
        obtain rfl := Option.some.inj hm
        exact x_zret eX2_readsPlainOne_43 (by decide) ⟨rfl, rfl⟩
  · rw [if_neg c] at hm
    refine x_aload0 eX2_readsPlainOne_10 ?_
    refine x_aload0 eX2_readsPlainOne_11 ?_
    refine x_get eX2_readsPlainOne_12 fX2_19 rfl rfl ?_
    obtain ⟨r4, hr, hm⟩ := xo_bind hm
    refine x_Vv1 eX2_readsPlainOne_15 kX2_make mX2_54 (t_X2_make hr) rfl (Nat.le_of_ble_eq_true rfl) ?_
    refine x_aload0 eX2_readsPlainOne_18 ?_
    obtain ⟨r5, hr, hm⟩ := xo_bind hm
    refine x_Vv0 eX2_readsPlainOne_19 kX2_next mX2_40 (t_X2_next hr) rfl (Nat.le_of_ble_eq_true rfl) ?_
    refine x_k eX2_readsPlainOne_22 ?_
    obtain rfl := Option.some.inj hm
    exact x_zret eX2_readsPlainOne_23 (by decide) ⟨rfl, rfl⟩
set_option maxRecDepth 4000 in
theorem t_gX2 : ∀ n : Nat, (∀  {z_o_size : Int32} {z_o_year : Int32} {z_o_gone : Int32} {z_o_minds : Int32} {z_o_lasts : Int32} {z_r_size : Int32} {z_r_token : Int32} {z_r_place : Int32} {z_r_at : Int32} {z_r_open : Int32} {z_r_made : Int32} {z_t_size : Int32} {z_t_rule : Int32} {z_i_there : Int32} {z_i_rule : Int32} {z_i_size : Int32} {z_i_year : Int32} {z_i_gone : Int32} {z_i_minds : Int32} {z_i_lasts : Int32} {z_o_parent : Nat → Int32} {z_o_kind : Nat → Int32} {z_o_number : Nat → Int32} {z_o_odds : Nat → Int32} {z_o_above : Nat → Int32} {z_o_kidCount : Nat → Int32} {z_o_lead : Nat → Int32} {z_r_tape : Nat → Int32} {z_r_steps : Nat → Int32} {z_r_ends : Nat → Int32} {z_t_steps : Nat → Int32} {z_t_ends : Nat → Int32} {z_t_stack : Nat → Int32} {z_s_sort : Nat → Int32} {z_s_size : Nat → Int32} {z_s_items : Nat → Int32} {z_i_number : Nat → Int32} {z_i_odds : Nat → Int32} {z_x_prices : Nat → Int32} {z_x_facts : Nat → Int32} {z_x_laws : Nat → Int32} {z_x_clues : Nat → Int32} {r : Int32 × Int32 × Int32 × Int32 × Int32 × Int32 × (Nat → Int32)}, sp_gX2 n 0 z_r_size z_r_token z_r_place z_r_at z_r_open z_r_made z_r_tape z_r_steps = some r → xt_M yX2_readsE cX2_readsE 2 (some .boolean) (d + n + 8) [.ref 9] (WX z_o_size z_o_year z_o_gone z_o_minds z_o_lasts z_r_size z_r_token z_r_place z_r_at z_r_open z_r_made z_t_size z_t_rule z_i_there z_i_rule z_i_size z_i_year z_i_gone z_i_minds z_i_lasts z_o_parent z_o_kind z_o_number z_o_odds z_o_above z_o_kidCount z_o_lead z_r_tape z_r_steps z_r_ends z_t_steps z_t_ends z_t_stack z_s_sort z_s_size z_s_items z_i_number z_i_odds z_x_prices z_x_facts z_x_laws z_x_clues) (xt_Ki r.1 (WX z_o_size z_o_year z_o_gone z_o_minds z_o_lasts z_r_size r.2.1 r.2.2.1 r.2.2.2.1 r.2.2.2.2.1 r.2.2.2.2.2.1 z_t_size z_t_rule z_i_there z_i_rule z_i_size z_i_year z_i_gone z_i_minds z_i_lasts z_o_parent z_o_kind z_o_number z_o_odds z_o_above z_o_kidCount z_o_lead z_r_tape r.2.2.2.2.2.2 z_r_ends z_t_steps z_t_ends z_t_stack z_s_sort z_s_size z_s_items z_i_number z_i_odds z_x_prices z_x_facts z_x_laws z_x_clues))) ∧ (∀  {z_o_size : Int32} {z_o_year : Int32} {z_o_gone : Int32} {z_o_minds : Int32} {z_o_lasts : Int32} {z_r_size : Int32} {z_r_token : Int32} {z_r_place : Int32} {z_r_at : Int32} {z_r_open : Int32} {z_r_made : Int32} {z_t_size : Int32} {z_t_rule : Int32} {z_i_there : Int32} {z_i_rule : Int32} {z_i_size : Int32} {z_i_year : Int32} {z_i_gone : Int32} {z_i_minds : Int32} {z_i_lasts : Int32} {z_o_parent : Nat → Int32} {z_o_kind : Nat → Int32} {z_o_number : Nat → Int32} {z_o_odds : Nat → Int32} {z_o_above : Nat → Int32} {z_o_kidCount : Nat → Int32} {z_o_lead : Nat → Int32} {z_r_tape : Nat → Int32} {z_r_steps : Nat → Int32} {z_r_ends : Nat → Int32} {z_t_steps : Nat → Int32} {z_t_ends : Nat → Int32} {z_t_stack : Nat → Int32} {z_s_sort : Nat → Int32} {z_s_size : Nat → Int32} {z_s_items : Nat → Int32} {z_i_number : Nat → Int32} {z_i_odds : Nat → Int32} {z_x_prices : Nat → Int32} {z_x_facts : Nat → Int32} {z_x_laws : Nat → Int32} {z_x_clues : Nat → Int32} {r : Int32 × Int32 × Int32 × Int32 × Int32 × Int32 × (Nat → Int32)}, sp_gX2 n 1 z_r_size z_r_token z_r_place z_r_at z_r_open z_r_made z_r_tape z_r_steps = some r → xt_M yX2_readsAnd cX2_readsAnd 2 (some .boolean) (d + n + 8) [.ref 9] (WX z_o_size z_o_year z_o_gone z_o_minds z_o_lasts z_r_size z_r_token z_r_place z_r_at z_r_open z_r_made z_t_size z_t_rule z_i_there z_i_rule z_i_size z_i_year z_i_gone z_i_minds z_i_lasts z_o_parent z_o_kind z_o_number z_o_odds z_o_above z_o_kidCount z_o_lead z_r_tape z_r_steps z_r_ends z_t_steps z_t_ends z_t_stack z_s_sort z_s_size z_s_items z_i_number z_i_odds z_x_prices z_x_facts z_x_laws z_x_clues) (xt_Ki r.1 (WX z_o_size z_o_year z_o_gone z_o_minds z_o_lasts z_r_size r.2.1 r.2.2.1 r.2.2.2.1 r.2.2.2.2.1 r.2.2.2.2.2.1 z_t_size z_t_rule z_i_there z_i_rule z_i_size z_i_year z_i_gone z_i_minds z_i_lasts z_o_parent z_o_kind z_o_number z_o_odds z_o_above z_o_kidCount z_o_lead z_r_tape r.2.2.2.2.2.2 z_r_ends z_t_steps z_t_ends z_t_stack z_s_sort z_s_size z_s_items z_i_number z_i_odds z_x_prices z_x_facts z_x_laws z_x_clues))) ∧ (∀  {z_o_size : Int32} {z_o_year : Int32} {z_o_gone : Int32} {z_o_minds : Int32} {z_o_lasts : Int32} {z_r_size : Int32} {z_r_token : Int32} {z_r_place : Int32} {z_r_at : Int32} {z_r_open : Int32} {z_r_made : Int32} {z_t_size : Int32} {z_t_rule : Int32} {z_i_there : Int32} {z_i_rule : Int32} {z_i_size : Int32} {z_i_year : Int32} {z_i_gone : Int32} {z_i_minds : Int32} {z_i_lasts : Int32} {z_o_parent : Nat → Int32} {z_o_kind : Nat → Int32} {z_o_number : Nat → Int32} {z_o_odds : Nat → Int32} {z_o_above : Nat → Int32} {z_o_kidCount : Nat → Int32} {z_o_lead : Nat → Int32} {z_r_tape : Nat → Int32} {z_r_steps : Nat → Int32} {z_r_ends : Nat → Int32} {z_t_steps : Nat → Int32} {z_t_ends : Nat → Int32} {z_t_stack : Nat → Int32} {z_s_sort : Nat → Int32} {z_s_size : Nat → Int32} {z_s_items : Nat → Int32} {z_i_number : Nat → Int32} {z_i_odds : Nat → Int32} {z_x_prices : Nat → Int32} {z_x_facts : Nat → Int32} {z_x_laws : Nat → Int32} {z_x_clues : Nat → Int32} {r : Int32 × Int32 × Int32 × Int32 × Int32 × Int32 × (Nat → Int32)}, sp_gX2 n 2 z_r_size z_r_token z_r_place z_r_at z_r_open z_r_made z_r_tape z_r_steps = some r → xt_M yX2_readsNot cX2_readsNot 2 (some .boolean) (d + n + 8) [.ref 9] (WX z_o_size z_o_year z_o_gone z_o_minds z_o_lasts z_r_size z_r_token z_r_place z_r_at z_r_open z_r_made z_t_size z_t_rule z_i_there z_i_rule z_i_size z_i_year z_i_gone z_i_minds z_i_lasts z_o_parent z_o_kind z_o_number z_o_odds z_o_above z_o_kidCount z_o_lead z_r_tape z_r_steps z_r_ends z_t_steps z_t_ends z_t_stack z_s_sort z_s_size z_s_items z_i_number z_i_odds z_x_prices z_x_facts z_x_laws z_x_clues) (xt_Ki r.1 (WX z_o_size z_o_year z_o_gone z_o_minds z_o_lasts z_r_size r.2.1 r.2.2.1 r.2.2.2.1 r.2.2.2.2.1 r.2.2.2.2.2.1 z_t_size z_t_rule z_i_there z_i_rule z_i_size z_i_year z_i_gone z_i_minds z_i_lasts z_o_parent z_o_kind z_o_number z_o_odds z_o_above z_o_kidCount z_o_lead z_r_tape r.2.2.2.2.2.2 z_r_ends z_t_steps z_t_ends z_t_stack z_s_sort z_s_size z_s_items z_i_number z_i_odds z_x_prices z_x_facts z_x_laws z_x_clues))) ∧ (∀  {z_o_size : Int32} {z_o_year : Int32} {z_o_gone : Int32} {z_o_minds : Int32} {z_o_lasts : Int32} {z_r_size : Int32} {z_r_token : Int32} {z_r_place : Int32} {z_r_at : Int32} {z_r_open : Int32} {z_r_made : Int32} {z_t_size : Int32} {z_t_rule : Int32} {z_i_there : Int32} {z_i_rule : Int32} {z_i_size : Int32} {z_i_year : Int32} {z_i_gone : Int32} {z_i_minds : Int32} {z_i_lasts : Int32} {z_o_parent : Nat → Int32} {z_o_kind : Nat → Int32} {z_o_number : Nat → Int32} {z_o_odds : Nat → Int32} {z_o_above : Nat → Int32} {z_o_kidCount : Nat → Int32} {z_o_lead : Nat → Int32} {z_r_tape : Nat → Int32} {z_r_steps : Nat → Int32} {z_r_ends : Nat → Int32} {z_t_steps : Nat → Int32} {z_t_ends : Nat → Int32} {z_t_stack : Nat → Int32} {z_s_sort : Nat → Int32} {z_s_size : Nat → Int32} {z_s_items : Nat → Int32} {z_i_number : Nat → Int32} {z_i_odds : Nat → Int32} {z_x_prices : Nat → Int32} {z_x_facts : Nat → Int32} {z_x_laws : Nat → Int32} {z_x_clues : Nat → Int32} {r : Int32 × Int32 × Int32 × Int32 × Int32 × Int32 × (Nat → Int32)}, sp_gX2 n 3 z_r_size z_r_token z_r_place z_r_at z_r_open z_r_made z_r_tape z_r_steps = some r → xt_M yX2_readsComparison cX2_readsComparison 2 (some .boolean) (d + n + 8) [.ref 9] (WX z_o_size z_o_year z_o_gone z_o_minds z_o_lasts z_r_size z_r_token z_r_place z_r_at z_r_open z_r_made z_t_size z_t_rule z_i_there z_i_rule z_i_size z_i_year z_i_gone z_i_minds z_i_lasts z_o_parent z_o_kind z_o_number z_o_odds z_o_above z_o_kidCount z_o_lead z_r_tape z_r_steps z_r_ends z_t_steps z_t_ends z_t_stack z_s_sort z_s_size z_s_items z_i_number z_i_odds z_x_prices z_x_facts z_x_laws z_x_clues) (xt_Ki r.1 (WX z_o_size z_o_year z_o_gone z_o_minds z_o_lasts z_r_size r.2.1 r.2.2.1 r.2.2.2.1 r.2.2.2.2.1 r.2.2.2.2.2.1 z_t_size z_t_rule z_i_there z_i_rule z_i_size z_i_year z_i_gone z_i_minds z_i_lasts z_o_parent z_o_kind z_o_number z_o_odds z_o_above z_o_kidCount z_o_lead z_r_tape r.2.2.2.2.2.2 z_r_ends z_t_steps z_t_ends z_t_stack z_s_sort z_s_size z_s_items z_i_number z_i_odds z_x_prices z_x_facts z_x_laws z_x_clues))) ∧ (∀  {z_o_size : Int32} {z_o_year : Int32} {z_o_gone : Int32} {z_o_minds : Int32} {z_o_lasts : Int32} {z_r_size : Int32} {z_r_token : Int32} {z_r_place : Int32} {z_r_at : Int32} {z_r_open : Int32} {z_r_made : Int32} {z_t_size : Int32} {z_t_rule : Int32} {z_i_there : Int32} {z_i_rule : Int32} {z_i_size : Int32} {z_i_year : Int32} {z_i_gone : Int32} {z_i_minds : Int32} {z_i_lasts : Int32} {z_o_parent : Nat → Int32} {z_o_kind : Nat → Int32} {z_o_number : Nat → Int32} {z_o_odds : Nat → Int32} {z_o_above : Nat → Int32} {z_o_kidCount : Nat → Int32} {z_o_lead : Nat → Int32} {z_r_tape : Nat → Int32} {z_r_steps : Nat → Int32} {z_r_ends : Nat → Int32} {z_t_steps : Nat → Int32} {z_t_ends : Nat → Int32} {z_t_stack : Nat → Int32} {z_s_sort : Nat → Int32} {z_s_size : Nat → Int32} {z_s_items : Nat → Int32} {z_i_number : Nat → Int32} {z_i_odds : Nat → Int32} {z_x_prices : Nat → Int32} {z_x_facts : Nat → Int32} {z_x_laws : Nat → Int32} {z_x_clues : Nat → Int32} {r : Int32 × Int32 × Int32 × Int32 × Int32 × Int32 × (Nat → Int32)}, sp_gX2 n 4 z_r_size z_r_token z_r_place z_r_at z_r_open z_r_made z_r_tape z_r_steps = some r → xt_M yX2_readsSum cX2_readsSum 3 (some .boolean) (d + n + 8) [.ref 9] (WX z_o_size z_o_year z_o_gone z_o_minds z_o_lasts z_r_size z_r_token z_r_place z_r_at z_r_open z_r_made z_t_size z_t_rule z_i_there z_i_rule z_i_size z_i_year z_i_gone z_i_minds z_i_lasts z_o_parent z_o_kind z_o_number z_o_odds z_o_above z_o_kidCount z_o_lead z_r_tape z_r_steps z_r_ends z_t_steps z_t_ends z_t_stack z_s_sort z_s_size z_s_items z_i_number z_i_odds z_x_prices z_x_facts z_x_laws z_x_clues) (xt_Ki r.1 (WX z_o_size z_o_year z_o_gone z_o_minds z_o_lasts z_r_size r.2.1 r.2.2.1 r.2.2.2.1 r.2.2.2.2.1 r.2.2.2.2.2.1 z_t_size z_t_rule z_i_there z_i_rule z_i_size z_i_year z_i_gone z_i_minds z_i_lasts z_o_parent z_o_kind z_o_number z_o_odds z_o_above z_o_kidCount z_o_lead z_r_tape r.2.2.2.2.2.2 z_r_ends z_t_steps z_t_ends z_t_stack z_s_sort z_s_size z_s_items z_i_number z_i_odds z_x_prices z_x_facts z_x_laws z_x_clues))) ∧ (∀  {z_o_size : Int32} {z_o_year : Int32} {z_o_gone : Int32} {z_o_minds : Int32} {z_o_lasts : Int32} {z_r_size : Int32} {z_r_token : Int32} {z_r_place : Int32} {z_r_at : Int32} {z_r_open : Int32} {z_r_made : Int32} {z_t_size : Int32} {z_t_rule : Int32} {z_i_there : Int32} {z_i_rule : Int32} {z_i_size : Int32} {z_i_year : Int32} {z_i_gone : Int32} {z_i_minds : Int32} {z_i_lasts : Int32} {z_o_parent : Nat → Int32} {z_o_kind : Nat → Int32} {z_o_number : Nat → Int32} {z_o_odds : Nat → Int32} {z_o_above : Nat → Int32} {z_o_kidCount : Nat → Int32} {z_o_lead : Nat → Int32} {z_r_tape : Nat → Int32} {z_r_steps : Nat → Int32} {z_r_ends : Nat → Int32} {z_t_steps : Nat → Int32} {z_t_ends : Nat → Int32} {z_t_stack : Nat → Int32} {z_s_sort : Nat → Int32} {z_s_size : Nat → Int32} {z_s_items : Nat → Int32} {z_i_number : Nat → Int32} {z_i_odds : Nat → Int32} {z_x_prices : Nat → Int32} {z_x_facts : Nat → Int32} {z_x_laws : Nat → Int32} {z_x_clues : Nat → Int32} {r : Int32 × Int32 × Int32 × Int32 × Int32 × Int32 × (Nat → Int32)}, sp_gX2 n 5 z_r_size z_r_token z_r_place z_r_at z_r_open z_r_made z_r_tape z_r_steps = some r → xt_M yX2_readsTerm cX2_readsTerm 2 (some .boolean) (d + n + 8) [.ref 9] (WX z_o_size z_o_year z_o_gone z_o_minds z_o_lasts z_r_size z_r_token z_r_place z_r_at z_r_open z_r_made z_t_size z_t_rule z_i_there z_i_rule z_i_size z_i_year z_i_gone z_i_minds z_i_lasts z_o_parent z_o_kind z_o_number z_o_odds z_o_above z_o_kidCount z_o_lead z_r_tape z_r_steps z_r_ends z_t_steps z_t_ends z_t_stack z_s_sort z_s_size z_s_items z_i_number z_i_odds z_x_prices z_x_facts z_x_laws z_x_clues) (xt_Ki r.1 (WX z_o_size z_o_year z_o_gone z_o_minds z_o_lasts z_r_size r.2.1 r.2.2.1 r.2.2.2.1 r.2.2.2.2.1 r.2.2.2.2.2.1 z_t_size z_t_rule z_i_there z_i_rule z_i_size z_i_year z_i_gone z_i_minds z_i_lasts z_o_parent z_o_kind z_o_number z_o_odds z_o_above z_o_kidCount z_o_lead z_r_tape r.2.2.2.2.2.2 z_r_ends z_t_steps z_t_ends z_t_stack z_s_sort z_s_size z_s_items z_i_number z_i_odds z_x_prices z_x_facts z_x_laws z_x_clues))) ∧ (∀  {z_o_size : Int32} {z_o_year : Int32} {z_o_gone : Int32} {z_o_minds : Int32} {z_o_lasts : Int32} {z_r_size : Int32} {z_r_token : Int32} {z_r_place : Int32} {z_r_at : Int32} {z_r_open : Int32} {z_r_made : Int32} {z_t_size : Int32} {z_t_rule : Int32} {z_i_there : Int32} {z_i_rule : Int32} {z_i_size : Int32} {z_i_year : Int32} {z_i_gone : Int32} {z_i_minds : Int32} {z_i_lasts : Int32} {z_o_parent : Nat → Int32} {z_o_kind : Nat → Int32} {z_o_number : Nat → Int32} {z_o_odds : Nat → Int32} {z_o_above : Nat → Int32} {z_o_kidCount : Nat → Int32} {z_o_lead : Nat → Int32} {z_r_tape : Nat → Int32} {z_r_steps : Nat → Int32} {z_r_ends : Nat → Int32} {z_t_steps : Nat → Int32} {z_t_ends : Nat → Int32} {z_t_stack : Nat → Int32} {z_s_sort : Nat → Int32} {z_s_size : Nat → Int32} {z_s_items : Nat → Int32} {z_i_number : Nat → Int32} {z_i_odds : Nat → Int32} {z_x_prices : Nat → Int32} {z_x_facts : Nat → Int32} {z_x_laws : Nat → Int32} {z_x_clues : Nat → Int32} {r : Int32 × Int32 × Int32 × Int32 × Int32 × Int32 × (Nat → Int32)}, sp_gX2 n 6 z_r_size z_r_token z_r_place z_r_at z_r_open z_r_made z_r_tape z_r_steps = some r → xt_M yX2_readsOne cX2_readsOne 2 (some .boolean) (d + n + 8) [.ref 9] (WX z_o_size z_o_year z_o_gone z_o_minds z_o_lasts z_r_size z_r_token z_r_place z_r_at z_r_open z_r_made z_t_size z_t_rule z_i_there z_i_rule z_i_size z_i_year z_i_gone z_i_minds z_i_lasts z_o_parent z_o_kind z_o_number z_o_odds z_o_above z_o_kidCount z_o_lead z_r_tape z_r_steps z_r_ends z_t_steps z_t_ends z_t_stack z_s_sort z_s_size z_s_items z_i_number z_i_odds z_x_prices z_x_facts z_x_laws z_x_clues) (xt_Ki r.1 (WX z_o_size z_o_year z_o_gone z_o_minds z_o_lasts z_r_size r.2.1 r.2.2.1 r.2.2.2.1 r.2.2.2.2.1 r.2.2.2.2.2.1 z_t_size z_t_rule z_i_there z_i_rule z_i_size z_i_year z_i_gone z_i_minds z_i_lasts z_o_parent z_o_kind z_o_number z_o_odds z_o_above z_o_kidCount z_o_lead z_r_tape r.2.2.2.2.2.2 z_r_ends z_t_steps z_t_ends z_t_stack z_s_sort z_s_size z_s_items z_i_number z_i_odds z_x_prices z_x_facts z_x_laws z_x_clues))) ∧ (∀  {z_o_size : Int32} {z_o_year : Int32} {z_o_gone : Int32} {z_o_minds : Int32} {z_o_lasts : Int32} {z_r_size : Int32} {z_r_token : Int32} {z_r_place : Int32} {z_r_at : Int32} {z_r_open : Int32} {z_r_made : Int32} {z_t_size : Int32} {z_t_rule : Int32} {z_i_there : Int32} {z_i_rule : Int32} {z_i_size : Int32} {z_i_year : Int32} {z_i_gone : Int32} {z_i_minds : Int32} {z_i_lasts : Int32} {z_o_parent : Nat → Int32} {z_o_kind : Nat → Int32} {z_o_number : Nat → Int32} {z_o_odds : Nat → Int32} {z_o_above : Nat → Int32} {z_o_kidCount : Nat → Int32} {z_o_lead : Nat → Int32} {z_r_tape : Nat → Int32} {z_r_steps : Nat → Int32} {z_r_ends : Nat → Int32} {z_t_steps : Nat → Int32} {z_t_ends : Nat → Int32} {z_t_stack : Nat → Int32} {z_s_sort : Nat → Int32} {z_s_size : Nat → Int32} {z_s_items : Nat → Int32} {z_i_number : Nat → Int32} {z_i_odds : Nat → Int32} {z_x_prices : Nat → Int32} {z_x_facts : Nat → Int32} {z_x_laws : Nat → Int32} {z_x_clues : Nat → Int32} {r : Int32 × Int32 × Int32 × Int32 × Int32 × Int32 × (Nat → Int32)}, sp_gX2 n 7 z_r_size z_r_token z_r_place z_r_at z_r_open z_r_made z_r_tape z_r_steps = some r → xt_M yX2_readsPlainOne cX2_readsPlainOne 1 (some .boolean) (d + n + 8) [.ref 9] (WX z_o_size z_o_year z_o_gone z_o_minds z_o_lasts z_r_size z_r_token z_r_place z_r_at z_r_open z_r_made z_t_size z_t_rule z_i_there z_i_rule z_i_size z_i_year z_i_gone z_i_minds z_i_lasts z_o_parent z_o_kind z_o_number z_o_odds z_o_above z_o_kidCount z_o_lead z_r_tape z_r_steps z_r_ends z_t_steps z_t_ends z_t_stack z_s_sort z_s_size z_s_items z_i_number z_i_odds z_x_prices z_x_facts z_x_laws z_x_clues) (xt_Ki r.1 (WX z_o_size z_o_year z_o_gone z_o_minds z_o_lasts z_r_size r.2.1 r.2.2.1 r.2.2.2.1 r.2.2.2.2.1 r.2.2.2.2.2.1 z_t_size z_t_rule z_i_there z_i_rule z_i_size z_i_year z_i_gone z_i_minds z_i_lasts z_o_parent z_o_kind z_o_number z_o_odds z_o_above z_o_kidCount z_o_lead z_r_tape r.2.2.2.2.2.2 z_r_ends z_t_steps z_t_ends z_t_stack z_s_sort z_s_size z_s_items z_i_number z_i_odds z_x_prices z_x_facts z_x_laws z_x_clues))) := by
  intro n
  induction n with
  | zero => refine ⟨?_, ?_, ?_, ?_, ?_, ?_, ?_, ?_⟩ <;> (intros; rename_i hm; rw [sp_gX2] at hm; cases hm)
  | succ n ih =>
    obtain ⟨i0, i1, i2, i3, i4, i5, i6, i7⟩ := ih
    refine ⟨?_, ?_, ?_, ?_, ?_, ?_, ?_, ?_⟩
    · intros; rename_i hm; rw [sp_gX2, if_pos rfl] at hm; exact t_X2_readsE (d := d + n) i1 hm
    · intros; rename_i hm; rw [sp_gX2, if_neg (by decide), if_pos rfl] at hm; exact t_X2_readsAnd (d := d + n) i2 hm
    · intros; rename_i hm; rw [sp_gX2, if_neg (by decide), if_neg (by decide), if_pos rfl] at hm; exact t_X2_readsNot (d := d + n) i3 hm
    · intros; rename_i hm; rw [sp_gX2, if_neg (by decide), if_neg (by decide), if_neg (by decide), if_pos rfl] at hm; exact t_X2_readsComparison (d := d + n) i4 hm
    · intros; rename_i hm; rw [sp_gX2, if_neg (by decide), if_neg (by decide), if_neg (by decide), if_neg (by decide), if_pos rfl] at hm; exact t_X2_readsSum (d := d + n) i5 hm
    · intros; rename_i hm; rw [sp_gX2, if_neg (by decide), if_neg (by decide), if_neg (by decide), if_neg (by decide), if_neg (by decide), if_pos rfl] at hm; exact t_X2_readsTerm (d := d + n) i6 hm
    · intros; rename_i hm; rw [sp_gX2, if_neg (by decide), if_neg (by decide), if_neg (by decide), if_neg (by decide), if_neg (by decide), if_neg (by decide), if_pos rfl] at hm; exact t_X2_readsOne (d := d + n) i7 hm
    · intros; rename_i hm; rw [sp_gX2, if_neg (by decide), if_neg (by decide), if_neg (by decide), if_neg (by decide), if_neg (by decide), if_neg (by decide), if_neg (by decide), if_pos rfl] at hm; exact t_X2_readsPlainOne (d := d + n) i0 hm

set_option maxRecDepth 4000 in
theorem l_X2_isText_21 {o : Int32 × Int32 × Int32 × Int32 × Int32 × Int32 × (Nat → Int32) × (Nat → Int32)} {r_size : Int32} {r_tape : Nat → Int32} : ∀ (n : Nat) {u1 : Int32} {r_token : Int32} {r_place : Int32} {r_at : Int32} {r_open : Int32} {r_made : Int32} {r_steps : Nat → Int32} {r_ends : Nat → Int32}, sp_X2_isText_21 r_size r_tape n u1 r_token r_place r_at r_open r_made r_steps r_ends = some o → xt_T RX2 cX2_isText 2 (some .boolean) (d + 89) (xt_Ki o.1 (WX o_size o_year o_gone o_minds o_lasts r_size o.2.1 o.2.2.1 o.2.2.2.1 o.2.2.2.2.1 o.2.2.2.2.2.1 t_size t_rule i_there i_rule i_size i_year i_gone i_minds i_lasts o_parent o_kind o_number o_odds o_above o_kidCount o_lead r_tape o.2.2.2.2.2.2.1 o.2.2.2.2.2.2.2 t_steps t_ends t_stack s_sort s_size s_items i_number i_odds x_prices x_facts x_laws x_clues)) 21 [some (.ref 9), some (.int u1)] [] (WX o_size o_year o_gone o_minds o_lasts r_size r_token r_place r_at r_open r_made t_size t_rule i_there i_rule i_size i_year i_gone i_minds i_lasts o_parent o_kind o_number o_odds o_above o_kidCount o_lead r_tape r_steps r_ends t_steps t_ends t_stack s_sort s_size s_items i_number i_odds x_prices x_facts x_laws x_clues) := by
  intro n
  induction n with
  | zero => intro u1 r_token r_place r_at r_open r_made r_steps r_ends hm; rw [sp_X2_isText_21] at hm; cases hm
  | succ n ih =>
    intro u1 r_token r_place r_at r_open r_made r_steps r_ends hm
    rw [sp_X2_isText_21] at hm
    refine x_iload1 eX2_isText_21 ?_
    refine x_k eX2_isText_22 ?_
    refine x_icmp_ge eX2_isText_23 (fun c => ?_) (fun c => ?_)
    · rw [if_pos c] at hm
      refine x_aload0 eX2_isText_73 ?_
      refine x_get eX2_isText_74 fX2_19 rfl rfl ?_
      refine x_k eX2_isText_77 ?_
      refine x_icmp_ne eX2_isText_80 (fun c => ?_) (fun c => ?_)
      · rw [if_neg c] at hm
        refine x_k eX2_isText_87 ?_
        obtain rfl := Option.some.inj hm
        exact x_zret eX2_isText_88 (by decide) ⟨rfl, rfl⟩
      · rw [if_pos c] at hm
        refine x_k eX2_isText_83 ?_
        refine x_goto eX2_isText_84 ?_
        obtain rfl := Option.some.inj hm
        exact x_zret eX2_isText_88 (by decide) ⟨rfl, rfl⟩
    · rw [if_neg c] at hm
      refine x_aload0 eX2_isText_26 ?_
      refine x_k eX2_isText_27 ?_
      refine x_iload1 eX2_isText_30 ?_
      refine x_iadd eX2_isText_31 ?_
      obtain ⟨r2, hr, hm⟩ := xo_bind hm
      refine x_Vi1 eX2_isText_32 kX2_takes mX2_43 (t_X2_takes hr) rfl (Nat.le_of_ble_eq_true rfl) ?_
      refine x_if_eq eX2_isText_35 (fun c => ?_) (fun c => ?_)
      · rw [if_pos c] at hm
        refine x_k eX2_isText_55 ?_
        obtain rfl := Option.some.inj hm
        exact x_zret eX2_isText_56 (by decide) ⟨rfl, rfl⟩
      · rw [if_neg c] at hm
        refine x_aload0 eX2_isText_38 ?_
        obtain ⟨r3, hr, hm⟩ := xo_bind hm
        refine x_Vi0 eX2_isText_39 kX2_readsE mX2_47 ((t_gX2 80).1 hr) rfl (Nat.le_of_ble_eq_true rfl) ?_
        refine x_if_eq eX2_isText_42 (fun c => ?_) (fun c => ?_)
        · rw [if_pos c] at hm
          refine x_k eX2_isText_55 ?_
          obtain rfl := Option.some.inj hm
          exact x_zret eX2_isText_56 (by decide) ⟨rfl, rfl⟩
        · rw [if_neg c] at hm
          refine x_aload0 eX2_isText_45 ?_
          refine x_k eX2_isText_46 ?_
          obtain ⟨r4, hr, hm⟩ := xo_bind hm
          refine x_Vi1 eX2_isText_49 kX2_takes mX2_43 (t_X2_takes hr) rfl (Nat.le_of_ble_eq_true rfl) ?_
          refine x_if_ne eX2_isText_52 (fun c => ?_) (fun c => ?_)
          · rw [if_neg c] at hm
            refine x_aload0 eX2_isText_57 ?_
            refine x_get eX2_isText_58 fX2_37 rfl rfl ?_
            refine x_iload1 eX2_isText_61 ?_
            refine x_aload0 eX2_isText_62 ?_
            refine x_get eX2_isText_63 fX2_31 rfl rfl ?_
            obtain ⟨f5, hv, hm⟩ := xo_bind hm
            obtain ⟨hi, rfl⟩ := xo_set_some hv
            refine x_iastore (w' := WX _ _ _ _ _ _ _ _ _ _ _ _ _ _ _ _ _ _ _ _ _ _ _ _ _ _ _ _ _ _ _ _ _ _ _ _ _ _ _ _ _ _) eX2_isText_66 rfl hi rfl ?_
            refine x_iinc1 eX2_isText_67 rfl ?_
            refine x_goto eX2_isText_70 ?_
            exact ih hm
          · rw [if_pos c] at hm
            refine x_k eX2_isText_55 ?_
            obtain rfl := Option.some.inj hm
            exact x_zret eX2_isText_56 (by decide) ⟨rfl, rfl⟩
set_option maxRecDepth 4000 in
theorem t_X2_isText {o : Int32 × Int32 × Int32 × Int32 × Int32 × Int32 × (Nat → Int32) × (Nat → Int32)}  (hm : sp_X2_isText r_size r_token r_place r_at r_open r_made r_tape r_steps r_ends = some o) : xt_M yX2_isText cX2_isText 2 (some .boolean) (d + 89) [.ref 9] (WX o_size o_year o_gone o_minds o_lasts r_size r_token r_place r_at r_open r_made t_size t_rule i_there i_rule i_size i_year i_gone i_minds i_lasts o_parent o_kind o_number o_odds o_above o_kidCount o_lead r_tape r_steps r_ends t_steps t_ends t_stack s_sort s_size s_items i_number i_odds x_prices x_facts x_laws x_clues) (xt_Ki o.1 (WX o_size o_year o_gone o_minds o_lasts r_size o.2.1 o.2.2.1 o.2.2.2.1 o.2.2.2.2.1 o.2.2.2.2.2.1 t_size t_rule i_there i_rule i_size i_year i_gone i_minds i_lasts o_parent o_kind o_number o_odds o_above o_kidCount o_lead r_tape o.2.2.2.2.2.2.1 o.2.2.2.2.2.2.2 t_steps t_ends t_stack s_sort s_size s_items i_number i_odds x_prices x_facts x_laws x_clues)) := by
  unfold sp_X2_isText at hm
  refine xt_M.go (own := RX2) (lv := [some (.ref 9), none]) rfl rfl (Nat.le_of_ble_eq_true rfl) rfl ?_
  refine x_aload0 eX2_isText_0 ?_
  refine x_k eX2_isText_1 ?_
  refine x_puti (w' := WX _ _ _ _ _ _ _ _ _ _ _ _ _ _ _ _ _ _ _ _ _ _ _ _ _ _ _ _ _ _ _ _ _ _ _ _ _ _ _ _ _ _) eX2_isText_2 pX2_25 rfl (Nat.le_of_ble_eq_true rfl) rfl ?_
  refine x_aload0 eX2_isText_5 ?_
  refine x_k eX2_isText_6 ?_
  refine x_puti (w' := WX _ _ _ _ _ _ _ _ _ _ _ _ _ _ _ _ _ _ _ _ _ _ _ _ _ _ _ _ _ _ _ _ _ _ _ _ _ _ _ _ _ _) eX2_isText_7 pX2_28 rfl (Nat.le_of_ble_eq_true rfl) rfl ?_
  refine x_aload0 eX2_isText_10 ?_
  refine x_k eX2_isText_11 ?_
  refine x_puti (w' := WX _ _ _ _ _ _ _ _ _ _ _ _ _ _ _ _ _ _ _ _ _ _ _ _ _ _ _ _ _ _ _ _ _ _ _ _ _ _ _ _ _ _) eX2_isText_12 pX2_31 rfl (Nat.le_of_ble_eq_true rfl) rfl ?_
  refine x_aload0 eX2_isText_15 ?_
  obtain ⟨r1, hr, hm⟩ := xo_bind hm
  refine x_Vv0 eX2_isText_16 kX2_next mX2_40 (t_X2_next hr) rfl (Nat.le_of_ble_eq_true rfl) ?_
  refine x_k eX2_isText_19 ?_
  refine x_istore1 eX2_isText_20 rfl ?_
  exact l_X2_isText_21 _ hm
set_option maxRecDepth 4000 in
theorem t_X5_text {o : Int32 × Int32 × Int32 × Int32 × Int32 × Int32 × Int32 × Int32 × (Nat → Int32) × (Nat → Int32) × (Nat → Int32) × (Nat → Int32)}  (hm : sp_X5_text r_size r_token r_place r_at r_open r_made t_size r_tape r_steps r_ends t_steps t_ends = some o) : xt_M yX5_text cX5_text 3 (some .int) (d + 90) [.ref 0] (WX o_size o_year o_gone o_minds o_lasts r_size r_token r_place r_at r_open r_made t_size t_rule i_there i_rule i_size i_year i_gone i_minds i_lasts o_parent o_kind o_number o_odds o_above o_kidCount o_lead r_tape r_steps r_ends t_steps t_ends t_stack s_sort s_size s_items i_number i_odds x_prices x_facts x_laws x_clues) (xt_Ki o.1 (WX o_size o_year o_gone o_minds o_lasts o.2.1 o.2.2.1 o.2.2.2.1 o.2.2.2.2.1 o.2.2.2.2.2.1 o.2.2.2.2.2.2.1 o.2.2.2.2.2.2.2.1 t_rule i_there i_rule i_size i_year i_gone i_minds i_lasts o_parent o_kind o_number o_odds o_above o_kidCount o_lead r_tape o.2.2.2.2.2.2.2.2.1 o.2.2.2.2.2.2.2.2.2.1 o.2.2.2.2.2.2.2.2.2.2.1 o.2.2.2.2.2.2.2.2.2.2.2 t_stack s_sort s_size s_items i_number i_odds x_prices x_facts x_laws x_clues)) := by
  unfold sp_X5_text at hm
  refine xt_M.go (own := RX5) (lv := [some (.ref 0), none, none]) rfl rfl (Nat.le_of_ble_eq_true rfl) rfl ?_
  refine x_aload0 eX5_text_0 ?_
  refine x_get eX5_text_1 fX5_26 rfl rfl ?_
  refine x_get eX5_text_4 fX5_157 rfl rfl ?_
  refine x_k eX5_text_7 ?_
  refine x_icmp_lt eX5_text_9 (fun c => ?_) (fun c => ?_)
  · rw [if_pos c] at hm
    refine x_aload0 eX5_text_15 ?_
    refine x_get eX5_text_16 fX5_19 rfl rfl ?_
    obtain ⟨r1, hr, hm⟩ := xo_bind hm
    refine x_Vi0 eX5_text_19 kX2_isText mX5_73 (t_X2_isText hr) rfl (Nat.le_of_ble_eq_true rfl) ?_
    refine x_istore1 eX5_text_22 rfl ?_
    refine x_iload1 eX5_text_23 ?_
    refine x_if_eq eX5_text_24 (fun c => ?_) (fun c => ?_)
    · rw [if_pos c] at hm
      refine x_k eX5_text_41 ?_
      refine x_aload0 eX5_text_43 ?_
      refine x_get eX5_text_44 fX5_19 rfl rfl ?_
      refine x_get eX5_text_47 fX5_158 rfl rfl ?_
      refine x_isub eX5_text_50 ?_
      refine x_istore2 eX5_text_51 rfl ?_
      refine x_aload0 eX5_text_52 ?_
      refine x_get eX5_text_53 fX5_19 rfl rfl ?_
      refine x_Vv0 eX5_text_56 kX2_empty mX5_81 (t_X2_empty rfl) rfl (Nat.le_of_ble_eq_true rfl) ?_
      refine x_iload2 eX5_text_59 ?_
      obtain rfl := Option.some.inj hm
      exact x_iret eX5_text_60 ⟨rfl, rfl⟩
    · rw [if_neg c] at hm
      refine x_aload0 eX5_text_27 ?_
      refine x_get eX5_text_28 fX5_26 rfl rfl ?_
      refine x_aload0 eX5_text_31 ?_
      refine x_get eX5_text_32 fX5_19 rfl rfl ?_
      obtain ⟨r2, hr, hm⟩ := xo_bind hm
      refine x_Vi1 eX5_text_35 kX4_add mX5_77 (t_X4_add_p9 hr) rfl (Nat.le_of_ble_eq_true rfl) ?_
      refine x_goto eX5_text_38 ?_
      refine x_istore2 eX5_text_51 rfl ?_
      refine x_aload0 eX5_text_52 ?_
      refine x_get eX5_text_53 fX5_19 rfl rfl ?_
      refine x_Vv0 eX5_text_56 kX2_empty mX5_81 (t_X2_empty rfl) rfl (Nat.le_of_ble_eq_true rfl) ?_
      refine x_iload2 eX5_text_59 ?_
      obtain rfl := Option.some.inj hm
      exact x_iret eX5_text_60 ⟨rfl, rfl⟩
  · rw [if_neg c] at hm
    refine x_k eX5_text_12 ?_
    obtain rfl := Option.some.inj hm
    exact x_iret eX5_text_14 ⟨rfl, rfl⟩
set_option maxRecDepth 4000 in
theorem t_J0_coder_7d493_p1012 {o : Int32}  (hm : sp_J0_coder_7d493_p1012 = o) : xt_M yJ0_coder_7d493 cJ0_coder_7d493 1 (some .byte) (d + 0) [.ref 1012] (WX o_size o_year o_gone o_minds o_lasts r_size r_token r_place r_at r_open r_made t_size t_rule i_there i_rule i_size i_year i_gone i_minds i_lasts o_parent o_kind o_number o_odds o_above o_kidCount o_lead r_tape r_steps r_ends t_steps t_ends t_stack s_sort s_size s_items i_number i_odds x_prices x_facts x_laws x_clues) (xt_Ki o (WX o_size o_year o_gone o_minds o_lasts r_size r_token r_place r_at r_open r_made t_size t_rule i_there i_rule i_size i_year i_gone i_minds i_lasts o_parent o_kind o_number o_odds o_above o_kidCount o_lead r_tape r_steps r_ends t_steps t_ends t_stack s_sort s_size s_items i_number i_odds x_prices x_facts x_laws x_clues)) := by
  unfold sp_J0_coder_7d493_p1012 at hm
  refine xt_M.go (own := RJ0) (lv := [some (.ref 1012)]) rfl rfl (Nat.le_of_ble_eq_true rfl) rfl ?_
  refine x_stZ eJ0_coder_7d493_0 xs_J0_38 ?_
  refine x_if_eq eJ0_coder_7d493_3 (fun c => ?_) (fun c => ?_)
  · rw [if_pos c] at hm
    refine x_k eJ0_coder_7d493_13 ?_
    subst hm
    exact x_nret eJ0_coder_7d493_14 rfl ⟨rfl, rfl⟩
  · rw [if_neg c] at hm
    refine x_aload0 eJ0_coder_7d493_6 ?_
    refine x_strC (i := 12) eJ0_coder_7d493_7 xs_J0_15 (Nat.le_of_ble_eq_true rfl) rfl ?_
    refine x_goto eJ0_coder_7d493_10 ?_
    subst hm
    exact x_nret eJ0_coder_7d493_14 rfl ⟨rfl, rfl⟩
set_option maxRecDepth 4000 in
theorem t_J0_length_8abf5_p1012 {o : Int32}  (hm : sp_J0_length_8abf5_p1012 = o) : xt_M yJ0_length_8abf5 cJ0_length_8abf5 1 (some .int) (d + 1) [.ref 1012] (WX o_size o_year o_gone o_minds o_lasts r_size r_token r_place r_at r_open r_made t_size t_rule i_there i_rule i_size i_year i_gone i_minds i_lasts o_parent o_kind o_number o_odds o_above o_kidCount o_lead r_tape r_steps r_ends t_steps t_ends t_stack s_sort s_size s_items i_number i_odds x_prices x_facts x_laws x_clues) (xt_Ki o (WX o_size o_year o_gone o_minds o_lasts r_size r_token r_place r_at r_open r_made t_size t_rule i_there i_rule i_size i_year i_gone i_minds i_lasts o_parent o_kind o_number o_odds o_above o_kidCount o_lead r_tape r_steps r_ends t_steps t_ends t_stack s_sort s_size s_items i_number i_odds x_prices x_facts x_laws x_clues)) := by
  unfold sp_J0_length_8abf5_p1012 at hm
  refine xt_M.go (own := RJ0) (lv := [some (.ref 1012)]) rfl rfl (Nat.le_of_ble_eq_true rfl) rfl ?_
  refine x_aload0 eJ0_length_8abf5_0 ?_
  refine x_strV (i := 12) (q := 2012) eJ0_length_8abf5_1 xs_J0_9 (Nat.le_of_ble_eq_true rfl) rfl rfl ?_
  refine x_strL (i := 12) (v := 49) eJ0_length_8abf5_4 (Nat.le_of_ble_eq_true rfl) rfl (by decide) ?_
  refine x_aload0 eJ0_length_8abf5_5 ?_
  refine x_Wi0 (i := 12) eJ0_length_8abf5_6 kJ0_coder_7d493 mJ0_335 (Nat.le_of_ble_eq_true rfl) rfl (t_J0_coder_7d493_p1012 rfl) (Nat.le_of_ble_eq_true rfl) ?_
  refine x_ishr eJ0_length_8abf5_9 ?_
  subst hm
  exact x_iret eJ0_length_8abf5_10 ⟨rfl, rfl⟩
set_option maxRecDepth 4000 in
theorem t_J0_isLatin1_aae02_p1012 {o : Int32}  (hm : sp_J0_isLatin1_aae02_p1012 = o) : xt_M yJ0_isLatin1_aae02 cJ0_isLatin1_aae02 1 (some .boolean) (d + 0) [.ref 1012] (WX o_size o_year o_gone o_minds o_lasts r_size r_token r_place r_at r_open r_made t_size t_rule i_there i_rule i_size i_year i_gone i_minds i_lasts o_parent o_kind o_number o_odds o_above o_kidCount o_lead r_tape r_steps r_ends t_steps t_ends t_stack s_sort s_size s_items i_number i_odds x_prices x_facts x_laws x_clues) (xt_Ki o (WX o_size o_year o_gone o_minds o_lasts r_size r_token r_place r_at r_open r_made t_size t_rule i_there i_rule i_size i_year i_gone i_minds i_lasts o_parent o_kind o_number o_odds o_above o_kidCount o_lead r_tape r_steps r_ends t_steps t_ends t_stack s_sort s_size s_items i_number i_odds x_prices x_facts x_laws x_clues)) := by
  unfold sp_J0_isLatin1_aae02_p1012 at hm
  refine xt_M.go (own := RJ0) (lv := [some (.ref 1012)]) rfl rfl (Nat.le_of_ble_eq_true rfl) rfl ?_
  refine x_stZ eJ0_isLatin1_aae02_0 xs_J0_38 ?_
  refine x_if_eq eJ0_isLatin1_aae02_3 (fun c => ?_) (fun c => ?_)
  · rw [if_pos c] at hm
    refine x_k eJ0_isLatin1_aae02_17 ?_
    subst hm
    exact x_zret eJ0_isLatin1_aae02_18 (by decide) ⟨rfl, rfl⟩
  · rw [if_neg c] at hm
    refine x_aload0 eJ0_isLatin1_aae02_6 ?_
    refine x_strC (i := 12) eJ0_isLatin1_aae02_7 xs_J0_15 (Nat.le_of_ble_eq_true rfl) rfl ?_
    refine x_if_ne eJ0_isLatin1_aae02_10 (fun c => ?_) (fun c => ?_)
    · rw [if_neg c] at hm
      refine x_k eJ0_isLatin1_aae02_17 ?_
      subst hm
      exact x_zret eJ0_isLatin1_aae02_18 (by decide) ⟨rfl, rfl⟩
    · rw [if_pos c] at hm
      refine x_k eJ0_isLatin1_aae02_13 ?_
      refine x_goto eJ0_isLatin1_aae02_14 ?_
      subst hm
      exact x_zret eJ0_isLatin1_aae02_18 (by decide) ⟨rfl, rfl⟩
set_option maxRecDepth 4000 in
theorem t_J1_charAt_3b067_p2012 {o : Int32} {p2 : Int32} (hm : sp_J1_charAt_3b067_p2012 p2 = some o) : xt_M yJ1_charAt_3b067 cJ1_charAt_3b067 2 (some .char) (d + 2) [.ref 2012, .int p2] (WX o_size o_year o_gone o_minds o_lasts r_size r_token r_place r_at r_open r_made t_size t_rule i_there i_rule i_size i_year i_gone i_minds i_lasts o_parent o_kind o_number o_odds o_above o_kidCount o_lead r_tape r_steps r_ends t_steps t_ends t_stack s_sort s_size s_items i_number i_odds x_prices x_facts x_laws x_clues) (xt_Ki o (WX o_size o_year o_gone o_minds o_lasts r_size r_token r_place r_at r_open r_made t_size t_rule i_there i_rule i_size i_year i_gone i_minds i_lasts o_parent o_kind o_number o_odds o_above o_kidCount o_lead r_tape r_steps r_ends t_steps t_ends t_stack s_sort s_size s_items i_number i_odds x_prices x_facts x_laws x_clues)) := by
  unfold sp_J1_charAt_3b067_p2012 at hm
  refine xt_M.go (own := RJ1) (lv := [some (.ref 2012), some (.int p2)]) rfl rfl (Nat.le_of_ble_eq_true rfl) rfl ?_
  refine x_iload1 eJ1_charAt_3b067_0 ?_
  refine x_aload0 eJ1_charAt_3b067_1 ?_
  refine x_strL (i := 12) (v := 49) eJ1_charAt_3b067_2 (Nat.le_of_ble_eq_true rfl) rfl (by decide) ?_
  obtain ⟨r1, hr, hm⟩ := xo_bind hm
  refine x_Sv2 eJ1_charAt_3b067_3 kJ0_checkIndex_df160 mJ1_9 (t_J0_checkIndex_df160 hr) (Nat.le_of_ble_eq_true rfl) ?_
  refine x_aload0 eJ1_charAt_3b067_6 ?_
  refine x_iload1 eJ1_charAt_3b067_7 ?_
  obtain ⟨v2, hv, hm⟩ := xo_bind hm
  obtain ⟨hi, rfl⟩ := xo_str_some hv
  refine x_strB (i := 12) eJ1_charAt_3b067_8 (Nat.le_of_ble_eq_true rfl) rfl hi ?_
  refine x_k eJ1_charAt_3b067_9 ?_
  refine x_iand eJ1_charAt_3b067_12 ?_
  refine x_i2c eJ1_charAt_3b067_13 ?_
  obtain rfl := Option.some.inj hm
  exact x_nret eJ1_charAt_3b067_14 (pk_nc _) ⟨rfl, rfl⟩
set_option maxRecDepth 4000 in
theorem t_J0_charAt_5068e_p1012 {o : Int32} {p1 : Int32} (hm : sp_J0_charAt_5068e_p1012 p1 = some o) : xt_M yJ0_charAt_5068e cJ0_charAt_5068e 2 (some .char) (d + 3) [.ref 1012, .int p1] (WX o_size o_year o_gone o_minds o_lasts r_size r_token r_place r_at r_open r_made t_size t_rule i_there i_rule i_size i_year i_gone i_minds i_lasts o_parent o_kind o_number o_odds o_above o_kidCount o_lead r_tape r_steps r_ends t_steps t_ends t_stack s_sort s_size s_items i_number i_odds x_prices x_facts x_laws x_clues) (xt_Ki o (WX o_size o_year o_gone o_minds o_lasts r_size r_token r_place r_at r_open r_made t_size t_rule i_there i_rule i_size i_year i_gone i_minds i_lasts o_parent o_kind o_number o_odds o_above o_kidCount o_lead r_tape r_steps r_ends t_steps t_ends t_stack s_sort s_size s_items i_number i_odds x_prices x_facts x_laws x_clues)) := by
  unfold sp_J0_charAt_5068e_p1012 at hm
  refine xt_M.go (own := RJ0) (lv := [some (.ref 1012), some (.int p1)]) rfl rfl (Nat.le_of_ble_eq_true rfl) rfl ?_
  refine x_aload0 eJ0_charAt_5068e_0 ?_
  refine x_Wi0 (i := 12) eJ0_charAt_5068e_1 kJ0_isLatin1_aae02 mJ0_492 (Nat.le_of_ble_eq_true rfl) rfl (t_J0_isLatin1_aae02_p1012 rfl) (Nat.le_of_ble_eq_true rfl) ?_
  refine x_if_eq eJ0_charAt_5068e_4 (fun c => ?_) (fun c => ?_)
  · rw [if_pos c] at hm
    refine x_aload0 eJ0_charAt_5068e_16 ?_
    refine x_strV (i := 12) (q := 2012) eJ0_charAt_5068e_17 xs_J0_9 (Nat.le_of_ble_eq_true rfl) rfl rfl ?_
    refine x_iload1 eJ0_charAt_5068e_20 ?_
    cases hm
  · rw [if_neg c] at hm
    refine x_aload0 eJ0_charAt_5068e_7 ?_
    refine x_strV (i := 12) (q := 2012) eJ0_charAt_5068e_8 xs_J0_9 (Nat.le_of_ble_eq_true rfl) rfl rfl ?_
    refine x_iload1 eJ0_charAt_5068e_11 ?_
    obtain ⟨r1, hr, hm⟩ := xo_bind hm
    refine x_Si2 eJ0_charAt_5068e_12 kJ1_charAt_3b067 mJ0_495 (t_J1_charAt_3b067_p2012 hr) (Nat.le_of_ble_eq_true rfl) ?_
    obtain ⟨hz, hm⟩ := xo_ifn hm
    obtain rfl := Option.some.inj hm
    exact x_nret eJ0_charAt_5068e_15 (xo_char (Decidable.not_not.mp hz)) ⟨rfl, rfl⟩
end S12
