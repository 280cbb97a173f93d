section S13
variable {d : Nat}
variable {m_thrown m_textCount m_rule m_taped m_n m_minds m_lasts m_cutNow m_year m_ofNode m_ofDepth m_ofKids m_ofTwigs m_ofLast m_ofYear m_from m_size m_here m_token m_tokenAt m_open m_bad m_fault m_nKept m_mindsKept m_lastsKept m_cutKept m_yearKept m_ruleKept : Int32} {m_tokenWorth : Int64} {m_texts m_textSize m_tape m_parents m_kinds m_numbers m_odds m_yes m_no m_prices m_numbersKept m_oddsKept m_isThere m_sorts m_sheetSize m_items : Nat → Int32}
def sp_X6_spell (p1 : Int32) (p2 : Int32) (p3 : Int32) (p4 : Int32) (p5 : Int32) (p6 : Int32) (p7 : Int32) (p8 : Int32) (p9 : Int32) (m_texts : Nat → Int32) : Option ((Nat → Int32)) :=
  (xo_set m_texts 960 p1 p2).bind fun f1 =>
  (xo_set f1 960 (p1 + 1) p3).bind fun f2 =>
  (xo_set f2 960 (p1 + 2) p4).bind fun f3 =>
  (xo_set f3 960 (p1 + 3) p5).bind fun f4 =>
  (xo_set f4 960 (p1 + 4) p6).bind fun f5 =>
  (xo_set f5 960 (p1 + 5) p7).bind fun f6 =>
  (xo_set f6 960 (p1 + 6) p8).bind fun f7 =>
  (xo_set f7 960 (p1 + 7) p9).bind fun f8 =>
  some f8
def sp_X6_standing_4 (u1 : Int32) (m_n : Int32) (m_parents : Nat → Int32) : Nat → Int32 → Int32 → Option (Int32)
  | 0, _, _ => none
  | n + 1, u2, u3 =>
    if m_n ≤ u3 then
      some u2
    else
      if ((xi_shr u1 u3) &&& 1) = 0 then
        if u3 = 0 then
          sp_X6_standing_4 u1 m_n m_parents n (u2 ||| (xi_shl 1 u3)) (u3 + 1)
        else
          (xo_at m_parents 12 u3).bind fun v1 =>
          if ((xi_shr u2 v1) &&& 1) = 1 then
            sp_X6_standing_4 u1 m_n m_parents n (u2 ||| (xi_shl 1 u3)) (u3 + 1)
          else
            sp_X6_standing_4 u1 m_n m_parents n u2 (u3 + 1)
      else
        sp_X6_standing_4 u1 m_n m_parents n u2 (u3 + 1)
def sp_X6_standing (p1 : Int32) (m_n : Int32) (m_parents : Nat → Int32) : Option (Int32) :=
  sp_X6_standing_4 p1 m_n m_parents 5000 0 0
def sp_X6_kidsOf_7 (u1 : Int32) (u2 : Int32) (m_n : Int32) (m_parents : Nat → Int32) : Nat → Int32 → Int32 → Option (Int32)
  | 0, _, _ => none
  | n + 1, u3, u4 =>
    if m_n ≤ u4 then
      some u3
    else
      (xo_at m_parents 12 u4).bind fun v1 =>
      if v1 = u1 then
        if ((xi_shr u2 u4) &&& 1) = 1 then
          sp_X6_kidsOf_7 u1 u2 m_n m_parents n (u3 + 1) (u4 + 1)
        else
          sp_X6_kidsOf_7 u1 u2 m_n m_parents n (u3 + 0) (u4 + 1)
      else
        sp_X6_kidsOf_7 u1 u2 m_n m_parents n (u3 + 0) (u4 + 1)
def sp_X6_kidsOf (p1 : Int32) (p2 : Int32) (m_n : Int32) (m_parents : Nat → Int32) : Option (Int32) :=
  sp_X6_kidsOf_7 p1 p2 m_n m_parents 5000 0 (p1 + 1)
def sp_X6_isTwig (p1 : Int32) (p2 : Int32) (m_n : Int32) (m_parents : Nat → Int32) : Option (Int32) :=
  if ((xi_shr p2 p1) &&& 1) = 1 then
    (sp_X6_kidsOf p1 p2 m_n m_parents).bind fun r1 =>
    if r1 = 0 then
      if p1 ≤ 0 then
        some 0
      else
        some 1
    else
      some 0
  else
    some 0
def sp_X6_even (p1 : Int32) (m_lasts : Int32) (m_kinds : Nat → Int32) (m_numbers : Nat → Int32) : Option (Int32) :=
  (xo_at m_kinds 12 p1).bind fun v1 =>
  if v1 = 0 then
    some ((xi_shr m_lasts p1) &&& 1)
  else
    if v1 = 1 then
      some 0
    else
      if v1 = 3 then
        (xo_at m_numbers 12 p1).bind fun v2 =>
        some (xi_rem v2 2)
      else
        some (1 - ((xi_shr m_lasts p1) &&& 1))
def sp_X6_weighs (p1 : Int32) (p2 : Int32) (m_kinds : Nat → Int32) (m_numbers : Nat → Int32) : Option (Int32) :=
  (xo_at m_kinds 12 p1).bind fun v1 =>
  (xo_at m_numbers 12 p1).bind fun v2 =>
  if p2 ≤ v2 then
    if v1 = 1 then
      some 1
    else
      if v1 = 3 then
        some (1 + (p2 / 2))
      else
        if v1 = 2 then
          some 2
        else
          if v1 = 4 then
            some 4
          else
            some 1
  else
    if v1 = 1 then
      some 0
    else
      if v1 = 3 then
        some (0 + (p2 / 2))
      else
        if v1 = 2 then
          some 2
        else
          if v1 = 4 then
            some 4
          else
            some 1
def sp_X6_goes_44 (u1 : Int32) (u2 : Int32) (m_n : Int32) (m_lasts : Int32) (m_parents : Nat → Int32) (m_kinds : Nat → Int32) (m_numbers : Nat → Int32) : Nat → Int32 → Int32 → (Nat → Int32) → (Nat → Int32) → Option (Int32 × (Nat → Int32) × (Nat → Int32))
  | 0, _, _, _, _ => none
  | n + 1, u3, u4, m_yes, m_no =>
    if u4 < 0 then
      some (u3, m_yes, m_no)
    else
      if ((xi_shr u1 u4) &&& 1) = 1 then
        (sp_X6_isTwig u4 u1 m_n m_parents).bind fun r1 =>
        if r1 = 0 then
          (xo_at m_yes 12 u4).bind fun v2 =>
          (xo_at m_no 12 u4).bind fun v3 =>
          if v2 ≤ v3 then
            (xo_at m_yes 12 u4).bind fun v4 =>
            (xo_at m_no 12 u4).bind fun v5 =>
            if v5 ≤ v4 then
              (sp_X6_even u4 m_lasts m_kinds m_numbers).bind fun r6 =>
              if u4 ≤ 0 then
                sp_X6_goes_44 u1 u2 m_n m_lasts m_parents m_kinds m_numbers n (u3 ||| (xi_shl r6 u4)) (u4 + (-1)) m_yes m_no
              else
                (sp_X6_kidsOf u4 u1 m_n m_parents).bind fun r7 =>
                (sp_X6_weighs u4 r7 m_kinds m_numbers).bind fun r8 =>
                if r6 = 1 then
                  (xo_at m_parents 12 u4).bind fun v12 =>
                  (xo_at m_yes 12 v12).bind fun v13 =>
                  (xo_set m_yes 12 v12 (v13 + r8)).bind fun f14 =>
                  sp_X6_goes_44 u1 u2 m_n m_lasts m_parents m_kinds m_numbers n (u3 ||| (xi_shl r6 u4)) (u4 + (-1)) f14 m_no
                else
                  (xo_at m_parents 12 u4).bind fun v9 =>
                  (xo_at m_no 12 v9).bind fun v10 =>
                  (xo_set m_no 12 v9 (v10 + r8)).bind fun f11 =>
                  sp_X6_goes_44 u1 u2 m_n m_lasts m_parents m_kinds m_numbers n (u3 ||| (xi_shl r6 u4)) (u4 + (-1)) m_yes f11
            else
              if u4 ≤ 0 then
                sp_X6_goes_44 u1 u2 m_n m_lasts m_parents m_kinds m_numbers n (u3 ||| (xi_shl 0 u4)) (u4 + (-1)) m_yes m_no
              else
                (sp_X6_kidsOf u4 u1 m_n m_parents).bind fun r15 =>
                (sp_X6_weighs u4 r15 m_kinds m_numbers).bind fun r16 =>
                if (0 : Int32) = 1 then
                  (xo_at m_parents 12 u4).bind fun v20 =>
                  (xo_at m_yes 12 v20).bind fun v21 =>
                  (xo_set m_yes 12 v20 (v21 + r16)).bind fun f22 =>
                  sp_X6_goes_44 u1 u2 m_n m_lasts m_parents m_kinds m_numbers n (u3 ||| (xi_shl 0 u4)) (u4 + (-1)) f22 m_no
                else
                  (xo_at m_parents 12 u4).bind fun v17 =>
                  (xo_at m_no 12 v17).bind fun v18 =>
                  (xo_set m_no 12 v17 (v18 + r16)).bind fun f19 =>
                  sp_X6_goes_44 u1 u2 m_n m_lasts m_parents m_kinds m_numbers n (u3 ||| (xi_shl 0 u4)) (u4 + (-1)) m_yes f19
          else
            if u4 ≤ 0 then
              sp_X6_goes_44 u1 u2 m_n m_lasts m_parents m_kinds m_numbers n (u3 ||| (xi_shl 1 u4)) (u4 + (-1)) m_yes m_no
            else
              (sp_X6_kidsOf u4 u1 m_n m_parents).bind fun r23 =>
              (sp_X6_weighs u4 r23 m_kinds m_numbers).bind fun r24 =>
              if (1 : Int32) = 1 then
                (xo_at m_parents 12 u4).bind fun v28 =>
                (xo_at m_yes 12 v28).bind fun v29 =>
                (xo_set m_yes 12 v28 (v29 + r24)).bind fun f30 =>
                sp_X6_goes_44 u1 u2 m_n m_lasts m_parents m_kinds m_numbers n (u3 ||| (xi_shl 1 u4)) (u4 + (-1)) f30 m_no
              else
                (xo_at m_parents 12 u4).bind fun v25 =>
                (xo_at m_no 12 v25).bind fun v26 =>
                (xo_set m_no 12 v25 (v26 + r24)).bind fun f27 =>
                sp_X6_goes_44 u1 u2 m_n m_lasts m_parents m_kinds m_numbers n (u3 ||| (xi_shl 1 u4)) (u4 + (-1)) m_yes f27
        else
          if u4 ≤ 0 then
            sp_X6_goes_44 u1 u2 m_n m_lasts m_parents m_kinds m_numbers n (u3 ||| (xi_shl ((xi_shr u2 u4) &&& 1) u4)) (u4 + (-1)) m_yes m_no
          else
            (sp_X6_kidsOf u4 u1 m_n m_parents).bind fun r31 =>
            (sp_X6_weighs u4 r31 m_kinds m_numbers).bind fun r32 =>
            if ((xi_shr u2 u4) &&& 1) = 1 then
              (xo_at m_parents 12 u4).bind fun v36 =>
              (xo_at m_yes 12 v36).bind fun v37 =>
              (xo_set m_yes 12 v36 (v37 + r32)).bind fun f38 =>
              sp_X6_goes_44 u1 u2 m_n m_lasts m_parents m_kinds m_numbers n (u3 ||| (xi_shl ((xi_shr u2 u4) &&& 1) u4)) (u4 + (-1)) f38 m_no
            else
              (xo_at m_parents 12 u4).bind fun v33 =>
              (xo_at m_no 12 v33).bind fun v34 =>
              (xo_set m_no 12 v33 (v34 + r32)).bind fun f35 =>
              sp_X6_goes_44 u1 u2 m_n m_lasts m_parents m_kinds m_numbers n (u3 ||| (xi_shl ((xi_shr u2 u4) &&& 1) u4)) (u4 + (-1)) m_yes f35
      else
        sp_X6_goes_44 u1 u2 m_n m_lasts m_parents m_kinds m_numbers n u3 (u4 + (-1)) m_yes m_no
def sp_X6_goes_5 (u1 : Int32) (u2 : Int32) (u3 : Int32) (m_n : Int32) (m_lasts : Int32) (m_parents : Nat → Int32) (m_kinds : Nat → Int32) (m_numbers : Nat → Int32) : Nat → Int32 → (Nat → Int32) → (Nat → Int32) → Option (Int32 × (Nat → Int32) × (Nat → Int32))
  | 0, _, _, _ => none
  | n + 1, u4, m_yes, m_no =>
    if m_n ≤ u4 then
      sp_X6_goes_44 u1 u2 m_n m_lasts m_parents m_kinds m_numbers 5000 u3 (m_n - 1) m_yes m_no
    else
      (xo_set m_yes 12 u4 0).bind fun f39 =>
      (xo_set m_no 12 u4 0).bind fun f40 =>
      sp_X6_goes_5 u1 u2 u3 m_n m_lasts m_parents m_kinds m_numbers n (u4 + 1) f39 f40
def sp_X6_goes (p1 : Int32) (p2 : Int32) (m_n : Int32) (m_lasts : Int32) (m_parents : Nat → Int32) (m_kinds : Nat → Int32) (m_numbers : Nat → Int32) (m_yes : Nat → Int32) (m_no : Nat → Int32) : Option (Int32 × (Nat → Int32) × (Nat → Int32)) :=
  sp_X6_goes_5 p1 p2 0 m_n m_lasts m_parents m_kinds m_numbers 5000 0 m_yes m_no
def sp_X6_lawOf (p1 : Int32) (p2 : Int32) (m_n : Int32) (m_lasts : Int32) (m_parents : Nat → Int32) (m_kinds : Nat → Int32) (m_numbers : Nat → Int32) (m_yes : Nat → Int32) (m_no : Nat → Int32) : Option (Int32 × (Nat → Int32) × (Nat → Int32)) :=
  (sp_X6_standing p1 m_n m_parents).bind fun r1 =>
  (sp_X6_goes r1 p2 m_n m_lasts m_parents m_kinds m_numbers m_yes m_no).bind fun r2 =>
  some ((r2.1 &&& 1), r2.2.1, r2.2.2)
def sp_X6_law (m_n : Int32) (m_minds : Int32) (m_lasts : Int32) (m_cutNow : Int32) (m_parents : Nat → Int32) (m_kinds : Nat → Int32) (m_numbers : Nat → Int32) (m_yes : Nat → Int32) (m_no : Nat → Int32) : Option (Int32 × (Nat → Int32) × (Nat → Int32)) :=
  (sp_X6_lawOf m_cutNow m_minds m_n m_lasts m_parents m_kinds m_numbers m_yes m_no).bind fun r1 =>
  some (r1.1, r1.2.1, r1.2.2)
def sp_X6_in (p1 : Int64) (p2 : Int64) (p3 : Int64)  : Int32 :=
  if (lg_cmp p1 p2) < 0 then
    0
  else
    if 0 < (lg_cmp p1 p3) then
      0
    else
      1
def sp_X6_isNode (p1 : Int32) (m_n : Int32) : Option (Int32) :=
  if ¬ ((sp_X6_in (Int32.toInt64 p1) 0 (Int32.toInt64 (m_n - 1))) = 0 ∨ (sp_X6_in (Int32.toInt64 p1) 0 (Int32.toInt64 (m_n - 1))) = 1) then none else
  some (sp_X6_in (Int32.toInt64 p1) 0 (Int32.toInt64 (m_n - 1)))
def sp_X6_grow (p1 : Int32) (p2 : Int32) (p3 : Int32) (m_n : Int32) (m_minds : Int32) (m_lasts : Int32) (m_cutNow : Int32) (m_parents : Nat → Int32) (m_kinds : Nat → Int32) (m_numbers : Nat → Int32) (m_odds : Nat → Int32) : Option (Int32 × Int32 × Int32 × Int32 × Int32 × (Nat → Int32) × (Nat → Int32) × (Nat → Int32) × (Nat → Int32)) :=
  (sp_X6_isNode p1 m_n).bind fun r1 =>
  if r1 = 0 then
    some ((-2), m_n, m_minds, m_lasts, m_cutNow, m_parents, m_kinds, m_numbers, m_odds)
  else
    if (sp_X6_in (Int32.toInt64 p2) 0 5) = 0 then
      some ((-2), m_n, m_minds, m_lasts, m_cutNow, m_parents, m_kinds, m_numbers, m_odds)
    else
      if (sp_X6_in (Int32.toInt64 p3) 0 91) = 0 then
        some ((-2), m_n, m_minds, m_lasts, m_cutNow, m_parents, m_kinds, m_numbers, m_odds)
      else
        if (xi_rem p3 10) ≤ 1 then
          (sp_X6_standing m_cutNow m_n m_parents).bind fun r2 =>
          if ((xi_shr r2 p1) &&& 1) = 0 then
            some ((-3), m_n, m_minds, m_lasts, m_cutNow, m_parents, m_kinds, m_numbers, m_odds)
          else
            if m_n = 12 then
              some ((-4), m_n, m_minds, m_lasts, m_cutNow, m_parents, m_kinds, m_numbers, m_odds)
            else
              (xo_set m_parents 12 m_n p1).bind fun f3 =>
              (xo_set m_kinds 12 m_n p2).bind fun f4 =>
              (xo_set m_numbers 12 m_n (p3 / 10)).bind fun f5 =>
              (xo_set m_odds 12 m_n 50).bind fun f6 =>
              some (((m_n + 1) - 1), (m_n + 1), ((m_minds &&& ((xi_shl 1 m_n) ^^^ (-1))) ||| (xi_shl (xi_rem p3 10) m_n)), (m_lasts &&& ((xi_shl 1 m_n) ^^^ (-1))), (m_cutNow &&& ((xi_shl 1 m_n) ^^^ (-1))), f3, f4, f5, f6)
        else
          some ((-2), m_n, m_minds, m_lasts, m_cutNow, m_parents, m_kinds, m_numbers, m_odds)
def sp_X6_set_135 (u1 : Int32) (u2 : Int32) (u3 : Int32) (u4 : Int32) (m_minds : Int32) (m_lasts : Int32) (m_year : Int32) (m_numbers : Nat → Int32) (m_odds : Nat → Int32) : Option (Int32 × Int32 × Int32 × Int32 × (Nat → Int32) × (Nat → Int32)) :=
    if u1 = 0 then
      (xo_set m_numbers 12 u2 u3).bind fun f2 =>
      some (u4, m_minds, m_lasts, m_year, f2, m_odds)
    else
      if u1 = 1 then
        some (u4, ((m_minds &&& ((xi_shl 1 u2) ^^^ (-1))) ||| (xi_shl u3 u2)), m_lasts, m_year, m_numbers, m_odds)
      else
        if u1 = 2 then
          (xo_set m_odds 12 u2 u3).bind fun f1 =>
          some (u4, m_minds, m_lasts, m_year, m_numbers, f1)
        else
          if u1 = 3 then
            some (u4, m_minds, ((m_lasts &&& ((xi_shl 1 u2) ^^^ (-1))) ||| (xi_shl u3 u2)), m_year, m_numbers, m_odds)
          else
            some (u4, m_minds, m_lasts, u3, m_numbers, m_odds)
def sp_X6_set_70 (u1 : Int32) (u2 : Int32) (u3 : Int32) (m_minds : Int32) (m_lasts : Int32) (m_year : Int32) (m_numbers : Nat → Int32) (m_odds : Nat → Int32) : Option (Int32 × Int32 × Int32 × Int32 × (Nat → Int32) × (Nat → Int32)) :=
    if u1 = 0 then
      (xo_at m_numbers 12 u2).bind fun v4 =>
      sp_X6_set_135 u1 u2 u3 v4 m_minds m_lasts m_year m_numbers m_odds
    else
      if u1 = 1 then
        sp_X6_set_135 u1 u2 u3 ((xi_shr m_minds u2) &&& 1) m_minds m_lasts m_year m_numbers m_odds
      else
        if u1 = 2 then
          (xo_at m_odds 12 u2).bind fun v3 =>
          sp_X6_set_135 u1 u2 u3 v3 m_minds m_lasts m_year m_numbers m_odds
        else
          if u1 = 3 then
            sp_X6_set_135 u1 u2 u3 ((xi_shr m_lasts u2) &&& 1) m_minds m_lasts m_year m_numbers m_odds
          else
            sp_X6_set_135 u1 u2 u3 m_year m_minds m_lasts m_year m_numbers m_odds
def sp_X6_set_61 (u1 : Int32) (u2 : Int32) (u3 : Int32) (s0 : Int64) (s1 : Int64) (s2 : Int64) (m_minds : Int32) (m_lasts : Int32) (m_year : Int32) (m_numbers : Nat → Int32) (m_odds : Nat → Int32) : Option (Int32 × Int32 × Int32 × Int32 × (Nat → Int32) × (Nat → Int32)) :=
    if (sp_X6_in s0 s1 s2) = 0 then
      some ((-2), m_minds, m_lasts, m_year, m_numbers, m_odds)
    else
      sp_X6_set_70 u1 u2 u3 m_minds m_lasts m_year m_numbers m_odds
def sp_X6_set_25 (u1 : Int32) (u2 : Int32) (u3 : Int32) (m_minds : Int32) (m_lasts : Int32) (m_year : Int32) (m_numbers : Nat → Int32) (m_odds : Nat → Int32) : Option (Int32 × Int32 × Int32 × Int32 × (Nat → Int32) × (Nat → Int32)) :=
    if u1 = 0 then
      sp_X6_set_61 u1 u2 u3 (Int32.toInt64 u3) 0 9 m_minds m_lasts m_year m_numbers m_odds
    else
      if u1 = 2 then
        sp_X6_set_61 u1 u2 u3 (Int32.toInt64 u3) 0 100 m_minds m_lasts m_year m_numbers m_odds
      else
        if u1 = 4 then
          sp_X6_set_61 u1 u2 u3 (Int32.toInt64 u3) 0 99 m_minds m_lasts m_year m_numbers m_odds
        else
          sp_X6_set_61 u1 u2 u3 (Int32.toInt64 u3) 0 1 m_minds m_lasts m_year m_numbers m_odds
def sp_X6_set (p1 : Int32) (p2 : Int32) (p3 : Int32) (m_n : Int32) (m_minds : Int32) (m_lasts : Int32) (m_year : Int32) (m_numbers : Nat → Int32) (m_odds : Nat → Int32) : Option (Int32 × Int32 × Int32 × Int32 × (Nat → Int32) × (Nat → Int32)) :=
  if (sp_X6_in (Int32.toInt64 p1) 0 4) = 0 then
    some ((-2), m_minds, m_lasts, m_year, m_numbers, m_odds)
  else
    if 4 ≤ p1 then
      sp_X6_set_25 p1 p2 p3 m_minds m_lasts m_year m_numbers m_odds
    else
      (sp_X6_isNode p2 m_n).bind fun r5 =>
      if r5 = 0 then
        some ((-2), m_minds, m_lasts, m_year, m_numbers, m_odds)
      else
        sp_X6_set_25 p1 p2 p3 m_minds m_lasts m_year m_numbers m_odds
def sp_X6_told (p1 : Int32) (p2 : Int32) (m_n : Int32) (m_minds : Int32) (m_lasts : Int32) (m_cutNow : Int32) (m_parents : Nat → Int32) (m_kinds : Nat → Int32) (m_numbers : Nat → Int32) (m_odds : Nat → Int32) (m_yes : Nat → Int32) (m_no : Nat → Int32) : Option (Int32 × (Nat → Int32) × (Nat → Int32)) :=
  (sp_X6_isNode p1 m_n).bind fun r1 =>
  if r1 = 0 then
    some ((-2), m_yes, m_no)
  else
    if (sp_X6_in (Int32.toInt64 p2) 0 9) = 0 then
      some ((-2), m_yes, m_no)
    else
      if 3 ≤ p2 then
        if 6 ≤ p2 then
          (sp_X6_standing m_cutNow m_n m_parents).bind fun r2 =>
          if ((xi_shr r2 p1) &&& 1) = 1 then
            if 8 ≤ p2 then
              if p2 = 8 then
                if (1 : Int32) = 0 then
                  some ((-1), m_yes, m_no)
                else
                  (sp_X6_goes r2 m_minds m_n m_lasts m_parents m_kinds m_numbers m_yes m_no).bind fun r9 =>
                  some (((xi_shr r9.1 p1) &&& 1), r9.2.1, r9.2.2)
              else
                if (1 : Int32) = 0 then
                  some (0, m_yes, m_no)
                else
                  (sp_X6_kidsOf p1 r2 m_n m_parents).bind fun r7 =>
                  (sp_X6_weighs p1 r7 m_kinds m_numbers).bind fun r8 =>
                  some (r8, m_yes, m_no)
            else
              if p2 = 6 then
                if (1 : Int32) = 0 then
                  some (0, m_yes, m_no)
                else
                  some (1, m_yes, m_no)
              else
                (sp_X6_isTwig p1 r2 m_n m_parents).bind fun r10 =>
                if r10 = 0 then
                  some (0, m_yes, m_no)
                else
                  some (1, m_yes, m_no)
          else
            if 8 ≤ p2 then
              if p2 = 8 then
                if (0 : Int32) = 0 then
                  some ((-1), m_yes, m_no)
                else
                  (sp_X6_goes r2 m_minds m_n m_lasts m_parents m_kinds m_numbers m_yes m_no).bind fun r5 =>
                  some (((xi_shr r5.1 p1) &&& 1), r5.2.1, r5.2.2)
              else
                if (0 : Int32) = 0 then
                  some (0, m_yes, m_no)
                else
                  (sp_X6_kidsOf p1 r2 m_n m_parents).bind fun r3 =>
                  (sp_X6_weighs p1 r3 m_kinds m_numbers).bind fun r4 =>
                  some (r4, m_yes, m_no)
            else
              if p2 = 6 then
                if (0 : Int32) = 0 then
                  some (0, m_yes, m_no)
                else
                  some (1, m_yes, m_no)
              else
                (sp_X6_isTwig p1 r2 m_n m_parents).bind fun r6 =>
                if r6 = 0 then
                  some (0, m_yes, m_no)
                else
                  some (1, m_yes, m_no)
        else
          if p2 = 3 then
            (xo_at m_odds 12 p1).bind fun v12 =>
            some (v12, m_yes, m_no)
          else
            if p2 = 4 then
              some (((xi_shr m_lasts p1) &&& 1), m_yes, m_no)
            else
              (xo_at m_parents 12 p1).bind fun v11 =>
              some (v11, m_yes, m_no)
      else
        if p2 = 0 then
          (xo_at m_kinds 12 p1).bind fun v14 =>
          some (v14, m_yes, m_no)
        else
          if p2 = 1 then
            (xo_at m_numbers 12 p1).bind fun v13 =>
            some (v13, m_yes, m_no)
          else
            some (((xi_shr m_minds p1) &&& 1), m_yes, m_no)
def sp_X6_feed (p1 : Int32) (m_taped : Int32) (m_tape : Nat → Int32) : Option (Int32 × Int32 × (Nat → Int32)) :=
  if (sp_X6_in (Int32.toInt64 p1) 0 255) = 0 then
    some ((-2), m_taped, m_tape)
  else
    if m_taped = 160 then
      some ((-4), m_taped, m_tape)
    else
      (xo_set m_tape 160 m_taped p1).bind fun f1 =>
      some ((m_taped + 1), (m_taped + 1), f1)
def sp_X6_force (p1 : Int32) (m_textCount : Int32) (m_rule : Int32) : Int32 × Int32 :=
  if (sp_X6_in (Int32.toInt64 p1) 0 (Int32.toInt64 (m_textCount - 1))) = 0 then
    ((-2), m_rule)
  else
    (m_rule, p1)
def sp_X6_pass (m_n : Int32) (m_minds : Int32) (m_lasts : Int32) (m_cutNow : Int32) (m_year : Int32) (m_parents : Nat → Int32) (m_kinds : Nat → Int32) (m_numbers : Nat → Int32) (m_yes : Nat → Int32) (m_no : Nat → Int32) : Option (Int32 × Int32 × Int32 × (Nat → Int32) × (Nat → Int32)) :=
  (sp_X6_standing m_cutNow m_n m_parents).bind fun r1 =>
  (sp_X6_goes r1 m_minds m_n m_lasts m_parents m_kinds m_numbers m_yes m_no).bind fun r2 =>
  if 99 ≤ m_year then
    some ((r2.1 &&& 1), ((m_lasts &&& (r1 ^^^ (-1))) ||| r2.1), 99, r2.2.1, r2.2.2)
  else
    some ((r2.1 &&& 1), ((m_lasts &&& (r1 ^^^ (-1))) ||| r2.1), (m_year + 1), r2.2.1, r2.2.2)
def sp_X6_bitsOf_4 : Nat → Int32 → Int32 → Option (Int32)
  | 0, _, _ => none
  | n + 1, u1, u2 =>
    if u2 = 0 then
      some u1
    else
      sp_X6_bitsOf_4 n (u1 + 1) (u2 &&& (u2 - 1))
def sp_X6_bitsOf (p1 : Int32)  : Option (Int32) :=
  sp_X6_bitsOf_4 5000 0 p1
def sp_X6_cut (p1 : Int32) (m_n : Int32) (m_cutNow : Int32) (m_parents : Nat → Int32) : Option (Int32 × Int32) :=
  if (sp_X6_in (Int32.toInt64 p1) 1 (Int32.toInt64 (m_n - 1))) = 0 then
    some ((-2), m_cutNow)
  else
    (sp_X6_standing m_cutNow m_n m_parents).bind fun r1 =>
    if ((xi_shr r1 p1) &&& 1) = 0 then
      some ((-3), m_cutNow)
    else
      (sp_X6_bitsOf r1).bind fun r2 =>
      (sp_X6_standing (m_cutNow ||| (xi_shl 1 p1)) m_n m_parents).bind fun r3 =>
      (sp_X6_bitsOf r3).bind fun r4 =>
      some ((r2 - r4), (m_cutNow ||| (xi_shl 1 p1)))
def sp_X6_graft (p1 : Int32) (m_n : Int32) (m_cutNow : Int32) (m_parents : Nat → Int32) : Option (Int32 × Int32) :=
  if (sp_X6_in (Int32.toInt64 p1) 1 (Int32.toInt64 (m_n - 1))) = 0 then
    some ((-2), m_cutNow)
  else
    (sp_X6_standing m_cutNow m_n m_parents).bind fun r1 =>
    if ((xi_shr m_cutNow p1) &&& 1) = 0 then
      some ((-3), m_cutNow)
    else
      (xo_at m_parents 12 p1).bind fun v2 =>
      if ((xi_shr r1 v2) &&& 1) = 0 then
        some ((-3), m_cutNow)
      else
        (sp_X6_standing (m_cutNow &&& ((xi_shl 1 p1) ^^^ (-1))) m_n m_parents).bind fun r3 =>
        (sp_X6_bitsOf r3).bind fun r4 =>
        (sp_X6_bitsOf r1).bind fun r5 =>
        some ((r4 - r5), (m_cutNow &&& ((xi_shl 1 p1) ^^^ (-1))))
def sp_X6_twigs_4 (u1 : Int32) (m_n : Int32) (m_parents : Nat → Int32) : Nat → Int32 → Int32 → Option (Int32)
  | 0, _, _ => none
  | n + 1, u2, u3 =>
    if m_n ≤ u3 then
      some u2
    else
      (sp_X6_isTwig u3 u1 m_n m_parents).bind fun r1 =>
      if r1 = 0 then
        sp_X6_twigs_4 u1 m_n m_parents n (u2 ||| (xi_shl 0 u3)) (u3 + 1)
      else
        sp_X6_twigs_4 u1 m_n m_parents n (u2 ||| (xi_shl 1 u3)) (u3 + 1)
def sp_X6_twigs (p1 : Int32) (m_n : Int32) (m_parents : Nat → Int32) : Option (Int32) :=
  sp_X6_twigs_4 p1 m_n m_parents 5000 0 0
def sp_X6_lopsided_34 (u1 : Int32) (u2 : Int32) (u3 : Int32) (m_n : Int32) (m_lasts : Int32) (m_parents : Nat → Int32) (m_kinds : Nat → Int32) (m_numbers : Nat → Int32) : Nat → Int32 → Int32 → (Nat → Int32) → (Nat → Int32) → Option (Int32 × (Nat → Int32) × (Nat → Int32))
  | 0, _, _, _, _ => none
  | n + 1, u4, u5, m_yes, m_no =>
    if (xi_shl 1 m_n) ≤ u5 then
      some (u4, m_yes, m_no)
    else
      if (u5 &&& (u3 ^^^ (-1))) = 0 then
        (sp_X6_goes u2 u5 m_n m_lasts m_parents m_kinds m_numbers m_yes m_no).bind fun r3 =>
        if (r3.1 &&& 1) = (1 - u1) then
          (sp_X6_bitsOf u5).bind fun r4 =>
          if u4 = (-1) then
            sp_X6_lopsided_34 u1 u2 u3 m_n m_lasts m_parents m_kinds m_numbers n r4 (u5 + 1) r3.2.1 r3.2.2
          else
            if u1 = 0 then
              if u4 ≤ r4 then
                sp_X6_lopsided_34 u1 u2 u3 m_n m_lasts m_parents m_kinds m_numbers n u4 (u5 + 1) r3.2.1 r3.2.2
              else
                sp_X6_lopsided_34 u1 u2 u3 m_n m_lasts m_parents m_kinds m_numbers n r4 (u5 + 1) r3.2.1 r3.2.2
            else
              if r4 ≤ u4 then
                sp_X6_lopsided_34 u1 u2 u3 m_n m_lasts m_parents m_kinds m_numbers n u4 (u5 + 1) r3.2.1 r3.2.2
              else
                sp_X6_lopsided_34 u1 u2 u3 m_n m_lasts m_parents m_kinds m_numbers n r4 (u5 + 1) r3.2.1 r3.2.2
        else
          sp_X6_lopsided_34 u1 u2 u3 m_n m_lasts m_parents m_kinds m_numbers n u4 (u5 + 1) r3.2.1 r3.2.2
      else
        sp_X6_lopsided_34 u1 u2 u3 m_n m_lasts m_parents m_kinds m_numbers n u4 (u5 + 1) m_yes m_no
def sp_X6_lopsided (p1 : Int32) (m_n : Int32) (m_lasts : Int32) (m_cutNow : Int32) (m_parents : Nat → Int32) (m_kinds : Nat → Int32) (m_numbers : Nat → Int32) (m_yes : Nat → Int32) (m_no : Nat → Int32) : Option (Int32 × (Nat → Int32) × (Nat → Int32)) :=
  if (sp_X6_in (Int32.toInt64 p1) 0 1) = 0 then
    some ((-2), m_yes, m_no)
  else
    (sp_X6_standing m_cutNow m_n m_parents).bind fun r1 =>
    (sp_X6_twigs r1 m_n m_parents).bind fun r2 =>
    sp_X6_lopsided_34 p1 r1 r2 m_n m_lasts m_parents m_kinds m_numbers 5000 (-1) 0 m_yes m_no
def sp_X6_countOf_6 (u1 : Int32) (u2 : Int32) (u3 : Int32) (m_n : Int32) (m_lasts : Int32) (m_parents : Nat → Int32) (m_kinds : Nat → Int32) (m_numbers : Nat → Int32) : Nat → Int32 → Int32 → (Nat → Int32) → (Nat → Int32) → Option (Int32 × (Nat → Int32) × (Nat → Int32))
  | 0, _, _, _, _ => none
  | n + 1, u4, u5, m_yes, m_no =>
    if (xi_shl 1 m_n) ≤ u5 then
      some (u4, m_yes, m_no)
    else
      if (u5 &&& (u3 ^^^ (-1))) = 0 then
        (sp_X6_goes u2 u5 m_n m_lasts m_parents m_kinds m_numbers m_yes m_no).bind fun r1 =>
        (sp_X6_goes u2 (u5 ^^^ (xi_shl 1 u1)) m_n m_lasts m_parents m_kinds m_numbers r1.2.1 r1.2.2).bind fun r2 =>
        if (r1.1 &&& 1) = (r2.1 &&& 1) then
          sp_X6_countOf_6 u1 u2 u3 m_n m_lasts m_parents m_kinds m_numbers n (u4 + 0) (u5 + 1) r2.2.1 r2.2.2
        else
          sp_X6_countOf_6 u1 u2 u3 m_n m_lasts m_parents m_kinds m_numbers n (u4 + 1) (u5 + 1) r2.2.1 r2.2.2
      else
        sp_X6_countOf_6 u1 u2 u3 m_n m_lasts m_parents m_kinds m_numbers n u4 (u5 + 1) m_yes m_no
def sp_X6_countOf (p1 : Int32) (p2 : Int32) (p3 : Int32) (m_n : Int32) (m_lasts : Int32) (m_parents : Nat → Int32) (m_kinds : Nat → Int32) (m_numbers : Nat → Int32) (m_yes : Nat → Int32) (m_no : Nat → Int32) : Option (Int32 × (Nat → Int32) × (Nat → Int32)) :=
  sp_X6_countOf_6 p1 p2 p3 m_n m_lasts m_parents m_kinds m_numbers 5000 0 0 m_yes m_no
def sp_X6_counts_56 (u2 : Int32) (u3 : Int32) (m_n : Int32) (m_lasts : Int32) (m_parents : Nat → Int32) (m_kinds : Nat → Int32) (m_numbers : Nat → Int32) : Nat → Int32 → Int32 → (Nat → Int32) → (Nat → Int32) → Option (Int32 × (Nat → Int32) × (Nat → Int32))
  | 0, _, _, _, _ => none
  | n + 1, u4, u5, m_yes, m_no =>
    if m_n ≤ u5 then
      some (1, m_yes, m_no)
    else
      if ((xi_shr u3 u5) &&& 1) = 1 then
        (sp_X6_countOf u5 u2 u3 m_n m_lasts m_parents m_kinds m_numbers m_yes m_no).bind fun r3 =>
        if u4 = (-1) then
          sp_X6_counts_56 u2 u3 m_n m_lasts m_parents m_kinds m_numbers n r3.1 (u5 + 1) r3.2.1 r3.2.2
        else
          if r3.1 = u4 then
            sp_X6_counts_56 u2 u3 m_n m_lasts m_parents m_kinds m_numbers n r3.1 (u5 + 1) r3.2.1 r3.2.2
          else
            some (0, r3.2.1, r3.2.2)
      else
        sp_X6_counts_56 u2 u3 m_n m_lasts m_parents m_kinds m_numbers n u4 (u5 + 1) m_yes m_no
def sp_X6_counts (p1 : Int32) (m_n : Int32) (m_lasts : Int32) (m_cutNow : Int32) (m_parents : Nat → Int32) (m_kinds : Nat → Int32) (m_numbers : Nat → Int32) (m_yes : Nat → Int32) (m_no : Nat → Int32) : Option (Int32 × (Nat → Int32) × (Nat → Int32)) :=
  (sp_X6_standing m_cutNow m_n m_parents).bind fun r1 =>
  (sp_X6_twigs r1 m_n m_parents).bind fun r2 =>
  if p1 = (-1) then
    sp_X6_counts_56 r1 r2 m_n m_lasts m_parents m_kinds m_numbers 5000 (-1) 0 m_yes m_no
  else
    (sp_X6_isNode p1 m_n).bind fun r4 =>
    if r4 = 0 then
      some ((-2), m_yes, m_no)
    else
      if ((xi_shr r2 p1) &&& 1) = 1 then
        (sp_X6_countOf p1 r1 r2 m_n m_lasts m_parents m_kinds m_numbers m_yes m_no).bind fun r5 =>
        some (r5.1, r5.2.1, r5.2.2)
      else
        some ((-2), m_yes, m_no)
def sp_X6_isSheet (p1 : Int32)  : Option (Int32) :=
  if ¬ ((sp_X6_in (Int32.toInt64 p1) 0 3) = 0 ∨ (sp_X6_in (Int32.toInt64 p1) 0 3) = 1) then none else
  some (sp_X6_in (Int32.toInt64 p1) 0 3)
def sp_X6_areApart_26 (k : Int32 → Option (Int32)) (u1 : Int32) (u2 : Int32) (m_n : Int32) (m_parents : Nat → Int32) : Nat → Int32 → Option (Int32)
  | 0, _ => none
  | n + 1, u3 =>
    if u3 ≤ 0 then
      k u3
    else
      if ((xi_shr u1 u3) &&& 1) = 1 then
        some 0
      else
        (xo_at m_parents 12 u3).bind fun v2 =>
        sp_X6_areApart_26 k u1 u2 m_n m_parents n v2
def sp_X6_areApart_2 (u1 : Int32) (m_n : Int32) (m_parents : Nat → Int32) : Nat → Int32 → Option (Int32)
  | 0, _ => none
  | n + 1, u2 =>
    if m_n ≤ u2 then
      if (u1 &&& 1) = 0 then
        some 1
      else
        some 0
    else
      if ((xi_shr u1 u2) &&& 1) = 1 then
        (xo_at m_parents 12 u2).bind fun v1 =>
        sp_X6_areApart_26 (fun u3 =>
          sp_X6_areApart_2 u1 m_n m_parents n (u2 + 1)) u1 u2 m_n m_parents 5000 v1
      else
        sp_X6_areApart_2 u1 m_n m_parents n (u2 + 1)
def sp_X6_areApart (p1 : Int32) (m_n : Int32) (m_parents : Nat → Int32) : Option (Int32) :=
  sp_X6_areApart_2 p1 m_n m_parents 5000 1
def sp_X6_isSo_13 (u1 : Int32) (u2 : Int32) (u3 : Int32) (m_sheetSize : Nat → Int32) (m_items : Nat → Int32) : Nat → Int32 → (Nat → Int32) → (Nat → Int32) → Option (Int32 × (Nat → Int32) × (Nat → Int32))
  | 0, _, _, _ => none
  | n + 1, u4, m_yes, m_no =>
    (xo_at m_sheetSize 4 u1).bind fun v2 =>
    if v2 ≤ u4 then
      some (1, m_yes, m_no)
    else
      (xo_at m_items 160 ((40 * u1) + u4)).bind fun v3 =>
      if ((xi_shr u2 v3) &&& 1) = 0 then
        (xo_at m_items 160 (((40 * u1) + u4) + 1)).bind fun v5 =>
        if (2 : Int32) = v5 then
          sp_X6_isSo_13 u1 u2 u3 m_sheetSize m_items n (u4 + 2) m_yes m_no
        else
          some (0, m_yes, m_no)
      else
        (xo_at m_items 160 (((40 * u1) + u4) + 1)).bind fun v4 =>
        if ((xi_shr u3 v3) &&& 1) = v4 then
          sp_X6_isSo_13 u1 u2 u3 m_sheetSize m_items n (u4 + 2) m_yes m_no
        else
          some (0, m_yes, m_no)
def sp_X6_isSo (p1 : Int32) (p2 : Int32) (m_n : Int32) (m_minds : Int32) (m_lasts : Int32) (m_parents : Nat → Int32) (m_kinds : Nat → Int32) (m_numbers : Nat → Int32) (m_yes : Nat → Int32) (m_no : Nat → Int32) (m_sheetSize : Nat → Int32) (m_items : Nat → Int32) : Option (Int32 × (Nat → Int32) × (Nat → Int32)) :=
  (sp_X6_goes p2 m_minds m_n m_lasts m_parents m_kinds m_numbers m_yes m_no).bind fun r1 =>
  sp_X6_isSo_13 p1 p2 r1.1 m_sheetSize m_items 5000 0 r1.2.1 r1.2.2
def sp_X6_whoCut_128 (u1 : Int32) (u2 : Int32) (u3 : Int32) (m_n : Int32) (m_minds : Int32) (m_lasts : Int32) (m_cutNow : Int32) (m_parents : Nat → Int32) (m_kinds : Nat → Int32) (m_numbers : Nat → Int32) (m_sheetSize : Nat → Int32) (m_items : Nat → Int32) : Nat → Int32 → Int32 → Int32 → (Nat → Int32) → (Nat → Int32) → Option (Int32 × (Nat → Int32) × (Nat → Int32))
  | 0, _, _, _, _, _ => none
  | n + 1, u4, u5, u6, m_yes, m_no =>
    if (xi_shl 1 m_n) ≤ u6 then
      if u2 = 0 then
        some (u4, m_yes, m_no)
      else
        some (u5, m_yes, m_no)
    else
      if (u6 &&& (u3 ^^^ (-1))) = 0 then
        (sp_X6_areApart u6 m_n m_parents).bind fun r6 =>
        if r6 = 0 then
          sp_X6_whoCut_128 u1 u2 u3 m_n m_minds m_lasts m_cutNow m_parents m_kinds m_numbers m_sheetSize m_items n u4 u5 (u6 + 1) m_yes m_no
        else
          (sp_X6_standing (m_cutNow ||| u6) m_n m_parents).bind fun r7 =>
          (sp_X6_isSo u1 r7 m_n m_minds m_lasts m_parents m_kinds m_numbers m_yes m_no m_sheetSize m_items).bind fun r8 =>
          if r8.1 = 0 then
            sp_X6_whoCut_128 u1 u2 u3 m_n m_minds m_lasts m_cutNow m_parents m_kinds m_numbers m_sheetSize m_items n u4 u5 (u6 + 1) r8.2.1 r8.2.2
          else
            if u5 = (-1) then
              sp_X6_whoCut_128 u1 u2 u3 m_n m_minds m_lasts m_cutNow m_parents m_kinds m_numbers m_sheetSize m_items n (u4 + 1) u6 (u6 + 1) r8.2.1 r8.2.2
            else
              sp_X6_whoCut_128 u1 u2 u3 m_n m_minds m_lasts m_cutNow m_parents m_kinds m_numbers m_sheetSize m_items n (u4 + 1) u5 (u6 + 1) r8.2.1 r8.2.2
      else
        sp_X6_whoCut_128 u1 u2 u3 m_n m_minds m_lasts m_cutNow m_parents m_kinds m_numbers m_sheetSize m_items n u4 u5 (u6 + 1) m_yes m_no
def sp_X6_whoCut_49 (u1 : Int32) (u2 : Int32) (m_n : Int32) (m_minds : Int32) (m_lasts : Int32) (m_cutNow : Int32) (m_parents : Nat → Int32) (m_kinds : Nat → Int32) (m_numbers : Nat → Int32) (m_sheetSize : Nat → Int32) (m_items : Nat → Int32) : Nat → Int32 → (Nat → Int32) → (Nat → Int32) → Option (Int32 × (Nat → Int32) × (Nat → Int32))
  | 0, _, _, _ => none
  | n + 1, u3, m_yes, m_no =>
    (xo_at m_sheetSize 4 u1).bind fun v4 =>
    if v4 ≤ u3 then
      (sp_X6_standing m_cutNow m_n m_parents).bind fun r5 =>
      sp_X6_whoCut_128 u1 u2 r5 m_n m_minds m_lasts m_cutNow m_parents m_kinds m_numbers m_sheetSize m_items 5000 0 (-1) 0 m_yes m_no
    else
      (xo_at m_items 160 ((40 * u1) + u3)).bind fun v9 =>
      (sp_X6_isNode v9 m_n).bind fun r10 =>
      if r10 = 0 then
        some ((-2), m_yes, m_no)
      else
        (xo_at m_items 160 (((40 * u1) + u3) + 1)).bind fun v11 =>
        if (sp_X6_in (Int32.toInt64 v11) 0 2) = 0 then
          some ((-2), m_yes, m_no)
        else
          sp_X6_whoCut_49 u1 u2 m_n m_minds m_lasts m_cutNow m_parents m_kinds m_numbers m_sheetSize m_items n (u3 + 2) m_yes m_no
def sp_X6_whoCut (p1 : Int32) (p2 : Int32) (m_n : Int32) (m_minds : Int32) (m_lasts : Int32) (m_cutNow : Int32) (m_parents : Nat → Int32) (m_kinds : Nat → Int32) (m_numbers : Nat → Int32) (m_yes : Nat → Int32) (m_no : Nat → Int32) (m_isThere : Nat → Int32) (m_sheetSize : Nat → Int32) (m_items : Nat → Int32) : Option (Int32 × (Nat → Int32) × (Nat → Int32)) :=
  (sp_X6_isSheet p1).bind fun r1 =>
  if r1 = 0 then
    some ((-2), m_yes, m_no)
  else
    if (sp_X6_in (Int32.toInt64 p2) 0 1) = 0 then
      some ((-2), m_yes, m_no)
    else
      (xo_at m_isThere 4 p1).bind fun v2 =>
      if v2 = 0 then
        some ((-11), m_yes, m_no)
      else
        (xo_at m_sheetSize 4 p1).bind fun v3 =>
        if (xi_rem v3 2) = 1 then
          some ((-2), m_yes, m_no)
        else
          sp_X6_whoCut_49 p1 p2 m_n m_minds m_lasts m_cutNow m_parents m_kinds m_numbers m_sheetSize m_items 5000 0 m_yes m_no
def sp_X6_value_36 (R : Int32 → Int32 → Int32 → Int32 → Int32 → Int32 → (Nat → Int32) → (Nat → Int32) → (Nat → Int32) → (Nat → Int32) → (Nat → Int32) → Option (Int32 × (Nat → Int32) × (Nat → Int32))) (u1 : Int32) (u2 : Int32) (u3 : Int32) (u4 : Int32) (m_n : Int32) (m_minds : Int32) (m_lasts : Int32) (m_parents : Nat → Int32) (m_kinds : Nat → Int32) (m_numbers : Nat → Int32) : Nat → Int32 → (Nat → Int32) → (Nat → Int32) → Option (Int32 × (Nat → Int32) × (Nat → Int32))
  | 0, _, _, _ => none
  | n + 1, u5, m_yes, m_no =>
    if m_n ≤ u5 then
      some ((1 - u3), m_yes, m_no)
    else
      if ((xi_shr u4 u5) &&& 1) = 1 then
        (R (u1 ||| (xi_shl 1 u5)) (u2 - 1) (1 - u3) m_n m_minds m_lasts m_parents m_kinds m_numbers m_yes m_no).bind fun r4 =>
        if r4.1 = u3 then
          some (u3, r4.2.1, r4.2.2)
        else
          sp_X6_value_36 R u1 u2 u3 u4 m_n m_minds m_lasts m_parents m_kinds m_numbers n (u5 + 1) r4.2.1 r4.2.2
      else
        sp_X6_value_36 R u1 u2 u3 u4 m_n m_minds m_lasts m_parents m_kinds m_numbers n (u5 + 1) m_yes m_no
def sp_X6_value (R : Int32 → Int32 → Int32 → Int32 → Int32 → Int32 → (Nat → Int32) → (Nat → Int32) → (Nat → Int32) → (Nat → Int32) → (Nat → Int32) → Option (Int32 × (Nat → Int32) × (Nat → Int32))) (p1 : Int32) (p2 : Int32) (p3 : Int32) (m_n : Int32) (m_minds : Int32) (m_lasts : Int32) (m_parents : Nat → Int32) (m_kinds : Nat → Int32) (m_numbers : Nat → Int32) (m_yes : Nat → Int32) (m_no : Nat → Int32) : Option (Int32 × (Nat → Int32) × (Nat → Int32)) :=
  (sp_X6_standing p1 m_n m_parents).bind fun r1 =>
  (sp_X6_twigs r1 m_n m_parents).bind fun r2 =>
  if p2 = 0 then
    (sp_X6_lawOf p1 m_minds m_n m_lasts m_parents m_kinds m_numbers m_yes m_no).bind fun r3 =>
    some (r3.1, r3.2.1, r3.2.2)
  else
    if (r2 &&& (-2)) = 0 then
      (sp_X6_lawOf p1 m_minds m_n m_lasts m_parents m_kinds m_numbers m_yes m_no).bind fun r5 =>
      some (r5.1, r5.2.1, r5.2.2)
    else
      sp_X6_value_36 R p1 p2 p3 (r2 &&& (-2)) m_n m_minds m_lasts m_parents m_kinds m_numbers 5000 1 m_yes m_no
def sp_gXV : Nat → Int32 → Int32 → Int32 → Int32 → Int32 → Int32 → (Nat → Int32) → (Nat → Int32) → (Nat → Int32) → (Nat → Int32) → (Nat → Int32) → Option (Int32 × (Nat → Int32) × (Nat → Int32))
  | 0, _, _, _, _, _, _, _, _, _, _, _ => none
  | n + 1, p1, p2, p3, m_n, m_minds, m_lasts, m_parents, m_kinds, m_numbers, m_yes, m_no => sp_X6_value (sp_gXV n) p1 p2 p3 m_n m_minds m_lasts m_parents m_kinds m_numbers m_yes m_no
def sp_X6_turns_72 (u1 : Int32) (u3 : Int32) (u4 : Int32) (m_n : Int32) (m_minds : Int32) (m_lasts : Int32) (m_cutNow : Int32) (m_parents : Nat → Int32) (m_kinds : Nat → Int32) (m_numbers : Nat → Int32) : Nat → Int32 → (Nat → Int32) → (Nat → Int32) → Option (Int32 × (Nat → Int32) × (Nat → Int32))
  | 0, _, _, _ => none
  | n + 1, u5, m_yes, m_no =>
    if m_n ≤ u5 then
      some ((-1), m_yes, m_no)
    else
      if u1 ≤ 0 then
        some ((-1), m_yes, m_no)
      else
        if ((xi_shr u3 u5) &&& 1) = 1 then
          (sp_gXV 8 (m_cutNow ||| (xi_shl 1 u5)) (u1 - 1) 0 m_n m_minds m_lasts m_parents m_kinds m_numbers m_yes m_no).bind fun r5 =>
          if r5.1 = u4 then
            some (u5, r5.2.1, r5.2.2)
          else
            sp_X6_turns_72 u1 u3 u4 m_n m_minds m_lasts m_cutNow m_parents m_kinds m_numbers n (u5 + 1) r5.2.1 r5.2.2
        else
          sp_X6_turns_72 u1 u3 u4 m_n m_minds m_lasts m_cutNow m_parents m_kinds m_numbers n (u5 + 1) m_yes m_no
def sp_X6_turns (p1 : Int32) (p2 : Int32) (m_n : Int32) (m_minds : Int32) (m_lasts : Int32) (m_cutNow : Int32) (m_parents : Nat → Int32) (m_kinds : Nat → Int32) (m_numbers : Nat → Int32) (m_yes : Nat → Int32) (m_no : Nat → Int32) : Option (Int32 × (Nat → Int32) × (Nat → Int32)) :=
  if (sp_X6_in (Int32.toInt64 p1) 0 4) = 0 then
    some ((-2), m_yes, m_no)
  else
    if (sp_X6_in (Int32.toInt64 p2) 0 1) = 0 then
      some ((-2), m_yes, m_no)
    else
      (sp_X6_standing m_cutNow m_n m_parents).bind fun r1 =>
      (sp_X6_twigs r1 m_n m_parents).bind fun r2 =>
      (sp_X6_bitsOf r2).bind fun r3 =>
      if r3 ≤ 6 then
        (sp_gXV 8 m_cutNow p1 1 m_n m_minds m_lasts m_parents m_kinds m_numbers m_yes m_no).bind fun r4 =>
        if p2 = 0 then
          some (r4.1, r4.2.1, r4.2.2)
        else
          sp_X6_turns_72 p1 r2 r4.1 m_n m_minds m_lasts m_cutNow m_parents m_kinds m_numbers 5000 1 r4.2.1 r4.2.2
      else
        some ((-3), m_yes, m_no)
def sp_X6_drawn_21 (u2 : Int32) (m_n : Int32) (m_lasts : Int32) (m_cutNow : Int32) (m_parents : Nat → Int32) (m_kinds : Nat → Int32) (m_numbers : Nat → Int32) (m_odds : Nat → Int32) : Nat → Int32 → Int32 → Int32 → (Nat → Int32) → (Nat → Int32) → Option (Int32 × (Nat → Int32) × (Nat → Int32))
  | 0, _, _, _, _, _ => none
  | n + 1, u3, u4, u5, m_yes, m_no =>
    if m_n ≤ u5 then
      (sp_X6_lawOf m_cutNow u4 m_n m_lasts m_parents m_kinds m_numbers m_yes m_no).bind fun r3 =>
      some (r3.1, r3.2.1, r3.2.2)
    else
      if ((xi_shr u2 u5) &&& 1) = 1 then
        (xo_at m_odds 12 u5).bind fun v4 =>
        if v4 ≤ (xi_rem (xi_ushr ((u3 * 1103515245) + 12345) 10) 100) then
          sp_X6_drawn_21 u2 m_n m_lasts m_cutNow m_parents m_kinds m_numbers m_odds n ((u3 * 1103515245) + 12345) (u4 ||| (xi_shl 0 u5)) (u5 + 1) m_yes m_no
        else
          sp_X6_drawn_21 u2 m_n m_lasts m_cutNow m_parents m_kinds m_numbers m_odds n ((u3 * 1103515245) + 12345) (u4 ||| (xi_shl 1 u5)) (u5 + 1) m_yes m_no
      else
        sp_X6_drawn_21 u2 m_n m_lasts m_cutNow m_parents m_kinds m_numbers m_odds n u3 u4 (u5 + 1) m_yes m_no
def sp_X6_drawn (p1 : Int32) (m_n : Int32) (m_lasts : Int32) (m_cutNow : Int32) (m_parents : Nat → Int32) (m_kinds : Nat → Int32) (m_numbers : Nat → Int32) (m_odds : Nat → Int32) (m_yes : Nat → Int32) (m_no : Nat → Int32) : Option (Int32 × (Nat → Int32) × (Nat → Int32)) :=
  (sp_X6_standing m_cutNow m_n m_parents).bind fun r1 =>
  (sp_X6_twigs r1 m_n m_parents).bind fun r2 =>
  sp_X6_drawn_21 r2 m_n m_lasts m_cutNow m_parents m_kinds m_numbers m_odds 5000 p1 0 0 m_yes m_no
def sp_X6_lowest_6 (u0 : Int64) (u2 : Int64) (u4 : Int32) : Nat → Int64 → Int64 → Option (Int64)
  | 0, _, _ => none
  | n + 1, u5, u7 =>
    if (lg_cmp u7 0) = 0 then
      if u4 = 0 then
        if u5 = 0 then none else
        some (u0 / u5)
      else
        if u5 = 0 then none else
        some (u2 / u5)
    else
      if u7 = 0 then none else
      sp_X6_lowest_6 u0 u2 u4 n u7 (xl_rem u5 u7)
def sp_X6_lowest (p1 : Int64) (p2 : Int64) (p3 : Int32)  : Option (Int64) :=
  sp_X6_lowest_6 p1 p2 p3 5000 p1 p2
def sp_X6_chance_32 (u1 : Int32) (u2 : Int32) (u3 : Int32) (m_n : Int32) (m_lasts : Int32) (m_cutNow : Int32) (m_parents : Nat → Int32) (m_kinds : Nat → Int32) (m_numbers : Nat → Int32) (m_odds : Nat → Int32) : Nat → Int64 → Int32 → (Nat → Int32) → (Nat → Int32) → Option (Int64 × (Nat → Int32) × (Nat → Int32))
  | 0, _, _, _, _ => none
  | n + 1, u4, u6, m_yes, m_no =>
    if u2 ≤ u6 then
      (sp_X6_lowest u4 (Int32.toInt64 u2) u3).bind fun r1 =>
      some (r1, m_yes, m_no)
    else
      (sp_X6_drawn (u1 + u6) m_n m_lasts m_cutNow m_parents m_kinds m_numbers m_odds m_yes m_no).bind fun r2 =>
      sp_X6_chance_32 u1 u2 u3 m_n m_lasts m_cutNow m_parents m_kinds m_numbers m_odds n (u4 + (Int32.toInt64 r2.1)) (u6 + 1) r2.2.1 r2.2.2
def sp_X6_chance (p1 : Int32) (p2 : Int32) (p3 : Int32) (m_n : Int32) (m_lasts : Int32) (m_cutNow : Int32) (m_parents : Nat → Int32) (m_kinds : Nat → Int32) (m_numbers : Nat → Int32) (m_odds : Nat → Int32) (m_yes : Nat → Int32) (m_no : Nat → Int32) : Option (Int64 × (Nat → Int32) × (Nat → Int32)) :=
  if (sp_X6_in (Int32.toInt64 p2) 1 20) = 0 then
    some ((-4611686018427387904), m_yes, m_no)
  else
    if (sp_X6_in (Int32.toInt64 p3) 0 1) = 0 then
      some ((-4611686018427387904), m_yes, m_no)
    else
      sp_X6_chance_32 p1 p2 p3 m_n m_lasts m_cutNow m_parents m_kinds m_numbers m_odds 5000 0 0 m_yes m_no
def sp_X6_image_2 (m_rule : Int32) (m_n : Int32) (m_minds : Int32) (m_lasts : Int32) (m_cutNow : Int32) (m_year : Int32) (m_numbers : Nat → Int32) (m_odds : Nat → Int32) : Nat → Int32 → Int32 → Int32 → Int32 → Int32 → Int32 → Int32 → (Nat → Int32) → (Nat → Int32) → Option (Int32 × Int32 × Int32 × Int32 × Int32 × Int32 × Int32 × (Nat → Int32) × (Nat → Int32))
  | 0, _, _, _, _, _, _, _, _, _ => none
  | n + 1, u1, m_nKept, m_mindsKept, m_lastsKept, m_cutKept, m_yearKept, m_ruleKept, m_numbersKept, m_oddsKept =>
    if 12 ≤ u1 then
      some (m_n, m_n, m_minds, m_lasts, m_cutNow, m_year, m_rule, m_numbersKept, m_oddsKept)
    else
      (xo_at m_numbers 12 u1).bind fun v1 =>
      (xo_set m_numbersKept 12 u1 v1).bind fun f2 =>
      (xo_at m_odds 12 u1).bind fun v3 =>
      (xo_set m_oddsKept 12 u1 v3).bind fun f4 =>
      sp_X6_image_2 m_rule m_n m_minds m_lasts m_cutNow m_year m_numbers m_odds n (u1 + 1) m_nKept m_mindsKept m_lastsKept m_cutKept m_yearKept m_ruleKept f2 f4
def sp_X6_image (m_rule : Int32) (m_n : Int32) (m_minds : Int32) (m_lasts : Int32) (m_cutNow : Int32) (m_year : Int32) (m_nKept : Int32) (m_mindsKept : Int32) (m_lastsKept : Int32) (m_cutKept : Int32) (m_yearKept : Int32) (m_ruleKept : Int32) (m_numbers : Nat → Int32) (m_odds : Nat → Int32) (m_numbersKept : Nat → Int32) (m_oddsKept : Nat → Int32) : Option (Int32 × Int32 × Int32 × Int32 × Int32 × Int32 × Int32 × (Nat → Int32) × (Nat → Int32)) :=
  sp_X6_image_2 m_rule m_n m_minds m_lasts m_cutNow m_year m_numbers m_odds 5000 0 m_nKept m_mindsKept m_lastsKept m_cutKept m_yearKept m_ruleKept m_numbersKept m_oddsKept
def sp_X6_back_13 (m_nKept : Int32) (m_mindsKept : Int32) (m_lastsKept : Int32) (m_cutKept : Int32) (m_yearKept : Int32) (m_ruleKept : Int32) (m_numbersKept : Nat → Int32) (m_oddsKept : Nat → Int32) : Nat → Int32 → Int32 → Int32 → Int32 → Int32 → Int32 → Int32 → (Nat → Int32) → (Nat → Int32) → Option (Int32 × Int32 × Int32 × Int32 × Int32 × Int32 × Int32 × (Nat → Int32) × (Nat → Int32))
  | 0, _, _, _, _, _, _, _, _, _ => none
  | n + 1, u1, m_rule, m_n, m_minds, m_lasts, m_cutNow, m_year, m_numbers, m_odds =>
    if m_nKept ≤ u1 then
      some (m_nKept, m_ruleKept, m_nKept, m_mindsKept, m_lastsKept, m_cutKept, m_yearKept, m_numbers, m_odds)
    else
      (xo_at m_numbersKept 12 u1).bind fun v1 =>
      (xo_set m_numbers 12 u1 v1).bind fun f2 =>
      (xo_at m_oddsKept 12 u1).bind fun v3 =>
      (xo_set m_odds 12 u1 v3).bind fun f4 =>
      sp_X6_back_13 m_nKept m_mindsKept m_lastsKept m_cutKept m_yearKept m_ruleKept m_numbersKept m_oddsKept n (u1 + 1) m_rule m_n m_minds m_lasts m_cutNow m_year f2 f4
def sp_X6_back (m_rule : Int32) (m_n : Int32) (m_minds : Int32) (m_lasts : Int32) (m_cutNow : Int32) (m_year : Int32) (m_nKept : Int32) (m_mindsKept : Int32) (m_lastsKept : Int32) (m_cutKept : Int32) (m_yearKept : Int32) (m_ruleKept : Int32) (m_numbers : Nat → Int32) (m_odds : Nat → Int32) (m_numbersKept : Nat → Int32) (m_oddsKept : Nat → Int32) : Option (Int32 × Int32 × Int32 × Int32 × Int32 × Int32 × Int32 × (Nat → Int32) × (Nat → Int32)) :=
  if m_nKept = (-1) then
    some ((-3), m_rule, m_n, m_minds, m_lasts, m_cutNow, m_year, m_numbers, m_odds)
  else
    sp_X6_back_13 m_nKept m_mindsKept m_lastsKept m_cutKept m_yearKept m_ruleKept m_numbersKept m_oddsKept 5000 0 m_rule m_n m_minds m_lasts m_cutNow m_year m_numbers m_odds
def sp_X6_count (p1 : Int32) (m_textCount : Int32) (m_rule : Int32) (m_taped : Int32) (m_n : Int32) (m_cutNow : Int32) (m_year : Int32) (m_parents : Nat → Int32) : Option (Int32) :=
  if (sp_X6_in (Int32.toInt64 p1) 0 6) = 0 then
    some (-2)
  else
    if p1 = 1 then
      (sp_X6_standing m_cutNow m_n m_parents).bind fun r4 =>
      (sp_X6_bitsOf r4).bind fun r5 =>
      some r5
    else
      if p1 = 2 then
        (sp_X6_standing m_cutNow m_n m_parents).bind fun r1 =>
        (sp_X6_twigs r1 m_n m_parents).bind fun r2 =>
        (sp_X6_bitsOf r2).bind fun r3 =>
        some r3
      else
        if p1 = 0 then
          some m_n
        else
          if p1 = 3 then
            some m_textCount
          else
            if p1 = 4 then
              some m_taped
            else
              if p1 = 5 then
                some m_rule
              else
                some m_year
def sp_X6_sheet_77 (u1 : Int32) (u2 : Int32) (u3 : Int32) : Nat → Int32 → (Nat → Int32) → (Nat → Int32) → (Nat → Int32) → (Nat → Int32) → Option (Int32 × (Nat → Int32) × (Nat → Int32) × (Nat → Int32) × (Nat → Int32))
  | 0, _, _, _, _, _ => none
  | n + 1, u4, m_isThere, m_sorts, m_sheetSize, m_items =>
    if u3 ≤ u4 then
      some (1, m_isThere, m_sorts, m_sheetSize, m_items)
    else
      if u2 < 0 then
        some (1, m_isThere, m_sorts, m_sheetSize, m_items)
      else
        (xo_set m_items 160 ((40 * u1) + u4) 0).bind fun f5 =>
        sp_X6_sheet_77 u1 u2 u3 n (u4 + 1) m_isThere m_sorts m_sheetSize f5
def sp_X6_sheet (p1 : Int32) (p2 : Int32) (p3 : Int32) (m_isThere : Nat → Int32) (m_sorts : Nat → Int32) (m_sheetSize : Nat → Int32) (m_items : Nat → Int32) : Option (Int32 × (Nat → Int32) × (Nat → Int32) × (Nat → Int32) × (Nat → Int32)) :=
  (sp_X6_isSheet p1).bind fun r1 =>
  if r1 = 0 then
    some ((-2), m_isThere, m_sorts, m_sheetSize, m_items)
  else
    if (sp_X6_in (Int32.toInt64 p2) (-1) 2) = 0 then
      some ((-2), m_isThere, m_sorts, m_sheetSize, m_items)
    else
      if p2 < 0 then
        if p2 < 0 then
          if p2 < 0 then
            (xo_set m_isThere 4 p1 (vp_nar .boolean 0)).bind fun f2 =>
            (xo_set m_sorts 4 p1 p2).bind fun f3 =>
            (xo_set m_sheetSize 4 p1 p3).bind fun f4 =>
            sp_X6_sheet_77 p1 p2 p3 5000 0 f2 f3 f4 m_items
          else
            (xo_set m_isThere 4 p1 (vp_nar .boolean 1)).bind fun f6 =>
            (xo_set m_sorts 4 p1 p2).bind fun f7 =>
            (xo_set m_sheetSize 4 p1 p3).bind fun f8 =>
            sp_X6_sheet_77 p1 p2 p3 5000 0 f6 f7 f8 m_items
        else
          if 0 ≤ p3 then
            if p2 < 0 then
              (xo_set m_isThere 4 p1 (vp_nar .boolean 0)).bind fun f9 =>
              (xo_set m_sorts 4 p1 p2).bind fun f10 =>
              (xo_set m_sheetSize 4 p1 p3).bind fun f11 =>
              sp_X6_sheet_77 p1 p2 p3 5000 0 f9 f10 f11 m_items
            else
              (xo_set m_isThere 4 p1 (vp_nar .boolean 1)).bind fun f12 =>
              (xo_set m_sorts 4 p1 p2).bind fun f13 =>
              (xo_set m_sheetSize 4 p1 p3).bind fun f14 =>
              sp_X6_sheet_77 p1 p2 p3 5000 0 f12 f13 f14 m_items
          else
            some ((-14), m_isThere, m_sorts, m_sheetSize, m_items)
      else
        if p3 ≤ 40 then
          if p2 < 0 then
            if p2 < 0 then
              (xo_set m_isThere 4 p1 (vp_nar .boolean 0)).bind fun f15 =>
              (xo_set m_sorts 4 p1 p2).bind fun f16 =>
              (xo_set m_sheetSize 4 p1 p3).bind fun f17 =>
              sp_X6_sheet_77 p1 p2 p3 5000 0 f15 f16 f17 m_items
            else
              (xo_set m_isThere 4 p1 (vp_nar .boolean 1)).bind fun f18 =>
              (xo_set m_sorts 4 p1 p2).bind fun f19 =>
              (xo_set m_sheetSize 4 p1 p3).bind fun f20 =>
              sp_X6_sheet_77 p1 p2 p3 5000 0 f18 f19 f20 m_items
          else
            if 0 ≤ p3 then
              if p2 < 0 then
                (xo_set m_isThere 4 p1 (vp_nar .boolean 0)).bind fun f21 =>
                (xo_set m_sorts 4 p1 p2).bind fun f22 =>
                (xo_set m_sheetSize 4 p1 p3).bind fun f23 =>
                sp_X6_sheet_77 p1 p2 p3 5000 0 f21 f22 f23 m_items
              else
                (xo_set m_isThere 4 p1 (vp_nar .boolean 1)).bind fun f24 =>
                (xo_set m_sorts 4 p1 p2).bind fun f25 =>
                (xo_set m_sheetSize 4 p1 p3).bind fun f26 =>
                sp_X6_sheet_77 p1 p2 p3 5000 0 f24 f25 f26 m_items
            else
              some ((-14), m_isThere, m_sorts, m_sheetSize, m_items)
        else
          some ((-2), m_isThere, m_sorts, m_sheetSize, m_items)
def sp_X6_cell (p1 : Int32) (p2 : Int32) (p3 : Int32) (m_isThere : Nat → Int32) (m_sorts : Nat → Int32) (m_sheetSize : Nat → Int32) (m_items : Nat → Int32) : Option (Int32 × (Nat → Int32)) :=
  (sp_X6_isSheet p1).bind fun r1 =>
  if r1 = 0 then
    some ((-2), m_items)
  else
    (xo_at m_isThere 4 p1).bind fun v2 =>
    if v2 = 0 then
      some ((-11), m_items)
    else
      (xo_at m_sheetSize 4 p1).bind fun v3 =>
      if (sp_X6_in (Int32.toInt64 p2) 0 (Int32.toInt64 (v3 - 1))) = 0 then
        some ((-12), m_items)
      else
        (xo_at m_sorts 4 p1).bind fun v4 =>
        if v4 = 0 then
          (xo_set m_items 160 ((40 * p1) + p2) (Int8.toInt32 (Int32.toInt8 p3))).bind fun f8 =>
          some (1, f8)
        else
          (xo_at m_sorts 4 p1).bind fun v5 =>
          if v5 = 1 then
            (xo_set m_items 160 ((40 * p1) + p2) (Int16.toInt32 (Int32.toInt16 p3))).bind fun f7 =>
            some (1, f7)
          else
            (xo_set m_items 160 ((40 * p1) + p2) p3).bind fun f6 =>
            some (1, f6)
def sp_X6_copy_121 (u1 : Int32) (u2 : Int32) (u3 : Int32) (u4 : Int32) (u5 : Int32) (u6 : Int32) : Nat → Int32 → (Nat → Int32) → Option (Int32 × (Nat → Int32))
  | 0, _, _ => none
  | n + 1, u7, m_items =>
    if u5 ≤ u7 then
      some (u5, m_items)
    else
      if u6 = 0 then
        (xo_at m_items 160 (((40 * u1) + u2) + u7)).bind fun v9 =>
        (xo_set m_items 160 (((40 * u3) + u4) + u7) v9).bind fun f10 =>
        sp_X6_copy_121 u1 u2 u3 u4 u5 u6 n (u7 + 1) f10
      else
        (xo_at m_items 160 (((40 * u1) + u2) + ((u5 - 1) - u7))).bind fun v11 =>
        (xo_set m_items 160 (((40 * u3) + u4) + ((u5 - 1) - u7)) v11).bind fun f12 =>
        sp_X6_copy_121 u1 u2 u3 u4 u5 u6 n (u7 + 1) f12
def sp_X6_copy (p1 : Int32) (p2 : Int32) (p3 : Int32) (p4 : Int32) (p5 : Int32) (m_isThere : Nat → Int32) (m_sorts : Nat → Int32) (m_sheetSize : Nat → Int32) (m_items : Nat → Int32) : Option (Int32 × (Nat → Int32)) :=
  (sp_X6_isSheet p1).bind fun r1 =>
  if r1 = 0 then
    some ((-2), m_items)
  else
    (sp_X6_isSheet p3).bind fun r2 =>
    if r2 = 0 then
      some ((-2), m_items)
    else
      (xo_at m_isThere 4 p1).bind fun v3 =>
      if v3 = 0 then
        some ((-11), m_items)
      else
        (xo_at m_isThere 4 p3).bind fun v4 =>
        if v4 = 0 then
          some ((-11), m_items)
        else
          (xo_at m_sorts 4 p1).bind fun v5 =>
          (xo_at m_sorts 4 p3).bind fun v6 =>
          if v5 = v6 then
            if p5 < 0 then
              some ((-12), m_items)
            else
              if p2 < 0 then
                some ((-12), m_items)
              else
                if p4 < 0 then
                  some ((-12), m_items)
                else
                  (xo_at m_sheetSize 4 p1).bind fun v7 =>
                  if (v7 - p5) < p2 then
                    some ((-12), m_items)
                  else
                    (xo_at m_sheetSize 4 p3).bind fun v8 =>
                    if p4 ≤ (v8 - p5) then
                      if p1 = p3 then
                        if p4 ≤ p2 then
                          sp_X6_copy_121 p1 p2 p3 p4 p5 0 5000 0 m_items
                        else
                          sp_X6_copy_121 p1 p2 p3 p4 p5 1 5000 0 m_items
                      else
                        sp_X6_copy_121 p1 p2 p3 p4 p5 0 5000 0 m_items
                    else
                      some ((-12), m_items)
          else
            some ((-13), m_items)
def sp_X6_nodes_75 (u1 : Int32) (u3 : Int32) (u4 : Int32) (m_sheetSize : Nat → Int32) (m_items : Nat → Int32) : Nat → Int32 → Int32 → Int32 → Int32 → Int32 → Int32 → (Nat → Int32) → (Nat → Int32) → (Nat → Int32) → (Nat → Int32) → Option (Int32 × Int32 × Int32 × Int32 × Int32 × (Nat → Int32) × (Nat → Int32) × (Nat → Int32) × (Nat → Int32))
  | 0, _, _, _, _, _, _, _, _, _, _ => none
  | n + 1, u5, u6, m_n, m_minds, m_lasts, m_cutNow, m_parents, m_kinds, m_numbers, m_odds =>
    if u4 ≤ u6 then
      some (u5, m_n, m_minds, m_lasts, m_cutNow, m_parents, m_kinds, m_numbers, m_odds)
    else
      if u3 < 0 then
        some ((-12), m_n, m_minds, m_lasts, m_cutNow, m_parents, m_kinds, m_numbers, m_odds)
      else
        (xo_at m_sheetSize 4 u1).bind fun v4 =>
        if u3 ≤ ((v4 - (3 * u6)) - 3) then
          (xo_at m_items 160 (((40 * u1) + u3) + (3 * u6))).bind fun v5 =>
          (xo_at m_items 160 ((((40 * u1) + u3) + (3 * u6)) + 1)).bind fun v6 =>
          (xo_at m_items 160 ((((40 * u1) + u3) + (3 * u6)) + 2)).bind fun v7 =>
          (sp_X6_grow v5 v6 v7 m_n m_minds m_lasts m_cutNow m_parents m_kinds m_numbers m_odds).bind fun r8 =>
          if r8.1 < 0 then
            sp_X6_nodes_75 u1 u3 u4 m_sheetSize m_items n (u5 + 0) (u6 + 1) r8.2.1 r8.2.2.1 r8.2.2.2.1 r8.2.2.2.2.1 r8.2.2.2.2.2.1 r8.2.2.2.2.2.2.1 r8.2.2.2.2.2.2.2.1 r8.2.2.2.2.2.2.2.2
          else
            sp_X6_nodes_75 u1 u3 u4 m_sheetSize m_items n (u5 + 1) (u6 + 1) r8.2.1 r8.2.2.1 r8.2.2.2.1 r8.2.2.2.2.1 r8.2.2.2.2.2.1 r8.2.2.2.2.2.2.1 r8.2.2.2.2.2.2.2.1 r8.2.2.2.2.2.2.2.2
        else
          some ((-12), m_n, m_minds, m_lasts, m_cutNow, m_parents, m_kinds, m_numbers, m_odds)
def sp_X6_nodes (p1 : Int32) (p2 : Int32) (p3 : Int32) (p4 : Int32) (m_n : Int32) (m_minds : Int32) (m_lasts : Int32) (m_cutNow : Int32) (m_parents : Nat → Int32) (m_kinds : Nat → Int32) (m_numbers : Nat → Int32) (m_odds : Nat → Int32) (m_isThere : Nat → Int32) (m_sorts : Nat → Int32) (m_sheetSize : Nat → Int32) (m_items : Nat → Int32) : Option (Int32 × Int32 × Int32 × Int32 × Int32 × (Nat → Int32) × (Nat → Int32) × (Nat → Int32) × (Nat → Int32)) :=
  (sp_X6_isSheet p1).bind fun r1 =>
  if r1 = 0 then
    some ((-2), m_n, m_minds, m_lasts, m_cutNow, m_parents, m_kinds, m_numbers, m_odds)
  else
    if (sp_X6_in (Int32.toInt64 p2) 0 2) = 0 then
      some ((-2), m_n, m_minds, m_lasts, m_cutNow, m_parents, m_kinds, m_numbers, m_odds)
    else
      if (sp_X6_in (Int32.toInt64 p4) 0 12) = 0 then
        some ((-2), m_n, m_minds, m_lasts, m_cutNow, m_parents, m_kinds, m_numbers, m_odds)
      else
        (xo_at m_isThere 4 p1).bind fun v2 =>
        if v2 = 0 then
          (xo_at m_isThere 4 p1).bind fun v3 =>
          if v3 = 0 then
            some ((-11), m_n, m_minds, m_lasts, m_cutNow, m_parents, m_kinds, m_numbers, m_odds)
          else
            sp_X6_nodes_75 p1 p3 p4 m_sheetSize m_items 5000 0 0 m_n m_minds m_lasts m_cutNow m_parents m_kinds m_numbers m_odds
        else
          (xo_at m_sorts 4 p1).bind fun v9 =>
          if v9 = p2 then
            (xo_at m_isThere 4 p1).bind fun v10 =>
            if v10 = 0 then
              some ((-11), m_n, m_minds, m_lasts, m_cutNow, m_parents, m_kinds, m_numbers, m_odds)
            else
              sp_X6_nodes_75 p1 p3 p4 m_sheetSize m_items 5000 0 0 m_n m_minds m_lasts m_cutNow m_parents m_kinds m_numbers m_odds
          else
            some ((-13), m_n, m_minds, m_lasts, m_cutNow, m_parents, m_kinds, m_numbers, m_odds)
def sp_X6_over (p1 : Int32)  : Int32 :=
  if p1 = 0 then
    (-1)
  else
    if p1 = 1 then
      0
    else
      if p1 = 2 then
        0
      else
        if p1 = 4 then
          2
        else
          1
def sp_X6_taken_33 (u1 : Int32) (u2 : Int32) (m_numbers : Nat → Int32) : Nat → Int32 → Option (Int32)
  | 0, _ => none
  | n + 1, u3 =>
    if u3 = (-1) then
      if u3 = u2 then
        (xo_at m_numbers 12 u1).bind fun v3 =>
        some v3
      else
        some (-13)
    else
      if u3 = u2 then
        if u3 = u2 then
          (xo_at m_numbers 12 u1).bind fun v4 =>
          some v4
        else
          some (-13)
      else
        sp_X6_taken_33 u1 u2 m_numbers n (sp_X6_over u3)
def sp_X6_taken (p1 : Int32) (p2 : Int32) (m_n : Int32) (m_kinds : Nat → Int32) (m_numbers : Nat → Int32) : Option (Int32) :=
  if (sp_X6_in (Int32.toInt64 p2) 0 5) = 0 then
    some (-2)
  else
    (sp_X6_isNode p1 m_n).bind fun r1 =>
    if r1 = 0 then
      some (-11)
    else
      (xo_at m_kinds 12 p1).bind fun v2 =>
      sp_X6_taken_33 p1 p2 m_numbers 5000 v2
set_option maxRecDepth 4000 in
theorem t_X6_spell {o : (Nat → Int32)} {p1 : Int32} {p2 : Int32} {p3 : Int32} {p4 : Int32} {p5 : Int32} {p6 : Int32} {p7 : Int32} {p8 : Int32} {p9 : Int32} (hm : sp_X6_spell p1 p2 p3 p4 p5 p6 p7 p8 p9 m_texts = some o) : xt_M yX6_spell cX6_spell 10 none (d + 0) [.ref 0, .int p1, .int p2, .int p3, .int p4, .int p5, .int p6, .int p7, .int p8, .int p9] (WM m_thrown m_textCount m_rule m_taped m_n m_minds m_lasts m_cutNow m_year m_ofNode m_ofDepth m_ofKids m_ofTwigs m_ofLast m_ofYear m_from m_size m_here m_token m_tokenAt m_open m_bad m_fault m_nKept m_mindsKept m_lastsKept m_cutKept m_yearKept m_ruleKept m_tokenWorth m_texts m_textSize m_tape m_parents m_kinds m_numbers m_odds m_yes m_no m_prices m_numbersKept m_oddsKept m_isThere m_sorts m_sheetSize m_items) (xt_Kv (WM m_thrown m_textCount m_rule m_taped m_n m_minds m_lasts m_cutNow m_year m_ofNode m_ofDepth m_ofKids m_ofTwigs m_ofLast m_ofYear m_from m_size m_here m_token m_tokenAt m_open m_bad m_fault m_nKept m_mindsKept m_lastsKept m_cutKept m_yearKept m_ruleKept m_tokenWorth o m_textSize m_tape m_parents m_kinds m_numbers m_odds m_yes m_no m_prices m_numbersKept m_oddsKept m_isThere m_sorts m_sheetSize m_items)) := by
  unfold sp_X6_spell at hm
  refine xt_M.go (own := RX6) (lv := [some (.ref 0), some (.int p1), some (.int p2), some (.int p3), some (.int p4), some (.int p5), some (.int p6), some (.int p7), some (.int p8), some (.int p9)]) rfl rfl (Nat.le_of_ble_eq_true rfl) rfl ?_
  refine x_aload0 eX6_spell_0 ?_
  refine x_get eX6_spell_1 fX6_13 rfl rfl ?_
  refine x_iload1 eX6_spell_4 ?_
  refine x_iload2 eX6_spell_5 ?_
  obtain ⟨f1, hv, hm⟩ := xo_bind hm
  obtain ⟨hi, rfl⟩ := xo_set_some hv
  refine x_iastore (w' := WM _ _ _ _ _ _ _ _ _ _ _ _ _ _ _ _ _ _ _ _ _ _ _ _ _ _ _ _ _ _ _ _ _ _ _ _ _ _ _ _ _ _ _ _ _ _) eX6_spell_6 rfl hi rfl ?_
  refine x_aload0 eX6_spell_7 ?_
  refine x_get eX6_spell_8 fX6_13 rfl rfl ?_
  refine x_iload1 eX6_spell_11 ?_
  refine x_k eX6_spell_12 ?_
  refine x_iadd eX6_spell_13 ?_
  refine x_iload3 eX6_spell_14 ?_
  obtain ⟨f2, hv, hm⟩ := xo_bind hm
  obtain ⟨hi, rfl⟩ := xo_set_some hv
  refine x_iastore (w' := WM _ _ _ _ _ _ _ _ _ _ _ _ _ _ _ _ _ _ _ _ _ _ _ _ _ _ _ _ _ _ _ _ _ _ _ _ _ _ _ _ _ _ _ _ _ _) eX6_spell_15 rfl hi rfl ?_
  refine x_aload0 eX6_spell_16 ?_
  refine x_get eX6_spell_17 fX6_13 rfl rfl ?_
  refine x_iload1 eX6_spell_20 ?_
  refine x_k eX6_spell_21 ?_
  refine x_iadd eX6_spell_22 ?_
  refine x_iload4 eX6_spell_23 ?_
  obtain ⟨f3, hv, hm⟩ := xo_bind hm
  obtain ⟨hi, rfl⟩ := xo_set_some hv
  refine x_iastore (w' := WM _ _ _ _ _ _ _ _ _ _ _ _ _ _ _ _ _ _ _ _ _ _ _ _ _ _ _ _ _ _ _ _ _ _ _ _ _ _ _ _ _ _ _ _ _ _) eX6_spell_25 rfl hi rfl ?_
  refine x_aload0 eX6_spell_26 ?_
  refine x_get eX6_spell_27 fX6_13 rfl rfl ?_
  refine x_iload1 eX6_spell_30 ?_
  refine x_k eX6_spell_31 ?_
  refine x_iadd eX6_spell_32 ?_
  refine x_iload5 eX6_spell_33 ?_
  obtain ⟨f4, hv, hm⟩ := xo_bind hm
  obtain ⟨hi, rfl⟩ := xo_set_some hv
  refine x_iastore (w' := WM _ _ _ _ _ _ _ _ _ _ _ _ _ _ _ _ _ _ _ _ _ _ _ _ _ _ _ _ _ _ _ _ _ _ _ _ _ _ _ _ _ _ _ _ _ _) eX6_spell_35 rfl hi rfl ?_
  refine x_aload0 eX6_spell_36 ?_
  refine x_get eX6_spell_37 fX6_13 rfl rfl ?_
  refine x_iload1 eX6_spell_40 ?_
  refine x_k eX6_spell_41 ?_
  refine x_iadd eX6_spell_42 ?_
  refine x_iload6 eX6_spell_43 ?_
  obtain ⟨f5, hv, hm⟩ := xo_bind hm
  obtain ⟨hi, rfl⟩ := xo_set_some hv
  refine x_iastore (w' := WM _ _ _ _ _ _ _ _ _ _ _ _ _ _ _ _ _ _ _ _ _ _ _ _ _ _ _ _ _ _ _ _ _ _ _ _ _ _ _ _ _ _ _ _ _ _) eX6_spell_45 rfl hi rfl ?_
  refine x_aload0 eX6_spell_46 ?_
  refine x_get eX6_spell_47 fX6_13 rfl rfl ?_
  refine x_iload1 eX6_spell_50 ?_
  refine x_k eX6_spell_51 ?_
  refine x_iadd eX6_spell_52 ?_
  refine x_iload7 eX6_spell_53 ?_
  obtain ⟨f6, hv, hm⟩ := xo_bind hm
  obtain ⟨hi, rfl⟩ := xo_set_some hv
  refine x_iastore (w' := WM _ _ _ _ _ _ _ _ _ _ _ _ _ _ _ _ _ _ _ _ _ _ _ _ _ _ _ _ _ _ _ _ _ _ _ _ _ _ _ _ _ _ _ _ _ _) eX6_spell_55 rfl hi rfl ?_
  refine x_aload0 eX6_spell_56 ?_
  refine x_get eX6_spell_57 fX6_13 rfl rfl ?_
  refine x_iload1 eX6_spell_60 ?_
  refine x_k eX6_spell_61 ?_
  refine x_iadd eX6_spell_63 ?_
  refine x_iload8 eX6_spell_64 ?_
  obtain ⟨f7, hv, hm⟩ := xo_bind hm
  obtain ⟨hi, rfl⟩ := xo_set_some hv
  refine x_iastore (w' := WM _ _ _ _ _ _ _ _ _ _ _ _ _ _ _ _ _ _ _ _ _ _ _ _ _ _ _ _ _ _ _ _ _ _ _ _ _ _ _ _ _ _ _ _ _ _) eX6_spell_66 rfl hi rfl ?_
  refine x_aload0 eX6_spell_67 ?_
  refine x_get eX6_spell_68 fX6_13 rfl rfl ?_
  refine x_iload1 eX6_spell_71 ?_
  refine x_k eX6_spell_72 ?_
  refine x_iadd eX6_spell_74 ?_
  refine x_iload9 eX6_spell_75 ?_
  obtain ⟨f8, hv, hm⟩ := xo_bind hm
  obtain ⟨hi, rfl⟩ := xo_set_some hv
  refine x_iastore (w' := WM _ _ _ _ _ _ _ _ _ _ _ _ _ _ _ _ _ _ _ _ _ _ _ _ _ _ _ _ _ _ _ _ _ _ _ _ _ _ _ _ _ _ _ _ _ _) eX6_spell_77 rfl hi rfl ?_
  obtain rfl := Option.some.inj hm
  exact x_vret eX6_spell_78 ⟨rfl, rfl⟩
set_option maxRecDepth 4000 in
theorem l_X6_standing_4 {o : Int32} {u1 : Int32} {m_n : Int32} {m_parents : Nat → Int32} : ∀ (n : Nat) {u2 : Int32} {u3 : Int32}, sp_X6_standing_4 u1 m_n m_parents n u2 u3 = some o → xt_T RX6 cX6_standing 4 (some .int) (d + 0) (xt_Ki o (WM m_thrown m_textCount m_rule m_taped m_n m_minds m_lasts m_cutNow m_year m_ofNode m_ofDepth m_ofKids m_ofTwigs m_ofLast m_ofYear m_from m_size m_here m_token m_tokenAt m_open m_bad m_fault m_nKept m_mindsKept m_lastsKept m_cutKept m_yearKept m_ruleKept m_tokenWorth m_texts m_textSize m_tape m_parents m_kinds m_numbers m_odds m_yes m_no m_prices m_numbersKept m_oddsKept m_isThere m_sorts m_sheetSize m_items)) 4 [some (.ref 0), some (.int u1), some (.int u2), some (.int u3)] [] (WM m_thrown m_textCount m_rule m_taped m_n m_minds m_lasts m_cutNow m_year m_ofNode m_ofDepth m_ofKids m_ofTwigs m_ofLast m_ofYear m_from m_size m_here m_token m_tokenAt m_open m_bad m_fault m_nKept m_mindsKept m_lastsKept m_cutKept m_yearKept m_ruleKept m_tokenWorth m_texts m_textSize m_tape m_parents m_kinds m_numbers m_odds m_yes m_no m_prices m_numbersKept m_oddsKept m_isThere m_sorts m_sheetSize m_items) := by
  intro n
  induction n with
  | zero => intro u2 u3 hm; rw [sp_X6_standing_4] at hm; cases hm
  | succ n ih =>
    intro u2 u3 hm
    rw [sp_X6_standing_4] at hm
    refine x_iload3 eX6_standing_4 ?_
    refine x_aload0 eX6_standing_5 ?_
    refine x_get eX6_standing_6 fX6_23 rfl rfl ?_
    refine x_icmp_ge eX6_standing_9 (fun c => ?_) (fun c => ?_)
    · rw [if_pos c] at hm
      refine x_iload2 eX6_standing_50 ?_
      obtain rfl := Option.some.inj hm
      exact x_iret eX6_standing_51 ⟨rfl, rfl⟩
    · rw [if_neg c] at hm
      refine x_iload1 eX6_standing_12 ?_
      refine x_iload3 eX6_standing_13 ?_
      refine x_ishr eX6_standing_14 ?_
      refine x_k eX6_standing_15 ?_
      refine x_iand eX6_standing_16 ?_
      refine x_if_ne eX6_standing_17 (fun c => ?_) (fun c => ?_)
      · rw [if_neg c] at hm
        refine x_iinc3 eX6_standing_44 rfl ?_
        refine x_goto eX6_standing_47 ?_
        exact ih hm
      · rw [if_pos c] at hm
        refine x_iload3 eX6_standing_20 ?_
        refine x_if_eq eX6_standing_21 (fun c => ?_) (fun c => ?_)
        · rw [if_pos c] at hm
          refine x_iload2 eX6_standing_38 ?_
          refine x_k eX6_standing_39 ?_
          refine x_iload3 eX6_standing_40 ?_
          refine x_ishl eX6_standing_41 ?_
          refine x_ior eX6_standing_42 ?_
          refine x_istore2 eX6_standing_43 rfl ?_
          refine x_iinc3 eX6_standing_44 rfl ?_
          refine x_goto eX6_standing_47 ?_
          exact ih hm
        · rw [if_neg c] at hm
          refine x_iload2 eX6_standing_24 ?_
          refine x_aload0 eX6_standing_25 ?_
          refine x_get eX6_standing_26 fX6_26 rfl rfl ?_
          refine x_iload3 eX6_standing_29 ?_
          obtain ⟨v1, hv, hm⟩ := xo_bind hm
          obtain ⟨hi, rfl⟩ := xo_at_some hv
          refine x_iaload eX6_standing_30 rfl hi ?_
          refine x_ishr eX6_standing_31 ?_
          refine x_k eX6_standing_32 ?_
          refine x_iand eX6_standing_33 ?_
          refine x_k eX6_standing_34 ?_
          refine x_icmp_ne eX6_standing_35 (fun c => ?_) (fun c => ?_)
          · rw [if_neg c] at hm
            refine x_iinc3 eX6_standing_44 rfl ?_
            refine x_goto eX6_standing_47 ?_
            exact ih hm
          · rw [if_pos c] at hm
            refine x_iload2 eX6_standing_38 ?_
            refine x_k eX6_standing_39 ?_
            refine x_iload3 eX6_standing_40 ?_
            refine x_ishl eX6_standing_41 ?_
            refine x_ior eX6_standing_42 ?_
            refine x_istore2 eX6_standing_43 rfl ?_
            refine x_iinc3 eX6_standing_44 rfl ?_
            refine x_goto eX6_standing_47 ?_
            exact ih hm
set_option maxRecDepth 4000 in
theorem t_X6_standing {o : Int32} {p1 : Int32} (hm : sp_X6_standing p1 m_n m_parents = some o) : xt_M yX6_standing cX6_standing 4 (some .int) (d + 0) [.ref 0, .int p1] (WM m_thrown m_textCount m_rule m_taped m_n m_minds m_lasts m_cutNow m_year m_ofNode m_ofDepth m_ofKids m_ofTwigs m_ofLast m_ofYear m_from m_size m_here m_token m_tokenAt m_open m_bad m_fault m_nKept m_mindsKept m_lastsKept m_cutKept m_yearKept m_ruleKept m_tokenWorth m_texts m_textSize m_tape m_parents m_kinds m_numbers m_odds m_yes m_no m_prices m_numbersKept m_oddsKept m_isThere m_sorts m_sheetSize m_items) (xt_Ki o (WM m_thrown m_textCount m_rule m_taped m_n m_minds m_lasts m_cutNow m_year m_ofNode m_ofDepth m_ofKids m_ofTwigs m_ofLast m_ofYear m_from m_size m_here m_token m_tokenAt m_open m_bad m_fault m_nKept m_mindsKept m_lastsKept m_cutKept m_yearKept m_ruleKept m_tokenWorth m_texts m_textSize m_tape m_parents m_kinds m_numbers m_odds m_yes m_no m_prices m_numbersKept m_oddsKept m_isThere m_sorts m_sheetSize m_items)) := by
  unfold sp_X6_standing at hm
  refine xt_M.go (own := RX6) (lv := [some (.ref 0), some (.int p1), none, none]) rfl rfl (Nat.le_of_ble_eq_true rfl) rfl ?_
  refine x_k eX6_standing_0 ?_
  refine x_istore2 eX6_standing_1 rfl ?_
  refine x_k eX6_standing_2 ?_
  refine x_istore3 eX6_standing_3 rfl ?_
  exact l_X6_standing_4 _ hm
set_option maxRecDepth 4000 in
theorem l_X6_kidsOf_7 {o : Int32} {u1 : Int32} {u2 : Int32} {m_n : Int32} {m_parents : Nat → Int32} : ∀ (n : Nat) {u3 : Int32} {u4 : Int32}, sp_X6_kidsOf_7 u1 u2 m_n m_parents n u3 u4 = some o → xt_T RX6 cX6_kidsOf 5 (some .int) (d + 0) (xt_Ki o (WM m_thrown m_textCount m_rule m_taped m_n m_minds m_lasts m_cutNow m_year m_ofNode m_ofDepth m_ofKids m_ofTwigs m_ofLast m_ofYear m_from m_size m_here m_token m_tokenAt m_open m_bad m_fault m_nKept m_mindsKept m_lastsKept m_cutKept m_yearKept m_ruleKept m_tokenWorth m_texts m_textSize m_tape m_parents m_kinds m_numbers m_odds m_yes m_no m_prices m_numbersKept m_oddsKept m_isThere m_sorts m_sheetSize m_items)) 7 [some (.ref 0), some (.int u1), some (.int u2), some (.int u3), some (.int u4)] [] (WM m_thrown m_textCount m_rule m_taped m_n m_minds m_lasts m_cutNow m_year m_ofNode m_ofDepth m_ofKids m_ofTwigs m_ofLast m_ofYear m_from m_size m_here m_token m_tokenAt m_open m_bad m_fault m_nKept m_mindsKept m_lastsKept m_cutKept m_yearKept m_ruleKept m_tokenWorth m_texts m_textSize m_tape m_parents m_kinds m_numbers m_odds m_yes m_no m_prices m_numbersKept m_oddsKept m_isThere m_sorts m_sheetSize m_items) := by
  intro n
  induction n with
  | zero => intro u3 u4 hm; rw [sp_X6_kidsOf_7] at hm; cases hm
  | succ n ih =>
    intro u3 u4 hm
    rw [sp_X6_kidsOf_7] at hm
    refine x_iload4 eX6_kidsOf_7 ?_
    refine x_aload0 eX6_kidsOf_9 ?_
    refine x_get eX6_kidsOf_10 fX6_23 rfl rfl ?_
    refine x_icmp_ge eX6_kidsOf_13 (fun c => ?_) (fun c => ?_)
    · rw [if_pos c] at hm
      refine x_iload3 eX6_kidsOf_51 ?_
      obtain rfl := Option.some.inj hm
      exact x_iret eX6_kidsOf_52 ⟨rfl, rfl⟩
    · rw [if_neg c] at hm
      refine x_iload3 eX6_kidsOf_16 ?_
      refine x_aload0 eX6_kidsOf_17 ?_
      refine x_get eX6_kidsOf_18 fX6_26 rfl rfl ?_
      refine x_iload4 eX6_kidsOf_21 ?_
      obtain ⟨v1, hv, hm⟩ := xo_bind hm
      obtain ⟨hi, rfl⟩ := xo_at_some hv
      refine x_iaload eX6_kidsOf_23 rfl hi ?_
      refine x_iload1 eX6_kidsOf_24 ?_
      refine x_icmp_ne eX6_kidsOf_25 (fun c => ?_) (fun c => ?_)
      · rw [if_neg c] at hm
        refine x_k eX6_kidsOf_42 ?_
        refine x_iadd eX6_kidsOf_43 ?_
        refine x_istore3 eX6_kidsOf_44 rfl ?_
        refine x_iinc4 eX6_kidsOf_45 rfl ?_
        refine x_goto eX6_kidsOf_48 ?_
        exact ih hm
      · rw [if_pos c] at hm
        refine x_iload2 eX6_kidsOf_28 ?_
        refine x_iload4 eX6_kidsOf_29 ?_
        refine x_ishr eX6_kidsOf_31 ?_
        refine x_k eX6_kidsOf_32 ?_
        refine x_iand eX6_kidsOf_33 ?_
        refine x_k eX6_kidsOf_34 ?_
        refine x_icmp_ne eX6_kidsOf_35 (fun c => ?_) (fun c => ?_)
        · rw [if_neg c] at hm
          refine x_k eX6_kidsOf_42 ?_
          refine x_iadd eX6_kidsOf_43 ?_
          refine x_istore3 eX6_kidsOf_44 rfl ?_
          refine x_iinc4 eX6_kidsOf_45 rfl ?_
          refine x_goto eX6_kidsOf_48 ?_
          exact ih hm
        · rw [if_pos c] at hm
          refine x_k eX6_kidsOf_38 ?_
          refine x_goto eX6_kidsOf_39 ?_
          refine x_iadd eX6_kidsOf_43 ?_
          refine x_istore3 eX6_kidsOf_44 rfl ?_
          refine x_iinc4 eX6_kidsOf_45 rfl ?_
          refine x_goto eX6_kidsOf_48 ?_
          exact ih hm
set_option maxRecDepth 4000 in
theorem t_X6_kidsOf {o : Int32} {p1 : Int32} {p2 : Int32} (hm : sp_X6_kidsOf p1 p2 m_n m_parents = some o) : xt_M yX6_kidsOf cX6_kidsOf 5 (some .int) (d + 0) [.ref 0, .int p1, .int p2] (WM m_thrown m_textCount m_rule m_taped m_n m_minds m_lasts m_cutNow m_year m_ofNode m_ofDepth m_ofKids m_ofTwigs m_ofLast m_ofYear m_from m_size m_here m_token m_tokenAt m_open m_bad m_fault m_nKept m_mindsKept m_lastsKept m_cutKept m_yearKept m_ruleKept m_tokenWorth m_texts m_textSize m_tape m_parents m_kinds m_numbers m_odds m_yes m_no m_prices m_numbersKept m_oddsKept m_isThere m_sorts m_sheetSize m_items) (xt_Ki o (WM m_thrown m_textCount m_rule m_taped m_n m_minds m_lasts m_cutNow m_year m_ofNode m_ofDepth m_ofKids m_ofTwigs m_ofLast m_ofYear m_from m_size m_here m_token m_tokenAt m_open m_bad m_fault m_nKept m_mindsKept m_lastsKept m_cutKept m_yearKept m_ruleKept m_tokenWorth m_texts m_textSize m_tape m_parents m_kinds m_numbers m_odds m_yes m_no m_prices m_numbersKept m_oddsKept m_isThere m_sorts m_sheetSize m_items)) := by
  unfold sp_X6_kidsOf at hm
  refine xt_M.go (own := RX6) (lv := [some (.ref 0), some (.int p1), some (.int p2), none, none]) rfl rfl (Nat.le_of_ble_eq_true rfl) rfl ?_
  refine x_k eX6_kidsOf_0 ?_
  refine x_istore3 eX6_kidsOf_1 rfl ?_
  refine x_iload1 eX6_kidsOf_2 ?_
  refine x_k eX6_kidsOf_3 ?_
  refine x_iadd eX6_kidsOf_4 ?_
  refine x_istore4 eX6_kidsOf_5 rfl ?_
  exact l_X6_kidsOf_7 _ hm
set_option maxRecDepth 4000 in
theorem t_X6_isTwig {o : Int32} {p1 : Int32} {p2 : Int32} (hm : sp_X6_isTwig p1 p2 m_n m_parents = some o) : xt_M yX6_isTwig cX6_isTwig 3 (some .boolean) (d + 1) [.ref 0, .int p1, .int p2] (WM m_thrown m_textCount m_rule m_taped m_n m_minds m_lasts m_cutNow m_year m_ofNode m_ofDepth m_ofKids m_ofTwigs m_ofLast m_ofYear m_from m_size m_here m_token m_tokenAt m_open m_bad m_fault m_nKept m_mindsKept m_lastsKept m_cutKept m_yearKept m_ruleKept m_tokenWorth m_texts m_textSize m_tape m_parents m_kinds m_numbers m_odds m_yes m_no m_prices m_numbersKept m_oddsKept m_isThere m_sorts m_sheetSize m_items) (xt_Ki o (WM m_thrown m_textCount m_rule m_taped m_n m_minds m_lasts m_cutNow m_year m_ofNode m_ofDepth m_ofKids m_ofTwigs m_ofLast m_ofYear m_from m_size m_here m_token m_tokenAt m_open m_bad m_fault m_nKept m_mindsKept m_lastsKept m_cutKept m_yearKept m_ruleKept m_tokenWorth m_texts m_textSize m_tape m_parents m_kinds m_numbers m_odds m_yes m_no m_prices m_numbersKept m_oddsKept m_isThere m_sorts m_sheetSize m_items)) := by
  unfold sp_X6_isTwig at hm
  refine xt_M.go (own := RX6) (lv := [some (.ref 0), some (.int p1), some (.int p2)]) rfl rfl (Nat.le_of_ble_eq_true rfl) rfl ?_
  refine x_iload2 eX6_isTwig_0 ?_
  refine x_iload1 eX6_isTwig_1 ?_
  refine x_ishr eX6_isTwig_2 ?_
  refine x_k eX6_isTwig_3 ?_
  refine x_iand eX6_isTwig_4 ?_
  refine x_k eX6_isTwig_5 ?_
  refine x_icmp_ne eX6_isTwig_6 (fun c => ?_) (fun c => ?_)
  · rw [if_neg c] at hm
    refine x_k eX6_isTwig_26 ?_
    obtain rfl := Option.some.inj hm
    exact x_zret eX6_isTwig_27 (by decide) ⟨rfl, rfl⟩
  · rw [if_pos c] at hm
    refine x_aload0 eX6_isTwig_9 ?_
    refine x_iload1 eX6_isTwig_10 ?_
    refine x_iload2 eX6_isTwig_11 ?_
    obtain ⟨r1, hr, hm⟩ := xo_bind hm
    refine x_Vi2 eX6_isTwig_12 kX6_kidsOf mX6_80 (t_X6_kidsOf hr) rfl (Nat.le_of_ble_eq_true rfl) ?_
    refine x_if_ne eX6_isTwig_15 (fun c => ?_) (fun c => ?_)
    · rw [if_neg c] at hm
      refine x_k eX6_isTwig_26 ?_
      obtain rfl := Option.some.inj hm
      exact x_zret eX6_isTwig_27 (by decide) ⟨rfl, rfl⟩
    · rw [if_pos c] at hm
      refine x_iload1 eX6_isTwig_18 ?_
      refine x_if_le eX6_isTwig_19 (fun c => ?_) (fun c => ?_)
      · rw [if_pos c] at hm
        refine x_k eX6_isTwig_26 ?_
        obtain rfl := Option.some.inj hm
        exact x_zret eX6_isTwig_27 (by decide) ⟨rfl, rfl⟩
      · rw [if_neg c] at hm
        refine x_k eX6_isTwig_22 ?_
        refine x_goto eX6_isTwig_23 ?_
        obtain rfl := Option.some.inj hm
        exact x_zret eX6_isTwig_27 (by decide) ⟨rfl, rfl⟩
set_option maxRecDepth 4000 in
theorem t_X6_even {o : Int32} {p1 : Int32} (hm : sp_X6_even p1 m_lasts m_kinds m_numbers = some o) : xt_M yX6_even cX6_even 4 (some .int) (d + 0) [.ref 0, .int p1] (WM m_thrown m_textCount m_rule m_taped m_n m_minds m_lasts m_cutNow m_year m_ofNode m_ofDepth m_ofKids m_ofTwigs m_ofLast m_ofYear m_from m_size m_here m_token m_tokenAt m_open m_bad m_fault m_nKept m_mindsKept m_lastsKept m_cutKept m_yearKept m_ruleKept m_tokenWorth m_texts m_textSize m_tape m_parents m_kinds m_numbers m_odds m_yes m_no m_prices m_numbersKept m_oddsKept m_isThere m_sorts m_sheetSize m_items) (xt_Ki o (WM m_thrown m_textCount m_rule m_taped m_n m_minds m_lasts m_cutNow m_year m_ofNode m_ofDepth m_ofKids m_ofTwigs m_ofLast m_ofYear m_from m_size m_here m_token m_tokenAt m_open m_bad m_fault m_nKept m_mindsKept m_lastsKept m_cutKept m_yearKept m_ruleKept m_tokenWorth m_texts m_textSize m_tape m_parents m_kinds m_numbers m_odds m_yes m_no m_prices m_numbersKept m_oddsKept m_isThere m_sorts m_sheetSize m_items)) := by
  unfold sp_X6_even at hm
  refine xt_M.go (own := RX6) (lv := [some (.ref 0), some (.int p1), none, none]) rfl rfl (Nat.le_of_ble_eq_true rfl) rfl ?_
  refine x_aload0 eX6_even_0 ?_
  refine x_get eX6_even_1 fX6_29 rfl rfl ?_
  refine x_iload1 eX6_even_4 ?_
  obtain ⟨v1, hv, hm⟩ := xo_bind hm
  obtain ⟨hi, rfl⟩ := xo_at_some hv
  refine x_iaload eX6_even_5 rfl hi ?_
  refine x_istore2 eX6_even_6 rfl ?_
  refine x_aload0 eX6_even_7 ?_
  refine x_get eX6_even_8 fX6_88 rfl rfl ?_
  refine x_iload1 eX6_even_11 ?_
  refine x_ishr eX6_even_12 ?_
  refine x_k eX6_even_13 ?_
  refine x_iand eX6_even_14 ?_
  refine x_istore3 eX6_even_15 rfl ?_
  refine x_iload2 eX6_even_16 ?_
  refine x_if_ne eX6_even_17 (fun c => ?_) (fun c => ?_)
  · rw [if_neg c] at hm
    refine x_iload2 eX6_even_22 ?_
    refine x_k eX6_even_23 ?_
    refine x_icmp_ne eX6_even_24 (fun c => ?_) (fun c => ?_)
    · rw [if_neg c] at hm
      refine x_iload2 eX6_even_29 ?_
      refine x_k eX6_even_30 ?_
      refine x_icmp_ne eX6_even_31 (fun c => ?_) (fun c => ?_)
      · rw [if_neg c] at hm
        refine x_k eX6_even_45 ?_
        refine x_iload3 eX6_even_46 ?_
        refine x_isub eX6_even_47 ?_
        obtain rfl := Option.some.inj hm
        exact x_iret eX6_even_48 ⟨rfl, rfl⟩
      · rw [if_pos c] at hm
        refine x_aload0 eX6_even_34 ?_
        refine x_get eX6_even_35 fX6_32 rfl rfl ?_
        refine x_iload1 eX6_even_38 ?_
        obtain ⟨v2, hv, hm⟩ := xo_bind hm
        obtain ⟨hi, rfl⟩ := xo_at_some hv
        refine x_iaload eX6_even_39 rfl hi ?_
        refine x_k eX6_even_40 ?_
        refine x_irem eX6_even_41 (by decide) ?_
        refine x_goto eX6_even_42 ?_
        obtain rfl := Option.some.inj hm
        exact x_iret eX6_even_48 ⟨rfl, rfl⟩
    · rw [if_pos c] at hm
      refine x_k eX6_even_27 ?_
      obtain rfl := Option.some.inj hm
      exact x_iret eX6_even_28 ⟨rfl, rfl⟩
  · rw [if_pos c] at hm
    refine x_iload3 eX6_even_20 ?_
    obtain rfl := Option.some.inj hm
    exact x_iret eX6_even_21 ⟨rfl, rfl⟩
set_option maxRecDepth 4000 in
theorem t_X6_weighs {o : Int32} {p1 : Int32} {p2 : Int32} (hm : sp_X6_weighs p1 p2 m_kinds m_numbers = some o) : xt_M yX6_weighs cX6_weighs 5 (some .int) (d + 0) [.ref 0, .int p1, .int p2] (WM m_thrown m_textCount m_rule m_taped m_n m_minds m_lasts m_cutNow m_year m_ofNode m_ofDepth m_ofKids m_ofTwigs m_ofLast m_ofYear m_from m_size m_here m_token m_tokenAt m_open m_bad m_fault m_nKept m_mindsKept m_lastsKept m_cutKept m_yearKept m_ruleKept m_tokenWorth m_texts m_textSize m_tape m_parents m_kinds m_numbers m_odds m_yes m_no m_prices m_numbersKept m_oddsKept m_isThere m_sorts m_sheetSize m_items) (xt_Ki o (WM m_thrown m_textCount m_rule m_taped m_n m_minds m_lasts m_cutNow m_year m_ofNode m_ofDepth m_ofKids m_ofTwigs m_ofLast m_ofYear m_from m_size m_here m_token m_tokenAt m_open m_bad m_fault m_nKept m_mindsKept m_lastsKept m_cutKept m_yearKept m_ruleKept m_tokenWorth m_texts m_textSize m_tape m_parents m_kinds m_numbers m_odds m_yes m_no m_prices m_numbersKept m_oddsKept m_isThere m_sorts m_sheetSize m_items)) := by
  unfold sp_X6_weighs at hm
  refine xt_M.go (own := RX6) (lv := [some (.ref 0), some (.int p1), some (.int p2), none, none]) rfl rfl (Nat.le_of_ble_eq_true rfl) rfl ?_
  refine x_aload0 eX6_weighs_0 ?_
  refine x_get eX6_weighs_1 fX6_29 rfl rfl ?_
  refine x_iload1 eX6_weighs_4 ?_
  obtain ⟨v1, hv, hm⟩ := xo_bind hm
  obtain ⟨hi, rfl⟩ := xo_at_some hv
  refine x_iaload eX6_weighs_5 rfl hi ?_
  refine x_istore3 eX6_weighs_6 rfl ?_
  refine x_iload2 eX6_weighs_7 ?_
  refine x_aload0 eX6_weighs_8 ?_
  refine x_get eX6_weighs_9 fX6_32 rfl rfl ?_
  refine x_iload1 eX6_weighs_12 ?_
  obtain ⟨v2, hv, hm⟩ := xo_bind hm
  obtain ⟨hi, rfl⟩ := xo_at_some hv
  refine x_iaload eX6_weighs_13 rfl hi ?_
  refine x_icmp_le eX6_weighs_14 (fun c => ?_) (fun c => ?_)
  · rw [if_pos c] at hm
    refine x_k eX6_weighs_21 ?_
    refine x_istore4 eX6_weighs_22 rfl ?_
    refine x_iload3 eX6_weighs_24 ?_
    refine x_k eX6_weighs_25 ?_
    refine x_icmp_ne eX6_weighs_26 (fun c => ?_) (fun c => ?_)
    · rw [if_neg c] at hm
      refine x_iload3 eX6_weighs_32 ?_
      refine x_k eX6_weighs_33 ?_
      refine x_icmp_ne eX6_weighs_34 (fun c => ?_) (fun c => ?_)
      · rw [if_neg c] at hm
        refine x_iload3 eX6_weighs_44 ?_
        refine x_k eX6_weighs_45 ?_
        refine x_icmp_ne eX6_weighs_46 (fun c => ?_) (fun c => ?_)
        · rw [if_neg c] at hm
          refine x_iload3 eX6_weighs_53 ?_
          refine x_k eX6_weighs_54 ?_
          refine x_icmp_ne eX6_weighs_55 (fun c => ?_) (fun c => ?_)
          · rw [if_neg c] at hm
            refine x_k eX6_weighs_62 ?_
            obtain rfl := Option.some.inj hm
            exact x_iret eX6_weighs_63 ⟨rfl, rfl⟩
          · rw [if_pos c] at hm
            refine x_k eX6_weighs_58 ?_
            refine x_goto eX6_weighs_59 ?_
            obtain rfl := Option.some.inj hm
            exact x_iret eX6_weighs_63 ⟨rfl, rfl⟩
        · rw [if_pos c] at hm
          refine x_k eX6_weighs_49 ?_
          refine x_goto eX6_weighs_50 ?_
          obtain rfl := Option.some.inj hm
          exact x_iret eX6_weighs_63 ⟨rfl, rfl⟩
      · rw [if_pos c] at hm
        refine x_iload4 eX6_weighs_37 ?_
        refine x_iload2 eX6_weighs_39 ?_
        refine x_k eX6_weighs_40 ?_
        refine x_idiv eX6_weighs_41 (by decide) ?_
        refine x_iadd eX6_weighs_42 ?_
        obtain rfl := Option.some.inj hm
        exact x_iret eX6_weighs_43 ⟨rfl, rfl⟩
    · rw [if_pos c] at hm
      refine x_iload4 eX6_weighs_29 ?_
      obtain rfl := Option.some.inj hm
      exact x_iret eX6_weighs_31 ⟨rfl, rfl⟩
  · rw [if_neg c] at hm
    refine x_k eX6_weighs_17 ?_
    refine x_goto eX6_weighs_18 ?_
    refine x_istore4 eX6_weighs_22 rfl ?_
    refine x_iload3 eX6_weighs_24 ?_
    refine x_k eX6_weighs_25 ?_
    refine x_icmp_ne eX6_weighs_26 (fun c => ?_) (fun c => ?_)
    · rw [if_neg c] at hm
      refine x_iload3 eX6_weighs_32 ?_
      refine x_k eX6_weighs_33 ?_
      refine x_icmp_ne eX6_weighs_34 (fun c => ?_) (fun c => ?_)
      · rw [if_neg c] at hm
        refine x_iload3 eX6_weighs_44 ?_
        refine x_k eX6_weighs_45 ?_
        refine x_icmp_ne eX6_weighs_46 (fun c => ?_) (fun c => ?_)
        · rw [if_neg c] at hm
          refine x_iload3 eX6_weighs_53 ?_
          refine x_k eX6_weighs_54 ?_
          refine x_icmp_ne eX6_weighs_55 (fun c => ?_) (fun c => ?_)
          · rw [if_neg c] at hm
            refine x_k eX6_weighs_62 ?_
            obtain rfl := Option.some.inj hm
            exact x_iret eX6_weighs_63 ⟨rfl, rfl⟩
          · rw [if_pos c] at hm
            refine x_k eX6_weighs_58 ?_
            refine x_goto eX6_weighs_59 ?_
            obtain rfl := Option.some.inj hm
            exact x_iret eX6_weighs_63 ⟨rfl, rfl⟩
        · rw [if_pos c] at hm
          refine x_k eX6_weighs_49 ?_
          refine x_goto eX6_weighs_50 ?_
          obtain rfl := Option.some.inj hm
          exact x_iret eX6_weighs_63 ⟨rfl, rfl⟩
      · rw [if_pos c] at hm
        refine x_iload4 eX6_weighs_37 ?_
        refine x_iload2 eX6_weighs_39 ?_
        refine x_k eX6_weighs_40 ?_
        refine x_idiv eX6_weighs_41 (by decide) ?_
        refine x_iadd eX6_weighs_42 ?_
        obtain rfl := Option.some.inj hm
        exact x_iret eX6_weighs_43 ⟨rfl, rfl⟩
    · rw [if_pos c] at hm
      refine x_iload4 eX6_weighs_29 ?_
      obtain rfl := Option.some.inj hm
      exact x_iret eX6_weighs_31 ⟨rfl, rfl⟩
set_option maxRecDepth 4000 in
theorem l_X6_goes_44 {o : Int32 × (Nat → Int32) × (Nat → Int32)} {u1 : Int32} {u2 : Int32} {m_n : Int32} {m_lasts : Int32} {m_parents : Nat → Int32} {m_kinds : Nat → Int32} {m_numbers : Nat → Int32} : ∀ (n : Nat) {u3 : Int32} {u4 : Int32} {m_yes : Nat → Int32} {m_no : Nat → Int32}, sp_X6_goes_44 u1 u2 m_n m_lasts m_parents m_kinds m_numbers n u3 u4 m_yes m_no = some o → xt_T RX6 cX6_goes 7 (some .int) (d + 2) (xt_Ki o.1 (WM m_thrown m_textCount m_rule m_taped m_n m_minds m_lasts m_cutNow m_year m_ofNode m_ofDepth m_ofKids m_ofTwigs m_ofLast m_ofYear m_from m_size m_here m_token m_tokenAt m_open m_bad m_fault m_nKept m_mindsKept m_lastsKept m_cutKept m_yearKept m_ruleKept m_tokenWorth m_texts m_textSize m_tape m_parents m_kinds m_numbers m_odds o.2.1 o.2.2 m_prices m_numbersKept m_oddsKept m_isThere m_sorts m_sheetSize m_items)) 44 [some (.ref 0), some (.int u1), some (.int u2), some (.int u3), some (.int u4), none, none] [] (WM m_thrown m_textCount m_rule m_taped m_n m_minds m_lasts m_cutNow m_year m_ofNode m_ofDepth m_ofKids m_ofTwigs m_ofLast m_ofYear m_from m_size m_here m_token m_tokenAt m_open m_bad m_fault m_nKept m_mindsKept m_lastsKept m_cutKept m_yearKept m_ruleKept m_tokenWorth m_texts m_textSize m_tape m_parents m_kinds m_numbers m_odds m_yes m_no m_prices m_numbersKept m_oddsKept m_isThere m_sorts m_sheetSize m_items) := by
  intro n
  induction n with
  | zero => intro u3 u4 m_yes m_no hm; rw [sp_X6_goes_44] at hm; cases hm
  | succ n ih =>
    intro u3 u4 m_yes m_no hm
    rw [sp_X6_goes_44] at hm
    refine x_iload4 eX6_goes_44 ?_
    refine x_if_lt eX6_goes_46 (fun c => ?_) (fun c => ?_)
    · rw [if_pos c] at hm
      refine x_iload3 eX6_goes_205 ?_
      obtain rfl := Option.some.inj hm
      exact x_iret eX6_goes_206 ⟨rfl, rfl⟩
    · rw [if_neg c] at hm
      refine x_iload1 eX6_goes_49 ?_
      refine x_iload4 eX6_goes_50 ?_
      refine x_ishr eX6_goes_52 ?_
      refine x_k eX6_goes_53 ?_
      refine x_iand eX6_goes_54 ?_
      refine x_k eX6_goes_55 ?_
      refine x_icmp_ne eX6_goes_56 (fun c => ?_) (fun c => ?_)
      · rw [if_neg c] at hm
        refine x_iinc4 eX6_goes_199 rfl ?_
        refine x_goto eX6_goes_202 ?_
        exact ih hm
      · rw [if_pos c] at hm
        refine x_aload0 eX6_goes_59 ?_
        refine x_iload4 eX6_goes_60 ?_
        refine x_iload1 eX6_goes_62 ?_
        obtain ⟨r1, hr, hm⟩ := xo_bind hm
        refine x_Vi2 eX6_goes_63 kX6_isTwig mX6_84 (t_X6_isTwig hr) rfl (Nat.le_of_ble_eq_true rfl) ?_
        refine x_if_eq eX6_goes_66 (fun c => ?_) (fun c => ?_)
        · rw [if_pos c] at hm
          refine x_aload0 eX6_goes_78 ?_
          refine x_get eX6_goes_79 fX6_38 rfl rfl ?_
          refine x_iload4 eX6_goes_82 ?_
          obtain ⟨v2, hv, hm⟩ := xo_bind hm
          obtain ⟨hi, rfl⟩ := xo_at_some hv
          refine x_iaload eX6_goes_84 rfl hi ?_
          refine x_aload0 eX6_goes_85 ?_
          refine x_get eX6_goes_86 fX6_41 rfl rfl ?_
          refine x_iload4 eX6_goes_89 ?_
          obtain ⟨v3, hv, hm⟩ := xo_bind hm
          obtain ⟨hi, rfl⟩ := xo_at_some hv
          refine x_iaload eX6_goes_91 rfl hi ?_
          refine x_icmp_le eX6_goes_92 (fun c => ?_) (fun c => ?_)
          · rw [if_pos c] at hm
            refine x_aload0 eX6_goes_99 ?_
            refine x_get eX6_goes_100 fX6_38 rfl rfl ?_
            refine x_iload4 eX6_goes_103 ?_
            obtain ⟨v4, hv, hm⟩ := xo_bind hm
            obtain ⟨hi, rfl⟩ := xo_at_some hv
            refine x_iaload eX6_goes_105 rfl hi ?_
            refine x_aload0 eX6_goes_106 ?_
            refine x_get eX6_goes_107 fX6_41 rfl rfl ?_
            refine x_iload4 eX6_goes_110 ?_
            obtain ⟨v5, hv, hm⟩ := xo_bind hm
            obtain ⟨hi, rfl⟩ := xo_at_some hv
            refine x_iaload eX6_goes_112 rfl hi ?_
            refine x_icmp_ge eX6_goes_113 (fun c => ?_) (fun c => ?_)
            · rw [if_pos c] at hm
              refine x_aload0 eX6_goes_120 ?_
              refine x_iload4 eX6_goes_121 ?_
              obtain ⟨r6, hr, hm⟩ := xo_bind hm
              refine x_Vi1 eX6_goes_123 kX6_even mX6_91 (t_X6_even hr) rfl (Nat.le_of_ble_eq_true rfl) ?_
              refine x_istore5 eX6_goes_126 rfl ?_
              refine x_iload3 eX6_goes_128 ?_
              refine x_iload5 eX6_goes_129 ?_
              refine x_iload4 eX6_goes_131 ?_
              refine x_ishl eX6_goes_133 ?_
              refine x_ior eX6_goes_134 ?_
              refine x_istore3 eX6_goes_135 rfl ?_
              refine x_iload4 eX6_goes_136 ?_
              refine x_if_le eX6_goes_138 (fun c => ?_) (fun c => ?_)
              · rw [if_pos c] at hm
                refine x_iinc4 eX6_goes_199 rfl ?_
                refine x_goto eX6_goes_202 ?_
                exact x_weak (by simp [xt_le]) (ih hm)
              · rw [if_neg c] at hm
                refine x_aload0 eX6_goes_141 ?_
                refine x_iload4 eX6_goes_142 ?_
                refine x_aload0 eX6_goes_144 ?_
                refine x_iload4 eX6_goes_145 ?_
                refine x_iload1 eX6_goes_147 ?_
                obtain ⟨r7, hr, hm⟩ := xo_bind hm
                refine x_Vi2 eX6_goes_148 kX6_kidsOf mX6_80 (t_X6_kidsOf hr) rfl (Nat.le_of_ble_eq_true rfl) ?_
                obtain ⟨r8, hr, hm⟩ := xo_bind hm
                refine x_Vi2 eX6_goes_151 kX6_weighs mX6_95 (t_X6_weighs hr) rfl (Nat.le_of_ble_eq_true rfl) ?_
                refine x_istore6 eX6_goes_154 rfl ?_
                refine x_iload5 eX6_goes_156 ?_
                refine x_k eX6_goes_158 ?_
                refine x_icmp_ne eX6_goes_159 (fun c => ?_) (fun c => ?_)
                · rw [if_neg c] at hm
                  refine x_aload0 eX6_goes_182 ?_
                  refine x_get eX6_goes_183 fX6_41 rfl rfl ?_
                  refine x_aload0 eX6_goes_186 ?_
                  refine x_get eX6_goes_187 fX6_26 rfl rfl ?_
                  refine x_iload4 eX6_goes_190 ?_
                  obtain ⟨v9, hv, hm⟩ := xo_bind hm
                  obtain ⟨hi, rfl⟩ := xo_at_some hv
                  refine x_iaload eX6_goes_192 rfl hi ?_
                  refine x_dup2 eX6_goes_193 rfl rfl ?_
                  obtain ⟨v10, hv, hm⟩ := xo_bind hm
                  obtain ⟨hi, rfl⟩ := xo_at_some hv
                  refine x_iaload eX6_goes_194 rfl hi ?_
                  refine x_iload6 eX6_goes_195 ?_
                  refine x_iadd eX6_goes_197 ?_
                  obtain ⟨f11, hv, hm⟩ := xo_bind hm
                  obtain ⟨hi, rfl⟩ := xo_set_some hv
                  refine x_iastore (w' := WM _ _ _ _ _ _ _ _ _ _ _ _ _ _ _ _ _ _ _ _ _ _ _ _ _ _ _ _ _ _ _ _ _ _ _ _ _ _ _ _ _ _ _ _ _ _) eX6_goes_198 rfl hi rfl ?_
                  refine x_iinc4 eX6_goes_199 rfl ?_
                  refine x_goto eX6_goes_202 ?_
                  exact x_weak (by simp [xt_le]) (ih hm)
                · rw [if_pos c] at hm
                  refine x_aload0 eX6_goes_162 ?_
                  refine x_get eX6_goes_163 fX6_38 rfl rfl ?_
                  refine x_aload0 eX6_goes_166 ?_
                  refine x_get eX6_goes_167 fX6_26 rfl rfl ?_
                  refine x_iload4 eX6_goes_170 ?_
                  obtain ⟨v12, hv, hm⟩ := xo_bind hm
                  obtain ⟨hi, rfl⟩ := xo_at_some hv
                  refine x_iaload eX6_goes_172 rfl hi ?_
                  refine x_dup2 eX6_goes_173 rfl rfl ?_
                  obtain ⟨v13, hv, hm⟩ := xo_bind hm
                  obtain ⟨hi, rfl⟩ := xo_at_some hv
                  refine x_iaload eX6_goes_174 rfl hi ?_
                  refine x_iload6 eX6_goes_175 ?_
                  refine x_iadd eX6_goes_177 ?_
                  obtain ⟨f14, hv, hm⟩ := xo_bind hm
                  obtain ⟨hi, rfl⟩ := xo_set_some hv
                  refine x_iastore (w' := WM _ _ _ _ _ _ _ _ _ _ _ _ _ _ _ _ _ _ _ _ _ _ _ _ _ _ _ _ _ _ _ _ _ _ _ _ _ _ _ _ _ _ _ _ _ _) eX6_goes_178 rfl hi rfl ?_
                  refine x_goto eX6_goes_179 ?_
                  refine x_iinc4 eX6_goes_199 rfl ?_
                  refine x_goto eX6_goes_202 ?_
                  exact x_weak (by simp [xt_le]) (ih hm)
            · rw [if_neg c] at hm
              refine x_k eX6_goes_116 ?_
              refine x_goto eX6_goes_117 ?_
              refine x_istore5 eX6_goes_126 rfl ?_
              refine x_iload3 eX6_goes_128 ?_
              refine x_iload5 eX6_goes_129 ?_
              refine x_iload4 eX6_goes_131 ?_
              refine x_ishl eX6_goes_133 ?_
              refine x_ior eX6_goes_134 ?_
              refine x_istore3 eX6_goes_135 rfl ?_
              refine x_iload4 eX6_goes_136 ?_
              refine x_if_le eX6_goes_138 (fun c => ?_) (fun c => ?_)
              · rw [if_pos c] at hm
                refine x_iinc4 eX6_goes_199 rfl ?_
                refine x_goto eX6_goes_202 ?_
                exact x_weak (by simp [xt_le]) (ih hm)
              · rw [if_neg c] at hm
                refine x_aload0 eX6_goes_141 ?_
                refine x_iload4 eX6_goes_142 ?_
                refine x_aload0 eX6_goes_144 ?_
                refine x_iload4 eX6_goes_145 ?_
                refine x_iload1 eX6_goes_147 ?_
                obtain ⟨r15, hr, hm⟩ := xo_bind hm
                refine x_Vi2 eX6_goes_148 kX6_kidsOf mX6_80 (t_X6_kidsOf hr) rfl (Nat.le_of_ble_eq_true rfl) ?_
                obtain ⟨r16, hr, hm⟩ := xo_bind hm
                refine x_Vi2 eX6_goes_151 kX6_weighs mX6_95 (t_X6_weighs hr) rfl (Nat.le_of_ble_eq_true rfl) ?_
                refine x_istore6 eX6_goes_154 rfl ?_
                refine x_iload5 eX6_goes_156 ?_
                refine x_k eX6_goes_158 ?_
                refine x_icmp_ne eX6_goes_159 (fun c => ?_) (fun c => ?_)
                · rw [if_neg c] at hm
                  refine x_aload0 eX6_goes_182 ?_
                  refine x_get eX6_goes_183 fX6_41 rfl rfl ?_
                  refine x_aload0 eX6_goes_186 ?_
                  refine x_get eX6_goes_187 fX6_26 rfl rfl ?_
                  refine x_iload4 eX6_goes_190 ?_
                  obtain ⟨v17, hv, hm⟩ := xo_bind hm
                  obtain ⟨hi, rfl⟩ := xo_at_some hv
                  refine x_iaload eX6_goes_192 rfl hi ?_
                  refine x_dup2 eX6_goes_193 rfl rfl ?_
                  obtain ⟨v18, hv, hm⟩ := xo_bind hm
                  obtain ⟨hi, rfl⟩ := xo_at_some hv
                  refine x_iaload eX6_goes_194 rfl hi ?_
                  refine x_iload6 eX6_goes_195 ?_
                  refine x_iadd eX6_goes_197 ?_
                  obtain ⟨f19, hv, hm⟩ := xo_bind hm
                  obtain ⟨hi, rfl⟩ := xo_set_some hv
                  refine x_iastore (w' := WM _ _ _ _ _ _ _ _ _ _ _ _ _ _ _ _ _ _ _ _ _ _ _ _ _ _ _ _ _ _ _ _ _ _ _ _ _ _ _ _ _ _ _ _ _ _) eX6_goes_198 rfl hi rfl ?_
                  refine x_iinc4 eX6_goes_199 rfl ?_
                  refine x_goto eX6_goes_202 ?_
                  exact x_weak (by simp [xt_le]) (ih hm)
                · rw [if_pos c] at hm
                  refine x_aload0 eX6_goes_162 ?_
                  refine x_get eX6_goes_163 fX6_38 rfl rfl ?_
                  refine x_aload0 eX6_goes_166 ?_
                  refine x_get eX6_goes_167 fX6_26 rfl rfl ?_
                  refine x_iload4 eX6_goes_170 ?_
                  obtain ⟨v20, hv, hm⟩ := xo_bind hm
                  obtain ⟨hi, rfl⟩ := xo_at_some hv
                  refine x_iaload eX6_goes_172 rfl hi ?_
                  refine x_dup2 eX6_goes_173 rfl rfl ?_
                  obtain ⟨v21, hv, hm⟩ := xo_bind hm
                  obtain ⟨hi, rfl⟩ := xo_at_some hv
                  refine x_iaload eX6_goes_174 rfl hi ?_
                  refine x_iload6 eX6_goes_175 ?_
                  refine x_iadd eX6_goes_177 ?_
                  obtain ⟨f22, hv, hm⟩ := xo_bind hm
                  obtain ⟨hi, rfl⟩ := xo_set_some hv
                  refine x_iastore (w' := WM _ _ _ _ _ _ _ _ _ _ _ _ _ _ _ _ _ _ _ _ _ _ _ _ _ _ _ _ _ _ _ _ _ _ _ _ _ _ _ _ _ _ _ _ _ _) eX6_goes_178 rfl hi rfl ?_
                  refine x_goto eX6_goes_179 ?_
                  refine x_iinc4 eX6_goes_199 rfl ?_
                  refine x_goto eX6_goes_202 ?_
                  exact x_weak (by simp [xt_le]) (ih hm)
          · rw [if_neg c] at hm
            refine x_k eX6_goes_95 ?_
            refine x_goto eX6_goes_96 ?_
            refine x_istore5 eX6_goes_126 rfl ?_
            refine x_iload3 eX6_goes_128 ?_
            refine x_iload5 eX6_goes_129 ?_
            refine x_iload4 eX6_goes_131 ?_
            refine x_ishl eX6_goes_133 ?_
            refine x_ior eX6_goes_134 ?_
            refine x_istore3 eX6_goes_135 rfl ?_
            refine x_iload4 eX6_goes_136 ?_
            refine x_if_le eX6_goes_138 (fun c => ?_) (fun c => ?_)
            · rw [if_pos c] at hm
              refine x_iinc4 eX6_goes_199 rfl ?_
              refine x_goto eX6_goes_202 ?_
              exact x_weak (by simp [xt_le]) (ih hm)
            · rw [if_neg c] at hm
              refine x_aload0 eX6_goes_141 ?_
              refine x_iload4 eX6_goes_142 ?_
              refine x_aload0 eX6_goes_144 ?_
              refine x_iload4 eX6_goes_145 ?_
              refine x_iload1 eX6_goes_147 ?_
              obtain ⟨r23, hr, hm⟩ := xo_bind hm
              refine x_Vi2 eX6_goes_148 kX6_kidsOf mX6_80 (t_X6_kidsOf hr) rfl (Nat.le_of_ble_eq_true rfl) ?_
              obtain ⟨r24, hr, hm⟩ := xo_bind hm
              refine x_Vi2 eX6_goes_151 kX6_weighs mX6_95 (t_X6_weighs hr) rfl (Nat.le_of_ble_eq_true rfl) ?_
              refine x_istore6 eX6_goes_154 rfl ?_
              refine x_iload5 eX6_goes_156 ?_
              refine x_k eX6_goes_158 ?_
              refine x_icmp_ne eX6_goes_159 (fun c => ?_) (fun c => ?_)
              · rw [if_neg c] at hm
                refine x_aload0 eX6_goes_182 ?_
                refine x_get eX6_goes_183 fX6_41 rfl rfl ?_
                refine x_aload0 eX6_goes_186 ?_
                refine x_get eX6_goes_187 fX6_26 rfl rfl ?_
                refine x_iload4 eX6_goes_190 ?_
                obtain ⟨v25, hv, hm⟩ := xo_bind hm
                obtain ⟨hi, rfl⟩ := xo_at_some hv
                refine x_iaload eX6_goes_192 rfl hi ?_
                refine x_dup2 eX6_goes_193 rfl rfl ?_
                obtain ⟨v26, hv, hm⟩ := xo_bind hm
                obtain ⟨hi, rfl⟩ := xo_at_some hv
                refine x_iaload eX6_goes_194 rfl hi ?_
                refine x_iload6 eX6_goes_195 ?_
                refine x_iadd eX6_goes_197 ?_
                obtain ⟨f27, hv, hm⟩ := xo_bind hm
                obtain ⟨hi, rfl⟩ := xo_set_some hv
                refine x_iastore (w' := WM _ _ _ _ _ _ _ _ _ _ _ _ _ _ _ _ _ _ _ _ _ _ _ _ _ _ _ _ _ _ _ _ _ _ _ _ _ _ _ _ _ _ _ _ _ _) eX6_goes_198 rfl hi rfl ?_
                refine x_iinc4 eX6_goes_199 rfl ?_
                refine x_goto eX6_goes_202 ?_
                exact x_weak (by simp [xt_le]) (ih hm)
              · rw [if_pos c] at hm
                refine x_aload0 eX6_goes_162 ?_
                refine x_get eX6_goes_163 fX6_38 rfl rfl ?_
                refine x_aload0 eX6_goes_166 ?_
                refine x_get eX6_goes_167 fX6_26 rfl rfl ?_
                refine x_iload4 eX6_goes_170 ?_
                obtain ⟨v28, hv, hm⟩ := xo_bind hm
                obtain ⟨hi, rfl⟩ := xo_at_some hv
                refine x_iaload eX6_goes_172 rfl hi ?_
                refine x_dup2 eX6_goes_173 rfl rfl ?_
                obtain ⟨v29, hv, hm⟩ := xo_bind hm
                obtain ⟨hi, rfl⟩ := xo_at_some hv
                refine x_iaload eX6_goes_174 rfl hi ?_
                refine x_iload6 eX6_goes_175 ?_
                refine x_iadd eX6_goes_177 ?_
                obtain ⟨f30, hv, hm⟩ := xo_bind hm
                obtain ⟨hi, rfl⟩ := xo_set_some hv
                refine x_iastore (w' := WM _ _ _ _ _ _ _ _ _ _ _ _ _ _ _ _ _ _ _ _ _ _ _ _ _ _ _ _ _ _ _ _ _ _ _ _ _ _ _ _ _ _ _ _ _ _) eX6_goes_178 rfl hi rfl ?_
                refine x_goto eX6_goes_179 ?_
                refine x_iinc4 eX6_goes_199 rfl ?_
                refine x_goto eX6_goes_202 ?_
                exact x_weak (by simp [xt_le]) (ih hm)
        · rw [if_neg c] at hm
          refine x_iload2 eX6_goes_69 ?_
          refine x_iload4 eX6_goes_70 ?_
          refine x_ishr eX6_goes_72 ?_
          refine x_k eX6_goes_73 ?_
          refine x_iand eX6_goes_74 ?_
          refine x_goto eX6_goes_75 ?_
          refine x_istore5 eX6_goes_126 rfl ?_
          refine x_iload3 eX6_goes_128 ?_
          refine x_iload5 eX6_goes_129 ?_
          refine x_iload4 eX6_goes_131 ?_
          refine x_ishl eX6_goes_133 ?_
          refine x_ior eX6_goes_134 ?_
          refine x_istore3 eX6_goes_135 rfl ?_
          refine x_iload4 eX6_goes_136 ?_
          refine x_if_le eX6_goes_138 (fun c => ?_) (fun c => ?_)
          · rw [if_pos c] at hm
            refine x_iinc4 eX6_goes_199 rfl ?_
            refine x_goto eX6_goes_202 ?_
            exact x_weak (by simp [xt_le]) (ih hm)
          · rw [if_neg c] at hm
            refine x_aload0 eX6_goes_141 ?_
            refine x_iload4 eX6_goes_142 ?_
            refine x_aload0 eX6_goes_144 ?_
            refine x_iload4 eX6_goes_145 ?_
            refine x_iload1 eX6_goes_147 ?_
            obtain ⟨r31, hr, hm⟩ := xo_bind hm
            refine x_Vi2 eX6_goes_148 kX6_kidsOf mX6_80 (t_X6_kidsOf hr) rfl (Nat.le_of_ble_eq_true rfl) ?_
            obtain ⟨r32, hr, hm⟩ := xo_bind hm
            refine x_Vi2 eX6_goes_151 kX6_weighs mX6_95 (t_X6_weighs hr) rfl (Nat.le_of_ble_eq_true rfl) ?_
            refine x_istore6 eX6_goes_154 rfl ?_
            refine x_iload5 eX6_goes_156 ?_
            refine x_k eX6_goes_158 ?_
            refine x_icmp_ne eX6_goes_159 (fun c => ?_) (fun c => ?_)
            · rw [if_neg c] at hm
              refine x_aload0 eX6_goes_182 ?_
              refine x_get eX6_goes_183 fX6_41 rfl rfl ?_
              refine x_aload0 eX6_goes_186 ?_
              refine x_get eX6_goes_187 fX6_26 rfl rfl ?_
              refine x_iload4 eX6_goes_190 ?_
              obtain ⟨v33, hv, hm⟩ := xo_bind hm
              obtain ⟨hi, rfl⟩ := xo_at_some hv
              refine x_iaload eX6_goes_192 rfl hi ?_
              refine x_dup2 eX6_goes_193 rfl rfl ?_
              obtain ⟨v34, hv, hm⟩ := xo_bind hm
              obtain ⟨hi, rfl⟩ := xo_at_some hv
              refine x_iaload eX6_goes_194 rfl hi ?_
              refine x_iload6 eX6_goes_195 ?_
              refine x_iadd eX6_goes_197 ?_
              obtain ⟨f35, hv, hm⟩ := xo_bind hm
              obtain ⟨hi, rfl⟩ := xo_set_some hv
              refine x_iastore (w' := WM _ _ _ _ _ _ _ _ _ _ _ _ _ _ _ _ _ _ _ _ _ _ _ _ _ _ _ _ _ _ _ _ _ _ _ _ _ _ _ _ _ _ _ _ _ _) eX6_goes_198 rfl hi rfl ?_
              refine x_iinc4 eX6_goes_199 rfl ?_
              refine x_goto eX6_goes_202 ?_
              exact x_weak (by simp [xt_le]) (ih hm)
            · rw [if_pos c] at hm
              refine x_aload0 eX6_goes_162 ?_
              refine x_get eX6_goes_163 fX6_38 rfl rfl ?_
              refine x_aload0 eX6_goes_166 ?_
              refine x_get eX6_goes_167 fX6_26 rfl rfl ?_
              refine x_iload4 eX6_goes_170 ?_
              obtain ⟨v36, hv, hm⟩ := xo_bind hm
              obtain ⟨hi, rfl⟩ := xo_at_some hv
              refine x_iaload eX6_goes_172 rfl hi ?_
              refine x_dup2 eX6_goes_173 rfl rfl ?_
              obtain ⟨v37, hv, hm⟩ := xo_bind hm
              obtain ⟨hi, rfl⟩ := xo_at_some hv
              refine x_iaload eX6_goes_174 rfl hi ?_
              refine x_iload6 eX6_goes_175 ?_
              refine x_iadd eX6_goes_177 ?_
              obtain ⟨f38, hv, hm⟩ := xo_bind hm
              obtain ⟨hi, rfl⟩ := xo_set_some hv
              refine x_iastore (w' := WM _ _ _ _ _ _ _ _ _ _ _ _ _ _ _ _ _ _ _ _ _ _ _ _ _ _ _ _ _ _ _ _ _ _ _ _ _ _ _ _ _ _ _ _ _ _) eX6_goes_178 rfl hi rfl ?_
              refine x_goto eX6_goes_179 ?_
              refine x_iinc4 eX6_goes_199 rfl ?_
              refine x_goto eX6_goes_202 ?_
              exact x_weak (by simp [xt_le]) (ih hm)
set_option maxRecDepth 4000 in
theorem l_X6_goes_5 {o : Int32 × (Nat → Int32) × (Nat → Int32)} {u1 : Int32} {u2 : Int32} {u3 : Int32} {m_n : Int32} {m_lasts : Int32} {m_parents : Nat → Int32} {m_kinds : Nat → Int32} {m_numbers : Nat → Int32} : ∀ (n : Nat) {u4 : Int32} {m_yes : Nat → Int32} {m_no : Nat → Int32}, sp_X6_goes_5 u1 u2 u3 m_n m_lasts m_parents m_kinds m_numbers n u4 m_yes m_no = some o → xt_T RX6 cX6_goes 7 (some .int) (d + 2) (xt_Ki o.1 (WM m_thrown m_textCount m_rule m_taped m_n m_minds m_lasts m_cutNow m_year m_ofNode m_ofDepth m_ofKids m_ofTwigs m_ofLast m_ofYear m_from m_size m_here m_token m_tokenAt m_open m_bad m_fault m_nKept m_mindsKept m_lastsKept m_cutKept m_yearKept m_ruleKept m_tokenWorth m_texts m_textSize m_tape m_parents m_kinds m_numbers m_odds o.2.1 o.2.2 m_prices m_numbersKept m_oddsKept m_isThere m_sorts m_sheetSize m_items)) 5 [some (.ref 0), some (.int u1), some (.int u2), some (.int u3), some (.int u4), none, none] [] (WM m_thrown m_textCount m_rule m_taped m_n m_minds m_lasts m_cutNow m_year m_ofNode m_ofDepth m_ofKids m_ofTwigs m_ofLast m_ofYear m_from m_size m_here m_token m_tokenAt m_open m_bad m_fault m_nKept m_mindsKept m_lastsKept m_cutKept m_yearKept m_ruleKept m_tokenWorth m_texts m_textSize m_tape m_parents m_kinds m_numbers m_odds m_yes m_no m_prices m_numbersKept m_oddsKept m_isThere m_sorts m_sheetSize m_items) := by
  intro n
  induction n with
  | zero => intro u4 m_yes m_no hm; rw [sp_X6_goes_5] at hm; cases hm
  | succ n ih =>
    intro u4 m_yes m_no hm
    rw [sp_X6_goes_5] at hm
    refine x_iload4 eX6_goes_5 ?_
    refine x_aload0 eX6_goes_7 ?_
    refine x_get eX6_goes_8 fX6_23 rfl rfl ?_
    refine x_icmp_ge eX6_goes_11 (fun c => ?_) (fun c => ?_)
    · rw [if_pos c] at hm
      refine x_aload0 eX6_goes_36 ?_
      refine x_get eX6_goes_37 fX6_23 rfl rfl ?_
      refine x_k eX6_goes_40 ?_
      refine x_isub eX6_goes_41 ?_
      refine x_istore4 eX6_goes_42 rfl ?_
      exact l_X6_goes_44 _ hm
    · rw [if_neg c] at hm
      refine x_aload0 eX6_goes_14 ?_
      refine x_get eX6_goes_15 fX6_38 rfl rfl ?_
      refine x_iload4 eX6_goes_18 ?_
      refine x_k eX6_goes_20 ?_
      obtain ⟨f39, hv, hm⟩ := xo_bind hm
      obtain ⟨hi, rfl⟩ := xo_set_some hv
      refine x_iastore (w' := WM _ _ _ _ _ _ _ _ _ _ _ _ _ _ _ _ _ _ _ _ _ _ _ _ _ _ _ _ _ _ _ _ _ _ _ _ _ _ _ _ _ _ _ _ _ _) eX6_goes_21 rfl hi rfl ?_
      refine x_aload0 eX6_goes_22 ?_
      refine x_get eX6_goes_23 fX6_41 rfl rfl ?_
      refine x_iload4 eX6_goes_26 ?_
      refine x_k eX6_goes_28 ?_
      obtain ⟨f40, hv, hm⟩ := xo_bind hm
      obtain ⟨hi, rfl⟩ := xo_set_some hv
      refine x_iastore (w' := WM _ _ _ _ _ _ _ _ _ _ _ _ _ _ _ _ _ _ _ _ _ _ _ _ _ _ _ _ _ _ _ _ _ _ _ _ _ _ _ _ _ _ _ _ _ _) eX6_goes_29 rfl hi rfl ?_
      refine x_iinc4 eX6_goes_30 rfl ?_
      refine x_goto eX6_goes_33 ?_
      exact ih hm
set_option maxRecDepth 4000 in
theorem t_X6_goes {o : Int32 × (Nat → Int32) × (Nat → Int32)} {p1 : Int32} {p2 : Int32} (hm : sp_X6_goes p1 p2 m_n m_lasts m_parents m_kinds m_numbers m_yes m_no = some o) : xt_M yX6_goes cX6_goes 7 (some .int) (d + 2) [.ref 0, .int p1, .int p2] (WM m_thrown m_textCount m_rule m_taped m_n m_minds m_lasts m_cutNow m_year m_ofNode m_ofDepth m_ofKids m_ofTwigs m_ofLast m_ofYear m_from m_size m_here m_token m_tokenAt m_open m_bad m_fault m_nKept m_mindsKept m_lastsKept m_cutKept m_yearKept m_ruleKept m_tokenWorth m_texts m_textSize m_tape m_parents m_kinds m_numbers m_odds m_yes m_no m_prices m_numbersKept m_oddsKept m_isThere m_sorts m_sheetSize m_items) (xt_Ki o.1 (WM m_thrown m_textCount m_rule m_taped m_n m_minds m_lasts m_cutNow m_year m_ofNode m_ofDepth m_ofKids m_ofTwigs m_ofLast m_ofYear m_from m_size m_here m_token m_tokenAt m_open m_bad m_fault m_nKept m_mindsKept m_lastsKept m_cutKept m_yearKept m_ruleKept m_tokenWorth m_texts m_textSize m_tape m_parents m_kinds m_numbers m_odds o.2.1 o.2.2 m_prices m_numbersKept m_oddsKept m_isThere m_sorts m_sheetSize m_items)) := by
  unfold sp_X6_goes at hm
  refine xt_M.go (own := RX6) (lv := [some (.ref 0), some (.int p1), some (.int p2), none, none, none, none]) rfl rfl (Nat.le_of_ble_eq_true rfl) rfl ?_
  refine x_k eX6_goes_0 ?_
  refine x_istore3 eX6_goes_1 rfl ?_
  refine x_k eX6_goes_2 ?_
  refine x_istore4 eX6_goes_3 rfl ?_
  exact l_X6_goes_5 _ hm
set_option maxRecDepth 4000 in
theorem t_X6_lawOf {o : Int32 × (Nat → Int32) × (Nat → Int32)} {p1 : Int32} {p2 : Int32} (hm : sp_X6_lawOf p1 p2 m_n m_lasts m_parents m_kinds m_numbers m_yes m_no = some o) : xt_M yX6_lawOf cX6_lawOf 3 (some .int) (d + 3) [.ref 0, .int p1, .int p2] (WM m_thrown m_textCount m_rule m_taped m_n m_minds m_lasts m_cutNow m_year m_ofNode m_ofDepth m_ofKids m_ofTwigs m_ofLast m_ofYear m_from m_size m_here m_token m_tokenAt m_open m_bad m_fault m_nKept m_mindsKept m_lastsKept m_cutKept m_yearKept m_ruleKept m_tokenWorth m_texts m_textSize m_tape m_parents m_kinds m_numbers m_odds m_yes m_no m_prices m_numbersKept m_oddsKept m_isThere m_sorts m_sheetSize m_items) (xt_Ki o.1 (WM m_thrown m_textCount m_rule m_taped m_n m_minds m_lasts m_cutNow m_year m_ofNode m_ofDepth m_ofKids m_ofTwigs m_ofLast m_ofYear m_from m_size m_here m_token m_tokenAt m_open m_bad m_fault m_nKept m_mindsKept m_lastsKept m_cutKept m_yearKept m_ruleKept m_tokenWorth m_texts m_textSize m_tape m_parents m_kinds m_numbers m_odds o.2.1 o.2.2 m_prices m_numbersKept m_oddsKept m_isThere m_sorts m_sheetSize m_items)) := by
  unfold sp_X6_lawOf at hm
  refine xt_M.go (own := RX6) (lv := [some (.ref 0), some (.int p1), some (.int p2)]) rfl rfl (Nat.le_of_ble_eq_true rfl) rfl ?_
  refine x_aload0 eX6_lawOf_0 ?_
  refine x_aload0 eX6_lawOf_1 ?_
  refine x_iload1 eX6_lawOf_2 ?_
  obtain ⟨r1, hr, hm⟩ := xo_bind hm
  refine x_Vi1 eX6_lawOf_3 kX6_standing mX6_98 (t_X6_standing hr) rfl (Nat.le_of_ble_eq_true rfl) ?_
  refine x_iload2 eX6_lawOf_6 ?_
  obtain ⟨r2, hr, hm⟩ := xo_bind hm
  refine x_Vi2 eX6_lawOf_7 kX6_goes mX6_101 (t_X6_goes hr) rfl (Nat.le_of_ble_eq_true rfl) ?_
  refine x_k eX6_lawOf_10 ?_
  refine x_iand eX6_lawOf_11 ?_
  obtain rfl := Option.some.inj hm
  exact x_iret eX6_lawOf_12 ⟨rfl, rfl⟩
set_option maxRecDepth 4000 in
theorem t_X6_law {o : Int32 × (Nat → Int32) × (Nat → Int32)}  (hm : sp_X6_law m_n m_minds m_lasts m_cutNow m_parents m_kinds m_numbers m_yes m_no = some o) : xt_M yX6_law cX6_law 1 (some .int) (d + 4) [.ref 0] (WM m_thrown m_textCount m_rule m_taped m_n m_minds m_lasts m_cutNow m_year m_ofNode m_ofDepth m_ofKids m_ofTwigs m_ofLast m_ofYear m_from m_size m_here m_token m_tokenAt m_open m_bad m_fault m_nKept m_mindsKept m_lastsKept m_cutKept m_yearKept m_ruleKept m_tokenWorth m_texts m_textSize m_tape m_parents m_kinds m_numbers m_odds m_yes m_no m_prices m_numbersKept m_oddsKept m_isThere m_sorts m_sheetSize m_items) (xt_Ki o.1 (WM m_thrown m_textCount m_rule m_taped m_n m_minds m_lasts m_cutNow m_year m_ofNode m_ofDepth m_ofKids m_ofTwigs m_ofLast m_ofYear m_from m_size m_here m_token m_tokenAt m_open m_bad m_fault m_nKept m_mindsKept m_lastsKept m_cutKept m_yearKept m_ruleKept m_tokenWorth m_texts m_textSize m_tape m_parents m_kinds m_numbers m_odds o.2.1 o.2.2 m_prices m_numbersKept m_oddsKept m_isThere m_sorts m_sheetSize m_items)) := by
  unfold sp_X6_law at hm
  refine xt_M.go (own := RX6) (lv := [some (.ref 0)]) rfl rfl (Nat.le_of_ble_eq_true rfl) rfl ?_
  refine x_aload0 eX6_law_0 ?_
  refine x_aload0 eX6_law_1 ?_
  refine x_get eX6_law_2 fX6_104 rfl rfl ?_
  refine x_aload0 eX6_law_5 ?_
  refine x_get eX6_law_6 fX6_107 rfl rfl ?_
  obtain ⟨r1, hr, hm⟩ := xo_bind hm
  refine x_Vi2 eX6_law_9 kX6_lawOf mX6_110 (t_X6_lawOf hr) rfl (Nat.le_of_ble_eq_true rfl) ?_
  obtain rfl := Option.some.inj hm
  exact x_iret eX6_law_12 ⟨rfl, rfl⟩
set_option maxRecDepth 4000 in
theorem t_X6_in {o : Int32} {p1 : Int64} {p2 : Int64} {p3 : Int64} (hm : sp_X6_in p1 p2 p3 = o) : xt_M yX6_in cX6_in 6 (some .boolean) (d + 0) [.long p1, .long p2, .long p3] (WM m_thrown m_textCount m_rule m_taped m_n m_minds m_lasts m_cutNow m_year m_ofNode m_ofDepth m_ofKids m_ofTwigs m_ofLast m_ofYear m_from m_size m_here m_token m_tokenAt m_open m_bad m_fault m_nKept m_mindsKept m_lastsKept m_cutKept m_yearKept m_ruleKept m_tokenWorth m_texts m_textSize m_tape m_parents m_kinds m_numbers m_odds m_yes m_no m_prices m_numbersKept m_oddsKept m_isThere m_sorts m_sheetSize m_items) (xt_Ki o (WM m_thrown m_textCount m_rule m_taped m_n m_minds m_lasts m_cutNow m_year m_ofNode m_ofDepth m_ofKids m_ofTwigs m_ofLast m_ofYear m_from m_size m_here m_token m_tokenAt m_open m_bad m_fault m_nKept m_mindsKept m_lastsKept m_cutKept m_yearKept m_ruleKept m_tokenWorth m_texts m_textSize m_tape m_parents m_kinds m_numbers m_odds m_yes m_no m_prices m_numbersKept m_oddsKept m_isThere m_sorts m_sheetSize m_items)) := by
  unfold sp_X6_in at hm
  refine xt_M.go (own := RX6) (lv := [some (.long p1), none, some (.long p2), none, some (.long p3), none]) rfl rfl (Nat.le_of_ble_eq_true rfl) rfl ?_
  refine x_lload0 eX6_in_0 ?_
  refine x_lload2 eX6_in_1 ?_
  refine x_lcmp eX6_in_2 ?_
  refine x_if_lt eX6_in_3 (fun c => ?_) (fun c => ?_)
  · rw [if_pos c] at hm
    refine x_k eX6_in_17 ?_
    subst hm
    exact x_zret eX6_in_18 (by decide) ⟨rfl, rfl⟩
  · rw [if_neg c] at hm
    refine x_lload0 eX6_in_6 ?_
    refine x_lload4 eX6_in_7 ?_
    refine x_lcmp eX6_in_9 ?_
    refine x_if_gt eX6_in_10 (fun c => ?_) (fun c => ?_)
    · rw [if_pos c] at hm
      refine x_k eX6_in_17 ?_
      subst hm
      exact x_zret eX6_in_18 (by decide) ⟨rfl, rfl⟩
    · rw [if_neg c] at hm
      refine x_k eX6_in_13 ?_
      refine x_goto eX6_in_14 ?_
      subst hm
      exact x_zret eX6_in_18 (by decide) ⟨rfl, rfl⟩
set_option maxRecDepth 4000 in
theorem t_X6_isNode {o : Int32} {p1 : Int32} (hm : sp_X6_isNode p1 m_n = some o) : xt_M yX6_isNode cX6_isNode 2 (some .boolean) (d + 1) [.ref 0, .int p1] (WM m_thrown m_textCount m_rule m_taped m_n m_minds m_lasts m_cutNow m_year m_ofNode m_ofDepth m_ofKids m_ofTwigs m_ofLast m_ofYear m_from m_size m_here m_token m_tokenAt m_open m_bad m_fault m_nKept m_mindsKept m_lastsKept m_cutKept m_yearKept m_ruleKept m_tokenWorth m_texts m_textSize m_tape m_parents m_kinds m_numbers m_odds m_yes m_no m_prices m_numbersKept m_oddsKept m_isThere m_sorts m_sheetSize m_items) (xt_Ki o (WM m_thrown m_textCount m_rule m_taped m_n m_minds m_lasts m_cutNow m_year m_ofNode m_ofDepth m_ofKids m_ofTwigs m_ofLast m_ofYear m_from m_size m_here m_token m_tokenAt m_open m_bad m_fault m_nKept m_mindsKept m_lastsKept m_cutKept m_yearKept m_ruleKept m_tokenWorth m_texts m_textSize m_tape m_parents m_kinds m_numbers m_odds m_yes m_no m_prices m_numbersKept m_oddsKept m_isThere m_sorts m_sheetSize m_items)) := by
  unfold sp_X6_isNode at hm
  refine xt_M.go (own := RX6) (lv := [some (.ref 0), some (.int p1)]) rfl rfl (Nat.le_of_ble_eq_true rfl) rfl ?_
  refine x_iload1 eX6_isNode_0 ?_
  refine x_i2l eX6_isNode_1 ?_
  refine x_lk eX6_isNode_2 ?_
  refine x_aload0 eX6_isNode_3 ?_
  refine x_get eX6_isNode_4 fX6_23 rfl rfl ?_
  refine x_k eX6_isNode_7 ?_
  refine x_isub eX6_isNode_8 ?_
  refine x_i2l eX6_isNode_9 ?_
  refine x_Si3 eX6_isNode_10 kX6_in mX6_76 (t_X6_in rfl) (Nat.le_of_ble_eq_true rfl) ?_
  obtain ⟨hz, hm⟩ := xo_ifn hm
  obtain rfl := Option.some.inj hm
  exact x_zret eX6_isNode_13 (Decidable.not_not.mp hz) ⟨rfl, rfl⟩
set_option maxRecDepth 4000 in
theorem t_X6_grow {o : Int32 × Int32 × Int32 × Int32 × Int32 × (Nat → Int32) × (Nat → Int32) × (Nat → Int32) × (Nat → Int32)} {p1 : Int32} {p2 : Int32} {p3 : Int32} (hm : sp_X6_grow p1 p2 p3 m_n m_minds m_lasts m_cutNow m_parents m_kinds m_numbers m_odds = some o) : xt_M yX6_grow cX6_grow 4 (some .int) (d + 2) [.ref 0, .int p1, .int p2, .int p3] (WM m_thrown m_textCount m_rule m_taped m_n m_minds m_lasts m_cutNow m_year m_ofNode m_ofDepth m_ofKids m_ofTwigs m_ofLast m_ofYear m_from m_size m_here m_token m_tokenAt m_open m_bad m_fault m_nKept m_mindsKept m_lastsKept m_cutKept m_yearKept m_ruleKept m_tokenWorth m_texts m_textSize m_tape m_parents m_kinds m_numbers m_odds m_yes m_no m_prices m_numbersKept m_oddsKept m_isThere m_sorts m_sheetSize m_items) (xt_Ki o.1 (WM m_thrown m_textCount m_rule m_taped o.2.1 o.2.2.1 o.2.2.2.1 o.2.2.2.2.1 m_year m_ofNode m_ofDepth m_ofKids m_ofTwigs m_ofLast m_ofYear m_from m_size m_here m_token m_tokenAt m_open m_bad m_fault m_nKept m_mindsKept m_lastsKept m_cutKept m_yearKept m_ruleKept m_tokenWorth m_texts m_textSize m_tape o.2.2.2.2.2.1 o.2.2.2.2.2.2.1 o.2.2.2.2.2.2.2.1 o.2.2.2.2.2.2.2.2 m_yes m_no m_prices m_numbersKept m_oddsKept m_isThere m_sorts m_sheetSize m_items)) := by
  unfold sp_X6_grow at hm
  refine xt_M.go (own := RX6) (lv := [some (.ref 0), some (.int p1), some (.int p2), some (.int p3)]) rfl rfl (Nat.le_of_ble_eq_true rfl) rfl ?_
  refine x_aload0 eX6_grow_0 ?_
  refine x_iload1 eX6_grow_1 ?_
  obtain ⟨r1, hr, hm⟩ := xo_bind hm
  refine x_Vi1 eX6_grow_2 kX6_isNode mX6_113 (t_X6_isNode hr) rfl (Nat.le_of_ble_eq_true rfl) ?_
  refine x_if_eq eX6_grow_5 (fun c => ?_) (fun c => ?_)
  · rw [if_pos c] at hm
    refine x_k eX6_grow_40 ?_
    obtain rfl := Option.some.inj hm
    exact x_iret eX6_grow_42 ⟨rfl, rfl⟩
  · rw [if_neg c] at hm
    refine x_iload2 eX6_grow_8 ?_
    refine x_i2l eX6_grow_9 ?_
    refine x_lk eX6_grow_10 ?_
    refine x_ldc2 eX6_grow_11 cX6_117 ?_
    refine x_Si3 eX6_grow_14 kX6_in mX6_76 (t_X6_in rfl) (Nat.le_of_ble_eq_true rfl) ?_
    refine x_if_eq eX6_grow_17 (fun c => ?_) (fun c => ?_)
    · rw [if_pos c] at hm
      refine x_k eX6_grow_40 ?_
      obtain rfl := Option.some.inj hm
      exact x_iret eX6_grow_42 ⟨rfl, rfl⟩
    · rw [if_neg c] at hm
      refine x_iload3 eX6_grow_20 ?_
      refine x_i2l eX6_grow_21 ?_
      refine x_lk eX6_grow_22 ?_
      refine x_ldc2 eX6_grow_23 cX6_119 ?_
      refine x_Si3 eX6_grow_26 kX6_in mX6_76 (t_X6_in rfl) (Nat.le_of_ble_eq_true rfl) ?_
      refine x_if_eq eX6_grow_29 (fun c => ?_) (fun c => ?_)
      · rw [if_pos c] at hm
        refine x_k eX6_grow_40 ?_
        obtain rfl := Option.some.inj hm
        exact x_iret eX6_grow_42 ⟨rfl, rfl⟩
      · rw [if_neg c] at hm
        refine x_iload3 eX6_grow_32 ?_
        refine x_k eX6_grow_33 ?_
        refine x_irem eX6_grow_35 (by decide) ?_
        refine x_k eX6_grow_36 ?_
        refine x_icmp_le eX6_grow_37 (fun c => ?_) (fun c => ?_)
        · rw [if_pos c] at hm
          refine x_aload0 eX6_grow_43 ?_
          refine x_aload0 eX6_grow_44 ?_
          refine x_get eX6_grow_45 fX6_104 rfl rfl ?_
          obtain ⟨r2, hr, hm⟩ := xo_bind hm
          refine x_Vi1 eX6_grow_48 kX6_standing mX6_98 (t_X6_standing hr) rfl (Nat.le_of_ble_eq_true rfl) ?_
          refine x_iload1 eX6_grow_51 ?_
          refine x_ishr eX6_grow_52 ?_
          refine x_k eX6_grow_53 ?_
          refine x_iand eX6_grow_54 ?_
          refine x_if_ne eX6_grow_55 (fun c => ?_) (fun c => ?_)
          · rw [if_neg c] at hm
            refine x_aload0 eX6_grow_61 ?_
            refine x_get eX6_grow_62 fX6_23 rfl rfl ?_
            refine x_k eX6_grow_65 ?_
            refine x_icmp_ne eX6_grow_67 (fun c => ?_) (fun c => ?_)
            · rw [if_neg c] at hm
              refine x_aload0 eX6_grow_73 ?_
              refine x_get eX6_grow_74 fX6_26 rfl rfl ?_
              refine x_aload0 eX6_grow_77 ?_
              refine x_get eX6_grow_78 fX6_23 rfl rfl ?_
              refine x_iload1 eX6_grow_81 ?_
              obtain ⟨f3, hv, hm⟩ := xo_bind hm
              obtain ⟨hi, rfl⟩ := xo_set_some hv
              refine x_iastore (w' := WM _ _ _ _ _ _ _ _ _ _ _ _ _ _ _ _ _ _ _ _ _ _ _ _ _ _ _ _ _ _ _ _ _ _ _ _ _ _ _ _ _ _ _ _ _ _) eX6_grow_82 rfl hi rfl ?_
              refine x_aload0 eX6_grow_83 ?_
              refine x_get eX6_grow_84 fX6_29 rfl rfl ?_
              refine x_aload0 eX6_grow_87 ?_
              refine x_get eX6_grow_88 fX6_23 rfl rfl ?_
              refine x_iload2 eX6_grow_91 ?_
              obtain ⟨f4, hv, hm⟩ := xo_bind hm
              obtain ⟨hi, rfl⟩ := xo_set_some hv
              refine x_iastore (w' := WM _ _ _ _ _ _ _ _ _ _ _ _ _ _ _ _ _ _ _ _ _ _ _ _ _ _ _ _ _ _ _ _ _ _ _ _ _ _ _ _ _ _ _ _ _ _) eX6_grow_92 rfl hi rfl ?_
              refine x_aload0 eX6_grow_93 ?_
              refine x_get eX6_grow_94 fX6_32 rfl rfl ?_
              refine x_aload0 eX6_grow_97 ?_
              refine x_get eX6_grow_98 fX6_23 rfl rfl ?_
              refine x_iload3 eX6_grow_101 ?_
              refine x_k eX6_grow_102 ?_
              refine x_idiv eX6_grow_104 (by decide) ?_
              obtain ⟨f5, hv, hm⟩ := xo_bind hm
              obtain ⟨hi, rfl⟩ := xo_set_some hv
              refine x_iastore (w' := WM _ _ _ _ _ _ _ _ _ _ _ _ _ _ _ _ _ _ _ _ _ _ _ _ _ _ _ _ _ _ _ _ _ _ _ _ _ _ _ _ _ _ _ _ _ _) eX6_grow_105 rfl hi rfl ?_
              refine x_aload0 eX6_grow_106 ?_
              refine x_get eX6_grow_107 fX6_35 rfl rfl ?_
              refine x_aload0 eX6_grow_110 ?_
              refine x_get eX6_grow_111 fX6_23 rfl rfl ?_
              refine x_k eX6_grow_114 ?_
              obtain ⟨f6, hv, hm⟩ := xo_bind hm
              obtain ⟨hi, rfl⟩ := xo_set_some hv
              refine x_iastore (w' := WM _ _ _ _ _ _ _ _ _ _ _ _ _ _ _ _ _ _ _ _ _ _ _ _ _ _ _ _ _ _ _ _ _ _ _ _ _ _ _ _ _ _ _ _ _ _) eX6_grow_116 rfl hi rfl ?_
              refine x_aload0 eX6_grow_117 ?_
              refine x_aload0 eX6_grow_118 ?_
              refine x_get eX6_grow_119 fX6_107 rfl rfl ?_
              refine x_k eX6_grow_122 ?_
              refine x_aload0 eX6_grow_123 ?_
              refine x_get eX6_grow_124 fX6_23 rfl rfl ?_
              refine x_ishl eX6_grow_127 ?_
              refine x_k eX6_grow_128 ?_
              refine x_ixor eX6_grow_129 ?_
              refine x_iand eX6_grow_130 ?_
              refine x_iload3 eX6_grow_131 ?_
              refine x_k eX6_grow_132 ?_
              refine x_irem eX6_grow_134 (by decide) ?_
              refine x_aload0 eX6_grow_135 ?_
              refine x_get eX6_grow_136 fX6_23 rfl rfl ?_
              refine x_ishl eX6_grow_139 ?_
              refine x_ior eX6_grow_140 ?_
              refine x_puti (w' := WM _ _ _ _ _ _ _ _ _ _ _ _ _ _ _ _ _ _ _ _ _ _ _ _ _ _ _ _ _ _ _ _ _ _ _ _ _ _ _ _ _ _ _ _ _ _) eX6_grow_141 pX6_107 rfl (Nat.le_of_ble_eq_true rfl) rfl ?_
              refine x_aload0 eX6_grow_144 ?_
              refine x_dup eX6_grow_145 rfl ?_
              refine x_get eX6_grow_146 fX6_88 rfl rfl ?_
              refine x_k eX6_grow_149 ?_
              refine x_aload0 eX6_grow_150 ?_
              refine x_get eX6_grow_151 fX6_23 rfl rfl ?_
              refine x_ishl eX6_grow_154 ?_
              refine x_k eX6_grow_155 ?_
              refine x_ixor eX6_grow_156 ?_
              refine x_iand eX6_grow_157 ?_
              refine x_puti (w' := WM _ _ _ _ _ _ _ _ _ _ _ _ _ _ _ _ _ _ _ _ _ _ _ _ _ _ _ _ _ _ _ _ _ _ _ _ _ _ _ _ _ _ _ _ _ _) eX6_grow_158 pX6_88 rfl (Nat.le_of_ble_eq_true rfl) rfl ?_
              refine x_aload0 eX6_grow_161 ?_
              refine x_dup eX6_grow_162 rfl ?_
              refine x_get eX6_grow_163 fX6_104 rfl rfl ?_
              refine x_k eX6_grow_166 ?_
              refine x_aload0 eX6_grow_167 ?_
              refine x_get eX6_grow_168 fX6_23 rfl rfl ?_
              refine x_ishl eX6_grow_171 ?_
              refine x_k eX6_grow_172 ?_
              refine x_ixor eX6_grow_173 ?_
              refine x_iand eX6_grow_174 ?_
              refine x_puti (w' := WM _ _ _ _ _ _ _ _ _ _ _ _ _ _ _ _ _ _ _ _ _ _ _ _ _ _ _ _ _ _ _ _ _ _ _ _ _ _ _ _ _ _ _ _ _ _) eX6_grow_175 pX6_104 rfl (Nat.le_of_ble_eq_true rfl) rfl ?_
              refine x_aload0 eX6_grow_178 ?_
              refine x_dup eX6_grow_179 rfl ?_
              refine x_get eX6_grow_180 fX6_23 rfl rfl ?_
              refine x_k eX6_grow_183 ?_
              refine x_iadd eX6_grow_184 ?_
              refine x_puti (w' := WM _ _ _ _ _ _ _ _ _ _ _ _ _ _ _ _ _ _ _ _ _ _ _ _ _ _ _ _ _ _ _ _ _ _ _ _ _ _ _ _ _ _ _ _ _ _) eX6_grow_185 pX6_23 rfl (Nat.le_of_ble_eq_true rfl) rfl ?_
              refine x_aload0 eX6_grow_188 ?_
              refine x_get eX6_grow_189 fX6_23 rfl rfl ?_
              refine x_k eX6_grow_192 ?_
              refine x_isub eX6_grow_193 ?_
              obtain rfl := Option.some.inj hm
              exact x_iret eX6_grow_194 ⟨rfl, rfl⟩
            · rw [if_pos c] at hm
              refine x_k eX6_grow_70 ?_
              obtain rfl := Option.some.inj hm
              exact x_iret eX6_grow_72 ⟨rfl, rfl⟩
          · rw [if_pos c] at hm
            refine x_k eX6_grow_58 ?_
            obtain rfl := Option.some.inj hm
            exact x_iret eX6_grow_60 ⟨rfl, rfl⟩
        · rw [if_neg c] at hm
          refine x_k eX6_grow_40 ?_
          obtain rfl := Option.some.inj hm
          exact x_iret eX6_grow_42 ⟨rfl, rfl⟩
set_option maxRecDepth 4000 in
theorem l_X6_set_135 {o : Int32 × Int32 × Int32 × Int32 × (Nat → Int32) × (Nat → Int32)} {u1 : Int32} {u2 : Int32} {u3 : Int32} {u4 : Int32} {m_minds : Int32} {m_lasts : Int32} {m_year : Int32} {m_numbers : Nat → Int32} {m_odds : Nat → Int32} (hm : sp_X6_set_135 u1 u2 u3 u4 m_minds m_lasts m_year m_numbers m_odds = some o) : xt_T RX6 cX6_set 5 (some .int) (d + 2) (xt_Ki o.1 (WM m_thrown m_textCount m_rule m_taped m_n o.2.1 o.2.2.1 m_cutNow o.2.2.2.1 m_ofNode m_ofDepth m_ofKids m_ofTwigs m_ofLast m_ofYear m_from m_size m_here m_token m_tokenAt m_open m_bad m_fault m_nKept m_mindsKept m_lastsKept m_cutKept m_yearKept m_ruleKept m_tokenWorth m_texts m_textSize m_tape m_parents m_kinds o.2.2.2.2.1 o.2.2.2.2.2 m_yes m_no m_prices m_numbersKept m_oddsKept m_isThere m_sorts m_sheetSize m_items)) 135 [some (.ref 0), some (.int u1), some (.int u2), some (.int u3), some (.int u4)] [] (WM m_thrown m_textCount m_rule m_taped m_n m_minds m_lasts m_cutNow m_year m_ofNode m_ofDepth m_ofKids m_ofTwigs m_ofLast m_ofYear m_from m_size m_here m_token m_tokenAt m_open m_bad m_fault m_nKept m_mindsKept m_lastsKept m_cutKept m_yearKept m_ruleKept m_tokenWorth m_texts m_textSize m_tape m_parents m_kinds m_numbers m_odds m_yes m_no m_prices m_numbersKept m_oddsKept m_isThere m_sorts m_sheetSize m_items) := by
    unfold sp_X6_set_135 at hm
    refine x_iload1 eX6_set_135 ?_
    refine x_if_ne eX6_set_136 (fun c => ?_) (fun c => ?_)
    · rw [if_neg c] at hm
      refine x_iload1 eX6_set_149 ?_
      refine x_k eX6_set_150 ?_
      refine x_icmp_ne eX6_set_151 (fun c => ?_) (fun c => ?_)
      · rw [if_neg c] at hm
        refine x_iload1 eX6_set_175 ?_
        refine x_k eX6_set_176 ?_
        refine x_icmp_ne eX6_set_177 (fun c => ?_) (fun c => ?_)
        · rw [if_neg c] at hm
          refine x_iload1 eX6_set_190 ?_
          refine x_k eX6_set_191 ?_
          refine x_icmp_ne eX6_set_192 (fun c => ?_) (fun c => ?_)
          · rw [if_neg c] at hm
            refine x_aload0 eX6_set_216 ?_
            refine x_iload3 eX6_set_217 ?_
            refine x_puti (w' := WM _ _ _ _ _ _ _ _ _ _ _ _ _ _ _ _ _ _ _ _ _ _ _ _ _ _ _ _ _ _ _ _ _ _ _ _ _ _ _ _ _ _ _ _ _ _) eX6_set_218 pX6_129 rfl (Nat.le_of_ble_eq_true rfl) rfl ?_
            refine x_iload4 eX6_set_221 ?_
            obtain rfl := Option.some.inj hm
            exact x_iret eX6_set_223 ⟨rfl, rfl⟩
          · rw [if_pos c] at hm
            refine x_aload0 eX6_set_195 ?_
            refine x_aload0 eX6_set_196 ?_
            refine x_get eX6_set_197 fX6_88 rfl rfl ?_
            refine x_k eX6_set_200 ?_
            refine x_iload2 eX6_set_201 ?_
            refine x_ishl eX6_set_202 ?_
            refine x_k eX6_set_203 ?_
            refine x_ixor eX6_set_204 ?_
            refine x_iand eX6_set_205 ?_
            refine x_iload3 eX6_set_206 ?_
            refine x_iload2 eX6_set_207 ?_
            refine x_ishl eX6_set_208 ?_
            refine x_ior eX6_set_209 ?_
            refine x_puti (w' := WM _ _ _ _ _ _ _ _ _ _ _ _ _ _ _ _ _ _ _ _ _ _ _ _ _ _ _ _ _ _ _ _ _ _ _ _ _ _ _ _ _ _ _ _ _ _) eX6_set_210 pX6_88 rfl (Nat.le_of_ble_eq_true rfl) rfl ?_
            refine x_goto eX6_set_213 ?_
            refine x_iload4 eX6_set_221 ?_
            obtain rfl := Option.some.inj hm
            exact x_iret eX6_set_223 ⟨rfl, rfl⟩
        · rw [if_pos c] at hm
          refine x_aload0 eX6_set_180 ?_
          refine x_get eX6_set_181 fX6_35 rfl rfl ?_
          refine x_iload2 eX6_set_184 ?_
          refine x_iload3 eX6_set_185 ?_
          obtain ⟨f1, hv, hm⟩ := xo_bind hm
          obtain ⟨hi, rfl⟩ := xo_set_some hv
          refine x_iastore (w' := WM _ _ _ _ _ _ _ _ _ _ _ _ _ _ _ _ _ _ _ _ _ _ _ _ _ _ _ _ _ _ _ _ _ _ _ _ _ _ _ _ _ _ _ _ _ _) eX6_set_186 rfl hi rfl ?_
          refine x_goto eX6_set_187 ?_
          refine x_iload4 eX6_set_221 ?_
          obtain rfl := Option.some.inj hm
          exact x_iret eX6_set_223 ⟨rfl, rfl⟩
      · rw [if_pos c] at hm
        refine x_aload0 eX6_set_154 ?_
        refine x_aload0 eX6_set_155 ?_
        refine x_get eX6_set_156 fX6_107 rfl rfl ?_
        refine x_k eX6_set_159 ?_
        refine x_iload2 eX6_set_160 ?_
        refine x_ishl eX6_set_161 ?_
        refine x_k eX6_set_162 ?_
        refine x_ixor eX6_set_163 ?_
        refine x_iand eX6_set_164 ?_
        refine x_iload3 eX6_set_165 ?_
        refine x_iload2 eX6_set_166 ?_
        refine x_ishl eX6_set_167 ?_
        refine x_ior eX6_set_168 ?_
        refine x_puti (w' := WM _ _ _ _ _ _ _ _ _ _ _ _ _ _ _ _ _ _ _ _ _ _ _ _ _ _ _ _ _ _ _ _ _ _ _ _ _ _ _ _ _ _ _ _ _ _) eX6_set_169 pX6_107 rfl (Nat.le_of_ble_eq_true rfl) rfl ?_
        refine x_goto eX6_set_172 ?_
        refine x_iload4 eX6_set_221 ?_
        obtain rfl := Option.some.inj hm
        exact x_iret eX6_set_223 ⟨rfl, rfl⟩
    · rw [if_pos c] at hm
      refine x_aload0 eX6_set_139 ?_
      refine x_get eX6_set_140 fX6_32 rfl rfl ?_
      refine x_iload2 eX6_set_143 ?_
      refine x_iload3 eX6_set_144 ?_
      obtain ⟨f2, hv, hm⟩ := xo_bind hm
      obtain ⟨hi, rfl⟩ := xo_set_some hv
      refine x_iastore (w' := WM _ _ _ _ _ _ _ _ _ _ _ _ _ _ _ _ _ _ _ _ _ _ _ _ _ _ _ _ _ _ _ _ _ _ _ _ _ _ _ _ _ _ _ _ _ _) eX6_set_145 rfl hi rfl ?_
      refine x_goto eX6_set_146 ?_
      refine x_iload4 eX6_set_221 ?_
      obtain rfl := Option.some.inj hm
      exact x_iret eX6_set_223 ⟨rfl, rfl⟩
set_option maxRecDepth 4000 in
theorem l_X6_set_70 {o : Int32 × Int32 × Int32 × Int32 × (Nat → Int32) × (Nat → Int32)} {u1 : Int32} {u2 : Int32} {u3 : Int32} {m_minds : Int32} {m_lasts : Int32} {m_year : Int32} {m_numbers : Nat → Int32} {m_odds : Nat → Int32} (hm : sp_X6_set_70 u1 u2 u3 m_minds m_lasts m_year m_numbers m_odds = some o) : xt_T RX6 cX6_set 5 (some .int) (d + 2) (xt_Ki o.1 (WM m_thrown m_textCount m_rule m_taped m_n o.2.1 o.2.2.1 m_cutNow o.2.2.2.1 m_ofNode m_ofDepth m_ofKids m_ofTwigs m_ofLast m_ofYear m_from m_size m_here m_token m_tokenAt m_open m_bad m_fault m_nKept m_mindsKept m_lastsKept m_cutKept m_yearKept m_ruleKept m_tokenWorth m_texts m_textSize m_tape m_parents m_kinds o.2.2.2.2.1 o.2.2.2.2.2 m_yes m_no m_prices m_numbersKept m_oddsKept m_isThere m_sorts m_sheetSize m_items)) 70 [some (.ref 0), some (.int u1), some (.int u2), some (.int u3), none] [] (WM m_thrown m_textCount m_rule m_taped m_n m_minds m_lasts m_cutNow m_year m_ofNode m_ofDepth m_ofKids m_ofTwigs m_ofLast m_ofYear m_from m_size m_here m_token m_tokenAt m_open m_bad m_fault m_nKept m_mindsKept m_lastsKept m_cutKept m_yearKept m_ruleKept m_tokenWorth m_texts m_textSize m_tape m_parents m_kinds m_numbers m_odds m_yes m_no m_prices m_numbersKept m_oddsKept m_isThere m_sorts m_sheetSize m_items) := by
    unfold sp_X6_set_70 at hm
    refine x_iload1 eX6_set_70 ?_
    refine x_if_ne eX6_set_71 (fun c => ?_) (fun c => ?_)
    · rw [if_neg c] at hm
      refine x_iload1 eX6_set_83 ?_
      refine x_k eX6_set_84 ?_
      refine x_icmp_ne eX6_set_85 (fun c => ?_) (fun c => ?_)
      · rw [if_neg c] at hm
        refine x_iload1 eX6_set_99 ?_
        refine x_k eX6_set_100 ?_
        refine x_icmp_ne eX6_set_101 (fun c => ?_) (fun c => ?_)
        · rw [if_neg c] at hm
          refine x_iload1 eX6_set_113 ?_
          refine x_k eX6_set_114 ?_
          refine x_icmp_ne eX6_set_115 (fun c => ?_) (fun c => ?_)
          · rw [if_neg c] at hm
            refine x_aload0 eX6_set_129 ?_
            refine x_get eX6_set_130 fX6_129 rfl rfl ?_
            refine x_istore4 eX6_set_133 rfl ?_
            exact l_X6_set_135 hm
          · rw [if_pos c] at hm
            refine x_aload0 eX6_set_118 ?_
            refine x_get eX6_set_119 fX6_88 rfl rfl ?_
            refine x_iload2 eX6_set_122 ?_
            refine x_ishr eX6_set_123 ?_
            refine x_k eX6_set_124 ?_
            refine x_iand eX6_set_125 ?_
            refine x_goto eX6_set_126 ?_
            refine x_istore4 eX6_set_133 rfl ?_
            exact l_X6_set_135 hm
        · rw [if_pos c] at hm
          refine x_aload0 eX6_set_104 ?_
          refine x_get eX6_set_105 fX6_35 rfl rfl ?_
          refine x_iload2 eX6_set_108 ?_
          obtain ⟨v3, hv, hm⟩ := xo_bind hm
          obtain ⟨hi, rfl⟩ := xo_at_some hv
          refine x_iaload eX6_set_109 rfl hi ?_
          refine x_goto eX6_set_110 ?_
          refine x_istore4 eX6_set_133 rfl ?_
          exact l_X6_set_135 hm
      · rw [if_pos c] at hm
        refine x_aload0 eX6_set_88 ?_
        refine x_get eX6_set_89 fX6_107 rfl rfl ?_
        refine x_iload2 eX6_set_92 ?_
        refine x_ishr eX6_set_93 ?_
        refine x_k eX6_set_94 ?_
        refine x_iand eX6_set_95 ?_
        refine x_goto eX6_set_96 ?_
        refine x_istore4 eX6_set_133 rfl ?_
        exact l_X6_set_135 hm
    · rw [if_pos c] at hm
      refine x_aload0 eX6_set_74 ?_
      refine x_get eX6_set_75 fX6_32 rfl rfl ?_
      refine x_iload2 eX6_set_78 ?_
      obtain ⟨v4, hv, hm⟩ := xo_bind hm
      obtain ⟨hi, rfl⟩ := xo_at_some hv
      refine x_iaload eX6_set_79 rfl hi ?_
      refine x_goto eX6_set_80 ?_
      refine x_istore4 eX6_set_133 rfl ?_
      exact l_X6_set_135 hm
set_option maxRecDepth 4000 in
theorem l_X6_set_61 {o : Int32 × Int32 × Int32 × Int32 × (Nat → Int32) × (Nat → Int32)} {u1 : Int32} {u2 : Int32} {u3 : Int32} {s0 : Int64} {s1 : Int64} {s2 : Int64} {m_minds : Int32} {m_lasts : Int32} {m_year : Int32} {m_numbers : Nat → Int32} {m_odds : Nat → Int32} (hm : sp_X6_set_61 u1 u2 u3 s0 s1 s2 m_minds m_lasts m_year m_numbers m_odds = some o) : xt_T RX6 cX6_set 5 (some .int) (d + 2) (xt_Ki o.1 (WM m_thrown m_textCount m_rule m_taped m_n o.2.1 o.2.2.1 m_cutNow o.2.2.2.1 m_ofNode m_ofDepth m_ofKids m_ofTwigs m_ofLast m_ofYear m_from m_size m_here m_token m_tokenAt m_open m_bad m_fault m_nKept m_mindsKept m_lastsKept m_cutKept m_yearKept m_ruleKept m_tokenWorth m_texts m_textSize m_tape m_parents m_kinds o.2.2.2.2.1 o.2.2.2.2.2 m_yes m_no m_prices m_numbersKept m_oddsKept m_isThere m_sorts m_sheetSize m_items)) 61 [some (.ref 0), some (.int u1), some (.int u2), some (.int u3), none] [.long s2, .long s1, .long s0] (WM m_thrown m_textCount m_rule m_taped m_n m_minds m_lasts m_cutNow m_year m_ofNode m_ofDepth m_ofKids m_ofTwigs m_ofLast m_ofYear m_from m_size m_here m_token m_tokenAt m_open m_bad m_fault m_nKept m_mindsKept m_lastsKept m_cutKept m_yearKept m_ruleKept m_tokenWorth m_texts m_textSize m_tape m_parents m_kinds m_numbers m_odds m_yes m_no m_prices m_numbersKept m_oddsKept m_isThere m_sorts m_sheetSize m_items) := by
    unfold sp_X6_set_61 at hm
    refine x_Si3 eX6_set_61 kX6_in mX6_76 (t_X6_in rfl) (Nat.le_of_ble_eq_true rfl) ?_
    refine x_if_ne eX6_set_64 (fun c => ?_) (fun c => ?_)
    · rw [if_neg c] at hm
      exact l_X6_set_70 hm
    · rw [if_pos c] at hm
      refine x_k eX6_set_67 ?_
      obtain rfl := Option.some.inj hm
      exact x_iret eX6_set_69 ⟨rfl, rfl⟩
set_option maxRecDepth 4000 in
theorem l_X6_set_25 {o : Int32 × Int32 × Int32 × Int32 × (Nat → Int32) × (Nat → Int32)} {u1 : Int32} {u2 : Int32} {u3 : Int32} {m_minds : Int32} {m_lasts : Int32} {m_year : Int32} {m_numbers : Nat → Int32} {m_odds : Nat → Int32} (hm : sp_X6_set_25 u1 u2 u3 m_minds m_lasts m_year m_numbers m_odds = some o) : xt_T RX6 cX6_set 5 (some .int) (d + 2) (xt_Ki o.1 (WM m_thrown m_textCount m_rule m_taped m_n o.2.1 o.2.2.1 m_cutNow o.2.2.2.1 m_ofNode m_ofDepth m_ofKids m_ofTwigs m_ofLast m_ofYear m_from m_size m_here m_token m_tokenAt m_open m_bad m_fault m_nKept m_mindsKept m_lastsKept m_cutKept m_yearKept m_ruleKept m_tokenWorth m_texts m_textSize m_tape m_parents m_kinds o.2.2.2.2.1 o.2.2.2.2.2 m_yes m_no m_prices m_numbersKept m_oddsKept m_isThere m_sorts m_sheetSize m_items)) 25 [some (.ref 0), some (.int u1), some (.int u2), some (.int u3), none] [] (WM m_thrown m_textCount m_rule m_taped m_n m_minds m_lasts m_cutNow m_year m_ofNode m_ofDepth m_ofKids m_ofTwigs m_ofLast m_ofYear m_from m_size m_here m_token m_tokenAt m_open m_bad m_fault m_nKept m_mindsKept m_lastsKept m_cutKept m_yearKept m_ruleKept m_tokenWorth m_texts m_textSize m_tape m_parents m_kinds m_numbers m_odds m_yes m_no m_prices m_numbersKept m_oddsKept m_isThere m_sorts m_sheetSize m_items) := by
    unfold sp_X6_set_25 at hm
    refine x_iload3 eX6_set_25 ?_
    refine x_i2l eX6_set_26 ?_
    refine x_lk eX6_set_27 ?_
    refine x_iload1 eX6_set_28 ?_
    refine x_if_ne eX6_set_29 (fun c => ?_) (fun c => ?_)
    · rw [if_neg c] at hm
      refine x_iload1 eX6_set_38 ?_
      refine x_k eX6_set_39 ?_
      refine x_icmp_ne eX6_set_40 (fun c => ?_) (fun c => ?_)
      · rw [if_neg c] at hm
        refine x_iload1 eX6_set_49 ?_
        refine x_k eX6_set_50 ?_
        refine x_icmp_ne eX6_set_51 (fun c => ?_) (fun c => ?_)
        · rw [if_neg c] at hm
          refine x_lk eX6_set_60 ?_
          exact l_X6_set_61 hm
        · rw [if_pos c] at hm
          refine x_ldc2 eX6_set_54 cX6_127 ?_
          refine x_goto eX6_set_57 ?_
          exact l_X6_set_61 hm
      · rw [if_pos c] at hm
        refine x_ldc2 eX6_set_43 cX6_125 ?_
        refine x_goto eX6_set_46 ?_
        exact l_X6_set_61 hm
    · rw [if_pos c] at hm
      refine x_ldc2 eX6_set_32 cX6_123 ?_
      refine x_goto eX6_set_35 ?_
      exact l_X6_set_61 hm
set_option maxRecDepth 4000 in
theorem t_X6_set {o : Int32 × Int32 × Int32 × Int32 × (Nat → Int32) × (Nat → Int32)} {p1 : Int32} {p2 : Int32} {p3 : Int32} (hm : sp_X6_set p1 p2 p3 m_n m_minds m_lasts m_year m_numbers m_odds = some o) : xt_M yX6_set cX6_set 5 (some .int) (d + 2) [.ref 0, .int p1, .int p2, .int p3] (WM m_thrown m_textCount m_rule m_taped m_n m_minds m_lasts m_cutNow m_year m_ofNode m_ofDepth m_ofKids m_ofTwigs m_ofLast m_ofYear m_from m_size m_here m_token m_tokenAt m_open m_bad m_fault m_nKept m_mindsKept m_lastsKept m_cutKept m_yearKept m_ruleKept m_tokenWorth m_texts m_textSize m_tape m_parents m_kinds m_numbers m_odds m_yes m_no m_prices m_numbersKept m_oddsKept m_isThere m_sorts m_sheetSize m_items) (xt_Ki o.1 (WM m_thrown m_textCount m_rule m_taped m_n o.2.1 o.2.2.1 m_cutNow o.2.2.2.1 m_ofNode m_ofDepth m_ofKids m_ofTwigs m_ofLast m_ofYear m_from m_size m_here m_token m_tokenAt m_open m_bad m_fault m_nKept m_mindsKept m_lastsKept m_cutKept m_yearKept m_ruleKept m_tokenWorth m_texts m_textSize m_tape m_parents m_kinds o.2.2.2.2.1 o.2.2.2.2.2 m_yes m_no m_prices m_numbersKept m_oddsKept m_isThere m_sorts m_sheetSize m_items)) := by
  unfold sp_X6_set at hm
  refine xt_M.go (own := RX6) (lv := [some (.ref 0), some (.int p1), some (.int p2), some (.int p3), none]) rfl rfl (Nat.le_of_ble_eq_true rfl) rfl ?_
  refine x_iload1 eX6_set_0 ?_
  refine x_i2l eX6_set_1 ?_
  refine x_lk eX6_set_2 ?_
  refine x_ldc2 eX6_set_3 cX6_121 ?_
  refine x_Si3 eX6_set_6 kX6_in mX6_76 (t_X6_in rfl) (Nat.le_of_ble_eq_true rfl) ?_
  refine x_if_eq eX6_set_9 (fun c => ?_) (fun c => ?_)
  · rw [if_pos c] at hm
    refine x_k eX6_set_67 ?_
    obtain rfl := Option.some.inj hm
    exact x_iret eX6_set_69 ⟨rfl, rfl⟩
  · rw [if_neg c] at hm
    refine x_iload1 eX6_set_12 ?_
    refine x_k eX6_set_13 ?_
    refine x_icmp_ge eX6_set_14 (fun c => ?_) (fun c => ?_)
    · rw [if_pos c] at hm
      exact l_X6_set_25 hm
    · rw [if_neg c] at hm
      refine x_aload0 eX6_set_17 ?_
      refine x_iload2 eX6_set_18 ?_
      obtain ⟨r5, hr, hm⟩ := xo_bind hm
      refine x_Vi1 eX6_set_19 kX6_isNode mX6_113 (t_X6_isNode hr) rfl (Nat.le_of_ble_eq_true rfl) ?_
      refine x_if_eq eX6_set_22 (fun c => ?_) (fun c => ?_)
      · rw [if_pos c] at hm
        refine x_k eX6_set_67 ?_
        obtain rfl := Option.some.inj hm
        exact x_iret eX6_set_69 ⟨rfl, rfl⟩
      · rw [if_neg c] at hm
        exact l_X6_set_25 hm
set_option maxRecDepth 4000 in
theorem t_X6_told {o : Int32 × (Nat → Int32) × (Nat → Int32)} {p1 : Int32} {p2 : Int32} (hm : sp_X6_told p1 p2 m_n m_minds m_lasts m_cutNow m_parents m_kinds m_numbers m_odds m_yes m_no = some o) : xt_M yX6_told cX6_told 5 (some .int) (d + 3) [.ref 0, .int p1, .int p2] (WM m_thrown m_textCount m_rule m_taped m_n m_minds m_lasts m_cutNow m_year m_ofNode m_ofDepth m_ofKids m_ofTwigs m_ofLast m_ofYear m_from m_size m_here m_token m_tokenAt m_open m_bad m_fault m_nKept m_mindsKept m_lastsKept m_cutKept m_yearKept m_ruleKept m_tokenWorth m_texts m_textSize m_tape m_parents m_kinds m_numbers m_odds m_yes m_no m_prices m_numbersKept m_oddsKept m_isThere m_sorts m_sheetSize m_items) (xt_Ki o.1 (WM m_thrown m_textCount m_rule m_taped m_n m_minds m_lasts m_cutNow m_year m_ofNode m_ofDepth m_ofKids m_ofTwigs m_ofLast m_ofYear m_from m_size m_here m_token m_tokenAt m_open m_bad m_fault m_nKept m_mindsKept m_lastsKept m_cutKept m_yearKept m_ruleKept m_tokenWorth m_texts m_textSize m_tape m_parents m_kinds m_numbers m_odds o.2.1 o.2.2 m_prices m_numbersKept m_oddsKept m_isThere m_sorts m_sheetSize m_items)) := by
  unfold sp_X6_told at hm
  refine xt_M.go (own := RX6) (lv := [some (.ref 0), some (.int p1), some (.int p2), none, none]) rfl rfl (Nat.le_of_ble_eq_true rfl) rfl ?_
  refine x_aload0 eX6_told_0 ?_
  refine x_iload1 eX6_told_1 ?_
  obtain ⟨r1, hr, hm⟩ := xo_bind hm
  refine x_Vi1 eX6_told_2 kX6_isNode mX6_113 (t_X6_isNode hr) rfl (Nat.le_of_ble_eq_true rfl) ?_
  refine x_if_eq eX6_told_5 (fun c => ?_) (fun c => ?_)
  · rw [if_pos c] at hm
    refine x_k eX6_told_20 ?_
    obtain rfl := Option.some.inj hm
    exact x_iret eX6_told_22 ⟨rfl, rfl⟩
  · rw [if_neg c] at hm
    refine x_iload2 eX6_told_8 ?_
    refine x_i2l eX6_told_9 ?_
    refine x_lk eX6_told_10 ?_
    refine x_ldc2 eX6_told_11 cX6_123 ?_
    refine x_Si3 eX6_told_14 kX6_in mX6_76 (t_X6_in rfl) (Nat.le_of_ble_eq_true rfl) ?_
    refine x_if_ne eX6_told_17 (fun c => ?_) (fun c => ?_)
    · rw [if_neg c] at hm
      refine x_iload2 eX6_told_23 ?_
      refine x_k eX6_told_24 ?_
      refine x_icmp_ge eX6_told_25 (fun c => ?_) (fun c => ?_)
      · rw [if_pos c] at hm
        refine x_iload2 eX6_told_64 ?_
        refine x_k eX6_told_65 ?_
        refine x_icmp_ge eX6_told_67 (fun c => ?_) (fun c => ?_)
        · rw [if_pos c] at hm
          refine x_aload0 eX6_told_107 ?_
          refine x_aload0 eX6_told_108 ?_
          refine x_get eX6_told_109 fX6_104 rfl rfl ?_
          obtain ⟨r2, hr, hm⟩ := xo_bind hm
          refine x_Vi1 eX6_told_112 kX6_standing mX6_98 (t_X6_standing hr) rfl (Nat.le_of_ble_eq_true rfl) ?_
          refine x_istore3 eX6_told_115 rfl ?_
          refine x_iload3 eX6_told_116 ?_
          refine x_iload1 eX6_told_117 ?_
          refine x_ishr eX6_told_118 ?_
          refine x_k eX6_told_119 ?_
          refine x_iand eX6_told_120 ?_
          refine x_k eX6_told_121 ?_
          refine x_icmp_ne eX6_told_122 (fun c => ?_) (fun c => ?_)
          · rw [if_neg c] at hm
            refine x_k eX6_told_129 ?_
            refine x_istore4 eX6_told_130 rfl ?_
            refine x_iload2 eX6_told_132 ?_
            refine x_k eX6_told_133 ?_
            refine x_icmp_ge eX6_told_135 (fun c => ?_) (fun c => ?_)
            · rw [if_pos c] at hm
              refine x_iload2 eX6_told_167 ?_
              refine x_k eX6_told_168 ?_
              refine x_icmp_ne eX6_told_170 (fun c => ?_) (fun c => ?_)
              · rw [if_neg c] at hm
                refine x_iload4 eX6_told_196 ?_
                refine x_if_eq eX6_told_198 (fun c => ?_) (fun c => ?_)
                · rw [if_pos c] at hm
                  refine x_k eX6_told_215 ?_
                  obtain rfl := Option.some.inj hm
                  exact x_iret eX6_told_216 ⟨rfl, rfl⟩
                · rw [if_neg c] at hm
                  refine x_aload0 eX6_told_201 ?_
                  refine x_iload1 eX6_told_202 ?_
                  refine x_aload0 eX6_told_203 ?_
                  refine x_iload1 eX6_told_204 ?_
                  refine x_iload3 eX6_told_205 ?_
                  obtain ⟨r3, hr, hm⟩ := xo_bind hm
                  refine x_Vi2 eX6_told_206 kX6_kidsOf mX6_80 (t_X6_kidsOf hr) rfl (Nat.le_of_ble_eq_true rfl) ?_
                  obtain ⟨r4, hr, hm⟩ := xo_bind hm
                  refine x_Vi2 eX6_told_209 kX6_weighs mX6_95 (t_X6_weighs hr) rfl (Nat.le_of_ble_eq_true rfl) ?_
                  refine x_goto eX6_told_212 ?_
                  obtain rfl := Option.some.inj hm
                  exact x_iret eX6_told_216 ⟨rfl, rfl⟩
              · rw [if_pos c] at hm
                refine x_iload4 eX6_told_173 ?_
                refine x_if_eq eX6_told_175 (fun c => ?_) (fun c => ?_)
                · rw [if_pos c] at hm
                  refine x_k eX6_told_194 ?_
                  obtain rfl := Option.some.inj hm
                  exact x_iret eX6_told_195 ⟨rfl, rfl⟩
                · rw [if_neg c] at hm
                  refine x_aload0 eX6_told_178 ?_
                  refine x_iload3 eX6_told_179 ?_
                  refine x_aload0 eX6_told_180 ?_
                  refine x_get eX6_told_181 fX6_107 rfl rfl ?_
                  obtain ⟨r5, hr, hm⟩ := xo_bind hm
                  refine x_Vi2 eX6_told_184 kX6_goes mX6_101 (t_X6_goes hr) rfl (Nat.le_of_ble_eq_true rfl) ?_
                  refine x_iload1 eX6_told_187 ?_
                  refine x_ishr eX6_told_188 ?_
                  refine x_k eX6_told_189 ?_
                  refine x_iand eX6_told_190 ?_
                  refine x_goto eX6_told_191 ?_
                  obtain rfl := Option.some.inj hm
                  exact x_iret eX6_told_195 ⟨rfl, rfl⟩
            · rw [if_neg c] at hm
              refine x_iload2 eX6_told_138 ?_
              refine x_k eX6_told_139 ?_
              refine x_icmp_ne eX6_told_141 (fun c => ?_) (fun c => ?_)
              · rw [if_neg c] at hm
                refine x_aload0 eX6_told_152 ?_
                refine x_iload1 eX6_told_153 ?_
                refine x_iload3 eX6_told_154 ?_
                obtain ⟨r6, hr, hm⟩ := xo_bind hm
                refine x_Vi2 eX6_told_155 kX6_isTwig mX6_84 (t_X6_isTwig hr) rfl (Nat.le_of_ble_eq_true rfl) ?_
                refine x_if_eq eX6_told_158 (fun c => ?_) (fun c => ?_)
                · rw [if_pos c] at hm
                  refine x_k eX6_told_165 ?_
                  obtain rfl := Option.some.inj hm
                  exact x_iret eX6_told_166 ⟨rfl, rfl⟩
                · rw [if_neg c] at hm
                  refine x_k eX6_told_161 ?_
                  refine x_goto eX6_told_162 ?_
                  obtain rfl := Option.some.inj hm
                  exact x_iret eX6_told_166 ⟨rfl, rfl⟩
              · rw [if_pos c] at hm
                refine x_iload4 eX6_told_144 ?_
                refine x_if_eq eX6_told_146 (fun c => ?_) (fun c => ?_)
                · rw [if_pos c] at hm
                  refine x_k eX6_told_165 ?_
                  obtain rfl := Option.some.inj hm
                  exact x_iret eX6_told_166 ⟨rfl, rfl⟩
                · rw [if_neg c] at hm
                  refine x_goto eX6_told_149 ?_
                  refine x_k eX6_told_161 ?_
                  refine x_goto eX6_told_162 ?_
                  obtain rfl := Option.some.inj hm
                  exact x_iret eX6_told_166 ⟨rfl, rfl⟩
          · rw [if_pos c] at hm
            refine x_k eX6_told_125 ?_
            refine x_goto eX6_told_126 ?_
            refine x_istore4 eX6_told_130 rfl ?_
            refine x_iload2 eX6_told_132 ?_
            refine x_k eX6_told_133 ?_
            refine x_icmp_ge eX6_told_135 (fun c => ?_) (fun c => ?_)
            · rw [if_pos c] at hm
              refine x_iload2 eX6_told_167 ?_
              refine x_k eX6_told_168 ?_
              refine x_icmp_ne eX6_told_170 (fun c => ?_) (fun c => ?_)
              · rw [if_neg c] at hm
                refine x_iload4 eX6_told_196 ?_
                refine x_if_eq eX6_told_198 (fun c => ?_) (fun c => ?_)
                · rw [if_pos c] at hm
                  refine x_k eX6_told_215 ?_
                  obtain rfl := Option.some.inj hm
                  exact x_iret eX6_told_216 ⟨rfl, rfl⟩
                · rw [if_neg c] at hm
                  refine x_aload0 eX6_told_201 ?_
                  refine x_iload1 eX6_told_202 ?_
                  refine x_aload0 eX6_told_203 ?_
                  refine x_iload1 eX6_told_204 ?_
                  refine x_iload3 eX6_told_205 ?_
                  obtain ⟨r7, hr, hm⟩ := xo_bind hm
                  refine x_Vi2 eX6_told_206 kX6_kidsOf mX6_80 (t_X6_kidsOf hr) rfl (Nat.le_of_ble_eq_true rfl) ?_
                  obtain ⟨r8, hr, hm⟩ := xo_bind hm
                  refine x_Vi2 eX6_told_209 kX6_weighs mX6_95 (t_X6_weighs hr) rfl (Nat.le_of_ble_eq_true rfl) ?_
                  refine x_goto eX6_told_212 ?_
                  obtain rfl := Option.some.inj hm
                  exact x_iret eX6_told_216 ⟨rfl, rfl⟩
              · rw [if_pos c] at hm
                refine x_iload4 eX6_told_173 ?_
                refine x_if_eq eX6_told_175 (fun c => ?_) (fun c => ?_)
                · rw [if_pos c] at hm
                  refine x_k eX6_told_194 ?_
                  obtain rfl := Option.some.inj hm
                  exact x_iret eX6_told_195 ⟨rfl, rfl⟩
                · rw [if_neg c] at hm
                  refine x_aload0 eX6_told_178 ?_
                  refine x_iload3 eX6_told_179 ?_
                  refine x_aload0 eX6_told_180 ?_
                  refine x_get eX6_told_181 fX6_107 rfl rfl ?_
                  obtain ⟨r9, hr, hm⟩ := xo_bind hm
                  refine x_Vi2 eX6_told_184 kX6_goes mX6_101 (t_X6_goes hr) rfl (Nat.le_of_ble_eq_true rfl) ?_
                  refine x_iload1 eX6_told_187 ?_
                  refine x_ishr eX6_told_188 ?_
                  refine x_k eX6_told_189 ?_
                  refine x_iand eX6_told_190 ?_
                  refine x_goto eX6_told_191 ?_
                  obtain rfl := Option.some.inj hm
                  exact x_iret eX6_told_195 ⟨rfl, rfl⟩
            · rw [if_neg c] at hm
              refine x_iload2 eX6_told_138 ?_
              refine x_k eX6_told_139 ?_
              refine x_icmp_ne eX6_told_141 (fun c => ?_) (fun c => ?_)
              · rw [if_neg c] at hm
                refine x_aload0 eX6_told_152 ?_
                refine x_iload1 eX6_told_153 ?_
                refine x_iload3 eX6_told_154 ?_
                obtain ⟨r10, hr, hm⟩ := xo_bind hm
                refine x_Vi2 eX6_told_155 kX6_isTwig mX6_84 (t_X6_isTwig hr) rfl (Nat.le_of_ble_eq_true rfl) ?_
                refine x_if_eq eX6_told_158 (fun c => ?_) (fun c => ?_)
                · rw [if_pos c] at hm
                  refine x_k eX6_told_165 ?_
                  obtain rfl := Option.some.inj hm
                  exact x_iret eX6_told_166 ⟨rfl, rfl⟩
                · rw [if_neg c] at hm
                  refine x_k eX6_told_161 ?_
                  refine x_goto eX6_told_162 ?_
                  obtain rfl := Option.some.inj hm
                  exact x_iret eX6_told_166 ⟨rfl, rfl⟩
              · rw [if_pos c] at hm
                refine x_iload4 eX6_told_144 ?_
                refine x_if_eq eX6_told_146 (fun c => ?_) (fun c => ?_)
                · rw [if_pos c] at hm
                  refine x_k eX6_told_165 ?_
                  obtain rfl := Option.some.inj hm
                  exact x_iret eX6_told_166 ⟨rfl, rfl⟩
                · rw [if_neg c] at hm
                  refine x_goto eX6_told_149 ?_
                  refine x_k eX6_told_161 ?_
                  refine x_goto eX6_told_162 ?_
                  obtain rfl := Option.some.inj hm
                  exact x_iret eX6_told_166 ⟨rfl, rfl⟩
        · rw [if_neg c] at hm
          refine x_iload2 eX6_told_70 ?_
          refine x_k eX6_told_71 ?_
          refine x_icmp_ne eX6_told_72 (fun c => ?_) (fun c => ?_)
          · rw [if_neg c] at hm
            refine x_iload2 eX6_told_84 ?_
            refine x_k eX6_told_85 ?_
            refine x_icmp_ne eX6_told_86 (fun c => ?_) (fun c => ?_)
            · rw [if_neg c] at hm
              refine x_aload0 eX6_told_100 ?_
              refine x_get eX6_told_101 fX6_26 rfl rfl ?_
              refine x_iload1 eX6_told_104 ?_
              obtain ⟨v11, hv, hm⟩ := xo_bind hm
              obtain ⟨hi, rfl⟩ := xo_at_some hv
              refine x_iaload eX6_told_105 rfl hi ?_
              obtain rfl := Option.some.inj hm
              exact x_iret eX6_told_106 ⟨rfl, rfl⟩
            · rw [if_pos c] at hm
              refine x_aload0 eX6_told_89 ?_
              refine x_get eX6_told_90 fX6_88 rfl rfl ?_
              refine x_iload1 eX6_told_93 ?_
              refine x_ishr eX6_told_94 ?_
              refine x_k eX6_told_95 ?_
              refine x_iand eX6_told_96 ?_
              refine x_goto eX6_told_97 ?_
              obtain rfl := Option.some.inj hm
              exact x_iret eX6_told_106 ⟨rfl, rfl⟩
          · rw [if_pos c] at hm
            refine x_aload0 eX6_told_75 ?_
            refine x_get eX6_told_76 fX6_35 rfl rfl ?_
            refine x_iload1 eX6_told_79 ?_
            obtain ⟨v12, hv, hm⟩ := xo_bind hm
            obtain ⟨hi, rfl⟩ := xo_at_some hv
            refine x_iaload eX6_told_80 rfl hi ?_
            refine x_goto eX6_told_81 ?_
            obtain rfl := Option.some.inj hm
            exact x_iret eX6_told_106 ⟨rfl, rfl⟩
      · rw [if_neg c] at hm
        refine x_iload2 eX6_told_28 ?_
        refine x_if_ne eX6_told_29 (fun c => ?_) (fun c => ?_)
        · rw [if_neg c] at hm
          refine x_iload2 eX6_told_41 ?_
          refine x_k eX6_told_42 ?_
          refine x_icmp_ne eX6_told_43 (fun c => ?_) (fun c => ?_)
          · rw [if_neg c] at hm
            refine x_aload0 eX6_told_55 ?_
            refine x_get eX6_told_56 fX6_107 rfl rfl ?_
            refine x_iload1 eX6_told_59 ?_
            refine x_ishr eX6_told_60 ?_
            refine x_k eX6_told_61 ?_
            refine x_iand eX6_told_62 ?_
            obtain rfl := Option.some.inj hm
            exact x_iret eX6_told_63 ⟨rfl, rfl⟩
          · rw [if_pos c] at hm
            refine x_aload0 eX6_told_46 ?_
            refine x_get eX6_told_47 fX6_32 rfl rfl ?_
            refine x_iload1 eX6_told_50 ?_
            obtain ⟨v13, hv, hm⟩ := xo_bind hm
            obtain ⟨hi, rfl⟩ := xo_at_some hv
            refine x_iaload eX6_told_51 rfl hi ?_
            refine x_goto eX6_told_52 ?_
            obtain rfl := Option.some.inj hm
            exact x_iret eX6_told_63 ⟨rfl, rfl⟩
        · rw [if_pos c] at hm
          refine x_aload0 eX6_told_32 ?_
          refine x_get eX6_told_33 fX6_29 rfl rfl ?_
          refine x_iload1 eX6_told_36 ?_
          obtain ⟨v14, hv, hm⟩ := xo_bind hm
          obtain ⟨hi, rfl⟩ := xo_at_some hv
          refine x_iaload eX6_told_37 rfl hi ?_
          refine x_goto eX6_told_38 ?_
          obtain rfl := Option.some.inj hm
          exact x_iret eX6_told_63 ⟨rfl, rfl⟩
    · rw [if_pos c] at hm
      refine x_k eX6_told_20 ?_
      obtain rfl := Option.some.inj hm
      exact x_iret eX6_told_22 ⟨rfl, rfl⟩
set_option maxRecDepth 4000 in
theorem t_X6_feed {o : Int32 × Int32 × (Nat → Int32)} {p1 : Int32} (hm : sp_X6_feed p1 m_taped m_tape = some o) : xt_M yX6_feed cX6_feed 2 (some .int) (d + 1) [.ref 0, .int p1] (WM m_thrown m_textCount m_rule m_taped m_n m_minds m_lasts m_cutNow m_year m_ofNode m_ofDepth m_ofKids m_ofTwigs m_ofLast m_ofYear m_from m_size m_here m_token m_tokenAt m_open m_bad m_fault m_nKept m_mindsKept m_lastsKept m_cutKept m_yearKept m_ruleKept m_tokenWorth m_texts m_textSize m_tape m_parents m_kinds m_numbers m_odds m_yes m_no m_prices m_numbersKept m_oddsKept m_isThere m_sorts m_sheetSize m_items) (xt_Ki o.1 (WM m_thrown m_textCount m_rule o.2.1 m_n m_minds m_lasts m_cutNow m_year m_ofNode m_ofDepth m_ofKids m_ofTwigs m_ofLast m_ofYear m_from m_size m_here m_token m_tokenAt m_open m_bad m_fault m_nKept m_mindsKept m_lastsKept m_cutKept m_yearKept m_ruleKept m_tokenWorth m_texts m_textSize o.2.2 m_parents m_kinds m_numbers m_odds m_yes m_no m_prices m_numbersKept m_oddsKept m_isThere m_sorts m_sheetSize m_items)) := by
  unfold sp_X6_feed at hm
  refine xt_M.go (own := RX6) (lv := [some (.ref 0), some (.int p1)]) rfl rfl (Nat.le_of_ble_eq_true rfl) rfl ?_
  refine x_iload1 eX6_feed_0 ?_
  refine x_i2l eX6_feed_1 ?_
  refine x_lk eX6_feed_2 ?_
  refine x_ldc2 eX6_feed_3 cX6_132 ?_
  refine x_Si3 eX6_feed_6 kX6_in mX6_76 (t_X6_in rfl) (Nat.le_of_ble_eq_true rfl) ?_
  refine x_if_ne eX6_feed_9 (fun c => ?_) (fun c => ?_)
  · rw [if_neg c] at hm
    refine x_aload0 eX6_feed_15 ?_
    refine x_get eX6_feed_16 fX6_134 rfl rfl ?_
    refine x_k eX6_feed_19 ?_
    refine x_icmp_ne eX6_feed_22 (fun c => ?_) (fun c => ?_)
    · rw [if_neg c] at hm
      refine x_aload0 eX6_feed_28 ?_
      refine x_get eX6_feed_29 fX6_20 rfl rfl ?_
      refine x_aload0 eX6_feed_32 ?_
      refine x_get eX6_feed_33 fX6_134 rfl rfl ?_
      refine x_iload1 eX6_feed_36 ?_
      obtain ⟨f1, hv, hm⟩ := xo_bind hm
      obtain ⟨hi, rfl⟩ := xo_set_some hv
      refine x_iastore (w' := WM _ _ _ _ _ _ _ _ _ _ _ _ _ _ _ _ _ _ _ _ _ _ _ _ _ _ _ _ _ _ _ _ _ _ _ _ _ _ _ _ _ _ _ _ _ _) eX6_feed_37 rfl hi rfl ?_
      refine x_aload0 eX6_feed_38 ?_
      refine x_dup eX6_feed_39 rfl ?_
      refine x_get eX6_feed_40 fX6_134 rfl rfl ?_
      refine x_k eX6_feed_43 ?_
      refine x_iadd eX6_feed_44 ?_
      refine x_puti (w' := WM _ _ _ _ _ _ _ _ _ _ _ _ _ _ _ _ _ _ _ _ _ _ _ _ _ _ _ _ _ _ _ _ _ _ _ _ _ _ _ _ _ _ _ _ _ _) eX6_feed_45 pX6_134 rfl (Nat.le_of_ble_eq_true rfl) rfl ?_
      refine x_aload0 eX6_feed_48 ?_
      refine x_get eX6_feed_49 fX6_134 rfl rfl ?_
      obtain rfl := Option.some.inj hm
      exact x_iret eX6_feed_52 ⟨rfl, rfl⟩
    · rw [if_pos c] at hm
      refine x_k eX6_feed_25 ?_
      obtain rfl := Option.some.inj hm
      exact x_iret eX6_feed_27 ⟨rfl, rfl⟩
  · rw [if_pos c] at hm
    refine x_k eX6_feed_12 ?_
    obtain rfl := Option.some.inj hm
    exact x_iret eX6_feed_14 ⟨rfl, rfl⟩
set_option maxRecDepth 4000 in
theorem t_X6_force {o : Int32 × Int32} {p1 : Int32} (hm : sp_X6_force p1 m_textCount m_rule = o) : xt_M yX6_force cX6_force 3 (some .int) (d + 1) [.ref 0, .int p1] (WM m_thrown m_textCount m_rule m_taped m_n m_minds m_lasts m_cutNow m_year m_ofNode m_ofDepth m_ofKids m_ofTwigs m_ofLast m_ofYear m_from m_size m_here m_token m_tokenAt m_open m_bad m_fault m_nKept m_mindsKept m_lastsKept m_cutKept m_yearKept m_ruleKept m_tokenWorth m_texts m_textSize m_tape m_parents m_kinds m_numbers m_odds m_yes m_no m_prices m_numbersKept m_oddsKept m_isThere m_sorts m_sheetSize m_items) (xt_Ki o.1 (WM m_thrown m_textCount o.2 m_taped m_n m_minds m_lasts m_cutNow m_year m_ofNode m_ofDepth m_ofKids m_ofTwigs m_ofLast m_ofYear m_from m_size m_here m_token m_tokenAt m_open m_bad m_fault m_nKept m_mindsKept m_lastsKept m_cutKept m_yearKept m_ruleKept m_tokenWorth m_texts m_textSize m_tape m_parents m_kinds m_numbers m_odds m_yes m_no m_prices m_numbersKept m_oddsKept m_isThere m_sorts m_sheetSize m_items)) := by
  unfold sp_X6_force at hm
  refine xt_M.go (own := RX6) (lv := [some (.ref 0), some (.int p1), none]) rfl rfl (Nat.le_of_ble_eq_true rfl) rfl ?_
  refine x_iload1 eX6_force_0 ?_
  refine x_i2l eX6_force_1 ?_
  refine x_lk eX6_force_2 ?_
  refine x_aload0 eX6_force_3 ?_
  refine x_get eX6_force_4 fX6_73 rfl rfl ?_
  refine x_k eX6_force_7 ?_
  refine x_isub eX6_force_8 ?_
  refine x_i2l eX6_force_9 ?_
  refine x_Si3 eX6_force_10 kX6_in mX6_76 (t_X6_in rfl) (Nat.le_of_ble_eq_true rfl) ?_
  refine x_if_ne eX6_force_13 (fun c => ?_) (fun c => ?_)
  · rw [if_neg c] at hm
    refine x_aload0 eX6_force_19 ?_
    refine x_get eX6_force_20 fX6_250 rfl rfl ?_
    refine x_istore2 eX6_force_23 rfl ?_
    refine x_aload0 eX6_force_24 ?_
    refine x_iload1 eX6_force_25 ?_
    refine x_puti (w' := WM _ _ _ _ _ _ _ _ _ _ _ _ _ _ _ _ _ _ _ _ _ _ _ _ _ _ _ _ _ _ _ _ _ _ _ _ _ _ _ _ _ _ _ _ _ _) eX6_force_26 pX6_250 rfl (Nat.le_of_ble_eq_true rfl) rfl ?_
    refine x_iload2 eX6_force_29 ?_
    subst hm
    exact x_iret eX6_force_30 ⟨rfl, rfl⟩
  · rw [if_pos c] at hm
    refine x_k eX6_force_16 ?_
    subst hm
    exact x_iret eX6_force_18 ⟨rfl, rfl⟩
set_option maxRecDepth 4000 in
theorem t_X6_pass {o : Int32 × Int32 × Int32 × (Nat → Int32) × (Nat → Int32)}  (hm : sp_X6_pass m_n m_minds m_lasts m_cutNow m_year m_parents m_kinds m_numbers m_yes m_no = some o) : xt_M yX6_pass cX6_pass 3 (some .int) (d + 3) [.ref 0] (WM m_thrown m_textCount m_rule m_taped m_n m_minds m_lasts m_cutNow m_year m_ofNode m_ofDepth m_ofKids m_ofTwigs m_ofLast m_ofYear m_from m_size m_here m_token m_tokenAt m_open m_bad m_fault m_nKept m_mindsKept m_lastsKept m_cutKept m_yearKept m_ruleKept m_tokenWorth m_texts m_textSize m_tape m_parents m_kinds m_numbers m_odds m_yes m_no m_prices m_numbersKept m_oddsKept m_isThere m_sorts m_sheetSize m_items) (xt_Ki o.1 (WM m_thrown m_textCount m_rule m_taped m_n m_minds o.2.1 m_cutNow o.2.2.1 m_ofNode m_ofDepth m_ofKids m_ofTwigs m_ofLast m_ofYear m_from m_size m_here m_token m_tokenAt m_open m_bad m_fault m_nKept m_mindsKept m_lastsKept m_cutKept m_yearKept m_ruleKept m_tokenWorth m_texts m_textSize m_tape m_parents m_kinds m_numbers m_odds o.2.2.2.1 o.2.2.2.2 m_prices m_numbersKept m_oddsKept m_isThere m_sorts m_sheetSize m_items)) := by
  unfold sp_X6_pass at hm
  refine xt_M.go (own := RX6) (lv := [some (.ref 0), none, none]) rfl rfl (Nat.le_of_ble_eq_true rfl) rfl ?_
  refine x_aload0 eX6_pass_0 ?_
  refine x_aload0 eX6_pass_1 ?_
  refine x_get eX6_pass_2 fX6_104 rfl rfl ?_
  obtain ⟨r1, hr, hm⟩ := xo_bind hm
  refine x_Vi1 eX6_pass_5 kX6_standing mX6_98 (t_X6_standing hr) rfl (Nat.le_of_ble_eq_true rfl) ?_
  refine x_istore1 eX6_pass_8 rfl ?_
  refine x_aload0 eX6_pass_9 ?_
  refine x_iload1 eX6_pass_10 ?_
  refine x_aload0 eX6_pass_11 ?_
  refine x_get eX6_pass_12 fX6_107 rfl rfl ?_
  obtain ⟨r2, hr, hm⟩ := xo_bind hm
  refine x_Vi2 eX6_pass_15 kX6_goes mX6_101 (t_X6_goes hr) rfl (Nat.le_of_ble_eq_true rfl) ?_
  refine x_istore2 eX6_pass_18 rfl ?_
  refine x_aload0 eX6_pass_19 ?_
  refine x_aload0 eX6_pass_20 ?_
  refine x_get eX6_pass_21 fX6_88 rfl rfl ?_
  refine x_iload1 eX6_pass_24 ?_
  refine x_k eX6_pass_25 ?_
  refine x_ixor eX6_pass_26 ?_
  refine x_iand eX6_pass_27 ?_
  refine x_iload2 eX6_pass_28 ?_
  refine x_ior eX6_pass_29 ?_
  refine x_puti (w' := WM _ _ _ _ _ _ _ _ _ _ _ _ _ _ _ _ _ _ _ _ _ _ _ _ _ _ _ _ _ _ _ _ _ _ _ _ _ _ _ _ _ _ _ _ _ _) eX6_pass_30 pX6_88 rfl (Nat.le_of_ble_eq_true rfl) rfl ?_
  refine x_aload0 eX6_pass_33 ?_
  refine x_aload0 eX6_pass_34 ?_
  refine x_get eX6_pass_35 fX6_129 rfl rfl ?_
  refine x_k eX6_pass_38 ?_
  refine x_icmp_ge eX6_pass_40 (fun c => ?_) (fun c => ?_)
  · rw [if_pos c] at hm
    refine x_k eX6_pass_52 ?_
    refine x_puti (w' := WM _ _ _ _ _ _ _ _ _ _ _ _ _ _ _ _ _ _ _ _ _ _ _ _ _ _ _ _ _ _ _ _ _ _ _ _ _ _ _ _ _ _ _ _ _ _) eX6_pass_54 pX6_129 rfl (Nat.le_of_ble_eq_true rfl) rfl ?_
    refine x_iload2 eX6_pass_57 ?_
    refine x_k eX6_pass_58 ?_
    refine x_iand eX6_pass_59 ?_
    obtain rfl := Option.some.inj hm
    exact x_iret eX6_pass_60 ⟨rfl, rfl⟩
  · rw [if_neg c] at hm
    refine x_aload0 eX6_pass_43 ?_
    refine x_get eX6_pass_44 fX6_129 rfl rfl ?_
    refine x_k eX6_pass_47 ?_
    refine x_iadd eX6_pass_48 ?_
    refine x_goto eX6_pass_49 ?_
    refine x_puti (w' := WM _ _ _ _ _ _ _ _ _ _ _ _ _ _ _ _ _ _ _ _ _ _ _ _ _ _ _ _ _ _ _ _ _ _ _ _ _ _ _ _ _ _ _ _ _ _) eX6_pass_54 pX6_129 rfl (Nat.le_of_ble_eq_true rfl) rfl ?_
    refine x_iload2 eX6_pass_57 ?_
    refine x_k eX6_pass_58 ?_
    refine x_iand eX6_pass_59 ?_
    obtain rfl := Option.some.inj hm
    exact x_iret eX6_pass_60 ⟨rfl, rfl⟩
set_option maxRecDepth 4000 in
theorem l_X6_bitsOf_4 {o : Int32} {u0 : Int32} : ∀ (n : Nat) {u1 : Int32} {u2 : Int32}, sp_X6_bitsOf_4 n u1 u2 = some o → xt_T RX6 cX6_bitsOf 3 (some .int) (d + 0) (xt_Ki o (WM m_thrown m_textCount m_rule m_taped m_n m_minds m_lasts m_cutNow m_year m_ofNode m_ofDepth m_ofKids m_ofTwigs m_ofLast m_ofYear m_from m_size m_here m_token m_tokenAt m_open m_bad m_fault m_nKept m_mindsKept m_lastsKept m_cutKept m_yearKept m_ruleKept m_tokenWorth m_texts m_textSize m_tape m_parents m_kinds m_numbers m_odds m_yes m_no m_prices m_numbersKept m_oddsKept m_isThere m_sorts m_sheetSize m_items)) 4 [some (.int u0), some (.int u1), some (.int u2)] [] (WM m_thrown m_textCount m_rule m_taped m_n m_minds m_lasts m_cutNow m_year m_ofNode m_ofDepth m_ofKids m_ofTwigs m_ofLast m_ofYear m_from m_size m_here m_token m_tokenAt m_open m_bad m_fault m_nKept m_mindsKept m_lastsKept m_cutKept m_yearKept m_ruleKept m_tokenWorth m_texts m_textSize m_tape m_parents m_kinds m_numbers m_odds m_yes m_no m_prices m_numbersKept m_oddsKept m_isThere m_sorts m_sheetSize m_items) := by
  intro n
  induction n with
  | zero => intro u1 u2 hm; rw [sp_X6_bitsOf_4] at hm; cases hm
  | succ n ih =>
    intro u1 u2 hm
    rw [sp_X6_bitsOf_4] at hm
    refine x_iload2 eX6_bitsOf_4 ?_
    refine x_if_eq eX6_bitsOf_5 (fun c => ?_) (fun c => ?_)
    · rw [if_pos c] at hm
      refine x_iload1 eX6_bitsOf_20 ?_
      obtain rfl := Option.some.inj hm
      exact x_iret eX6_bitsOf_21 ⟨rfl, rfl⟩
    · rw [if_neg c] at hm
      refine x_iinc1 eX6_bitsOf_8 rfl ?_
      refine x_iload2 eX6_bitsOf_11 ?_
      refine x_iload2 eX6_bitsOf_12 ?_
      refine x_k eX6_bitsOf_13 ?_
      refine x_isub eX6_bitsOf_14 ?_
      refine x_iand eX6_bitsOf_15 ?_
      refine x_istore2 eX6_bitsOf_16 rfl ?_
      refine x_goto eX6_bitsOf_17 ?_
      exact ih hm
set_option maxRecDepth 4000 in
theorem t_X6_bitsOf {o : Int32} {p1 : Int32} (hm : sp_X6_bitsOf p1 = some o) : xt_M yX6_bitsOf cX6_bitsOf 3 (some .int) (d + 0) [.int p1] (WM m_thrown m_textCount m_rule m_taped m_n m_minds m_lasts m_cutNow m_year m_ofNode m_ofDepth m_ofKids m_ofTwigs m_ofLast m_ofYear m_from m_size m_here m_token m_tokenAt m_open m_bad m_fault m_nKept m_mindsKept m_lastsKept m_cutKept m_yearKept m_ruleKept m_tokenWorth m_texts m_textSize m_tape m_parents m_kinds m_numbers m_odds m_yes m_no m_prices m_numbersKept m_oddsKept m_isThere m_sorts m_sheetSize m_items) (xt_Ki o (WM m_thrown m_textCount m_rule m_taped m_n m_minds m_lasts m_cutNow m_year m_ofNode m_ofDepth m_ofKids m_ofTwigs m_ofLast m_ofYear m_from m_size m_here m_token m_tokenAt m_open m_bad m_fault m_nKept m_mindsKept m_lastsKept m_cutKept m_yearKept m_ruleKept m_tokenWorth m_texts m_textSize m_tape m_parents m_kinds m_numbers m_odds m_yes m_no m_prices m_numbersKept m_oddsKept m_isThere m_sorts m_sheetSize m_items)) := by
  unfold sp_X6_bitsOf at hm
  refine xt_M.go (own := RX6) (lv := [some (.int p1), none, none]) rfl rfl (Nat.le_of_ble_eq_true rfl) rfl ?_
  refine x_k eX6_bitsOf_0 ?_
  refine x_istore1 eX6_bitsOf_1 rfl ?_
  refine x_iload0 eX6_bitsOf_2 ?_
  refine x_istore2 eX6_bitsOf_3 rfl ?_
  exact l_X6_bitsOf_4 _ hm
set_option maxRecDepth 4000 in
theorem t_X6_cut {o : Int32 × Int32} {p1 : Int32} (hm : sp_X6_cut p1 m_n m_cutNow m_parents = some o) : xt_M yX6_cut cX6_cut 3 (some .int) (d + 1) [.ref 0, .int p1] (WM m_thrown m_textCount m_rule m_taped m_n m_minds m_lasts m_cutNow m_year m_ofNode m_ofDepth m_ofKids m_ofTwigs m_ofLast m_ofYear m_from m_size m_here m_token m_tokenAt m_open m_bad m_fault m_nKept m_mindsKept m_lastsKept m_cutKept m_yearKept m_ruleKept m_tokenWorth m_texts m_textSize m_tape m_parents m_kinds m_numbers m_odds m_yes m_no m_prices m_numbersKept m_oddsKept m_isThere m_sorts m_sheetSize m_items) (xt_Ki o.1 (WM m_thrown m_textCount m_rule m_taped m_n m_minds m_lasts o.2 m_year m_ofNode m_ofDepth m_ofKids m_ofTwigs m_ofLast m_ofYear m_from m_size m_here m_token m_tokenAt m_open m_bad m_fault m_nKept m_mindsKept m_lastsKept m_cutKept m_yearKept m_ruleKept m_tokenWorth m_texts m_textSize m_tape m_parents m_kinds m_numbers m_odds m_yes m_no m_prices m_numbersKept m_oddsKept m_isThere m_sorts m_sheetSize m_items)) := by
  unfold sp_X6_cut at hm
  refine xt_M.go (own := RX6) (lv := [some (.ref 0), some (.int p1), none]) rfl rfl (Nat.le_of_ble_eq_true rfl) rfl ?_
  refine x_iload1 eX6_cut_0 ?_
  refine x_i2l eX6_cut_1 ?_
  refine x_lk eX6_cut_2 ?_
  refine x_aload0 eX6_cut_3 ?_
  refine x_get eX6_cut_4 fX6_23 rfl rfl ?_
  refine x_k eX6_cut_7 ?_
  refine x_isub eX6_cut_8 ?_
  refine x_i2l eX6_cut_9 ?_
  refine x_Si3 eX6_cut_10 kX6_in mX6_76 (t_X6_in rfl) (Nat.le_of_ble_eq_true rfl) ?_
  refine x_if_ne eX6_cut_13 (fun c => ?_) (fun c => ?_)
  · rw [if_neg c] at hm
    refine x_aload0 eX6_cut_19 ?_
    refine x_aload0 eX6_cut_20 ?_
    refine x_get eX6_cut_21 fX6_104 rfl rfl ?_
    obtain ⟨r1, hr, hm⟩ := xo_bind hm
    refine x_Vi1 eX6_cut_24 kX6_standing mX6_98 (t_X6_standing hr) rfl (Nat.le_of_ble_eq_true rfl) ?_
    refine x_istore2 eX6_cut_27 rfl ?_
    refine x_iload2 eX6_cut_28 ?_
    refine x_iload1 eX6_cut_29 ?_
    refine x_ishr eX6_cut_30 ?_
    refine x_k eX6_cut_31 ?_
    refine x_iand eX6_cut_32 ?_
    refine x_if_ne eX6_cut_33 (fun c => ?_) (fun c => ?_)
    · rw [if_neg c] at hm
      refine x_aload0 eX6_cut_39 ?_
      refine x_dup eX6_cut_40 rfl ?_
      refine x_get eX6_cut_41 fX6_104 rfl rfl ?_
      refine x_k eX6_cut_44 ?_
      refine x_iload1 eX6_cut_45 ?_
      refine x_ishl eX6_cut_46 ?_
      refine x_ior eX6_cut_47 ?_
      refine x_puti (w' := WM _ _ _ _ _ _ _ _ _ _ _ _ _ _ _ _ _ _ _ _ _ _ _ _ _ _ _ _ _ _ _ _ _ _ _ _ _ _ _ _ _ _ _ _ _ _) eX6_cut_48 pX6_104 rfl (Nat.le_of_ble_eq_true rfl) rfl ?_
      refine x_iload2 eX6_cut_51 ?_
      obtain ⟨r2, hr, hm⟩ := xo_bind hm
      refine x_Si1 eX6_cut_52 kX6_bitsOf mX6_265 (t_X6_bitsOf hr) (Nat.le_of_ble_eq_true rfl) ?_
      refine x_aload0 eX6_cut_55 ?_
      refine x_aload0 eX6_cut_56 ?_
      refine x_get eX6_cut_57 fX6_104 rfl rfl ?_
      obtain ⟨r3, hr, hm⟩ := xo_bind hm
      refine x_Vi1 eX6_cut_60 kX6_standing mX6_98 (t_X6_standing hr) rfl (Nat.le_of_ble_eq_true rfl) ?_
      obtain ⟨r4, hr, hm⟩ := xo_bind hm
      refine x_Si1 eX6_cut_63 kX6_bitsOf mX6_265 (t_X6_bitsOf hr) (Nat.le_of_ble_eq_true rfl) ?_
      refine x_isub eX6_cut_66 ?_
      obtain rfl := Option.some.inj hm
      exact x_iret eX6_cut_67 ⟨rfl, rfl⟩
    · rw [if_pos c] at hm
      refine x_k eX6_cut_36 ?_
      obtain rfl := Option.some.inj hm
      exact x_iret eX6_cut_38 ⟨rfl, rfl⟩
  · rw [if_pos c] at hm
    refine x_k eX6_cut_16 ?_
    obtain rfl := Option.some.inj hm
    exact x_iret eX6_cut_18 ⟨rfl, rfl⟩
set_option maxRecDepth 4000 in
theorem t_X6_graft {o : Int32 × Int32} {p1 : Int32} (hm : sp_X6_graft p1 m_n m_cutNow m_parents = some o) : xt_M yX6_graft cX6_graft 3 (some .int) (d + 1) [.ref 0, .int p1] (WM m_thrown m_textCount m_rule m_taped m_n m_minds m_lasts m_cutNow m_year m_ofNode m_ofDepth m_ofKids m_ofTwigs m_ofLast m_ofYear m_from m_size m_here m_token m_tokenAt m_open m_bad m_fault m_nKept m_mindsKept m_lastsKept m_cutKept m_yearKept m_ruleKept m_tokenWorth m_texts m_textSize m_tape m_parents m_kinds m_numbers m_odds m_yes m_no m_prices m_numbersKept m_oddsKept m_isThere m_sorts m_sheetSize m_items) (xt_Ki o.1 (WM m_thrown m_textCount m_rule m_taped m_n m_minds m_lasts o.2 m_year m_ofNode m_ofDepth m_ofKids m_ofTwigs m_ofLast m_ofYear m_from m_size m_here m_token m_tokenAt m_open m_bad m_fault m_nKept m_mindsKept m_lastsKept m_cutKept m_yearKept m_ruleKept m_tokenWorth m_texts m_textSize m_tape m_parents m_kinds m_numbers m_odds m_yes m_no m_prices m_numbersKept m_oddsKept m_isThere m_sorts m_sheetSize m_items)) := by
  unfold sp_X6_graft at hm
  refine xt_M.go (own := RX6) (lv := [some (.ref 0), some (.int p1), none]) rfl rfl (Nat.le_of_ble_eq_true rfl) rfl ?_
  refine x_iload1 eX6_graft_0 ?_
  refine x_i2l eX6_graft_1 ?_
  refine x_lk eX6_graft_2 ?_
  refine x_aload0 eX6_graft_3 ?_
  refine x_get eX6_graft_4 fX6_23 rfl rfl ?_
  refine x_k eX6_graft_7 ?_
  refine x_isub eX6_graft_8 ?_
  refine x_i2l eX6_graft_9 ?_
  refine x_Si3 eX6_graft_10 kX6_in mX6_76 (t_X6_in rfl) (Nat.le_of_ble_eq_true rfl) ?_
  refine x_if_ne eX6_graft_13 (fun c => ?_) (fun c => ?_)
  · rw [if_neg c] at hm
    refine x_aload0 eX6_graft_19 ?_
    refine x_aload0 eX6_graft_20 ?_
    refine x_get eX6_graft_21 fX6_104 rfl rfl ?_
    obtain ⟨r1, hr, hm⟩ := xo_bind hm
    refine x_Vi1 eX6_graft_24 kX6_standing mX6_98 (t_X6_standing hr) rfl (Nat.le_of_ble_eq_true rfl) ?_
    refine x_istore2 eX6_graft_27 rfl ?_
    refine x_aload0 eX6_graft_28 ?_
    refine x_get eX6_graft_29 fX6_104 rfl rfl ?_
    refine x_iload1 eX6_graft_32 ?_
    refine x_ishr eX6_graft_33 ?_
    refine x_k eX6_graft_34 ?_
    refine x_iand eX6_graft_35 ?_
    refine x_if_eq eX6_graft_36 (fun c => ?_) (fun c => ?_)
    · rw [if_pos c] at hm
      refine x_k eX6_graft_52 ?_
      obtain rfl := Option.some.inj hm
      exact x_iret eX6_graft_54 ⟨rfl, rfl⟩
    · rw [if_neg c] at hm
      refine x_iload2 eX6_graft_39 ?_
      refine x_aload0 eX6_graft_40 ?_
      refine x_get eX6_graft_41 fX6_26 rfl rfl ?_
      refine x_iload1 eX6_graft_44 ?_
      obtain ⟨v2, hv, hm⟩ := xo_bind hm
      obtain ⟨hi, rfl⟩ := xo_at_some hv
      refine x_iaload eX6_graft_45 rfl hi ?_
      refine x_ishr eX6_graft_46 ?_
      refine x_k eX6_graft_47 ?_
      refine x_iand eX6_graft_48 ?_
      refine x_if_ne eX6_graft_49 (fun c => ?_) (fun c => ?_)
      · rw [if_neg c] at hm
        refine x_aload0 eX6_graft_55 ?_
        refine x_dup eX6_graft_56 rfl ?_
        refine x_get eX6_graft_57 fX6_104 rfl rfl ?_
        refine x_k eX6_graft_60 ?_
        refine x_iload1 eX6_graft_61 ?_
        refine x_ishl eX6_graft_62 ?_
        refine x_k eX6_graft_63 ?_
        refine x_ixor eX6_graft_64 ?_
        refine x_iand eX6_graft_65 ?_
        refine x_puti (w' := WM _ _ _ _ _ _ _ _ _ _ _ _ _ _ _ _ _ _ _ _ _ _ _ _ _ _ _ _ _ _ _ _ _ _ _ _ _ _ _ _ _ _ _ _ _ _) eX6_graft_66 pX6_104 rfl (Nat.le_of_ble_eq_true rfl) rfl ?_
        refine x_aload0 eX6_graft_69 ?_
        refine x_aload0 eX6_graft_70 ?_
        refine x_get eX6_graft_71 fX6_104 rfl rfl ?_
        obtain ⟨r3, hr, hm⟩ := xo_bind hm
        refine x_Vi1 eX6_graft_74 kX6_standing mX6_98 (t_X6_standing hr) rfl (Nat.le_of_ble_eq_true rfl) ?_
        obtain ⟨r4, hr, hm⟩ := xo_bind hm
        refine x_Si1 eX6_graft_77 kX6_bitsOf mX6_265 (t_X6_bitsOf hr) (Nat.le_of_ble_eq_true rfl) ?_
        refine x_iload2 eX6_graft_80 ?_
        obtain ⟨r5, hr, hm⟩ := xo_bind hm
        refine x_Si1 eX6_graft_81 kX6_bitsOf mX6_265 (t_X6_bitsOf hr) (Nat.le_of_ble_eq_true rfl) ?_
        refine x_isub eX6_graft_84 ?_
        obtain rfl := Option.some.inj hm
        exact x_iret eX6_graft_85 ⟨rfl, rfl⟩
      · rw [if_pos c] at hm
        refine x_k eX6_graft_52 ?_
        obtain rfl := Option.some.inj hm
        exact x_iret eX6_graft_54 ⟨rfl, rfl⟩
  · rw [if_pos c] at hm
    refine x_k eX6_graft_16 ?_
    obtain rfl := Option.some.inj hm
    exact x_iret eX6_graft_18 ⟨rfl, rfl⟩
set_option maxRecDepth 4000 in
theorem l_X6_twigs_4 {o : Int32} {u1 : Int32} {m_n : Int32} {m_parents : Nat → Int32} : ∀ (n : Nat) {u2 : Int32} {u3 : Int32}, sp_X6_twigs_4 u1 m_n m_parents n u2 u3 = some o → xt_T RX6 cX6_twigs 4 (some .int) (d + 2) (xt_Ki o (WM m_thrown m_textCount m_rule m_taped m_n m_minds m_lasts m_cutNow m_year m_ofNode m_ofDepth m_ofKids m_ofTwigs m_ofLast m_ofYear m_from m_size m_here m_token m_tokenAt m_open m_bad m_fault m_nKept m_mindsKept m_lastsKept m_cutKept m_yearKept m_ruleKept m_tokenWorth m_texts m_textSize m_tape m_parents m_kinds m_numbers m_odds m_yes m_no m_prices m_numbersKept m_oddsKept m_isThere m_sorts m_sheetSize m_items)) 4 [some (.ref 0), some (.int u1), some (.int u2), some (.int u3)] [] (WM m_thrown m_textCount m_rule m_taped m_n m_minds m_lasts m_cutNow m_year m_ofNode m_ofDepth m_ofKids m_ofTwigs m_ofLast m_ofYear m_from m_size m_here m_token m_tokenAt m_open m_bad m_fault m_nKept m_mindsKept m_lastsKept m_cutKept m_yearKept m_ruleKept m_tokenWorth m_texts m_textSize m_tape m_parents m_kinds m_numbers m_odds m_yes m_no m_prices m_numbersKept m_oddsKept m_isThere m_sorts m_sheetSize m_items) := by
  intro n
  induction n with
  | zero => intro u2 u3 hm; rw [sp_X6_twigs_4] at hm; cases hm
  | succ n ih =>
    intro u2 u3 hm
    rw [sp_X6_twigs_4] at hm
    refine x_iload3 eX6_twigs_4 ?_
    refine x_aload0 eX6_twigs_5 ?_
    refine x_get eX6_twigs_6 fX6_23 rfl rfl ?_
    refine x_icmp_ge eX6_twigs_9 (fun c => ?_) (fun c => ?_)
    · rw [if_pos c] at hm
      refine x_iload2 eX6_twigs_37 ?_
      obtain rfl := Option.some.inj hm
      exact x_iret eX6_twigs_38 ⟨rfl, rfl⟩
    · rw [if_neg c] at hm
      refine x_iload2 eX6_twigs_12 ?_
      refine x_aload0 eX6_twigs_13 ?_
      refine x_iload3 eX6_twigs_14 ?_
      refine x_iload1 eX6_twigs_15 ?_
      obtain ⟨r1, hr, hm⟩ := xo_bind hm
      refine x_Vi2 eX6_twigs_16 kX6_isTwig mX6_84 (t_X6_isTwig hr) rfl (Nat.le_of_ble_eq_true rfl) ?_
      refine x_if_eq eX6_twigs_19 (fun c => ?_) (fun c => ?_)
      · rw [if_pos c] at hm
        refine x_k eX6_twigs_26 ?_
        refine x_iload3 eX6_twigs_27 ?_
        refine x_ishl eX6_twigs_28 ?_
        refine x_ior eX6_twigs_29 ?_
        refine x_istore2 eX6_twigs_30 rfl ?_
        refine x_iinc3 eX6_twigs_31 rfl ?_
        refine x_goto eX6_twigs_34 ?_
        exact ih hm
      · rw [if_neg c] at hm
        refine x_k eX6_twigs_22 ?_
        refine x_goto eX6_twigs_23 ?_
        refine x_iload3 eX6_twigs_27 ?_
        refine x_ishl eX6_twigs_28 ?_
        refine x_ior eX6_twigs_29 ?_
        refine x_istore2 eX6_twigs_30 rfl ?_
        refine x_iinc3 eX6_twigs_31 rfl ?_
        refine x_goto eX6_twigs_34 ?_
        exact ih hm
set_option maxRecDepth 4000 in
theorem t_X6_twigs {o : Int32} {p1 : Int32} (hm : sp_X6_twigs p1 m_n m_parents = some o) : xt_M yX6_twigs cX6_twigs 4 (some .int) (d + 2) [.ref 0, .int p1] (WM m_thrown m_textCount m_rule m_taped m_n m_minds m_lasts m_cutNow m_year m_ofNode m_ofDepth m_ofKids m_ofTwigs m_ofLast m_ofYear m_from m_size m_here m_token m_tokenAt m_open m_bad m_fault m_nKept m_mindsKept m_lastsKept m_cutKept m_yearKept m_ruleKept m_tokenWorth m_texts m_textSize m_tape m_parents m_kinds m_numbers m_odds m_yes m_no m_prices m_numbersKept m_oddsKept m_isThere m_sorts m_sheetSize m_items) (xt_Ki o (WM m_thrown m_textCount m_rule m_taped m_n m_minds m_lasts m_cutNow m_year m_ofNode m_ofDepth m_ofKids m_ofTwigs m_ofLast m_ofYear m_from m_size m_here m_token m_tokenAt m_open m_bad m_fault m_nKept m_mindsKept m_lastsKept m_cutKept m_yearKept m_ruleKept m_tokenWorth m_texts m_textSize m_tape m_parents m_kinds m_numbers m_odds m_yes m_no m_prices m_numbersKept m_oddsKept m_isThere m_sorts m_sheetSize m_items)) := by
  unfold sp_X6_twigs at hm
  refine xt_M.go (own := RX6) (lv := [some (.ref 0), some (.int p1), none, none]) rfl rfl (Nat.le_of_ble_eq_true rfl) rfl ?_
  refine x_k eX6_twigs_0 ?_
  refine x_istore2 eX6_twigs_1 rfl ?_
  refine x_k eX6_twigs_2 ?_
  refine x_istore3 eX6_twigs_3 rfl ?_
  exact l_X6_twigs_4 _ hm
set_option maxRecDepth 4000 in
theorem l_X6_lopsided_34 {o : Int32 × (Nat → Int32) × (Nat → Int32)} {u1 : Int32} {u2 : Int32} {u3 : Int32} {m_n : Int32} {m_lasts : Int32} {m_parents : Nat → Int32} {m_kinds : Nat → Int32} {m_numbers : Nat → Int32} : ∀ (n : Nat) {u4 : Int32} {u5 : Int32} {m_yes : Nat → Int32} {m_no : Nat → Int32}, sp_X6_lopsided_34 u1 u2 u3 m_n m_lasts m_parents m_kinds m_numbers n u4 u5 m_yes m_no = some o → xt_T RX6 cX6_lopsided 7 (some .int) (d + 3) (xt_Ki o.1 (WM m_thrown m_textCount m_rule m_taped m_n m_minds m_lasts m_cutNow m_year m_ofNode m_ofDepth m_ofKids m_ofTwigs m_ofLast m_ofYear m_from m_size m_here m_token m_tokenAt m_open m_bad m_fault m_nKept m_mindsKept m_lastsKept m_cutKept m_yearKept m_ruleKept m_tokenWorth m_texts m_textSize m_tape m_parents m_kinds m_numbers m_odds o.2.1 o.2.2 m_prices m_numbersKept m_oddsKept m_isThere m_sorts m_sheetSize m_items)) 34 [some (.ref 0), some (.int u1), some (.int u2), some (.int u3), some (.int u4), some (.int u5), none] [] (WM m_thrown m_textCount m_rule m_taped m_n m_minds m_lasts m_cutNow m_year m_ofNode m_ofDepth m_ofKids m_ofTwigs m_ofLast m_ofYear m_from m_size m_here m_token m_tokenAt m_open m_bad m_fault m_nKept m_mindsKept m_lastsKept m_cutKept m_yearKept m_ruleKept m_tokenWorth m_texts m_textSize m_tape m_parents m_kinds m_numbers m_odds m_yes m_no m_prices m_numbersKept m_oddsKept m_isThere m_sorts m_sheetSize m_items) := by
  intro n
  induction n with
  | zero => intro u4 u5 m_yes m_no hm; rw [sp_X6_lopsided_34] at hm; cases hm
  | succ n ih =>
    intro u4 u5 m_yes m_no hm
    rw [sp_X6_lopsided_34] at hm
    refine x_iload5 eX6_lopsided_34 ?_
    refine x_k eX6_lopsided_36 ?_
    refine x_aload0 eX6_lopsided_37 ?_
    refine x_get eX6_lopsided_38 fX6_23 rfl rfl ?_
    refine x_ishl eX6_lopsided_41 ?_
    refine x_icmp_ge eX6_lopsided_42 (fun c => ?_) (fun c => ?_)
    · rw [if_pos c] at hm
      refine x_iload4 eX6_lopsided_118 ?_
      obtain rfl := Option.some.inj hm
      exact x_iret eX6_lopsided_120 ⟨rfl, rfl⟩
    · rw [if_neg c] at hm
      refine x_iload5 eX6_lopsided_45 ?_
      refine x_iload3 eX6_lopsided_47 ?_
      refine x_k eX6_lopsided_48 ?_
      refine x_ixor eX6_lopsided_49 ?_
      refine x_iand eX6_lopsided_50 ?_
      refine x_if_ne eX6_lopsided_51 (fun c => ?_) (fun c => ?_)
      · rw [if_neg c] at hm
        refine x_iinc5 eX6_lopsided_112 rfl ?_
        refine x_goto eX6_lopsided_115 ?_
        exact ih hm
      · rw [if_pos c] at hm
        refine x_aload0 eX6_lopsided_54 ?_
        refine x_iload2 eX6_lopsided_55 ?_
        refine x_iload5 eX6_lopsided_56 ?_
        obtain ⟨r3, hr, hm⟩ := xo_bind hm
        refine x_Vi2 eX6_lopsided_58 kX6_goes mX6_101 (t_X6_goes hr) rfl (Nat.le_of_ble_eq_true rfl) ?_
        refine x_k eX6_lopsided_61 ?_
        refine x_iand eX6_lopsided_62 ?_
        refine x_k eX6_lopsided_63 ?_
        refine x_iload1 eX6_lopsided_64 ?_
        refine x_isub eX6_lopsided_65 ?_
        refine x_icmp_ne eX6_lopsided_66 (fun c => ?_) (fun c => ?_)
        · rw [if_neg c] at hm
          refine x_iinc5 eX6_lopsided_112 rfl ?_
          refine x_goto eX6_lopsided_115 ?_
          exact ih hm
        · rw [if_pos c] at hm
          refine x_iload5 eX6_lopsided_69 ?_
          obtain ⟨r4, hr, hm⟩ := xo_bind hm
          refine x_Si1 eX6_lopsided_71 kX6_bitsOf mX6_265 (t_X6_bitsOf hr) (Nat.le_of_ble_eq_true rfl) ?_
          refine x_istore6 eX6_lopsided_74 rfl ?_
          refine x_iload4 eX6_lopsided_76 ?_
          refine x_k eX6_lopsided_78 ?_
          refine x_icmp_eq eX6_lopsided_79 (fun c => ?_) (fun c => ?_)
          · rw [if_pos c] at hm
            refine x_iload6 eX6_lopsided_103 ?_
            refine x_goto eX6_lopsided_105 ?_
            refine x_istore4 eX6_lopsided_110 rfl ?_
            refine x_iinc5 eX6_lopsided_112 rfl ?_
            refine x_goto eX6_lopsided_115 ?_
            exact x_weak (by simp [xt_le]) (ih hm)
          · rw [if_neg c] at hm
            refine x_iload1 eX6_lopsided_82 ?_
            refine x_if_ne eX6_lopsided_83 (fun c => ?_) (fun c => ?_)
            · rw [if_neg c] at hm
              refine x_iload6 eX6_lopsided_96 ?_
              refine x_iload4 eX6_lopsided_98 ?_
              refine x_icmp_le eX6_lopsided_100 (fun c => ?_) (fun c => ?_)
              · rw [if_pos c] at hm
                refine x_iload4 eX6_lopsided_108 ?_
                refine x_istore4 eX6_lopsided_110 rfl ?_
                refine x_iinc5 eX6_lopsided_112 rfl ?_
                refine x_goto eX6_lopsided_115 ?_
                exact x_weak (by simp [xt_le]) (ih hm)
              · rw [if_neg c] at hm
                refine x_iload6 eX6_lopsided_103 ?_
                refine x_goto eX6_lopsided_105 ?_
                refine x_istore4 eX6_lopsided_110 rfl ?_
                refine x_iinc5 eX6_lopsided_112 rfl ?_
                refine x_goto eX6_lopsided_115 ?_
                exact x_weak (by simp [xt_le]) (ih hm)
            · rw [if_pos c] at hm
              refine x_iload6 eX6_lopsided_86 ?_
              refine x_iload4 eX6_lopsided_88 ?_
              refine x_icmp_ge eX6_lopsided_90 (fun c => ?_) (fun c => ?_)
              · rw [if_pos c] at hm
                refine x_iload4 eX6_lopsided_108 ?_
                refine x_istore4 eX6_lopsided_110 rfl ?_
                refine x_iinc5 eX6_lopsided_112 rfl ?_
                refine x_goto eX6_lopsided_115 ?_
                exact x_weak (by simp [xt_le]) (ih hm)
              · rw [if_neg c] at hm
                refine x_goto eX6_lopsided_93 ?_
                refine x_iload6 eX6_lopsided_103 ?_
                refine x_goto eX6_lopsided_105 ?_
                refine x_istore4 eX6_lopsided_110 rfl ?_
                refine x_iinc5 eX6_lopsided_112 rfl ?_
                refine x_goto eX6_lopsided_115 ?_
                exact x_weak (by simp [xt_le]) (ih hm)
set_option maxRecDepth 4000 in
theorem t_X6_lopsided {o : Int32 × (Nat → Int32) × (Nat → Int32)} {p1 : Int32} (hm : sp_X6_lopsided p1 m_n m_lasts m_cutNow m_parents m_kinds m_numbers m_yes m_no = some o) : xt_M yX6_lopsided cX6_lopsided 7 (some .int) (d + 3) [.ref 0, .int p1] (WM m_thrown m_textCount m_rule m_taped m_n m_minds m_lasts m_cutNow m_year m_ofNode m_ofDepth m_ofKids m_ofTwigs m_ofLast m_ofYear m_from m_size m_here m_token m_tokenAt m_open m_bad m_fault m_nKept m_mindsKept m_lastsKept m_cutKept m_yearKept m_ruleKept m_tokenWorth m_texts m_textSize m_tape m_parents m_kinds m_numbers m_odds m_yes m_no m_prices m_numbersKept m_oddsKept m_isThere m_sorts m_sheetSize m_items) (xt_Ki o.1 (WM m_thrown m_textCount m_rule m_taped m_n m_minds m_lasts m_cutNow m_year m_ofNode m_ofDepth m_ofKids m_ofTwigs m_ofLast m_ofYear m_from m_size m_here m_token m_tokenAt m_open m_bad m_fault m_nKept m_mindsKept m_lastsKept m_cutKept m_yearKept m_ruleKept m_tokenWorth m_texts m_textSize m_tape m_parents m_kinds m_numbers m_odds o.2.1 o.2.2 m_prices m_numbersKept m_oddsKept m_isThere m_sorts m_sheetSize m_items)) := by
  unfold sp_X6_lopsided at hm
  refine xt_M.go (own := RX6) (lv := [some (.ref 0), some (.int p1), none, none, none, none, none]) rfl rfl (Nat.le_of_ble_eq_true rfl) rfl ?_
  refine x_iload1 eX6_lopsided_0 ?_
  refine x_i2l eX6_lopsided_1 ?_
  refine x_lk eX6_lopsided_2 ?_
  refine x_lk eX6_lopsided_3 ?_
  refine x_Si3 eX6_lopsided_4 kX6_in mX6_76 (t_X6_in rfl) (Nat.le_of_ble_eq_true rfl) ?_
  refine x_if_ne eX6_lopsided_7 (fun c => ?_) (fun c => ?_)
  · rw [if_neg c] at hm
    refine x_aload0 eX6_lopsided_13 ?_
    refine x_aload0 eX6_lopsided_14 ?_
    refine x_get eX6_lopsided_15 fX6_104 rfl rfl ?_
    obtain ⟨r1, hr, hm⟩ := xo_bind hm
    refine x_Vi1 eX6_lopsided_18 kX6_standing mX6_98 (t_X6_standing hr) rfl (Nat.le_of_ble_eq_true rfl) ?_
    refine x_istore2 eX6_lopsided_21 rfl ?_
    refine x_aload0 eX6_lopsided_22 ?_
    refine x_iload2 eX6_lopsided_23 ?_
    obtain ⟨r2, hr, hm⟩ := xo_bind hm
    refine x_Vi1 eX6_lopsided_24 kX6_twigs mX6_268 (t_X6_twigs hr) rfl (Nat.le_of_ble_eq_true rfl) ?_
    refine x_istore3 eX6_lopsided_27 rfl ?_
    refine x_k eX6_lopsided_28 ?_
    refine x_istore4 eX6_lopsided_29 rfl ?_
    refine x_k eX6_lopsided_31 ?_
    refine x_istore5 eX6_lopsided_32 rfl ?_
    exact l_X6_lopsided_34 _ hm
  · rw [if_pos c] at hm
    refine x_k eX6_lopsided_10 ?_
    obtain rfl := Option.some.inj hm
    exact x_iret eX6_lopsided_12 ⟨rfl, rfl⟩
set_option maxRecDepth 4000 in
theorem l_X6_countOf_6 {o : Int32 × (Nat → Int32) × (Nat → Int32)} {u1 : Int32} {u2 : Int32} {u3 : Int32} {m_n : Int32} {m_lasts : Int32} {m_parents : Nat → Int32} {m_kinds : Nat → Int32} {m_numbers : Nat → Int32} : ∀ (n : Nat) {u4 : Int32} {u5 : Int32} {m_yes : Nat → Int32} {m_no : Nat → Int32}, sp_X6_countOf_6 u1 u2 u3 m_n m_lasts m_parents m_kinds m_numbers n u4 u5 m_yes m_no = some o → xt_T RX6 cX6_countOf 6 (some .int) (d + 3) (xt_Ki o.1 (WM m_thrown m_textCount m_rule m_taped m_n m_minds m_lasts m_cutNow m_year m_ofNode m_ofDepth m_ofKids m_ofTwigs m_ofLast m_ofYear m_from m_size m_here m_token m_tokenAt m_open m_bad m_fault m_nKept m_mindsKept m_lastsKept m_cutKept m_yearKept m_ruleKept m_tokenWorth m_texts m_textSize m_tape m_parents m_kinds m_numbers m_odds o.2.1 o.2.2 m_prices m_numbersKept m_oddsKept m_isThere m_sorts m_sheetSize m_items)) 6 [some (.ref 0), some (.int u1), some (.int u2), some (.int u3), some (.int u4), some (.int u5)] [] (WM m_thrown m_textCount m_rule m_taped m_n m_minds m_lasts m_cutNow m_year m_ofNode m_ofDepth m_ofKids m_ofTwigs m_ofLast m_ofYear m_from m_size m_here m_token m_tokenAt m_open m_bad m_fault m_nKept m_mindsKept m_lastsKept m_cutKept m_yearKept m_ruleKept m_tokenWorth m_texts m_textSize m_tape m_parents m_kinds m_numbers m_odds m_yes m_no m_prices m_numbersKept m_oddsKept m_isThere m_sorts m_sheetSize m_items) := by
  intro n
  induction n with
  | zero => intro u4 u5 m_yes m_no hm; rw [sp_X6_countOf_6] at hm; cases hm
  | succ n ih =>
    intro u4 u5 m_yes m_no hm
    rw [sp_X6_countOf_6] at hm
    refine x_iload5 eX6_countOf_6 ?_
    refine x_k eX6_countOf_8 ?_
    refine x_aload0 eX6_countOf_9 ?_
    refine x_get eX6_countOf_10 fX6_23 rfl rfl ?_
    refine x_ishl eX6_countOf_13 ?_
    refine x_icmp_ge eX6_countOf_14 (fun c => ?_) (fun c => ?_)
    · rw [if_pos c] at hm
      refine x_iload4 eX6_countOf_67 ?_
      obtain rfl := Option.some.inj hm
      exact x_iret eX6_countOf_69 ⟨rfl, rfl⟩
    · rw [if_neg c] at hm
      refine x_iload5 eX6_countOf_17 ?_
      refine x_iload3 eX6_countOf_19 ?_
      refine x_k eX6_countOf_20 ?_
      refine x_ixor eX6_countOf_21 ?_
      refine x_iand eX6_countOf_22 ?_
      refine x_if_ne eX6_countOf_23 (fun c => ?_) (fun c => ?_)
      · rw [if_neg c] at hm
        refine x_iinc5 eX6_countOf_61 rfl ?_
        refine x_goto eX6_countOf_64 ?_
        exact ih hm
      · rw [if_pos c] at hm
        refine x_iload4 eX6_countOf_26 ?_
        refine x_aload0 eX6_countOf_28 ?_
        refine x_iload2 eX6_countOf_29 ?_
        refine x_iload5 eX6_countOf_30 ?_
        obtain ⟨r1, hr, hm⟩ := xo_bind hm
        refine x_Vi2 eX6_countOf_32 kX6_goes mX6_101 (t_X6_goes hr) rfl (Nat.le_of_ble_eq_true rfl) ?_
        refine x_k eX6_countOf_35 ?_
        refine x_iand eX6_countOf_36 ?_
        refine x_aload0 eX6_countOf_37 ?_
        refine x_iload2 eX6_countOf_38 ?_
        refine x_iload5 eX6_countOf_39 ?_
        refine x_k eX6_countOf_41 ?_
        refine x_iload1 eX6_countOf_42 ?_
        refine x_ishl eX6_countOf_43 ?_
        refine x_ixor eX6_countOf_44 ?_
        obtain ⟨r2, hr, hm⟩ := xo_bind hm
        refine x_Vi2 eX6_countOf_45 kX6_goes mX6_101 (t_X6_goes hr) rfl (Nat.le_of_ble_eq_true rfl) ?_
        refine x_k eX6_countOf_48 ?_
        refine x_iand eX6_countOf_49 ?_
        refine x_icmp_eq eX6_countOf_50 (fun c => ?_) (fun c => ?_)
        · rw [if_pos c] at hm
          refine x_k eX6_countOf_57 ?_
          refine x_iadd eX6_countOf_58 ?_
          refine x_istore4 eX6_countOf_59 rfl ?_
          refine x_iinc5 eX6_countOf_61 rfl ?_
          refine x_goto eX6_countOf_64 ?_
          exact ih hm
        · rw [if_neg c] at hm
          refine x_k eX6_countOf_53 ?_
          refine x_goto eX6_countOf_54 ?_
          refine x_iadd eX6_countOf_58 ?_
          refine x_istore4 eX6_countOf_59 rfl ?_
          refine x_iinc5 eX6_countOf_61 rfl ?_
          refine x_goto eX6_countOf_64 ?_
          exact ih hm
set_option maxRecDepth 4000 in
theorem t_X6_countOf {o : Int32 × (Nat → Int32) × (Nat → Int32)} {p1 : Int32} {p2 : Int32} {p3 : Int32} (hm : sp_X6_countOf p1 p2 p3 m_n m_lasts m_parents m_kinds m_numbers m_yes m_no = some o) : xt_M yX6_countOf cX6_countOf 6 (some .int) (d + 3) [.ref 0, .int p1, .int p2, .int p3] (WM m_thrown m_textCount m_rule m_taped m_n m_minds m_lasts m_cutNow m_year m_ofNode m_ofDepth m_ofKids m_ofTwigs m_ofLast m_ofYear m_from m_size m_here m_token m_tokenAt m_open m_bad m_fault m_nKept m_mindsKept m_lastsKept m_cutKept m_yearKept m_ruleKept m_tokenWorth m_texts m_textSize m_tape m_parents m_kinds m_numbers m_odds m_yes m_no m_prices m_numbersKept m_oddsKept m_isThere m_sorts m_sheetSize m_items) (xt_Ki o.1 (WM m_thrown m_textCount m_rule m_taped m_n m_minds m_lasts m_cutNow m_year m_ofNode m_ofDepth m_ofKids m_ofTwigs m_ofLast m_ofYear m_from m_size m_here m_token m_tokenAt m_open m_bad m_fault m_nKept m_mindsKept m_lastsKept m_cutKept m_yearKept m_ruleKept m_tokenWorth m_texts m_textSize m_tape m_parents m_kinds m_numbers m_odds o.2.1 o.2.2 m_prices m_numbersKept m_oddsKept m_isThere m_sorts m_sheetSize m_items)) := by
  unfold sp_X6_countOf at hm
  refine xt_M.go (own := RX6) (lv := [some (.ref 0), some (.int p1), some (.int p2), some (.int p3), none, none]) rfl rfl (Nat.le_of_ble_eq_true rfl) rfl ?_
  refine x_k eX6_countOf_0 ?_
  refine x_istore4 eX6_countOf_1 rfl ?_
  refine x_k eX6_countOf_3 ?_
  refine x_istore5 eX6_countOf_4 rfl ?_
  exact l_X6_countOf_6 _ hm
set_option maxRecDepth 4000 in
theorem l_X6_counts_56 {o : Int32 × (Nat → Int32) × (Nat → Int32)} {u2 : Int32} {u3 : Int32} {m_n : Int32} {m_lasts : Int32} {m_parents : Nat → Int32} {m_kinds : Nat → Int32} {m_numbers : Nat → Int32} {u1 : Int32} : ∀ (n : Nat) {u4 : Int32} {u5 : Int32} {m_yes : Nat → Int32} {m_no : Nat → Int32}, sp_X6_counts_56 u2 u3 m_n m_lasts m_parents m_kinds m_numbers n u4 u5 m_yes m_no = some o → xt_T RX6 cX6_counts 7 (some .int) (d + 4) (xt_Ki o.1 (WM m_thrown m_textCount m_rule m_taped m_n m_minds m_lasts m_cutNow m_year m_ofNode m_ofDepth m_ofKids m_ofTwigs m_ofLast m_ofYear m_from m_size m_here m_token m_tokenAt m_open m_bad m_fault m_nKept m_mindsKept m_lastsKept m_cutKept m_yearKept m_ruleKept m_tokenWorth m_texts m_textSize m_tape m_parents m_kinds m_numbers m_odds o.2.1 o.2.2 m_prices m_numbersKept m_oddsKept m_isThere m_sorts m_sheetSize m_items)) 56 [some (.ref 0), some (.int u1), some (.int u2), some (.int u3), some (.int u4), some (.int u5), none] [] (WM m_thrown m_textCount m_rule m_taped m_n m_minds m_lasts m_cutNow m_year m_ofNode m_ofDepth m_ofKids m_ofTwigs m_ofLast m_ofYear m_from m_size m_here m_token m_tokenAt m_open m_bad m_fault m_nKept m_mindsKept m_lastsKept m_cutKept m_yearKept m_ruleKept m_tokenWorth m_texts m_textSize m_tape m_parents m_kinds m_numbers m_odds m_yes m_no m_prices m_numbersKept m_oddsKept m_isThere m_sorts m_sheetSize m_items) := by
  intro n
  induction n with
  | zero => intro u4 u5 m_yes m_no hm; rw [sp_X6_counts_56] at hm; cases hm
  | succ n ih =>
    intro u4 u5 m_yes m_no hm
    rw [sp_X6_counts_56] at hm
    refine x_iload5 eX6_counts_56 ?_
    refine x_aload0 eX6_counts_58 ?_
    refine x_get eX6_counts_59 fX6_23 rfl rfl ?_
    refine x_icmp_ge eX6_counts_62 (fun c => ?_) (fun c => ?_)
    · rw [if_pos c] at hm
      refine x_k eX6_counts_110 ?_
      obtain rfl := Option.some.inj hm
      exact x_iret eX6_counts_111 ⟨rfl, rfl⟩
    · rw [if_neg c] at hm
      refine x_iload3 eX6_counts_65 ?_
      refine x_iload5 eX6_counts_66 ?_
      refine x_ishr eX6_counts_68 ?_
      refine x_k eX6_counts_69 ?_
      refine x_iand eX6_counts_70 ?_
      refine x_k eX6_counts_71 ?_
      refine x_icmp_ne eX6_counts_72 (fun c => ?_) (fun c => ?_)
      · rw [if_neg c] at hm
        refine x_iinc5 eX6_counts_104 rfl ?_
        refine x_goto eX6_counts_107 ?_
        exact ih hm
      · rw [if_pos c] at hm
        refine x_aload0 eX6_counts_75 ?_
        refine x_iload5 eX6_counts_76 ?_
        refine x_iload2 eX6_counts_78 ?_
        refine x_iload3 eX6_counts_79 ?_
        obtain ⟨r3, hr, hm⟩ := xo_bind hm
        refine x_Vi3 eX6_counts_80 kX6_countOf mX6_281 (t_X6_countOf hr) rfl (Nat.le_of_ble_eq_true rfl) ?_
        refine x_istore6 eX6_counts_83 rfl ?_
        refine x_iload4 eX6_counts_85 ?_
        refine x_k eX6_counts_87 ?_
        refine x_icmp_eq eX6_counts_88 (fun c => ?_) (fun c => ?_)
        · rw [if_pos c] at hm
          refine x_iload6 eX6_counts_100 ?_
          refine x_istore4 eX6_counts_102 rfl ?_
          refine x_iinc5 eX6_counts_104 rfl ?_
          refine x_goto eX6_counts_107 ?_
          exact x_weak (by simp [xt_le]) (ih hm)
        · rw [if_neg c] at hm
          refine x_iload6 eX6_counts_91 ?_
          refine x_iload4 eX6_counts_93 ?_
          refine x_icmp_eq eX6_counts_95 (fun c => ?_) (fun c => ?_)
          · rw [if_pos c] at hm
            refine x_iload6 eX6_counts_100 ?_
            refine x_istore4 eX6_counts_102 rfl ?_
            refine x_iinc5 eX6_counts_104 rfl ?_
            refine x_goto eX6_counts_107 ?_
            exact x_weak (by simp [xt_le]) (ih hm)
          · rw [if_neg c] at hm
            refine x_k eX6_counts_98 ?_
            obtain rfl := Option.some.inj hm
            exact x_iret eX6_counts_99 ⟨rfl, rfl⟩
set_option maxRecDepth 4000 in
theorem t_X6_counts {o : Int32 × (Nat → Int32) × (Nat → Int32)} {p1 : Int32} (hm : sp_X6_counts p1 m_n m_lasts m_cutNow m_parents m_kinds m_numbers m_yes m_no = some o) : xt_M yX6_counts cX6_counts 7 (some .int) (d + 4) [.ref 0, .int p1] (WM m_thrown m_textCount m_rule m_taped m_n m_minds m_lasts m_cutNow m_year m_ofNode m_ofDepth m_ofKids m_ofTwigs m_ofLast m_ofYear m_from m_size m_here m_token m_tokenAt m_open m_bad m_fault m_nKept m_mindsKept m_lastsKept m_cutKept m_yearKept m_ruleKept m_tokenWorth m_texts m_textSize m_tape m_parents m_kinds m_numbers m_odds m_yes m_no m_prices m_numbersKept m_oddsKept m_isThere m_sorts m_sheetSize m_items) (xt_Ki o.1 (WM m_thrown m_textCount m_rule m_taped m_n m_minds m_lasts m_cutNow m_year m_ofNode m_ofDepth m_ofKids m_ofTwigs m_ofLast m_ofYear m_from m_size m_here m_token m_tokenAt m_open m_bad m_fault m_nKept m_mindsKept m_lastsKept m_cutKept m_yearKept m_ruleKept m_tokenWorth m_texts m_textSize m_tape m_parents m_kinds m_numbers m_odds o.2.1 o.2.2 m_prices m_numbersKept m_oddsKept m_isThere m_sorts m_sheetSize m_items)) := by
  unfold sp_X6_counts at hm
  refine xt_M.go (own := RX6) (lv := [some (.ref 0), some (.int p1), none, none, none, none, none]) rfl rfl (Nat.le_of_ble_eq_true rfl) rfl ?_
  refine x_aload0 eX6_counts_0 ?_
  refine x_aload0 eX6_counts_1 ?_
  refine x_get eX6_counts_2 fX6_104 rfl rfl ?_
  obtain ⟨r1, hr, hm⟩ := xo_bind hm
  refine x_Vi1 eX6_counts_5 kX6_standing mX6_98 (t_X6_standing hr) rfl (Nat.le_of_ble_eq_true rfl) ?_
  refine x_istore2 eX6_counts_8 rfl ?_
  refine x_aload0 eX6_counts_9 ?_
  refine x_iload2 eX6_counts_10 ?_
  obtain ⟨r2, hr, hm⟩ := xo_bind hm
  refine x_Vi1 eX6_counts_11 kX6_twigs mX6_268 (t_X6_twigs hr) rfl (Nat.le_of_ble_eq_true rfl) ?_
  refine x_istore3 eX6_counts_14 rfl ?_
  refine x_iload1 eX6_counts_15 ?_
  refine x_k eX6_counts_16 ?_
  refine x_icmp_eq eX6_counts_17 (fun c => ?_) (fun c => ?_)
  · rw [if_pos c] at hm
    refine x_k eX6_counts_50 ?_
    refine x_istore4 eX6_counts_51 rfl ?_
    refine x_k eX6_counts_53 ?_
    refine x_istore5 eX6_counts_54 rfl ?_
    exact l_X6_counts_56 _ hm
  · rw [if_neg c] at hm
    refine x_aload0 eX6_counts_20 ?_
    refine x_iload1 eX6_counts_21 ?_
    obtain ⟨r4, hr, hm⟩ := xo_bind hm
    refine x_Vi1 eX6_counts_22 kX6_isNode mX6_113 (t_X6_isNode hr) rfl (Nat.le_of_ble_eq_true rfl) ?_
    refine x_if_eq eX6_counts_25 (fun c => ?_) (fun c => ?_)
    · rw [if_pos c] at hm
      refine x_k eX6_counts_47 ?_
      obtain rfl := Option.some.inj hm
      exact x_iret eX6_counts_49 ⟨rfl, rfl⟩
    · rw [if_neg c] at hm
      refine x_iload3 eX6_counts_28 ?_
      refine x_iload1 eX6_counts_29 ?_
      refine x_ishr eX6_counts_30 ?_
      refine x_k eX6_counts_31 ?_
      refine x_iand eX6_counts_32 ?_
      refine x_k eX6_counts_33 ?_
      refine x_icmp_ne eX6_counts_34 (fun c => ?_) (fun c => ?_)
      · rw [if_neg c] at hm
        refine x_k eX6_counts_47 ?_
        obtain rfl := Option.some.inj hm
        exact x_iret eX6_counts_49 ⟨rfl, rfl⟩
      · rw [if_pos c] at hm
        refine x_aload0 eX6_counts_37 ?_
        refine x_iload1 eX6_counts_38 ?_
        refine x_iload2 eX6_counts_39 ?_
        refine x_iload3 eX6_counts_40 ?_
        obtain ⟨r5, hr, hm⟩ := xo_bind hm
        refine x_Vi3 eX6_counts_41 kX6_countOf mX6_281 (t_X6_countOf hr) rfl (Nat.le_of_ble_eq_true rfl) ?_
        refine x_goto eX6_counts_44 ?_
        obtain rfl := Option.some.inj hm
        exact x_iret eX6_counts_49 ⟨rfl, rfl⟩
set_option maxRecDepth 4000 in
theorem t_X6_isSheet {o : Int32} {p1 : Int32} (hm : sp_X6_isSheet p1 = some o) : xt_M yX6_isSheet cX6_isSheet 1 (some .boolean) (d + 1) [.int p1] (WM m_thrown m_textCount m_rule m_taped m_n m_minds m_lasts m_cutNow m_year m_ofNode m_ofDepth m_ofKids m_ofTwigs m_ofLast m_ofYear m_from m_size m_here m_token m_tokenAt m_open m_bad m_fault m_nKept m_mindsKept m_lastsKept m_cutKept m_yearKept m_ruleKept m_tokenWorth m_texts m_textSize m_tape m_parents m_kinds m_numbers m_odds m_yes m_no m_prices m_numbersKept m_oddsKept m_isThere m_sorts m_sheetSize m_items) (xt_Ki o (WM m_thrown m_textCount m_rule m_taped m_n m_minds m_lasts m_cutNow m_year m_ofNode m_ofDepth m_ofKids m_ofTwigs m_ofLast m_ofYear m_from m_size m_here m_token m_tokenAt m_open m_bad m_fault m_nKept m_mindsKept m_lastsKept m_cutKept m_yearKept m_ruleKept m_tokenWorth m_texts m_textSize m_tape m_parents m_kinds m_numbers m_odds m_yes m_no m_prices m_numbersKept m_oddsKept m_isThere m_sorts m_sheetSize m_items)) := by
  unfold sp_X6_isSheet at hm
  refine xt_M.go (own := RX6) (lv := [some (.int p1)]) rfl rfl (Nat.le_of_ble_eq_true rfl) rfl ?_
  refine x_iload0 eX6_isSheet_0 ?_
  refine x_i2l eX6_isSheet_1 ?_
  refine x_lk eX6_isSheet_2 ?_
  refine x_ldc2 eX6_isSheet_3 cX6_336 ?_
  refine x_Si3 eX6_isSheet_6 kX6_in mX6_76 (t_X6_in rfl) (Nat.le_of_ble_eq_true rfl) ?_
  obtain ⟨hz, hm⟩ := xo_ifn hm
  obtain rfl := Option.some.inj hm
  exact x_zret eX6_isSheet_9 (Decidable.not_not.mp hz) ⟨rfl, rfl⟩
set_option maxRecDepth 4000 in
theorem l_X6_areApart_26 {o : Int32} {u1 : Int32} {u2 : Int32} {m_n : Int32} {m_parents : Nat → Int32} {k : Int32 → Option (Int32)} (hk : ∀ {u3 : Int32}, k u3 = some o → xt_T RX6 cX6_areApart 4 (some .boolean) (d + 0) (xt_Ki o (WM m_thrown m_textCount m_rule m_taped m_n m_minds m_lasts m_cutNow m_year m_ofNode m_ofDepth m_ofKids m_ofTwigs m_ofLast m_ofYear m_from m_size m_here m_token m_tokenAt m_open m_bad m_fault m_nKept m_mindsKept m_lastsKept m_cutKept m_yearKept m_ruleKept m_tokenWorth m_texts m_textSize m_tape m_parents m_kinds m_numbers m_odds m_yes m_no m_prices m_numbersKept m_oddsKept m_isThere m_sorts m_sheetSize m_items)) 51 [some (.ref 0), some (.int u1), some (.int u2), some (.int u3)] [] (WM m_thrown m_textCount m_rule m_taped m_n m_minds m_lasts m_cutNow m_year m_ofNode m_ofDepth m_ofKids m_ofTwigs m_ofLast m_ofYear m_from m_size m_here m_token m_tokenAt m_open m_bad m_fault m_nKept m_mindsKept m_lastsKept m_cutKept m_yearKept m_ruleKept m_tokenWorth m_texts m_textSize m_tape m_parents m_kinds m_numbers m_odds m_yes m_no m_prices m_numbersKept m_oddsKept m_isThere m_sorts m_sheetSize m_items)) : ∀ (n : Nat) {u3 : Int32}, sp_X6_areApart_26 k u1 u2 m_n m_parents n u3 = some o → xt_T RX6 cX6_areApart 4 (some .boolean) (d + 0) (xt_Ki o (WM m_thrown m_textCount m_rule m_taped m_n m_minds m_lasts m_cutNow m_year m_ofNode m_ofDepth m_ofKids m_ofTwigs m_ofLast m_ofYear m_from m_size m_here m_token m_tokenAt m_open m_bad m_fault m_nKept m_mindsKept m_lastsKept m_cutKept m_yearKept m_ruleKept m_tokenWorth m_texts m_textSize m_tape m_parents m_kinds m_numbers m_odds m_yes m_no m_prices m_numbersKept m_oddsKept m_isThere m_sorts m_sheetSize m_items)) 26 [some (.ref 0), some (.int u1), some (.int u2), some (.int u3)] [] (WM m_thrown m_textCount m_rule m_taped m_n m_minds m_lasts m_cutNow m_year m_ofNode m_ofDepth m_ofKids m_ofTwigs m_ofLast m_ofYear m_from m_size m_here m_token m_tokenAt m_open m_bad m_fault m_nKept m_mindsKept m_lastsKept m_cutKept m_yearKept m_ruleKept m_tokenWorth m_texts m_textSize m_tape m_parents m_kinds m_numbers m_odds m_yes m_no m_prices m_numbersKept m_oddsKept m_isThere m_sorts m_sheetSize m_items) := by
  intro n
  induction n with
  | zero => intro u3 hm; rw [sp_X6_areApart_26] at hm; cases hm
  | succ n ih =>
    intro u3 hm
    rw [sp_X6_areApart_26] at hm
    refine x_iload3 eX6_areApart_26 ?_
    refine x_if_le eX6_areApart_27 (fun c => ?_) (fun c => ?_)
    · rw [if_pos c] at hm
      exact hk hm
    · rw [if_neg c] at hm
      refine x_iload1 eX6_areApart_30 ?_
      refine x_iload3 eX6_areApart_31 ?_
      refine x_ishr eX6_areApart_32 ?_
      refine x_k eX6_areApart_33 ?_
      refine x_iand eX6_areApart_34 ?_
      refine x_k eX6_areApart_35 ?_
      refine x_icmp_ne eX6_areApart_36 (fun c => ?_) (fun c => ?_)
      · rw [if_neg c] at hm
        refine x_aload0 eX6_areApart_41 ?_
        refine x_get eX6_areApart_42 fX6_26 rfl rfl ?_
        refine x_iload3 eX6_areApart_45 ?_
        obtain ⟨v2, hv, hm⟩ := xo_bind hm
        obtain ⟨hi, rfl⟩ := xo_at_some hv
        refine x_iaload eX6_areApart_46 rfl hi ?_
        refine x_istore3 eX6_areApart_47 rfl ?_
        refine x_goto eX6_areApart_48 ?_
        exact ih hm
      · rw [if_pos c] at hm
        refine x_k eX6_areApart_39 ?_
        obtain rfl := Option.some.inj hm
        exact x_zret eX6_areApart_40 (by decide) ⟨rfl, rfl⟩
set_option maxRecDepth 4000 in
theorem l_X6_areApart_2 {o : Int32} {u1 : Int32} {m_n : Int32} {m_parents : Nat → Int32} : ∀ (n : Nat) {u2 : Int32}, sp_X6_areApart_2 u1 m_n m_parents n u2 = some o → xt_T RX6 cX6_areApart 4 (some .boolean) (d + 0) (xt_Ki o (WM m_thrown m_textCount m_rule m_taped m_n m_minds m_lasts m_cutNow m_year m_ofNode m_ofDepth m_ofKids m_ofTwigs m_ofLast m_ofYear m_from m_size m_here m_token m_tokenAt m_open m_bad m_fault m_nKept m_mindsKept m_lastsKept m_cutKept m_yearKept m_ruleKept m_tokenWorth m_texts m_textSize m_tape m_parents m_kinds m_numbers m_odds m_yes m_no m_prices m_numbersKept m_oddsKept m_isThere m_sorts m_sheetSize m_items)) 2 [some (.ref 0), some (.int u1), some (.int u2), none] [] (WM m_thrown m_textCount m_rule m_taped m_n m_minds m_lasts m_cutNow m_year m_ofNode m_ofDepth m_ofKids m_ofTwigs m_ofLast m_ofYear m_from m_size m_here m_token m_tokenAt m_open m_bad m_fault m_nKept m_mindsKept m_lastsKept m_cutKept m_yearKept m_ruleKept m_tokenWorth m_texts m_textSize m_tape m_parents m_kinds m_numbers m_odds m_yes m_no m_prices m_numbersKept m_oddsKept m_isThere m_sorts m_sheetSize m_items) := by
  intro n
  induction n with
  | zero => intro u2 hm; rw [sp_X6_areApart_2] at hm; cases hm
  | succ n ih =>
    intro u2 hm
    rw [sp_X6_areApart_2] at hm
    refine x_iload2 eX6_areApart_2 ?_
    refine x_aload0 eX6_areApart_3 ?_
    refine x_get eX6_areApart_4 fX6_23 rfl rfl ?_
    refine x_icmp_ge eX6_areApart_7 (fun c => ?_) (fun c => ?_)
    · rw [if_pos c] at hm
      refine x_iload1 eX6_areApart_57 ?_
      refine x_k eX6_areApart_58 ?_
      refine x_iand eX6_areApart_59 ?_
      refine x_if_ne eX6_areApart_60 (fun c => ?_) (fun c => ?_)
      · rw [if_neg c] at hm
        refine x_k eX6_areApart_67 ?_
        obtain rfl := Option.some.inj hm
        exact x_zret eX6_areApart_68 (by decide) ⟨rfl, rfl⟩
      · rw [if_pos c] at hm
        refine x_k eX6_areApart_63 ?_
        refine x_goto eX6_areApart_64 ?_
        obtain rfl := Option.some.inj hm
        exact x_zret eX6_areApart_68 (by decide) ⟨rfl, rfl⟩
    · rw [if_neg c] at hm
      refine x_iload1 eX6_areApart_10 ?_
      refine x_iload2 eX6_areApart_11 ?_
      refine x_ishr eX6_areApart_12 ?_
      refine x_k eX6_areApart_13 ?_
      refine x_iand eX6_areApart_14 ?_
      refine x_k eX6_areApart_15 ?_
      refine x_icmp_ne eX6_areApart_16 (fun c => ?_) (fun c => ?_)
      · rw [if_neg c] at hm
        refine x_iinc2 eX6_areApart_51 rfl ?_
        refine x_goto eX6_areApart_54 ?_
        exact ih hm
      · rw [if_pos c] at hm
        refine x_aload0 eX6_areApart_19 ?_
        refine x_get eX6_areApart_20 fX6_26 rfl rfl ?_
        refine x_iload2 eX6_areApart_23 ?_
        obtain ⟨v1, hv, hm⟩ := xo_bind hm
        obtain ⟨hi, rfl⟩ := xo_at_some hv
        refine x_iaload eX6_areApart_24 rfl hi ?_
        refine x_istore3 eX6_areApart_25 rfl ?_
        refine l_X6_areApart_26 (fun {u3} hm => ?_) _ hm
        refine x_iinc2 eX6_areApart_51 rfl ?_
        refine x_goto eX6_areApart_54 ?_
        exact x_weak (by simp [xt_le]) (ih hm)
set_option maxRecDepth 4000 in
theorem t_X6_areApart {o : Int32} {p1 : Int32} (hm : sp_X6_areApart p1 m_n m_parents = some o) : xt_M yX6_areApart cX6_areApart 4 (some .boolean) (d + 0) [.ref 0, .int p1] (WM m_thrown m_textCount m_rule m_taped m_n m_minds m_lasts m_cutNow m_year m_ofNode m_ofDepth m_ofKids m_ofTwigs m_ofLast m_ofYear m_from m_size m_here m_token m_tokenAt m_open m_bad m_fault m_nKept m_mindsKept m_lastsKept m_cutKept m_yearKept m_ruleKept m_tokenWorth m_texts m_textSize m_tape m_parents m_kinds m_numbers m_odds m_yes m_no m_prices m_numbersKept m_oddsKept m_isThere m_sorts m_sheetSize m_items) (xt_Ki o (WM m_thrown m_textCount m_rule m_taped m_n m_minds m_lasts m_cutNow m_year m_ofNode m_ofDepth m_ofKids m_ofTwigs m_ofLast m_ofYear m_from m_size m_here m_token m_tokenAt m_open m_bad m_fault m_nKept m_mindsKept m_lastsKept m_cutKept m_yearKept m_ruleKept m_tokenWorth m_texts m_textSize m_tape m_parents m_kinds m_numbers m_odds m_yes m_no m_prices m_numbersKept m_oddsKept m_isThere m_sorts m_sheetSize m_items)) := by
  unfold sp_X6_areApart at hm
  refine xt_M.go (own := RX6) (lv := [some (.ref 0), some (.int p1), none, none]) rfl rfl (Nat.le_of_ble_eq_true rfl) rfl ?_
  refine x_k eX6_areApart_0 ?_
  refine x_istore2 eX6_areApart_1 rfl ?_
  exact l_X6_areApart_2 _ hm
set_option maxRecDepth 4000 in
theorem l_X6_isSo_13 {o : Int32 × (Nat → Int32) × (Nat → Int32)} {u1 : Int32} {u2 : Int32} {u3 : Int32} {m_sheetSize : Nat → Int32} {m_items : Nat → Int32} : ∀ (n : Nat) {u4 : Int32} {m_yes : Nat → Int32} {m_no : Nat → Int32}, sp_X6_isSo_13 u1 u2 u3 m_sheetSize m_items n u4 m_yes m_no = some o → xt_T RX6 cX6_isSo 7 (some .boolean) (d + 3) (xt_Ki o.1 (WM m_thrown m_textCount m_rule m_taped m_n m_minds m_lasts m_cutNow m_year m_ofNode m_ofDepth m_ofKids m_ofTwigs m_ofLast m_ofYear m_from m_size m_here m_token m_tokenAt m_open m_bad m_fault m_nKept m_mindsKept m_lastsKept m_cutKept m_yearKept m_ruleKept m_tokenWorth m_texts m_textSize m_tape m_parents m_kinds m_numbers m_odds o.2.1 o.2.2 m_prices m_numbersKept m_oddsKept m_isThere m_sorts m_sheetSize m_items)) 13 [some (.ref 0), some (.int u1), some (.int u2), some (.int u3), some (.int u4), none, none] [] (WM m_thrown m_textCount m_rule m_taped m_n m_minds m_lasts m_cutNow m_year m_ofNode m_ofDepth m_ofKids m_ofTwigs m_ofLast m_ofYear m_from m_size m_here m_token m_tokenAt m_open m_bad m_fault m_nKept m_mindsKept m_lastsKept m_cutKept m_yearKept m_ruleKept m_tokenWorth m_texts m_textSize m_tape m_parents m_kinds m_numbers m_odds m_yes m_no m_prices m_numbersKept m_oddsKept m_isThere m_sorts m_sheetSize m_items) := by
  intro n
  induction n with
  | zero => intro u4 m_yes m_no hm; rw [sp_X6_isSo_13] at hm; cases hm
  | succ n ih =>
    intro u4 m_yes m_no hm
    rw [sp_X6_isSo_13] at hm
    refine x_iload4 eX6_isSo_13 ?_
    refine x_aload0 eX6_isSo_15 ?_
    refine x_get eX6_isSo_16 fX6_63 rfl rfl ?_
    refine x_iload1 eX6_isSo_19 ?_
    obtain ⟨v2, hv, hm⟩ := xo_bind hm
    obtain ⟨hi, rfl⟩ := xo_at_some hv
    refine x_iaload eX6_isSo_20 rfl hi ?_
    refine x_icmp_ge eX6_isSo_21 (fun c => ?_) (fun c => ?_)
    · rw [if_pos c] at hm
      refine x_k eX6_isSo_86 ?_
      obtain rfl := Option.some.inj hm
      exact x_zret eX6_isSo_87 (by decide) ⟨rfl, rfl⟩
    · rw [if_neg c] at hm
      refine x_aload0 eX6_isSo_24 ?_
      refine x_get eX6_isSo_25 fX6_66 rfl rfl ?_
      refine x_k eX6_isSo_28 ?_
      refine x_iload1 eX6_isSo_30 ?_
      refine x_imul eX6_isSo_31 ?_
      refine x_iload4 eX6_isSo_32 ?_
      refine x_iadd eX6_isSo_34 ?_
      obtain ⟨v3, hv, hm⟩ := xo_bind hm
      obtain ⟨hi, rfl⟩ := xo_at_some hv
      refine x_iaload eX6_isSo_35 rfl hi ?_
      refine x_istore5 eX6_isSo_36 rfl ?_
      refine x_iload2 eX6_isSo_38 ?_
      refine x_iload5 eX6_isSo_39 ?_
      refine x_ishr eX6_isSo_41 ?_
      refine x_k eX6_isSo_42 ?_
      refine x_iand eX6_isSo_43 ?_
      refine x_if_ne eX6_isSo_44 (fun c => ?_) (fun c => ?_)
      · rw [if_neg c] at hm
        refine x_iload3 eX6_isSo_51 ?_
        refine x_iload5 eX6_isSo_52 ?_
        refine x_ishr eX6_isSo_54 ?_
        refine x_k eX6_isSo_55 ?_
        refine x_iand eX6_isSo_56 ?_
        refine x_istore6 eX6_isSo_57 rfl ?_
        refine x_iload6 eX6_isSo_59 ?_
        refine x_aload0 eX6_isSo_61 ?_
        refine x_get eX6_isSo_62 fX6_66 rfl rfl ?_
        refine x_k eX6_isSo_65 ?_
        refine x_iload1 eX6_isSo_67 ?_
        refine x_imul eX6_isSo_68 ?_
        refine x_iload4 eX6_isSo_69 ?_
        refine x_iadd eX6_isSo_71 ?_
        refine x_k eX6_isSo_72 ?_
        refine x_iadd eX6_isSo_73 ?_
        obtain ⟨v4, hv, hm⟩ := xo_bind hm
        obtain ⟨hi, rfl⟩ := xo_at_some hv
        refine x_iaload eX6_isSo_74 rfl hi ?_
        refine x_icmp_eq eX6_isSo_75 (fun c => ?_) (fun c => ?_)
        · rw [if_pos c] at hm
          refine x_iinc4 eX6_isSo_80 rfl ?_
          refine x_goto eX6_isSo_83 ?_
          exact x_weak (by simp [xt_le]) (ih hm)
        · rw [if_neg c] at hm
          refine x_k eX6_isSo_78 ?_
          obtain rfl := Option.some.inj hm
          exact x_zret eX6_isSo_79 (by decide) ⟨rfl, rfl⟩
      · rw [if_pos c] at hm
        refine x_k eX6_isSo_47 ?_
        refine x_goto eX6_isSo_48 ?_
        refine x_istore6 eX6_isSo_57 rfl ?_
        refine x_iload6 eX6_isSo_59 ?_
        refine x_aload0 eX6_isSo_61 ?_
        refine x_get eX6_isSo_62 fX6_66 rfl rfl ?_
        refine x_k eX6_isSo_65 ?_
        refine x_iload1 eX6_isSo_67 ?_
        refine x_imul eX6_isSo_68 ?_
        refine x_iload4 eX6_isSo_69 ?_
        refine x_iadd eX6_isSo_71 ?_
        refine x_k eX6_isSo_72 ?_
        refine x_iadd eX6_isSo_73 ?_
        obtain ⟨v5, hv, hm⟩ := xo_bind hm
        obtain ⟨hi, rfl⟩ := xo_at_some hv
        refine x_iaload eX6_isSo_74 rfl hi ?_
        refine x_icmp_eq eX6_isSo_75 (fun c => ?_) (fun c => ?_)
        · rw [if_pos c] at hm
          refine x_iinc4 eX6_isSo_80 rfl ?_
          refine x_goto eX6_isSo_83 ?_
          exact x_weak (by simp [xt_le]) (ih hm)
        · rw [if_neg c] at hm
          refine x_k eX6_isSo_78 ?_
          obtain rfl := Option.some.inj hm
          exact x_zret eX6_isSo_79 (by decide) ⟨rfl, rfl⟩
set_option maxRecDepth 4000 in
theorem t_X6_isSo {o : Int32 × (Nat → Int32) × (Nat → Int32)} {p1 : Int32} {p2 : Int32} (hm : sp_X6_isSo p1 p2 m_n m_minds m_lasts m_parents m_kinds m_numbers m_yes m_no m_sheetSize m_items = some o) : xt_M yX6_isSo cX6_isSo 7 (some .boolean) (d + 3) [.ref 0, .int p1, .int p2] (WM m_thrown m_textCount m_rule m_taped m_n m_minds m_lasts m_cutNow m_year m_ofNode m_ofDepth m_ofKids m_ofTwigs m_ofLast m_ofYear m_from m_size m_here m_token m_tokenAt m_open m_bad m_fault m_nKept m_mindsKept m_lastsKept m_cutKept m_yearKept m_ruleKept m_tokenWorth m_texts m_textSize m_tape m_parents m_kinds m_numbers m_odds m_yes m_no m_prices m_numbersKept m_oddsKept m_isThere m_sorts m_sheetSize m_items) (xt_Ki o.1 (WM m_thrown m_textCount m_rule m_taped m_n m_minds m_lasts m_cutNow m_year m_ofNode m_ofDepth m_ofKids m_ofTwigs m_ofLast m_ofYear m_from m_size m_here m_token m_tokenAt m_open m_bad m_fault m_nKept m_mindsKept m_lastsKept m_cutKept m_yearKept m_ruleKept m_tokenWorth m_texts m_textSize m_tape m_parents m_kinds m_numbers m_odds o.2.1 o.2.2 m_prices m_numbersKept m_oddsKept m_isThere m_sorts m_sheetSize m_items)) := by
  unfold sp_X6_isSo at hm
  refine xt_M.go (own := RX6) (lv := [some (.ref 0), some (.int p1), some (.int p2), none, none, none, none]) rfl rfl (Nat.le_of_ble_eq_true rfl) rfl ?_
  refine x_aload0 eX6_isSo_0 ?_
  refine x_iload2 eX6_isSo_1 ?_
  refine x_aload0 eX6_isSo_2 ?_
  refine x_get eX6_isSo_3 fX6_107 rfl rfl ?_
  obtain ⟨r1, hr, hm⟩ := xo_bind hm
  refine x_Vi2 eX6_isSo_6 kX6_goes mX6_101 (t_X6_goes hr) rfl (Nat.le_of_ble_eq_true rfl) ?_
  refine x_istore3 eX6_isSo_9 rfl ?_
  refine x_k eX6_isSo_10 ?_
  refine x_istore4 eX6_isSo_11 rfl ?_
  exact l_X6_isSo_13 _ hm
set_option maxRecDepth 4000 in
theorem l_X6_whoCut_128 {o : Int32 × (Nat → Int32) × (Nat → Int32)} {u1 : Int32} {u2 : Int32} {u3 : Int32} {m_n : Int32} {m_minds : Int32} {m_lasts : Int32} {m_cutNow : Int32} {m_parents : Nat → Int32} {m_kinds : Nat → Int32} {m_numbers : Nat → Int32} {m_sheetSize : Nat → Int32} {m_items : Nat → Int32} : ∀ (n : Nat) {u4 : Int32} {u5 : Int32} {u6 : Int32} {m_yes : Nat → Int32} {m_no : Nat → Int32}, sp_X6_whoCut_128 u1 u2 u3 m_n m_minds m_lasts m_cutNow m_parents m_kinds m_numbers m_sheetSize m_items n u4 u5 u6 m_yes m_no = some o → xt_T RX6 cX6_whoCut 7 (some .int) (d + 4) (xt_Ki o.1 (WM m_thrown m_textCount m_rule m_taped m_n m_minds m_lasts m_cutNow m_year m_ofNode m_ofDepth m_ofKids m_ofTwigs m_ofLast m_ofYear m_from m_size m_here m_token m_tokenAt m_open m_bad m_fault m_nKept m_mindsKept m_lastsKept m_cutKept m_yearKept m_ruleKept m_tokenWorth m_texts m_textSize m_tape m_parents m_kinds m_numbers m_odds o.2.1 o.2.2 m_prices m_numbersKept m_oddsKept m_isThere m_sorts m_sheetSize m_items)) 128 [some (.ref 0), some (.int u1), some (.int u2), some (.int u3), some (.int u4), some (.int u5), some (.int u6)] [] (WM m_thrown m_textCount m_rule m_taped m_n m_minds m_lasts m_cutNow m_year m_ofNode m_ofDepth m_ofKids m_ofTwigs m_ofLast m_ofYear m_from m_size m_here m_token m_tokenAt m_open m_bad m_fault m_nKept m_mindsKept m_lastsKept m_cutKept m_yearKept m_ruleKept m_tokenWorth m_texts m_textSize m_tape m_parents m_kinds m_numbers m_odds m_yes m_no m_prices m_numbersKept m_oddsKept m_isThere m_sorts m_sheetSize m_items) := by
  intro n
  induction n with
  | zero => intro u4 u5 u6 m_yes m_no hm; rw [sp_X6_whoCut_128] at hm; cases hm
  | succ n ih =>
    intro u4 u5 u6 m_yes m_no hm
    rw [sp_X6_whoCut_128] at hm
    refine x_iload6 eX6_whoCut_128 ?_
    refine x_k eX6_whoCut_130 ?_
    refine x_aload0 eX6_whoCut_131 ?_
    refine x_get eX6_whoCut_132 fX6_23 rfl rfl ?_
    refine x_ishl eX6_whoCut_135 ?_
    refine x_icmp_ge eX6_whoCut_136 (fun c => ?_) (fun c => ?_)
    · rw [if_pos c] at hm
      refine x_iload2 eX6_whoCut_200 ?_
      refine x_if_ne eX6_whoCut_201 (fun c => ?_) (fun c => ?_)
      · rw [if_neg c] at hm
        refine x_iload5 eX6_whoCut_209 ?_
        obtain rfl := Option.some.inj hm
        exact x_iret eX6_whoCut_211 ⟨rfl, rfl⟩
      · rw [if_pos c] at hm
        refine x_iload4 eX6_whoCut_204 ?_
        refine x_goto eX6_whoCut_206 ?_
        obtain rfl := Option.some.inj hm
        exact x_iret eX6_whoCut_211 ⟨rfl, rfl⟩
    · rw [if_neg c] at hm
      refine x_iload6 eX6_whoCut_139 ?_
      refine x_iload3 eX6_whoCut_141 ?_
      refine x_k eX6_whoCut_142 ?_
      refine x_ixor eX6_whoCut_143 ?_
      refine x_iand eX6_whoCut_144 ?_
      refine x_if_ne eX6_whoCut_145 (fun c => ?_) (fun c => ?_)
      · rw [if_neg c] at hm
        refine x_iinc6 eX6_whoCut_194 rfl ?_
        refine x_goto eX6_whoCut_197 ?_
        exact ih hm
      · rw [if_pos c] at hm
        refine x_aload0 eX6_whoCut_148 ?_
        refine x_iload6 eX6_whoCut_149 ?_
        obtain ⟨r6, hr, hm⟩ := xo_bind hm
        refine x_Vi1 eX6_whoCut_151 kX6_areApart mX6_278 (t_X6_areApart hr) rfl (Nat.le_of_ble_eq_true rfl) ?_
        refine x_if_eq eX6_whoCut_154 (fun c => ?_) (fun c => ?_)
        · rw [if_pos c] at hm
          refine x_iinc6 eX6_whoCut_194 rfl ?_
          refine x_goto eX6_whoCut_197 ?_
          exact ih hm
        · rw [if_neg c] at hm
          refine x_aload0 eX6_whoCut_157 ?_
          refine x_iload1 eX6_whoCut_158 ?_
          refine x_aload0 eX6_whoCut_159 ?_
          refine x_aload0 eX6_whoCut_160 ?_
          refine x_get eX6_whoCut_161 fX6_104 rfl rfl ?_
          refine x_iload6 eX6_whoCut_164 ?_
          refine x_ior eX6_whoCut_166 ?_
          obtain ⟨r7, hr, hm⟩ := xo_bind hm
          refine x_Vi1 eX6_whoCut_167 kX6_standing mX6_98 (t_X6_standing hr) rfl (Nat.le_of_ble_eq_true rfl) ?_
          obtain ⟨r8, hr, hm⟩ := xo_bind hm
          refine x_Vi2 eX6_whoCut_170 kX6_isSo mX6_310 (t_X6_isSo hr) rfl (Nat.le_of_ble_eq_true rfl) ?_
          refine x_if_eq eX6_whoCut_173 (fun c => ?_) (fun c => ?_)
          · rw [if_pos c] at hm
            refine x_iinc6 eX6_whoCut_194 rfl ?_
            refine x_goto eX6_whoCut_197 ?_
            exact ih hm
          · rw [if_neg c] at hm
            refine x_iinc4 eX6_whoCut_176 rfl ?_
            refine x_iload5 eX6_whoCut_179 ?_
            refine x_k eX6_whoCut_181 ?_
            refine x_icmp_ne eX6_whoCut_182 (fun c => ?_) (fun c => ?_)
            · rw [if_neg c] at hm
              refine x_iload5 eX6_whoCut_190 ?_
              refine x_istore5 eX6_whoCut_192 rfl ?_
              refine x_iinc6 eX6_whoCut_194 rfl ?_
              refine x_goto eX6_whoCut_197 ?_
              exact ih hm
            · rw [if_pos c] at hm
              refine x_iload6 eX6_whoCut_185 ?_
              refine x_goto eX6_whoCut_187 ?_
              refine x_istore5 eX6_whoCut_192 rfl ?_
              refine x_iinc6 eX6_whoCut_194 rfl ?_
              refine x_goto eX6_whoCut_197 ?_
              exact ih hm
set_option maxRecDepth 4000 in
theorem l_X6_whoCut_49 {o : Int32 × (Nat → Int32) × (Nat → Int32)} {u1 : Int32} {u2 : Int32} {m_n : Int32} {m_minds : Int32} {m_lasts : Int32} {m_cutNow : Int32} {m_parents : Nat → Int32} {m_kinds : Nat → Int32} {m_numbers : Nat → Int32} {m_sheetSize : Nat → Int32} {m_items : Nat → Int32} : ∀ (n : Nat) {u3 : Int32} {m_yes : Nat → Int32} {m_no : Nat → Int32}, sp_X6_whoCut_49 u1 u2 m_n m_minds m_lasts m_cutNow m_parents m_kinds m_numbers m_sheetSize m_items n u3 m_yes m_no = some o → xt_T RX6 cX6_whoCut 7 (some .int) (d + 4) (xt_Ki o.1 (WM m_thrown m_textCount m_rule m_taped m_n m_minds m_lasts m_cutNow m_year m_ofNode m_ofDepth m_ofKids m_ofTwigs m_ofLast m_ofYear m_from m_size m_here m_token m_tokenAt m_open m_bad m_fault m_nKept m_mindsKept m_lastsKept m_cutKept m_yearKept m_ruleKept m_tokenWorth m_texts m_textSize m_tape m_parents m_kinds m_numbers m_odds o.2.1 o.2.2 m_prices m_numbersKept m_oddsKept m_isThere m_sorts m_sheetSize m_items)) 49 [some (.ref 0), some (.int u1), some (.int u2), some (.int u3), none, none, none] [] (WM m_thrown m_textCount m_rule m_taped m_n m_minds m_lasts m_cutNow m_year m_ofNode m_ofDepth m_ofKids m_ofTwigs m_ofLast m_ofYear m_from m_size m_here m_token m_tokenAt m_open m_bad m_fault m_nKept m_mindsKept m_lastsKept m_cutKept m_yearKept m_ruleKept m_tokenWorth m_texts m_textSize m_tape m_parents m_kinds m_numbers m_odds m_yes m_no m_prices m_numbersKept m_oddsKept m_isThere m_sorts m_sheetSize m_items) := by
  intro n
  induction n with
  | zero => intro u3 m_yes m_no hm; rw [sp_X6_whoCut_49] at hm; cases hm
  | succ n ih =>
    intro u3 m_yes m_no hm
    rw [sp_X6_whoCut_49] at hm
    refine x_iload3 eX6_whoCut_49 ?_
    refine x_aload0 eX6_whoCut_50 ?_
    refine x_get eX6_whoCut_51 fX6_63 rfl rfl ?_
    refine x_iload1 eX6_whoCut_54 ?_
    obtain ⟨v4, hv, hm⟩ := xo_bind hm
    obtain ⟨hi, rfl⟩ := xo_at_some hv
    refine x_iaload eX6_whoCut_55 rfl hi ?_
    refine x_icmp_ge eX6_whoCut_56 (fun c => ?_) (fun c => ?_)
    · rw [if_pos c] at hm
      refine x_aload0 eX6_whoCut_110 ?_
      refine x_aload0 eX6_whoCut_111 ?_
      refine x_get eX6_whoCut_112 fX6_104 rfl rfl ?_
      obtain ⟨r5, hr, hm⟩ := xo_bind hm
      refine x_Vi1 eX6_whoCut_115 kX6_standing mX6_98 (t_X6_standing hr) rfl (Nat.le_of_ble_eq_true rfl) ?_
      refine x_istore3 eX6_whoCut_118 rfl ?_
      refine x_k eX6_whoCut_119 ?_
      refine x_istore4 eX6_whoCut_120 rfl ?_
      refine x_k eX6_whoCut_122 ?_
      refine x_istore5 eX6_whoCut_123 rfl ?_
      refine x_k eX6_whoCut_125 ?_
      refine x_istore6 eX6_whoCut_126 rfl ?_
      exact l_X6_whoCut_128 _ hm
    · rw [if_neg c] at hm
      refine x_aload0 eX6_whoCut_59 ?_
      refine x_aload0 eX6_whoCut_60 ?_
      refine x_get eX6_whoCut_61 fX6_66 rfl rfl ?_
      refine x_k eX6_whoCut_64 ?_
      refine x_iload1 eX6_whoCut_66 ?_
      refine x_imul eX6_whoCut_67 ?_
      refine x_iload3 eX6_whoCut_68 ?_
      refine x_iadd eX6_whoCut_69 ?_
      obtain ⟨v9, hv, hm⟩ := xo_bind hm
      obtain ⟨hi, rfl⟩ := xo_at_some hv
      refine x_iaload eX6_whoCut_70 rfl hi ?_
      obtain ⟨r10, hr, hm⟩ := xo_bind hm
      refine x_Vi1 eX6_whoCut_71 kX6_isNode mX6_113 (t_X6_isNode hr) rfl (Nat.le_of_ble_eq_true rfl) ?_
      refine x_if_eq eX6_whoCut_74 (fun c => ?_) (fun c => ?_)
      · rw [if_pos c] at hm
        refine x_k eX6_whoCut_101 ?_
        obtain rfl := Option.some.inj hm
        exact x_iret eX6_whoCut_103 ⟨rfl, rfl⟩
      · rw [if_neg c] at hm
        refine x_aload0 eX6_whoCut_77 ?_
        refine x_get eX6_whoCut_78 fX6_66 rfl rfl ?_
        refine x_k eX6_whoCut_81 ?_
        refine x_iload1 eX6_whoCut_83 ?_
        refine x_imul eX6_whoCut_84 ?_
        refine x_iload3 eX6_whoCut_85 ?_
        refine x_iadd eX6_whoCut_86 ?_
        refine x_k eX6_whoCut_87 ?_
        refine x_iadd eX6_whoCut_88 ?_
        obtain ⟨v11, hv, hm⟩ := xo_bind hm
        obtain ⟨hi, rfl⟩ := xo_at_some hv
        refine x_iaload eX6_whoCut_89 rfl hi ?_
        refine x_i2l eX6_whoCut_90 ?_
        refine x_lk eX6_whoCut_91 ?_
        refine x_ldc2 eX6_whoCut_92 cX6_260 ?_
        refine x_Si3 eX6_whoCut_95 kX6_in mX6_76 (t_X6_in rfl) (Nat.le_of_ble_eq_true rfl) ?_
        refine x_if_ne eX6_whoCut_98 (fun c => ?_) (fun c => ?_)
        · rw [if_neg c] at hm
          refine x_iinc3 eX6_whoCut_104 rfl ?_
          refine x_goto eX6_whoCut_107 ?_
          exact ih hm
        · rw [if_pos c] at hm
          refine x_k eX6_whoCut_101 ?_
          obtain rfl := Option.some.inj hm
          exact x_iret eX6_whoCut_103 ⟨rfl, rfl⟩
set_option maxRecDepth 4000 in
theorem t_X6_whoCut {o : Int32 × (Nat → Int32) × (Nat → Int32)} {p1 : Int32} {p2 : Int32} (hm : sp_X6_whoCut p1 p2 m_n m_minds m_lasts m_cutNow m_parents m_kinds m_numbers m_yes m_no m_isThere m_sheetSize m_items = some o) : xt_M yX6_whoCut cX6_whoCut 7 (some .int) (d + 4) [.ref 0, .int p1, .int p2] (WM m_thrown m_textCount m_rule m_taped m_n m_minds m_lasts m_cutNow m_year m_ofNode m_ofDepth m_ofKids m_ofTwigs m_ofLast m_ofYear m_from m_size m_here m_token m_tokenAt m_open m_bad m_fault m_nKept m_mindsKept m_lastsKept m_cutKept m_yearKept m_ruleKept m_tokenWorth m_texts m_textSize m_tape m_parents m_kinds m_numbers m_odds m_yes m_no m_prices m_numbersKept m_oddsKept m_isThere m_sorts m_sheetSize m_items) (xt_Ki o.1 (WM m_thrown m_textCount m_rule m_taped m_n m_minds m_lasts m_cutNow m_year m_ofNode m_ofDepth m_ofKids m_ofTwigs m_ofLast m_ofYear m_from m_size m_here m_token m_tokenAt m_open m_bad m_fault m_nKept m_mindsKept m_lastsKept m_cutKept m_yearKept m_ruleKept m_tokenWorth m_texts m_textSize m_tape m_parents m_kinds m_numbers m_odds o.2.1 o.2.2 m_prices m_numbersKept m_oddsKept m_isThere m_sorts m_sheetSize m_items)) := by
  unfold sp_X6_whoCut at hm
  refine xt_M.go (own := RX6) (lv := [some (.ref 0), some (.int p1), some (.int p2), none, none, none, none]) rfl rfl (Nat.le_of_ble_eq_true rfl) rfl ?_
  refine x_iload1 eX6_whoCut_0 ?_
  obtain ⟨r1, hr, hm⟩ := xo_bind hm
  refine x_Si1 eX6_whoCut_1 kX6_isSheet mX6_307 (t_X6_isSheet hr) (Nat.le_of_ble_eq_true rfl) ?_
  refine x_if_eq eX6_whoCut_4 (fun c => ?_) (fun c => ?_)
  · rw [if_pos c] at hm
    refine x_k eX6_whoCut_17 ?_
    obtain rfl := Option.some.inj hm
    exact x_iret eX6_whoCut_19 ⟨rfl, rfl⟩
  · rw [if_neg c] at hm
    refine x_iload2 eX6_whoCut_7 ?_
    refine x_i2l eX6_whoCut_8 ?_
    refine x_lk eX6_whoCut_9 ?_
    refine x_lk eX6_whoCut_10 ?_
    refine x_Si3 eX6_whoCut_11 kX6_in mX6_76 (t_X6_in rfl) (Nat.le_of_ble_eq_true rfl) ?_
    refine x_if_ne eX6_whoCut_14 (fun c => ?_) (fun c => ?_)
    · rw [if_neg c] at hm
      refine x_aload0 eX6_whoCut_20 ?_
      refine x_get eX6_whoCut_21 fX6_56 rfl rfl ?_
      refine x_iload1 eX6_whoCut_24 ?_
      obtain ⟨v2, hv, hm⟩ := xo_bind hm
      obtain ⟨hi, rfl⟩ := xo_at_some hv
      refine x_baload eX6_whoCut_25 rfl hi ?_
      refine x_if_ne eX6_whoCut_26 (fun c => ?_) (fun c => ?_)
      · rw [if_neg c] at hm
        refine x_aload0 eX6_whoCut_32 ?_
        refine x_get eX6_whoCut_33 fX6_63 rfl rfl ?_
        refine x_iload1 eX6_whoCut_36 ?_
        obtain ⟨v3, hv, hm⟩ := xo_bind hm
        obtain ⟨hi, rfl⟩ := xo_at_some hv
        refine x_iaload eX6_whoCut_37 rfl hi ?_
        refine x_k eX6_whoCut_38 ?_
        refine x_irem eX6_whoCut_39 (by decide) ?_
        refine x_k eX6_whoCut_40 ?_
        refine x_icmp_ne eX6_whoCut_41 (fun c => ?_) (fun c => ?_)
        · rw [if_neg c] at hm
          refine x_k eX6_whoCut_47 ?_
          refine x_istore3 eX6_whoCut_48 rfl ?_
          exact l_X6_whoCut_49 _ hm
        · rw [if_pos c] at hm
          refine x_k eX6_whoCut_44 ?_
          obtain rfl := Option.some.inj hm
          exact x_iret eX6_whoCut_46 ⟨rfl, rfl⟩
      · rw [if_pos c] at hm
        refine x_k eX6_whoCut_29 ?_
        obtain rfl := Option.some.inj hm
        exact x_iret eX6_whoCut_31 ⟨rfl, rfl⟩
    · rw [if_pos c] at hm
      refine x_k eX6_whoCut_17 ?_
      obtain rfl := Option.some.inj hm
      exact x_iret eX6_whoCut_19 ⟨rfl, rfl⟩
set_option maxRecDepth 4000 in
theorem l_X6_value_36 {o : Int32 × (Nat → Int32) × (Nat → Int32)} {R : Int32 → Int32 → Int32 → Int32 → Int32 → Int32 → (Nat → Int32) → (Nat → Int32) → (Nat → Int32) → (Nat → Int32) → (Nat → Int32) → Option (Int32 × (Nat → Int32) × (Nat → Int32))} (hR0 : ∀ {zp1 : Int32} {zp2 : Int32} {zp3 : Int32} {z_m_thrown : Int32} {z_m_textCount : Int32} {z_m_rule : Int32} {z_m_taped : Int32} {z_m_n : Int32} {z_m_minds : Int32} {z_m_lasts : Int32} {z_m_cutNow : Int32} {z_m_year : Int32} {z_m_ofNode : Int32} {z_m_ofDepth : Int32} {z_m_ofKids : Int32} {z_m_ofTwigs : Int32} {z_m_ofLast : Int32} {z_m_ofYear : Int32} {z_m_from : Int32} {z_m_size : Int32} {z_m_here : Int32} {z_m_token : Int32} {z_m_tokenAt : Int32} {z_m_open : Int32} {z_m_bad : Int32} {z_m_fault : Int32} {z_m_nKept : Int32} {z_m_mindsKept : Int32} {z_m_lastsKept : Int32} {z_m_cutKept : Int32} {z_m_yearKept : Int32} {z_m_ruleKept : Int32} {z_m_tokenWorth : Int64} {z_m_texts : Nat → Int32} {z_m_textSize : Nat → Int32} {z_m_tape : Nat → Int32} {z_m_parents : Nat → Int32} {z_m_kinds : Nat → Int32} {z_m_numbers : Nat → Int32} {z_m_odds : Nat → Int32} {z_m_yes : Nat → Int32} {z_m_no : Nat → Int32} {z_m_prices : Nat → Int32} {z_m_numbersKept : Nat → Int32} {z_m_oddsKept : Nat → Int32} {z_m_isThere : Nat → Int32} {z_m_sorts : Nat → Int32} {z_m_sheetSize : Nat → Int32} {z_m_items : Nat → Int32} {r : Int32 × (Nat → Int32) × (Nat → Int32)}, R zp1 zp2 zp3 z_m_n z_m_minds z_m_lasts z_m_parents z_m_kinds z_m_numbers z_m_yes z_m_no = some r → xt_M yX6_value cX6_value 6 (some .int) (d + 4) [.ref 0, .int zp1, .int zp2, .int zp3] (WM z_m_thrown z_m_textCount z_m_rule z_m_taped z_m_n z_m_minds z_m_lasts z_m_cutNow z_m_year z_m_ofNode z_m_ofDepth z_m_ofKids z_m_ofTwigs z_m_ofLast z_m_ofYear z_m_from z_m_size z_m_here z_m_token z_m_tokenAt z_m_open z_m_bad z_m_fault z_m_nKept z_m_mindsKept z_m_lastsKept z_m_cutKept z_m_yearKept z_m_ruleKept z_m_tokenWorth z_m_texts z_m_textSize z_m_tape z_m_parents z_m_kinds z_m_numbers z_m_odds z_m_yes z_m_no z_m_prices z_m_numbersKept z_m_oddsKept z_m_isThere z_m_sorts z_m_sheetSize z_m_items) (xt_Ki r.1 (WM z_m_thrown z_m_textCount z_m_rule z_m_taped z_m_n z_m_minds z_m_lasts z_m_cutNow z_m_year z_m_ofNode z_m_ofDepth z_m_ofKids z_m_ofTwigs z_m_ofLast z_m_ofYear z_m_from z_m_size z_m_here z_m_token z_m_tokenAt z_m_open z_m_bad z_m_fault z_m_nKept z_m_mindsKept z_m_lastsKept z_m_cutKept z_m_yearKept z_m_ruleKept z_m_tokenWorth z_m_texts z_m_textSize z_m_tape z_m_parents z_m_kinds z_m_numbers z_m_odds r.2.1 r.2.2 z_m_prices z_m_numbersKept z_m_oddsKept z_m_isThere z_m_sorts z_m_sheetSize z_m_items))) {u1 : Int32} {u2 : Int32} {u3 : Int32} {u4 : Int32} {m_n : Int32} {m_minds : Int32} {m_lasts : Int32} {m_parents : Nat → Int32} {m_kinds : Nat → Int32} {m_numbers : Nat → Int32} : ∀ (n : Nat) {u5 : Int32} {m_yes : Nat → Int32} {m_no : Nat → Int32}, sp_X6_value_36 R u1 u2 u3 u4 m_n m_minds m_lasts m_parents m_kinds m_numbers n u5 m_yes m_no = some o → xt_T RX6 cX6_value 6 (some .int) (d + 4 + 1) (xt_Ki o.1 (WM m_thrown m_textCount m_rule m_taped m_n m_minds m_lasts m_cutNow m_year m_ofNode m_ofDepth m_ofKids m_ofTwigs m_ofLast m_ofYear m_from m_size m_here m_token m_tokenAt m_open m_bad m_fault m_nKept m_mindsKept m_lastsKept m_cutKept m_yearKept m_ruleKept m_tokenWorth m_texts m_textSize m_tape m_parents m_kinds m_numbers m_odds o.2.1 o.2.2 m_prices m_numbersKept m_oddsKept m_isThere m_sorts m_sheetSize m_items)) 36 [some (.ref 0), some (.int u1), some (.int u2), some (.int u3), some (.int u4), some (.int u5)] [] (WM m_thrown m_textCount m_rule m_taped m_n m_minds m_lasts m_cutNow m_year m_ofNode m_ofDepth m_ofKids m_ofTwigs m_ofLast m_ofYear m_from m_size m_here m_token m_tokenAt m_open m_bad m_fault m_nKept m_mindsKept m_lastsKept m_cutKept m_yearKept m_ruleKept m_tokenWorth m_texts m_textSize m_tape m_parents m_kinds m_numbers m_odds m_yes m_no m_prices m_numbersKept m_oddsKept m_isThere m_sorts m_sheetSize m_items) := by
  intro n
  induction n with
  | zero => intro u5 m_yes m_no hm; rw [sp_X6_value_36] at hm; cases hm
  | succ n ih =>
    intro u5 m_yes m_no hm
    rw [sp_X6_value_36] at hm
    refine x_iload5 eX6_value_36 ?_
    refine x_aload0 eX6_value_38 ?_
    refine x_get eX6_value_39 fX6_23 rfl rfl ?_
    refine x_icmp_ge eX6_value_42 (fun c => ?_) (fun c => ?_)
    · rw [if_pos c] at hm
      refine x_k eX6_value_84 ?_
      refine x_iload3 eX6_value_85 ?_
      refine x_isub eX6_value_86 ?_
      obtain rfl := Option.some.inj hm
      exact x_iret eX6_value_87 ⟨rfl, rfl⟩
    · rw [if_neg c] at hm
      refine x_iload4 eX6_value_45 ?_
      refine x_iload5 eX6_value_47 ?_
      refine x_ishr eX6_value_49 ?_
      refine x_k eX6_value_50 ?_
      refine x_iand eX6_value_51 ?_
      refine x_k eX6_value_52 ?_
      refine x_icmp_ne eX6_value_53 (fun c => ?_) (fun c => ?_)
      · rw [if_neg c] at hm
        refine x_iinc5 eX6_value_78 rfl ?_
        refine x_goto eX6_value_81 ?_
        exact ih hm
      · rw [if_pos c] at hm
        refine x_aload0 eX6_value_56 ?_
        refine x_iload1 eX6_value_57 ?_
        refine x_k eX6_value_58 ?_
        refine x_iload5 eX6_value_59 ?_
        refine x_ishl eX6_value_61 ?_
        refine x_ior eX6_value_62 ?_
        refine x_iload2 eX6_value_63 ?_
        refine x_k eX6_value_64 ?_
        refine x_isub eX6_value_65 ?_
        refine x_k eX6_value_66 ?_
        refine x_iload3 eX6_value_67 ?_
        refine x_isub eX6_value_68 ?_
        obtain ⟨r4, hr, hm⟩ := xo_bind hm
        refine x_Vi3 eX6_value_69 kX6_value mX6_304 (hR0 hr) rfl (Nat.le_of_ble_eq_true rfl) ?_
        refine x_iload3 eX6_value_72 ?_
        refine x_icmp_ne eX6_value_73 (fun c => ?_) (fun c => ?_)
        · rw [if_neg c] at hm
          refine x_iinc5 eX6_value_78 rfl ?_
          refine x_goto eX6_value_81 ?_
          exact ih hm
        · rw [if_pos c] at hm
          refine x_iload3 eX6_value_76 ?_
          obtain rfl := Option.some.inj hm
          exact x_iret eX6_value_77 ⟨rfl, rfl⟩
set_option maxRecDepth 4000 in
theorem t_X6_value {o : Int32 × (Nat → Int32) × (Nat → Int32)} {R : Int32 → Int32 → Int32 → Int32 → Int32 → Int32 → (Nat → Int32) → (Nat → Int32) → (Nat → Int32) → (Nat → Int32) → (Nat → Int32) → Option (Int32 × (Nat → Int32) × (Nat → Int32))} (hR0 : ∀ {zp1 : Int32} {zp2 : Int32} {zp3 : Int32} {z_m_thrown : Int32} {z_m_textCount : Int32} {z_m_rule : Int32} {z_m_taped : Int32} {z_m_n : Int32} {z_m_minds : Int32} {z_m_lasts : Int32} {z_m_cutNow : Int32} {z_m_year : Int32} {z_m_ofNode : Int32} {z_m_ofDepth : Int32} {z_m_ofKids : Int32} {z_m_ofTwigs : Int32} {z_m_ofLast : Int32} {z_m_ofYear : Int32} {z_m_from : Int32} {z_m_size : Int32} {z_m_here : Int32} {z_m_token : Int32} {z_m_tokenAt : Int32} {z_m_open : Int32} {z_m_bad : Int32} {z_m_fault : Int32} {z_m_nKept : Int32} {z_m_mindsKept : Int32} {z_m_lastsKept : Int32} {z_m_cutKept : Int32} {z_m_yearKept : Int32} {z_m_ruleKept : Int32} {z_m_tokenWorth : Int64} {z_m_texts : Nat → Int32} {z_m_textSize : Nat → Int32} {z_m_tape : Nat → Int32} {z_m_parents : Nat → Int32} {z_m_kinds : Nat → Int32} {z_m_numbers : Nat → Int32} {z_m_odds : Nat → Int32} {z_m_yes : Nat → Int32} {z_m_no : Nat → Int32} {z_m_prices : Nat → Int32} {z_m_numbersKept : Nat → Int32} {z_m_oddsKept : Nat → Int32} {z_m_isThere : Nat → Int32} {z_m_sorts : Nat → Int32} {z_m_sheetSize : Nat → Int32} {z_m_items : Nat → Int32} {r : Int32 × (Nat → Int32) × (Nat → Int32)}, R zp1 zp2 zp3 z_m_n z_m_minds z_m_lasts z_m_parents z_m_kinds z_m_numbers z_m_yes z_m_no = some r → xt_M yX6_value cX6_value 6 (some .int) (d + 4) [.ref 0, .int zp1, .int zp2, .int zp3] (WM z_m_thrown z_m_textCount z_m_rule z_m_taped z_m_n z_m_minds z_m_lasts z_m_cutNow z_m_year z_m_ofNode z_m_ofDepth z_m_ofKids z_m_ofTwigs z_m_ofLast z_m_ofYear z_m_from z_m_size z_m_here z_m_token z_m_tokenAt z_m_open z_m_bad z_m_fault z_m_nKept z_m_mindsKept z_m_lastsKept z_m_cutKept z_m_yearKept z_m_ruleKept z_m_tokenWorth z_m_texts z_m_textSize z_m_tape z_m_parents z_m_kinds z_m_numbers z_m_odds z_m_yes z_m_no z_m_prices z_m_numbersKept z_m_oddsKept z_m_isThere z_m_sorts z_m_sheetSize z_m_items) (xt_Ki r.1 (WM z_m_thrown z_m_textCount z_m_rule z_m_taped z_m_n z_m_minds z_m_lasts z_m_cutNow z_m_year z_m_ofNode z_m_ofDepth z_m_ofKids z_m_ofTwigs z_m_ofLast z_m_ofYear z_m_from z_m_size z_m_here z_m_token z_m_tokenAt z_m_open z_m_bad z_m_fault z_m_nKept z_m_mindsKept z_m_lastsKept z_m_cutKept z_m_yearKept z_m_ruleKept z_m_tokenWorth z_m_texts z_m_textSize z_m_tape z_m_parents z_m_kinds z_m_numbers z_m_odds r.2.1 r.2.2 z_m_prices z_m_numbersKept z_m_oddsKept z_m_isThere z_m_sorts z_m_sheetSize z_m_items))) {p1 : Int32} {p2 : Int32} {p3 : Int32} (hm : sp_X6_value R p1 p2 p3 m_n m_minds m_lasts m_parents m_kinds m_numbers m_yes m_no = some o) : xt_M yX6_value cX6_value 6 (some .int) (d + 4 + 1) [.ref 0, .int p1, .int p2, .int p3] (WM m_thrown m_textCount m_rule m_taped m_n m_minds m_lasts m_cutNow m_year m_ofNode m_ofDepth m_ofKids m_ofTwigs m_ofLast m_ofYear m_from m_size m_here m_token m_tokenAt m_open m_bad m_fault m_nKept m_mindsKept m_lastsKept m_cutKept m_yearKept m_ruleKept m_tokenWorth m_texts m_textSize m_tape m_parents m_kinds m_numbers m_odds m_yes m_no m_prices m_numbersKept m_oddsKept m_isThere m_sorts m_sheetSize m_items) (xt_Ki o.1 (WM m_thrown m_textCount m_rule m_taped m_n m_minds m_lasts m_cutNow m_year m_ofNode m_ofDepth m_ofKids m_ofTwigs m_ofLast m_ofYear m_from m_size m_here m_token m_tokenAt m_open m_bad m_fault m_nKept m_mindsKept m_lastsKept m_cutKept m_yearKept m_ruleKept m_tokenWorth m_texts m_textSize m_tape m_parents m_kinds m_numbers m_odds o.2.1 o.2.2 m_prices m_numbersKept m_oddsKept m_isThere m_sorts m_sheetSize m_items)) := by
  unfold sp_X6_value at hm
  refine xt_M.go (own := RX6) (lv := [some (.ref 0), some (.int p1), some (.int p2), some (.int p3), none, none]) rfl rfl (Nat.le_of_ble_eq_true rfl) rfl ?_
  refine x_aload0 eX6_value_0 ?_
  refine x_aload0 eX6_value_1 ?_
  refine x_iload1 eX6_value_2 ?_
  obtain ⟨r1, hr, hm⟩ := xo_bind hm
  refine x_Vi1 eX6_value_3 kX6_standing mX6_98 (t_X6_standing hr) rfl (Nat.le_of_ble_eq_true rfl) ?_
  obtain ⟨r2, hr, hm⟩ := xo_bind hm
  refine x_Vi1 eX6_value_6 kX6_twigs mX6_268 (t_X6_twigs hr) rfl (Nat.le_of_ble_eq_true rfl) ?_
  refine x_k eX6_value_9 ?_
  refine x_iand eX6_value_11 ?_
  refine x_istore4 eX6_value_12 rfl ?_
  refine x_iload2 eX6_value_14 ?_
  refine x_if_eq eX6_value_15 (fun c => ?_) (fun c => ?_)
  · rw [if_pos c] at hm
    refine x_aload0 eX6_value_23 ?_
    refine x_iload1 eX6_value_24 ?_
    refine x_aload0 eX6_value_25 ?_
    refine x_get eX6_value_26 fX6_107 rfl rfl ?_
    obtain ⟨r3, hr, hm⟩ := xo_bind hm
    refine x_Vi2 eX6_value_29 kX6_lawOf mX6_110 (t_X6_lawOf hr) rfl (Nat.le_of_ble_eq_true rfl) ?_
    obtain rfl := Option.some.inj hm
    exact x_iret eX6_value_32 ⟨rfl, rfl⟩
  · rw [if_neg c] at hm
    refine x_iload4 eX6_value_18 ?_
    refine x_if_ne eX6_value_20 (fun c => ?_) (fun c => ?_)
    · rw [if_neg c] at hm
      refine x_k eX6_value_33 ?_
      refine x_istore5 eX6_value_34 rfl ?_
      exact l_X6_value_36 hR0 _ hm
    · rw [if_pos c] at hm
      refine x_aload0 eX6_value_23 ?_
      refine x_iload1 eX6_value_24 ?_
      refine x_aload0 eX6_value_25 ?_
      refine x_get eX6_value_26 fX6_107 rfl rfl ?_
      obtain ⟨r5, hr, hm⟩ := xo_bind hm
      refine x_Vi2 eX6_value_29 kX6_lawOf mX6_110 (t_X6_lawOf hr) rfl (Nat.le_of_ble_eq_true rfl) ?_
      obtain rfl := Option.some.inj hm
      exact x_iret eX6_value_32 ⟨rfl, rfl⟩
set_option maxRecDepth 4000 in
theorem t_gXV : ∀ n : Nat, (∀ {zp1 : Int32} {zp2 : Int32} {zp3 : Int32} {z_m_thrown : Int32} {z_m_textCount : Int32} {z_m_rule : Int32} {z_m_taped : Int32} {z_m_n : Int32} {z_m_minds : Int32} {z_m_lasts : Int32} {z_m_cutNow : Int32} {z_m_year : Int32} {z_m_ofNode : Int32} {z_m_ofDepth : Int32} {z_m_ofKids : Int32} {z_m_ofTwigs : Int32} {z_m_ofLast : Int32} {z_m_ofYear : Int32} {z_m_from : Int32} {z_m_size : Int32} {z_m_here : Int32} {z_m_token : Int32} {z_m_tokenAt : Int32} {z_m_open : Int32} {z_m_bad : Int32} {z_m_fault : Int32} {z_m_nKept : Int32} {z_m_mindsKept : Int32} {z_m_lastsKept : Int32} {z_m_cutKept : Int32} {z_m_yearKept : Int32} {z_m_ruleKept : Int32} {z_m_tokenWorth : Int64} {z_m_texts : Nat → Int32} {z_m_textSize : Nat → Int32} {z_m_tape : Nat → Int32} {z_m_parents : Nat → Int32} {z_m_kinds : Nat → Int32} {z_m_numbers : Nat → Int32} {z_m_odds : Nat → Int32} {z_m_yes : Nat → Int32} {z_m_no : Nat → Int32} {z_m_prices : Nat → Int32} {z_m_numbersKept : Nat → Int32} {z_m_oddsKept : Nat → Int32} {z_m_isThere : Nat → Int32} {z_m_sorts : Nat → Int32} {z_m_sheetSize : Nat → Int32} {z_m_items : Nat → Int32} {r : Int32 × (Nat → Int32) × (Nat → Int32)}, sp_gXV n zp1 zp2 zp3 z_m_n z_m_minds z_m_lasts z_m_parents z_m_kinds z_m_numbers z_m_yes z_m_no = some r → xt_M yX6_value cX6_value 6 (some .int) (d + n + 4) [.ref 0, .int zp1, .int zp2, .int zp3] (WM z_m_thrown z_m_textCount z_m_rule z_m_taped z_m_n z_m_minds z_m_lasts z_m_cutNow z_m_year z_m_ofNode z_m_ofDepth z_m_ofKids z_m_ofTwigs z_m_ofLast z_m_ofYear z_m_from z_m_size z_m_here z_m_token z_m_tokenAt z_m_open z_m_bad z_m_fault z_m_nKept z_m_mindsKept z_m_lastsKept z_m_cutKept z_m_yearKept z_m_ruleKept z_m_tokenWorth z_m_texts z_m_textSize z_m_tape z_m_parents z_m_kinds z_m_numbers z_m_odds z_m_yes z_m_no z_m_prices z_m_numbersKept z_m_oddsKept z_m_isThere z_m_sorts z_m_sheetSize z_m_items) (xt_Ki r.1 (WM z_m_thrown z_m_textCount z_m_rule z_m_taped z_m_n z_m_minds z_m_lasts z_m_cutNow z_m_year z_m_ofNode z_m_ofDepth z_m_ofKids z_m_ofTwigs z_m_ofLast z_m_ofYear z_m_from z_m_size z_m_here z_m_token z_m_tokenAt z_m_open z_m_bad z_m_fault z_m_nKept z_m_mindsKept z_m_lastsKept z_m_cutKept z_m_yearKept z_m_ruleKept z_m_tokenWorth z_m_texts z_m_textSize z_m_tape z_m_parents z_m_kinds z_m_numbers z_m_odds r.2.1 r.2.2 z_m_prices z_m_numbersKept z_m_oddsKept z_m_isThere z_m_sorts z_m_sheetSize z_m_items))) := by
  intro n
  induction n with
  | zero => intros; rename_i hm; rw [sp_gXV] at hm; cases hm
  | succ n ih => intros; rename_i hm; rw [sp_gXV] at hm; exact t_X6_value (d := d + n) ih hm
set_option maxRecDepth 4000 in
theorem l_X6_turns_72 {o : Int32 × (Nat → Int32) × (Nat → Int32)} {u1 : Int32} {u3 : Int32} {u4 : Int32} {m_n : Int32} {m_minds : Int32} {m_lasts : Int32} {m_cutNow : Int32} {m_parents : Nat → Int32} {m_kinds : Nat → Int32} {m_numbers : Nat → Int32} {u2 : Int32} : ∀ (n : Nat) {u5 : Int32} {m_yes : Nat → Int32} {m_no : Nat → Int32}, sp_X6_turns_72 u1 u3 u4 m_n m_minds m_lasts m_cutNow m_parents m_kinds m_numbers n u5 m_yes m_no = some o → xt_T RX6 cX6_turns 6 (some .int) (d + 13) (xt_Ki o.1 (WM m_thrown m_textCount m_rule m_taped m_n m_minds m_lasts m_cutNow m_year m_ofNode m_ofDepth m_ofKids m_ofTwigs m_ofLast m_ofYear m_from m_size m_here m_token m_tokenAt m_open m_bad m_fault m_nKept m_mindsKept m_lastsKept m_cutKept m_yearKept m_ruleKept m_tokenWorth m_texts m_textSize m_tape m_parents m_kinds m_numbers m_odds o.2.1 o.2.2 m_prices m_numbersKept m_oddsKept m_isThere m_sorts m_sheetSize m_items)) 72 [some (.ref 0), some (.int u1), some (.int u2), some (.int u3), some (.int u4), some (.int u5)] [] (WM m_thrown m_textCount m_rule m_taped m_n m_minds m_lasts m_cutNow m_year m_ofNode m_ofDepth m_ofKids m_ofTwigs m_ofLast m_ofYear m_from m_size m_here m_token m_tokenAt m_open m_bad m_fault m_nKept m_mindsKept m_lastsKept m_cutKept m_yearKept m_ruleKept m_tokenWorth m_texts m_textSize m_tape m_parents m_kinds m_numbers m_odds m_yes m_no m_prices m_numbersKept m_oddsKept m_isThere m_sorts m_sheetSize m_items) := by
  intro n
  induction n with
  | zero => intro u5 m_yes m_no hm; rw [sp_X6_turns_72] at hm; cases hm
  | succ n ih =>
    intro u5 m_yes m_no hm
    rw [sp_X6_turns_72] at hm
    refine x_iload5 eX6_turns_72 ?_
    refine x_aload0 eX6_turns_74 ?_
    refine x_get eX6_turns_75 fX6_23 rfl rfl ?_
    refine x_icmp_ge eX6_turns_78 (fun c => ?_) (fun c => ?_)
    · rw [if_pos c] at hm
      refine x_k eX6_turns_126 ?_
      obtain rfl := Option.some.inj hm
      exact x_iret eX6_turns_127 ⟨rfl, rfl⟩
    · rw [if_neg c] at hm
      refine x_iload1 eX6_turns_81 ?_
      refine x_if_le eX6_turns_82 (fun c => ?_) (fun c => ?_)
      · rw [if_pos c] at hm
        refine x_k eX6_turns_126 ?_
        obtain rfl := Option.some.inj hm
        exact x_iret eX6_turns_127 ⟨rfl, rfl⟩
      · rw [if_neg c] at hm
        refine x_iload3 eX6_turns_85 ?_
        refine x_iload5 eX6_turns_86 ?_
        refine x_ishr eX6_turns_88 ?_
        refine x_k eX6_turns_89 ?_
        refine x_iand eX6_turns_90 ?_
        refine x_k eX6_turns_91 ?_
        refine x_icmp_ne eX6_turns_92 (fun c => ?_) (fun c => ?_)
        · rw [if_neg c] at hm
          refine x_iinc5 eX6_turns_120 rfl ?_
          refine x_goto eX6_turns_123 ?_
          exact ih hm
        · rw [if_pos c] at hm
          refine x_aload0 eX6_turns_95 ?_
          refine x_aload0 eX6_turns_96 ?_
          refine x_get eX6_turns_97 fX6_104 rfl rfl ?_
          refine x_k eX6_turns_100 ?_
          refine x_iload5 eX6_turns_101 ?_
          refine x_ishl eX6_turns_103 ?_
          refine x_ior eX6_turns_104 ?_
          refine x_iload1 eX6_turns_105 ?_
          refine x_k eX6_turns_106 ?_
          refine x_isub eX6_turns_107 ?_
          refine x_k eX6_turns_108 ?_
          obtain ⟨r5, hr, hm⟩ := xo_bind hm
          refine x_Vi3 eX6_turns_109 kX6_value mX6_304 ((t_gXV 8) hr) rfl (Nat.le_of_ble_eq_true rfl) ?_
          refine x_iload4 eX6_turns_112 ?_
          refine x_icmp_ne eX6_turns_114 (fun c => ?_) (fun c => ?_)
          · rw [if_neg c] at hm
            refine x_iinc5 eX6_turns_120 rfl ?_
            refine x_goto eX6_turns_123 ?_
            exact ih hm
          · rw [if_pos c] at hm
            refine x_iload5 eX6_turns_117 ?_
            obtain rfl := Option.some.inj hm
            exact x_iret eX6_turns_119 ⟨rfl, rfl⟩
set_option maxRecDepth 4000 in
theorem t_X6_turns {o : Int32 × (Nat → Int32) × (Nat → Int32)} {p1 : Int32} {p2 : Int32} (hm : sp_X6_turns p1 p2 m_n m_minds m_lasts m_cutNow m_parents m_kinds m_numbers m_yes m_no = some o) : xt_M yX6_turns cX6_turns 6 (some .int) (d + 13) [.ref 0, .int p1, .int p2] (WM m_thrown m_textCount m_rule m_taped m_n m_minds m_lasts m_cutNow m_year m_ofNode m_ofDepth m_ofKids m_ofTwigs m_ofLast m_ofYear m_from m_size m_here m_token m_tokenAt m_open m_bad m_fault m_nKept m_mindsKept m_lastsKept m_cutKept m_yearKept m_ruleKept m_tokenWorth m_texts m_textSize m_tape m_parents m_kinds m_numbers m_odds m_yes m_no m_prices m_numbersKept m_oddsKept m_isThere m_sorts m_sheetSize m_items) (xt_Ki o.1 (WM m_thrown m_textCount m_rule m_taped m_n m_minds m_lasts m_cutNow m_year m_ofNode m_ofDepth m_ofKids m_ofTwigs m_ofLast m_ofYear m_from m_size m_here m_token m_tokenAt m_open m_bad m_fault m_nKept m_mindsKept m_lastsKept m_cutKept m_yearKept m_ruleKept m_tokenWorth m_texts m_textSize m_tape m_parents m_kinds m_numbers m_odds o.2.1 o.2.2 m_prices m_numbersKept m_oddsKept m_isThere m_sorts m_sheetSize m_items)) := by
  unfold sp_X6_turns at hm
  refine xt_M.go (own := RX6) (lv := [some (.ref 0), some (.int p1), some (.int p2), none, none, none]) rfl rfl (Nat.le_of_ble_eq_true rfl) rfl ?_
  refine x_iload1 eX6_turns_0 ?_
  refine x_i2l eX6_turns_1 ?_
  refine x_lk eX6_turns_2 ?_
  refine x_ldc2 eX6_turns_3 cX6_121 ?_
  refine x_Si3 eX6_turns_6 kX6_in mX6_76 (t_X6_in rfl) (Nat.le_of_ble_eq_true rfl) ?_
  refine x_if_eq eX6_turns_9 (fun c => ?_) (fun c => ?_)
  · rw [if_pos c] at hm
    refine x_k eX6_turns_22 ?_
    obtain rfl := Option.some.inj hm
    exact x_iret eX6_turns_24 ⟨rfl, rfl⟩
  · rw [if_neg c] at hm
    refine x_iload2 eX6_turns_12 ?_
    refine x_i2l eX6_turns_13 ?_
    refine x_lk eX6_turns_14 ?_
    refine x_lk eX6_turns_15 ?_
    refine x_Si3 eX6_turns_16 kX6_in mX6_76 (t_X6_in rfl) (Nat.le_of_ble_eq_true rfl) ?_
    refine x_if_ne eX6_turns_19 (fun c => ?_) (fun c => ?_)
    · rw [if_neg c] at hm
      refine x_aload0 eX6_turns_25 ?_
      refine x_aload0 eX6_turns_26 ?_
      refine x_aload0 eX6_turns_27 ?_
      refine x_get eX6_turns_28 fX6_104 rfl rfl ?_
      obtain ⟨r1, hr, hm⟩ := xo_bind hm
      refine x_Vi1 eX6_turns_31 kX6_standing mX6_98 (t_X6_standing hr) rfl (Nat.le_of_ble_eq_true rfl) ?_
      obtain ⟨r2, hr, hm⟩ := xo_bind hm
      refine x_Vi1 eX6_turns_34 kX6_twigs mX6_268 (t_X6_twigs hr) rfl (Nat.le_of_ble_eq_true rfl) ?_
      refine x_istore3 eX6_turns_37 rfl ?_
      refine x_iload3 eX6_turns_38 ?_
      obtain ⟨r3, hr, hm⟩ := xo_bind hm
      refine x_Si1 eX6_turns_39 kX6_bitsOf mX6_265 (t_X6_bitsOf hr) (Nat.le_of_ble_eq_true rfl) ?_
      refine x_k eX6_turns_42 ?_
      refine x_icmp_le eX6_turns_44 (fun c => ?_) (fun c => ?_)
      · rw [if_pos c] at hm
        refine x_aload0 eX6_turns_50 ?_
        refine x_aload0 eX6_turns_51 ?_
        refine x_get eX6_turns_52 fX6_104 rfl rfl ?_
        refine x_iload1 eX6_turns_55 ?_
        refine x_k eX6_turns_56 ?_
        obtain ⟨r4, hr, hm⟩ := xo_bind hm
        refine x_Vi3 eX6_turns_57 kX6_value mX6_304 ((t_gXV 8) hr) rfl (Nat.le_of_ble_eq_true rfl) ?_
        refine x_istore4 eX6_turns_60 rfl ?_
        refine x_iload2 eX6_turns_62 ?_
        refine x_if_ne eX6_turns_63 (fun c => ?_) (fun c => ?_)
        · rw [if_neg c] at hm
          refine x_k eX6_turns_69 ?_
          refine x_istore5 eX6_turns_70 rfl ?_
          exact l_X6_turns_72 _ hm
        · rw [if_pos c] at hm
          refine x_iload4 eX6_turns_66 ?_
          obtain rfl := Option.some.inj hm
          exact x_iret eX6_turns_68 ⟨rfl, rfl⟩
      · rw [if_neg c] at hm
        refine x_k eX6_turns_47 ?_
        obtain rfl := Option.some.inj hm
        exact x_iret eX6_turns_49 ⟨rfl, rfl⟩
    · rw [if_pos c] at hm
      refine x_k eX6_turns_22 ?_
      obtain rfl := Option.some.inj hm
      exact x_iret eX6_turns_24 ⟨rfl, rfl⟩
set_option maxRecDepth 4000 in
theorem l_X6_drawn_21 {o : Int32 × (Nat → Int32) × (Nat → Int32)} {u2 : Int32} {m_n : Int32} {m_lasts : Int32} {m_cutNow : Int32} {m_parents : Nat → Int32} {m_kinds : Nat → Int32} {m_numbers : Nat → Int32} {m_odds : Nat → Int32} {u1 : Int32} : ∀ (n : Nat) {u3 : Int32} {u4 : Int32} {u5 : Int32} {m_yes : Nat → Int32} {m_no : Nat → Int32}, sp_X6_drawn_21 u2 m_n m_lasts m_cutNow m_parents m_kinds m_numbers m_odds n u3 u4 u5 m_yes m_no = some o → xt_T RX6 cX6_drawn 6 (some .int) (d + 4) (xt_Ki o.1 (WM m_thrown m_textCount m_rule m_taped m_n m_minds m_lasts m_cutNow m_year m_ofNode m_ofDepth m_ofKids m_ofTwigs m_ofLast m_ofYear m_from m_size m_here m_token m_tokenAt m_open m_bad m_fault m_nKept m_mindsKept m_lastsKept m_cutKept m_yearKept m_ruleKept m_tokenWorth m_texts m_textSize m_tape m_parents m_kinds m_numbers m_odds o.2.1 o.2.2 m_prices m_numbersKept m_oddsKept m_isThere m_sorts m_sheetSize m_items)) 21 [some (.ref 0), some (.int u1), some (.int u2), some (.int u3), some (.int u4), some (.int u5)] [] (WM m_thrown m_textCount m_rule m_taped m_n m_minds m_lasts m_cutNow m_year m_ofNode m_ofDepth m_ofKids m_ofTwigs m_ofLast m_ofYear m_from m_size m_here m_token m_tokenAt m_open m_bad m_fault m_nKept m_mindsKept m_lastsKept m_cutKept m_yearKept m_ruleKept m_tokenWorth m_texts m_textSize m_tape m_parents m_kinds m_numbers m_odds m_yes m_no m_prices m_numbersKept m_oddsKept m_isThere m_sorts m_sheetSize m_items) := by
  intro n
  induction n with
  | zero => intro u3 u4 u5 m_yes m_no hm; rw [sp_X6_drawn_21] at hm; cases hm
  | succ n ih =>
    intro u3 u4 u5 m_yes m_no hm
    rw [sp_X6_drawn_21] at hm
    refine x_iload5 eX6_drawn_21 ?_
    refine x_aload0 eX6_drawn_23 ?_
    refine x_get eX6_drawn_24 fX6_23 rfl rfl ?_
    refine x_icmp_ge eX6_drawn_27 (fun c => ?_) (fun c => ?_)
    · rw [if_pos c] at hm
      refine x_aload0 eX6_drawn_86 ?_
      refine x_aload0 eX6_drawn_87 ?_
      refine x_get eX6_drawn_88 fX6_104 rfl rfl ?_
      refine x_iload4 eX6_drawn_91 ?_
      obtain ⟨r3, hr, hm⟩ := xo_bind hm
      refine x_Vi2 eX6_drawn_93 kX6_lawOf mX6_110 (t_X6_lawOf hr) rfl (Nat.le_of_ble_eq_true rfl) ?_
      obtain rfl := Option.some.inj hm
      exact x_iret eX6_drawn_96 ⟨rfl, rfl⟩
    · rw [if_neg c] at hm
      refine x_iload2 eX6_drawn_30 ?_
      refine x_iload5 eX6_drawn_31 ?_
      refine x_ishr eX6_drawn_33 ?_
      refine x_k eX6_drawn_34 ?_
      refine x_iand eX6_drawn_35 ?_
      refine x_k eX6_drawn_36 ?_
      refine x_icmp_ne eX6_drawn_37 (fun c => ?_) (fun c => ?_)
      · rw [if_neg c] at hm
        refine x_iinc5 eX6_drawn_80 rfl ?_
        refine x_goto eX6_drawn_83 ?_
        exact ih hm
      · rw [if_pos c] at hm
        refine x_iload3 eX6_drawn_40 ?_
        refine x_ldcw eX6_drawn_41 cX6_313 ?_
        refine x_imul eX6_drawn_44 ?_
        refine x_k eX6_drawn_45 ?_
        refine x_iadd eX6_drawn_48 ?_
        refine x_istore3 eX6_drawn_49 rfl ?_
        refine x_iload4 eX6_drawn_50 ?_
        refine x_iload3 eX6_drawn_52 ?_
        refine x_k eX6_drawn_53 ?_
        refine x_iushr eX6_drawn_55 ?_
        refine x_k eX6_drawn_56 ?_
        refine x_irem eX6_drawn_58 (by decide) ?_
        refine x_aload0 eX6_drawn_59 ?_
        refine x_get eX6_drawn_60 fX6_35 rfl rfl ?_
        refine x_iload5 eX6_drawn_63 ?_
        obtain ⟨v4, hv, hm⟩ := xo_bind hm
        obtain ⟨hi, rfl⟩ := xo_at_some hv
        refine x_iaload eX6_drawn_65 rfl hi ?_
        refine x_icmp_ge eX6_drawn_66 (fun c => ?_) (fun c => ?_)
        · rw [if_pos c] at hm
          refine x_k eX6_drawn_73 ?_
          refine x_iload5 eX6_drawn_74 ?_
          refine x_ishl eX6_drawn_76 ?_
          refine x_ior eX6_drawn_77 ?_
          refine x_istore4 eX6_drawn_78 rfl ?_
          refine x_iinc5 eX6_drawn_80 rfl ?_
          refine x_goto eX6_drawn_83 ?_
          exact ih hm
        · rw [if_neg c] at hm
          refine x_k eX6_drawn_69 ?_
          refine x_goto eX6_drawn_70 ?_
          refine x_iload5 eX6_drawn_74 ?_
          refine x_ishl eX6_drawn_76 ?_
          refine x_ior eX6_drawn_77 ?_
          refine x_istore4 eX6_drawn_78 rfl ?_
          refine x_iinc5 eX6_drawn_80 rfl ?_
          refine x_goto eX6_drawn_83 ?_
          exact ih hm
set_option maxRecDepth 4000 in
theorem t_X6_drawn {o : Int32 × (Nat → Int32) × (Nat → Int32)} {p1 : Int32} (hm : sp_X6_drawn p1 m_n m_lasts m_cutNow m_parents m_kinds m_numbers m_odds m_yes m_no = some o) : xt_M yX6_drawn cX6_drawn 6 (some .int) (d + 4) [.ref 0, .int p1] (WM m_thrown m_textCount m_rule m_taped m_n m_minds m_lasts m_cutNow m_year m_ofNode m_ofDepth m_ofKids m_ofTwigs m_ofLast m_ofYear m_from m_size m_here m_token m_tokenAt m_open m_bad m_fault m_nKept m_mindsKept m_lastsKept m_cutKept m_yearKept m_ruleKept m_tokenWorth m_texts m_textSize m_tape m_parents m_kinds m_numbers m_odds m_yes m_no m_prices m_numbersKept m_oddsKept m_isThere m_sorts m_sheetSize m_items) (xt_Ki o.1 (WM m_thrown m_textCount m_rule m_taped m_n m_minds m_lasts m_cutNow m_year m_ofNode m_ofDepth m_ofKids m_ofTwigs m_ofLast m_ofYear m_from m_size m_here m_token m_tokenAt m_open m_bad m_fault m_nKept m_mindsKept m_lastsKept m_cutKept m_yearKept m_ruleKept m_tokenWorth m_texts m_textSize m_tape m_parents m_kinds m_numbers m_odds o.2.1 o.2.2 m_prices m_numbersKept m_oddsKept m_isThere m_sorts m_sheetSize m_items)) := by
  unfold sp_X6_drawn at hm
  refine xt_M.go (own := RX6) (lv := [some (.ref 0), some (.int p1), none, none, none, none]) rfl rfl (Nat.le_of_ble_eq_true rfl) rfl ?_
  refine x_aload0 eX6_drawn_0 ?_
  refine x_aload0 eX6_drawn_1 ?_
  refine x_aload0 eX6_drawn_2 ?_
  refine x_get eX6_drawn_3 fX6_104 rfl rfl ?_
  obtain ⟨r1, hr, hm⟩ := xo_bind hm
  refine x_Vi1 eX6_drawn_6 kX6_standing mX6_98 (t_X6_standing hr) rfl (Nat.le_of_ble_eq_true rfl) ?_
  obtain ⟨r2, hr, hm⟩ := xo_bind hm
  refine x_Vi1 eX6_drawn_9 kX6_twigs mX6_268 (t_X6_twigs hr) rfl (Nat.le_of_ble_eq_true rfl) ?_
  refine x_istore2 eX6_drawn_12 rfl ?_
  refine x_iload1 eX6_drawn_13 ?_
  refine x_istore3 eX6_drawn_14 rfl ?_
  refine x_k eX6_drawn_15 ?_
  refine x_istore4 eX6_drawn_16 rfl ?_
  refine x_k eX6_drawn_18 ?_
  refine x_istore5 eX6_drawn_19 rfl ?_
  exact l_X6_drawn_21 _ hm
set_option maxRecDepth 4000 in
theorem l_X6_lowest_6 {o : Int64} {u0 : Int64} {u2 : Int64} {u4 : Int32} : ∀ (n : Nat) {u5 : Int64} {u7 : Int64}, sp_X6_lowest_6 u0 u2 u4 n u5 u7 = some o → xt_T RX6 cX6_lowest 11 (some .long) (d + 0) (xt_Kl o (WM m_thrown m_textCount m_rule m_taped m_n m_minds m_lasts m_cutNow m_year m_ofNode m_ofDepth m_ofKids m_ofTwigs m_ofLast m_ofYear m_from m_size m_here m_token m_tokenAt m_open m_bad m_fault m_nKept m_mindsKept m_lastsKept m_cutKept m_yearKept m_ruleKept m_tokenWorth m_texts m_textSize m_tape m_parents m_kinds m_numbers m_odds m_yes m_no m_prices m_numbersKept m_oddsKept m_isThere m_sorts m_sheetSize m_items)) 6 [some (.long u0), none, some (.long u2), none, some (.int u4), some (.long u5), none, some (.long u7), none, none, none] [] (WM m_thrown m_textCount m_rule m_taped m_n m_minds m_lasts m_cutNow m_year m_ofNode m_ofDepth m_ofKids m_ofTwigs m_ofLast m_ofYear m_from m_size m_here m_token m_tokenAt m_open m_bad m_fault m_nKept m_mindsKept m_lastsKept m_cutKept m_yearKept m_ruleKept m_tokenWorth m_texts m_textSize m_tape m_parents m_kinds m_numbers m_odds m_yes m_no m_prices m_numbersKept m_oddsKept m_isThere m_sorts m_sheetSize m_items) := by
  intro n
  induction n with
  | zero => intro u5 u7 hm; rw [sp_X6_lowest_6] at hm; cases hm
  | succ n ih =>
    intro u5 u7 hm
    rw [sp_X6_lowest_6] at hm
    refine x_lload7 eX6_lowest_6 ?_
    refine x_lk eX6_lowest_8 ?_
    refine x_lcmp eX6_lowest_9 ?_
    refine x_if_eq eX6_lowest_10 (fun c => ?_) (fun c => ?_)
    · rw [if_pos c] at hm
      refine x_iload4 eX6_lowest_31 ?_
      refine x_if_ne eX6_lowest_33 (fun c => ?_) (fun c => ?_)
      · rw [if_neg c] at hm
        refine x_lload2 eX6_lowest_43 ?_
        refine x_lload5 eX6_lowest_44 ?_
        obtain ⟨hz, hm⟩ := xo_ifn hm
        refine x_ldiv eX6_lowest_46 hz ?_
        obtain rfl := Option.some.inj hm
        exact x_lret eX6_lowest_47 ⟨rfl, rfl⟩
      · rw [if_pos c] at hm
        refine x_lload0 eX6_lowest_36 ?_
        refine x_lload5 eX6_lowest_37 ?_
        obtain ⟨hz, hm⟩ := xo_ifn hm
        refine x_ldiv eX6_lowest_39 hz ?_
        refine x_goto eX6_lowest_40 ?_
        obtain rfl := Option.some.inj hm
        exact x_lret eX6_lowest_47 ⟨rfl, rfl⟩
    · rw [if_neg c] at hm
      refine x_lload5 eX6_lowest_13 ?_
      refine x_lload7 eX6_lowest_15 ?_
      obtain ⟨hz, hm⟩ := xo_ifn hm
      refine x_lrem eX6_lowest_17 hz ?_
      refine x_lstore9 eX6_lowest_18 rfl ?_
      refine x_lload7 eX6_lowest_20 ?_
      refine x_lstore5 eX6_lowest_22 rfl ?_
      refine x_lload9 eX6_lowest_24 ?_
      refine x_lstore7 eX6_lowest_26 rfl ?_
      refine x_goto eX6_lowest_28 ?_
      exact x_weak (by simp [xt_le]) (ih hm)
set_option maxRecDepth 4000 in
theorem t_X6_lowest {o : Int64} {p1 : Int64} {p2 : Int64} {p3 : Int32} (hm : sp_X6_lowest p1 p2 p3 = some o) : xt_M yX6_lowest cX6_lowest 11 (some .long) (d + 0) [.long p1, .long p2, .int p3] (WM m_thrown m_textCount m_rule m_taped m_n m_minds m_lasts m_cutNow m_year m_ofNode m_ofDepth m_ofKids m_ofTwigs m_ofLast m_ofYear m_from m_size m_here m_token m_tokenAt m_open m_bad m_fault m_nKept m_mindsKept m_lastsKept m_cutKept m_yearKept m_ruleKept m_tokenWorth m_texts m_textSize m_tape m_parents m_kinds m_numbers m_odds m_yes m_no m_prices m_numbersKept m_oddsKept m_isThere m_sorts m_sheetSize m_items) (xt_Kl o (WM m_thrown m_textCount m_rule m_taped m_n m_minds m_lasts m_cutNow m_year m_ofNode m_ofDepth m_ofKids m_ofTwigs m_ofLast m_ofYear m_from m_size m_here m_token m_tokenAt m_open m_bad m_fault m_nKept m_mindsKept m_lastsKept m_cutKept m_yearKept m_ruleKept m_tokenWorth m_texts m_textSize m_tape m_parents m_kinds m_numbers m_odds m_yes m_no m_prices m_numbersKept m_oddsKept m_isThere m_sorts m_sheetSize m_items)) := by
  unfold sp_X6_lowest at hm
  refine xt_M.go (own := RX6) (lv := [some (.long p1), none, some (.long p2), none, some (.int p3), none, none, none, none, none, none]) rfl rfl (Nat.le_of_ble_eq_true rfl) rfl ?_
  refine x_lload0 eX6_lowest_0 ?_
  refine x_lstore5 eX6_lowest_1 rfl ?_
  refine x_lload2 eX6_lowest_3 ?_
  refine x_lstore7 eX6_lowest_4 rfl ?_
  exact l_X6_lowest_6 _ hm
set_option maxRecDepth 4000 in
theorem l_X6_chance_32 {o : Int64 × (Nat → Int32) × (Nat → Int32)} {u1 : Int32} {u2 : Int32} {u3 : Int32} {m_n : Int32} {m_lasts : Int32} {m_cutNow : Int32} {m_parents : Nat → Int32} {m_kinds : Nat → Int32} {m_numbers : Nat → Int32} {m_odds : Nat → Int32} : ∀ (n : Nat) {u4 : Int64} {u6 : Int32} {m_yes : Nat → Int32} {m_no : Nat → Int32}, sp_X6_chance_32 u1 u2 u3 m_n m_lasts m_cutNow m_parents m_kinds m_numbers m_odds n u4 u6 m_yes m_no = some o → xt_T RX6 cX6_chance 7 (some .long) (d + 5) (xt_Kl o.1 (WM m_thrown m_textCount m_rule m_taped m_n m_minds m_lasts m_cutNow m_year m_ofNode m_ofDepth m_ofKids m_ofTwigs m_ofLast m_ofYear m_from m_size m_here m_token m_tokenAt m_open m_bad m_fault m_nKept m_mindsKept m_lastsKept m_cutKept m_yearKept m_ruleKept m_tokenWorth m_texts m_textSize m_tape m_parents m_kinds m_numbers m_odds o.2.1 o.2.2 m_prices m_numbersKept m_oddsKept m_isThere m_sorts m_sheetSize m_items)) 32 [some (.ref 0), some (.int u1), some (.int u2), some (.int u3), some (.long u4), none, some (.int u6)] [] (WM m_thrown m_textCount m_rule m_taped m_n m_minds m_lasts m_cutNow m_year m_ofNode m_ofDepth m_ofKids m_ofTwigs m_ofLast m_ofYear m_from m_size m_here m_token m_tokenAt m_open m_bad m_fault m_nKept m_mindsKept m_lastsKept m_cutKept m_yearKept m_ruleKept m_tokenWorth m_texts m_textSize m_tape m_parents m_kinds m_numbers m_odds m_yes m_no m_prices m_numbersKept m_oddsKept m_isThere m_sorts m_sheetSize m_items) := by
  intro n
  induction n with
  | zero => intro u4 u6 m_yes m_no hm; rw [sp_X6_chance_32] at hm; cases hm
  | succ n ih =>
    intro u4 u6 m_yes m_no hm
    rw [sp_X6_chance_32] at hm
    refine x_iload6 eX6_chance_32 ?_
    refine x_iload2 eX6_chance_34 ?_
    refine x_icmp_ge eX6_chance_35 (fun c => ?_) (fun c => ?_)
    · rw [if_pos c] at hm
      refine x_lload4 eX6_chance_58 ?_
      refine x_iload2 eX6_chance_60 ?_
      refine x_i2l eX6_chance_61 ?_
      refine x_iload3 eX6_chance_62 ?_
      obtain ⟨r1, hr, hm⟩ := xo_bind hm
      refine x_Sl3 eX6_chance_63 kX6_lowest mX6_297 (t_X6_lowest hr) (Nat.le_of_ble_eq_true rfl) ?_
      obtain rfl := Option.some.inj hm
      exact x_lret eX6_chance_66 ⟨rfl, rfl⟩
    · rw [if_neg c] at hm
      refine x_lload4 eX6_chance_38 ?_
      refine x_aload0 eX6_chance_40 ?_
      refine x_iload1 eX6_chance_41 ?_
      refine x_iload6 eX6_chance_42 ?_
      refine x_iadd eX6_chance_44 ?_
      obtain ⟨r2, hr, hm⟩ := xo_bind hm
      refine x_Vi1 eX6_chance_45 kX6_drawn mX6_316 (t_X6_drawn hr) rfl (Nat.le_of_ble_eq_true rfl) ?_
      refine x_i2l eX6_chance_48 ?_
      refine x_ladd eX6_chance_49 ?_
      refine x_lstore4 eX6_chance_50 rfl ?_
      refine x_iinc6 eX6_chance_52 rfl ?_
      refine x_goto eX6_chance_55 ?_
      exact ih hm
set_option maxRecDepth 4000 in
theorem t_X6_chance {o : Int64 × (Nat → Int32) × (Nat → Int32)} {p1 : Int32} {p2 : Int32} {p3 : Int32} (hm : sp_X6_chance p1 p2 p3 m_n m_lasts m_cutNow m_parents m_kinds m_numbers m_odds m_yes m_no = some o) : xt_M yX6_chance cX6_chance 7 (some .long) (d + 5) [.ref 0, .int p1, .int p2, .int p3] (WM m_thrown m_textCount m_rule m_taped m_n m_minds m_lasts m_cutNow m_year m_ofNode m_ofDepth m_ofKids m_ofTwigs m_ofLast m_ofYear m_from m_size m_here m_token m_tokenAt m_open m_bad m_fault m_nKept m_mindsKept m_lastsKept m_cutKept m_yearKept m_ruleKept m_tokenWorth m_texts m_textSize m_tape m_parents m_kinds m_numbers m_odds m_yes m_no m_prices m_numbersKept m_oddsKept m_isThere m_sorts m_sheetSize m_items) (xt_Kl o.1 (WM m_thrown m_textCount m_rule m_taped m_n m_minds m_lasts m_cutNow m_year m_ofNode m_ofDepth m_ofKids m_ofTwigs m_ofLast m_ofYear m_from m_size m_here m_token m_tokenAt m_open m_bad m_fault m_nKept m_mindsKept m_lastsKept m_cutKept m_yearKept m_ruleKept m_tokenWorth m_texts m_textSize m_tape m_parents m_kinds m_numbers m_odds o.2.1 o.2.2 m_prices m_numbersKept m_oddsKept m_isThere m_sorts m_sheetSize m_items)) := by
  unfold sp_X6_chance at hm
  refine xt_M.go (own := RX6) (lv := [some (.ref 0), some (.int p1), some (.int p2), some (.int p3), none, none, none]) rfl rfl (Nat.le_of_ble_eq_true rfl) rfl ?_
  refine x_iload2 eX6_chance_0 ?_
  refine x_i2l eX6_chance_1 ?_
  refine x_lk eX6_chance_2 ?_
  refine x_ldc2 eX6_chance_3 cX6_314 ?_
  refine x_Si3 eX6_chance_6 kX6_in mX6_76 (t_X6_in rfl) (Nat.le_of_ble_eq_true rfl) ?_
  refine x_if_eq eX6_chance_9 (fun c => ?_) (fun c => ?_)
  · rw [if_pos c] at hm
    refine x_ldc2 eX6_chance_22 cX6_284 ?_
    obtain rfl := Option.some.inj hm
    exact x_lret eX6_chance_25 ⟨rfl, rfl⟩
  · rw [if_neg c] at hm
    refine x_iload3 eX6_chance_12 ?_
    refine x_i2l eX6_chance_13 ?_
    refine x_lk eX6_chance_14 ?_
    refine x_lk eX6_chance_15 ?_
    refine x_Si3 eX6_chance_16 kX6_in mX6_76 (t_X6_in rfl) (Nat.le_of_ble_eq_true rfl) ?_
    refine x_if_ne eX6_chance_19 (fun c => ?_) (fun c => ?_)
    · rw [if_neg c] at hm
      refine x_lk eX6_chance_26 ?_
      refine x_lstore4 eX6_chance_27 rfl ?_
      refine x_k eX6_chance_29 ?_
      refine x_istore6 eX6_chance_30 rfl ?_
      exact l_X6_chance_32 _ hm
    · rw [if_pos c] at hm
      refine x_ldc2 eX6_chance_22 cX6_284 ?_
      obtain rfl := Option.some.inj hm
      exact x_lret eX6_chance_25 ⟨rfl, rfl⟩
set_option maxRecDepth 4000 in
theorem l_X6_image_2 {o : Int32 × Int32 × Int32 × Int32 × Int32 × Int32 × Int32 × (Nat → Int32) × (Nat → Int32)} {m_rule : Int32} {m_n : Int32} {m_minds : Int32} {m_lasts : Int32} {m_cutNow : Int32} {m_year : Int32} {m_numbers : Nat → Int32} {m_odds : Nat → Int32} : ∀ (n : Nat) {u1 : Int32} {m_nKept : Int32} {m_mindsKept : Int32} {m_lastsKept : Int32} {m_cutKept : Int32} {m_yearKept : Int32} {m_ruleKept : Int32} {m_numbersKept : Nat → Int32} {m_oddsKept : Nat → Int32}, sp_X6_image_2 m_rule m_n m_minds m_lasts m_cutNow m_year m_numbers m_odds n u1 m_nKept m_mindsKept m_lastsKept m_cutKept m_yearKept m_ruleKept m_numbersKept m_oddsKept = some o → xt_T RX6 cX6_image 2 (some .int) (d + 0) (xt_Ki o.1 (WM m_thrown m_textCount m_rule m_taped m_n m_minds m_lasts m_cutNow m_year m_ofNode m_ofDepth m_ofKids m_ofTwigs m_ofLast m_ofYear m_from m_size m_here m_token m_tokenAt m_open m_bad m_fault o.2.1 o.2.2.1 o.2.2.2.1 o.2.2.2.2.1 o.2.2.2.2.2.1 o.2.2.2.2.2.2.1 m_tokenWorth m_texts m_textSize m_tape m_parents m_kinds m_numbers m_odds m_yes m_no m_prices o.2.2.2.2.2.2.2.1 o.2.2.2.2.2.2.2.2 m_isThere m_sorts m_sheetSize m_items)) 2 [some (.ref 0), some (.int u1)] [] (WM m_thrown m_textCount m_rule m_taped m_n m_minds m_lasts m_cutNow m_year m_ofNode m_ofDepth m_ofKids m_ofTwigs m_ofLast m_ofYear m_from m_size m_here m_token m_tokenAt m_open m_bad m_fault m_nKept m_mindsKept m_lastsKept m_cutKept m_yearKept m_ruleKept m_tokenWorth m_texts m_textSize m_tape m_parents m_kinds m_numbers m_odds m_yes m_no m_prices m_numbersKept m_oddsKept m_isThere m_sorts m_sheetSize m_items) := by
  intro n
  induction n with
  | zero => intro u1 m_nKept m_mindsKept m_lastsKept m_cutKept m_yearKept m_ruleKept m_numbersKept m_oddsKept hm; rw [sp_X6_image_2] at hm; cases hm
  | succ n ih =>
    intro u1 m_nKept m_mindsKept m_lastsKept m_cutKept m_yearKept m_ruleKept m_numbersKept m_oddsKept hm
    rw [sp_X6_image_2] at hm
    refine x_iload1 eX6_image_2 ?_
    refine x_k eX6_image_3 ?_
    refine x_icmp_ge eX6_image_5 (fun c => ?_) (fun c => ?_)
    · rw [if_pos c] at hm
      refine x_aload0 eX6_image_38 ?_
      refine x_aload0 eX6_image_39 ?_
      refine x_get eX6_image_40 fX6_23 rfl rfl ?_
      refine x_puti (w' := WM _ _ _ _ _ _ _ _ _ _ _ _ _ _ _ _ _ _ _ _ _ _ _ _ _ _ _ _ _ _ _ _ _ _ _ _ _ _ _ _ _ _ _ _ _ _) eX6_image_43 pX6_53 rfl (Nat.le_of_ble_eq_true rfl) rfl ?_
      refine x_aload0 eX6_image_46 ?_
      refine x_aload0 eX6_image_47 ?_
      refine x_get eX6_image_48 fX6_107 rfl rfl ?_
      refine x_puti (w' := WM _ _ _ _ _ _ _ _ _ _ _ _ _ _ _ _ _ _ _ _ _ _ _ _ _ _ _ _ _ _ _ _ _ _ _ _ _ _ _ _ _ _ _ _ _ _) eX6_image_51 pX6_319 rfl (Nat.le_of_ble_eq_true rfl) rfl ?_
      refine x_aload0 eX6_image_54 ?_
      refine x_aload0 eX6_image_55 ?_
      refine x_get eX6_image_56 fX6_88 rfl rfl ?_
      refine x_puti (w' := WM _ _ _ _ _ _ _ _ _ _ _ _ _ _ _ _ _ _ _ _ _ _ _ _ _ _ _ _ _ _ _ _ _ _ _ _ _ _ _ _ _ _ _ _ _ _) eX6_image_59 pX6_322 rfl (Nat.le_of_ble_eq_true rfl) rfl ?_
      refine x_aload0 eX6_image_62 ?_
      refine x_aload0 eX6_image_63 ?_
      refine x_get eX6_image_64 fX6_104 rfl rfl ?_
      refine x_puti (w' := WM _ _ _ _ _ _ _ _ _ _ _ _ _ _ _ _ _ _ _ _ _ _ _ _ _ _ _ _ _ _ _ _ _ _ _ _ _ _ _ _ _ _ _ _ _ _) eX6_image_67 pX6_325 rfl (Nat.le_of_ble_eq_true rfl) rfl ?_
      refine x_aload0 eX6_image_70 ?_
      refine x_aload0 eX6_image_71 ?_
      refine x_get eX6_image_72 fX6_129 rfl rfl ?_
      refine x_puti (w' := WM _ _ _ _ _ _ _ _ _ _ _ _ _ _ _ _ _ _ _ _ _ _ _ _ _ _ _ _ _ _ _ _ _ _ _ _ _ _ _ _ _ _ _ _ _ _) eX6_image_75 pX6_328 rfl (Nat.le_of_ble_eq_true rfl) rfl ?_
      refine x_aload0 eX6_image_78 ?_
      refine x_aload0 eX6_image_79 ?_
      refine x_get eX6_image_80 fX6_250 rfl rfl ?_
      refine x_puti (w' := WM _ _ _ _ _ _ _ _ _ _ _ _ _ _ _ _ _ _ _ _ _ _ _ _ _ _ _ _ _ _ _ _ _ _ _ _ _ _ _ _ _ _ _ _ _ _) eX6_image_83 pX6_331 rfl (Nat.le_of_ble_eq_true rfl) rfl ?_
      refine x_aload0 eX6_image_86 ?_
      refine x_get eX6_image_87 fX6_23 rfl rfl ?_
      obtain rfl := Option.some.inj hm
      exact x_iret eX6_image_90 ⟨rfl, rfl⟩
    · rw [if_neg c] at hm
      refine x_aload0 eX6_image_8 ?_
      refine x_get eX6_image_9 fX6_47 rfl rfl ?_
      refine x_iload1 eX6_image_12 ?_
      refine x_aload0 eX6_image_13 ?_
      refine x_get eX6_image_14 fX6_32 rfl rfl ?_
      refine x_iload1 eX6_image_17 ?_
      obtain ⟨v1, hv, hm⟩ := xo_bind hm
      obtain ⟨hi, rfl⟩ := xo_at_some hv
      refine x_iaload eX6_image_18 rfl hi ?_
      obtain ⟨f2, hv, hm⟩ := xo_bind hm
      obtain ⟨hi, rfl⟩ := xo_set_some hv
      refine x_iastore (w' := WM _ _ _ _ _ _ _ _ _ _ _ _ _ _ _ _ _ _ _ _ _ _ _ _ _ _ _ _ _ _ _ _ _ _ _ _ _ _ _ _ _ _ _ _ _ _) eX6_image_19 rfl hi rfl ?_
      refine x_aload0 eX6_image_20 ?_
      refine x_get eX6_image_21 fX6_50 rfl rfl ?_
      refine x_iload1 eX6_image_24 ?_
      refine x_aload0 eX6_image_25 ?_
      refine x_get eX6_image_26 fX6_35 rfl rfl ?_
      refine x_iload1 eX6_image_29 ?_
      obtain ⟨v3, hv, hm⟩ := xo_bind hm
      obtain ⟨hi, rfl⟩ := xo_at_some hv
      refine x_iaload eX6_image_30 rfl hi ?_
      obtain ⟨f4, hv, hm⟩ := xo_bind hm
      obtain ⟨hi, rfl⟩ := xo_set_some hv
      refine x_iastore (w' := WM _ _ _ _ _ _ _ _ _ _ _ _ _ _ _ _ _ _ _ _ _ _ _ _ _ _ _ _ _ _ _ _ _ _ _ _ _ _ _ _ _ _ _ _ _ _) eX6_image_31 rfl hi rfl ?_
      refine x_iinc1 eX6_image_32 rfl ?_
      refine x_goto eX6_image_35 ?_
      exact ih hm
set_option maxRecDepth 4000 in
theorem t_X6_image {o : Int32 × Int32 × Int32 × Int32 × Int32 × Int32 × Int32 × (Nat → Int32) × (Nat → Int32)}  (hm : sp_X6_image m_rule m_n m_minds m_lasts m_cutNow m_year m_nKept m_mindsKept m_lastsKept m_cutKept m_yearKept m_ruleKept m_numbers m_odds m_numbersKept m_oddsKept = some o) : xt_M yX6_image cX6_image 2 (some .int) (d + 0) [.ref 0] (WM m_thrown m_textCount m_rule m_taped m_n m_minds m_lasts m_cutNow m_year m_ofNode m_ofDepth m_ofKids m_ofTwigs m_ofLast m_ofYear m_from m_size m_here m_token m_tokenAt m_open m_bad m_fault m_nKept m_mindsKept m_lastsKept m_cutKept m_yearKept m_ruleKept m_tokenWorth m_texts m_textSize m_tape m_parents m_kinds m_numbers m_odds m_yes m_no m_prices m_numbersKept m_oddsKept m_isThere m_sorts m_sheetSize m_items) (xt_Ki o.1 (WM m_thrown m_textCount m_rule m_taped m_n m_minds m_lasts m_cutNow m_year m_ofNode m_ofDepth m_ofKids m_ofTwigs m_ofLast m_ofYear m_from m_size m_here m_token m_tokenAt m_open m_bad m_fault o.2.1 o.2.2.1 o.2.2.2.1 o.2.2.2.2.1 o.2.2.2.2.2.1 o.2.2.2.2.2.2.1 m_tokenWorth m_texts m_textSize m_tape m_parents m_kinds m_numbers m_odds m_yes m_no m_prices o.2.2.2.2.2.2.2.1 o.2.2.2.2.2.2.2.2 m_isThere m_sorts m_sheetSize m_items)) := by
  unfold sp_X6_image at hm
  refine xt_M.go (own := RX6) (lv := [some (.ref 0), none]) rfl rfl (Nat.le_of_ble_eq_true rfl) rfl ?_
  refine x_k eX6_image_0 ?_
  refine x_istore1 eX6_image_1 rfl ?_
  exact l_X6_image_2 _ hm
set_option maxRecDepth 4000 in
theorem l_X6_back_13 {o : Int32 × Int32 × Int32 × Int32 × Int32 × Int32 × Int32 × (Nat → Int32) × (Nat → Int32)} {m_nKept : Int32} {m_mindsKept : Int32} {m_lastsKept : Int32} {m_cutKept : Int32} {m_yearKept : Int32} {m_ruleKept : Int32} {m_numbersKept : Nat → Int32} {m_oddsKept : Nat → Int32} : ∀ (n : Nat) {u1 : Int32} {m_rule : Int32} {m_n : Int32} {m_minds : Int32} {m_lasts : Int32} {m_cutNow : Int32} {m_year : Int32} {m_numbers : Nat → Int32} {m_odds : Nat → Int32}, sp_X6_back_13 m_nKept m_mindsKept m_lastsKept m_cutKept m_yearKept m_ruleKept m_numbersKept m_oddsKept n u1 m_rule m_n m_minds m_lasts m_cutNow m_year m_numbers m_odds = some o → xt_T RX6 cX6_back 2 (some .int) (d + 0) (xt_Ki o.1 (WM m_thrown m_textCount o.2.1 m_taped o.2.2.1 o.2.2.2.1 o.2.2.2.2.1 o.2.2.2.2.2.1 o.2.2.2.2.2.2.1 m_ofNode m_ofDepth m_ofKids m_ofTwigs m_ofLast m_ofYear m_from m_size m_here m_token m_tokenAt m_open m_bad m_fault m_nKept m_mindsKept m_lastsKept m_cutKept m_yearKept m_ruleKept m_tokenWorth m_texts m_textSize m_tape m_parents m_kinds o.2.2.2.2.2.2.2.1 o.2.2.2.2.2.2.2.2 m_yes m_no m_prices m_numbersKept m_oddsKept m_isThere m_sorts m_sheetSize m_items)) 13 [some (.ref 0), some (.int u1)] [] (WM m_thrown m_textCount m_rule m_taped m_n m_minds m_lasts m_cutNow m_year m_ofNode m_ofDepth m_ofKids m_ofTwigs m_ofLast m_ofYear m_from m_size m_here m_token m_tokenAt m_open m_bad m_fault m_nKept m_mindsKept m_lastsKept m_cutKept m_yearKept m_ruleKept m_tokenWorth m_texts m_textSize m_tape m_parents m_kinds m_numbers m_odds m_yes m_no m_prices m_numbersKept m_oddsKept m_isThere m_sorts m_sheetSize m_items) := by
  intro n
  induction n with
  | zero => intro u1 m_rule m_n m_minds m_lasts m_cutNow m_year m_numbers m_odds hm; rw [sp_X6_back_13] at hm; cases hm
  | succ n ih =>
    intro u1 m_rule m_n m_minds m_lasts m_cutNow m_year m_numbers m_odds hm
    rw [sp_X6_back_13] at hm
    refine x_iload1 eX6_back_13 ?_
    refine x_aload0 eX6_back_14 ?_
    refine x_get eX6_back_15 fX6_53 rfl rfl ?_
    refine x_icmp_ge eX6_back_18 (fun c => ?_) (fun c => ?_)
    · rw [if_pos c] at hm
      refine x_aload0 eX6_back_51 ?_
      refine x_aload0 eX6_back_52 ?_
      refine x_get eX6_back_53 fX6_53 rfl rfl ?_
      refine x_puti (w' := WM _ _ _ _ _ _ _ _ _ _ _ _ _ _ _ _ _ _ _ _ _ _ _ _ _ _ _ _ _ _ _ _ _ _ _ _ _ _ _ _ _ _ _ _ _ _) eX6_back_56 pX6_23 rfl (Nat.le_of_ble_eq_true rfl) rfl ?_
      refine x_aload0 eX6_back_59 ?_
      refine x_aload0 eX6_back_60 ?_
      refine x_get eX6_back_61 fX6_319 rfl rfl ?_
      refine x_puti (w' := WM _ _ _ _ _ _ _ _ _ _ _ _ _ _ _ _ _ _ _ _ _ _ _ _ _ _ _ _ _ _ _ _ _ _ _ _ _ _ _ _ _ _ _ _ _ _) eX6_back_64 pX6_107 rfl (Nat.le_of_ble_eq_true rfl) rfl ?_
      refine x_aload0 eX6_back_67 ?_
      refine x_aload0 eX6_back_68 ?_
      refine x_get eX6_back_69 fX6_322 rfl rfl ?_
      refine x_puti (w' := WM _ _ _ _ _ _ _ _ _ _ _ _ _ _ _ _ _ _ _ _ _ _ _ _ _ _ _ _ _ _ _ _ _ _ _ _ _ _ _ _ _ _ _ _ _ _) eX6_back_72 pX6_88 rfl (Nat.le_of_ble_eq_true rfl) rfl ?_
      refine x_aload0 eX6_back_75 ?_
      refine x_aload0 eX6_back_76 ?_
      refine x_get eX6_back_77 fX6_325 rfl rfl ?_
      refine x_puti (w' := WM _ _ _ _ _ _ _ _ _ _ _ _ _ _ _ _ _ _ _ _ _ _ _ _ _ _ _ _ _ _ _ _ _ _ _ _ _ _ _ _ _ _ _ _ _ _) eX6_back_80 pX6_104 rfl (Nat.le_of_ble_eq_true rfl) rfl ?_
      refine x_aload0 eX6_back_83 ?_
      refine x_aload0 eX6_back_84 ?_
      refine x_get eX6_back_85 fX6_328 rfl rfl ?_
      refine x_puti (w' := WM _ _ _ _ _ _ _ _ _ _ _ _ _ _ _ _ _ _ _ _ _ _ _ _ _ _ _ _ _ _ _ _ _ _ _ _ _ _ _ _ _ _ _ _ _ _) eX6_back_88 pX6_129 rfl (Nat.le_of_ble_eq_true rfl) rfl ?_
      refine x_aload0 eX6_back_91 ?_
      refine x_aload0 eX6_back_92 ?_
      refine x_get eX6_back_93 fX6_331 rfl rfl ?_
      refine x_puti (w' := WM _ _ _ _ _ _ _ _ _ _ _ _ _ _ _ _ _ _ _ _ _ _ _ _ _ _ _ _ _ _ _ _ _ _ _ _ _ _ _ _ _ _ _ _ _ _) eX6_back_96 pX6_250 rfl (Nat.le_of_ble_eq_true rfl) rfl ?_
      refine x_aload0 eX6_back_99 ?_
      refine x_get eX6_back_100 fX6_23 rfl rfl ?_
      obtain rfl := Option.some.inj hm
      exact x_iret eX6_back_103 ⟨rfl, rfl⟩
    · rw [if_neg c] at hm
      refine x_aload0 eX6_back_21 ?_
      refine x_get eX6_back_22 fX6_32 rfl rfl ?_
      refine x_iload1 eX6_back_25 ?_
      refine x_aload0 eX6_back_26 ?_
      refine x_get eX6_back_27 fX6_47 rfl rfl ?_
      refine x_iload1 eX6_back_30 ?_
      obtain ⟨v1, hv, hm⟩ := xo_bind hm
      obtain ⟨hi, rfl⟩ := xo_at_some hv
      refine x_iaload eX6_back_31 rfl hi ?_
      obtain ⟨f2, hv, hm⟩ := xo_bind hm
      obtain ⟨hi, rfl⟩ := xo_set_some hv
      refine x_iastore (w' := WM _ _ _ _ _ _ _ _ _ _ _ _ _ _ _ _ _ _ _ _ _ _ _ _ _ _ _ _ _ _ _ _ _ _ _ _ _ _ _ _ _ _ _ _ _ _) eX6_back_32 rfl hi rfl ?_
      refine x_aload0 eX6_back_33 ?_
      refine x_get eX6_back_34 fX6_35 rfl rfl ?_
      refine x_iload1 eX6_back_37 ?_
      refine x_aload0 eX6_back_38 ?_
      refine x_get eX6_back_39 fX6_50 rfl rfl ?_
      refine x_iload1 eX6_back_42 ?_
      obtain ⟨v3, hv, hm⟩ := xo_bind hm
      obtain ⟨hi, rfl⟩ := xo_at_some hv
      refine x_iaload eX6_back_43 rfl hi ?_
      obtain ⟨f4, hv, hm⟩ := xo_bind hm
      obtain ⟨hi, rfl⟩ := xo_set_some hv
      refine x_iastore (w' := WM _ _ _ _ _ _ _ _ _ _ _ _ _ _ _ _ _ _ _ _ _ _ _ _ _ _ _ _ _ _ _ _ _ _ _ _ _ _ _ _ _ _ _ _ _ _) eX6_back_44 rfl hi rfl ?_
      refine x_iinc1 eX6_back_45 rfl ?_
      refine x_goto eX6_back_48 ?_
      exact ih hm
set_option maxRecDepth 4000 in
theorem t_X6_back {o : Int32 × Int32 × Int32 × Int32 × Int32 × Int32 × Int32 × (Nat → Int32) × (Nat → Int32)}  (hm : sp_X6_back m_rule m_n m_minds m_lasts m_cutNow m_year m_nKept m_mindsKept m_lastsKept m_cutKept m_yearKept m_ruleKept m_numbers m_odds m_numbersKept m_oddsKept = some o) : xt_M yX6_back cX6_back 2 (some .int) (d + 0) [.ref 0] (WM m_thrown m_textCount m_rule m_taped m_n m_minds m_lasts m_cutNow m_year m_ofNode m_ofDepth m_ofKids m_ofTwigs m_ofLast m_ofYear m_from m_size m_here m_token m_tokenAt m_open m_bad m_fault m_nKept m_mindsKept m_lastsKept m_cutKept m_yearKept m_ruleKept m_tokenWorth m_texts m_textSize m_tape m_parents m_kinds m_numbers m_odds m_yes m_no m_prices m_numbersKept m_oddsKept m_isThere m_sorts m_sheetSize m_items) (xt_Ki o.1 (WM m_thrown m_textCount o.2.1 m_taped o.2.2.1 o.2.2.2.1 o.2.2.2.2.1 o.2.2.2.2.2.1 o.2.2.2.2.2.2.1 m_ofNode m_ofDepth m_ofKids m_ofTwigs m_ofLast m_ofYear m_from m_size m_here m_token m_tokenAt m_open m_bad m_fault m_nKept m_mindsKept m_lastsKept m_cutKept m_yearKept m_ruleKept m_tokenWorth m_texts m_textSize m_tape m_parents m_kinds o.2.2.2.2.2.2.2.1 o.2.2.2.2.2.2.2.2 m_yes m_no m_prices m_numbersKept m_oddsKept m_isThere m_sorts m_sheetSize m_items)) := by
  unfold sp_X6_back at hm
  refine xt_M.go (own := RX6) (lv := [some (.ref 0), none]) rfl rfl (Nat.le_of_ble_eq_true rfl) rfl ?_
  refine x_aload0 eX6_back_0 ?_
  refine x_get eX6_back_1 fX6_53 rfl rfl ?_
  refine x_k eX6_back_4 ?_
  refine x_icmp_ne eX6_back_5 (fun c => ?_) (fun c => ?_)
  · rw [if_neg c] at hm
    refine x_k eX6_back_11 ?_
    refine x_istore1 eX6_back_12 rfl ?_
    exact l_X6_back_13 _ hm
  · rw [if_pos c] at hm
    refine x_k eX6_back_8 ?_
    obtain rfl := Option.some.inj hm
    exact x_iret eX6_back_10 ⟨rfl, rfl⟩
set_option maxRecDepth 4000 in
theorem t_X6_count {o : Int32} {p1 : Int32} (hm : sp_X6_count p1 m_textCount m_rule m_taped m_n m_cutNow m_year m_parents = some o) : xt_M yX6_count cX6_count 2 (some .int) (d + 3) [.ref 0, .int p1] (WM m_thrown m_textCount m_rule m_taped m_n m_minds m_lasts m_cutNow m_year m_ofNode m_ofDepth m_ofKids m_ofTwigs m_ofLast m_ofYear m_from m_size m_here m_token m_tokenAt m_open m_bad m_fault m_nKept m_mindsKept m_lastsKept m_cutKept m_yearKept m_ruleKept m_tokenWorth m_texts m_textSize m_tape m_parents m_kinds m_numbers m_odds m_yes m_no m_prices m_numbersKept m_oddsKept m_isThere m_sorts m_sheetSize m_items) (xt_Ki o (WM m_thrown m_textCount m_rule m_taped m_n m_minds m_lasts m_cutNow m_year m_ofNode m_ofDepth m_ofKids m_ofTwigs m_ofLast m_ofYear m_from m_size m_here m_token m_tokenAt m_open m_bad m_fault m_nKept m_mindsKept m_lastsKept m_cutKept m_yearKept m_ruleKept m_tokenWorth m_texts m_textSize m_tape m_parents m_kinds m_numbers m_odds m_yes m_no m_prices m_numbersKept m_oddsKept m_isThere m_sorts m_sheetSize m_items)) := by
  unfold sp_X6_count at hm
  refine xt_M.go (own := RX6) (lv := [some (.ref 0), some (.int p1)]) rfl rfl (Nat.le_of_ble_eq_true rfl) rfl ?_
  refine x_iload1 eX6_count_0 ?_
  refine x_i2l eX6_count_1 ?_
  refine x_lk eX6_count_2 ?_
  refine x_ldc2 eX6_count_3 cX6_334 ?_
  refine x_Si3 eX6_count_6 kX6_in mX6_76 (t_X6_in rfl) (Nat.le_of_ble_eq_true rfl) ?_
  refine x_if_ne eX6_count_9 (fun c => ?_) (fun c => ?_)
  · rw [if_neg c] at hm
    refine x_iload1 eX6_count_15 ?_
    refine x_k eX6_count_16 ?_
    refine x_icmp_ne eX6_count_17 (fun c => ?_) (fun c => ?_)
    · rw [if_neg c] at hm
      refine x_iload1 eX6_count_32 ?_
      refine x_k eX6_count_33 ?_
      refine x_icmp_ne eX6_count_34 (fun c => ?_) (fun c => ?_)
      · rw [if_neg c] at hm
        refine x_iload1 eX6_count_53 ?_
        refine x_if_ne eX6_count_54 (fun c => ?_) (fun c => ?_)
        · rw [if_neg c] at hm
          refine x_iload1 eX6_count_64 ?_
          refine x_k eX6_count_65 ?_
          refine x_icmp_ne eX6_count_66 (fun c => ?_) (fun c => ?_)
          · rw [if_neg c] at hm
            refine x_iload1 eX6_count_76 ?_
            refine x_k eX6_count_77 ?_
            refine x_icmp_ne eX6_count_78 (fun c => ?_) (fun c => ?_)
            · rw [if_neg c] at hm
              refine x_iload1 eX6_count_88 ?_
              refine x_k eX6_count_89 ?_
              refine x_icmp_ne eX6_count_90 (fun c => ?_) (fun c => ?_)
              · rw [if_neg c] at hm
                refine x_aload0 eX6_count_100 ?_
                refine x_get eX6_count_101 fX6_129 rfl rfl ?_
                obtain rfl := Option.some.inj hm
                exact x_iret eX6_count_104 ⟨rfl, rfl⟩
              · rw [if_pos c] at hm
                refine x_aload0 eX6_count_93 ?_
                refine x_get eX6_count_94 fX6_250 rfl rfl ?_
                refine x_goto eX6_count_97 ?_
                obtain rfl := Option.some.inj hm
                exact x_iret eX6_count_104 ⟨rfl, rfl⟩
            · rw [if_pos c] at hm
              refine x_aload0 eX6_count_81 ?_
              refine x_get eX6_count_82 fX6_134 rfl rfl ?_
              refine x_goto eX6_count_85 ?_
              obtain rfl := Option.some.inj hm
              exact x_iret eX6_count_104 ⟨rfl, rfl⟩
          · rw [if_pos c] at hm
            refine x_aload0 eX6_count_69 ?_
            refine x_get eX6_count_70 fX6_73 rfl rfl ?_
            refine x_goto eX6_count_73 ?_
            obtain rfl := Option.some.inj hm
            exact x_iret eX6_count_104 ⟨rfl, rfl⟩
        · rw [if_pos c] at hm
          refine x_aload0 eX6_count_57 ?_
          refine x_get eX6_count_58 fX6_23 rfl rfl ?_
          refine x_goto eX6_count_61 ?_
          obtain rfl := Option.some.inj hm
          exact x_iret eX6_count_104 ⟨rfl, rfl⟩
      · rw [if_pos c] at hm
        refine x_aload0 eX6_count_37 ?_
        refine x_aload0 eX6_count_38 ?_
        refine x_aload0 eX6_count_39 ?_
        refine x_get eX6_count_40 fX6_104 rfl rfl ?_
        obtain ⟨r1, hr, hm⟩ := xo_bind hm
        refine x_Vi1 eX6_count_43 kX6_standing mX6_98 (t_X6_standing hr) rfl (Nat.le_of_ble_eq_true rfl) ?_
        obtain ⟨r2, hr, hm⟩ := xo_bind hm
        refine x_Vi1 eX6_count_46 kX6_twigs mX6_268 (t_X6_twigs hr) rfl (Nat.le_of_ble_eq_true rfl) ?_
        obtain ⟨r3, hr, hm⟩ := xo_bind hm
        refine x_Si1 eX6_count_49 kX6_bitsOf mX6_265 (t_X6_bitsOf hr) (Nat.le_of_ble_eq_true rfl) ?_
        obtain rfl := Option.some.inj hm
        exact x_iret eX6_count_52 ⟨rfl, rfl⟩
    · rw [if_pos c] at hm
      refine x_aload0 eX6_count_20 ?_
      refine x_aload0 eX6_count_21 ?_
      refine x_get eX6_count_22 fX6_104 rfl rfl ?_
      obtain ⟨r4, hr, hm⟩ := xo_bind hm
      refine x_Vi1 eX6_count_25 kX6_standing mX6_98 (t_X6_standing hr) rfl (Nat.le_of_ble_eq_true rfl) ?_
      obtain ⟨r5, hr, hm⟩ := xo_bind hm
      refine x_Si1 eX6_count_28 kX6_bitsOf mX6_265 (t_X6_bitsOf hr) (Nat.le_of_ble_eq_true rfl) ?_
      obtain rfl := Option.some.inj hm
      exact x_iret eX6_count_31 ⟨rfl, rfl⟩
  · rw [if_pos c] at hm
    refine x_k eX6_count_12 ?_
    obtain rfl := Option.some.inj hm
    exact x_iret eX6_count_14 ⟨rfl, rfl⟩
set_option maxRecDepth 4000 in
theorem l_X6_sheet_77 {o : Int32 × (Nat → Int32) × (Nat → Int32) × (Nat → Int32) × (Nat → Int32)} {u1 : Int32} {u2 : Int32} {u3 : Int32} : ∀ (n : Nat) {u4 : Int32} {m_isThere : Nat → Int32} {m_sorts : Nat → Int32} {m_sheetSize : Nat → Int32} {m_items : Nat → Int32}, sp_X6_sheet_77 u1 u2 u3 n u4 m_isThere m_sorts m_sheetSize m_items = some o → xt_T RX6 cX6_sheet 5 (some .int) (d + 2) (xt_Ki o.1 (WM m_thrown m_textCount m_rule m_taped m_n m_minds m_lasts m_cutNow m_year m_ofNode m_ofDepth m_ofKids m_ofTwigs m_ofLast m_ofYear m_from m_size m_here m_token m_tokenAt m_open m_bad m_fault m_nKept m_mindsKept m_lastsKept m_cutKept m_yearKept m_ruleKept m_tokenWorth m_texts m_textSize m_tape m_parents m_kinds m_numbers m_odds m_yes m_no m_prices m_numbersKept m_oddsKept o.2.1 o.2.2.1 o.2.2.2.1 o.2.2.2.2)) 77 [some (.ref 0), some (.int u1), some (.int u2), some (.int u3), some (.int u4)] [] (WM m_thrown m_textCount m_rule m_taped m_n m_minds m_lasts m_cutNow m_year m_ofNode m_ofDepth m_ofKids m_ofTwigs m_ofLast m_ofYear m_from m_size m_here m_token m_tokenAt m_open m_bad m_fault m_nKept m_mindsKept m_lastsKept m_cutKept m_yearKept m_ruleKept m_tokenWorth m_texts m_textSize m_tape m_parents m_kinds m_numbers m_odds m_yes m_no m_prices m_numbersKept m_oddsKept m_isThere m_sorts m_sheetSize m_items) := by
  intro n
  induction n with
  | zero => intro u4 m_isThere m_sorts m_sheetSize m_items hm; rw [sp_X6_sheet_77] at hm; cases hm
  | succ n ih =>
    intro u4 m_isThere m_sorts m_sheetSize m_items hm
    rw [sp_X6_sheet_77] at hm
    refine x_iload4 eX6_sheet_77 ?_
    refine x_iload3 eX6_sheet_79 ?_
    refine x_icmp_ge eX6_sheet_80 (fun c => ?_) (fun c => ?_)
    · rw [if_pos c] at hm
      refine x_k eX6_sheet_106 ?_
      obtain rfl := Option.some.inj hm
      exact x_iret eX6_sheet_107 ⟨rfl, rfl⟩
    · rw [if_neg c] at hm
      refine x_iload2 eX6_sheet_83 ?_
      refine x_if_lt eX6_sheet_84 (fun c => ?_) (fun c => ?_)
      · rw [if_pos c] at hm
        refine x_k eX6_sheet_106 ?_
        obtain rfl := Option.some.inj hm
        exact x_iret eX6_sheet_107 ⟨rfl, rfl⟩
      · rw [if_neg c] at hm
        refine x_aload0 eX6_sheet_87 ?_
        refine x_get eX6_sheet_88 fX6_66 rfl rfl ?_
        refine x_k eX6_sheet_91 ?_
        refine x_iload1 eX6_sheet_93 ?_
        refine x_imul eX6_sheet_94 ?_
        refine x_iload4 eX6_sheet_95 ?_
        refine x_iadd eX6_sheet_97 ?_
        refine x_k eX6_sheet_98 ?_
        obtain ⟨f5, hv, hm⟩ := xo_bind hm
        obtain ⟨hi, rfl⟩ := xo_set_some hv
        refine x_iastore (w' := WM _ _ _ _ _ _ _ _ _ _ _ _ _ _ _ _ _ _ _ _ _ _ _ _ _ _ _ _ _ _ _ _ _ _ _ _ _ _ _ _ _ _ _ _ _ _) eX6_sheet_99 rfl hi rfl ?_
        refine x_iinc4 eX6_sheet_100 rfl ?_
        refine x_goto eX6_sheet_103 ?_
        exact ih hm
set_option maxRecDepth 4000 in
theorem t_X6_sheet {o : Int32 × (Nat → Int32) × (Nat → Int32) × (Nat → Int32) × (Nat → Int32)} {p1 : Int32} {p2 : Int32} {p3 : Int32} (hm : sp_X6_sheet p1 p2 p3 m_isThere m_sorts m_sheetSize m_items = some o) : xt_M yX6_sheet cX6_sheet 5 (some .int) (d + 2) [.ref 0, .int p1, .int p2, .int p3] (WM m_thrown m_textCount m_rule m_taped m_n m_minds m_lasts m_cutNow m_year m_ofNode m_ofDepth m_ofKids m_ofTwigs m_ofLast m_ofYear m_from m_size m_here m_token m_tokenAt m_open m_bad m_fault m_nKept m_mindsKept m_lastsKept m_cutKept m_yearKept m_ruleKept m_tokenWorth m_texts m_textSize m_tape m_parents m_kinds m_numbers m_odds m_yes m_no m_prices m_numbersKept m_oddsKept m_isThere m_sorts m_sheetSize m_items) (xt_Ki o.1 (WM m_thrown m_textCount m_rule m_taped m_n m_minds m_lasts m_cutNow m_year m_ofNode m_ofDepth m_ofKids m_ofTwigs m_ofLast m_ofYear m_from m_size m_here m_token m_tokenAt m_open m_bad m_fault m_nKept m_mindsKept m_lastsKept m_cutKept m_yearKept m_ruleKept m_tokenWorth m_texts m_textSize m_tape m_parents m_kinds m_numbers m_odds m_yes m_no m_prices m_numbersKept m_oddsKept o.2.1 o.2.2.1 o.2.2.2.1 o.2.2.2.2)) := by
  unfold sp_X6_sheet at hm
  refine xt_M.go (own := RX6) (lv := [some (.ref 0), some (.int p1), some (.int p2), some (.int p3), none]) rfl rfl (Nat.le_of_ble_eq_true rfl) rfl ?_
  refine x_iload1 eX6_sheet_0 ?_
  obtain ⟨r1, hr, hm⟩ := xo_bind hm
  refine x_Si1 eX6_sheet_1 kX6_isSheet mX6_307 (t_X6_isSheet hr) (Nat.le_of_ble_eq_true rfl) ?_
  refine x_if_eq eX6_sheet_4 (fun c => ?_) (fun c => ?_)
  · rw [if_pos c] at hm
    refine x_k eX6_sheet_31 ?_
    obtain rfl := Option.some.inj hm
    exact x_iret eX6_sheet_33 ⟨rfl, rfl⟩
  · rw [if_neg c] at hm
    refine x_iload2 eX6_sheet_7 ?_
    refine x_i2l eX6_sheet_8 ?_
    refine x_ldc2 eX6_sheet_9 cX6_338 ?_
    refine x_ldc2 eX6_sheet_12 cX6_260 ?_
    refine x_Si3 eX6_sheet_15 kX6_in mX6_76 (t_X6_in rfl) (Nat.le_of_ble_eq_true rfl) ?_
    refine x_if_eq eX6_sheet_18 (fun c => ?_) (fun c => ?_)
    · rw [if_pos c] at hm
      refine x_k eX6_sheet_31 ?_
      obtain rfl := Option.some.inj hm
      exact x_iret eX6_sheet_33 ⟨rfl, rfl⟩
    · rw [if_neg c] at hm
      refine x_iload2 eX6_sheet_21 ?_
      refine x_if_lt eX6_sheet_22 (fun c => ?_) (fun c => ?_)
      · rw [if_pos c] at hm
        refine x_iload2 eX6_sheet_34 ?_
        refine x_if_lt eX6_sheet_35 (fun c => ?_) (fun c => ?_)
        · rw [if_pos c] at hm
          refine x_aload0 eX6_sheet_45 ?_
          refine x_get eX6_sheet_46 fX6_56 rfl rfl ?_
          refine x_iload1 eX6_sheet_49 ?_
          refine x_iload2 eX6_sheet_50 ?_
          refine x_if_lt eX6_sheet_51 (fun c => ?_) (fun c => ?_)
          · rw [if_pos c] at hm
            refine x_k eX6_sheet_58 ?_
            obtain ⟨f2, hv, hm⟩ := xo_bind hm
            obtain ⟨hi, rfl⟩ := xo_set_some hv
            refine x_bastore (w' := WM _ _ _ _ _ _ _ _ _ _ _ _ _ _ _ _ _ _ _ _ _ _ _ _ _ _ _ _ _ _ _ _ _ _ _ _ _ _ _ _ _ _ _ _ _ _) eX6_sheet_59 rfl hi rfl ?_
            refine x_aload0 eX6_sheet_60 ?_
            refine x_get eX6_sheet_61 fX6_60 rfl rfl ?_
            refine x_iload1 eX6_sheet_64 ?_
            refine x_iload2 eX6_sheet_65 ?_
            obtain ⟨f3, hv, hm⟩ := xo_bind hm
            obtain ⟨hi, rfl⟩ := xo_set_some hv
            refine x_iastore (w' := WM _ _ _ _ _ _ _ _ _ _ _ _ _ _ _ _ _ _ _ _ _ _ _ _ _ _ _ _ _ _ _ _ _ _ _ _ _ _ _ _ _ _ _ _ _ _) eX6_sheet_66 rfl hi rfl ?_
            refine x_aload0 eX6_sheet_67 ?_
            refine x_get eX6_sheet_68 fX6_63 rfl rfl ?_
            refine x_iload1 eX6_sheet_71 ?_
            refine x_iload3 eX6_sheet_72 ?_
            obtain ⟨f4, hv, hm⟩ := xo_bind hm
            obtain ⟨hi, rfl⟩ := xo_set_some hv
            refine x_iastore (w' := WM _ _ _ _ _ _ _ _ _ _ _ _ _ _ _ _ _ _ _ _ _ _ _ _ _ _ _ _ _ _ _ _ _ _ _ _ _ _ _ _ _ _ _ _ _ _) eX6_sheet_73 rfl hi rfl ?_
            refine x_k eX6_sheet_74 ?_
            refine x_istore4 eX6_sheet_75 rfl ?_
            exact l_X6_sheet_77 _ hm
          · rw [if_neg c] at hm
            refine x_k eX6_sheet_54 ?_
            refine x_goto eX6_sheet_55 ?_
            obtain ⟨f6, hv, hm⟩ := xo_bind hm
            obtain ⟨hi, rfl⟩ := xo_set_some hv
            refine x_bastore (w' := WM _ _ _ _ _ _ _ _ _ _ _ _ _ _ _ _ _ _ _ _ _ _ _ _ _ _ _ _ _ _ _ _ _ _ _ _ _ _ _ _ _ _ _ _ _ _) eX6_sheet_59 rfl hi rfl ?_
            refine x_aload0 eX6_sheet_60 ?_
            refine x_get eX6_sheet_61 fX6_60 rfl rfl ?_
            refine x_iload1 eX6_sheet_64 ?_
            refine x_iload2 eX6_sheet_65 ?_
            obtain ⟨f7, hv, hm⟩ := xo_bind hm
            obtain ⟨hi, rfl⟩ := xo_set_some hv
            refine x_iastore (w' := WM _ _ _ _ _ _ _ _ _ _ _ _ _ _ _ _ _ _ _ _ _ _ _ _ _ _ _ _ _ _ _ _ _ _ _ _ _ _ _ _ _ _ _ _ _ _) eX6_sheet_66 rfl hi rfl ?_
            refine x_aload0 eX6_sheet_67 ?_
            refine x_get eX6_sheet_68 fX6_63 rfl rfl ?_
            refine x_iload1 eX6_sheet_71 ?_
            refine x_iload3 eX6_sheet_72 ?_
            obtain ⟨f8, hv, hm⟩ := xo_bind hm
            obtain ⟨hi, rfl⟩ := xo_set_some hv
            refine x_iastore (w' := WM _ _ _ _ _ _ _ _ _ _ _ _ _ _ _ _ _ _ _ _ _ _ _ _ _ _ _ _ _ _ _ _ _ _ _ _ _ _ _ _ _ _ _ _ _ _) eX6_sheet_73 rfl hi rfl ?_
            refine x_k eX6_sheet_74 ?_
            refine x_istore4 eX6_sheet_75 rfl ?_
            exact l_X6_sheet_77 _ hm
        · rw [if_neg c] at hm
          refine x_iload3 eX6_sheet_38 ?_
          refine x_if_ge eX6_sheet_39 (fun c => ?_) (fun c => ?_)
          · rw [if_pos c] at hm
            refine x_aload0 eX6_sheet_45 ?_
            refine x_get eX6_sheet_46 fX6_56 rfl rfl ?_
            refine x_iload1 eX6_sheet_49 ?_
            refine x_iload2 eX6_sheet_50 ?_
            refine x_if_lt eX6_sheet_51 (fun c => ?_) (fun c => ?_)
            · rw [if_pos c] at hm
              refine x_k eX6_sheet_58 ?_
              obtain ⟨f9, hv, hm⟩ := xo_bind hm
              obtain ⟨hi, rfl⟩ := xo_set_some hv
              refine x_bastore (w' := WM _ _ _ _ _ _ _ _ _ _ _ _ _ _ _ _ _ _ _ _ _ _ _ _ _ _ _ _ _ _ _ _ _ _ _ _ _ _ _ _ _ _ _ _ _ _) eX6_sheet_59 rfl hi rfl ?_
              refine x_aload0 eX6_sheet_60 ?_
              refine x_get eX6_sheet_61 fX6_60 rfl rfl ?_
              refine x_iload1 eX6_sheet_64 ?_
              refine x_iload2 eX6_sheet_65 ?_
              obtain ⟨f10, hv, hm⟩ := xo_bind hm
              obtain ⟨hi, rfl⟩ := xo_set_some hv
              refine x_iastore (w' := WM _ _ _ _ _ _ _ _ _ _ _ _ _ _ _ _ _ _ _ _ _ _ _ _ _ _ _ _ _ _ _ _ _ _ _ _ _ _ _ _ _ _ _ _ _ _) eX6_sheet_66 rfl hi rfl ?_
              refine x_aload0 eX6_sheet_67 ?_
              refine x_get eX6_sheet_68 fX6_63 rfl rfl ?_
              refine x_iload1 eX6_sheet_71 ?_
              refine x_iload3 eX6_sheet_72 ?_
              obtain ⟨f11, hv, hm⟩ := xo_bind hm
              obtain ⟨hi, rfl⟩ := xo_set_some hv
              refine x_iastore (w' := WM _ _ _ _ _ _ _ _ _ _ _ _ _ _ _ _ _ _ _ _ _ _ _ _ _ _ _ _ _ _ _ _ _ _ _ _ _ _ _ _ _ _ _ _ _ _) eX6_sheet_73 rfl hi rfl ?_
              refine x_k eX6_sheet_74 ?_
              refine x_istore4 eX6_sheet_75 rfl ?_
              exact l_X6_sheet_77 _ hm
            · rw [if_neg c] at hm
              refine x_k eX6_sheet_54 ?_
              refine x_goto eX6_sheet_55 ?_
              obtain ⟨f12, hv, hm⟩ := xo_bind hm
              obtain ⟨hi, rfl⟩ := xo_set_some hv
              refine x_bastore (w' := WM _ _ _ _ _ _ _ _ _ _ _ _ _ _ _ _ _ _ _ _ _ _ _ _ _ _ _ _ _ _ _ _ _ _ _ _ _ _ _ _ _ _ _ _ _ _) eX6_sheet_59 rfl hi rfl ?_
              refine x_aload0 eX6_sheet_60 ?_
              refine x_get eX6_sheet_61 fX6_60 rfl rfl ?_
              refine x_iload1 eX6_sheet_64 ?_
              refine x_iload2 eX6_sheet_65 ?_
              obtain ⟨f13, hv, hm⟩ := xo_bind hm
              obtain ⟨hi, rfl⟩ := xo_set_some hv
              refine x_iastore (w' := WM _ _ _ _ _ _ _ _ _ _ _ _ _ _ _ _ _ _ _ _ _ _ _ _ _ _ _ _ _ _ _ _ _ _ _ _ _ _ _ _ _ _ _ _ _ _) eX6_sheet_66 rfl hi rfl ?_
              refine x_aload0 eX6_sheet_67 ?_
              refine x_get eX6_sheet_68 fX6_63 rfl rfl ?_
              refine x_iload1 eX6_sheet_71 ?_
              refine x_iload3 eX6_sheet_72 ?_
              obtain ⟨f14, hv, hm⟩ := xo_bind hm
              obtain ⟨hi, rfl⟩ := xo_set_some hv
              refine x_iastore (w' := WM _ _ _ _ _ _ _ _ _ _ _ _ _ _ _ _ _ _ _ _ _ _ _ _ _ _ _ _ _ _ _ _ _ _ _ _ _ _ _ _ _ _ _ _ _ _) eX6_sheet_73 rfl hi rfl ?_
              refine x_k eX6_sheet_74 ?_
              refine x_istore4 eX6_sheet_75 rfl ?_
              exact l_X6_sheet_77 _ hm
          · rw [if_neg c] at hm
            refine x_k eX6_sheet_42 ?_
            obtain rfl := Option.some.inj hm
            exact x_iret eX6_sheet_44 ⟨rfl, rfl⟩
      · rw [if_neg c] at hm
        refine x_iload3 eX6_sheet_25 ?_
        refine x_k eX6_sheet_26 ?_
        refine x_icmp_le eX6_sheet_28 (fun c => ?_) (fun c => ?_)
        · rw [if_pos c] at hm
          refine x_iload2 eX6_sheet_34 ?_
          refine x_if_lt eX6_sheet_35 (fun c => ?_) (fun c => ?_)
          · rw [if_pos c] at hm
            refine x_aload0 eX6_sheet_45 ?_
            refine x_get eX6_sheet_46 fX6_56 rfl rfl ?_
            refine x_iload1 eX6_sheet_49 ?_
            refine x_iload2 eX6_sheet_50 ?_
            refine x_if_lt eX6_sheet_51 (fun c => ?_) (fun c => ?_)
            · rw [if_pos c] at hm
              refine x_k eX6_sheet_58 ?_
              obtain ⟨f15, hv, hm⟩ := xo_bind hm
              obtain ⟨hi, rfl⟩ := xo_set_some hv
              refine x_bastore (w' := WM _ _ _ _ _ _ _ _ _ _ _ _ _ _ _ _ _ _ _ _ _ _ _ _ _ _ _ _ _ _ _ _ _ _ _ _ _ _ _ _ _ _ _ _ _ _) eX6_sheet_59 rfl hi rfl ?_
              refine x_aload0 eX6_sheet_60 ?_
              refine x_get eX6_sheet_61 fX6_60 rfl rfl ?_
              refine x_iload1 eX6_sheet_64 ?_
              refine x_iload2 eX6_sheet_65 ?_
              obtain ⟨f16, hv, hm⟩ := xo_bind hm
              obtain ⟨hi, rfl⟩ := xo_set_some hv
              refine x_iastore (w' := WM _ _ _ _ _ _ _ _ _ _ _ _ _ _ _ _ _ _ _ _ _ _ _ _ _ _ _ _ _ _ _ _ _ _ _ _ _ _ _ _ _ _ _ _ _ _) eX6_sheet_66 rfl hi rfl ?_
              refine x_aload0 eX6_sheet_67 ?_
              refine x_get eX6_sheet_68 fX6_63 rfl rfl ?_
              refine x_iload1 eX6_sheet_71 ?_
              refine x_iload3 eX6_sheet_72 ?_
              obtain ⟨f17, hv, hm⟩ := xo_bind hm
              obtain ⟨hi, rfl⟩ := xo_set_some hv
              refine x_iastore (w' := WM _ _ _ _ _ _ _ _ _ _ _ _ _ _ _ _ _ _ _ _ _ _ _ _ _ _ _ _ _ _ _ _ _ _ _ _ _ _ _ _ _ _ _ _ _ _) eX6_sheet_73 rfl hi rfl ?_
              refine x_k eX6_sheet_74 ?_
              refine x_istore4 eX6_sheet_75 rfl ?_
              exact l_X6_sheet_77 _ hm
            · rw [if_neg c] at hm
              refine x_k eX6_sheet_54 ?_
              refine x_goto eX6_sheet_55 ?_
              obtain ⟨f18, hv, hm⟩ := xo_bind hm
              obtain ⟨hi, rfl⟩ := xo_set_some hv
              refine x_bastore (w' := WM _ _ _ _ _ _ _ _ _ _ _ _ _ _ _ _ _ _ _ _ _ _ _ _ _ _ _ _ _ _ _ _ _ _ _ _ _ _ _ _ _ _ _ _ _ _) eX6_sheet_59 rfl hi rfl ?_
              refine x_aload0 eX6_sheet_60 ?_
              refine x_get eX6_sheet_61 fX6_60 rfl rfl ?_
              refine x_iload1 eX6_sheet_64 ?_
              refine x_iload2 eX6_sheet_65 ?_
              obtain ⟨f19, hv, hm⟩ := xo_bind hm
              obtain ⟨hi, rfl⟩ := xo_set_some hv
              refine x_iastore (w' := WM _ _ _ _ _ _ _ _ _ _ _ _ _ _ _ _ _ _ _ _ _ _ _ _ _ _ _ _ _ _ _ _ _ _ _ _ _ _ _ _ _ _ _ _ _ _) eX6_sheet_66 rfl hi rfl ?_
              refine x_aload0 eX6_sheet_67 ?_
              refine x_get eX6_sheet_68 fX6_63 rfl rfl ?_
              refine x_iload1 eX6_sheet_71 ?_
              refine x_iload3 eX6_sheet_72 ?_
              obtain ⟨f20, hv, hm⟩ := xo_bind hm
              obtain ⟨hi, rfl⟩ := xo_set_some hv
              refine x_iastore (w' := WM _ _ _ _ _ _ _ _ _ _ _ _ _ _ _ _ _ _ _ _ _ _ _ _ _ _ _ _ _ _ _ _ _ _ _ _ _ _ _ _ _ _ _ _ _ _) eX6_sheet_73 rfl hi rfl ?_
              refine x_k eX6_sheet_74 ?_
              refine x_istore4 eX6_sheet_75 rfl ?_
              exact l_X6_sheet_77 _ hm
          · rw [if_neg c] at hm
            refine x_iload3 eX6_sheet_38 ?_
            refine x_if_ge eX6_sheet_39 (fun c => ?_) (fun c => ?_)
            · rw [if_pos c] at hm
              refine x_aload0 eX6_sheet_45 ?_
              refine x_get eX6_sheet_46 fX6_56 rfl rfl ?_
              refine x_iload1 eX6_sheet_49 ?_
              refine x_iload2 eX6_sheet_50 ?_
              refine x_if_lt eX6_sheet_51 (fun c => ?_) (fun c => ?_)
              · rw [if_pos c] at hm
                refine x_k eX6_sheet_58 ?_
                obtain ⟨f21, hv, hm⟩ := xo_bind hm
                obtain ⟨hi, rfl⟩ := xo_set_some hv
                refine x_bastore (w' := WM _ _ _ _ _ _ _ _ _ _ _ _ _ _ _ _ _ _ _ _ _ _ _ _ _ _ _ _ _ _ _ _ _ _ _ _ _ _ _ _ _ _ _ _ _ _) eX6_sheet_59 rfl hi rfl ?_
                refine x_aload0 eX6_sheet_60 ?_
                refine x_get eX6_sheet_61 fX6_60 rfl rfl ?_
                refine x_iload1 eX6_sheet_64 ?_
                refine x_iload2 eX6_sheet_65 ?_
                obtain ⟨f22, hv, hm⟩ := xo_bind hm
                obtain ⟨hi, rfl⟩ := xo_set_some hv
                refine x_iastore (w' := WM _ _ _ _ _ _ _ _ _ _ _ _ _ _ _ _ _ _ _ _ _ _ _ _ _ _ _ _ _ _ _ _ _ _ _ _ _ _ _ _ _ _ _ _ _ _) eX6_sheet_66 rfl hi rfl ?_
                refine x_aload0 eX6_sheet_67 ?_
                refine x_get eX6_sheet_68 fX6_63 rfl rfl ?_
                refine x_iload1 eX6_sheet_71 ?_
                refine x_iload3 eX6_sheet_72 ?_
                obtain ⟨f23, hv, hm⟩ := xo_bind hm
                obtain ⟨hi, rfl⟩ := xo_set_some hv
                refine x_iastore (w' := WM _ _ _ _ _ _ _ _ _ _ _ _ _ _ _ _ _ _ _ _ _ _ _ _ _ _ _ _ _ _ _ _ _ _ _ _ _ _ _ _ _ _ _ _ _ _) eX6_sheet_73 rfl hi rfl ?_
                refine x_k eX6_sheet_74 ?_
                refine x_istore4 eX6_sheet_75 rfl ?_
                exact l_X6_sheet_77 _ hm
              · rw [if_neg c] at hm
                refine x_k eX6_sheet_54 ?_
                refine x_goto eX6_sheet_55 ?_
                obtain ⟨f24, hv, hm⟩ := xo_bind hm
                obtain ⟨hi, rfl⟩ := xo_set_some hv
                refine x_bastore (w' := WM _ _ _ _ _ _ _ _ _ _ _ _ _ _ _ _ _ _ _ _ _ _ _ _ _ _ _ _ _ _ _ _ _ _ _ _ _ _ _ _ _ _ _ _ _ _) eX6_sheet_59 rfl hi rfl ?_
                refine x_aload0 eX6_sheet_60 ?_
                refine x_get eX6_sheet_61 fX6_60 rfl rfl ?_
                refine x_iload1 eX6_sheet_64 ?_
                refine x_iload2 eX6_sheet_65 ?_
                obtain ⟨f25, hv, hm⟩ := xo_bind hm
                obtain ⟨hi, rfl⟩ := xo_set_some hv
                refine x_iastore (w' := WM _ _ _ _ _ _ _ _ _ _ _ _ _ _ _ _ _ _ _ _ _ _ _ _ _ _ _ _ _ _ _ _ _ _ _ _ _ _ _ _ _ _ _ _ _ _) eX6_sheet_66 rfl hi rfl ?_
                refine x_aload0 eX6_sheet_67 ?_
                refine x_get eX6_sheet_68 fX6_63 rfl rfl ?_
                refine x_iload1 eX6_sheet_71 ?_
                refine x_iload3 eX6_sheet_72 ?_
                obtain ⟨f26, hv, hm⟩ := xo_bind hm
                obtain ⟨hi, rfl⟩ := xo_set_some hv
                refine x_iastore (w' := WM _ _ _ _ _ _ _ _ _ _ _ _ _ _ _ _ _ _ _ _ _ _ _ _ _ _ _ _ _ _ _ _ _ _ _ _ _ _ _ _ _ _ _ _ _ _) eX6_sheet_73 rfl hi rfl ?_
                refine x_k eX6_sheet_74 ?_
                refine x_istore4 eX6_sheet_75 rfl ?_
                exact l_X6_sheet_77 _ hm
            · rw [if_neg c] at hm
              refine x_k eX6_sheet_42 ?_
              obtain rfl := Option.some.inj hm
              exact x_iret eX6_sheet_44 ⟨rfl, rfl⟩
        · rw [if_neg c] at hm
          refine x_k eX6_sheet_31 ?_
          obtain rfl := Option.some.inj hm
          exact x_iret eX6_sheet_33 ⟨rfl, rfl⟩
set_option maxRecDepth 4000 in
theorem t_X6_cell {o : Int32 × (Nat → Int32)} {p1 : Int32} {p2 : Int32} {p3 : Int32} (hm : sp_X6_cell p1 p2 p3 m_isThere m_sorts m_sheetSize m_items = some o) : xt_M yX6_cell cX6_cell 4 (some .int) (d + 2) [.ref 0, .int p1, .int p2, .int p3] (WM m_thrown m_textCount m_rule m_taped m_n m_minds m_lasts m_cutNow m_year m_ofNode m_ofDepth m_ofKids m_ofTwigs m_ofLast m_ofYear m_from m_size m_here m_token m_tokenAt m_open m_bad m_fault m_nKept m_mindsKept m_lastsKept m_cutKept m_yearKept m_ruleKept m_tokenWorth m_texts m_textSize m_tape m_parents m_kinds m_numbers m_odds m_yes m_no m_prices m_numbersKept m_oddsKept m_isThere m_sorts m_sheetSize m_items) (xt_Ki o.1 (WM m_thrown m_textCount m_rule m_taped m_n m_minds m_lasts m_cutNow m_year m_ofNode m_ofDepth m_ofKids m_ofTwigs m_ofLast m_ofYear m_from m_size m_here m_token m_tokenAt m_open m_bad m_fault m_nKept m_mindsKept m_lastsKept m_cutKept m_yearKept m_ruleKept m_tokenWorth m_texts m_textSize m_tape m_parents m_kinds m_numbers m_odds m_yes m_no m_prices m_numbersKept m_oddsKept m_isThere m_sorts m_sheetSize o.2)) := by
  unfold sp_X6_cell at hm
  refine xt_M.go (own := RX6) (lv := [some (.ref 0), some (.int p1), some (.int p2), some (.int p3)]) rfl rfl (Nat.le_of_ble_eq_true rfl) rfl ?_
  refine x_iload1 eX6_cell_0 ?_
  obtain ⟨r1, hr, hm⟩ := xo_bind hm
  refine x_Si1 eX6_cell_1 kX6_isSheet mX6_307 (t_X6_isSheet hr) (Nat.le_of_ble_eq_true rfl) ?_
  refine x_if_ne eX6_cell_4 (fun c => ?_) (fun c => ?_)
  · rw [if_neg c] at hm
    refine x_aload0 eX6_cell_10 ?_
    refine x_get eX6_cell_11 fX6_56 rfl rfl ?_
    refine x_iload1 eX6_cell_14 ?_
    obtain ⟨v2, hv, hm⟩ := xo_bind hm
    obtain ⟨hi, rfl⟩ := xo_at_some hv
    refine x_baload eX6_cell_15 rfl hi ?_
    refine x_if_ne eX6_cell_16 (fun c => ?_) (fun c => ?_)
    · rw [if_neg c] at hm
      refine x_iload2 eX6_cell_22 ?_
      refine x_i2l eX6_cell_23 ?_
      refine x_lk eX6_cell_24 ?_
      refine x_aload0 eX6_cell_25 ?_
      refine x_get eX6_cell_26 fX6_63 rfl rfl ?_
      refine x_iload1 eX6_cell_29 ?_
      obtain ⟨v3, hv, hm⟩ := xo_bind hm
      obtain ⟨hi, rfl⟩ := xo_at_some hv
      refine x_iaload eX6_cell_30 rfl hi ?_
      refine x_k eX6_cell_31 ?_
      refine x_isub eX6_cell_32 ?_
      refine x_i2l eX6_cell_33 ?_
      refine x_Si3 eX6_cell_34 kX6_in mX6_76 (t_X6_in rfl) (Nat.le_of_ble_eq_true rfl) ?_
      refine x_if_ne eX6_cell_37 (fun c => ?_) (fun c => ?_)
      · rw [if_neg c] at hm
        refine x_aload0 eX6_cell_43 ?_
        refine x_get eX6_cell_44 fX6_66 rfl rfl ?_
        refine x_k eX6_cell_47 ?_
        refine x_iload1 eX6_cell_49 ?_
        refine x_imul eX6_cell_50 ?_
        refine x_iload2 eX6_cell_51 ?_
        refine x_iadd eX6_cell_52 ?_
        refine x_aload0 eX6_cell_53 ?_
        refine x_get eX6_cell_54 fX6_60 rfl rfl ?_
        refine x_iload1 eX6_cell_57 ?_
        obtain ⟨v4, hv, hm⟩ := xo_bind hm
        obtain ⟨hi, rfl⟩ := xo_at_some hv
        refine x_iaload eX6_cell_58 rfl hi ?_
        refine x_if_ne eX6_cell_59 (fun c => ?_) (fun c => ?_)
        · rw [if_neg c] at hm
          refine x_aload0 eX6_cell_67 ?_
          refine x_get eX6_cell_68 fX6_60 rfl rfl ?_
          refine x_iload1 eX6_cell_71 ?_
          obtain ⟨v5, hv, hm⟩ := xo_bind hm
          obtain ⟨hi, rfl⟩ := xo_at_some hv
          refine x_iaload eX6_cell_72 rfl hi ?_
          refine x_k eX6_cell_73 ?_
          refine x_icmp_ne eX6_cell_74 (fun c => ?_) (fun c => ?_)
          · rw [if_neg c] at hm
            refine x_iload3 eX6_cell_82 ?_
            obtain ⟨f6, hv, hm⟩ := xo_bind hm
            obtain ⟨hi, rfl⟩ := xo_set_some hv
            refine x_iastore (w' := WM _ _ _ _ _ _ _ _ _ _ _ _ _ _ _ _ _ _ _ _ _ _ _ _ _ _ _ _ _ _ _ _ _ _ _ _ _ _ _ _ _ _ _ _ _ _) eX6_cell_83 rfl hi rfl ?_
            refine x_k eX6_cell_84 ?_
            obtain rfl := Option.some.inj hm
            exact x_iret eX6_cell_85 ⟨rfl, rfl⟩
          · rw [if_pos c] at hm
            refine x_iload3 eX6_cell_77 ?_
            refine x_i2s eX6_cell_78 ?_
            refine x_goto eX6_cell_79 ?_
            obtain ⟨f7, hv, hm⟩ := xo_bind hm
            obtain ⟨hi, rfl⟩ := xo_set_some hv
            refine x_iastore (w' := WM _ _ _ _ _ _ _ _ _ _ _ _ _ _ _ _ _ _ _ _ _ _ _ _ _ _ _ _ _ _ _ _ _ _ _ _ _ _ _ _ _ _ _ _ _ _) eX6_cell_83 rfl hi rfl ?_
            refine x_k eX6_cell_84 ?_
            obtain rfl := Option.some.inj hm
            exact x_iret eX6_cell_85 ⟨rfl, rfl⟩
        · rw [if_pos c] at hm
          refine x_iload3 eX6_cell_62 ?_
          refine x_i2b eX6_cell_63 ?_
          refine x_goto eX6_cell_64 ?_
          obtain ⟨f8, hv, hm⟩ := xo_bind hm
          obtain ⟨hi, rfl⟩ := xo_set_some hv
          refine x_iastore (w' := WM _ _ _ _ _ _ _ _ _ _ _ _ _ _ _ _ _ _ _ _ _ _ _ _ _ _ _ _ _ _ _ _ _ _ _ _ _ _ _ _ _ _ _ _ _ _) eX6_cell_83 rfl hi rfl ?_
          refine x_k eX6_cell_84 ?_
          obtain rfl := Option.some.inj hm
          exact x_iret eX6_cell_85 ⟨rfl, rfl⟩
      · rw [if_pos c] at hm
        refine x_k eX6_cell_40 ?_
        obtain rfl := Option.some.inj hm
        exact x_iret eX6_cell_42 ⟨rfl, rfl⟩
    · rw [if_pos c] at hm
      refine x_k eX6_cell_19 ?_
      obtain rfl := Option.some.inj hm
      exact x_iret eX6_cell_21 ⟨rfl, rfl⟩
  · rw [if_pos c] at hm
    refine x_k eX6_cell_7 ?_
    obtain rfl := Option.some.inj hm
    exact x_iret eX6_cell_9 ⟨rfl, rfl⟩
set_option maxRecDepth 4000 in
theorem l_X6_copy_121 {o : Int32 × (Nat → Int32)} {u1 : Int32} {u2 : Int32} {u3 : Int32} {u4 : Int32} {u5 : Int32} {u6 : Int32} : ∀ (n : Nat) {u7 : Int32} {m_items : Nat → Int32}, sp_X6_copy_121 u1 u2 u3 u4 u5 u6 n u7 m_items = some o → xt_T RX6 cX6_copy 9 (some .int) (d + 2) (xt_Ki o.1 (WM m_thrown m_textCount m_rule m_taped m_n m_minds m_lasts m_cutNow m_year m_ofNode m_ofDepth m_ofKids m_ofTwigs m_ofLast m_ofYear m_from m_size m_here m_token m_tokenAt m_open m_bad m_fault m_nKept m_mindsKept m_lastsKept m_cutKept m_yearKept m_ruleKept m_tokenWorth m_texts m_textSize m_tape m_parents m_kinds m_numbers m_odds m_yes m_no m_prices m_numbersKept m_oddsKept m_isThere m_sorts m_sheetSize o.2)) 121 [some (.ref 0), some (.int u1), some (.int u2), some (.int u3), some (.int u4), some (.int u5), some (.int u6), some (.int u7), none] [] (WM m_thrown m_textCount m_rule m_taped m_n m_minds m_lasts m_cutNow m_year m_ofNode m_ofDepth m_ofKids m_ofTwigs m_ofLast m_ofYear m_from m_size m_here m_token m_tokenAt m_open m_bad m_fault m_nKept m_mindsKept m_lastsKept m_cutKept m_yearKept m_ruleKept m_tokenWorth m_texts m_textSize m_tape m_parents m_kinds m_numbers m_odds m_yes m_no m_prices m_numbersKept m_oddsKept m_isThere m_sorts m_sheetSize m_items) := by
  intro n
  induction n with
  | zero => intro u7 m_items hm; rw [sp_X6_copy_121] at hm; cases hm
  | succ n ih =>
    intro u7 m_items hm
    rw [sp_X6_copy_121] at hm
    refine x_iload7 eX6_copy_121 ?_
    refine x_iload5 eX6_copy_123 ?_
    refine x_icmp_ge eX6_copy_125 (fun c => ?_) (fun c => ?_)
    · rw [if_pos c] at hm
      refine x_iload5 eX6_copy_182 ?_
      obtain rfl := Option.some.inj hm
      exact x_iret eX6_copy_184 ⟨rfl, rfl⟩
    · rw [if_neg c] at hm
      refine x_iload6 eX6_copy_128 ?_
      refine x_if_eq eX6_copy_130 (fun c => ?_) (fun c => ?_)
      · rw [if_pos c] at hm
        refine x_iload7 eX6_copy_143 ?_
        refine x_istore8 eX6_copy_145 rfl ?_
        refine x_aload0 eX6_copy_147 ?_
        refine x_get eX6_copy_148 fX6_66 rfl rfl ?_
        refine x_k eX6_copy_151 ?_
        refine x_iload3 eX6_copy_153 ?_
        refine x_imul eX6_copy_154 ?_
        refine x_iload4 eX6_copy_155 ?_
        refine x_iadd eX6_copy_157 ?_
        refine x_iload8 eX6_copy_158 ?_
        refine x_iadd eX6_copy_160 ?_
        refine x_aload0 eX6_copy_161 ?_
        refine x_get eX6_copy_162 fX6_66 rfl rfl ?_
        refine x_k eX6_copy_165 ?_
        refine x_iload1 eX6_copy_167 ?_
        refine x_imul eX6_copy_168 ?_
        refine x_iload2 eX6_copy_169 ?_
        refine x_iadd eX6_copy_170 ?_
        refine x_iload8 eX6_copy_171 ?_
        refine x_iadd eX6_copy_173 ?_
        obtain ⟨v9, hv, hm⟩ := xo_bind hm
        obtain ⟨hi, rfl⟩ := xo_at_some hv
        refine x_iaload eX6_copy_174 rfl hi ?_
        obtain ⟨f10, hv, hm⟩ := xo_bind hm
        obtain ⟨hi, rfl⟩ := xo_set_some hv
        refine x_iastore (w' := WM _ _ _ _ _ _ _ _ _ _ _ _ _ _ _ _ _ _ _ _ _ _ _ _ _ _ _ _ _ _ _ _ _ _ _ _ _ _ _ _ _ _ _ _ _ _) eX6_copy_175 rfl hi rfl ?_
        refine x_iinc7 eX6_copy_176 rfl ?_
        refine x_goto eX6_copy_179 ?_
        exact x_weak (by simp [xt_le]) (ih hm)
      · rw [if_neg c] at hm
        refine x_iload5 eX6_copy_133 ?_
        refine x_k eX6_copy_135 ?_
        refine x_isub eX6_copy_136 ?_
        refine x_iload7 eX6_copy_137 ?_
        refine x_isub eX6_copy_139 ?_
        refine x_goto eX6_copy_140 ?_
        refine x_istore8 eX6_copy_145 rfl ?_
        refine x_aload0 eX6_copy_147 ?_
        refine x_get eX6_copy_148 fX6_66 rfl rfl ?_
        refine x_k eX6_copy_151 ?_
        refine x_iload3 eX6_copy_153 ?_
        refine x_imul eX6_copy_154 ?_
        refine x_iload4 eX6_copy_155 ?_
        refine x_iadd eX6_copy_157 ?_
        refine x_iload8 eX6_copy_158 ?_
        refine x_iadd eX6_copy_160 ?_
        refine x_aload0 eX6_copy_161 ?_
        refine x_get eX6_copy_162 fX6_66 rfl rfl ?_
        refine x_k eX6_copy_165 ?_
        refine x_iload1 eX6_copy_167 ?_
        refine x_imul eX6_copy_168 ?_
        refine x_iload2 eX6_copy_169 ?_
        refine x_iadd eX6_copy_170 ?_
        refine x_iload8 eX6_copy_171 ?_
        refine x_iadd eX6_copy_173 ?_
        obtain ⟨v11, hv, hm⟩ := xo_bind hm
        obtain ⟨hi, rfl⟩ := xo_at_some hv
        refine x_iaload eX6_copy_174 rfl hi ?_
        obtain ⟨f12, hv, hm⟩ := xo_bind hm
        obtain ⟨hi, rfl⟩ := xo_set_some hv
        refine x_iastore (w' := WM _ _ _ _ _ _ _ _ _ _ _ _ _ _ _ _ _ _ _ _ _ _ _ _ _ _ _ _ _ _ _ _ _ _ _ _ _ _ _ _ _ _ _ _ _ _) eX6_copy_175 rfl hi rfl ?_
        refine x_iinc7 eX6_copy_176 rfl ?_
        refine x_goto eX6_copy_179 ?_
        exact x_weak (by simp [xt_le]) (ih hm)
set_option maxRecDepth 4000 in
theorem t_X6_copy {o : Int32 × (Nat → Int32)} {p1 : Int32} {p2 : Int32} {p3 : Int32} {p4 : Int32} {p5 : Int32} (hm : sp_X6_copy p1 p2 p3 p4 p5 m_isThere m_sorts m_sheetSize m_items = some o) : xt_M yX6_copy cX6_copy 9 (some .int) (d + 2) [.ref 0, .int p1, .int p2, .int p3, .int p4, .int p5] (WM m_thrown m_textCount m_rule m_taped m_n m_minds m_lasts m_cutNow m_year m_ofNode m_ofDepth m_ofKids m_ofTwigs m_ofLast m_ofYear m_from m_size m_here m_token m_tokenAt m_open m_bad m_fault m_nKept m_mindsKept m_lastsKept m_cutKept m_yearKept m_ruleKept m_tokenWorth m_texts m_textSize m_tape m_parents m_kinds m_numbers m_odds m_yes m_no m_prices m_numbersKept m_oddsKept m_isThere m_sorts m_sheetSize m_items) (xt_Ki o.1 (WM m_thrown m_textCount m_rule m_taped m_n m_minds m_lasts m_cutNow m_year m_ofNode m_ofDepth m_ofKids m_ofTwigs m_ofLast m_ofYear m_from m_size m_here m_token m_tokenAt m_open m_bad m_fault m_nKept m_mindsKept m_lastsKept m_cutKept m_yearKept m_ruleKept m_tokenWorth m_texts m_textSize m_tape m_parents m_kinds m_numbers m_odds m_yes m_no m_prices m_numbersKept m_oddsKept m_isThere m_sorts m_sheetSize o.2)) := by
  unfold sp_X6_copy at hm
  refine xt_M.go (own := RX6) (lv := [some (.ref 0), some (.int p1), some (.int p2), some (.int p3), some (.int p4), some (.int p5), none, none, none]) rfl rfl (Nat.le_of_ble_eq_true rfl) rfl ?_
  refine x_iload1 eX6_copy_0 ?_
  obtain ⟨r1, hr, hm⟩ := xo_bind hm
  refine x_Si1 eX6_copy_1 kX6_isSheet mX6_307 (t_X6_isSheet hr) (Nat.le_of_ble_eq_true rfl) ?_
  refine x_if_eq eX6_copy_4 (fun c => ?_) (fun c => ?_)
  · rw [if_pos c] at hm
    refine x_k eX6_copy_14 ?_
    obtain rfl := Option.some.inj hm
    exact x_iret eX6_copy_16 ⟨rfl, rfl⟩
  · rw [if_neg c] at hm
    refine x_iload3 eX6_copy_7 ?_
    obtain ⟨r2, hr, hm⟩ := xo_bind hm
    refine x_Si1 eX6_copy_8 kX6_isSheet mX6_307 (t_X6_isSheet hr) (Nat.le_of_ble_eq_true rfl) ?_
    refine x_if_ne eX6_copy_11 (fun c => ?_) (fun c => ?_)
    · rw [if_neg c] at hm
      refine x_aload0 eX6_copy_17 ?_
      refine x_get eX6_copy_18 fX6_56 rfl rfl ?_
      refine x_iload1 eX6_copy_21 ?_
      obtain ⟨v3, hv, hm⟩ := xo_bind hm
      obtain ⟨hi, rfl⟩ := xo_at_some hv
      refine x_baload eX6_copy_22 rfl hi ?_
      refine x_if_eq eX6_copy_23 (fun c => ?_) (fun c => ?_)
      · rw [if_pos c] at hm
        refine x_k eX6_copy_35 ?_
        obtain rfl := Option.some.inj hm
        exact x_iret eX6_copy_37 ⟨rfl, rfl⟩
      · rw [if_neg c] at hm
        refine x_aload0 eX6_copy_26 ?_
        refine x_get eX6_copy_27 fX6_56 rfl rfl ?_
        refine x_iload3 eX6_copy_30 ?_
        obtain ⟨v4, hv, hm⟩ := xo_bind hm
        obtain ⟨hi, rfl⟩ := xo_at_some hv
        refine x_baload eX6_copy_31 rfl hi ?_
        refine x_if_ne eX6_copy_32 (fun c => ?_) (fun c => ?_)
        · rw [if_neg c] at hm
          refine x_aload0 eX6_copy_38 ?_
          refine x_get eX6_copy_39 fX6_60 rfl rfl ?_
          refine x_iload1 eX6_copy_42 ?_
          obtain ⟨v5, hv, hm⟩ := xo_bind hm
          obtain ⟨hi, rfl⟩ := xo_at_some hv
          refine x_iaload eX6_copy_43 rfl hi ?_
          refine x_aload0 eX6_copy_44 ?_
          refine x_get eX6_copy_45 fX6_60 rfl rfl ?_
          refine x_iload3 eX6_copy_48 ?_
          obtain ⟨v6, hv, hm⟩ := xo_bind hm
          obtain ⟨hi, rfl⟩ := xo_at_some hv
          refine x_iaload eX6_copy_49 rfl hi ?_
          refine x_icmp_eq eX6_copy_50 (fun c => ?_) (fun c => ?_)
          · rw [if_pos c] at hm
            refine x_iload5 eX6_copy_56 ?_
            refine x_if_lt eX6_copy_58 (fun c => ?_) (fun c => ?_)
            · rw [if_pos c] at hm
              refine x_k eX6_copy_97 ?_
              obtain rfl := Option.some.inj hm
              exact x_iret eX6_copy_99 ⟨rfl, rfl⟩
            · rw [if_neg c] at hm
              refine x_iload2 eX6_copy_61 ?_
              refine x_if_lt eX6_copy_62 (fun c => ?_) (fun c => ?_)
              · rw [if_pos c] at hm
                refine x_k eX6_copy_97 ?_
                obtain rfl := Option.some.inj hm
                exact x_iret eX6_copy_99 ⟨rfl, rfl⟩
              · rw [if_neg c] at hm
                refine x_iload4 eX6_copy_65 ?_
                refine x_if_lt eX6_copy_67 (fun c => ?_) (fun c => ?_)
                · rw [if_pos c] at hm
                  refine x_k eX6_copy_97 ?_
                  obtain rfl := Option.some.inj hm
                  exact x_iret eX6_copy_99 ⟨rfl, rfl⟩
                · rw [if_neg c] at hm
                  refine x_iload2 eX6_copy_70 ?_
                  refine x_aload0 eX6_copy_71 ?_
                  refine x_get eX6_copy_72 fX6_63 rfl rfl ?_
                  refine x_iload1 eX6_copy_75 ?_
                  obtain ⟨v7, hv, hm⟩ := xo_bind hm
                  obtain ⟨hi, rfl⟩ := xo_at_some hv
                  refine x_iaload eX6_copy_76 rfl hi ?_
                  refine x_iload5 eX6_copy_77 ?_
                  refine x_isub eX6_copy_79 ?_
                  refine x_icmp_gt eX6_copy_80 (fun c => ?_) (fun c => ?_)
                  · rw [if_pos c] at hm
                    refine x_k eX6_copy_97 ?_
                    obtain rfl := Option.some.inj hm
                    exact x_iret eX6_copy_99 ⟨rfl, rfl⟩
                  · rw [if_neg c] at hm
                    refine x_iload4 eX6_copy_83 ?_
                    refine x_aload0 eX6_copy_85 ?_
                    refine x_get eX6_copy_86 fX6_63 rfl rfl ?_
                    refine x_iload3 eX6_copy_89 ?_
                    obtain ⟨v8, hv, hm⟩ := xo_bind hm
                    obtain ⟨hi, rfl⟩ := xo_at_some hv
                    refine x_iaload eX6_copy_90 rfl hi ?_
                    refine x_iload5 eX6_copy_91 ?_
                    refine x_isub eX6_copy_93 ?_
                    refine x_icmp_le eX6_copy_94 (fun c => ?_) (fun c => ?_)
                    · rw [if_pos c] at hm
                      refine x_iload1 eX6_copy_100 ?_
                      refine x_iload3 eX6_copy_101 ?_
                      refine x_icmp_ne eX6_copy_102 (fun c => ?_) (fun c => ?_)
                      · rw [if_neg c] at hm
                        refine x_k eX6_copy_115 ?_
                        refine x_istore6 eX6_copy_116 rfl ?_
                        refine x_k eX6_copy_118 ?_
                        refine x_istore7 eX6_copy_119 rfl ?_
                        exact l_X6_copy_121 _ hm
                      · rw [if_pos c] at hm
                        refine x_iload2 eX6_copy_105 ?_
                        refine x_iload4 eX6_copy_106 ?_
                        refine x_icmp_ge eX6_copy_108 (fun c => ?_) (fun c => ?_)
                        · rw [if_pos c] at hm
                          refine x_k eX6_copy_115 ?_
                          refine x_istore6 eX6_copy_116 rfl ?_
                          refine x_k eX6_copy_118 ?_
                          refine x_istore7 eX6_copy_119 rfl ?_
                          exact l_X6_copy_121 _ hm
                        · rw [if_neg c] at hm
                          refine x_k eX6_copy_111 ?_
                          refine x_goto eX6_copy_112 ?_
                          refine x_istore6 eX6_copy_116 rfl ?_
                          refine x_k eX6_copy_118 ?_
                          refine x_istore7 eX6_copy_119 rfl ?_
                          exact l_X6_copy_121 _ hm
                    · rw [if_neg c] at hm
                      refine x_k eX6_copy_97 ?_
                      obtain rfl := Option.some.inj hm
                      exact x_iret eX6_copy_99 ⟨rfl, rfl⟩
          · rw [if_neg c] at hm
            refine x_k eX6_copy_53 ?_
            obtain rfl := Option.some.inj hm
            exact x_iret eX6_copy_55 ⟨rfl, rfl⟩
        · rw [if_pos c] at hm
          refine x_k eX6_copy_35 ?_
          obtain rfl := Option.some.inj hm
          exact x_iret eX6_copy_37 ⟨rfl, rfl⟩
    · rw [if_pos c] at hm
      refine x_k eX6_copy_14 ?_
      obtain rfl := Option.some.inj hm
      exact x_iret eX6_copy_16 ⟨rfl, rfl⟩
set_option maxRecDepth 4000 in
theorem l_X6_nodes_75 {o : Int32 × Int32 × Int32 × Int32 × Int32 × (Nat → Int32) × (Nat → Int32) × (Nat → Int32) × (Nat → Int32)} {u1 : Int32} {u3 : Int32} {u4 : Int32} {m_sheetSize : Nat → Int32} {m_items : Nat → Int32} {u2 : Int32} : ∀ (n : Nat) {u5 : Int32} {u6 : Int32} {m_n : Int32} {m_minds : Int32} {m_lasts : Int32} {m_cutNow : Int32} {m_parents : Nat → Int32} {m_kinds : Nat → Int32} {m_numbers : Nat → Int32} {m_odds : Nat → Int32}, sp_X6_nodes_75 u1 u3 u4 m_sheetSize m_items n u5 u6 m_n m_minds m_lasts m_cutNow m_parents m_kinds m_numbers m_odds = some o → xt_T RX6 cX6_nodes 8 (some .int) (d + 3) (xt_Ki o.1 (WM m_thrown m_textCount m_rule m_taped o.2.1 o.2.2.1 o.2.2.2.1 o.2.2.2.2.1 m_year m_ofNode m_ofDepth m_ofKids m_ofTwigs m_ofLast m_ofYear m_from m_size m_here m_token m_tokenAt m_open m_bad m_fault m_nKept m_mindsKept m_lastsKept m_cutKept m_yearKept m_ruleKept m_tokenWorth m_texts m_textSize m_tape o.2.2.2.2.2.1 o.2.2.2.2.2.2.1 o.2.2.2.2.2.2.2.1 o.2.2.2.2.2.2.2.2 m_yes m_no m_prices m_numbersKept m_oddsKept m_isThere m_sorts m_sheetSize m_items)) 75 [some (.ref 0), some (.int u1), some (.int u2), some (.int u3), some (.int u4), some (.int u5), some (.int u6), none] [] (WM m_thrown m_textCount m_rule m_taped m_n m_minds m_lasts m_cutNow m_year m_ofNode m_ofDepth m_ofKids m_ofTwigs m_ofLast m_ofYear m_from m_size m_here m_token m_tokenAt m_open m_bad m_fault m_nKept m_mindsKept m_lastsKept m_cutKept m_yearKept m_ruleKept m_tokenWorth m_texts m_textSize m_tape m_parents m_kinds m_numbers m_odds m_yes m_no m_prices m_numbersKept m_oddsKept m_isThere m_sorts m_sheetSize m_items) := by
  intro n
  induction n with
  | zero => intro u5 u6 m_n m_minds m_lasts m_cutNow m_parents m_kinds m_numbers m_odds hm; rw [sp_X6_nodes_75] at hm; cases hm
  | succ n ih =>
    intro u5 u6 m_n m_minds m_lasts m_cutNow m_parents m_kinds m_numbers m_odds hm
    rw [sp_X6_nodes_75] at hm
    refine x_iload6 eX6_nodes_75 ?_
    refine x_iload4 eX6_nodes_77 ?_
    refine x_icmp_ge eX6_nodes_79 (fun c => ?_) (fun c => ?_)
    · rw [if_pos c] at hm
      refine x_iload5 eX6_nodes_167 ?_
      obtain rfl := Option.some.inj hm
      exact x_iret eX6_nodes_169 ⟨rfl, rfl⟩
    · rw [if_neg c] at hm
      refine x_iload3 eX6_nodes_82 ?_
      refine x_if_lt eX6_nodes_83 (fun c => ?_) (fun c => ?_)
      · rw [if_pos c] at hm
        refine x_k eX6_nodes_103 ?_
        obtain rfl := Option.some.inj hm
        exact x_iret eX6_nodes_105 ⟨rfl, rfl⟩
      · rw [if_neg c] at hm
        refine x_iload3 eX6_nodes_86 ?_
        refine x_aload0 eX6_nodes_87 ?_
        refine x_get eX6_nodes_88 fX6_63 rfl rfl ?_
        refine x_iload1 eX6_nodes_91 ?_
        obtain ⟨v4, hv, hm⟩ := xo_bind hm
        obtain ⟨hi, rfl⟩ := xo_at_some hv
        refine x_iaload eX6_nodes_92 rfl hi ?_
        refine x_k eX6_nodes_93 ?_
        refine x_iload6 eX6_nodes_94 ?_
        refine x_imul eX6_nodes_96 ?_
        refine x_isub eX6_nodes_97 ?_
        refine x_k eX6_nodes_98 ?_
        refine x_isub eX6_nodes_99 ?_
        refine x_icmp_le eX6_nodes_100 (fun c => ?_) (fun c => ?_)
        · rw [if_pos c] at hm
          refine x_k eX6_nodes_106 ?_
          refine x_iload1 eX6_nodes_108 ?_
          refine x_imul eX6_nodes_109 ?_
          refine x_iload3 eX6_nodes_110 ?_
          refine x_iadd eX6_nodes_111 ?_
          refine x_k eX6_nodes_112 ?_
          refine x_iload6 eX6_nodes_113 ?_
          refine x_imul eX6_nodes_115 ?_
          refine x_iadd eX6_nodes_116 ?_
          refine x_istore7 eX6_nodes_117 rfl ?_
          refine x_iload5 eX6_nodes_119 ?_
          refine x_aload0 eX6_nodes_121 ?_
          refine x_aload0 eX6_nodes_122 ?_
          refine x_get eX6_nodes_123 fX6_66 rfl rfl ?_
          refine x_iload7 eX6_nodes_126 ?_
          obtain ⟨v5, hv, hm⟩ := xo_bind hm
          obtain ⟨hi, rfl⟩ := xo_at_some hv
          refine x_iaload eX6_nodes_128 rfl hi ?_
          refine x_aload0 eX6_nodes_129 ?_
          refine x_get eX6_nodes_130 fX6_66 rfl rfl ?_
          refine x_iload7 eX6_nodes_133 ?_
          refine x_k eX6_nodes_135 ?_
          refine x_iadd eX6_nodes_136 ?_
          obtain ⟨v6, hv, hm⟩ := xo_bind hm
          obtain ⟨hi, rfl⟩ := xo_at_some hv
          refine x_iaload eX6_nodes_137 rfl hi ?_
          refine x_aload0 eX6_nodes_138 ?_
          refine x_get eX6_nodes_139 fX6_66 rfl rfl ?_
          refine x_iload7 eX6_nodes_142 ?_
          refine x_k eX6_nodes_144 ?_
          refine x_iadd eX6_nodes_145 ?_
          obtain ⟨v7, hv, hm⟩ := xo_bind hm
          obtain ⟨hi, rfl⟩ := xo_at_some hv
          refine x_iaload eX6_nodes_146 rfl hi ?_
          obtain ⟨r8, hr, hm⟩ := xo_bind hm
          refine x_Vi3 eX6_nodes_147 kX6_grow mX6_342 (t_X6_grow hr) rfl (Nat.le_of_ble_eq_true rfl) ?_
          refine x_if_lt eX6_nodes_150 (fun c => ?_) (fun c => ?_)
          · rw [if_pos c] at hm
            refine x_k eX6_nodes_157 ?_
            refine x_iadd eX6_nodes_158 ?_
            refine x_istore5 eX6_nodes_159 rfl ?_
            refine x_iinc6 eX6_nodes_161 rfl ?_
            refine x_goto eX6_nodes_164 ?_
            exact x_weak (by simp [xt_le]) (ih hm)
          · rw [if_neg c] at hm
            refine x_k eX6_nodes_153 ?_
            refine x_goto eX6_nodes_154 ?_
            refine x_iadd eX6_nodes_158 ?_
            refine x_istore5 eX6_nodes_159 rfl ?_
            refine x_iinc6 eX6_nodes_161 rfl ?_
            refine x_goto eX6_nodes_164 ?_
            exact x_weak (by simp [xt_le]) (ih hm)
        · rw [if_neg c] at hm
          refine x_k eX6_nodes_103 ?_
          obtain rfl := Option.some.inj hm
          exact x_iret eX6_nodes_105 ⟨rfl, rfl⟩
set_option maxRecDepth 4000 in
theorem t_X6_nodes {o : Int32 × Int32 × Int32 × Int32 × Int32 × (Nat → Int32) × (Nat → Int32) × (Nat → Int32) × (Nat → Int32)} {p1 : Int32} {p2 : Int32} {p3 : Int32} {p4 : Int32} (hm : sp_X6_nodes p1 p2 p3 p4 m_n m_minds m_lasts m_cutNow m_parents m_kinds m_numbers m_odds m_isThere m_sorts m_sheetSize m_items = some o) : xt_M yX6_nodes cX6_nodes 8 (some .int) (d + 3) [.ref 0, .int p1, .int p2, .int p3, .int p4] (WM m_thrown m_textCount m_rule m_taped m_n m_minds m_lasts m_cutNow m_year m_ofNode m_ofDepth m_ofKids m_ofTwigs m_ofLast m_ofYear m_from m_size m_here m_token m_tokenAt m_open m_bad m_fault m_nKept m_mindsKept m_lastsKept m_cutKept m_yearKept m_ruleKept m_tokenWorth m_texts m_textSize m_tape m_parents m_kinds m_numbers m_odds m_yes m_no m_prices m_numbersKept m_oddsKept m_isThere m_sorts m_sheetSize m_items) (xt_Ki o.1 (WM m_thrown m_textCount m_rule m_taped o.2.1 o.2.2.1 o.2.2.2.1 o.2.2.2.2.1 m_year m_ofNode m_ofDepth m_ofKids m_ofTwigs m_ofLast m_ofYear m_from m_size m_here m_token m_tokenAt m_open m_bad m_fault m_nKept m_mindsKept m_lastsKept m_cutKept m_yearKept m_ruleKept m_tokenWorth m_texts m_textSize m_tape o.2.2.2.2.2.1 o.2.2.2.2.2.2.1 o.2.2.2.2.2.2.2.1 o.2.2.2.2.2.2.2.2 m_yes m_no m_prices m_numbersKept m_oddsKept m_isThere m_sorts m_sheetSize m_items)) := by
  unfold sp_X6_nodes at hm
  refine xt_M.go (own := RX6) (lv := [some (.ref 0), some (.int p1), some (.int p2), some (.int p3), some (.int p4), none, none, none]) rfl rfl (Nat.le_of_ble_eq_true rfl) rfl ?_
  refine x_iload1 eX6_nodes_0 ?_
  obtain ⟨r1, hr, hm⟩ := xo_bind hm
  refine x_Si1 eX6_nodes_1 kX6_isSheet mX6_307 (t_X6_isSheet hr) (Nat.le_of_ble_eq_true rfl) ?_
  refine x_if_eq eX6_nodes_4 (fun c => ?_) (fun c => ?_)
  · rw [if_pos c] at hm
    refine x_k eX6_nodes_32 ?_
    obtain rfl := Option.some.inj hm
    exact x_iret eX6_nodes_34 ⟨rfl, rfl⟩
  · rw [if_neg c] at hm
    refine x_iload2 eX6_nodes_7 ?_
    refine x_i2l eX6_nodes_8 ?_
    refine x_lk eX6_nodes_9 ?_
    refine x_ldc2 eX6_nodes_10 cX6_260 ?_
    refine x_Si3 eX6_nodes_13 kX6_in mX6_76 (t_X6_in rfl) (Nat.le_of_ble_eq_true rfl) ?_
    refine x_if_eq eX6_nodes_16 (fun c => ?_) (fun c => ?_)
    · rw [if_pos c] at hm
      refine x_k eX6_nodes_32 ?_
      obtain rfl := Option.some.inj hm
      exact x_iret eX6_nodes_34 ⟨rfl, rfl⟩
    · rw [if_neg c] at hm
      refine x_iload4 eX6_nodes_19 ?_
      refine x_i2l eX6_nodes_21 ?_
      refine x_lk eX6_nodes_22 ?_
      refine x_ldc2 eX6_nodes_23 cX6_340 ?_
      refine x_Si3 eX6_nodes_26 kX6_in mX6_76 (t_X6_in rfl) (Nat.le_of_ble_eq_true rfl) ?_
      refine x_if_ne eX6_nodes_29 (fun c => ?_) (fun c => ?_)
      · rw [if_neg c] at hm
        refine x_aload0 eX6_nodes_35 ?_
        refine x_get eX6_nodes_36 fX6_56 rfl rfl ?_
        refine x_iload1 eX6_nodes_39 ?_
        obtain ⟨v2, hv, hm⟩ := xo_bind hm
        obtain ⟨hi, rfl⟩ := xo_at_some hv
        refine x_baload eX6_nodes_40 rfl hi ?_
        refine x_if_eq eX6_nodes_41 (fun c => ?_) (fun c => ?_)
        · rw [if_pos c] at hm
          refine x_aload0 eX6_nodes_57 ?_
          refine x_get eX6_nodes_58 fX6_56 rfl rfl ?_
          refine x_iload1 eX6_nodes_61 ?_
          obtain ⟨v3, hv, hm⟩ := xo_bind hm
          obtain ⟨hi, rfl⟩ := xo_at_some hv
          refine x_baload eX6_nodes_62 rfl hi ?_
          refine x_if_ne eX6_nodes_63 (fun c => ?_) (fun c => ?_)
          · rw [if_neg c] at hm
            refine x_k eX6_nodes_69 ?_
            refine x_istore5 eX6_nodes_70 rfl ?_
            refine x_k eX6_nodes_72 ?_
            refine x_istore6 eX6_nodes_73 rfl ?_
            exact l_X6_nodes_75 _ hm
          · rw [if_pos c] at hm
            refine x_k eX6_nodes_66 ?_
            obtain rfl := Option.some.inj hm
            exact x_iret eX6_nodes_68 ⟨rfl, rfl⟩
        · rw [if_neg c] at hm
          refine x_aload0 eX6_nodes_44 ?_
          refine x_get eX6_nodes_45 fX6_60 rfl rfl ?_
          refine x_iload1 eX6_nodes_48 ?_
          obtain ⟨v9, hv, hm⟩ := xo_bind hm
          obtain ⟨hi, rfl⟩ := xo_at_some hv
          refine x_iaload eX6_nodes_49 rfl hi ?_
          refine x_iload2 eX6_nodes_50 ?_
          refine x_icmp_eq eX6_nodes_51 (fun c => ?_) (fun c => ?_)
          · rw [if_pos c] at hm
            refine x_aload0 eX6_nodes_57 ?_
            refine x_get eX6_nodes_58 fX6_56 rfl rfl ?_
            refine x_iload1 eX6_nodes_61 ?_
            obtain ⟨v10, hv, hm⟩ := xo_bind hm
            obtain ⟨hi, rfl⟩ := xo_at_some hv
            refine x_baload eX6_nodes_62 rfl hi ?_
            refine x_if_ne eX6_nodes_63 (fun c => ?_) (fun c => ?_)
            · rw [if_neg c] at hm
              refine x_k eX6_nodes_69 ?_
              refine x_istore5 eX6_nodes_70 rfl ?_
              refine x_k eX6_nodes_72 ?_
              refine x_istore6 eX6_nodes_73 rfl ?_
              exact l_X6_nodes_75 _ hm
            · rw [if_pos c] at hm
              refine x_k eX6_nodes_66 ?_
              obtain rfl := Option.some.inj hm
              exact x_iret eX6_nodes_68 ⟨rfl, rfl⟩
          · rw [if_neg c] at hm
            refine x_k eX6_nodes_54 ?_
            obtain rfl := Option.some.inj hm
            exact x_iret eX6_nodes_56 ⟨rfl, rfl⟩
      · rw [if_pos c] at hm
        refine x_k eX6_nodes_32 ?_
        obtain rfl := Option.some.inj hm
        exact x_iret eX6_nodes_34 ⟨rfl, rfl⟩
set_option maxRecDepth 4000 in
theorem t_X6_over {o : Int32} {p1 : Int32} (hm : sp_X6_over p1 = o) : xt_M yX6_over cX6_over 1 (some .int) (d + 0) [.int p1] (WM m_thrown m_textCount m_rule m_taped m_n m_minds m_lasts m_cutNow m_year m_ofNode m_ofDepth m_ofKids m_ofTwigs m_ofLast m_ofYear m_from m_size m_here m_token m_tokenAt m_open m_bad m_fault m_nKept m_mindsKept m_lastsKept m_cutKept m_yearKept m_ruleKept m_tokenWorth m_texts m_textSize m_tape m_parents m_kinds m_numbers m_odds m_yes m_no m_prices m_numbersKept m_oddsKept m_isThere m_sorts m_sheetSize m_items) (xt_Ki o (WM m_thrown m_textCount m_rule m_taped m_n m_minds m_lasts m_cutNow m_year m_ofNode m_ofDepth m_ofKids m_ofTwigs m_ofLast m_ofYear m_from m_size m_here m_token m_tokenAt m_open m_bad m_fault m_nKept m_mindsKept m_lastsKept m_cutKept m_yearKept m_ruleKept m_tokenWorth m_texts m_textSize m_tape m_parents m_kinds m_numbers m_odds m_yes m_no m_prices m_numbersKept m_oddsKept m_isThere m_sorts m_sheetSize m_items)) := by
  unfold sp_X6_over at hm
  refine xt_M.go (own := RX6) (lv := [some (.int p1)]) rfl rfl (Nat.le_of_ble_eq_true rfl) rfl ?_
  refine x_iload0 eX6_over_0 ?_
  refine x_if_ne eX6_over_1 (fun c => ?_) (fun c => ?_)
  · rw [if_neg c] at hm
    refine x_iload0 eX6_over_8 ?_
    refine x_k eX6_over_9 ?_
    refine x_icmp_eq eX6_over_10 (fun c => ?_) (fun c => ?_)
    · rw [if_pos c] at hm
      refine x_k eX6_over_18 ?_
      refine x_goto eX6_over_19 ?_
      subst hm
      exact x_iret eX6_over_32 ⟨rfl, rfl⟩
    · rw [if_neg c] at hm
      refine x_iload0 eX6_over_13 ?_
      refine x_k eX6_over_14 ?_
      refine x_icmp_ne eX6_over_15 (fun c => ?_) (fun c => ?_)
      · rw [if_neg c] at hm
        refine x_iload0 eX6_over_22 ?_
        refine x_k eX6_over_23 ?_
        refine x_icmp_ne eX6_over_24 (fun c => ?_) (fun c => ?_)
        · rw [if_neg c] at hm
          refine x_k eX6_over_31 ?_
          subst hm
          exact x_iret eX6_over_32 ⟨rfl, rfl⟩
        · rw [if_pos c] at hm
          refine x_k eX6_over_27 ?_
          refine x_goto eX6_over_28 ?_
          subst hm
          exact x_iret eX6_over_32 ⟨rfl, rfl⟩
      · rw [if_pos c] at hm
        refine x_k eX6_over_18 ?_
        refine x_goto eX6_over_19 ?_
        subst hm
        exact x_iret eX6_over_32 ⟨rfl, rfl⟩
  · rw [if_pos c] at hm
    refine x_k eX6_over_4 ?_
    refine x_goto eX6_over_5 ?_
    subst hm
    exact x_iret eX6_over_32 ⟨rfl, rfl⟩
set_option maxRecDepth 4000 in
theorem l_X6_taken_33 {o : Int32} {u1 : Int32} {u2 : Int32} {m_numbers : Nat → Int32} : ∀ (n : Nat) {u3 : Int32}, sp_X6_taken_33 u1 u2 m_numbers n u3 = some o → xt_T RX6 cX6_taken 4 (some .int) (d + 2) (xt_Ki o (WM m_thrown m_textCount m_rule m_taped m_n m_minds m_lasts m_cutNow m_year m_ofNode m_ofDepth m_ofKids m_ofTwigs m_ofLast m_ofYear m_from m_size m_here m_token m_tokenAt m_open m_bad m_fault m_nKept m_mindsKept m_lastsKept m_cutKept m_yearKept m_ruleKept m_tokenWorth m_texts m_textSize m_tape m_parents m_kinds m_numbers m_odds m_yes m_no m_prices m_numbersKept m_oddsKept m_isThere m_sorts m_sheetSize m_items)) 33 [some (.ref 0), some (.int u1), some (.int u2), some (.int u3)] [] (WM m_thrown m_textCount m_rule m_taped m_n m_minds m_lasts m_cutNow m_year m_ofNode m_ofDepth m_ofKids m_ofTwigs m_ofLast m_ofYear m_from m_size m_here m_token m_tokenAt m_open m_bad m_fault m_nKept m_mindsKept m_lastsKept m_cutKept m_yearKept m_ruleKept m_tokenWorth m_texts m_textSize m_tape m_parents m_kinds m_numbers m_odds m_yes m_no m_prices m_numbersKept m_oddsKept m_isThere m_sorts m_sheetSize m_items) := by
  intro n
  induction n with
  | zero => intro u3 hm; rw [sp_X6_taken_33] at hm; cases hm
  | succ n ih =>
    intro u3 hm
    rw [sp_X6_taken_33] at hm
    refine x_iload3 eX6_taken_33 ?_
    refine x_k eX6_taken_34 ?_
    refine x_icmp_eq eX6_taken_35 (fun c => ?_) (fun c => ?_)
    · rw [if_pos c] at hm
      refine x_iload3 eX6_taken_51 ?_
      refine x_iload2 eX6_taken_52 ?_
      refine x_icmp_ne eX6_taken_53 (fun c => ?_) (fun c => ?_)
      · rw [if_neg c] at hm
        refine x_k eX6_taken_65 ?_
        obtain rfl := Option.some.inj hm
        exact x_iret eX6_taken_67 ⟨rfl, rfl⟩
      · rw [if_pos c] at hm
        refine x_aload0 eX6_taken_56 ?_
        refine x_get eX6_taken_57 fX6_32 rfl rfl ?_
        refine x_iload1 eX6_taken_60 ?_
        obtain ⟨v3, hv, hm⟩ := xo_bind hm
        obtain ⟨hi, rfl⟩ := xo_at_some hv
        refine x_iaload eX6_taken_61 rfl hi ?_
        refine x_goto eX6_taken_62 ?_
        obtain rfl := Option.some.inj hm
        exact x_iret eX6_taken_67 ⟨rfl, rfl⟩
    · rw [if_neg c] at hm
      refine x_iload3 eX6_taken_38 ?_
      refine x_iload2 eX6_taken_39 ?_
      refine x_icmp_eq eX6_taken_40 (fun c => ?_) (fun c => ?_)
      · rw [if_pos c] at hm
        refine x_iload3 eX6_taken_51 ?_
        refine x_iload2 eX6_taken_52 ?_
        refine x_icmp_ne eX6_taken_53 (fun c => ?_) (fun c => ?_)
        · rw [if_neg c] at hm
          refine x_k eX6_taken_65 ?_
          obtain rfl := Option.some.inj hm
          exact x_iret eX6_taken_67 ⟨rfl, rfl⟩
        · rw [if_pos c] at hm
          refine x_aload0 eX6_taken_56 ?_
          refine x_get eX6_taken_57 fX6_32 rfl rfl ?_
          refine x_iload1 eX6_taken_60 ?_
          obtain ⟨v4, hv, hm⟩ := xo_bind hm
          obtain ⟨hi, rfl⟩ := xo_at_some hv
          refine x_iaload eX6_taken_61 rfl hi ?_
          refine x_goto eX6_taken_62 ?_
          obtain rfl := Option.some.inj hm
          exact x_iret eX6_taken_67 ⟨rfl, rfl⟩
      · rw [if_neg c] at hm
        refine x_iload3 eX6_taken_43 ?_
        refine x_Si1 eX6_taken_44 kX6_over mX6_345 (t_X6_over rfl) (Nat.le_of_ble_eq_true rfl) ?_
        refine x_istore3 eX6_taken_47 rfl ?_
        refine x_goto eX6_taken_48 ?_
        exact ih hm
set_option maxRecDepth 4000 in
theorem t_X6_taken {o : Int32} {p1 : Int32} {p2 : Int32} (hm : sp_X6_taken p1 p2 m_n m_kinds m_numbers = some o) : xt_M yX6_taken cX6_taken 4 (some .int) (d + 2) [.ref 0, .int p1, .int p2] (WM m_thrown m_textCount m_rule m_taped m_n m_minds m_lasts m_cutNow m_year m_ofNode m_ofDepth m_ofKids m_ofTwigs m_ofLast m_ofYear m_from m_size m_here m_token m_tokenAt m_open m_bad m_fault m_nKept m_mindsKept m_lastsKept m_cutKept m_yearKept m_ruleKept m_tokenWorth m_texts m_textSize m_tape m_parents m_kinds m_numbers m_odds m_yes m_no m_prices m_numbersKept m_oddsKept m_isThere m_sorts m_sheetSize m_items) (xt_Ki o (WM m_thrown m_textCount m_rule m_taped m_n m_minds m_lasts m_cutNow m_year m_ofNode m_ofDepth m_ofKids m_ofTwigs m_ofLast m_ofYear m_from m_size m_here m_token m_tokenAt m_open m_bad m_fault m_nKept m_mindsKept m_lastsKept m_cutKept m_yearKept m_ruleKept m_tokenWorth m_texts m_textSize m_tape m_parents m_kinds m_numbers m_odds m_yes m_no m_prices m_numbersKept m_oddsKept m_isThere m_sorts m_sheetSize m_items)) := by
  unfold sp_X6_taken at hm
  refine xt_M.go (own := RX6) (lv := [some (.ref 0), some (.int p1), some (.int p2), none]) rfl rfl (Nat.le_of_ble_eq_true rfl) rfl ?_
  refine x_iload2 eX6_taken_0 ?_
  refine x_i2l eX6_taken_1 ?_
  refine x_lk eX6_taken_2 ?_
  refine x_ldc2 eX6_taken_3 cX6_117 ?_
  refine x_Si3 eX6_taken_6 kX6_in mX6_76 (t_X6_in rfl) (Nat.le_of_ble_eq_true rfl) ?_
  refine x_if_ne eX6_taken_9 (fun c => ?_) (fun c => ?_)
  · rw [if_neg c] at hm
    refine x_aload0 eX6_taken_15 ?_
    refine x_iload1 eX6_taken_16 ?_
    obtain ⟨r1, hr, hm⟩ := xo_bind hm
    refine x_Vi1 eX6_taken_17 kX6_isNode mX6_113 (t_X6_isNode hr) rfl (Nat.le_of_ble_eq_true rfl) ?_
    refine x_if_ne eX6_taken_20 (fun c => ?_) (fun c => ?_)
    · rw [if_neg c] at hm
      refine x_aload0 eX6_taken_26 ?_
      refine x_get eX6_taken_27 fX6_29 rfl rfl ?_
      refine x_iload1 eX6_taken_30 ?_
      obtain ⟨v2, hv, hm⟩ := xo_bind hm
      obtain ⟨hi, rfl⟩ := xo_at_some hv
      refine x_iaload eX6_taken_31 rfl hi ?_
      refine x_istore3 eX6_taken_32 rfl ?_
      exact l_X6_taken_33 _ hm
    · rw [if_pos c] at hm
      refine x_k eX6_taken_23 ?_
      obtain rfl := Option.some.inj hm
      exact x_iret eX6_taken_25 ⟨rfl, rfl⟩
  · rw [if_pos c] at hm
    refine x_k eX6_taken_12 ?_
    obtain rfl := Option.some.inj hm
    exact x_iret eX6_taken_14 ⟨rfl, rfl⟩
end S13
