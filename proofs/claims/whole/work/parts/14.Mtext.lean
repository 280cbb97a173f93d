section S14
variable {d : Nat}
variable {m_thrown m_textCount m_rule m_taped m_n m_minds m_lasts m_cutNow m_year m_ofNode m_ofDepth m_ofKids m_ofTwigs m_ofLast m_ofYear m_from m_size m_here m_token m_tokenAt m_open m_bad m_fault m_nKept m_mindsKept m_lastsKept m_cutKept m_yearKept m_ruleKept : Int32} {m_tokenWorth : Int64} {m_texts m_textSize m_tape m_parents m_kinds m_numbers m_odds m_yes m_no m_prices m_numbersKept m_oddsKept m_isThere m_sorts m_sheetSize m_items : Nat → Int32}
def sp_X6_byteAt (p1 : Int32) (m_from : Int32) (m_size : Int32) (m_texts : Nat → Int32) : Option (Int32) :=
  if m_size ≤ p1 then
    some (-1)
  else
    (xo_at m_texts 960 (m_from + p1)).bind fun v1 =>
    some v1
def sp_X6_next_160 (m_from : Int32) (m_size : Int32) (m_texts : Nat → Int32) : Nat → Int32 → Int32 → Int32 → Int32 → Int64 → Option (Int32 × Int32 × Int32 × Int64)
  | 0, _, _, _, _, _ => none
  | n + 1, u2, m_here, m_token, m_tokenAt, m_tokenWorth =>
    (sp_X6_byteAt m_here m_from m_size m_texts).bind fun r4 =>
    if (sp_X6_in (Int32.toInt64 r4) 48 57) = 0 then
      if u2 ≤ 4 then
        some (m_here, 2, m_tokenAt, m_tokenWorth)
      else
        some (m_here, 4, m_tokenAt, m_tokenWorth)
    else
      if 4 ≤ u2 then
        sp_X6_next_160 m_from m_size m_texts n (u2 + 1) (m_here + 1) m_token m_tokenAt m_tokenWorth
      else
        (sp_X6_byteAt m_here m_from m_size m_texts).bind fun r5 =>
        sp_X6_next_160 m_from m_size m_texts n (u2 + 1) (m_here + 1) m_token m_tokenAt (((10 * m_tokenWorth) + (Int32.toInt64 r5)) - 48)
def sp_X6_next_100 (m_from : Int32) (m_size : Int32) (m_texts : Nat → Int32) : Nat → Int32 → Int32 → Int32 → Int64 → Option (Int32 × Int32 × Int32 × Int64)
  | 0, _, _, _, _ => none
  | n + 1, m_here, m_token, m_tokenAt, m_tokenWorth =>
    (sp_X6_byteAt m_here m_from m_size m_texts).bind fun r6 =>
    if (sp_X6_in (Int32.toInt64 r6) 97 122) = 0 then
      some (m_here, m_token, m_tokenAt, m_tokenWorth)
    else
      sp_X6_next_100 m_from m_size m_texts n (m_here + 1) m_token m_tokenAt m_tokenWorth
def sp_X6_next_0 (m_from : Int32) (m_size : Int32) (m_texts : Nat → Int32) : Nat → Int32 → Int32 → Int32 → Int64 → Option (Int32 × Int32 × Int32 × Int64)
  | 0, _, _, _, _ => none
  | n + 1, m_here, m_token, m_tokenAt, m_tokenWorth =>
    (sp_X6_byteAt m_here m_from m_size m_texts).bind fun r1 =>
    if r1 = 32 then
      sp_X6_next_0 m_from m_size m_texts n (m_here + 1) m_token m_tokenAt m_tokenWorth
    else
      (sp_X6_byteAt m_here m_from m_size m_texts).bind fun r2 =>
      if r2 = 10 then
        sp_X6_next_0 m_from m_size m_texts n (m_here + 1) m_token m_tokenAt m_tokenWorth
      else
        (sp_X6_byteAt m_here m_from m_size m_texts).bind fun r3 =>
        if 0 ≤ r3 then
          if (sp_X6_in (Int32.toInt64 r3) 97 122) = 0 then
            if (sp_X6_in (Int32.toInt64 r3) 48 57) = 0 then
              if r3 = 40 then
                some ((m_here + 1), 3, m_here, (Int32.toInt64 r3))
              else
                if r3 = 41 then
                  some ((m_here + 1), 3, m_here, (Int32.toInt64 r3))
                else
                  if r3 = 59 then
                    some ((m_here + 1), 3, m_here, (Int32.toInt64 r3))
                  else
                    if r3 = 43 then
                      some ((m_here + 1), 3, m_here, (Int32.toInt64 r3))
                    else
                      if r3 = 45 then
                        some ((m_here + 1), 3, m_here, (Int32.toInt64 r3))
                      else
                        if r3 = 42 then
                          some ((m_here + 1), 3, m_here, (Int32.toInt64 r3))
                        else
                          if r3 = 60 then
                            some ((m_here + 1), 3, m_here, (Int32.toInt64 r3))
                          else
                            if r3 = 61 then
                              some ((m_here + 1), 3, m_here, (Int32.toInt64 r3))
                            else
                              some (m_here, 4, m_here, m_tokenWorth)
            else
              sp_X6_next_160 m_from m_size m_texts 5000 0 m_here 2 m_here 0
          else
            sp_X6_next_100 m_from m_size m_texts 5000 m_here 1 m_here m_tokenWorth
        else
          some (m_here, 0, m_size, m_tokenWorth)
def sp_X6_next (m_from : Int32) (m_size : Int32) (m_here : Int32) (m_token : Int32) (m_tokenAt : Int32) (m_tokenWorth : Int64) (m_texts : Nat → Int32) : Option (Int32 × Int32 × Int32 × Int64) :=
  sp_X6_next_0 m_from m_size m_texts 5000 m_here m_token m_tokenAt m_tokenWorth
def sp_X6_isLetter (p1 : Int32) (p2 : Int32) (m_from : Int32) (m_size : Int32) (m_here : Int32) (m_tokenAt : Int32) (m_texts : Nat → Int32) : Option (Int32) :=
  if m_here ≤ (m_tokenAt + p1) then
    if p2 = 0 then
      some 1
    else
      some 0
  else
    (sp_X6_byteAt (m_tokenAt + p1) m_from m_size m_texts).bind fun r1 =>
    if r1 = p2 then
      some 1
    else
      some 0
def sp_X6_isWord (p1 : Int32) (p2 : Int32) (p3 : Int32) (p4 : Int32) (p5 : Int32) (p6 : Int32) (p7 : Int32) (p8 : Int32) (m_from : Int32) (m_size : Int32) (m_here : Int32) (m_token : Int32) (m_tokenAt : Int32) (m_bad : Int32) (m_texts : Nat → Int32) : Option (Int32) :=
  if m_bad = 0 then
    if m_token = 1 then
      if (m_tokenAt + 8) < m_here then
        some 0
      else
        (sp_X6_isLetter 0 p1 m_from m_size m_here m_tokenAt m_texts).bind fun r1 =>
        if r1 = 0 then
          some 0
        else
          (sp_X6_isLetter 1 p2 m_from m_size m_here m_tokenAt m_texts).bind fun r2 =>
          if r2 = 0 then
            some 0
          else
            (sp_X6_isLetter 2 p3 m_from m_size m_here m_tokenAt m_texts).bind fun r3 =>
            if r3 = 0 then
              some 0
            else
              (sp_X6_isLetter 3 p4 m_from m_size m_here m_tokenAt m_texts).bind fun r4 =>
              if r4 = 0 then
                some 0
              else
                (sp_X6_isLetter 4 p5 m_from m_size m_here m_tokenAt m_texts).bind fun r5 =>
                if r5 = 0 then
                  some 0
                else
                  (sp_X6_isLetter 5 p6 m_from m_size m_here m_tokenAt m_texts).bind fun r6 =>
                  if r6 = 0 then
                    some 0
                  else
                    (sp_X6_isLetter 6 p7 m_from m_size m_here m_tokenAt m_texts).bind fun r7 =>
                    if r7 = 0 then
                      some 0
                    else
                      (sp_X6_isLetter 7 p8 m_from m_size m_here m_tokenAt m_texts).bind fun r8 =>
                      if r8 = 0 then
                        some 0
                      else
                        some 1
    else
      some 0
  else
    some 0
def sp_X6_isSign (p1 : Int32) (m_token : Int32) (m_bad : Int32) (m_tokenWorth : Int64) : Int32 :=
  if m_bad = 0 then
    if m_token = 3 then
      if (lg_cmp m_tokenWorth (Int32.toInt64 p1)) = 0 then
        1
      else
        0
    else
      0
  else
    0
def sp_X6_fail (m_tokenAt : Int32) (m_bad : Int32) (m_fault : Int32) : Int32 × Int32 :=
  if m_bad = 0 then
    (1, m_tokenAt)
  else
    (m_bad, m_fault)
def sp_X6_opens (m_from : Int32) (m_size : Int32) (m_here : Int32) (m_token : Int32) (m_tokenAt : Int32) (m_open : Int32) (m_bad : Int32) (m_fault : Int32) (m_tokenWorth : Int64) (m_texts : Nat → Int32) : Option (Int32 × Int32 × Int32 × Int32 × Int32 × Int32 × Int32 × Int64) :=
  if m_open = 5 then
    some (0, m_here, m_token, m_tokenAt, m_open, (sp_X6_fail m_tokenAt m_bad m_fault).1, (sp_X6_fail m_tokenAt m_bad m_fault).2, m_tokenWorth)
  else
    (sp_X6_next m_from m_size m_here m_token m_tokenAt m_tokenWorth m_texts).bind fun r1 =>
    some (1, r1.1, r1.2.1, r1.2.2.1, (m_open + 1), m_bad, m_fault, r1.2.2.2)
def sp_X6_name (m_ofNode : Int32) (m_ofDepth : Int32) (m_ofKids : Int32) (m_ofTwigs : Int32) (m_ofLast : Int32) (m_ofYear : Int32) (m_from : Int32) (m_size : Int32) (m_here : Int32) (m_token : Int32) (m_tokenAt : Int32) (m_bad : Int32) (m_fault : Int32) (m_texts : Nat → Int32) : Option (Int32 × Int32 × Int32) :=
  (sp_X6_isWord 110 111 100 101 0 0 0 0 m_from m_size m_here m_token m_tokenAt m_bad m_texts).bind fun r1 =>
  if r1 = 0 then
    (sp_X6_isWord 100 101 112 116 104 0 0 0 m_from m_size m_here m_token m_tokenAt m_bad m_texts).bind fun r2 =>
    if r2 = 0 then
      (sp_X6_isWord 107 105 100 115 0 0 0 0 m_from m_size m_here m_token m_tokenAt m_bad m_texts).bind fun r3 =>
      if r3 = 0 then
        (sp_X6_isWord 116 119 105 103 115 0 0 0 m_from m_size m_here m_token m_tokenAt m_bad m_texts).bind fun r4 =>
        if r4 = 0 then
          (sp_X6_isWord 108 97 115 116 0 0 0 0 m_from m_size m_here m_token m_tokenAt m_bad m_texts).bind fun r5 =>
          if r5 = 0 then
            (sp_X6_isWord 121 101 97 114 0 0 0 0 m_from m_size m_here m_token m_tokenAt m_bad m_texts).bind fun r6 =>
            if r6 = 0 then
              some (0, (sp_X6_fail m_tokenAt m_bad m_fault).1, (sp_X6_fail m_tokenAt m_bad m_fault).2)
            else
              some (m_ofYear, m_bad, m_fault)
          else
            some (m_ofLast, m_bad, m_fault)
        else
          some (m_ofTwigs, m_bad, m_fault)
      else
        some (m_ofKids, m_bad, m_fault)
    else
      some (m_ofDepth, m_bad, m_fault)
  else
    some (m_ofNode, m_bad, m_fault)
def sp_X6_either_5 (R : Nat → Int32 → Int32 → Int32 → Int32 → Int32 → Int32 → Int32 → Int32 → Int32 → Int32 → Int32 → Int32 → Int32 → Int32 → Int64 → (Nat → Int32) → Option (Int32 × Int32 × Int32 × Int32 × Int32 × Int32 × Int32 × Int64)) (m_ofNode : Int32) (m_ofDepth : Int32) (m_ofKids : Int32) (m_ofTwigs : Int32) (m_ofLast : Int32) (m_ofYear : Int32) (m_from : Int32) (m_size : Int32) (m_texts : Nat → Int32) : Nat → Int32 → Int32 → Int32 → Int32 → Int32 → Int32 → Int32 → Int64 → Option (Int32 × Int32 × Int32 × Int32 × Int32 × Int32 × Int32 × Int64)
  | 0, _, _, _, _, _, _, _, _ => none
  | n + 1, u1, m_here, m_token, m_tokenAt, m_open, m_bad, m_fault, m_tokenWorth =>
    (sp_X6_isWord 111 114 0 0 0 0 0 0 m_from m_size m_here m_token m_tokenAt m_bad m_texts).bind fun r2 =>
    if r2 = 0 then
      some (u1, m_here, m_token, m_tokenAt, m_open, m_bad, m_fault, m_tokenWorth)
    else
      (sp_X6_next m_from m_size m_here m_token m_tokenAt m_tokenWorth m_texts).bind fun r3 =>
      (R 1 m_ofNode m_ofDepth m_ofKids m_ofTwigs m_ofLast m_ofYear m_from m_size r3.1 r3.2.1 r3.2.2.1 m_open m_bad m_fault r3.2.2.2 m_texts).bind fun r4 =>
      if u1 = 0 then
        if r4.1 = 0 then
          sp_X6_either_5 R m_ofNode m_ofDepth m_ofKids m_ofTwigs m_ofLast m_ofYear m_from m_size m_texts n 0 r4.2.1 r4.2.2.1 r4.2.2.2.1 r4.2.2.2.2.1 r4.2.2.2.2.2.1 r4.2.2.2.2.2.2.1 r4.2.2.2.2.2.2.2
        else
          sp_X6_either_5 R m_ofNode m_ofDepth m_ofKids m_ofTwigs m_ofLast m_ofYear m_from m_size m_texts n 1 r4.2.1 r4.2.2.1 r4.2.2.2.1 r4.2.2.2.2.1 r4.2.2.2.2.2.1 r4.2.2.2.2.2.2.1 r4.2.2.2.2.2.2.2
      else
        sp_X6_either_5 R m_ofNode m_ofDepth m_ofKids m_ofTwigs m_ofLast m_ofYear m_from m_size m_texts n 1 r4.2.1 r4.2.2.1 r4.2.2.2.1 r4.2.2.2.2.1 r4.2.2.2.2.2.1 r4.2.2.2.2.2.2.1 r4.2.2.2.2.2.2.2
def sp_X6_either (R : Nat → Int32 → Int32 → Int32 → Int32 → Int32 → Int32 → Int32 → Int32 → Int32 → Int32 → Int32 → Int32 → Int32 → Int32 → Int64 → (Nat → Int32) → Option (Int32 × Int32 × Int32 × Int32 × Int32 × Int32 × Int32 × Int64)) (m_ofNode : Int32) (m_ofDepth : Int32) (m_ofKids : Int32) (m_ofTwigs : Int32) (m_ofLast : Int32) (m_ofYear : Int32) (m_from : Int32) (m_size : Int32) (m_here : Int32) (m_token : Int32) (m_tokenAt : Int32) (m_open : Int32) (m_bad : Int32) (m_fault : Int32) (m_tokenWorth : Int64) (m_texts : Nat → Int32) : Option (Int32 × Int32 × Int32 × Int32 × Int32 × Int32 × Int32 × Int64) :=
  (R 1 m_ofNode m_ofDepth m_ofKids m_ofTwigs m_ofLast m_ofYear m_from m_size m_here m_token m_tokenAt m_open m_bad m_fault m_tokenWorth m_texts).bind fun r1 =>
  sp_X6_either_5 R m_ofNode m_ofDepth m_ofKids m_ofTwigs m_ofLast m_ofYear m_from m_size m_texts 5000 r1.1 r1.2.1 r1.2.2.1 r1.2.2.2.1 r1.2.2.2.2.1 r1.2.2.2.2.2.1 r1.2.2.2.2.2.2.1 r1.2.2.2.2.2.2.2
def sp_X6_both_5 (R : Nat → Int32 → Int32 → Int32 → Int32 → Int32 → Int32 → Int32 → Int32 → Int32 → Int32 → Int32 → Int32 → Int32 → Int32 → Int64 → (Nat → Int32) → Option (Int32 × Int32 × Int32 × Int32 × Int32 × Int32 × Int32 × Int64)) (m_ofNode : Int32) (m_ofDepth : Int32) (m_ofKids : Int32) (m_ofTwigs : Int32) (m_ofLast : Int32) (m_ofYear : Int32) (m_from : Int32) (m_size : Int32) (m_texts : Nat → Int32) : Nat → Int32 → Int32 → Int32 → Int32 → Int32 → Int32 → Int32 → Int64 → Option (Int32 × Int32 × Int32 × Int32 × Int32 × Int32 × Int32 × Int64)
  | 0, _, _, _, _, _, _, _, _ => none
  | n + 1, u1, m_here, m_token, m_tokenAt, m_open, m_bad, m_fault, m_tokenWorth =>
    (sp_X6_isWord 97 110 100 0 0 0 0 0 m_from m_size m_here m_token m_tokenAt m_bad m_texts).bind fun r2 =>
    if r2 = 0 then
      some (u1, m_here, m_token, m_tokenAt, m_open, m_bad, m_fault, m_tokenWorth)
    else
      (sp_X6_next m_from m_size m_here m_token m_tokenAt m_tokenWorth m_texts).bind fun r3 =>
      (R 2 m_ofNode m_ofDepth m_ofKids m_ofTwigs m_ofLast m_ofYear m_from m_size r3.1 r3.2.1 r3.2.2.1 m_open m_bad m_fault r3.2.2.2 m_texts).bind fun r4 =>
      if u1 = 0 then
        sp_X6_both_5 R m_ofNode m_ofDepth m_ofKids m_ofTwigs m_ofLast m_ofYear m_from m_size m_texts n 0 r4.2.1 r4.2.2.1 r4.2.2.2.1 r4.2.2.2.2.1 r4.2.2.2.2.2.1 r4.2.2.2.2.2.2.1 r4.2.2.2.2.2.2.2
      else
        if r4.1 = 0 then
          sp_X6_both_5 R m_ofNode m_ofDepth m_ofKids m_ofTwigs m_ofLast m_ofYear m_from m_size m_texts n 0 r4.2.1 r4.2.2.1 r4.2.2.2.1 r4.2.2.2.2.1 r4.2.2.2.2.2.1 r4.2.2.2.2.2.2.1 r4.2.2.2.2.2.2.2
        else
          sp_X6_both_5 R m_ofNode m_ofDepth m_ofKids m_ofTwigs m_ofLast m_ofYear m_from m_size m_texts n 1 r4.2.1 r4.2.2.1 r4.2.2.2.1 r4.2.2.2.2.1 r4.2.2.2.2.2.1 r4.2.2.2.2.2.2.1 r4.2.2.2.2.2.2.2
def sp_X6_both (R : Nat → Int32 → Int32 → Int32 → Int32 → Int32 → Int32 → Int32 → Int32 → Int32 → Int32 → Int32 → Int32 → Int32 → Int32 → Int64 → (Nat → Int32) → Option (Int32 × Int32 × Int32 × Int32 × Int32 × Int32 × Int32 × Int64)) (m_ofNode : Int32) (m_ofDepth : Int32) (m_ofKids : Int32) (m_ofTwigs : Int32) (m_ofLast : Int32) (m_ofYear : Int32) (m_from : Int32) (m_size : Int32) (m_here : Int32) (m_token : Int32) (m_tokenAt : Int32) (m_open : Int32) (m_bad : Int32) (m_fault : Int32) (m_tokenWorth : Int64) (m_texts : Nat → Int32) : Option (Int32 × Int32 × Int32 × Int32 × Int32 × Int32 × Int32 × Int64) :=
  (R 2 m_ofNode m_ofDepth m_ofKids m_ofTwigs m_ofLast m_ofYear m_from m_size m_here m_token m_tokenAt m_open m_bad m_fault m_tokenWorth m_texts).bind fun r1 =>
  sp_X6_both_5 R m_ofNode m_ofDepth m_ofKids m_ofTwigs m_ofLast m_ofYear m_from m_size m_texts 5000 r1.1 r1.2.1 r1.2.2.1 r1.2.2.2.1 r1.2.2.2.2.1 r1.2.2.2.2.2.1 r1.2.2.2.2.2.2.1 r1.2.2.2.2.2.2.2
def sp_X6_not (R : Nat → Int32 → Int32 → Int32 → Int32 → Int32 → Int32 → Int32 → Int32 → Int32 → Int32 → Int32 → Int32 → Int32 → Int32 → Int64 → (Nat → Int32) → Option (Int32 × Int32 × Int32 × Int32 × Int32 × Int32 × Int32 × Int64)) (m_ofNode : Int32) (m_ofDepth : Int32) (m_ofKids : Int32) (m_ofTwigs : Int32) (m_ofLast : Int32) (m_ofYear : Int32) (m_from : Int32) (m_size : Int32) (m_here : Int32) (m_token : Int32) (m_tokenAt : Int32) (m_open : Int32) (m_bad : Int32) (m_fault : Int32) (m_tokenWorth : Int64) (m_texts : Nat → Int32) : Option (Int32 × Int32 × Int32 × Int32 × Int32 × Int32 × Int32 × Int64) :=
  (sp_X6_isWord 110 111 116 0 0 0 0 0 m_from m_size m_here m_token m_tokenAt m_bad m_texts).bind fun r1 =>
  if r1 = 0 then
    (R 3 m_ofNode m_ofDepth m_ofKids m_ofTwigs m_ofLast m_ofYear m_from m_size m_here m_token m_tokenAt m_open m_bad m_fault m_tokenWorth m_texts).bind fun r2 =>
    if (sp_X6_isSign 60 r2.2.2.1 r2.2.2.2.2.2.1 r2.2.2.2.2.2.2.2) = 0 then
      if (sp_X6_isSign 61 r2.2.2.1 r2.2.2.2.2.2.1 r2.2.2.2.2.2.2.2) = 0 then
        some (r2.1, r2.2.1, r2.2.2.1, r2.2.2.2.1, r2.2.2.2.2.1, r2.2.2.2.2.2.1, r2.2.2.2.2.2.2.1, r2.2.2.2.2.2.2.2)
      else
        if (lg_cmp r2.2.2.2.2.2.2.2 60) = 0 then
          (sp_X6_next m_from m_size r2.2.1 r2.2.2.1 r2.2.2.2.1 r2.2.2.2.2.2.2.2 m_texts).bind fun r9 =>
          (R 3 m_ofNode m_ofDepth m_ofKids m_ofTwigs m_ofLast m_ofYear m_from m_size r9.1 r9.2.1 r9.2.2.1 r2.2.2.2.2.1 r2.2.2.2.2.2.1 r2.2.2.2.2.2.2.1 r9.2.2.2 m_texts).bind fun r10 =>
          if (1 : Int32) = 0 then
            if r2.1 = r10.1 then
              some (1, r10.2.1, r10.2.2.1, r10.2.2.2.1, r10.2.2.2.2.1, r10.2.2.2.2.2.1, r10.2.2.2.2.2.2.1, r10.2.2.2.2.2.2.2)
            else
              some (0, r10.2.1, r10.2.2.1, r10.2.2.2.1, r10.2.2.2.2.1, r10.2.2.2.2.2.1, r10.2.2.2.2.2.2.1, r10.2.2.2.2.2.2.2)
          else
            if r10.1 ≤ r2.1 then
              some (0, r10.2.1, r10.2.2.1, r10.2.2.2.1, r10.2.2.2.2.1, r10.2.2.2.2.2.1, r10.2.2.2.2.2.2.1, r10.2.2.2.2.2.2.2)
            else
              some (1, r10.2.1, r10.2.2.1, r10.2.2.2.1, r10.2.2.2.2.1, r10.2.2.2.2.2.1, r10.2.2.2.2.2.2.1, r10.2.2.2.2.2.2.2)
        else
          (sp_X6_next m_from m_size r2.2.1 r2.2.2.1 r2.2.2.2.1 r2.2.2.2.2.2.2.2 m_texts).bind fun r7 =>
          (R 3 m_ofNode m_ofDepth m_ofKids m_ofTwigs m_ofLast m_ofYear m_from m_size r7.1 r7.2.1 r7.2.2.1 r2.2.2.2.2.1 r2.2.2.2.2.2.1 r2.2.2.2.2.2.2.1 r7.2.2.2 m_texts).bind fun r8 =>
          if (0 : Int32) = 0 then
            if r2.1 = r8.1 then
              some (1, r8.2.1, r8.2.2.1, r8.2.2.2.1, r8.2.2.2.2.1, r8.2.2.2.2.2.1, r8.2.2.2.2.2.2.1, r8.2.2.2.2.2.2.2)
            else
              some (0, r8.2.1, r8.2.2.1, r8.2.2.2.1, r8.2.2.2.2.1, r8.2.2.2.2.2.1, r8.2.2.2.2.2.2.1, r8.2.2.2.2.2.2.2)
          else
            if r8.1 ≤ r2.1 then
              some (0, r8.2.1, r8.2.2.1, r8.2.2.2.1, r8.2.2.2.2.1, r8.2.2.2.2.2.1, r8.2.2.2.2.2.2.1, r8.2.2.2.2.2.2.2)
            else
              some (1, r8.2.1, r8.2.2.1, r8.2.2.2.1, r8.2.2.2.2.1, r8.2.2.2.2.2.1, r8.2.2.2.2.2.2.1, r8.2.2.2.2.2.2.2)
    else
      if (lg_cmp r2.2.2.2.2.2.2.2 60) = 0 then
        (sp_X6_next m_from m_size r2.2.1 r2.2.2.1 r2.2.2.2.1 r2.2.2.2.2.2.2.2 m_texts).bind fun r5 =>
        (R 3 m_ofNode m_ofDepth m_ofKids m_ofTwigs m_ofLast m_ofYear m_from m_size r5.1 r5.2.1 r5.2.2.1 r2.2.2.2.2.1 r2.2.2.2.2.2.1 r2.2.2.2.2.2.2.1 r5.2.2.2 m_texts).bind fun r6 =>
        if (1 : Int32) = 0 then
          if r2.1 = r6.1 then
            some (1, r6.2.1, r6.2.2.1, r6.2.2.2.1, r6.2.2.2.2.1, r6.2.2.2.2.2.1, r6.2.2.2.2.2.2.1, r6.2.2.2.2.2.2.2)
          else
            some (0, r6.2.1, r6.2.2.1, r6.2.2.2.1, r6.2.2.2.2.1, r6.2.2.2.2.2.1, r6.2.2.2.2.2.2.1, r6.2.2.2.2.2.2.2)
        else
          if r6.1 ≤ r2.1 then
            some (0, r6.2.1, r6.2.2.1, r6.2.2.2.1, r6.2.2.2.2.1, r6.2.2.2.2.2.1, r6.2.2.2.2.2.2.1, r6.2.2.2.2.2.2.2)
          else
            some (1, r6.2.1, r6.2.2.1, r6.2.2.2.1, r6.2.2.2.2.1, r6.2.2.2.2.2.1, r6.2.2.2.2.2.2.1, r6.2.2.2.2.2.2.2)
      else
        (sp_X6_next m_from m_size r2.2.1 r2.2.2.1 r2.2.2.2.1 r2.2.2.2.2.2.2.2 m_texts).bind fun r3 =>
        (R 3 m_ofNode m_ofDepth m_ofKids m_ofTwigs m_ofLast m_ofYear m_from m_size r3.1 r3.2.1 r3.2.2.1 r2.2.2.2.2.1 r2.2.2.2.2.2.1 r2.2.2.2.2.2.2.1 r3.2.2.2 m_texts).bind fun r4 =>
        if (0 : Int32) = 0 then
          if r2.1 = r4.1 then
            some (1, r4.2.1, r4.2.2.1, r4.2.2.2.1, r4.2.2.2.2.1, r4.2.2.2.2.2.1, r4.2.2.2.2.2.2.1, r4.2.2.2.2.2.2.2)
          else
            some (0, r4.2.1, r4.2.2.1, r4.2.2.2.1, r4.2.2.2.2.1, r4.2.2.2.2.2.1, r4.2.2.2.2.2.2.1, r4.2.2.2.2.2.2.2)
        else
          if r4.1 ≤ r2.1 then
            some (0, r4.2.1, r4.2.2.1, r4.2.2.2.1, r4.2.2.2.2.1, r4.2.2.2.2.2.1, r4.2.2.2.2.2.2.1, r4.2.2.2.2.2.2.2)
          else
            some (1, r4.2.1, r4.2.2.1, r4.2.2.2.1, r4.2.2.2.2.1, r4.2.2.2.2.2.1, r4.2.2.2.2.2.2.1, r4.2.2.2.2.2.2.2)
  else
    (sp_X6_opens m_from m_size m_here m_token m_tokenAt m_open m_bad m_fault m_tokenWorth m_texts).bind fun r11 =>
    if r11.1 = 0 then
      some (0, r11.2.1, r11.2.2.1, r11.2.2.2.1, r11.2.2.2.2.1, r11.2.2.2.2.2.1, r11.2.2.2.2.2.2.1, r11.2.2.2.2.2.2.2)
    else
      (R 2 m_ofNode m_ofDepth m_ofKids m_ofTwigs m_ofLast m_ofYear m_from m_size r11.2.1 r11.2.2.1 r11.2.2.2.1 r11.2.2.2.2.1 r11.2.2.2.2.2.1 r11.2.2.2.2.2.2.1 r11.2.2.2.2.2.2.2 m_texts).bind fun r12 =>
      if r12.1 = 0 then
        some (1, r12.2.1, r12.2.2.1, r12.2.2.2.1, (r12.2.2.2.2.1 - 1), r12.2.2.2.2.2.1, r12.2.2.2.2.2.2.1, r12.2.2.2.2.2.2.2)
      else
        some (0, r12.2.1, r12.2.2.1, r12.2.2.2.1, (r12.2.2.2.2.1 - 1), r12.2.2.2.2.2.1, r12.2.2.2.2.2.2.1, r12.2.2.2.2.2.2.2)
def sp_X6_added_5 (R : Nat → Int32 → Int32 → Int32 → Int32 → Int32 → Int32 → Int32 → Int32 → Int32 → Int32 → Int32 → Int32 → Int32 → Int32 → Int64 → (Nat → Int32) → Option (Int32 × Int32 × Int32 × Int32 × Int32 × Int32 × Int32 × Int64)) (m_ofNode : Int32) (m_ofDepth : Int32) (m_ofKids : Int32) (m_ofTwigs : Int32) (m_ofLast : Int32) (m_ofYear : Int32) (m_from : Int32) (m_size : Int32) (m_texts : Nat → Int32) : Nat → Int32 → Int32 → Int32 → Int32 → Int32 → Int32 → Int32 → Int64 → Option (Int32 × Int32 × Int32 × Int32 × Int32 × Int32 × Int32 × Int64)
  | 0, _, _, _, _, _, _, _, _ => none
  | n + 1, u1, m_here, m_token, m_tokenAt, m_open, m_bad, m_fault, m_tokenWorth =>
    if (sp_X6_isSign 43 m_token m_bad m_tokenWorth) = 0 then
      if (sp_X6_isSign 45 m_token m_bad m_tokenWorth) = 0 then
        some (u1, m_here, m_token, m_tokenAt, m_open, m_bad, m_fault, m_tokenWorth)
      else
        if (lg_cmp m_tokenWorth 43) = 0 then
          (sp_X6_next m_from m_size m_here m_token m_tokenAt m_tokenWorth m_texts).bind fun r8 =>
          (R 4 m_ofNode m_ofDepth m_ofKids m_ofTwigs m_ofLast m_ofYear m_from m_size r8.1 r8.2.1 r8.2.2.1 m_open m_bad m_fault r8.2.2.2 m_texts).bind fun r9 =>
          if (1 : Int32) = 0 then
            sp_X6_added_5 R m_ofNode m_ofDepth m_ofKids m_ofTwigs m_ofLast m_ofYear m_from m_size m_texts n (u1 - r9.1) r9.2.1 r9.2.2.1 r9.2.2.2.1 r9.2.2.2.2.1 r9.2.2.2.2.2.1 r9.2.2.2.2.2.2.1 r9.2.2.2.2.2.2.2
          else
            sp_X6_added_5 R m_ofNode m_ofDepth m_ofKids m_ofTwigs m_ofLast m_ofYear m_from m_size m_texts n (u1 + r9.1) r9.2.1 r9.2.2.1 r9.2.2.2.1 r9.2.2.2.2.1 r9.2.2.2.2.2.1 r9.2.2.2.2.2.2.1 r9.2.2.2.2.2.2.2
        else
          (sp_X6_next m_from m_size m_here m_token m_tokenAt m_tokenWorth m_texts).bind fun r6 =>
          (R 4 m_ofNode m_ofDepth m_ofKids m_ofTwigs m_ofLast m_ofYear m_from m_size r6.1 r6.2.1 r6.2.2.1 m_open m_bad m_fault r6.2.2.2 m_texts).bind fun r7 =>
          if (0 : Int32) = 0 then
            sp_X6_added_5 R m_ofNode m_ofDepth m_ofKids m_ofTwigs m_ofLast m_ofYear m_from m_size m_texts n (u1 - r7.1) r7.2.1 r7.2.2.1 r7.2.2.2.1 r7.2.2.2.2.1 r7.2.2.2.2.2.1 r7.2.2.2.2.2.2.1 r7.2.2.2.2.2.2.2
          else
            sp_X6_added_5 R m_ofNode m_ofDepth m_ofKids m_ofTwigs m_ofLast m_ofYear m_from m_size m_texts n (u1 + r7.1) r7.2.1 r7.2.2.1 r7.2.2.2.1 r7.2.2.2.2.1 r7.2.2.2.2.2.1 r7.2.2.2.2.2.2.1 r7.2.2.2.2.2.2.2
    else
      if (lg_cmp m_tokenWorth 43) = 0 then
        (sp_X6_next m_from m_size m_here m_token m_tokenAt m_tokenWorth m_texts).bind fun r4 =>
        (R 4 m_ofNode m_ofDepth m_ofKids m_ofTwigs m_ofLast m_ofYear m_from m_size r4.1 r4.2.1 r4.2.2.1 m_open m_bad m_fault r4.2.2.2 m_texts).bind fun r5 =>
        if (1 : Int32) = 0 then
          sp_X6_added_5 R m_ofNode m_ofDepth m_ofKids m_ofTwigs m_ofLast m_ofYear m_from m_size m_texts n (u1 - r5.1) r5.2.1 r5.2.2.1 r5.2.2.2.1 r5.2.2.2.2.1 r5.2.2.2.2.2.1 r5.2.2.2.2.2.2.1 r5.2.2.2.2.2.2.2
        else
          sp_X6_added_5 R m_ofNode m_ofDepth m_ofKids m_ofTwigs m_ofLast m_ofYear m_from m_size m_texts n (u1 + r5.1) r5.2.1 r5.2.2.1 r5.2.2.2.1 r5.2.2.2.2.1 r5.2.2.2.2.2.1 r5.2.2.2.2.2.2.1 r5.2.2.2.2.2.2.2
      else
        (sp_X6_next m_from m_size m_here m_token m_tokenAt m_tokenWorth m_texts).bind fun r2 =>
        (R 4 m_ofNode m_ofDepth m_ofKids m_ofTwigs m_ofLast m_ofYear m_from m_size r2.1 r2.2.1 r2.2.2.1 m_open m_bad m_fault r2.2.2.2 m_texts).bind fun r3 =>
        if (0 : Int32) = 0 then
          sp_X6_added_5 R m_ofNode m_ofDepth m_ofKids m_ofTwigs m_ofLast m_ofYear m_from m_size m_texts n (u1 - r3.1) r3.2.1 r3.2.2.1 r3.2.2.2.1 r3.2.2.2.2.1 r3.2.2.2.2.2.1 r3.2.2.2.2.2.2.1 r3.2.2.2.2.2.2.2
        else
          sp_X6_added_5 R m_ofNode m_ofDepth m_ofKids m_ofTwigs m_ofLast m_ofYear m_from m_size m_texts n (u1 + r3.1) r3.2.1 r3.2.2.1 r3.2.2.2.1 r3.2.2.2.2.1 r3.2.2.2.2.2.1 r3.2.2.2.2.2.2.1 r3.2.2.2.2.2.2.2
def sp_X6_added (R : Nat → Int32 → Int32 → Int32 → Int32 → Int32 → Int32 → Int32 → Int32 → Int32 → Int32 → Int32 → Int32 → Int32 → Int32 → Int64 → (Nat → Int32) → Option (Int32 × Int32 × Int32 × Int32 × Int32 × Int32 × Int32 × Int64)) (m_ofNode : Int32) (m_ofDepth : Int32) (m_ofKids : Int32) (m_ofTwigs : Int32) (m_ofLast : Int32) (m_ofYear : Int32) (m_from : Int32) (m_size : Int32) (m_here : Int32) (m_token : Int32) (m_tokenAt : Int32) (m_open : Int32) (m_bad : Int32) (m_fault : Int32) (m_tokenWorth : Int64) (m_texts : Nat → Int32) : Option (Int32 × Int32 × Int32 × Int32 × Int32 × Int32 × Int32 × Int64) :=
  (R 4 m_ofNode m_ofDepth m_ofKids m_ofTwigs m_ofLast m_ofYear m_from m_size m_here m_token m_tokenAt m_open m_bad m_fault m_tokenWorth m_texts).bind fun r1 =>
  sp_X6_added_5 R m_ofNode m_ofDepth m_ofKids m_ofTwigs m_ofLast m_ofYear m_from m_size m_texts 5000 r1.1 r1.2.1 r1.2.2.1 r1.2.2.2.1 r1.2.2.2.2.1 r1.2.2.2.2.2.1 r1.2.2.2.2.2.2.1 r1.2.2.2.2.2.2.2
def sp_X6_term_5 (R : Nat → Int32 → Int32 → Int32 → Int32 → Int32 → Int32 → Int32 → Int32 → Int32 → Int32 → Int32 → Int32 → Int32 → Int32 → Int64 → (Nat → Int32) → Option (Int32 × Int32 × Int32 × Int32 × Int32 × Int32 × Int32 × Int64)) (m_ofNode : Int32) (m_ofDepth : Int32) (m_ofKids : Int32) (m_ofTwigs : Int32) (m_ofLast : Int32) (m_ofYear : Int32) (m_from : Int32) (m_size : Int32) (m_texts : Nat → Int32) : Nat → Int32 → Int32 → Int32 → Int32 → Int32 → Int32 → Int32 → Int64 → Option (Int32 × Int32 × Int32 × Int32 × Int32 × Int32 × Int32 × Int64)
  | 0, _, _, _, _, _, _, _, _ => none
  | n + 1, u1, m_here, m_token, m_tokenAt, m_open, m_bad, m_fault, m_tokenWorth =>
    if (sp_X6_isSign 42 m_token m_bad m_tokenWorth) = 0 then
      some (u1, m_here, m_token, m_tokenAt, m_open, m_bad, m_fault, m_tokenWorth)
    else
      (sp_X6_next m_from m_size m_here m_token m_tokenAt m_tokenWorth m_texts).bind fun r2 =>
      (R 5 m_ofNode m_ofDepth m_ofKids m_ofTwigs m_ofLast m_ofYear m_from m_size r2.1 r2.2.1 r2.2.2.1 m_open m_bad m_fault r2.2.2.2 m_texts).bind fun r3 =>
      sp_X6_term_5 R m_ofNode m_ofDepth m_ofKids m_ofTwigs m_ofLast m_ofYear m_from m_size m_texts n (u1 * r3.1) r3.2.1 r3.2.2.1 r3.2.2.2.1 r3.2.2.2.2.1 r3.2.2.2.2.2.1 r3.2.2.2.2.2.2.1 r3.2.2.2.2.2.2.2
def sp_X6_term (R : Nat → Int32 → Int32 → Int32 → Int32 → Int32 → Int32 → Int32 → Int32 → Int32 → Int32 → Int32 → Int32 → Int32 → Int32 → Int64 → (Nat → Int32) → Option (Int32 × Int32 × Int32 × Int32 × Int32 × Int32 × Int32 × Int64)) (m_ofNode : Int32) (m_ofDepth : Int32) (m_ofKids : Int32) (m_ofTwigs : Int32) (m_ofLast : Int32) (m_ofYear : Int32) (m_from : Int32) (m_size : Int32) (m_here : Int32) (m_token : Int32) (m_tokenAt : Int32) (m_open : Int32) (m_bad : Int32) (m_fault : Int32) (m_tokenWorth : Int64) (m_texts : Nat → Int32) : Option (Int32 × Int32 × Int32 × Int32 × Int32 × Int32 × Int32 × Int64) :=
  (R 5 m_ofNode m_ofDepth m_ofKids m_ofTwigs m_ofLast m_ofYear m_from m_size m_here m_token m_tokenAt m_open m_bad m_fault m_tokenWorth m_texts).bind fun r1 =>
  sp_X6_term_5 R m_ofNode m_ofDepth m_ofKids m_ofTwigs m_ofLast m_ofYear m_from m_size m_texts 5000 r1.1 r1.2.1 r1.2.2.1 r1.2.2.2.1 r1.2.2.2.2.1 r1.2.2.2.2.2.1 r1.2.2.2.2.2.2.1 r1.2.2.2.2.2.2.2
def sp_X6_atom (R : Nat → Int32 → Int32 → Int32 → Int32 → Int32 → Int32 → Int32 → Int32 → Int32 → Int32 → Int32 → Int32 → Int32 → Int32 → Int64 → (Nat → Int32) → Option (Int32 × Int32 × Int32 × Int32 × Int32 × Int32 × Int32 × Int64)) (m_ofNode : Int32) (m_ofDepth : Int32) (m_ofKids : Int32) (m_ofTwigs : Int32) (m_ofLast : Int32) (m_ofYear : Int32) (m_from : Int32) (m_size : Int32) (m_here : Int32) (m_token : Int32) (m_tokenAt : Int32) (m_open : Int32) (m_bad : Int32) (m_fault : Int32) (m_tokenWorth : Int64) (m_texts : Nat → Int32) : Option (Int32 × Int32 × Int32 × Int32 × Int32 × Int32 × Int32 × Int64) :=
  if (sp_X6_isSign 45 m_token m_bad m_tokenWorth) = 0 then
    if (sp_X6_isSign 40 m_token m_bad m_tokenWorth) = 0 then
      if m_bad = 0 then
        if m_token = 2 then
          (sp_X6_next m_from m_size m_here m_token m_tokenAt m_tokenWorth m_texts).bind fun r5 =>
          some ((Int64.toInt32 m_tokenWorth), r5.1, r5.2.1, r5.2.2.1, m_open, m_bad, m_fault, r5.2.2.2)
        else
          if m_bad = 0 then
            if m_token = 1 then
              (sp_X6_name m_ofNode m_ofDepth m_ofKids m_ofTwigs m_ofLast m_ofYear m_from m_size m_here m_token m_tokenAt m_bad m_fault m_texts).bind fun r3 =>
              if r3.2.1 = 0 then
                (sp_X6_next m_from m_size m_here m_token m_tokenAt m_tokenWorth m_texts).bind fun r4 =>
                some (r3.1, r4.1, r4.2.1, r4.2.2.1, m_open, r3.2.1, r3.2.2, r4.2.2.2)
              else
                some (r3.1, m_here, m_token, m_tokenAt, m_open, r3.2.1, r3.2.2, m_tokenWorth)
            else
              some (0, m_here, m_token, m_tokenAt, m_open, (sp_X6_fail m_tokenAt m_bad m_fault).1, (sp_X6_fail m_tokenAt m_bad m_fault).2, m_tokenWorth)
          else
            some (0, m_here, m_token, m_tokenAt, m_open, (sp_X6_fail m_tokenAt m_bad m_fault).1, (sp_X6_fail m_tokenAt m_bad m_fault).2, m_tokenWorth)
      else
        if m_bad = 0 then
          if m_token = 1 then
            (sp_X6_name m_ofNode m_ofDepth m_ofKids m_ofTwigs m_ofLast m_ofYear m_from m_size m_here m_token m_tokenAt m_bad m_fault m_texts).bind fun r1 =>
            if r1.2.1 = 0 then
              (sp_X6_next m_from m_size m_here m_token m_tokenAt m_tokenWorth m_texts).bind fun r2 =>
              some (r1.1, r2.1, r2.2.1, r2.2.2.1, m_open, r1.2.1, r1.2.2, r2.2.2.2)
            else
              some (r1.1, m_here, m_token, m_tokenAt, m_open, r1.2.1, r1.2.2, m_tokenWorth)
          else
            some (0, m_here, m_token, m_tokenAt, m_open, (sp_X6_fail m_tokenAt m_bad m_fault).1, (sp_X6_fail m_tokenAt m_bad m_fault).2, m_tokenWorth)
        else
          some (0, m_here, m_token, m_tokenAt, m_open, (sp_X6_fail m_tokenAt m_bad m_fault).1, (sp_X6_fail m_tokenAt m_bad m_fault).2, m_tokenWorth)
    else
      (sp_X6_opens m_from m_size m_here m_token m_tokenAt m_open m_bad m_fault m_tokenWorth m_texts).bind fun r6 =>
      if r6.1 = 0 then
        some (0, r6.2.1, r6.2.2.1, r6.2.2.2.1, r6.2.2.2.2.1, r6.2.2.2.2.2.1, r6.2.2.2.2.2.2.1, r6.2.2.2.2.2.2.2)
      else
        (R 0 m_ofNode m_ofDepth m_ofKids m_ofTwigs m_ofLast m_ofYear m_from m_size r6.2.1 r6.2.2.1 r6.2.2.2.1 r6.2.2.2.2.1 r6.2.2.2.2.2.1 r6.2.2.2.2.2.2.1 r6.2.2.2.2.2.2.2 m_texts).bind fun r7 =>
        if (sp_X6_isSign 41 r7.2.2.1 r7.2.2.2.2.2.1 r7.2.2.2.2.2.2.2) = 0 then
          if (sp_X6_fail r7.2.2.2.1 r7.2.2.2.2.2.1 r7.2.2.2.2.2.2.1).1 = 0 then
            (sp_X6_next m_from m_size r7.2.1 r7.2.2.1 r7.2.2.2.1 r7.2.2.2.2.2.2.2 m_texts).bind fun r9 =>
            some (r7.1, r9.1, r9.2.1, r9.2.2.1, (r7.2.2.2.2.1 - 1), (sp_X6_fail r7.2.2.2.1 r7.2.2.2.2.2.1 r7.2.2.2.2.2.2.1).1, (sp_X6_fail r7.2.2.2.1 r7.2.2.2.2.2.1 r7.2.2.2.2.2.2.1).2, r9.2.2.2)
          else
            some (r7.1, r7.2.1, r7.2.2.1, r7.2.2.2.1, (r7.2.2.2.2.1 - 1), (sp_X6_fail r7.2.2.2.1 r7.2.2.2.2.2.1 r7.2.2.2.2.2.2.1).1, (sp_X6_fail r7.2.2.2.1 r7.2.2.2.2.2.1 r7.2.2.2.2.2.2.1).2, r7.2.2.2.2.2.2.2)
        else
          if r7.2.2.2.2.2.1 = 0 then
            (sp_X6_next m_from m_size r7.2.1 r7.2.2.1 r7.2.2.2.1 r7.2.2.2.2.2.2.2 m_texts).bind fun r8 =>
            some (r7.1, r8.1, r8.2.1, r8.2.2.1, (r7.2.2.2.2.1 - 1), r7.2.2.2.2.2.1, r7.2.2.2.2.2.2.1, r8.2.2.2)
          else
            some (r7.1, r7.2.1, r7.2.2.1, r7.2.2.2.1, (r7.2.2.2.2.1 - 1), r7.2.2.2.2.2.1, r7.2.2.2.2.2.2.1, r7.2.2.2.2.2.2.2)
  else
    (sp_X6_opens m_from m_size m_here m_token m_tokenAt m_open m_bad m_fault m_tokenWorth m_texts).bind fun r10 =>
    if r10.1 = 0 then
      some (0, r10.2.1, r10.2.2.1, r10.2.2.2.1, r10.2.2.2.2.1, r10.2.2.2.2.2.1, r10.2.2.2.2.2.2.1, r10.2.2.2.2.2.2.2)
    else
      (R 5 m_ofNode m_ofDepth m_ofKids m_ofTwigs m_ofLast m_ofYear m_from m_size r10.2.1 r10.2.2.1 r10.2.2.2.1 r10.2.2.2.2.1 r10.2.2.2.2.2.1 r10.2.2.2.2.2.2.1 r10.2.2.2.2.2.2.2 m_texts).bind fun r11 =>
      some ((-r11.1), r11.2.1, r11.2.2.1, r11.2.2.2.1, (r11.2.2.2.2.1 - 1), r11.2.2.2.2.2.1, r11.2.2.2.2.2.2.1, r11.2.2.2.2.2.2.2)
def sp_gX6 : Nat → Nat → Int32 → Int32 → Int32 → Int32 → Int32 → Int32 → Int32 → Int32 → Int32 → Int32 → Int32 → Int32 → Int32 → Int32 → Int64 → (Nat → Int32) → Option (Int32 × Int32 × Int32 × Int32 × Int32 × Int32 × Int32 × Int64)
  | 0, _, _, _, _, _, _, _, _, _, _, _, _, _, _, _, _, _ => none
  | n + 1, tag, m_ofNode, m_ofDepth, m_ofKids, m_ofTwigs, m_ofLast, m_ofYear, m_from, m_size, m_here, m_token, m_tokenAt, m_open, m_bad, m_fault, m_tokenWorth, m_texts => if tag = 0 then sp_X6_either (sp_gX6 n) m_ofNode m_ofDepth m_ofKids m_ofTwigs m_ofLast m_ofYear m_from m_size m_here m_token m_tokenAt m_open m_bad m_fault m_tokenWorth m_texts else if tag = 1 then sp_X6_both (sp_gX6 n) m_ofNode m_ofDepth m_ofKids m_ofTwigs m_ofLast m_ofYear m_from m_size m_here m_token m_tokenAt m_open m_bad m_fault m_tokenWorth m_texts else if tag = 2 then sp_X6_not (sp_gX6 n) m_ofNode m_ofDepth m_ofKids m_ofTwigs m_ofLast m_ofYear m_from m_size m_here m_token m_tokenAt m_open m_bad m_fault m_tokenWorth m_texts else if tag = 3 then sp_X6_added (sp_gX6 n) m_ofNode m_ofDepth m_ofKids m_ofTwigs m_ofLast m_ofYear m_from m_size m_here m_token m_tokenAt m_open m_bad m_fault m_tokenWorth m_texts else if tag = 4 then sp_X6_term (sp_gX6 n) m_ofNode m_ofDepth m_ofKids m_ofTwigs m_ofLast m_ofYear m_from m_size m_here m_token m_tokenAt m_open m_bad m_fault m_tokenWorth m_texts else if tag = 5 then sp_X6_atom (sp_gX6 n) m_ofNode m_ofDepth m_ofKids m_ofTwigs m_ofLast m_ofYear m_from m_size m_here m_token m_tokenAt m_open m_bad m_fault m_tokenWorth m_texts else none
def sp_X6_part (p1 : Int32) (m_ofNode : Int32) (m_ofDepth : Int32) (m_ofKids : Int32) (m_ofTwigs : Int32) (m_ofLast : Int32) (m_ofYear : Int32) (m_from : Int32) (m_size : Int32) (m_here : Int32) (m_token : Int32) (m_tokenAt : Int32) (m_open : Int32) (m_bad : Int32) (m_fault : Int32) (m_tokenWorth : Int64) (m_texts : Nat → Int32) : Option (Int32 × Int32 × Int32 × Int32 × Int32 × Int32 × Int32 × Int64) :=
  if p1 = 0 then
    if (sp_X6_fail m_tokenAt m_bad m_fault).1 = 0 then
      (sp_X6_next m_from m_size m_here m_token m_tokenAt m_tokenWorth m_texts).bind fun r17 =>
      if (sp_X6_fail m_tokenAt m_bad m_fault).1 = 0 then
        (sp_gX6 80 0 m_ofNode m_ofDepth m_ofKids m_ofTwigs m_ofLast m_ofYear m_from m_size r17.1 r17.2.1 r17.2.2.1 m_open (sp_X6_fail m_tokenAt m_bad m_fault).1 (sp_X6_fail m_tokenAt m_bad m_fault).2 r17.2.2.2 m_texts).bind fun r18 =>
        if (sp_X6_isSign 59 r18.2.2.1 r18.2.2.2.2.2.1 r18.2.2.2.2.2.2.2) = 0 then
          if (sp_X6_fail r18.2.2.2.1 r18.2.2.2.2.2.1 r18.2.2.2.2.2.2.1).1 = 0 then
            (sp_X6_next m_from m_size r18.2.1 r18.2.2.1 r18.2.2.2.1 r18.2.2.2.2.2.2.2 m_texts).bind fun r20 =>
            some (r18.1, r20.1, r20.2.1, r20.2.2.1, r18.2.2.2.2.1, (sp_X6_fail r18.2.2.2.1 r18.2.2.2.2.2.1 r18.2.2.2.2.2.2.1).1, (sp_X6_fail r18.2.2.2.1 r18.2.2.2.2.2.1 r18.2.2.2.2.2.2.1).2, r20.2.2.2)
          else
            some (r18.1, r18.2.1, r18.2.2.1, r18.2.2.2.1, r18.2.2.2.2.1, (sp_X6_fail r18.2.2.2.1 r18.2.2.2.2.2.1 r18.2.2.2.2.2.2.1).1, (sp_X6_fail r18.2.2.2.1 r18.2.2.2.2.2.1 r18.2.2.2.2.2.2.1).2, r18.2.2.2.2.2.2.2)
        else
          if r18.2.2.2.2.2.1 = 0 then
            (sp_X6_next m_from m_size r18.2.1 r18.2.2.1 r18.2.2.2.1 r18.2.2.2.2.2.2.2 m_texts).bind fun r19 =>
            some (r18.1, r19.1, r19.2.1, r19.2.2.1, r18.2.2.2.2.1, r18.2.2.2.2.2.1, r18.2.2.2.2.2.2.1, r19.2.2.2)
          else
            some (r18.1, r18.2.1, r18.2.2.1, r18.2.2.2.1, r18.2.2.2.2.1, r18.2.2.2.2.2.1, r18.2.2.2.2.2.2.1, r18.2.2.2.2.2.2.2)
      else
        if (sp_X6_isSign 59 r17.2.1 (sp_X6_fail m_tokenAt m_bad m_fault).1 r17.2.2.2) = 0 then
          if (sp_X6_fail r17.2.2.1 (sp_X6_fail m_tokenAt m_bad m_fault).1 (sp_X6_fail m_tokenAt m_bad m_fault).2).1 = 0 then
            (sp_X6_next m_from m_size r17.1 r17.2.1 r17.2.2.1 r17.2.2.2 m_texts).bind fun r22 =>
            some (0, r22.1, r22.2.1, r22.2.2.1, m_open, (sp_X6_fail r17.2.2.1 (sp_X6_fail m_tokenAt m_bad m_fault).1 (sp_X6_fail m_tokenAt m_bad m_fault).2).1, (sp_X6_fail r17.2.2.1 (sp_X6_fail m_tokenAt m_bad m_fault).1 (sp_X6_fail m_tokenAt m_bad m_fault).2).2, r22.2.2.2)
          else
            some (0, r17.1, r17.2.1, r17.2.2.1, m_open, (sp_X6_fail r17.2.2.1 (sp_X6_fail m_tokenAt m_bad m_fault).1 (sp_X6_fail m_tokenAt m_bad m_fault).2).1, (sp_X6_fail r17.2.2.1 (sp_X6_fail m_tokenAt m_bad m_fault).1 (sp_X6_fail m_tokenAt m_bad m_fault).2).2, r17.2.2.2)
        else
          if (sp_X6_fail m_tokenAt m_bad m_fault).1 = 0 then
            (sp_X6_next m_from m_size r17.1 r17.2.1 r17.2.2.1 r17.2.2.2 m_texts).bind fun r21 =>
            some (0, r21.1, r21.2.1, r21.2.2.1, m_open, (sp_X6_fail m_tokenAt m_bad m_fault).1, (sp_X6_fail m_tokenAt m_bad m_fault).2, r21.2.2.2)
          else
            some (0, r17.1, r17.2.1, r17.2.2.1, m_open, (sp_X6_fail m_tokenAt m_bad m_fault).1, (sp_X6_fail m_tokenAt m_bad m_fault).2, r17.2.2.2)
    else
      if (sp_X6_fail m_tokenAt m_bad m_fault).1 = 0 then
        (sp_gX6 80 0 m_ofNode m_ofDepth m_ofKids m_ofTwigs m_ofLast m_ofYear m_from m_size m_here m_token m_tokenAt m_open (sp_X6_fail m_tokenAt m_bad m_fault).1 (sp_X6_fail m_tokenAt m_bad m_fault).2 m_tokenWorth m_texts).bind fun r12 =>
        if (sp_X6_isSign 59 r12.2.2.1 r12.2.2.2.2.2.1 r12.2.2.2.2.2.2.2) = 0 then
          if (sp_X6_fail r12.2.2.2.1 r12.2.2.2.2.2.1 r12.2.2.2.2.2.2.1).1 = 0 then
            (sp_X6_next m_from m_size r12.2.1 r12.2.2.1 r12.2.2.2.1 r12.2.2.2.2.2.2.2 m_texts).bind fun r14 =>
            some (r12.1, r14.1, r14.2.1, r14.2.2.1, r12.2.2.2.2.1, (sp_X6_fail r12.2.2.2.1 r12.2.2.2.2.2.1 r12.2.2.2.2.2.2.1).1, (sp_X6_fail r12.2.2.2.1 r12.2.2.2.2.2.1 r12.2.2.2.2.2.2.1).2, r14.2.2.2)
          else
            some (r12.1, r12.2.1, r12.2.2.1, r12.2.2.2.1, r12.2.2.2.2.1, (sp_X6_fail r12.2.2.2.1 r12.2.2.2.2.2.1 r12.2.2.2.2.2.2.1).1, (sp_X6_fail r12.2.2.2.1 r12.2.2.2.2.2.1 r12.2.2.2.2.2.2.1).2, r12.2.2.2.2.2.2.2)
        else
          if r12.2.2.2.2.2.1 = 0 then
            (sp_X6_next m_from m_size r12.2.1 r12.2.2.1 r12.2.2.2.1 r12.2.2.2.2.2.2.2 m_texts).bind fun r13 =>
            some (r12.1, r13.1, r13.2.1, r13.2.2.1, r12.2.2.2.2.1, r12.2.2.2.2.2.1, r12.2.2.2.2.2.2.1, r13.2.2.2)
          else
            some (r12.1, r12.2.1, r12.2.2.1, r12.2.2.2.1, r12.2.2.2.2.1, r12.2.2.2.2.2.1, r12.2.2.2.2.2.2.1, r12.2.2.2.2.2.2.2)
      else
        if (sp_X6_isSign 59 m_token (sp_X6_fail m_tokenAt m_bad m_fault).1 m_tokenWorth) = 0 then
          if (sp_X6_fail m_tokenAt (sp_X6_fail m_tokenAt m_bad m_fault).1 (sp_X6_fail m_tokenAt m_bad m_fault).2).1 = 0 then
            (sp_X6_next m_from m_size m_here m_token m_tokenAt m_tokenWorth m_texts).bind fun r16 =>
            some (0, r16.1, r16.2.1, r16.2.2.1, m_open, (sp_X6_fail m_tokenAt (sp_X6_fail m_tokenAt m_bad m_fault).1 (sp_X6_fail m_tokenAt m_bad m_fault).2).1, (sp_X6_fail m_tokenAt (sp_X6_fail m_tokenAt m_bad m_fault).1 (sp_X6_fail m_tokenAt m_bad m_fault).2).2, r16.2.2.2)
          else
            some (0, m_here, m_token, m_tokenAt, m_open, (sp_X6_fail m_tokenAt (sp_X6_fail m_tokenAt m_bad m_fault).1 (sp_X6_fail m_tokenAt m_bad m_fault).2).1, (sp_X6_fail m_tokenAt (sp_X6_fail m_tokenAt m_bad m_fault).1 (sp_X6_fail m_tokenAt m_bad m_fault).2).2, m_tokenWorth)
        else
          if (sp_X6_fail m_tokenAt m_bad m_fault).1 = 0 then
            (sp_X6_next m_from m_size m_here m_token m_tokenAt m_tokenWorth m_texts).bind fun r15 =>
            some (0, r15.1, r15.2.1, r15.2.2.1, m_open, (sp_X6_fail m_tokenAt m_bad m_fault).1, (sp_X6_fail m_tokenAt m_bad m_fault).2, r15.2.2.2)
          else
            some (0, m_here, m_token, m_tokenAt, m_open, (sp_X6_fail m_tokenAt m_bad m_fault).1, (sp_X6_fail m_tokenAt m_bad m_fault).2, m_tokenWorth)
  else
    if m_bad = 0 then
      (sp_X6_next m_from m_size m_here m_token m_tokenAt m_tokenWorth m_texts).bind fun r6 =>
      if m_bad = 0 then
        (sp_gX6 80 0 m_ofNode m_ofDepth m_ofKids m_ofTwigs m_ofLast m_ofYear m_from m_size r6.1 r6.2.1 r6.2.2.1 m_open m_bad m_fault r6.2.2.2 m_texts).bind fun r7 =>
        if (sp_X6_isSign 59 r7.2.2.1 r7.2.2.2.2.2.1 r7.2.2.2.2.2.2.2) = 0 then
          if (sp_X6_fail r7.2.2.2.1 r7.2.2.2.2.2.1 r7.2.2.2.2.2.2.1).1 = 0 then
            (sp_X6_next m_from m_size r7.2.1 r7.2.2.1 r7.2.2.2.1 r7.2.2.2.2.2.2.2 m_texts).bind fun r9 =>
            some (r7.1, r9.1, r9.2.1, r9.2.2.1, r7.2.2.2.2.1, (sp_X6_fail r7.2.2.2.1 r7.2.2.2.2.2.1 r7.2.2.2.2.2.2.1).1, (sp_X6_fail r7.2.2.2.1 r7.2.2.2.2.2.1 r7.2.2.2.2.2.2.1).2, r9.2.2.2)
          else
            some (r7.1, r7.2.1, r7.2.2.1, r7.2.2.2.1, r7.2.2.2.2.1, (sp_X6_fail r7.2.2.2.1 r7.2.2.2.2.2.1 r7.2.2.2.2.2.2.1).1, (sp_X6_fail r7.2.2.2.1 r7.2.2.2.2.2.1 r7.2.2.2.2.2.2.1).2, r7.2.2.2.2.2.2.2)
        else
          if r7.2.2.2.2.2.1 = 0 then
            (sp_X6_next m_from m_size r7.2.1 r7.2.2.1 r7.2.2.2.1 r7.2.2.2.2.2.2.2 m_texts).bind fun r8 =>
            some (r7.1, r8.1, r8.2.1, r8.2.2.1, r7.2.2.2.2.1, r7.2.2.2.2.2.1, r7.2.2.2.2.2.2.1, r8.2.2.2)
          else
            some (r7.1, r7.2.1, r7.2.2.1, r7.2.2.2.1, r7.2.2.2.2.1, r7.2.2.2.2.2.1, r7.2.2.2.2.2.2.1, r7.2.2.2.2.2.2.2)
      else
        if (sp_X6_isSign 59 r6.2.1 m_bad r6.2.2.2) = 0 then
          if (sp_X6_fail r6.2.2.1 m_bad m_fault).1 = 0 then
            (sp_X6_next m_from m_size r6.1 r6.2.1 r6.2.2.1 r6.2.2.2 m_texts).bind fun r11 =>
            some (0, r11.1, r11.2.1, r11.2.2.1, m_open, (sp_X6_fail r6.2.2.1 m_bad m_fault).1, (sp_X6_fail r6.2.2.1 m_bad m_fault).2, r11.2.2.2)
          else
            some (0, r6.1, r6.2.1, r6.2.2.1, m_open, (sp_X6_fail r6.2.2.1 m_bad m_fault).1, (sp_X6_fail r6.2.2.1 m_bad m_fault).2, r6.2.2.2)
        else
          if m_bad = 0 then
            (sp_X6_next m_from m_size r6.1 r6.2.1 r6.2.2.1 r6.2.2.2 m_texts).bind fun r10 =>
            some (0, r10.1, r10.2.1, r10.2.2.1, m_open, m_bad, m_fault, r10.2.2.2)
          else
            some (0, r6.1, r6.2.1, r6.2.2.1, m_open, m_bad, m_fault, r6.2.2.2)
    else
      if m_bad = 0 then
        (sp_gX6 80 0 m_ofNode m_ofDepth m_ofKids m_ofTwigs m_ofLast m_ofYear m_from m_size m_here m_token m_tokenAt m_open m_bad m_fault m_tokenWorth m_texts).bind fun r1 =>
        if (sp_X6_isSign 59 r1.2.2.1 r1.2.2.2.2.2.1 r1.2.2.2.2.2.2.2) = 0 then
          if (sp_X6_fail r1.2.2.2.1 r1.2.2.2.2.2.1 r1.2.2.2.2.2.2.1).1 = 0 then
            (sp_X6_next m_from m_size r1.2.1 r1.2.2.1 r1.2.2.2.1 r1.2.2.2.2.2.2.2 m_texts).bind fun r3 =>
            some (r1.1, r3.1, r3.2.1, r3.2.2.1, r1.2.2.2.2.1, (sp_X6_fail r1.2.2.2.1 r1.2.2.2.2.2.1 r1.2.2.2.2.2.2.1).1, (sp_X6_fail r1.2.2.2.1 r1.2.2.2.2.2.1 r1.2.2.2.2.2.2.1).2, r3.2.2.2)
          else
            some (r1.1, r1.2.1, r1.2.2.1, r1.2.2.2.1, r1.2.2.2.2.1, (sp_X6_fail r1.2.2.2.1 r1.2.2.2.2.2.1 r1.2.2.2.2.2.2.1).1, (sp_X6_fail r1.2.2.2.1 r1.2.2.2.2.2.1 r1.2.2.2.2.2.2.1).2, r1.2.2.2.2.2.2.2)
        else
          if r1.2.2.2.2.2.1 = 0 then
            (sp_X6_next m_from m_size r1.2.1 r1.2.2.1 r1.2.2.2.1 r1.2.2.2.2.2.2.2 m_texts).bind fun r2 =>
            some (r1.1, r2.1, r2.2.1, r2.2.2.1, r1.2.2.2.2.1, r1.2.2.2.2.2.1, r1.2.2.2.2.2.2.1, r2.2.2.2)
          else
            some (r1.1, r1.2.1, r1.2.2.1, r1.2.2.2.1, r1.2.2.2.2.1, r1.2.2.2.2.2.1, r1.2.2.2.2.2.2.1, r1.2.2.2.2.2.2.2)
      else
        if (sp_X6_isSign 59 m_token m_bad m_tokenWorth) = 0 then
          if (sp_X6_fail m_tokenAt m_bad m_fault).1 = 0 then
            (sp_X6_next m_from m_size m_here m_token m_tokenAt m_tokenWorth m_texts).bind fun r5 =>
            some (0, r5.1, r5.2.1, r5.2.2.1, m_open, (sp_X6_fail m_tokenAt m_bad m_fault).1, (sp_X6_fail m_tokenAt m_bad m_fault).2, r5.2.2.2)
          else
            some (0, m_here, m_token, m_tokenAt, m_open, (sp_X6_fail m_tokenAt m_bad m_fault).1, (sp_X6_fail m_tokenAt m_bad m_fault).2, m_tokenWorth)
        else
          if m_bad = 0 then
            (sp_X6_next m_from m_size m_here m_token m_tokenAt m_tokenWorth m_texts).bind fun r4 =>
            some (0, r4.1, r4.2.1, r4.2.2.1, m_open, m_bad, m_fault, r4.2.2.2)
          else
            some (0, m_here, m_token, m_tokenAt, m_open, m_bad, m_fault, m_tokenWorth)
def sp_X6_read (p1 : Int32) (p2 : Int32) (m_ofNode : Int32) (m_ofDepth : Int32) (m_ofKids : Int32) (m_ofTwigs : Int32) (m_ofLast : Int32) (m_ofYear : Int32) (m_from : Int32) (m_size : Int32) (m_here : Int32) (m_token : Int32) (m_tokenAt : Int32) (m_open : Int32) (m_bad : Int32) (m_fault : Int32) (m_tokenWorth : Int64) (m_texts : Nat → Int32) (m_textSize : Nat → Int32) : Option (Int32 × Int32 × Int32 × Int32 × Int32 × Int32 × Int32 × Int32 × Int32 × Int64) :=
  (xo_at m_textSize 6 p1).bind fun v1 =>
  (sp_X6_next (160 * p1) v1 0 m_token m_tokenAt m_tokenWorth m_texts).bind fun r2 =>
  (sp_X6_isWord 99 111 115 116 115 0 0 0 (160 * p1) v1 r2.1 r2.2.1 r2.2.2.1 0 m_texts).bind fun r3 =>
  (sp_X6_part r3 m_ofNode m_ofDepth m_ofKids m_ofTwigs m_ofLast m_ofYear (160 * p1) v1 r2.1 r2.2.1 r2.2.2.1 0 0 m_fault r2.2.2.2 m_texts).bind fun r4 =>
  if r4.2.2.2.2.2.1 = 0 then
    (sp_X6_isWord 102 97 108 108 115 0 0 0 (160 * p1) v1 r4.2.1 r4.2.2.1 r4.2.2.2.1 r4.2.2.2.2.2.1 m_texts).bind fun r5 =>
    (sp_X6_part r5 m_ofNode m_ofDepth m_ofKids m_ofTwigs m_ofLast m_ofYear (160 * p1) v1 r4.2.1 r4.2.2.1 r4.2.2.2.1 r4.2.2.2.2.1 r4.2.2.2.2.2.1 r4.2.2.2.2.2.2.1 r4.2.2.2.2.2.2.2 m_texts).bind fun r6 =>
    if r6.2.2.2.2.2.1 = 0 then
      (sp_X6_isWord 119 111 114 116 104 0 0 0 (160 * p1) v1 r6.2.1 r6.2.2.1 r6.2.2.2.1 r6.2.2.2.2.2.1 m_texts).bind fun r7 =>
      (sp_X6_part r7 m_ofNode m_ofDepth m_ofKids m_ofTwigs m_ofLast m_ofYear (160 * p1) v1 r6.2.1 r6.2.2.1 r6.2.2.2.1 r6.2.2.2.2.1 r6.2.2.2.2.2.1 r6.2.2.2.2.2.2.1 r6.2.2.2.2.2.2.2 m_texts).bind fun r8 =>
      if r8.2.2.2.2.2.1 = 0 then
        if r8.2.2.1 = 0 then
          if p2 = 0 then
            some (r4.1, (160 * p1), v1, r8.2.1, r8.2.2.1, r8.2.2.2.1, r8.2.2.2.2.1, r8.2.2.2.2.2.1, r8.2.2.2.2.2.2.1, r8.2.2.2.2.2.2.2)
          else
            if p2 = 1 then
              some (r6.1, (160 * p1), v1, r8.2.1, r8.2.2.1, r8.2.2.2.1, r8.2.2.2.2.1, r8.2.2.2.2.2.1, r8.2.2.2.2.2.2.1, r8.2.2.2.2.2.2.2)
            else
              some (r8.1, (160 * p1), v1, r8.2.1, r8.2.2.1, r8.2.2.2.1, r8.2.2.2.2.1, r8.2.2.2.2.2.1, r8.2.2.2.2.2.2.1, r8.2.2.2.2.2.2.2)
        else
          if p2 = 0 then
            some (r4.1, (160 * p1), v1, r8.2.1, r8.2.2.1, r8.2.2.2.1, r8.2.2.2.2.1, (sp_X6_fail r8.2.2.2.1 r8.2.2.2.2.2.1 r8.2.2.2.2.2.2.1).1, (sp_X6_fail r8.2.2.2.1 r8.2.2.2.2.2.1 r8.2.2.2.2.2.2.1).2, r8.2.2.2.2.2.2.2)
          else
            if p2 = 1 then
              some (r6.1, (160 * p1), v1, r8.2.1, r8.2.2.1, r8.2.2.2.1, r8.2.2.2.2.1, (sp_X6_fail r8.2.2.2.1 r8.2.2.2.2.2.1 r8.2.2.2.2.2.2.1).1, (sp_X6_fail r8.2.2.2.1 r8.2.2.2.2.2.1 r8.2.2.2.2.2.2.1).2, r8.2.2.2.2.2.2.2)
            else
              some (r8.1, (160 * p1), v1, r8.2.1, r8.2.2.1, r8.2.2.2.1, r8.2.2.2.2.1, (sp_X6_fail r8.2.2.2.1 r8.2.2.2.2.2.1 r8.2.2.2.2.2.2.1).1, (sp_X6_fail r8.2.2.2.1 r8.2.2.2.2.2.1 r8.2.2.2.2.2.2.1).2, r8.2.2.2.2.2.2.2)
      else
        if p2 = 0 then
          some (r4.1, (160 * p1), v1, r8.2.1, r8.2.2.1, r8.2.2.2.1, r8.2.2.2.2.1, r8.2.2.2.2.2.1, r8.2.2.2.2.2.2.1, r8.2.2.2.2.2.2.2)
        else
          if p2 = 1 then
            some (r6.1, (160 * p1), v1, r8.2.1, r8.2.2.1, r8.2.2.2.1, r8.2.2.2.2.1, r8.2.2.2.2.2.1, r8.2.2.2.2.2.2.1, r8.2.2.2.2.2.2.2)
          else
            some (r8.1, (160 * p1), v1, r8.2.1, r8.2.2.1, r8.2.2.2.1, r8.2.2.2.2.1, r8.2.2.2.2.2.1, r8.2.2.2.2.2.2.1, r8.2.2.2.2.2.2.2)
    else
      if r6.2.2.2.2.2.1 = 0 then
        if r6.2.2.1 = 0 then
          if p2 = 0 then
            some (r4.1, (160 * p1), v1, r6.2.1, r6.2.2.1, r6.2.2.2.1, r6.2.2.2.2.1, r6.2.2.2.2.2.1, r6.2.2.2.2.2.2.1, r6.2.2.2.2.2.2.2)
          else
            if p2 = 1 then
              some (r6.1, (160 * p1), v1, r6.2.1, r6.2.2.1, r6.2.2.2.1, r6.2.2.2.2.1, r6.2.2.2.2.2.1, r6.2.2.2.2.2.2.1, r6.2.2.2.2.2.2.2)
            else
              some (0, (160 * p1), v1, r6.2.1, r6.2.2.1, r6.2.2.2.1, r6.2.2.2.2.1, r6.2.2.2.2.2.1, r6.2.2.2.2.2.2.1, r6.2.2.2.2.2.2.2)
        else
          if p2 = 0 then
            some (r4.1, (160 * p1), v1, r6.2.1, r6.2.2.1, r6.2.2.2.1, r6.2.2.2.2.1, (sp_X6_fail r6.2.2.2.1 r6.2.2.2.2.2.1 r6.2.2.2.2.2.2.1).1, (sp_X6_fail r6.2.2.2.1 r6.2.2.2.2.2.1 r6.2.2.2.2.2.2.1).2, r6.2.2.2.2.2.2.2)
          else
            if p2 = 1 then
              some (r6.1, (160 * p1), v1, r6.2.1, r6.2.2.1, r6.2.2.2.1, r6.2.2.2.2.1, (sp_X6_fail r6.2.2.2.1 r6.2.2.2.2.2.1 r6.2.2.2.2.2.2.1).1, (sp_X6_fail r6.2.2.2.1 r6.2.2.2.2.2.1 r6.2.2.2.2.2.2.1).2, r6.2.2.2.2.2.2.2)
            else
              some (0, (160 * p1), v1, r6.2.1, r6.2.2.1, r6.2.2.2.1, r6.2.2.2.2.1, (sp_X6_fail r6.2.2.2.1 r6.2.2.2.2.2.1 r6.2.2.2.2.2.2.1).1, (sp_X6_fail r6.2.2.2.1 r6.2.2.2.2.2.1 r6.2.2.2.2.2.2.1).2, r6.2.2.2.2.2.2.2)
      else
        if p2 = 0 then
          some (r4.1, (160 * p1), v1, r6.2.1, r6.2.2.1, r6.2.2.2.1, r6.2.2.2.2.1, r6.2.2.2.2.2.1, r6.2.2.2.2.2.2.1, r6.2.2.2.2.2.2.2)
        else
          if p2 = 1 then
            some (r6.1, (160 * p1), v1, r6.2.1, r6.2.2.1, r6.2.2.2.1, r6.2.2.2.2.1, r6.2.2.2.2.2.1, r6.2.2.2.2.2.2.1, r6.2.2.2.2.2.2.2)
          else
            some (0, (160 * p1), v1, r6.2.1, r6.2.2.1, r6.2.2.2.1, r6.2.2.2.2.1, r6.2.2.2.2.2.1, r6.2.2.2.2.2.2.1, r6.2.2.2.2.2.2.2)
  else
    if r4.2.2.2.2.2.1 = 0 then
      (sp_X6_isWord 119 111 114 116 104 0 0 0 (160 * p1) v1 r4.2.1 r4.2.2.1 r4.2.2.2.1 r4.2.2.2.2.2.1 m_texts).bind fun r9 =>
      (sp_X6_part r9 m_ofNode m_ofDepth m_ofKids m_ofTwigs m_ofLast m_ofYear (160 * p1) v1 r4.2.1 r4.2.2.1 r4.2.2.2.1 r4.2.2.2.2.1 r4.2.2.2.2.2.1 r4.2.2.2.2.2.2.1 r4.2.2.2.2.2.2.2 m_texts).bind fun r10 =>
      if r10.2.2.2.2.2.1 = 0 then
        if r10.2.2.1 = 0 then
          if p2 = 0 then
            some (r4.1, (160 * p1), v1, r10.2.1, r10.2.2.1, r10.2.2.2.1, r10.2.2.2.2.1, r10.2.2.2.2.2.1, r10.2.2.2.2.2.2.1, r10.2.2.2.2.2.2.2)
          else
            if p2 = 1 then
              some (0, (160 * p1), v1, r10.2.1, r10.2.2.1, r10.2.2.2.1, r10.2.2.2.2.1, r10.2.2.2.2.2.1, r10.2.2.2.2.2.2.1, r10.2.2.2.2.2.2.2)
            else
              some (r10.1, (160 * p1), v1, r10.2.1, r10.2.2.1, r10.2.2.2.1, r10.2.2.2.2.1, r10.2.2.2.2.2.1, r10.2.2.2.2.2.2.1, r10.2.2.2.2.2.2.2)
        else
          if p2 = 0 then
            some (r4.1, (160 * p1), v1, r10.2.1, r10.2.2.1, r10.2.2.2.1, r10.2.2.2.2.1, (sp_X6_fail r10.2.2.2.1 r10.2.2.2.2.2.1 r10.2.2.2.2.2.2.1).1, (sp_X6_fail r10.2.2.2.1 r10.2.2.2.2.2.1 r10.2.2.2.2.2.2.1).2, r10.2.2.2.2.2.2.2)
          else
            if p2 = 1 then
              some (0, (160 * p1), v1, r10.2.1, r10.2.2.1, r10.2.2.2.1, r10.2.2.2.2.1, (sp_X6_fail r10.2.2.2.1 r10.2.2.2.2.2.1 r10.2.2.2.2.2.2.1).1, (sp_X6_fail r10.2.2.2.1 r10.2.2.2.2.2.1 r10.2.2.2.2.2.2.1).2, r10.2.2.2.2.2.2.2)
            else
              some (r10.1, (160 * p1), v1, r10.2.1, r10.2.2.1, r10.2.2.2.1, r10.2.2.2.2.1, (sp_X6_fail r10.2.2.2.1 r10.2.2.2.2.2.1 r10.2.2.2.2.2.2.1).1, (sp_X6_fail r10.2.2.2.1 r10.2.2.2.2.2.1 r10.2.2.2.2.2.2.1).2, r10.2.2.2.2.2.2.2)
      else
        if p2 = 0 then
          some (r4.1, (160 * p1), v1, r10.2.1, r10.2.2.1, r10.2.2.2.1, r10.2.2.2.2.1, r10.2.2.2.2.2.1, r10.2.2.2.2.2.2.1, r10.2.2.2.2.2.2.2)
        else
          if p2 = 1 then
            some (0, (160 * p1), v1, r10.2.1, r10.2.2.1, r10.2.2.2.1, r10.2.2.2.2.1, r10.2.2.2.2.2.1, r10.2.2.2.2.2.2.1, r10.2.2.2.2.2.2.2)
          else
            some (r10.1, (160 * p1), v1, r10.2.1, r10.2.2.1, r10.2.2.2.1, r10.2.2.2.2.1, r10.2.2.2.2.2.1, r10.2.2.2.2.2.2.1, r10.2.2.2.2.2.2.2)
    else
      if r4.2.2.2.2.2.1 = 0 then
        if r4.2.2.1 = 0 then
          if p2 = 0 then
            some (r4.1, (160 * p1), v1, r4.2.1, r4.2.2.1, r4.2.2.2.1, r4.2.2.2.2.1, r4.2.2.2.2.2.1, r4.2.2.2.2.2.2.1, r4.2.2.2.2.2.2.2)
          else
            if p2 = 1 then
              some (0, (160 * p1), v1, r4.2.1, r4.2.2.1, r4.2.2.2.1, r4.2.2.2.2.1, r4.2.2.2.2.2.1, r4.2.2.2.2.2.2.1, r4.2.2.2.2.2.2.2)
            else
              some (0, (160 * p1), v1, r4.2.1, r4.2.2.1, r4.2.2.2.1, r4.2.2.2.2.1, r4.2.2.2.2.2.1, r4.2.2.2.2.2.2.1, r4.2.2.2.2.2.2.2)
        else
          if p2 = 0 then
            some (r4.1, (160 * p1), v1, r4.2.1, r4.2.2.1, r4.2.2.2.1, r4.2.2.2.2.1, (sp_X6_fail r4.2.2.2.1 r4.2.2.2.2.2.1 r4.2.2.2.2.2.2.1).1, (sp_X6_fail r4.2.2.2.1 r4.2.2.2.2.2.1 r4.2.2.2.2.2.2.1).2, r4.2.2.2.2.2.2.2)
          else
            if p2 = 1 then
              some (0, (160 * p1), v1, r4.2.1, r4.2.2.1, r4.2.2.2.1, r4.2.2.2.2.1, (sp_X6_fail r4.2.2.2.1 r4.2.2.2.2.2.1 r4.2.2.2.2.2.2.1).1, (sp_X6_fail r4.2.2.2.1 r4.2.2.2.2.2.1 r4.2.2.2.2.2.2.1).2, r4.2.2.2.2.2.2.2)
            else
              some (0, (160 * p1), v1, r4.2.1, r4.2.2.1, r4.2.2.2.1, r4.2.2.2.2.1, (sp_X6_fail r4.2.2.2.1 r4.2.2.2.2.2.1 r4.2.2.2.2.2.2.1).1, (sp_X6_fail r4.2.2.2.1 r4.2.2.2.2.2.1 r4.2.2.2.2.2.2.1).2, r4.2.2.2.2.2.2.2)
      else
        if p2 = 0 then
          some (r4.1, (160 * p1), v1, r4.2.1, r4.2.2.1, r4.2.2.2.1, r4.2.2.2.2.1, r4.2.2.2.2.2.1, r4.2.2.2.2.2.2.1, r4.2.2.2.2.2.2.2)
        else
          if p2 = 1 then
            some (0, (160 * p1), v1, r4.2.1, r4.2.2.1, r4.2.2.2.1, r4.2.2.2.2.1, r4.2.2.2.2.2.1, r4.2.2.2.2.2.2.1, r4.2.2.2.2.2.2.2)
          else
            some (0, (160 * p1), v1, r4.2.1, r4.2.2.1, r4.2.2.2.1, r4.2.2.2.2.1, r4.2.2.2.2.2.1, r4.2.2.2.2.2.2.1, r4.2.2.2.2.2.2.2)
def sp_X6_text_14 (m_ofNode : Int32) (m_ofDepth : Int32) (m_ofKids : Int32) (m_ofTwigs : Int32) (m_ofLast : Int32) (m_ofYear : Int32) (m_tape : Nat → Int32) : Nat → Int32 → Int32 → Int32 → Int32 → Int32 → Int32 → Int32 → Int32 → Int32 → Int32 → Int32 → Int64 → (Nat → Int32) → (Nat → Int32) → Option (Int32 × Int32 × Int32 × Int32 × Int32 × Int32 × Int32 × Int32 × Int32 × Int32 × Int32 × Int64 × (Nat → Int32) × (Nat → Int32))
  | 0, _, _, _, _, _, _, _, _, _, _, _, _, _, _ => none
  | n + 1, u1, m_textCount, m_taped, m_from, m_size, m_here, m_token, m_tokenAt, m_open, m_bad, m_fault, m_tokenWorth, m_texts, m_textSize =>
    if m_taped ≤ u1 then
      (xo_set m_textSize 6 m_textCount m_taped).bind fun f1 =>
      (sp_X6_read m_textCount 0 m_ofNode m_ofDepth m_ofKids m_ofTwigs m_ofLast m_ofYear m_from m_size m_here m_token m_tokenAt m_open m_bad m_fault m_tokenWorth m_texts f1).bind fun r2 =>
      if r2.2.2.2.2.2.2.2.1 = 0 then
        some (((m_textCount + 1) - 1), (m_textCount + 1), 0, r2.2.1, r2.2.2.1, r2.2.2.2.1, r2.2.2.2.2.1, r2.2.2.2.2.2.1, r2.2.2.2.2.2.2.1, r2.2.2.2.2.2.2.2.1, r2.2.2.2.2.2.2.2.2.1, r2.2.2.2.2.2.2.2.2.2, m_texts, f1)
      else
        some (((-100) - r2.2.2.2.2.2.2.2.2.1), m_textCount, 0, r2.2.1, r2.2.2.1, r2.2.2.2.1, r2.2.2.2.2.1, r2.2.2.2.2.2.1, r2.2.2.2.2.2.2.1, r2.2.2.2.2.2.2.2.1, r2.2.2.2.2.2.2.2.2.1, r2.2.2.2.2.2.2.2.2.2, m_texts, f1)
    else
      (xo_at m_tape 160 u1).bind fun v3 =>
      (xo_set m_texts 960 ((160 * m_textCount) + u1) v3).bind fun f4 =>
      sp_X6_text_14 m_ofNode m_ofDepth m_ofKids m_ofTwigs m_ofLast m_ofYear m_tape n (u1 + 1) m_textCount m_taped m_from m_size m_here m_token m_tokenAt m_open m_bad m_fault m_tokenWorth f4 m_textSize
def sp_X6_text (m_textCount : Int32) (m_taped : Int32) (m_ofNode : Int32) (m_ofDepth : Int32) (m_ofKids : Int32) (m_ofTwigs : Int32) (m_ofLast : Int32) (m_ofYear : Int32) (m_from : Int32) (m_size : Int32) (m_here : Int32) (m_token : Int32) (m_tokenAt : Int32) (m_open : Int32) (m_bad : Int32) (m_fault : Int32) (m_tokenWorth : Int64) (m_texts : Nat → Int32) (m_textSize : Nat → Int32) (m_tape : Nat → Int32) : Option (Int32 × Int32 × Int32 × Int32 × Int32 × Int32 × Int32 × Int32 × Int32 × Int32 × Int32 × Int64 × (Nat → Int32) × (Nat → Int32)) :=
  if m_textCount = 6 then
    some ((-4), m_textCount, m_taped, m_from, m_size, m_here, m_token, m_tokenAt, m_open, m_bad, m_fault, m_tokenWorth, m_texts, m_textSize)
  else
    sp_X6_text_14 m_ofNode m_ofDepth m_ofKids m_ofTwigs m_ofLast m_ofYear m_tape 5000 0 m_textCount m_taped m_from m_size m_here m_token m_tokenAt m_open m_bad m_fault m_tokenWorth m_texts m_textSize
def sp_X6_within (p1 : Int32) (p2 : Int32) (p3 : Int32)  : Int32 :=
  if p2 ≤ p1 then
    if p1 ≤ p3 then
      p1
    else
      p3
  else
    p2
def sp_X6_growsFrom_2 (u2 : Int32) (m_parents : Nat → Int32) : Nat → Int32 → Option (Int32)
  | 0, _ => none
  | n + 1, u3 =>
    if u3 ≤ u2 then
      if u3 = u2 then
        some 1
      else
        some 0
    else
      (xo_at m_parents 12 u3).bind fun v1 =>
      sp_X6_growsFrom_2 u2 m_parents n v1
def sp_X6_growsFrom (p1 : Int32) (p2 : Int32) (m_parents : Nat → Int32) : Option (Int32) :=
  sp_X6_growsFrom_2 p2 m_parents 5000 p1
def sp_X6_says_67 (u1 : Int32) (u2 : Int32) (u3 : Int32) (m_rule : Int32) (m_n : Int32) (m_lasts : Int32) (m_year : Int32) (m_texts : Nat → Int32) (m_textSize : Nat → Int32) (m_parents : Nat → Int32) : Nat → Int32 → Int32 → Int32 → Int32 → Int32 → Int32 → Int32 → Int32 → Int32 → Int32 → Int32 → Int32 → Int32 → Int32 → Int32 → Int64 → Option (Int32 × Int32 × Int32 × Int32 × Int32 × Int32 × Int32 × Int32 × Int32 × Int32 × Int32 × Int32 × Int32 × Int32 × Int32 × Int64)
  | 0, _, _, _, _, _, _, _, _, _, _, _, _, _, _, _, _ => none
  | n + 1, u4, m_ofNode, m_ofDepth, m_ofKids, m_ofTwigs, m_ofLast, m_ofYear, m_from, m_size, m_here, m_token, m_tokenAt, m_open, m_bad, m_fault, m_tokenWorth =>
    if m_n ≤ u4 then
      (sp_X6_read m_rule u1 m_ofNode m_ofDepth m_ofKids m_ofTwigs ((xi_shr m_lasts u2) &&& 1) m_year m_from m_size m_here m_token m_tokenAt m_open m_bad m_fault m_tokenWorth m_texts m_textSize).bind fun r3 =>
      if u1 = 1 then
        some ((sp_X6_within r3.1 0 100), m_ofNode, m_ofDepth, m_ofKids, m_ofTwigs, ((xi_shr m_lasts u2) &&& 1), m_year, r3.2.1, r3.2.2.1, r3.2.2.2.1, r3.2.2.2.2.1, r3.2.2.2.2.2.1, r3.2.2.2.2.2.2.1, r3.2.2.2.2.2.2.2.1, r3.2.2.2.2.2.2.2.2.1, r3.2.2.2.2.2.2.2.2.2)
      else
        some ((sp_X6_within r3.1 0 99), m_ofNode, m_ofDepth, m_ofKids, m_ofTwigs, ((xi_shr m_lasts u2) &&& 1), m_year, r3.2.1, r3.2.2.1, r3.2.2.2.1, r3.2.2.2.2.1, r3.2.2.2.2.2.1, r3.2.2.2.2.2.2.1, r3.2.2.2.2.2.2.2.1, r3.2.2.2.2.2.2.2.2.1, r3.2.2.2.2.2.2.2.2.2)
    else
      (sp_X6_isTwig u4 u3 m_n m_parents).bind fun r4 =>
      if r4 = 0 then
        sp_X6_says_67 u1 u2 u3 m_rule m_n m_lasts m_year m_texts m_textSize m_parents n (u4 + 1) m_ofNode m_ofDepth m_ofKids (m_ofTwigs + 0) m_ofLast m_ofYear m_from m_size m_here m_token m_tokenAt m_open m_bad m_fault m_tokenWorth
      else
        (sp_X6_growsFrom u4 u2 m_parents).bind fun r5 =>
        if r5 = 0 then
          sp_X6_says_67 u1 u2 u3 m_rule m_n m_lasts m_year m_texts m_textSize m_parents n (u4 + 1) m_ofNode m_ofDepth m_ofKids (m_ofTwigs + 0) m_ofLast m_ofYear m_from m_size m_here m_token m_tokenAt m_open m_bad m_fault m_tokenWorth
        else
          sp_X6_says_67 u1 u2 u3 m_rule m_n m_lasts m_year m_texts m_textSize m_parents n (u4 + 1) m_ofNode m_ofDepth m_ofKids (m_ofTwigs + 1) m_ofLast m_ofYear m_from m_size m_here m_token m_tokenAt m_open m_bad m_fault m_tokenWorth
def sp_X6_says_22 (u1 : Int32) (u2 : Int32) (u3 : Int32) (m_rule : Int32) (m_n : Int32) (m_lasts : Int32) (m_year : Int32) (m_texts : Nat → Int32) (m_textSize : Nat → Int32) (m_parents : Nat → Int32) : Nat → Int32 → Int32 → Int32 → Int32 → Int32 → Int32 → Int32 → Int32 → Int32 → Int32 → Int32 → Int32 → Int32 → Int32 → Int32 → Int64 → Option (Int32 × Int32 × Int32 × Int32 × Int32 × Int32 × Int32 × Int32 × Int32 × Int32 × Int32 × Int32 × Int32 × Int32 × Int32 × Int64)
  | 0, _, _, _, _, _, _, _, _, _, _, _, _, _, _, _, _ => none
  | n + 1, u4, m_ofNode, m_ofDepth, m_ofKids, m_ofTwigs, m_ofLast, m_ofYear, m_from, m_size, m_here, m_token, m_tokenAt, m_open, m_bad, m_fault, m_tokenWorth =>
    if u4 ≤ 0 then
      (sp_X6_kidsOf u2 u3 m_n m_parents).bind fun r2 =>
      sp_X6_says_67 u1 u2 u3 m_rule m_n m_lasts m_year m_texts m_textSize m_parents 5000 u2 m_ofNode m_ofDepth r2 0 m_ofLast m_ofYear m_from m_size m_here m_token m_tokenAt m_open m_bad m_fault m_tokenWorth
    else
      (xo_at m_parents 12 u4).bind fun v6 =>
      sp_X6_says_22 u1 u2 u3 m_rule m_n m_lasts m_year m_texts m_textSize m_parents n v6 m_ofNode (m_ofDepth + 1) m_ofKids m_ofTwigs m_ofLast m_ofYear m_from m_size m_here m_token m_tokenAt m_open m_bad m_fault m_tokenWorth
def sp_X6_says (p1 : Int32) (p2 : Int32) (m_rule : Int32) (m_n : Int32) (m_lasts : Int32) (m_cutNow : Int32) (m_year : Int32) (m_ofNode : Int32) (m_ofDepth : Int32) (m_ofKids : Int32) (m_ofTwigs : Int32) (m_ofLast : Int32) (m_ofYear : Int32) (m_from : Int32) (m_size : Int32) (m_here : Int32) (m_token : Int32) (m_tokenAt : Int32) (m_open : Int32) (m_bad : Int32) (m_fault : Int32) (m_tokenWorth : Int64) (m_texts : Nat → Int32) (m_textSize : Nat → Int32) (m_parents : Nat → Int32) : Option (Int32 × Int32 × Int32 × Int32 × Int32 × Int32 × Int32 × Int32 × Int32 × Int32 × Int32 × Int32 × Int32 × Int32 × Int32 × Int64) :=
  (sp_X6_standing m_cutNow m_n m_parents).bind fun r1 =>
  sp_X6_says_22 p1 p2 r1 m_rule m_n m_lasts m_year m_texts m_textSize m_parents 5000 p2 p2 0 m_ofKids m_ofTwigs m_ofLast m_ofYear m_from m_size m_here m_token m_tokenAt m_open m_bad m_fault m_tokenWorth
def sp_X6_asks (p1 : Int32) (p2 : Int32) (m_rule : Int32) (m_n : Int32) (m_lasts : Int32) (m_cutNow : Int32) (m_year : Int32) (m_ofNode : Int32) (m_ofDepth : Int32) (m_ofKids : Int32) (m_ofTwigs : Int32) (m_ofLast : Int32) (m_ofYear : Int32) (m_from : Int32) (m_size : Int32) (m_here : Int32) (m_token : Int32) (m_tokenAt : Int32) (m_open : Int32) (m_bad : Int32) (m_fault : Int32) (m_tokenWorth : Int64) (m_texts : Nat → Int32) (m_textSize : Nat → Int32) (m_parents : Nat → Int32) : Option (Int32 × Int32 × Int32 × Int32 × Int32 × Int32 × Int32 × Int32 × Int32 × Int32 × Int32 × Int32 × Int32 × Int32 × Int32 × Int64) :=
  (sp_X6_isNode p1 m_n).bind fun r1 =>
  if r1 = 0 then
    some ((-2), m_ofNode, m_ofDepth, m_ofKids, m_ofTwigs, m_ofLast, m_ofYear, m_from, m_size, m_here, m_token, m_tokenAt, m_open, m_bad, m_fault, m_tokenWorth)
  else
    if (sp_X6_in (Int32.toInt64 p2) 0 2) = 0 then
      some ((-2), m_ofNode, m_ofDepth, m_ofKids, m_ofTwigs, m_ofLast, m_ofYear, m_from, m_size, m_here, m_token, m_tokenAt, m_open, m_bad, m_fault, m_tokenWorth)
    else
      (sp_X6_standing m_cutNow m_n m_parents).bind fun r2 =>
      if ((xi_shr r2 p1) &&& 1) = 0 then
        some ((-3), m_ofNode, m_ofDepth, m_ofKids, m_ofTwigs, m_ofLast, m_ofYear, m_from, m_size, m_here, m_token, m_tokenAt, m_open, m_bad, m_fault, m_tokenWorth)
      else
        (sp_X6_says p2 p1 m_rule m_n m_lasts m_cutNow m_year m_ofNode m_ofDepth m_ofKids m_ofTwigs m_ofLast m_ofYear m_from m_size m_here m_token m_tokenAt m_open m_bad m_fault m_tokenWorth m_texts m_textSize m_parents).bind fun r3 =>
        some (r3.1, r3.2.1, r3.2.2.1, r3.2.2.2.1, r3.2.2.2.2.1, r3.2.2.2.2.2.1, r3.2.2.2.2.2.2.1, r3.2.2.2.2.2.2.2.1, r3.2.2.2.2.2.2.2.2.1, r3.2.2.2.2.2.2.2.2.2.1, r3.2.2.2.2.2.2.2.2.2.2.1, r3.2.2.2.2.2.2.2.2.2.2.2.1, r3.2.2.2.2.2.2.2.2.2.2.2.2.1, r3.2.2.2.2.2.2.2.2.2.2.2.2.2.1, r3.2.2.2.2.2.2.2.2.2.2.2.2.2.2.1, r3.2.2.2.2.2.2.2.2.2.2.2.2.2.2.2)
def sp_X6_gathers_2 (u1 : Int32) (u2 : Int32) (m_rule : Int32) (m_n : Int32) (m_lasts : Int32) (m_cutNow : Int32) (m_year : Int32) (m_texts : Nat → Int32) (m_textSize : Nat → Int32) (m_parents : Nat → Int32) : Nat → Int32 → Int32 → Int32 → Int32 → Int32 → Int32 → Int32 → Int32 → Int32 → Int32 → Int32 → Int32 → Int32 → Int32 → Int32 → Int64 → (Nat → Int32) → Option (Int32 × Int32 × Int32 × Int32 × Int32 × Int32 × Int32 × Int32 × Int32 × Int32 × Int32 × Int32 × Int32 × Int32 × Int64 × (Nat → Int32))
  | 0, _, _, _, _, _, _, _, _, _, _, _, _, _, _, _, _, _ => none
  | n + 1, u3, m_ofNode, m_ofDepth, m_ofKids, m_ofTwigs, m_ofLast, m_ofYear, m_from, m_size, m_here, m_token, m_tokenAt, m_open, m_bad, m_fault, m_tokenWorth, m_prices =>
    if m_n ≤ u3 then
      some (m_ofNode, m_ofDepth, m_ofKids, m_ofTwigs, m_ofLast, m_ofYear, m_from, m_size, m_here, m_token, m_tokenAt, m_open, m_bad, m_fault, m_tokenWorth, m_prices)
    else
      if ((xi_shr u2 u3) &&& 1) = 1 then
        (sp_X6_says u1 u3 m_rule m_n m_lasts m_cutNow m_year m_ofNode m_ofDepth m_ofKids m_ofTwigs m_ofLast m_ofYear m_from m_size m_here m_token m_tokenAt m_open m_bad m_fault m_tokenWorth m_texts m_textSize m_parents).bind fun r2 =>
        (xo_set m_prices 12 u3 r2.1).bind fun f3 =>
        sp_X6_gathers_2 u1 u2 m_rule m_n m_lasts m_cutNow m_year m_texts m_textSize m_parents n (u3 + 1) r2.2.1 r2.2.2.1 r2.2.2.2.1 r2.2.2.2.2.1 r2.2.2.2.2.2.1 r2.2.2.2.2.2.2.1 r2.2.2.2.2.2.2.2.1 r2.2.2.2.2.2.2.2.2.1 r2.2.2.2.2.2.2.2.2.2.1 r2.2.2.2.2.2.2.2.2.2.2.1 r2.2.2.2.2.2.2.2.2.2.2.2.1 r2.2.2.2.2.2.2.2.2.2.2.2.2.1 r2.2.2.2.2.2.2.2.2.2.2.2.2.2.1 r2.2.2.2.2.2.2.2.2.2.2.2.2.2.2.1 r2.2.2.2.2.2.2.2.2.2.2.2.2.2.2.2 f3
      else
        (xo_set m_prices 12 u3 0).bind fun f1 =>
        sp_X6_gathers_2 u1 u2 m_rule m_n m_lasts m_cutNow m_year m_texts m_textSize m_parents n (u3 + 1) m_ofNode m_ofDepth m_ofKids m_ofTwigs m_ofLast m_ofYear m_from m_size m_here m_token m_tokenAt m_open m_bad m_fault m_tokenWorth f1
def sp_X6_gathers (p1 : Int32) (p2 : Int32) (m_rule : Int32) (m_n : Int32) (m_lasts : Int32) (m_cutNow : Int32) (m_year : Int32) (m_ofNode : Int32) (m_ofDepth : Int32) (m_ofKids : Int32) (m_ofTwigs : Int32) (m_ofLast : Int32) (m_ofYear : Int32) (m_from : Int32) (m_size : Int32) (m_here : Int32) (m_token : Int32) (m_tokenAt : Int32) (m_open : Int32) (m_bad : Int32) (m_fault : Int32) (m_tokenWorth : Int64) (m_texts : Nat → Int32) (m_textSize : Nat → Int32) (m_parents : Nat → Int32) (m_prices : Nat → Int32) : Option (Int32 × Int32 × Int32 × Int32 × Int32 × Int32 × Int32 × Int32 × Int32 × Int32 × Int32 × Int32 × Int32 × Int32 × Int64 × (Nat → Int32)) :=
  sp_X6_gathers_2 p1 p2 m_rule m_n m_lasts m_cutNow m_year m_texts m_textSize m_parents 5000 0 m_ofNode m_ofDepth m_ofKids m_ofTwigs m_ofLast m_ofYear m_from m_size m_here m_token m_tokenAt m_open m_bad m_fault m_tokenWorth m_prices
def sp_X6_priceOf_4 (u1 : Int32) (m_n : Int32) (m_prices : Nat → Int32) : Nat → Int32 → Int32 → Option (Int32)
  | 0, _, _ => none
  | n + 1, u2, u3 =>
    if m_n ≤ u3 then
      some u2
    else
      (xo_at m_prices 12 u3).bind fun v1 =>
      sp_X6_priceOf_4 u1 m_n m_prices n (u2 + (((xi_shr u1 u3) &&& 1) * v1)) (u3 + 1)
def sp_X6_priceOf (p1 : Int32) (m_n : Int32) (m_prices : Nat → Int32) : Option (Int32) :=
  sp_X6_priceOf_4 p1 m_n m_prices 5000 0 0
def sp_X6_minds_62 (u1 : Int32) (u2 : Int32) (u3 : Int32) (u4 : Int32) (m_n : Int32) (m_minds : Int32) (m_lasts : Int32) (m_cutNow : Int32) (m_parents : Nat → Int32) (m_kinds : Nat → Int32) (m_numbers : Nat → Int32) : Nat → Int32 → Int32 → Int32 → Int32 → Int32 → Int32 → Int32 → Int32 → Int32 → Int32 → Int32 → Int32 → Int32 → Int32 → Int32 → Int32 → Int64 → (Nat → Int32) → (Nat → Int32) → (Nat → Int32) → Option (Int32 × Int32 × Int32 × Int32 × Int32 × Int32 × Int32 × Int32 × Int32 × Int32 × Int32 × Int32 × Int32 × Int32 × Int32 × Int64 × (Nat → Int32) × (Nat → Int32) × (Nat → Int32))
  | 0, _, _, _, _, _, _, _, _, _, _, _, _, _, _, _, _, _, _, _, _ => none
  | n + 1, u5, u6, m_ofNode, m_ofDepth, m_ofKids, m_ofTwigs, m_ofLast, m_ofYear, m_from, m_size, m_here, m_token, m_tokenAt, m_open, m_bad, m_fault, m_tokenWorth, m_yes, m_no, m_prices =>
    if (xi_shl 1 m_n) ≤ u6 then
      if u5 = (-1) then
        some (u5, m_ofNode, m_ofDepth, m_ofKids, m_ofTwigs, m_ofLast, m_ofYear, m_from, m_size, m_here, m_token, m_tokenAt, m_open, m_bad, m_fault, m_tokenWorth, m_yes, m_no, m_prices)
      else
        if u3 = 0 then
          some (u5, m_ofNode, m_ofDepth, m_ofKids, m_ofTwigs, m_ofLast, m_ofYear, m_from, m_size, m_here, m_token, m_tokenAt, m_open, m_bad, m_fault, m_tokenWorth, m_yes, m_no, m_prices)
        else
          if u3 = 1 then
            (sp_X6_bitsOf u5).bind fun r5 =>
            some (r5, m_ofNode, m_ofDepth, m_ofKids, m_ofTwigs, m_ofLast, m_ofYear, m_from, m_size, m_here, m_token, m_tokenAt, m_open, m_bad, m_fault, m_tokenWorth, m_yes, m_no, m_prices)
          else
            (sp_X6_priceOf u5 m_n m_prices).bind fun r4 =>
            some (r4, m_ofNode, m_ofDepth, m_ofKids, m_ofTwigs, m_ofLast, m_ofYear, m_from, m_size, m_here, m_token, m_tokenAt, m_open, m_bad, m_fault, m_tokenWorth, m_yes, m_no, m_prices)
    else
      if (u6 &&& (u4 ^^^ (-1))) = 0 then
        (sp_X6_lawOf m_cutNow (m_minds ^^^ u6) m_n m_lasts m_parents m_kinds m_numbers m_yes m_no).bind fun r6 =>
        if r6.1 = u1 then
          if u5 = (-1) then
            sp_X6_minds_62 u1 u2 u3 u4 m_n m_minds m_lasts m_cutNow m_parents m_kinds m_numbers n u6 (u6 + 1) m_ofNode m_ofDepth m_ofKids m_ofTwigs m_ofLast m_ofYear m_from m_size m_here m_token m_tokenAt m_open m_bad m_fault m_tokenWorth r6.2.1 r6.2.2 m_prices
          else
            if u2 = 0 then
              (sp_X6_bitsOf u6).bind fun r9 =>
              (sp_X6_bitsOf u5).bind fun r10 =>
              if r10 ≤ r9 then
                sp_X6_minds_62 u1 u2 u3 u4 m_n m_minds m_lasts m_cutNow m_parents m_kinds m_numbers n u5 (u6 + 1) m_ofNode m_ofDepth m_ofKids m_ofTwigs m_ofLast m_ofYear m_from m_size m_here m_token m_tokenAt m_open m_bad m_fault m_tokenWorth r6.2.1 r6.2.2 m_prices
              else
                sp_X6_minds_62 u1 u2 u3 u4 m_n m_minds m_lasts m_cutNow m_parents m_kinds m_numbers n u6 (u6 + 1) m_ofNode m_ofDepth m_ofKids m_ofTwigs m_ofLast m_ofYear m_from m_size m_here m_token m_tokenAt m_open m_bad m_fault m_tokenWorth r6.2.1 r6.2.2 m_prices
            else
              (sp_X6_priceOf u6 m_n m_prices).bind fun r7 =>
              (sp_X6_priceOf u5 m_n m_prices).bind fun r8 =>
              if r8 ≤ r7 then
                sp_X6_minds_62 u1 u2 u3 u4 m_n m_minds m_lasts m_cutNow m_parents m_kinds m_numbers n u5 (u6 + 1) m_ofNode m_ofDepth m_ofKids m_ofTwigs m_ofLast m_ofYear m_from m_size m_here m_token m_tokenAt m_open m_bad m_fault m_tokenWorth r6.2.1 r6.2.2 m_prices
              else
                sp_X6_minds_62 u1 u2 u3 u4 m_n m_minds m_lasts m_cutNow m_parents m_kinds m_numbers n u6 (u6 + 1) m_ofNode m_ofDepth m_ofKids m_ofTwigs m_ofLast m_ofYear m_from m_size m_here m_token m_tokenAt m_open m_bad m_fault m_tokenWorth r6.2.1 r6.2.2 m_prices
        else
          sp_X6_minds_62 u1 u2 u3 u4 m_n m_minds m_lasts m_cutNow m_parents m_kinds m_numbers n u5 (u6 + 1) m_ofNode m_ofDepth m_ofKids m_ofTwigs m_ofLast m_ofYear m_from m_size m_here m_token m_tokenAt m_open m_bad m_fault m_tokenWorth r6.2.1 r6.2.2 m_prices
      else
        sp_X6_minds_62 u1 u2 u3 u4 m_n m_minds m_lasts m_cutNow m_parents m_kinds m_numbers n u5 (u6 + 1) m_ofNode m_ofDepth m_ofKids m_ofTwigs m_ofLast m_ofYear m_from m_size m_here m_token m_tokenAt m_open m_bad m_fault m_tokenWorth m_yes m_no m_prices
def sp_X6_minds (p1 : Int32) (p2 : Int32) (p3 : Int32) (m_rule : Int32) (m_n : Int32) (m_minds : Int32) (m_lasts : Int32) (m_cutNow : Int32) (m_year : Int32) (m_ofNode : Int32) (m_ofDepth : Int32) (m_ofKids : Int32) (m_ofTwigs : Int32) (m_ofLast : Int32) (m_ofYear : Int32) (m_from : Int32) (m_size : Int32) (m_here : Int32) (m_token : Int32) (m_tokenAt : Int32) (m_open : Int32) (m_bad : Int32) (m_fault : Int32) (m_tokenWorth : Int64) (m_texts : Nat → Int32) (m_textSize : Nat → Int32) (m_parents : Nat → Int32) (m_kinds : Nat → Int32) (m_numbers : Nat → Int32) (m_yes : Nat → Int32) (m_no : Nat → Int32) (m_prices : Nat → Int32) : Option (Int32 × Int32 × Int32 × Int32 × Int32 × Int32 × Int32 × Int32 × Int32 × Int32 × Int32 × Int32 × Int32 × Int32 × Int32 × Int64 × (Nat → Int32) × (Nat → Int32) × (Nat → Int32)) :=
  if (sp_X6_in (Int32.toInt64 p1) 0 1) = 0 then
    some ((-2), m_ofNode, m_ofDepth, m_ofKids, m_ofTwigs, m_ofLast, m_ofYear, m_from, m_size, m_here, m_token, m_tokenAt, m_open, m_bad, m_fault, m_tokenWorth, m_yes, m_no, m_prices)
  else
    if (sp_X6_in (Int32.toInt64 p2) 0 1) = 0 then
      some ((-2), m_ofNode, m_ofDepth, m_ofKids, m_ofTwigs, m_ofLast, m_ofYear, m_from, m_size, m_here, m_token, m_tokenAt, m_open, m_bad, m_fault, m_tokenWorth, m_yes, m_no, m_prices)
    else
      if (sp_X6_in (Int32.toInt64 p3) 0 2) = 0 then
        some ((-2), m_ofNode, m_ofDepth, m_ofKids, m_ofTwigs, m_ofLast, m_ofYear, m_from, m_size, m_here, m_token, m_tokenAt, m_open, m_bad, m_fault, m_tokenWorth, m_yes, m_no, m_prices)
      else
        (sp_X6_standing m_cutNow m_n m_parents).bind fun r1 =>
        (sp_X6_twigs r1 m_n m_parents).bind fun r2 =>
        (sp_X6_gathers 2 r2 m_rule m_n m_lasts m_cutNow m_year m_ofNode m_ofDepth m_ofKids m_ofTwigs m_ofLast m_ofYear m_from m_size m_here m_token m_tokenAt m_open m_bad m_fault m_tokenWorth m_texts m_textSize m_parents m_prices).bind fun r3 =>
        sp_X6_minds_62 p1 p2 p3 r2 m_n m_minds m_lasts m_cutNow m_parents m_kinds m_numbers 5000 (-1) 0 r3.1 r3.2.1 r3.2.2.1 r3.2.2.2.1 r3.2.2.2.2.1 r3.2.2.2.2.2.1 r3.2.2.2.2.2.2.1 r3.2.2.2.2.2.2.2.1 r3.2.2.2.2.2.2.2.2.1 r3.2.2.2.2.2.2.2.2.2.1 r3.2.2.2.2.2.2.2.2.2.2.1 r3.2.2.2.2.2.2.2.2.2.2.2.1 r3.2.2.2.2.2.2.2.2.2.2.2.2.1 r3.2.2.2.2.2.2.2.2.2.2.2.2.2.1 r3.2.2.2.2.2.2.2.2.2.2.2.2.2.2.1 m_yes m_no r3.2.2.2.2.2.2.2.2.2.2.2.2.2.2.2
def sp_X6_cuts_58 (u1 : Int32) (u2 : Int32) (u3 : Int32) (u4 : Int32) (m_n : Int32) (m_minds : Int32) (m_lasts : Int32) (m_cutNow : Int32) (m_parents : Nat → Int32) (m_kinds : Nat → Int32) (m_numbers : Nat → Int32) : Nat → Int32 → Int32 → Int32 → Int32 → Int32 → Int32 → Int32 → Int32 → Int32 → Int32 → Int32 → Int32 → Int32 → Int32 → Int32 → Int32 → Int64 → (Nat → Int32) → (Nat → Int32) → (Nat → Int32) → Option (Int32 × Int32 × Int32 × Int32 × Int32 × Int32 × Int32 × Int32 × Int32 × Int32 × Int32 × Int32 × Int32 × Int32 × Int32 × Int64 × (Nat → Int32) × (Nat → Int32) × (Nat → Int32))
  | 0, _, _, _, _, _, _, _, _, _, _, _, _, _, _, _, _, _, _, _, _ => none
  | n + 1, u5, u6, m_ofNode, m_ofDepth, m_ofKids, m_ofTwigs, m_ofLast, m_ofYear, m_from, m_size, m_here, m_token, m_tokenAt, m_open, m_bad, m_fault, m_tokenWorth, m_yes, m_no, m_prices =>
    if (xi_shl 1 m_n) ≤ u6 then
      if u5 = (-1) then
        some (u5, m_ofNode, m_ofDepth, m_ofKids, m_ofTwigs, m_ofLast, m_ofYear, m_from, m_size, m_here, m_token, m_tokenAt, m_open, m_bad, m_fault, m_tokenWorth, m_yes, m_no, m_prices)
      else
        if u3 = 0 then
          some (u5, m_ofNode, m_ofDepth, m_ofKids, m_ofTwigs, m_ofLast, m_ofYear, m_from, m_size, m_here, m_token, m_tokenAt, m_open, m_bad, m_fault, m_tokenWorth, m_yes, m_no, m_prices)
        else
          if u3 = 1 then
            (sp_X6_bitsOf u5).bind fun r4 =>
            some (r4, m_ofNode, m_ofDepth, m_ofKids, m_ofTwigs, m_ofLast, m_ofYear, m_from, m_size, m_here, m_token, m_tokenAt, m_open, m_bad, m_fault, m_tokenWorth, m_yes, m_no, m_prices)
          else
            (sp_X6_priceOf u5 m_n m_prices).bind fun r3 =>
            some (r3, m_ofNode, m_ofDepth, m_ofKids, m_ofTwigs, m_ofLast, m_ofYear, m_from, m_size, m_here, m_token, m_tokenAt, m_open, m_bad, m_fault, m_tokenWorth, m_yes, m_no, m_prices)
    else
      if (u6 &&& (u4 ^^^ (-1))) = 0 then
        (sp_X6_areApart u6 m_n m_parents).bind fun r5 =>
        if r5 = 0 then
          sp_X6_cuts_58 u1 u2 u3 u4 m_n m_minds m_lasts m_cutNow m_parents m_kinds m_numbers n u5 (u6 + 1) m_ofNode m_ofDepth m_ofKids m_ofTwigs m_ofLast m_ofYear m_from m_size m_here m_token m_tokenAt m_open m_bad m_fault m_tokenWorth m_yes m_no m_prices
        else
          (sp_X6_lawOf (m_cutNow ||| u6) m_minds m_n m_lasts m_parents m_kinds m_numbers m_yes m_no).bind fun r6 =>
          if r6.1 = u1 then
            if u5 = (-1) then
              sp_X6_cuts_58 u1 u2 u3 u4 m_n m_minds m_lasts m_cutNow m_parents m_kinds m_numbers n u6 (u6 + 1) m_ofNode m_ofDepth m_ofKids m_ofTwigs m_ofLast m_ofYear m_from m_size m_here m_token m_tokenAt m_open m_bad m_fault m_tokenWorth r6.2.1 r6.2.2 m_prices
            else
              if u2 = 0 then
                (sp_X6_bitsOf u6).bind fun r9 =>
                (sp_X6_bitsOf u5).bind fun r10 =>
                if r10 ≤ r9 then
                  sp_X6_cuts_58 u1 u2 u3 u4 m_n m_minds m_lasts m_cutNow m_parents m_kinds m_numbers n u5 (u6 + 1) m_ofNode m_ofDepth m_ofKids m_ofTwigs m_ofLast m_ofYear m_from m_size m_here m_token m_tokenAt m_open m_bad m_fault m_tokenWorth r6.2.1 r6.2.2 m_prices
                else
                  sp_X6_cuts_58 u1 u2 u3 u4 m_n m_minds m_lasts m_cutNow m_parents m_kinds m_numbers n u6 (u6 + 1) m_ofNode m_ofDepth m_ofKids m_ofTwigs m_ofLast m_ofYear m_from m_size m_here m_token m_tokenAt m_open m_bad m_fault m_tokenWorth r6.2.1 r6.2.2 m_prices
              else
                (sp_X6_priceOf u6 m_n m_prices).bind fun r7 =>
                (sp_X6_priceOf u5 m_n m_prices).bind fun r8 =>
                if r8 ≤ r7 then
                  sp_X6_cuts_58 u1 u2 u3 u4 m_n m_minds m_lasts m_cutNow m_parents m_kinds m_numbers n u5 (u6 + 1) m_ofNode m_ofDepth m_ofKids m_ofTwigs m_ofLast m_ofYear m_from m_size m_here m_token m_tokenAt m_open m_bad m_fault m_tokenWorth r6.2.1 r6.2.2 m_prices
                else
                  sp_X6_cuts_58 u1 u2 u3 u4 m_n m_minds m_lasts m_cutNow m_parents m_kinds m_numbers n u6 (u6 + 1) m_ofNode m_ofDepth m_ofKids m_ofTwigs m_ofLast m_ofYear m_from m_size m_here m_token m_tokenAt m_open m_bad m_fault m_tokenWorth r6.2.1 r6.2.2 m_prices
          else
            sp_X6_cuts_58 u1 u2 u3 u4 m_n m_minds m_lasts m_cutNow m_parents m_kinds m_numbers n u5 (u6 + 1) m_ofNode m_ofDepth m_ofKids m_ofTwigs m_ofLast m_ofYear m_from m_size m_here m_token m_tokenAt m_open m_bad m_fault m_tokenWorth r6.2.1 r6.2.2 m_prices
      else
        sp_X6_cuts_58 u1 u2 u3 u4 m_n m_minds m_lasts m_cutNow m_parents m_kinds m_numbers n u5 (u6 + 1) m_ofNode m_ofDepth m_ofKids m_ofTwigs m_ofLast m_ofYear m_from m_size m_here m_token m_tokenAt m_open m_bad m_fault m_tokenWorth m_yes m_no m_prices
def sp_X6_cuts (p1 : Int32) (p2 : Int32) (p3 : Int32) (m_rule : Int32) (m_n : Int32) (m_minds : Int32) (m_lasts : Int32) (m_cutNow : Int32) (m_year : Int32) (m_ofNode : Int32) (m_ofDepth : Int32) (m_ofKids : Int32) (m_ofTwigs : Int32) (m_ofLast : Int32) (m_ofYear : Int32) (m_from : Int32) (m_size : Int32) (m_here : Int32) (m_token : Int32) (m_tokenAt : Int32) (m_open : Int32) (m_bad : Int32) (m_fault : Int32) (m_tokenWorth : Int64) (m_texts : Nat → Int32) (m_textSize : Nat → Int32) (m_parents : Nat → Int32) (m_kinds : Nat → Int32) (m_numbers : Nat → Int32) (m_yes : Nat → Int32) (m_no : Nat → Int32) (m_prices : Nat → Int32) : Option (Int32 × Int32 × Int32 × Int32 × Int32 × Int32 × Int32 × Int32 × Int32 × Int32 × Int32 × Int32 × Int32 × Int32 × Int32 × Int64 × (Nat → Int32) × (Nat → Int32) × (Nat → Int32)) :=
  if (sp_X6_in (Int32.toInt64 p1) 0 1) = 0 then
    some ((-2), m_ofNode, m_ofDepth, m_ofKids, m_ofTwigs, m_ofLast, m_ofYear, m_from, m_size, m_here, m_token, m_tokenAt, m_open, m_bad, m_fault, m_tokenWorth, m_yes, m_no, m_prices)
  else
    if (sp_X6_in (Int32.toInt64 p2) 0 1) = 0 then
      some ((-2), m_ofNode, m_ofDepth, m_ofKids, m_ofTwigs, m_ofLast, m_ofYear, m_from, m_size, m_here, m_token, m_tokenAt, m_open, m_bad, m_fault, m_tokenWorth, m_yes, m_no, m_prices)
    else
      if (sp_X6_in (Int32.toInt64 p3) 0 2) = 0 then
        some ((-2), m_ofNode, m_ofDepth, m_ofKids, m_ofTwigs, m_ofLast, m_ofYear, m_from, m_size, m_here, m_token, m_tokenAt, m_open, m_bad, m_fault, m_tokenWorth, m_yes, m_no, m_prices)
      else
        (sp_X6_standing m_cutNow m_n m_parents).bind fun r1 =>
        (sp_X6_gathers 0 r1 m_rule m_n m_lasts m_cutNow m_year m_ofNode m_ofDepth m_ofKids m_ofTwigs m_ofLast m_ofYear m_from m_size m_here m_token m_tokenAt m_open m_bad m_fault m_tokenWorth m_texts m_textSize m_parents m_prices).bind fun r2 =>
        sp_X6_cuts_58 p1 p2 p3 r1 m_n m_minds m_lasts m_cutNow m_parents m_kinds m_numbers 5000 (-1) 0 r2.1 r2.2.1 r2.2.2.1 r2.2.2.2.1 r2.2.2.2.2.1 r2.2.2.2.2.2.1 r2.2.2.2.2.2.2.1 r2.2.2.2.2.2.2.2.1 r2.2.2.2.2.2.2.2.2.1 r2.2.2.2.2.2.2.2.2.2.1 r2.2.2.2.2.2.2.2.2.2.2.1 r2.2.2.2.2.2.2.2.2.2.2.2.1 r2.2.2.2.2.2.2.2.2.2.2.2.2.1 r2.2.2.2.2.2.2.2.2.2.2.2.2.2.1 r2.2.2.2.2.2.2.2.2.2.2.2.2.2.2.1 m_yes m_no r2.2.2.2.2.2.2.2.2.2.2.2.2.2.2.2
def sp_X6_boughs_13 (u1 : Int32) (m_n : Int32) (m_parents : Nat → Int32) : Nat → Int32 → Int32 → Option (Int32)
  | 0, _, _ => none
  | n + 1, u2, u3 =>
    if m_n ≤ u3 then
      some u2
    else
      (xo_at m_parents 12 u3).bind fun v2 =>
      if v2 = 0 then
        if ((xi_shr u1 u3) &&& 1) = 1 then
          sp_X6_boughs_13 u1 m_n m_parents n (u2 ||| (xi_shl 1 u3)) (u3 + 1)
        else
          sp_X6_boughs_13 u1 m_n m_parents n (u2 ||| (xi_shl 0 u3)) (u3 + 1)
      else
        sp_X6_boughs_13 u1 m_n m_parents n (u2 ||| (xi_shl 0 u3)) (u3 + 1)
def sp_X6_boughs (m_n : Int32) (m_cutNow : Int32) (m_parents : Nat → Int32) : Option (Int32) :=
  (sp_X6_standing m_cutNow m_n m_parents).bind fun r1 =>
  sp_X6_boughs_13 r1 m_n m_parents 5000 0 1
def sp_X6_allBy_68 (k : Int64 → Int32 → (Nat → Int32) → (Nat → Int32) → Option (Int64 × (Nat → Int32) × (Nat → Int32))) (u1 : Int32) (u2 : Int32) (u3 : Int32) (u4 : Int64) (u6 : Int32) (m_n : Int32) (m_lasts : Int32) (m_cutNow : Int32) (m_parents : Nat → Int32) (m_kinds : Nat → Int32) (m_numbers : Nat → Int32) (m_prices : Nat → Int32) : Nat → Int64 → Int32 → (Nat → Int32) → (Nat → Int32) → Option (Int64 × (Nat → Int32) × (Nat → Int32))
  | 0, _, _, _, _ => none
  | n + 1, u7, u9, m_yes, m_no =>
    if m_n ≤ u9 then
      k u7 u9 m_yes m_no
    else
      if ((xi_shr u1 u9) &&& 1) = 1 then
        if ((xi_shr u6 u9) &&& 1) = 1 then
          (xo_at m_prices 12 u9).bind fun v3 =>
          sp_X6_allBy_68 k u1 u2 u3 u4 u6 m_n m_lasts m_cutNow m_parents m_kinds m_numbers m_prices n (u7 * (Int32.toInt64 v3)) (u9 + 1) m_yes m_no
        else
          (xo_at m_prices 12 u9).bind fun v2 =>
          sp_X6_allBy_68 k u1 u2 u3 u4 u6 m_n m_lasts m_cutNow m_parents m_kinds m_numbers m_prices n (u7 * (Int32.toInt64 (100 - v2))) (u9 + 1) m_yes m_no
      else
        sp_X6_allBy_68 k u1 u2 u3 u4 u6 m_n m_lasts m_cutNow m_parents m_kinds m_numbers m_prices n u7 (u9 + 1) m_yes m_no
def sp_X6_allBy_6 (u1 : Int32) (u2 : Int32) (u3 : Int32) (m_n : Int32) (m_minds : Int32) (m_lasts : Int32) (m_cutNow : Int32) (m_parents : Nat → Int32) (m_kinds : Nat → Int32) (m_numbers : Nat → Int32) (m_prices : Nat → Int32) : Nat → Int64 → Int32 → (Nat → Int32) → (Nat → Int32) → Option (Int64 × (Nat → Int32) × (Nat → Int32))
  | 0, _, _, _, _ => none
  | n + 1, u4, u6, m_yes, m_no =>
    if (xi_shl 1 m_n) ≤ u6 then
      some (u4, m_yes, m_no)
    else
      if (u6 &&& (u1 ^^^ (-1))) = 0 then
        if u2 = 0 then
          (sp_X6_lawOf m_cutNow u6 m_n m_lasts m_parents m_kinds m_numbers m_yes m_no).bind fun r1 =>
          if r1.1 = u3 then
            sp_X6_allBy_68 (fun u7 u9 m_yes m_no =>
              sp_X6_allBy_6 u1 u2 u3 m_n m_minds m_lasts m_cutNow m_parents m_kinds m_numbers m_prices n (u4 + u7) (u6 + 1) m_yes m_no) u1 u2 u3 u4 u6 m_n m_lasts m_cutNow m_parents m_kinds m_numbers m_prices 5000 1 0 r1.2.1 r1.2.2
          else
            sp_X6_allBy_6 u1 u2 u3 m_n m_minds m_lasts m_cutNow m_parents m_kinds m_numbers m_prices n u4 (u6 + 1) r1.2.1 r1.2.2
        else
          (sp_X6_lawOf (m_cutNow ||| u6) m_minds m_n m_lasts m_parents m_kinds m_numbers m_yes m_no).bind fun r4 =>
          if r4.1 = u3 then
            sp_X6_allBy_68 (fun u7 u9 m_yes m_no =>
              sp_X6_allBy_6 u1 u2 u3 m_n m_minds m_lasts m_cutNow m_parents m_kinds m_numbers m_prices n (u4 + u7) (u6 + 1) m_yes m_no) u1 u2 u3 u4 u6 m_n m_lasts m_cutNow m_parents m_kinds m_numbers m_prices 5000 1 0 r4.2.1 r4.2.2
          else
            sp_X6_allBy_6 u1 u2 u3 m_n m_minds m_lasts m_cutNow m_parents m_kinds m_numbers m_prices n u4 (u6 + 1) r4.2.1 r4.2.2
      else
        sp_X6_allBy_6 u1 u2 u3 m_n m_minds m_lasts m_cutNow m_parents m_kinds m_numbers m_prices n u4 (u6 + 1) m_yes m_no
def sp_X6_allBy (p1 : Int32) (p2 : Int32) (p3 : Int32) (m_n : Int32) (m_minds : Int32) (m_lasts : Int32) (m_cutNow : Int32) (m_parents : Nat → Int32) (m_kinds : Nat → Int32) (m_numbers : Nat → Int32) (m_yes : Nat → Int32) (m_no : Nat → Int32) (m_prices : Nat → Int32) : Option (Int64 × (Nat → Int32) × (Nat → Int32)) :=
  sp_X6_allBy_6 p1 p2 p3 m_n m_minds m_lasts m_cutNow m_parents m_kinds m_numbers m_prices 5000 0 0 m_yes m_no
def sp_X6_hundreds_4 (u0 : Int32) : Nat → Int64 → Int32 → Option (Int64)
  | 0, _, _ => none
  | n + 1, u1, u3 =>
    if u0 ≤ u3 then
      some u1
    else
      sp_X6_hundreds_4 u0 n (u1 * 100) (u3 + 1)
def sp_X6_hundreds (p1 : Int32)  : Option (Int64) :=
  sp_X6_hundreds_4 p1 5000 1 0
def sp_X6_sure_70 (u1 : Int32) (u2 : Int32) (u3 : Int32) (m_n : Int32) (m_minds : Int32) (m_lasts : Int32) (m_cutNow : Int32) (m_parents : Nat → Int32) (m_kinds : Nat → Int32) (m_numbers : Nat → Int32) (m_odds : Nat → Int32) : Nat → Int32 → Int32 → Int32 → Int32 → Int32 → Int32 → Int32 → Int32 → Int32 → Int32 → Int32 → Int32 → Int32 → Int32 → Int32 → Int64 → (Nat → Int32) → (Nat → Int32) → (Nat → Int32) → Option (Int64 × Int32 × Int32 × Int32 × Int32 × Int32 × Int32 × Int32 × Int32 × Int32 × Int32 × Int32 × Int32 × Int32 × Int32 × Int64 × (Nat → Int32) × (Nat → Int32) × (Nat → Int32))
  | 0, _, _, _, _, _, _, _, _, _, _, _, _, _, _, _, _, _, _, _ => none
  | n + 1, u4, m_ofNode, m_ofDepth, m_ofKids, m_ofTwigs, m_ofLast, m_ofYear, m_from, m_size, m_here, m_token, m_tokenAt, m_open, m_bad, m_fault, m_tokenWorth, m_yes, m_no, m_prices =>
    if m_n ≤ u4 then
      if u1 = 1 then
        (sp_X6_allBy u3 1 1 m_n m_minds m_lasts m_cutNow m_parents m_kinds m_numbers m_yes m_no m_prices).bind fun r8 =>
        (sp_X6_bitsOf u3).bind fun r9 =>
        (sp_X6_hundreds r9).bind fun r10 =>
        (sp_X6_lowest r8.1 r10 u2).bind fun r11 =>
        some (r11, m_ofNode, m_ofDepth, m_ofKids, m_ofTwigs, m_ofLast, m_ofYear, m_from, m_size, m_here, m_token, m_tokenAt, m_open, m_bad, m_fault, m_tokenWorth, r8.2.1, r8.2.2, m_prices)
      else
        (sp_X6_allBy u3 0 1 m_n m_minds m_lasts m_cutNow m_parents m_kinds m_numbers m_yes m_no m_prices).bind fun r4 =>
        (sp_X6_bitsOf u3).bind fun r5 =>
        (sp_X6_hundreds r5).bind fun r6 =>
        (sp_X6_lowest r4.1 r6 u2).bind fun r7 =>
        some (r7, m_ofNode, m_ofDepth, m_ofKids, m_ofTwigs, m_ofLast, m_ofYear, m_from, m_size, m_here, m_token, m_tokenAt, m_open, m_bad, m_fault, m_tokenWorth, r4.2.1, r4.2.2, m_prices)
    else
      if u1 = 0 then
        (xo_at m_odds 12 u4).bind fun v20 =>
        (xo_set m_prices 12 u4 v20).bind fun f21 =>
        sp_X6_sure_70 u1 u2 u3 m_n m_minds m_lasts m_cutNow m_parents m_kinds m_numbers m_odds n (u4 + 1) m_ofNode m_ofDepth m_ofKids m_ofTwigs m_ofLast m_ofYear m_from m_size m_here m_token m_tokenAt m_open m_bad m_fault m_tokenWorth m_yes m_no f21
      else
        if u1 = 1 then
          (sp_X6_allBy u3 1 1 m_n m_minds m_lasts m_cutNow m_parents m_kinds m_numbers m_yes m_no m_prices).bind fun r16 =>
          (sp_X6_bitsOf u3).bind fun r17 =>
          (sp_X6_hundreds r17).bind fun r18 =>
          (sp_X6_lowest r16.1 r18 u2).bind fun r19 =>
          some (r19, m_ofNode, m_ofDepth, m_ofKids, m_ofTwigs, m_ofLast, m_ofYear, m_from, m_size, m_here, m_token, m_tokenAt, m_open, m_bad, m_fault, m_tokenWorth, r16.2.1, r16.2.2, m_prices)
        else
          (sp_X6_allBy u3 0 1 m_n m_minds m_lasts m_cutNow m_parents m_kinds m_numbers m_yes m_no m_prices).bind fun r12 =>
          (sp_X6_bitsOf u3).bind fun r13 =>
          (sp_X6_hundreds r13).bind fun r14 =>
          (sp_X6_lowest r12.1 r14 u2).bind fun r15 =>
          some (r15, m_ofNode, m_ofDepth, m_ofKids, m_ofTwigs, m_ofLast, m_ofYear, m_from, m_size, m_here, m_token, m_tokenAt, m_open, m_bad, m_fault, m_tokenWorth, r12.2.1, r12.2.2, m_prices)
def sp_X6_sure (p1 : Int32) (p2 : Int32) (m_rule : Int32) (m_n : Int32) (m_minds : Int32) (m_lasts : Int32) (m_cutNow : Int32) (m_year : Int32) (m_ofNode : Int32) (m_ofDepth : Int32) (m_ofKids : Int32) (m_ofTwigs : Int32) (m_ofLast : Int32) (m_ofYear : Int32) (m_from : Int32) (m_size : Int32) (m_here : Int32) (m_token : Int32) (m_tokenAt : Int32) (m_open : Int32) (m_bad : Int32) (m_fault : Int32) (m_tokenWorth : Int64) (m_texts : Nat → Int32) (m_textSize : Nat → Int32) (m_parents : Nat → Int32) (m_kinds : Nat → Int32) (m_numbers : Nat → Int32) (m_odds : Nat → Int32) (m_yes : Nat → Int32) (m_no : Nat → Int32) (m_prices : Nat → Int32) : Option (Int64 × Int32 × Int32 × Int32 × Int32 × Int32 × Int32 × Int32 × Int32 × Int32 × Int32 × Int32 × Int32 × Int32 × Int32 × Int64 × (Nat → Int32) × (Nat → Int32) × (Nat → Int32)) :=
  if (sp_X6_in (Int32.toInt64 p1) 0 1) = 0 then
    some ((-4611686018427387904), m_ofNode, m_ofDepth, m_ofKids, m_ofTwigs, m_ofLast, m_ofYear, m_from, m_size, m_here, m_token, m_tokenAt, m_open, m_bad, m_fault, m_tokenWorth, m_yes, m_no, m_prices)
  else
    if (sp_X6_in (Int32.toInt64 p2) 0 1) = 0 then
      some ((-4611686018427387904), m_ofNode, m_ofDepth, m_ofKids, m_ofTwigs, m_ofLast, m_ofYear, m_from, m_size, m_here, m_token, m_tokenAt, m_open, m_bad, m_fault, m_tokenWorth, m_yes, m_no, m_prices)
    else
      if p1 = 0 then
        (sp_X6_standing m_cutNow m_n m_parents).bind fun r22 =>
        (sp_X6_twigs r22 m_n m_parents).bind fun r23 =>
        (sp_X6_bitsOf r23).bind fun r24 =>
        if r24 ≤ 8 then
          (sp_X6_gathers 1 r23 m_rule m_n m_lasts m_cutNow m_year m_ofNode m_ofDepth m_ofKids m_ofTwigs m_ofLast m_ofYear m_from m_size m_here m_token m_tokenAt m_open m_bad m_fault m_tokenWorth m_texts m_textSize m_parents m_prices).bind fun r25 =>
          sp_X6_sure_70 p1 p2 r23 m_n m_minds m_lasts m_cutNow m_parents m_kinds m_numbers m_odds 5000 0 r25.1 r25.2.1 r25.2.2.1 r25.2.2.2.1 r25.2.2.2.2.1 r25.2.2.2.2.2.1 r25.2.2.2.2.2.2.1 r25.2.2.2.2.2.2.2.1 r25.2.2.2.2.2.2.2.2.1 r25.2.2.2.2.2.2.2.2.2.1 r25.2.2.2.2.2.2.2.2.2.2.1 r25.2.2.2.2.2.2.2.2.2.2.2.1 r25.2.2.2.2.2.2.2.2.2.2.2.2.1 r25.2.2.2.2.2.2.2.2.2.2.2.2.2.1 r25.2.2.2.2.2.2.2.2.2.2.2.2.2.2.1 m_yes m_no r25.2.2.2.2.2.2.2.2.2.2.2.2.2.2.2
        else
          some ((-4611686018427387904), m_ofNode, m_ofDepth, m_ofKids, m_ofTwigs, m_ofLast, m_ofYear, m_from, m_size, m_here, m_token, m_tokenAt, m_open, m_bad, m_fault, m_tokenWorth, m_yes, m_no, m_prices)
      else
        (sp_X6_boughs m_n m_cutNow m_parents).bind fun r1 =>
        (sp_X6_bitsOf r1).bind fun r2 =>
        if r2 ≤ 8 then
          (sp_X6_gathers 1 r1 m_rule m_n m_lasts m_cutNow m_year m_ofNode m_ofDepth m_ofKids m_ofTwigs m_ofLast m_ofYear m_from m_size m_here m_token m_tokenAt m_open m_bad m_fault m_tokenWorth m_texts m_textSize m_parents m_prices).bind fun r3 =>
          sp_X6_sure_70 p1 p2 r1 m_n m_minds m_lasts m_cutNow m_parents m_kinds m_numbers m_odds 5000 0 r3.1 r3.2.1 r3.2.2.1 r3.2.2.2.1 r3.2.2.2.2.1 r3.2.2.2.2.2.1 r3.2.2.2.2.2.2.1 r3.2.2.2.2.2.2.2.1 r3.2.2.2.2.2.2.2.2.1 r3.2.2.2.2.2.2.2.2.2.1 r3.2.2.2.2.2.2.2.2.2.2.1 r3.2.2.2.2.2.2.2.2.2.2.2.1 r3.2.2.2.2.2.2.2.2.2.2.2.2.1 r3.2.2.2.2.2.2.2.2.2.2.2.2.2.1 r3.2.2.2.2.2.2.2.2.2.2.2.2.2.2.1 m_yes m_no r3.2.2.2.2.2.2.2.2.2.2.2.2.2.2.2
        else
          some ((-4611686018427387904), m_ofNode, m_ofDepth, m_ofKids, m_ofTwigs, m_ofLast, m_ofYear, m_from, m_size, m_here, m_token, m_tokenAt, m_open, m_bad, m_fault, m_tokenWorth, m_yes, m_no, m_prices)
def sp_X6_prop_36 (u1 : Int32) (u2 : Int32) (m_n : Int32) (m_minds : Int32) (m_lasts : Int32) (m_cutNow : Int32) (m_parents : Nat → Int32) (m_kinds : Nat → Int32) (m_numbers : Nat → Int32) : Nat → Int32 → Int64 → Int32 → Int32 → Int32 → Int32 → Int32 → Int32 → Int32 → Int32 → Int32 → Int32 → Int32 → Int32 → Int32 → Int32 → Int32 → Int64 → (Nat → Int32) → (Nat → Int32) → (Nat → Int32) → Option (Int32 × Int32 × Int32 × Int32 × Int32 × Int32 × Int32 × Int32 × Int32 × Int32 × Int32 × Int32 × Int32 × Int32 × Int32 × Int64 × (Nat → Int32) × (Nat → Int32) × (Nat → Int32))
  | 0, _, _, _, _, _, _, _, _, _, _, _, _, _, _, _, _, _, _, _, _, _ => none
  | n + 1, u3, u4, u6, m_ofNode, m_ofDepth, m_ofKids, m_ofTwigs, m_ofLast, m_ofYear, m_from, m_size, m_here, m_token, m_tokenAt, m_open, m_bad, m_fault, m_tokenWorth, m_yes, m_no, m_prices =>
    if m_n ≤ u6 then
      some (u3, m_ofNode, m_ofDepth, m_ofKids, m_ofTwigs, m_ofLast, m_ofYear, m_from, m_size, m_here, m_token, m_tokenAt, m_open, m_bad, m_fault, m_tokenWorth, m_yes, m_no, m_prices)
    else
      if ((xi_shr u1 u6) &&& 1) = 1 then
        (xo_at m_prices 12 u6).bind fun v5 =>
        (xo_set m_prices 12 u6 0).bind fun f6 =>
        (sp_X6_allBy u1 1 u2 m_n m_minds m_lasts m_cutNow m_parents m_kinds m_numbers m_yes m_no f6).bind fun r7 =>
        (xo_set f6 12 u6 v5).bind fun f8 =>
        if u3 = (-1) then
          sp_X6_prop_36 u1 u2 m_n m_minds m_lasts m_cutNow m_parents m_kinds m_numbers n u6 r7.1 (u6 + 1) m_ofNode m_ofDepth m_ofKids m_ofTwigs m_ofLast m_ofYear m_from m_size m_here m_token m_tokenAt m_open m_bad m_fault m_tokenWorth r7.2.1 r7.2.2 f8
        else
          if (lg_cmp r7.1 u4) ≤ 0 then
            sp_X6_prop_36 u1 u2 m_n m_minds m_lasts m_cutNow m_parents m_kinds m_numbers n u3 u4 (u6 + 1) m_ofNode m_ofDepth m_ofKids m_ofTwigs m_ofLast m_ofYear m_from m_size m_here m_token m_tokenAt m_open m_bad m_fault m_tokenWorth r7.2.1 r7.2.2 f8
          else
            sp_X6_prop_36 u1 u2 m_n m_minds m_lasts m_cutNow m_parents m_kinds m_numbers n u6 r7.1 (u6 + 1) m_ofNode m_ofDepth m_ofKids m_ofTwigs m_ofLast m_ofYear m_from m_size m_here m_token m_tokenAt m_open m_bad m_fault m_tokenWorth r7.2.1 r7.2.2 f8
      else
        sp_X6_prop_36 u1 u2 m_n m_minds m_lasts m_cutNow m_parents m_kinds m_numbers n u3 u4 (u6 + 1) m_ofNode m_ofDepth m_ofKids m_ofTwigs m_ofLast m_ofYear m_from m_size m_here m_token m_tokenAt m_open m_bad m_fault m_tokenWorth m_yes m_no m_prices
def sp_X6_prop (m_rule : Int32) (m_n : Int32) (m_minds : Int32) (m_lasts : Int32) (m_cutNow : Int32) (m_year : Int32) (m_ofNode : Int32) (m_ofDepth : Int32) (m_ofKids : Int32) (m_ofTwigs : Int32) (m_ofLast : Int32) (m_ofYear : Int32) (m_from : Int32) (m_size : Int32) (m_here : Int32) (m_token : Int32) (m_tokenAt : Int32) (m_open : Int32) (m_bad : Int32) (m_fault : Int32) (m_tokenWorth : Int64) (m_texts : Nat → Int32) (m_textSize : Nat → Int32) (m_parents : Nat → Int32) (m_kinds : Nat → Int32) (m_numbers : Nat → Int32) (m_yes : Nat → Int32) (m_no : Nat → Int32) (m_prices : Nat → Int32) : Option (Int32 × Int32 × Int32 × Int32 × Int32 × Int32 × Int32 × Int32 × Int32 × Int32 × Int32 × Int32 × Int32 × Int32 × Int32 × Int64 × (Nat → Int32) × (Nat → Int32) × (Nat → Int32)) :=
  (sp_X6_boughs m_n m_cutNow m_parents).bind fun r1 =>
  (sp_X6_bitsOf r1).bind fun r2 =>
  if r2 ≤ 8 then
    (sp_X6_gathers 1 r1 m_rule m_n m_lasts m_cutNow m_year m_ofNode m_ofDepth m_ofKids m_ofTwigs m_ofLast m_ofYear m_from m_size m_here m_token m_tokenAt m_open m_bad m_fault m_tokenWorth m_texts m_textSize m_parents m_prices).bind fun r3 =>
    (sp_X6_law m_n m_minds m_lasts m_cutNow m_parents m_kinds m_numbers m_yes m_no).bind fun r4 =>
    sp_X6_prop_36 r1 r4.1 m_n m_minds m_lasts m_cutNow m_parents m_kinds m_numbers 5000 (-1) 0 1 r3.1 r3.2.1 r3.2.2.1 r3.2.2.2.1 r3.2.2.2.2.1 r3.2.2.2.2.2.1 r3.2.2.2.2.2.2.1 r3.2.2.2.2.2.2.2.1 r3.2.2.2.2.2.2.2.2.1 r3.2.2.2.2.2.2.2.2.2.1 r3.2.2.2.2.2.2.2.2.2.2.1 r3.2.2.2.2.2.2.2.2.2.2.2.1 r3.2.2.2.2.2.2.2.2.2.2.2.2.1 r3.2.2.2.2.2.2.2.2.2.2.2.2.2.1 r3.2.2.2.2.2.2.2.2.2.2.2.2.2.2.1 r4.2.1 r4.2.2 r3.2.2.2.2.2.2.2.2.2.2.2.2.2.2.2
  else
    some ((-3), m_ofNode, m_ofDepth, m_ofKids, m_ofTwigs, m_ofLast, m_ofYear, m_from, m_size, m_here, m_token, m_tokenAt, m_open, m_bad, m_fault, m_tokenWorth, m_yes, m_no, m_prices)
set_option maxRecDepth 4000 in
theorem t_X6_byteAt {o : Int32} {p1 : Int32} (hm : sp_X6_byteAt p1 m_from m_size m_texts = some o) : xt_M yX6_byteAt cX6_byteAt 2 (some .int) (d + 0) [.ref 0, .int p1] (WM m_thrown m_textCount m_rule m_taped m_n m_minds m_lasts m_cutNow m_year m_ofNode m_ofDepth m_ofKids m_ofTwigs m_ofLast m_ofYear m_from m_size m_here m_token m_tokenAt m_open m_bad m_fault m_nKept m_mindsKept m_lastsKept m_cutKept m_yearKept m_ruleKept m_tokenWorth m_texts m_textSize m_tape m_parents m_kinds m_numbers m_odds m_yes m_no m_prices m_numbersKept m_oddsKept m_isThere m_sorts m_sheetSize m_items) (xt_Ki o (WM m_thrown m_textCount m_rule m_taped m_n m_minds m_lasts m_cutNow m_year m_ofNode m_ofDepth m_ofKids m_ofTwigs m_ofLast m_ofYear m_from m_size m_here m_token m_tokenAt m_open m_bad m_fault m_nKept m_mindsKept m_lastsKept m_cutKept m_yearKept m_ruleKept m_tokenWorth m_texts m_textSize m_tape m_parents m_kinds m_numbers m_odds m_yes m_no m_prices m_numbersKept m_oddsKept m_isThere m_sorts m_sheetSize m_items)) := by
  unfold sp_X6_byteAt at hm
  refine xt_M.go (own := RX6) (lv := [some (.ref 0), some (.int p1)]) rfl rfl (Nat.le_of_ble_eq_true rfl) rfl ?_
  refine x_iload1 eX6_byteAt_0 ?_
  refine x_aload0 eX6_byteAt_1 ?_
  refine x_get eX6_byteAt_2 fX6_137 rfl rfl ?_
  refine x_icmp_ge eX6_byteAt_5 (fun c => ?_) (fun c => ?_)
  · rw [if_pos c] at hm
    refine x_k eX6_byteAt_22 ?_
    obtain rfl := Option.some.inj hm
    exact x_iret eX6_byteAt_23 ⟨rfl, rfl⟩
  · rw [if_neg c] at hm
    refine x_aload0 eX6_byteAt_8 ?_
    refine x_get eX6_byteAt_9 fX6_13 rfl rfl ?_
    refine x_aload0 eX6_byteAt_12 ?_
    refine x_get eX6_byteAt_13 fX6_140 rfl rfl ?_
    refine x_iload1 eX6_byteAt_16 ?_
    refine x_iadd eX6_byteAt_17 ?_
    obtain ⟨v1, hv, hm⟩ := xo_bind hm
    obtain ⟨hi, rfl⟩ := xo_at_some hv
    refine x_iaload eX6_byteAt_18 rfl hi ?_
    refine x_goto eX6_byteAt_19 ?_
    obtain rfl := Option.some.inj hm
    exact x_iret eX6_byteAt_23 ⟨rfl, rfl⟩
set_option maxRecDepth 4000 in
theorem l_X6_next_160 {o : Int32 × Int32 × Int32 × Int64} {m_from : Int32} {m_size : Int32} {m_texts : Nat → Int32} {u1 : Int32} : ∀ (n : Nat) {u2 : Int32} {m_here : Int32} {m_token : Int32} {m_tokenAt : Int32} {m_tokenWorth : Int64}, sp_X6_next_160 m_from m_size m_texts n u2 m_here m_token m_tokenAt m_tokenWorth = some o → xt_T RX6 cX6_next 3 none (d + 1) (xt_Kv (WM m_thrown m_textCount m_rule m_taped m_n m_minds m_lasts m_cutNow m_year m_ofNode m_ofDepth m_ofKids m_ofTwigs m_ofLast m_ofYear m_from m_size o.1 o.2.1 o.2.2.1 m_open m_bad m_fault m_nKept m_mindsKept m_lastsKept m_cutKept m_yearKept m_ruleKept o.2.2.2 m_texts m_textSize m_tape m_parents m_kinds m_numbers m_odds m_yes m_no m_prices m_numbersKept m_oddsKept m_isThere m_sorts m_sheetSize m_items)) 160 [some (.ref 0), some (.int u1), some (.int u2)] [] (WM m_thrown m_textCount m_rule m_taped m_n m_minds m_lasts m_cutNow m_year m_ofNode m_ofDepth m_ofKids m_ofTwigs m_ofLast m_ofYear m_from m_size m_here m_token m_tokenAt m_open m_bad m_fault m_nKept m_mindsKept m_lastsKept m_cutKept m_yearKept m_ruleKept m_tokenWorth m_texts m_textSize m_tape m_parents m_kinds m_numbers m_odds m_yes m_no m_prices m_numbersKept m_oddsKept m_isThere m_sorts m_sheetSize m_items) := by
  intro n
  induction n with
  | zero => intro u2 m_here m_token m_tokenAt m_tokenWorth hm; rw [sp_X6_next_160] at hm; cases hm
  | succ n ih =>
    intro u2 m_here m_token m_tokenAt m_tokenWorth hm
    rw [sp_X6_next_160] at hm
    refine x_aload0 eX6_next_160 ?_
    refine x_aload0 eX6_next_161 ?_
    refine x_get eX6_next_162 fX6_143 rfl rfl ?_
    obtain ⟨r4, hr, hm⟩ := xo_bind hm
    refine x_Vi1 eX6_next_165 kX6_byteAt mX6_146 (t_X6_byteAt hr) rfl (Nat.le_of_ble_eq_true rfl) ?_
    refine x_i2l eX6_next_168 ?_
    refine x_ldc2 eX6_next_169 cX6_159 ?_
    refine x_ldc2 eX6_next_172 cX6_161 ?_
    refine x_Si3 eX6_next_175 kX6_in mX6_76 (t_X6_in rfl) (Nat.le_of_ble_eq_true rfl) ?_
    refine x_if_eq eX6_next_178 (fun c => ?_) (fun c => ?_)
    · rw [if_pos c] at hm
      refine x_aload0 eX6_next_235 ?_
      refine x_iload2 eX6_next_236 ?_
      refine x_k eX6_next_237 ?_
      refine x_icmp_le eX6_next_238 (fun c => ?_) (fun c => ?_)
      · rw [if_pos c] at hm
        refine x_k eX6_next_245 ?_
        refine x_puti (w' := WM _ _ _ _ _ _ _ _ _ _ _ _ _ _ _ _ _ _ _ _ _ _ _ _ _ _ _ _ _ _ _ _ _ _ _ _ _ _ _ _ _ _ _ _ _ _) eX6_next_246 pX6_152 rfl (Nat.le_of_ble_eq_true rfl) rfl ?_
        refine x_goto eX6_next_249 ?_
        obtain rfl := Option.some.inj hm
        exact x_vret eX6_next_321 ⟨rfl, rfl⟩
      · rw [if_neg c] at hm
        refine x_k eX6_next_241 ?_
        refine x_goto eX6_next_242 ?_
        refine x_puti (w' := WM _ _ _ _ _ _ _ _ _ _ _ _ _ _ _ _ _ _ _ _ _ _ _ _ _ _ _ _ _ _ _ _ _ _ _ _ _ _ _ _ _ _ _ _ _ _) eX6_next_246 pX6_152 rfl (Nat.le_of_ble_eq_true rfl) rfl ?_
        refine x_goto eX6_next_249 ?_
        obtain rfl := Option.some.inj hm
        exact x_vret eX6_next_321 ⟨rfl, rfl⟩
    · rw [if_neg c] at hm
      refine x_aload0 eX6_next_181 ?_
      refine x_iload2 eX6_next_182 ?_
      refine x_k eX6_next_183 ?_
      refine x_icmp_ge eX6_next_184 (fun c => ?_) (fun c => ?_)
      · rw [if_pos c] at hm
        refine x_aload0 eX6_next_212 ?_
        refine x_get eX6_next_213 fX6_163 rfl rfl ?_
        refine x_putl (w' := WM _ _ _ _ _ _ _ _ _ _ _ _ _ _ _ _ _ _ _ _ _ _ _ _ _ _ _ _ _ _ _ _ _ _ _ _ _ _ _ _ _ _ _ _ _ _) eX6_next_216 pX6_163 rfl (Nat.le_of_ble_eq_true rfl) rfl ?_
        refine x_iinc2 eX6_next_219 rfl ?_
        refine x_aload0 eX6_next_222 ?_
        refine x_dup eX6_next_223 rfl ?_
        refine x_get eX6_next_224 fX6_143 rfl rfl ?_
        refine x_k eX6_next_227 ?_
        refine x_iadd eX6_next_228 ?_
        refine x_puti (w' := WM _ _ _ _ _ _ _ _ _ _ _ _ _ _ _ _ _ _ _ _ _ _ _ _ _ _ _ _ _ _ _ _ _ _ _ _ _ _ _ _ _ _ _ _ _ _) eX6_next_229 pX6_143 rfl (Nat.le_of_ble_eq_true rfl) rfl ?_
        refine x_goto eX6_next_232 ?_
        exact ih hm
      · rw [if_neg c] at hm
        refine x_ldc2 eX6_next_187 cX6_167 ?_
        refine x_aload0 eX6_next_190 ?_
        refine x_get eX6_next_191 fX6_163 rfl rfl ?_
        refine x_lmul eX6_next_194 ?_
        refine x_aload0 eX6_next_195 ?_
        refine x_aload0 eX6_next_196 ?_
        refine x_get eX6_next_197 fX6_143 rfl rfl ?_
        obtain ⟨r5, hr, hm⟩ := xo_bind hm
        refine x_Vi1 eX6_next_200 kX6_byteAt mX6_146 (t_X6_byteAt hr) rfl (Nat.le_of_ble_eq_true rfl) ?_
        refine x_i2l eX6_next_203 ?_
        refine x_ladd eX6_next_204 ?_
        refine x_ldc2 eX6_next_205 cX6_159 ?_
        refine x_lsub eX6_next_208 ?_
        refine x_goto eX6_next_209 ?_
        refine x_putl (w' := WM _ _ _ _ _ _ _ _ _ _ _ _ _ _ _ _ _ _ _ _ _ _ _ _ _ _ _ _ _ _ _ _ _ _ _ _ _ _ _ _ _ _ _ _ _ _) eX6_next_216 pX6_163 rfl (Nat.le_of_ble_eq_true rfl) rfl ?_
        refine x_iinc2 eX6_next_219 rfl ?_
        refine x_aload0 eX6_next_222 ?_
        refine x_dup eX6_next_223 rfl ?_
        refine x_get eX6_next_224 fX6_143 rfl rfl ?_
        refine x_k eX6_next_227 ?_
        refine x_iadd eX6_next_228 ?_
        refine x_puti (w' := WM _ _ _ _ _ _ _ _ _ _ _ _ _ _ _ _ _ _ _ _ _ _ _ _ _ _ _ _ _ _ _ _ _ _ _ _ _ _ _ _ _ _ _ _ _ _) eX6_next_229 pX6_143 rfl (Nat.le_of_ble_eq_true rfl) rfl ?_
        refine x_goto eX6_next_232 ?_
        exact ih hm
set_option maxRecDepth 4000 in
theorem l_X6_next_100 {o : Int32 × Int32 × Int32 × Int64} {m_from : Int32} {m_size : Int32} {m_texts : Nat → Int32} {u1 : Int32} : ∀ (n : Nat) {m_here : Int32} {m_token : Int32} {m_tokenAt : Int32} {m_tokenWorth : Int64}, sp_X6_next_100 m_from m_size m_texts n m_here m_token m_tokenAt m_tokenWorth = some o → xt_T RX6 cX6_next 3 none (d + 1) (xt_Kv (WM m_thrown m_textCount m_rule m_taped m_n m_minds m_lasts m_cutNow m_year m_ofNode m_ofDepth m_ofKids m_ofTwigs m_ofLast m_ofYear m_from m_size o.1 o.2.1 o.2.2.1 m_open m_bad m_fault m_nKept m_mindsKept m_lastsKept m_cutKept m_yearKept m_ruleKept o.2.2.2 m_texts m_textSize m_tape m_parents m_kinds m_numbers m_odds m_yes m_no m_prices m_numbersKept m_oddsKept m_isThere m_sorts m_sheetSize m_items)) 100 [some (.ref 0), some (.int u1), none] [] (WM m_thrown m_textCount m_rule m_taped m_n m_minds m_lasts m_cutNow m_year m_ofNode m_ofDepth m_ofKids m_ofTwigs m_ofLast m_ofYear m_from m_size m_here m_token m_tokenAt m_open m_bad m_fault m_nKept m_mindsKept m_lastsKept m_cutKept m_yearKept m_ruleKept m_tokenWorth m_texts m_textSize m_tape m_parents m_kinds m_numbers m_odds m_yes m_no m_prices m_numbersKept m_oddsKept m_isThere m_sorts m_sheetSize m_items) := by
  intro n
  induction n with
  | zero => intro m_here m_token m_tokenAt m_tokenWorth hm; rw [sp_X6_next_100] at hm; cases hm
  | succ n ih =>
    intro m_here m_token m_tokenAt m_tokenWorth hm
    rw [sp_X6_next_100] at hm
    refine x_aload0 eX6_next_100 ?_
    refine x_aload0 eX6_next_101 ?_
    refine x_get eX6_next_102 fX6_143 rfl rfl ?_
    obtain ⟨r6, hr, hm⟩ := xo_bind hm
    refine x_Vi1 eX6_next_105 kX6_byteAt mX6_146 (t_X6_byteAt hr) rfl (Nat.le_of_ble_eq_true rfl) ?_
    refine x_i2l eX6_next_108 ?_
    refine x_ldc2 eX6_next_109 cX6_155 ?_
    refine x_ldc2 eX6_next_112 cX6_157 ?_
    refine x_Si3 eX6_next_115 kX6_in mX6_76 (t_X6_in rfl) (Nat.le_of_ble_eq_true rfl) ?_
    refine x_if_eq eX6_next_118 (fun c => ?_) (fun c => ?_)
    · rw [if_pos c] at hm
      obtain rfl := Option.some.inj hm
      exact x_vret eX6_next_321 ⟨rfl, rfl⟩
    · rw [if_neg c] at hm
      refine x_aload0 eX6_next_121 ?_
      refine x_dup eX6_next_122 rfl ?_
      refine x_get eX6_next_123 fX6_143 rfl rfl ?_
      refine x_k eX6_next_126 ?_
      refine x_iadd eX6_next_127 ?_
      refine x_puti (w' := WM _ _ _ _ _ _ _ _ _ _ _ _ _ _ _ _ _ _ _ _ _ _ _ _ _ _ _ _ _ _ _ _ _ _ _ _ _ _ _ _ _ _ _ _ _ _) eX6_next_128 pX6_143 rfl (Nat.le_of_ble_eq_true rfl) rfl ?_
      refine x_goto eX6_next_131 ?_
      exact ih hm
set_option maxRecDepth 4000 in
theorem l_X6_next_0 {o : Int32 × Int32 × Int32 × Int64} {m_from : Int32} {m_size : Int32} {m_texts : Nat → Int32} : ∀ (n : Nat) {m_here : Int32} {m_token : Int32} {m_tokenAt : Int32} {m_tokenWorth : Int64}, sp_X6_next_0 m_from m_size m_texts n m_here m_token m_tokenAt m_tokenWorth = some o → xt_T RX6 cX6_next 3 none (d + 1) (xt_Kv (WM m_thrown m_textCount m_rule m_taped m_n m_minds m_lasts m_cutNow m_year m_ofNode m_ofDepth m_ofKids m_ofTwigs m_ofLast m_ofYear m_from m_size o.1 o.2.1 o.2.2.1 m_open m_bad m_fault m_nKept m_mindsKept m_lastsKept m_cutKept m_yearKept m_ruleKept o.2.2.2 m_texts m_textSize m_tape m_parents m_kinds m_numbers m_odds m_yes m_no m_prices m_numbersKept m_oddsKept m_isThere m_sorts m_sheetSize m_items)) 0 [some (.ref 0), none, none] [] (WM m_thrown m_textCount m_rule m_taped m_n m_minds m_lasts m_cutNow m_year m_ofNode m_ofDepth m_ofKids m_ofTwigs m_ofLast m_ofYear m_from m_size m_here m_token m_tokenAt m_open m_bad m_fault m_nKept m_mindsKept m_lastsKept m_cutKept m_yearKept m_ruleKept m_tokenWorth m_texts m_textSize m_tape m_parents m_kinds m_numbers m_odds m_yes m_no m_prices m_numbersKept m_oddsKept m_isThere m_sorts m_sheetSize m_items) := by
  intro n
  induction n with
  | zero => intro m_here m_token m_tokenAt m_tokenWorth hm; rw [sp_X6_next_0] at hm; cases hm
  | succ n ih =>
    intro m_here m_token m_tokenAt m_tokenWorth hm
    rw [sp_X6_next_0] at hm
    refine x_aload0 eX6_next_0 ?_
    refine x_aload0 eX6_next_1 ?_
    refine x_get eX6_next_2 fX6_143 rfl rfl ?_
    obtain ⟨r1, hr, hm⟩ := xo_bind hm
    refine x_Vi1 eX6_next_5 kX6_byteAt mX6_146 (t_X6_byteAt hr) rfl (Nat.le_of_ble_eq_true rfl) ?_
    refine x_k eX6_next_8 ?_
    refine x_icmp_eq eX6_next_10 (fun c => ?_) (fun c => ?_)
    · rw [if_pos c] at hm
      refine x_aload0 eX6_next_26 ?_
      refine x_dup eX6_next_27 rfl ?_
      refine x_get eX6_next_28 fX6_143 rfl rfl ?_
      refine x_k eX6_next_31 ?_
      refine x_iadd eX6_next_32 ?_
      refine x_puti (w' := WM _ _ _ _ _ _ _ _ _ _ _ _ _ _ _ _ _ _ _ _ _ _ _ _ _ _ _ _ _ _ _ _ _ _ _ _ _ _ _ _ _ _ _ _ _ _) eX6_next_33 pX6_143 rfl (Nat.le_of_ble_eq_true rfl) rfl ?_
      refine x_goto eX6_next_36 ?_
      exact ih hm
    · rw [if_neg c] at hm
      refine x_aload0 eX6_next_13 ?_
      refine x_aload0 eX6_next_14 ?_
      refine x_get eX6_next_15 fX6_143 rfl rfl ?_
      obtain ⟨r2, hr, hm⟩ := xo_bind hm
      refine x_Vi1 eX6_next_18 kX6_byteAt mX6_146 (t_X6_byteAt hr) rfl (Nat.le_of_ble_eq_true rfl) ?_
      refine x_k eX6_next_21 ?_
      refine x_icmp_ne eX6_next_23 (fun c => ?_) (fun c => ?_)
      · rw [if_neg c] at hm
        refine x_aload0 eX6_next_39 ?_
        refine x_aload0 eX6_next_40 ?_
        refine x_get eX6_next_41 fX6_143 rfl rfl ?_
        refine x_puti (w' := WM _ _ _ _ _ _ _ _ _ _ _ _ _ _ _ _ _ _ _ _ _ _ _ _ _ _ _ _ _ _ _ _ _ _ _ _ _ _ _ _ _ _ _ _ _ _) eX6_next_44 pX6_149 rfl (Nat.le_of_ble_eq_true rfl) rfl ?_
        refine x_aload0 eX6_next_47 ?_
        refine x_aload0 eX6_next_48 ?_
        refine x_get eX6_next_49 fX6_143 rfl rfl ?_
        obtain ⟨r3, hr, hm⟩ := xo_bind hm
        refine x_Vi1 eX6_next_52 kX6_byteAt mX6_146 (t_X6_byteAt hr) rfl (Nat.le_of_ble_eq_true rfl) ?_
        refine x_istore1 eX6_next_55 rfl ?_
        refine x_aload0 eX6_next_56 ?_
        refine x_k eX6_next_57 ?_
        refine x_puti (w' := WM _ _ _ _ _ _ _ _ _ _ _ _ _ _ _ _ _ _ _ _ _ _ _ _ _ _ _ _ _ _ _ _ _ _ _ _ _ _ _ _ _ _ _ _ _ _) eX6_next_58 pX6_152 rfl (Nat.le_of_ble_eq_true rfl) rfl ?_
        refine x_iload1 eX6_next_61 ?_
        refine x_if_ge eX6_next_62 (fun c => ?_) (fun c => ?_)
        · rw [if_pos c] at hm
          refine x_iload1 eX6_next_81 ?_
          refine x_i2l eX6_next_82 ?_
          refine x_ldc2 eX6_next_83 cX6_155 ?_
          refine x_ldc2 eX6_next_86 cX6_157 ?_
          refine x_Si3 eX6_next_89 kX6_in mX6_76 (t_X6_in rfl) (Nat.le_of_ble_eq_true rfl) ?_
          refine x_if_eq eX6_next_92 (fun c => ?_) (fun c => ?_)
          · rw [if_pos c] at hm
            refine x_iload1 eX6_next_134 ?_
            refine x_i2l eX6_next_135 ?_
            refine x_ldc2 eX6_next_136 cX6_159 ?_
            refine x_ldc2 eX6_next_139 cX6_161 ?_
            refine x_Si3 eX6_next_142 kX6_in mX6_76 (t_X6_in rfl) (Nat.le_of_ble_eq_true rfl) ?_
            refine x_if_eq eX6_next_145 (fun c => ?_) (fun c => ?_)
            · rw [if_pos c] at hm
              refine x_iload1 eX6_next_252 ?_
              refine x_k eX6_next_253 ?_
              refine x_icmp_eq eX6_next_255 (fun c => ?_) (fun c => ?_)
              · rw [if_pos c] at hm
                refine x_aload0 eX6_next_300 ?_
                refine x_k eX6_next_301 ?_
                refine x_puti (w' := WM _ _ _ _ _ _ _ _ _ _ _ _ _ _ _ _ _ _ _ _ _ _ _ _ _ _ _ _ _ _ _ _ _ _ _ _ _ _ _ _ _ _ _ _ _ _) eX6_next_302 pX6_152 rfl (Nat.le_of_ble_eq_true rfl) rfl ?_
                refine x_aload0 eX6_next_305 ?_
                refine x_iload1 eX6_next_306 ?_
                refine x_i2l eX6_next_307 ?_
                refine x_putl (w' := WM _ _ _ _ _ _ _ _ _ _ _ _ _ _ _ _ _ _ _ _ _ _ _ _ _ _ _ _ _ _ _ _ _ _ _ _ _ _ _ _ _ _ _ _ _ _) eX6_next_308 pX6_163 rfl (Nat.le_of_ble_eq_true rfl) rfl ?_
                refine x_aload0 eX6_next_311 ?_
                refine x_dup eX6_next_312 rfl ?_
                refine x_get eX6_next_313 fX6_143 rfl rfl ?_
                refine x_k eX6_next_316 ?_
                refine x_iadd eX6_next_317 ?_
                refine x_puti (w' := WM _ _ _ _ _ _ _ _ _ _ _ _ _ _ _ _ _ _ _ _ _ _ _ _ _ _ _ _ _ _ _ _ _ _ _ _ _ _ _ _ _ _ _ _ _ _) eX6_next_318 pX6_143 rfl (Nat.le_of_ble_eq_true rfl) rfl ?_
                obtain rfl := Option.some.inj hm
                exact x_vret eX6_next_321 ⟨rfl, rfl⟩
              · rw [if_neg c] at hm
                refine x_iload1 eX6_next_258 ?_
                refine x_k eX6_next_259 ?_
                refine x_icmp_eq eX6_next_261 (fun c => ?_) (fun c => ?_)
                · rw [if_pos c] at hm
                  refine x_aload0 eX6_next_300 ?_
                  refine x_k eX6_next_301 ?_
                  refine x_puti (w' := WM _ _ _ _ _ _ _ _ _ _ _ _ _ _ _ _ _ _ _ _ _ _ _ _ _ _ _ _ _ _ _ _ _ _ _ _ _ _ _ _ _ _ _ _ _ _) eX6_next_302 pX6_152 rfl (Nat.le_of_ble_eq_true rfl) rfl ?_
                  refine x_aload0 eX6_next_305 ?_
                  refine x_iload1 eX6_next_306 ?_
                  refine x_i2l eX6_next_307 ?_
                  refine x_putl (w' := WM _ _ _ _ _ _ _ _ _ _ _ _ _ _ _ _ _ _ _ _ _ _ _ _ _ _ _ _ _ _ _ _ _ _ _ _ _ _ _ _ _ _ _ _ _ _) eX6_next_308 pX6_163 rfl (Nat.le_of_ble_eq_true rfl) rfl ?_
                  refine x_aload0 eX6_next_311 ?_
                  refine x_dup eX6_next_312 rfl ?_
                  refine x_get eX6_next_313 fX6_143 rfl rfl ?_
                  refine x_k eX6_next_316 ?_
                  refine x_iadd eX6_next_317 ?_
                  refine x_puti (w' := WM _ _ _ _ _ _ _ _ _ _ _ _ _ _ _ _ _ _ _ _ _ _ _ _ _ _ _ _ _ _ _ _ _ _ _ _ _ _ _ _ _ _ _ _ _ _) eX6_next_318 pX6_143 rfl (Nat.le_of_ble_eq_true rfl) rfl ?_
                  obtain rfl := Option.some.inj hm
                  exact x_vret eX6_next_321 ⟨rfl, rfl⟩
                · rw [if_neg c] at hm
                  refine x_iload1 eX6_next_264 ?_
                  refine x_k eX6_next_265 ?_
                  refine x_icmp_eq eX6_next_267 (fun c => ?_) (fun c => ?_)
                  · rw [if_pos c] at hm
                    refine x_aload0 eX6_next_300 ?_
                    refine x_k eX6_next_301 ?_
                    refine x_puti (w' := WM _ _ _ _ _ _ _ _ _ _ _ _ _ _ _ _ _ _ _ _ _ _ _ _ _ _ _ _ _ _ _ _ _ _ _ _ _ _ _ _ _ _ _ _ _ _) eX6_next_302 pX6_152 rfl (Nat.le_of_ble_eq_true rfl) rfl ?_
                    refine x_aload0 eX6_next_305 ?_
                    refine x_iload1 eX6_next_306 ?_
                    refine x_i2l eX6_next_307 ?_
                    refine x_putl (w' := WM _ _ _ _ _ _ _ _ _ _ _ _ _ _ _ _ _ _ _ _ _ _ _ _ _ _ _ _ _ _ _ _ _ _ _ _ _ _ _ _ _ _ _ _ _ _) eX6_next_308 pX6_163 rfl (Nat.le_of_ble_eq_true rfl) rfl ?_
                    refine x_aload0 eX6_next_311 ?_
                    refine x_dup eX6_next_312 rfl ?_
                    refine x_get eX6_next_313 fX6_143 rfl rfl ?_
                    refine x_k eX6_next_316 ?_
                    refine x_iadd eX6_next_317 ?_
                    refine x_puti (w' := WM _ _ _ _ _ _ _ _ _ _ _ _ _ _ _ _ _ _ _ _ _ _ _ _ _ _ _ _ _ _ _ _ _ _ _ _ _ _ _ _ _ _ _ _ _ _) eX6_next_318 pX6_143 rfl (Nat.le_of_ble_eq_true rfl) rfl ?_
                    obtain rfl := Option.some.inj hm
                    exact x_vret eX6_next_321 ⟨rfl, rfl⟩
                  · rw [if_neg c] at hm
                    refine x_iload1 eX6_next_270 ?_
                    refine x_k eX6_next_271 ?_
                    refine x_icmp_eq eX6_next_273 (fun c => ?_) (fun c => ?_)
                    · rw [if_pos c] at hm
                      refine x_aload0 eX6_next_300 ?_
                      refine x_k eX6_next_301 ?_
                      refine x_puti (w' := WM _ _ _ _ _ _ _ _ _ _ _ _ _ _ _ _ _ _ _ _ _ _ _ _ _ _ _ _ _ _ _ _ _ _ _ _ _ _ _ _ _ _ _ _ _ _) eX6_next_302 pX6_152 rfl (Nat.le_of_ble_eq_true rfl) rfl ?_
                      refine x_aload0 eX6_next_305 ?_
                      refine x_iload1 eX6_next_306 ?_
                      refine x_i2l eX6_next_307 ?_
                      refine x_putl (w' := WM _ _ _ _ _ _ _ _ _ _ _ _ _ _ _ _ _ _ _ _ _ _ _ _ _ _ _ _ _ _ _ _ _ _ _ _ _ _ _ _ _ _ _ _ _ _) eX6_next_308 pX6_163 rfl (Nat.le_of_ble_eq_true rfl) rfl ?_
                      refine x_aload0 eX6_next_311 ?_
                      refine x_dup eX6_next_312 rfl ?_
                      refine x_get eX6_next_313 fX6_143 rfl rfl ?_
                      refine x_k eX6_next_316 ?_
                      refine x_iadd eX6_next_317 ?_
                      refine x_puti (w' := WM _ _ _ _ _ _ _ _ _ _ _ _ _ _ _ _ _ _ _ _ _ _ _ _ _ _ _ _ _ _ _ _ _ _ _ _ _ _ _ _ _ _ _ _ _ _) eX6_next_318 pX6_143 rfl (Nat.le_of_ble_eq_true rfl) rfl ?_
                      obtain rfl := Option.some.inj hm
                      exact x_vret eX6_next_321 ⟨rfl, rfl⟩
                    · rw [if_neg c] at hm
                      refine x_iload1 eX6_next_276 ?_
                      refine x_k eX6_next_277 ?_
                      refine x_icmp_eq eX6_next_279 (fun c => ?_) (fun c => ?_)
                      · rw [if_pos c] at hm
                        refine x_aload0 eX6_next_300 ?_
                        refine x_k eX6_next_301 ?_
                        refine x_puti (w' := WM _ _ _ _ _ _ _ _ _ _ _ _ _ _ _ _ _ _ _ _ _ _ _ _ _ _ _ _ _ _ _ _ _ _ _ _ _ _ _ _ _ _ _ _ _ _) eX6_next_302 pX6_152 rfl (Nat.le_of_ble_eq_true rfl) rfl ?_
                        refine x_aload0 eX6_next_305 ?_
                        refine x_iload1 eX6_next_306 ?_
                        refine x_i2l eX6_next_307 ?_
                        refine x_putl (w' := WM _ _ _ _ _ _ _ _ _ _ _ _ _ _ _ _ _ _ _ _ _ _ _ _ _ _ _ _ _ _ _ _ _ _ _ _ _ _ _ _ _ _ _ _ _ _) eX6_next_308 pX6_163 rfl (Nat.le_of_ble_eq_true rfl) rfl ?_
                        refine x_aload0 eX6_next_311 ?_
                        refine x_dup eX6_next_312 rfl ?_
                        refine x_get eX6_next_313 fX6_143 rfl rfl ?_
                        refine x_k eX6_next_316 ?_
                        refine x_iadd eX6_next_317 ?_
                        refine x_puti (w' := WM _ _ _ _ _ _ _ _ _ _ _ _ _ _ _ _ _ _ _ _ _ _ _ _ _ _ _ _ _ _ _ _ _ _ _ _ _ _ _ _ _ _ _ _ _ _) eX6_next_318 pX6_143 rfl (Nat.le_of_ble_eq_true rfl) rfl ?_
                        obtain rfl := Option.some.inj hm
                        exact x_vret eX6_next_321 ⟨rfl, rfl⟩
                      · rw [if_neg c] at hm
                        refine x_iload1 eX6_next_282 ?_
                        refine x_k eX6_next_283 ?_
                        refine x_icmp_eq eX6_next_285 (fun c => ?_) (fun c => ?_)
                        · rw [if_pos c] at hm
                          refine x_aload0 eX6_next_300 ?_
                          refine x_k eX6_next_301 ?_
                          refine x_puti (w' := WM _ _ _ _ _ _ _ _ _ _ _ _ _ _ _ _ _ _ _ _ _ _ _ _ _ _ _ _ _ _ _ _ _ _ _ _ _ _ _ _ _ _ _ _ _ _) eX6_next_302 pX6_152 rfl (Nat.le_of_ble_eq_true rfl) rfl ?_
                          refine x_aload0 eX6_next_305 ?_
                          refine x_iload1 eX6_next_306 ?_
                          refine x_i2l eX6_next_307 ?_
                          refine x_putl (w' := WM _ _ _ _ _ _ _ _ _ _ _ _ _ _ _ _ _ _ _ _ _ _ _ _ _ _ _ _ _ _ _ _ _ _ _ _ _ _ _ _ _ _ _ _ _ _) eX6_next_308 pX6_163 rfl (Nat.le_of_ble_eq_true rfl) rfl ?_
                          refine x_aload0 eX6_next_311 ?_
                          refine x_dup eX6_next_312 rfl ?_
                          refine x_get eX6_next_313 fX6_143 rfl rfl ?_
                          refine x_k eX6_next_316 ?_
                          refine x_iadd eX6_next_317 ?_
                          refine x_puti (w' := WM _ _ _ _ _ _ _ _ _ _ _ _ _ _ _ _ _ _ _ _ _ _ _ _ _ _ _ _ _ _ _ _ _ _ _ _ _ _ _ _ _ _ _ _ _ _) eX6_next_318 pX6_143 rfl (Nat.le_of_ble_eq_true rfl) rfl ?_
                          obtain rfl := Option.some.inj hm
                          exact x_vret eX6_next_321 ⟨rfl, rfl⟩
                        · rw [if_neg c] at hm
                          refine x_iload1 eX6_next_288 ?_
                          refine x_k eX6_next_289 ?_
                          refine x_icmp_eq eX6_next_291 (fun c => ?_) (fun c => ?_)
                          · rw [if_pos c] at hm
                            refine x_aload0 eX6_next_300 ?_
                            refine x_k eX6_next_301 ?_
                            refine x_puti (w' := WM _ _ _ _ _ _ _ _ _ _ _ _ _ _ _ _ _ _ _ _ _ _ _ _ _ _ _ _ _ _ _ _ _ _ _ _ _ _ _ _ _ _ _ _ _ _) eX6_next_302 pX6_152 rfl (Nat.le_of_ble_eq_true rfl) rfl ?_
                            refine x_aload0 eX6_next_305 ?_
                            refine x_iload1 eX6_next_306 ?_
                            refine x_i2l eX6_next_307 ?_
                            refine x_putl (w' := WM _ _ _ _ _ _ _ _ _ _ _ _ _ _ _ _ _ _ _ _ _ _ _ _ _ _ _ _ _ _ _ _ _ _ _ _ _ _ _ _ _ _ _ _ _ _) eX6_next_308 pX6_163 rfl (Nat.le_of_ble_eq_true rfl) rfl ?_
                            refine x_aload0 eX6_next_311 ?_
                            refine x_dup eX6_next_312 rfl ?_
                            refine x_get eX6_next_313 fX6_143 rfl rfl ?_
                            refine x_k eX6_next_316 ?_
                            refine x_iadd eX6_next_317 ?_
                            refine x_puti (w' := WM _ _ _ _ _ _ _ _ _ _ _ _ _ _ _ _ _ _ _ _ _ _ _ _ _ _ _ _ _ _ _ _ _ _ _ _ _ _ _ _ _ _ _ _ _ _) eX6_next_318 pX6_143 rfl (Nat.le_of_ble_eq_true rfl) rfl ?_
                            obtain rfl := Option.some.inj hm
                            exact x_vret eX6_next_321 ⟨rfl, rfl⟩
                          · rw [if_neg c] at hm
                            refine x_iload1 eX6_next_294 ?_
                            refine x_k eX6_next_295 ?_
                            refine x_icmp_ne eX6_next_297 (fun c => ?_) (fun c => ?_)
                            · rw [if_neg c] at hm
                              obtain rfl := Option.some.inj hm
                              exact x_vret eX6_next_321 ⟨rfl, rfl⟩
                            · rw [if_pos c] at hm
                              refine x_aload0 eX6_next_300 ?_
                              refine x_k eX6_next_301 ?_
                              refine x_puti (w' := WM _ _ _ _ _ _ _ _ _ _ _ _ _ _ _ _ _ _ _ _ _ _ _ _ _ _ _ _ _ _ _ _ _ _ _ _ _ _ _ _ _ _ _ _ _ _) eX6_next_302 pX6_152 rfl (Nat.le_of_ble_eq_true rfl) rfl ?_
                              refine x_aload0 eX6_next_305 ?_
                              refine x_iload1 eX6_next_306 ?_
                              refine x_i2l eX6_next_307 ?_
                              refine x_putl (w' := WM _ _ _ _ _ _ _ _ _ _ _ _ _ _ _ _ _ _ _ _ _ _ _ _ _ _ _ _ _ _ _ _ _ _ _ _ _ _ _ _ _ _ _ _ _ _) eX6_next_308 pX6_163 rfl (Nat.le_of_ble_eq_true rfl) rfl ?_
                              refine x_aload0 eX6_next_311 ?_
                              refine x_dup eX6_next_312 rfl ?_
                              refine x_get eX6_next_313 fX6_143 rfl rfl ?_
                              refine x_k eX6_next_316 ?_
                              refine x_iadd eX6_next_317 ?_
                              refine x_puti (w' := WM _ _ _ _ _ _ _ _ _ _ _ _ _ _ _ _ _ _ _ _ _ _ _ _ _ _ _ _ _ _ _ _ _ _ _ _ _ _ _ _ _ _ _ _ _ _) eX6_next_318 pX6_143 rfl (Nat.le_of_ble_eq_true rfl) rfl ?_
                              obtain rfl := Option.some.inj hm
                              exact x_vret eX6_next_321 ⟨rfl, rfl⟩
            · rw [if_neg c] at hm
              refine x_aload0 eX6_next_148 ?_
              refine x_k eX6_next_149 ?_
              refine x_puti (w' := WM _ _ _ _ _ _ _ _ _ _ _ _ _ _ _ _ _ _ _ _ _ _ _ _ _ _ _ _ _ _ _ _ _ _ _ _ _ _ _ _ _ _ _ _ _ _) eX6_next_150 pX6_152 rfl (Nat.le_of_ble_eq_true rfl) rfl ?_
              refine x_aload0 eX6_next_153 ?_
              refine x_lk eX6_next_154 ?_
              refine x_putl (w' := WM _ _ _ _ _ _ _ _ _ _ _ _ _ _ _ _ _ _ _ _ _ _ _ _ _ _ _ _ _ _ _ _ _ _ _ _ _ _ _ _ _ _ _ _ _ _) eX6_next_155 pX6_163 rfl (Nat.le_of_ble_eq_true rfl) rfl ?_
              refine x_k eX6_next_158 ?_
              refine x_istore2 eX6_next_159 rfl ?_
              exact l_X6_next_160 _ hm
          · rw [if_neg c] at hm
            refine x_aload0 eX6_next_95 ?_
            refine x_k eX6_next_96 ?_
            refine x_puti (w' := WM _ _ _ _ _ _ _ _ _ _ _ _ _ _ _ _ _ _ _ _ _ _ _ _ _ _ _ _ _ _ _ _ _ _ _ _ _ _ _ _ _ _ _ _ _ _) eX6_next_97 pX6_152 rfl (Nat.le_of_ble_eq_true rfl) rfl ?_
            exact l_X6_next_100 _ hm
        · rw [if_neg c] at hm
          refine x_aload0 eX6_next_65 ?_
          refine x_k eX6_next_66 ?_
          refine x_puti (w' := WM _ _ _ _ _ _ _ _ _ _ _ _ _ _ _ _ _ _ _ _ _ _ _ _ _ _ _ _ _ _ _ _ _ _ _ _ _ _ _ _ _ _ _ _ _ _) eX6_next_67 pX6_152 rfl (Nat.le_of_ble_eq_true rfl) rfl ?_
          refine x_aload0 eX6_next_70 ?_
          refine x_aload0 eX6_next_71 ?_
          refine x_get eX6_next_72 fX6_137 rfl rfl ?_
          refine x_puti (w' := WM _ _ _ _ _ _ _ _ _ _ _ _ _ _ _ _ _ _ _ _ _ _ _ _ _ _ _ _ _ _ _ _ _ _ _ _ _ _ _ _ _ _ _ _ _ _) eX6_next_75 pX6_149 rfl (Nat.le_of_ble_eq_true rfl) rfl ?_
          refine x_goto eX6_next_78 ?_
          obtain rfl := Option.some.inj hm
          exact x_vret eX6_next_321 ⟨rfl, rfl⟩
      · rw [if_pos c] at hm
        refine x_aload0 eX6_next_26 ?_
        refine x_dup eX6_next_27 rfl ?_
        refine x_get eX6_next_28 fX6_143 rfl rfl ?_
        refine x_k eX6_next_31 ?_
        refine x_iadd eX6_next_32 ?_
        refine x_puti (w' := WM _ _ _ _ _ _ _ _ _ _ _ _ _ _ _ _ _ _ _ _ _ _ _ _ _ _ _ _ _ _ _ _ _ _ _ _ _ _ _ _ _ _ _ _ _ _) eX6_next_33 pX6_143 rfl (Nat.le_of_ble_eq_true rfl) rfl ?_
        refine x_goto eX6_next_36 ?_
        exact ih hm
set_option maxRecDepth 4000 in
theorem t_X6_next {o : Int32 × Int32 × Int32 × Int64}  (hm : sp_X6_next m_from m_size m_here m_token m_tokenAt m_tokenWorth m_texts = some o) : xt_M yX6_next cX6_next 3 none (d + 1) [.ref 0] (WM m_thrown m_textCount m_rule m_taped m_n m_minds m_lasts m_cutNow m_year m_ofNode m_ofDepth m_ofKids m_ofTwigs m_ofLast m_ofYear m_from m_size m_here m_token m_tokenAt m_open m_bad m_fault m_nKept m_mindsKept m_lastsKept m_cutKept m_yearKept m_ruleKept m_tokenWorth m_texts m_textSize m_tape m_parents m_kinds m_numbers m_odds m_yes m_no m_prices m_numbersKept m_oddsKept m_isThere m_sorts m_sheetSize m_items) (xt_Kv (WM m_thrown m_textCount m_rule m_taped m_n m_minds m_lasts m_cutNow m_year m_ofNode m_ofDepth m_ofKids m_ofTwigs m_ofLast m_ofYear m_from m_size o.1 o.2.1 o.2.2.1 m_open m_bad m_fault m_nKept m_mindsKept m_lastsKept m_cutKept m_yearKept m_ruleKept o.2.2.2 m_texts m_textSize m_tape m_parents m_kinds m_numbers m_odds m_yes m_no m_prices m_numbersKept m_oddsKept m_isThere m_sorts m_sheetSize m_items)) := by
  unfold sp_X6_next at hm
  refine xt_M.go (own := RX6) (lv := [some (.ref 0), none, none]) rfl rfl (Nat.le_of_ble_eq_true rfl) rfl ?_
  exact l_X6_next_0 _ hm
set_option maxRecDepth 4000 in
theorem t_X6_isLetter {o : Int32} {p1 : Int32} {p2 : Int32} (hm : sp_X6_isLetter p1 p2 m_from m_size m_here m_tokenAt m_texts = some o) : xt_M yX6_isLetter cX6_isLetter 3 (some .boolean) (d + 1) [.ref 0, .int p1, .int p2] (WM m_thrown m_textCount m_rule m_taped m_n m_minds m_lasts m_cutNow m_year m_ofNode m_ofDepth m_ofKids m_ofTwigs m_ofLast m_ofYear m_from m_size m_here m_token m_tokenAt m_open m_bad m_fault m_nKept m_mindsKept m_lastsKept m_cutKept m_yearKept m_ruleKept m_tokenWorth m_texts m_textSize m_tape m_parents m_kinds m_numbers m_odds m_yes m_no m_prices m_numbersKept m_oddsKept m_isThere m_sorts m_sheetSize m_items) (xt_Ki o (WM m_thrown m_textCount m_rule m_taped m_n m_minds m_lasts m_cutNow m_year m_ofNode m_ofDepth m_ofKids m_ofTwigs m_ofLast m_ofYear m_from m_size m_here m_token m_tokenAt m_open m_bad m_fault m_nKept m_mindsKept m_lastsKept m_cutKept m_yearKept m_ruleKept m_tokenWorth m_texts m_textSize m_tape m_parents m_kinds m_numbers m_odds m_yes m_no m_prices m_numbersKept m_oddsKept m_isThere m_sorts m_sheetSize m_items)) := by
  unfold sp_X6_isLetter at hm
  refine xt_M.go (own := RX6) (lv := [some (.ref 0), some (.int p1), some (.int p2)]) rfl rfl (Nat.le_of_ble_eq_true rfl) rfl ?_
  refine x_aload0 eX6_isLetter_0 ?_
  refine x_get eX6_isLetter_1 fX6_149 rfl rfl ?_
  refine x_iload1 eX6_isLetter_4 ?_
  refine x_iadd eX6_isLetter_5 ?_
  refine x_aload0 eX6_isLetter_6 ?_
  refine x_get eX6_isLetter_7 fX6_143 rfl rfl ?_
  refine x_icmp_ge eX6_isLetter_10 (fun c => ?_) (fun c => ?_)
  · rw [if_pos c] at hm
    refine x_iload2 eX6_isLetter_35 ?_
    refine x_if_ne eX6_isLetter_36 (fun c => ?_) (fun c => ?_)
    · rw [if_neg c] at hm
      refine x_k eX6_isLetter_43 ?_
      obtain rfl := Option.some.inj hm
      exact x_zret eX6_isLetter_44 (by decide) ⟨rfl, rfl⟩
    · rw [if_pos c] at hm
      refine x_k eX6_isLetter_39 ?_
      refine x_goto eX6_isLetter_40 ?_
      obtain rfl := Option.some.inj hm
      exact x_zret eX6_isLetter_44 (by decide) ⟨rfl, rfl⟩
  · rw [if_neg c] at hm
    refine x_aload0 eX6_isLetter_13 ?_
    refine x_aload0 eX6_isLetter_14 ?_
    refine x_get eX6_isLetter_15 fX6_149 rfl rfl ?_
    refine x_iload1 eX6_isLetter_18 ?_
    refine x_iadd eX6_isLetter_19 ?_
    obtain ⟨r1, hr, hm⟩ := xo_bind hm
    refine x_Vi1 eX6_isLetter_20 kX6_byteAt mX6_146 (t_X6_byteAt hr) rfl (Nat.le_of_ble_eq_true rfl) ?_
    refine x_iload2 eX6_isLetter_23 ?_
    refine x_icmp_ne eX6_isLetter_24 (fun c => ?_) (fun c => ?_)
    · rw [if_neg c] at hm
      refine x_k eX6_isLetter_31 ?_
      refine x_goto eX6_isLetter_32 ?_
      obtain rfl := Option.some.inj hm
      exact x_zret eX6_isLetter_44 (by decide) ⟨rfl, rfl⟩
    · rw [if_pos c] at hm
      refine x_k eX6_isLetter_27 ?_
      refine x_goto eX6_isLetter_28 ?_
      obtain rfl := Option.some.inj hm
      exact x_zret eX6_isLetter_44 (by decide) ⟨rfl, rfl⟩
set_option maxRecDepth 4000 in
theorem t_X6_isWord {o : Int32} {p1 : Int32} {p2 : Int32} {p3 : Int32} {p4 : Int32} {p5 : Int32} {p6 : Int32} {p7 : Int32} {p8 : Int32} (hm : sp_X6_isWord p1 p2 p3 p4 p5 p6 p7 p8 m_from m_size m_here m_token m_tokenAt m_bad m_texts = some o) : xt_M yX6_isWord cX6_isWord 9 (some .boolean) (d + 2) [.ref 0, .int p1, .int p2, .int p3, .int p4, .int p5, .int p6, .int p7, .int p8] (WM m_thrown m_textCount m_rule m_taped m_n m_minds m_lasts m_cutNow m_year m_ofNode m_ofDepth m_ofKids m_ofTwigs m_ofLast m_ofYear m_from m_size m_here m_token m_tokenAt m_open m_bad m_fault m_nKept m_mindsKept m_lastsKept m_cutKept m_yearKept m_ruleKept m_tokenWorth m_texts m_textSize m_tape m_parents m_kinds m_numbers m_odds m_yes m_no m_prices m_numbersKept m_oddsKept m_isThere m_sorts m_sheetSize m_items) (xt_Ki o (WM m_thrown m_textCount m_rule m_taped m_n m_minds m_lasts m_cutNow m_year m_ofNode m_ofDepth m_ofKids m_ofTwigs m_ofLast m_ofYear m_from m_size m_here m_token m_tokenAt m_open m_bad m_fault m_nKept m_mindsKept m_lastsKept m_cutKept m_yearKept m_ruleKept m_tokenWorth m_texts m_textSize m_tape m_parents m_kinds m_numbers m_odds m_yes m_no m_prices m_numbersKept m_oddsKept m_isThere m_sorts m_sheetSize m_items)) := by
  unfold sp_X6_isWord at hm
  refine xt_M.go (own := RX6) (lv := [some (.ref 0), some (.int p1), some (.int p2), some (.int p3), some (.int p4), some (.int p5), some (.int p6), some (.int p7), some (.int p8)]) rfl rfl (Nat.le_of_ble_eq_true rfl) rfl ?_
  refine x_aload0 eX6_isWord_0 ?_
  refine x_get eX6_isWord_1 fX6_169 rfl rfl ?_
  refine x_if_ne eX6_isWord_4 (fun c => ?_) (fun c => ?_)
  · rw [if_neg c] at hm
    refine x_k eX6_isWord_112 ?_
    obtain rfl := Option.some.inj hm
    exact x_zret eX6_isWord_113 (by decide) ⟨rfl, rfl⟩
  · rw [if_pos c] at hm
    refine x_aload0 eX6_isWord_7 ?_
    refine x_get eX6_isWord_8 fX6_152 rfl rfl ?_
    refine x_k eX6_isWord_11 ?_
    refine x_icmp_ne eX6_isWord_12 (fun c => ?_) (fun c => ?_)
    · rw [if_neg c] at hm
      refine x_k eX6_isWord_112 ?_
      obtain rfl := Option.some.inj hm
      exact x_zret eX6_isWord_113 (by decide) ⟨rfl, rfl⟩
    · rw [if_pos c] at hm
      refine x_aload0 eX6_isWord_15 ?_
      refine x_get eX6_isWord_16 fX6_143 rfl rfl ?_
      refine x_aload0 eX6_isWord_19 ?_
      refine x_get eX6_isWord_20 fX6_149 rfl rfl ?_
      refine x_k eX6_isWord_23 ?_
      refine x_iadd eX6_isWord_25 ?_
      refine x_icmp_gt eX6_isWord_26 (fun c => ?_) (fun c => ?_)
      · rw [if_pos c] at hm
        refine x_k eX6_isWord_112 ?_
        obtain rfl := Option.some.inj hm
        exact x_zret eX6_isWord_113 (by decide) ⟨rfl, rfl⟩
      · rw [if_neg c] at hm
        refine x_aload0 eX6_isWord_29 ?_
        refine x_k eX6_isWord_30 ?_
        refine x_iload1 eX6_isWord_31 ?_
        obtain ⟨r1, hr, hm⟩ := xo_bind hm
        refine x_Vi2 eX6_isWord_32 kX6_isLetter mX6_176 (t_X6_isLetter hr) rfl (Nat.le_of_ble_eq_true rfl) ?_
        refine x_if_eq eX6_isWord_35 (fun c => ?_) (fun c => ?_)
        · rw [if_pos c] at hm
          refine x_k eX6_isWord_112 ?_
          obtain rfl := Option.some.inj hm
          exact x_zret eX6_isWord_113 (by decide) ⟨rfl, rfl⟩
        · rw [if_neg c] at hm
          refine x_aload0 eX6_isWord_38 ?_
          refine x_k eX6_isWord_39 ?_
          refine x_iload2 eX6_isWord_40 ?_
          obtain ⟨r2, hr, hm⟩ := xo_bind hm
          refine x_Vi2 eX6_isWord_41 kX6_isLetter mX6_176 (t_X6_isLetter hr) rfl (Nat.le_of_ble_eq_true rfl) ?_
          refine x_if_eq eX6_isWord_44 (fun c => ?_) (fun c => ?_)
          · rw [if_pos c] at hm
            refine x_k eX6_isWord_112 ?_
            obtain rfl := Option.some.inj hm
            exact x_zret eX6_isWord_113 (by decide) ⟨rfl, rfl⟩
          · rw [if_neg c] at hm
            refine x_aload0 eX6_isWord_47 ?_
            refine x_k eX6_isWord_48 ?_
            refine x_iload3 eX6_isWord_49 ?_
            obtain ⟨r3, hr, hm⟩ := xo_bind hm
            refine x_Vi2 eX6_isWord_50 kX6_isLetter mX6_176 (t_X6_isLetter hr) rfl (Nat.le_of_ble_eq_true rfl) ?_
            refine x_if_eq eX6_isWord_53 (fun c => ?_) (fun c => ?_)
            · rw [if_pos c] at hm
              refine x_k eX6_isWord_112 ?_
              obtain rfl := Option.some.inj hm
              exact x_zret eX6_isWord_113 (by decide) ⟨rfl, rfl⟩
            · rw [if_neg c] at hm
              refine x_aload0 eX6_isWord_56 ?_
              refine x_k eX6_isWord_57 ?_
              refine x_iload4 eX6_isWord_58 ?_
              obtain ⟨r4, hr, hm⟩ := xo_bind hm
              refine x_Vi2 eX6_isWord_60 kX6_isLetter mX6_176 (t_X6_isLetter hr) rfl (Nat.le_of_ble_eq_true rfl) ?_
              refine x_if_eq eX6_isWord_63 (fun c => ?_) (fun c => ?_)
              · rw [if_pos c] at hm
                refine x_k eX6_isWord_112 ?_
                obtain rfl := Option.some.inj hm
                exact x_zret eX6_isWord_113 (by decide) ⟨rfl, rfl⟩
              · rw [if_neg c] at hm
                refine x_aload0 eX6_isWord_66 ?_
                refine x_k eX6_isWord_67 ?_
                refine x_iload5 eX6_isWord_68 ?_
                obtain ⟨r5, hr, hm⟩ := xo_bind hm
                refine x_Vi2 eX6_isWord_70 kX6_isLetter mX6_176 (t_X6_isLetter hr) rfl (Nat.le_of_ble_eq_true rfl) ?_
                refine x_if_eq eX6_isWord_73 (fun c => ?_) (fun c => ?_)
                · rw [if_pos c] at hm
                  refine x_k eX6_isWord_112 ?_
                  obtain rfl := Option.some.inj hm
                  exact x_zret eX6_isWord_113 (by decide) ⟨rfl, rfl⟩
                · rw [if_neg c] at hm
                  refine x_aload0 eX6_isWord_76 ?_
                  refine x_k eX6_isWord_77 ?_
                  refine x_iload6 eX6_isWord_78 ?_
                  obtain ⟨r6, hr, hm⟩ := xo_bind hm
                  refine x_Vi2 eX6_isWord_80 kX6_isLetter mX6_176 (t_X6_isLetter hr) rfl (Nat.le_of_ble_eq_true rfl) ?_
                  refine x_if_eq eX6_isWord_83 (fun c => ?_) (fun c => ?_)
                  · rw [if_pos c] at hm
                    refine x_k eX6_isWord_112 ?_
                    obtain rfl := Option.some.inj hm
                    exact x_zret eX6_isWord_113 (by decide) ⟨rfl, rfl⟩
                  · rw [if_neg c] at hm
                    refine x_aload0 eX6_isWord_86 ?_
                    refine x_k eX6_isWord_87 ?_
                    refine x_iload7 eX6_isWord_89 ?_
                    obtain ⟨r7, hr, hm⟩ := xo_bind hm
                    refine x_Vi2 eX6_isWord_91 kX6_isLetter mX6_176 (t_X6_isLetter hr) rfl (Nat.le_of_ble_eq_true rfl) ?_
                    refine x_if_eq eX6_isWord_94 (fun c => ?_) (fun c => ?_)
                    · rw [if_pos c] at hm
                      refine x_k eX6_isWord_112 ?_
                      obtain rfl := Option.some.inj hm
                      exact x_zret eX6_isWord_113 (by decide) ⟨rfl, rfl⟩
                    · rw [if_neg c] at hm
                      refine x_aload0 eX6_isWord_97 ?_
                      refine x_k eX6_isWord_98 ?_
                      refine x_iload8 eX6_isWord_100 ?_
                      obtain ⟨r8, hr, hm⟩ := xo_bind hm
                      refine x_Vi2 eX6_isWord_102 kX6_isLetter mX6_176 (t_X6_isLetter hr) rfl (Nat.le_of_ble_eq_true rfl) ?_
                      refine x_if_eq eX6_isWord_105 (fun c => ?_) (fun c => ?_)
                      · rw [if_pos c] at hm
                        refine x_k eX6_isWord_112 ?_
                        obtain rfl := Option.some.inj hm
                        exact x_zret eX6_isWord_113 (by decide) ⟨rfl, rfl⟩
                      · rw [if_neg c] at hm
                        refine x_k eX6_isWord_108 ?_
                        refine x_goto eX6_isWord_109 ?_
                        obtain rfl := Option.some.inj hm
                        exact x_zret eX6_isWord_113 (by decide) ⟨rfl, rfl⟩
set_option maxRecDepth 4000 in
theorem t_X6_isSign {o : Int32} {p1 : Int32} (hm : sp_X6_isSign p1 m_token m_bad m_tokenWorth = o) : xt_M yX6_isSign cX6_isSign 2 (some .boolean) (d + 0) [.ref 0, .int p1] (WM m_thrown m_textCount m_rule m_taped m_n m_minds m_lasts m_cutNow m_year m_ofNode m_ofDepth m_ofKids m_ofTwigs m_ofLast m_ofYear m_from m_size m_here m_token m_tokenAt m_open m_bad m_fault m_nKept m_mindsKept m_lastsKept m_cutKept m_yearKept m_ruleKept m_tokenWorth m_texts m_textSize m_tape m_parents m_kinds m_numbers m_odds m_yes m_no m_prices m_numbersKept m_oddsKept m_isThere m_sorts m_sheetSize m_items) (xt_Ki o (WM m_thrown m_textCount m_rule m_taped m_n m_minds m_lasts m_cutNow m_year m_ofNode m_ofDepth m_ofKids m_ofTwigs m_ofLast m_ofYear m_from m_size m_here m_token m_tokenAt m_open m_bad m_fault m_nKept m_mindsKept m_lastsKept m_cutKept m_yearKept m_ruleKept m_tokenWorth m_texts m_textSize m_tape m_parents m_kinds m_numbers m_odds m_yes m_no m_prices m_numbersKept m_oddsKept m_isThere m_sorts m_sheetSize m_items)) := by
  unfold sp_X6_isSign at hm
  refine xt_M.go (own := RX6) (lv := [some (.ref 0), some (.int p1)]) rfl rfl (Nat.le_of_ble_eq_true rfl) rfl ?_
  refine x_aload0 eX6_isSign_0 ?_
  refine x_get eX6_isSign_1 fX6_169 rfl rfl ?_
  refine x_if_ne eX6_isSign_4 (fun c => ?_) (fun c => ?_)
  · rw [if_neg c] at hm
    refine x_k eX6_isSign_29 ?_
    subst hm
    exact x_zret eX6_isSign_30 (by decide) ⟨rfl, rfl⟩
  · rw [if_pos c] at hm
    refine x_aload0 eX6_isSign_7 ?_
    refine x_get eX6_isSign_8 fX6_152 rfl rfl ?_
    refine x_k eX6_isSign_11 ?_
    refine x_icmp_ne eX6_isSign_12 (fun c => ?_) (fun c => ?_)
    · rw [if_neg c] at hm
      refine x_k eX6_isSign_29 ?_
      subst hm
      exact x_zret eX6_isSign_30 (by decide) ⟨rfl, rfl⟩
    · rw [if_pos c] at hm
      refine x_aload0 eX6_isSign_15 ?_
      refine x_get eX6_isSign_16 fX6_163 rfl rfl ?_
      refine x_iload1 eX6_isSign_19 ?_
      refine x_i2l eX6_isSign_20 ?_
      refine x_lcmp eX6_isSign_21 ?_
      refine x_if_ne eX6_isSign_22 (fun c => ?_) (fun c => ?_)
      · rw [if_neg c] at hm
        refine x_k eX6_isSign_29 ?_
        subst hm
        exact x_zret eX6_isSign_30 (by decide) ⟨rfl, rfl⟩
      · rw [if_pos c] at hm
        refine x_k eX6_isSign_25 ?_
        refine x_goto eX6_isSign_26 ?_
        subst hm
        exact x_zret eX6_isSign_30 (by decide) ⟨rfl, rfl⟩
set_option maxRecDepth 4000 in
theorem t_X6_fail {o : Int32 × Int32}  (hm : sp_X6_fail m_tokenAt m_bad m_fault = o) : xt_M yX6_fail cX6_fail 1 none (d + 0) [.ref 0] (WM m_thrown m_textCount m_rule m_taped m_n m_minds m_lasts m_cutNow m_year m_ofNode m_ofDepth m_ofKids m_ofTwigs m_ofLast m_ofYear m_from m_size m_here m_token m_tokenAt m_open m_bad m_fault m_nKept m_mindsKept m_lastsKept m_cutKept m_yearKept m_ruleKept m_tokenWorth m_texts m_textSize m_tape m_parents m_kinds m_numbers m_odds m_yes m_no m_prices m_numbersKept m_oddsKept m_isThere m_sorts m_sheetSize m_items) (xt_Kv (WM m_thrown m_textCount m_rule m_taped m_n m_minds m_lasts m_cutNow m_year m_ofNode m_ofDepth m_ofKids m_ofTwigs m_ofLast m_ofYear m_from m_size m_here m_token m_tokenAt m_open o.1 o.2 m_nKept m_mindsKept m_lastsKept m_cutKept m_yearKept m_ruleKept m_tokenWorth m_texts m_textSize m_tape m_parents m_kinds m_numbers m_odds m_yes m_no m_prices m_numbersKept m_oddsKept m_isThere m_sorts m_sheetSize m_items)) := by
  unfold sp_X6_fail at hm
  refine xt_M.go (own := RX6) (lv := [some (.ref 0)]) rfl rfl (Nat.le_of_ble_eq_true rfl) rfl ?_
  refine x_aload0 eX6_fail_0 ?_
  refine x_get eX6_fail_1 fX6_169 rfl rfl ?_
  refine x_if_ne eX6_fail_4 (fun c => ?_) (fun c => ?_)
  · rw [if_neg c] at hm
    subst hm
    exact x_vret eX6_fail_20 ⟨rfl, rfl⟩
  · rw [if_pos c] at hm
    refine x_aload0 eX6_fail_7 ?_
    refine x_k eX6_fail_8 ?_
    refine x_putz (w' := WM _ _ _ _ _ _ _ _ _ _ _ _ _ _ _ _ _ _ _ _ _ _ _ _ _ _ _ _ _ _ _ _ _ _ _ _ _ _ _ _ _ _ _ _ _ _) eX6_fail_9 pX6_169 rfl (Nat.le_of_ble_eq_true rfl) (by decide) rfl ?_
    refine x_aload0 eX6_fail_12 ?_
    refine x_aload0 eX6_fail_13 ?_
    refine x_get eX6_fail_14 fX6_149 rfl rfl ?_
    refine x_puti (w' := WM _ _ _ _ _ _ _ _ _ _ _ _ _ _ _ _ _ _ _ _ _ _ _ _ _ _ _ _ _ _ _ _ _ _ _ _ _ _ _ _ _ _ _ _ _ _) eX6_fail_17 pX6_173 rfl (Nat.le_of_ble_eq_true rfl) rfl ?_
    subst hm
    exact x_vret eX6_fail_20 ⟨rfl, rfl⟩
set_option maxRecDepth 4000 in
theorem t_X6_opens {o : Int32 × Int32 × Int32 × Int32 × Int32 × Int32 × Int32 × Int64}  (hm : sp_X6_opens m_from m_size m_here m_token m_tokenAt m_open m_bad m_fault m_tokenWorth m_texts = some o) : xt_M yX6_opens cX6_opens 1 (some .boolean) (d + 2) [.ref 0] (WM m_thrown m_textCount m_rule m_taped m_n m_minds m_lasts m_cutNow m_year m_ofNode m_ofDepth m_ofKids m_ofTwigs m_ofLast m_ofYear m_from m_size m_here m_token m_tokenAt m_open m_bad m_fault m_nKept m_mindsKept m_lastsKept m_cutKept m_yearKept m_ruleKept m_tokenWorth m_texts m_textSize m_tape m_parents m_kinds m_numbers m_odds m_yes m_no m_prices m_numbersKept m_oddsKept m_isThere m_sorts m_sheetSize m_items) (xt_Ki o.1 (WM m_thrown m_textCount m_rule m_taped m_n m_minds m_lasts m_cutNow m_year m_ofNode m_ofDepth m_ofKids m_ofTwigs m_ofLast m_ofYear m_from m_size o.2.1 o.2.2.1 o.2.2.2.1 o.2.2.2.2.1 o.2.2.2.2.2.1 o.2.2.2.2.2.2.1 m_nKept m_mindsKept m_lastsKept m_cutKept m_yearKept m_ruleKept o.2.2.2.2.2.2.2 m_texts m_textSize m_tape m_parents m_kinds m_numbers m_odds m_yes m_no m_prices m_numbersKept m_oddsKept m_isThere m_sorts m_sheetSize m_items)) := by
  unfold sp_X6_opens at hm
  refine xt_M.go (own := RX6) (lv := [some (.ref 0)]) rfl rfl (Nat.le_of_ble_eq_true rfl) rfl ?_
  refine x_aload0 eX6_opens_0 ?_
  refine x_get eX6_opens_1 fX6_179 rfl rfl ?_
  refine x_k eX6_opens_4 ?_
  refine x_icmp_ne eX6_opens_5 (fun c => ?_) (fun c => ?_)
  · rw [if_neg c] at hm
    refine x_aload0 eX6_opens_14 ?_
    refine x_dup eX6_opens_15 rfl ?_
    refine x_get eX6_opens_16 fX6_179 rfl rfl ?_
    refine x_k eX6_opens_19 ?_
    refine x_iadd eX6_opens_20 ?_
    refine x_puti (w' := WM _ _ _ _ _ _ _ _ _ _ _ _ _ _ _ _ _ _ _ _ _ _ _ _ _ _ _ _ _ _ _ _ _ _ _ _ _ _ _ _ _ _ _ _ _ _) eX6_opens_21 pX6_179 rfl (Nat.le_of_ble_eq_true rfl) rfl ?_
    refine x_aload0 eX6_opens_24 ?_
    obtain ⟨r1, hr, hm⟩ := xo_bind hm
    refine x_Vv0 eX6_opens_25 kX6_next mX6_185 (t_X6_next hr) rfl (Nat.le_of_ble_eq_true rfl) ?_
    refine x_k eX6_opens_28 ?_
    obtain rfl := Option.some.inj hm
    exact x_zret eX6_opens_29 (by decide) ⟨rfl, rfl⟩
  · rw [if_pos c] at hm
    refine x_aload0 eX6_opens_8 ?_
    refine x_Vv0 eX6_opens_9 kX6_fail mX6_182 (t_X6_fail rfl) rfl (Nat.le_of_ble_eq_true rfl) ?_
    refine x_k eX6_opens_12 ?_
    obtain rfl := Option.some.inj hm
    exact x_zret eX6_opens_13 (by decide) ⟨rfl, rfl⟩
set_option maxRecDepth 4000 in
theorem t_X6_name {o : Int32 × Int32 × Int32}  (hm : sp_X6_name m_ofNode m_ofDepth m_ofKids m_ofTwigs m_ofLast m_ofYear m_from m_size m_here m_token m_tokenAt m_bad m_fault m_texts = some o) : xt_M yX6_name cX6_name 1 (some .int) (d + 3) [.ref 0] (WM m_thrown m_textCount m_rule m_taped m_n m_minds m_lasts m_cutNow m_year m_ofNode m_ofDepth m_ofKids m_ofTwigs m_ofLast m_ofYear m_from m_size m_here m_token m_tokenAt m_open m_bad m_fault m_nKept m_mindsKept m_lastsKept m_cutKept m_yearKept m_ruleKept m_tokenWorth m_texts m_textSize m_tape m_parents m_kinds m_numbers m_odds m_yes m_no m_prices m_numbersKept m_oddsKept m_isThere m_sorts m_sheetSize m_items) (xt_Ki o.1 (WM m_thrown m_textCount m_rule m_taped m_n m_minds m_lasts m_cutNow m_year m_ofNode m_ofDepth m_ofKids m_ofTwigs m_ofLast m_ofYear m_from m_size m_here m_token m_tokenAt m_open o.2.1 o.2.2 m_nKept m_mindsKept m_lastsKept m_cutKept m_yearKept m_ruleKept m_tokenWorth m_texts m_textSize m_tape m_parents m_kinds m_numbers m_odds m_yes m_no m_prices m_numbersKept m_oddsKept m_isThere m_sorts m_sheetSize m_items)) := by
  unfold sp_X6_name at hm
  refine xt_M.go (own := RX6) (lv := [some (.ref 0)]) rfl rfl (Nat.le_of_ble_eq_true rfl) rfl ?_
  refine x_aload0 eX6_name_0 ?_
  refine x_k eX6_name_1 ?_
  refine x_k eX6_name_3 ?_
  refine x_k eX6_name_5 ?_
  refine x_k eX6_name_7 ?_
  refine x_k eX6_name_9 ?_
  refine x_k eX6_name_10 ?_
  refine x_k eX6_name_11 ?_
  refine x_k eX6_name_12 ?_
  obtain ⟨r1, hr, hm⟩ := xo_bind hm
  refine x_Vi8 eX6_name_13 kX6_isWord mX6_188 (t_X6_isWord hr) rfl (Nat.le_of_ble_eq_true rfl) ?_
  refine x_if_eq eX6_name_16 (fun c => ?_) (fun c => ?_)
  · rw [if_pos c] at hm
    refine x_aload0 eX6_name_24 ?_
    refine x_k eX6_name_25 ?_
    refine x_k eX6_name_27 ?_
    refine x_k eX6_name_29 ?_
    refine x_k eX6_name_31 ?_
    refine x_k eX6_name_33 ?_
    refine x_k eX6_name_35 ?_
    refine x_k eX6_name_36 ?_
    refine x_k eX6_name_37 ?_
    obtain ⟨r2, hr, hm⟩ := xo_bind hm
    refine x_Vi8 eX6_name_38 kX6_isWord mX6_188 (t_X6_isWord hr) rfl (Nat.le_of_ble_eq_true rfl) ?_
    refine x_if_eq eX6_name_41 (fun c => ?_) (fun c => ?_)
    · rw [if_pos c] at hm
      refine x_aload0 eX6_name_49 ?_
      refine x_k eX6_name_50 ?_
      refine x_k eX6_name_52 ?_
      refine x_k eX6_name_54 ?_
      refine x_k eX6_name_56 ?_
      refine x_k eX6_name_58 ?_
      refine x_k eX6_name_59 ?_
      refine x_k eX6_name_60 ?_
      refine x_k eX6_name_61 ?_
      obtain ⟨r3, hr, hm⟩ := xo_bind hm
      refine x_Vi8 eX6_name_62 kX6_isWord mX6_188 (t_X6_isWord hr) rfl (Nat.le_of_ble_eq_true rfl) ?_
      refine x_if_eq eX6_name_65 (fun c => ?_) (fun c => ?_)
      · rw [if_pos c] at hm
        refine x_aload0 eX6_name_73 ?_
        refine x_k eX6_name_74 ?_
        refine x_k eX6_name_76 ?_
        refine x_k eX6_name_78 ?_
        refine x_k eX6_name_80 ?_
        refine x_k eX6_name_82 ?_
        refine x_k eX6_name_84 ?_
        refine x_k eX6_name_85 ?_
        refine x_k eX6_name_86 ?_
        obtain ⟨r4, hr, hm⟩ := xo_bind hm
        refine x_Vi8 eX6_name_87 kX6_isWord mX6_188 (t_X6_isWord hr) rfl (Nat.le_of_ble_eq_true rfl) ?_
        refine x_if_eq eX6_name_90 (fun c => ?_) (fun c => ?_)
        · rw [if_pos c] at hm
          refine x_aload0 eX6_name_98 ?_
          refine x_k eX6_name_99 ?_
          refine x_k eX6_name_101 ?_
          refine x_k eX6_name_103 ?_
          refine x_k eX6_name_105 ?_
          refine x_k eX6_name_107 ?_
          refine x_k eX6_name_108 ?_
          refine x_k eX6_name_109 ?_
          refine x_k eX6_name_110 ?_
          obtain ⟨r5, hr, hm⟩ := xo_bind hm
          refine x_Vi8 eX6_name_111 kX6_isWord mX6_188 (t_X6_isWord hr) rfl (Nat.le_of_ble_eq_true rfl) ?_
          refine x_if_eq eX6_name_114 (fun c => ?_) (fun c => ?_)
          · rw [if_pos c] at hm
            refine x_aload0 eX6_name_122 ?_
            refine x_k eX6_name_123 ?_
            refine x_k eX6_name_125 ?_
            refine x_k eX6_name_127 ?_
            refine x_k eX6_name_129 ?_
            refine x_k eX6_name_131 ?_
            refine x_k eX6_name_132 ?_
            refine x_k eX6_name_133 ?_
            refine x_k eX6_name_134 ?_
            obtain ⟨r6, hr, hm⟩ := xo_bind hm
            refine x_Vi8 eX6_name_135 kX6_isWord mX6_188 (t_X6_isWord hr) rfl (Nat.le_of_ble_eq_true rfl) ?_
            refine x_if_eq eX6_name_138 (fun c => ?_) (fun c => ?_)
            · rw [if_pos c] at hm
              refine x_aload0 eX6_name_146 ?_
              refine x_Vv0 eX6_name_147 kX6_fail mX6_182 (t_X6_fail rfl) rfl (Nat.le_of_ble_eq_true rfl) ?_
              refine x_k eX6_name_150 ?_
              obtain rfl := Option.some.inj hm
              exact x_iret eX6_name_151 ⟨rfl, rfl⟩
            · rw [if_neg c] at hm
              refine x_aload0 eX6_name_141 ?_
              refine x_get eX6_name_142 fX6_207 rfl rfl ?_
              obtain rfl := Option.some.inj hm
              exact x_iret eX6_name_145 ⟨rfl, rfl⟩
          · rw [if_neg c] at hm
            refine x_aload0 eX6_name_117 ?_
            refine x_get eX6_name_118 fX6_204 rfl rfl ?_
            obtain rfl := Option.some.inj hm
            exact x_iret eX6_name_121 ⟨rfl, rfl⟩
        · rw [if_neg c] at hm
          refine x_aload0 eX6_name_93 ?_
          refine x_get eX6_name_94 fX6_201 rfl rfl ?_
          obtain rfl := Option.some.inj hm
          exact x_iret eX6_name_97 ⟨rfl, rfl⟩
      · rw [if_neg c] at hm
        refine x_aload0 eX6_name_68 ?_
        refine x_get eX6_name_69 fX6_198 rfl rfl ?_
        obtain rfl := Option.some.inj hm
        exact x_iret eX6_name_72 ⟨rfl, rfl⟩
    · rw [if_neg c] at hm
      refine x_aload0 eX6_name_44 ?_
      refine x_get eX6_name_45 fX6_195 rfl rfl ?_
      obtain rfl := Option.some.inj hm
      exact x_iret eX6_name_48 ⟨rfl, rfl⟩
  · rw [if_neg c] at hm
    refine x_aload0 eX6_name_19 ?_
    refine x_get eX6_name_20 fX6_192 rfl rfl ?_
    obtain rfl := Option.some.inj hm
    exact x_iret eX6_name_23 ⟨rfl, rfl⟩
set_option maxRecDepth 4000 in
theorem l_X6_either_5 {o : Int32 × Int32 × Int32 × Int32 × Int32 × Int32 × Int32 × Int64} {R : Nat → Int32 → Int32 → Int32 → Int32 → Int32 → Int32 → Int32 → Int32 → Int32 → Int32 → Int32 → Int32 → Int32 → Int32 → Int64 → (Nat → Int32) → Option (Int32 × Int32 × Int32 × Int32 × Int32 × Int32 × Int32 × Int64)} (hR1 : ∀  {z_m_thrown : Int32} {z_m_textCount : Int32} {z_m_rule : Int32} {z_m_taped : Int32} {z_m_n : Int32} {z_m_minds : Int32} {z_m_lasts : Int32} {z_m_cutNow : Int32} {z_m_year : Int32} {z_m_ofNode : Int32} {z_m_ofDepth : Int32} {z_m_ofKids : Int32} {z_m_ofTwigs : Int32} {z_m_ofLast : Int32} {z_m_ofYear : Int32} {z_m_from : Int32} {z_m_size : Int32} {z_m_here : Int32} {z_m_token : Int32} {z_m_tokenAt : Int32} {z_m_open : Int32} {z_m_bad : Int32} {z_m_fault : Int32} {z_m_nKept : Int32} {z_m_mindsKept : Int32} {z_m_lastsKept : Int32} {z_m_cutKept : Int32} {z_m_yearKept : Int32} {z_m_ruleKept : Int32} {z_m_tokenWorth : Int64} {z_m_texts : Nat → Int32} {z_m_textSize : Nat → Int32} {z_m_tape : Nat → Int32} {z_m_parents : Nat → Int32} {z_m_kinds : Nat → Int32} {z_m_numbers : Nat → Int32} {z_m_odds : Nat → Int32} {z_m_yes : Nat → Int32} {z_m_no : Nat → Int32} {z_m_prices : Nat → Int32} {z_m_numbersKept : Nat → Int32} {z_m_oddsKept : Nat → Int32} {z_m_isThere : Nat → Int32} {z_m_sorts : Nat → Int32} {z_m_sheetSize : Nat → Int32} {z_m_items : Nat → Int32} {r : Int32 × Int32 × Int32 × Int32 × Int32 × Int32 × Int32 × Int64}, R 1 z_m_ofNode z_m_ofDepth z_m_ofKids z_m_ofTwigs z_m_ofLast z_m_ofYear z_m_from z_m_size z_m_here z_m_token z_m_tokenAt z_m_open z_m_bad z_m_fault z_m_tokenWorth z_m_texts = some r → xt_M yX6_both cX6_both 3 (some .int) (d + 4) [.ref 0] (WM z_m_thrown z_m_textCount z_m_rule z_m_taped z_m_n z_m_minds z_m_lasts z_m_cutNow z_m_year z_m_ofNode z_m_ofDepth z_m_ofKids z_m_ofTwigs z_m_ofLast z_m_ofYear z_m_from z_m_size z_m_here z_m_token z_m_tokenAt z_m_open z_m_bad z_m_fault z_m_nKept z_m_mindsKept z_m_lastsKept z_m_cutKept z_m_yearKept z_m_ruleKept z_m_tokenWorth z_m_texts z_m_textSize z_m_tape z_m_parents z_m_kinds z_m_numbers z_m_odds z_m_yes z_m_no z_m_prices z_m_numbersKept z_m_oddsKept z_m_isThere z_m_sorts z_m_sheetSize z_m_items) (xt_Ki r.1 (WM z_m_thrown z_m_textCount z_m_rule z_m_taped z_m_n z_m_minds z_m_lasts z_m_cutNow z_m_year z_m_ofNode z_m_ofDepth z_m_ofKids z_m_ofTwigs z_m_ofLast z_m_ofYear z_m_from z_m_size r.2.1 r.2.2.1 r.2.2.2.1 r.2.2.2.2.1 r.2.2.2.2.2.1 r.2.2.2.2.2.2.1 z_m_nKept z_m_mindsKept z_m_lastsKept z_m_cutKept z_m_yearKept z_m_ruleKept r.2.2.2.2.2.2.2 z_m_texts z_m_textSize z_m_tape z_m_parents z_m_kinds z_m_numbers z_m_odds z_m_yes z_m_no z_m_prices z_m_numbersKept z_m_oddsKept z_m_isThere z_m_sorts z_m_sheetSize z_m_items))) {m_ofNode : Int32} {m_ofDepth : Int32} {m_ofKids : Int32} {m_ofTwigs : Int32} {m_ofLast : Int32} {m_ofYear : Int32} {m_from : Int32} {m_size : Int32} {m_texts : Nat → Int32} : ∀ (n : Nat) {u1 : Int32} {m_here : Int32} {m_token : Int32} {m_tokenAt : Int32} {m_open : Int32} {m_bad : Int32} {m_fault : Int32} {m_tokenWorth : Int64}, sp_X6_either_5 R m_ofNode m_ofDepth m_ofKids m_ofTwigs m_ofLast m_ofYear m_from m_size m_texts n u1 m_here m_token m_tokenAt m_open m_bad m_fault m_tokenWorth = some o → xt_T RX6 cX6_either 3 (some .int) (d + 4 + 1) (xt_Ki o.1 (WM m_thrown m_textCount m_rule m_taped m_n m_minds m_lasts m_cutNow m_year m_ofNode m_ofDepth m_ofKids m_ofTwigs m_ofLast m_ofYear m_from m_size o.2.1 o.2.2.1 o.2.2.2.1 o.2.2.2.2.1 o.2.2.2.2.2.1 o.2.2.2.2.2.2.1 m_nKept m_mindsKept m_lastsKept m_cutKept m_yearKept m_ruleKept o.2.2.2.2.2.2.2 m_texts m_textSize m_tape m_parents m_kinds m_numbers m_odds m_yes m_no m_prices m_numbersKept m_oddsKept m_isThere m_sorts m_sheetSize m_items)) 5 [some (.ref 0), some (.int u1), none] [] (WM m_thrown m_textCount m_rule m_taped m_n m_minds m_lasts m_cutNow m_year m_ofNode m_ofDepth m_ofKids m_ofTwigs m_ofLast m_ofYear m_from m_size m_here m_token m_tokenAt m_open m_bad m_fault m_nKept m_mindsKept m_lastsKept m_cutKept m_yearKept m_ruleKept m_tokenWorth m_texts m_textSize m_tape m_parents m_kinds m_numbers m_odds m_yes m_no m_prices m_numbersKept m_oddsKept m_isThere m_sorts m_sheetSize m_items) := by
  intro n
  induction n with
  | zero => intro u1 m_here m_token m_tokenAt m_open m_bad m_fault m_tokenWorth hm; rw [sp_X6_either_5] at hm; cases hm
  | succ n ih =>
    intro u1 m_here m_token m_tokenAt m_open m_bad m_fault m_tokenWorth hm
    rw [sp_X6_either_5] at hm
    refine x_aload0 eX6_either_5 ?_
    refine x_k eX6_either_6 ?_
    refine x_k eX6_either_8 ?_
    refine x_k eX6_either_10 ?_
    refine x_k eX6_either_11 ?_
    refine x_k eX6_either_12 ?_
    refine x_k eX6_either_13 ?_
    refine x_k eX6_either_14 ?_
    refine x_k eX6_either_15 ?_
    obtain ⟨r2, hr, hm⟩ := xo_bind hm
    refine x_Vi8 eX6_either_16 kX6_isWord mX6_188 (t_X6_isWord hr) rfl (Nat.le_of_ble_eq_true rfl) ?_
    refine x_if_eq eX6_either_19 (fun c => ?_) (fun c => ?_)
    · rw [if_pos c] at hm
      refine x_iload1 eX6_either_48 ?_
      obtain rfl := Option.some.inj hm
      exact x_iret eX6_either_49 ⟨rfl, rfl⟩
    · rw [if_neg c] at hm
      refine x_aload0 eX6_either_22 ?_
      obtain ⟨r3, hr, hm⟩ := xo_bind hm
      refine x_Vv0 eX6_either_23 kX6_next mX6_185 (t_X6_next hr) rfl (Nat.le_of_ble_eq_true rfl) ?_
      refine x_aload0 eX6_either_26 ?_
      obtain ⟨r4, hr, hm⟩ := xo_bind hm
      refine x_Vi0 eX6_either_27 kX6_both mX6_240 (hR1 hr) rfl (Nat.le_of_ble_eq_true rfl) ?_
      refine x_istore2 eX6_either_30 rfl ?_
      refine x_iload1 eX6_either_31 ?_
      refine x_if_ne eX6_either_32 (fun c => ?_) (fun c => ?_)
      · rw [if_neg c] at hm
        refine x_k eX6_either_39 ?_
        refine x_goto eX6_either_40 ?_
        refine x_istore1 eX6_either_44 rfl ?_
        refine x_goto eX6_either_45 ?_
        exact x_weak (by simp [xt_le]) (ih hm)
      · rw [if_pos c] at hm
        refine x_iload2 eX6_either_35 ?_
        refine x_if_eq eX6_either_36 (fun c => ?_) (fun c => ?_)
        · rw [if_pos c] at hm
          refine x_k eX6_either_43 ?_
          refine x_istore1 eX6_either_44 rfl ?_
          refine x_goto eX6_either_45 ?_
          exact x_weak (by simp [xt_le]) (ih hm)
        · rw [if_neg c] at hm
          refine x_k eX6_either_39 ?_
          refine x_goto eX6_either_40 ?_
          refine x_istore1 eX6_either_44 rfl ?_
          refine x_goto eX6_either_45 ?_
          exact x_weak (by simp [xt_le]) (ih hm)
set_option maxRecDepth 4000 in
theorem t_X6_either {o : Int32 × Int32 × Int32 × Int32 × Int32 × Int32 × Int32 × Int64} {R : Nat → Int32 → Int32 → Int32 → Int32 → Int32 → Int32 → Int32 → Int32 → Int32 → Int32 → Int32 → Int32 → Int32 → Int32 → Int64 → (Nat → Int32) → Option (Int32 × Int32 × Int32 × Int32 × Int32 × Int32 × Int32 × Int64)} (hR1 : ∀  {z_m_thrown : Int32} {z_m_textCount : Int32} {z_m_rule : Int32} {z_m_taped : Int32} {z_m_n : Int32} {z_m_minds : Int32} {z_m_lasts : Int32} {z_m_cutNow : Int32} {z_m_year : Int32} {z_m_ofNode : Int32} {z_m_ofDepth : Int32} {z_m_ofKids : Int32} {z_m_ofTwigs : Int32} {z_m_ofLast : Int32} {z_m_ofYear : Int32} {z_m_from : Int32} {z_m_size : Int32} {z_m_here : Int32} {z_m_token : Int32} {z_m_tokenAt : Int32} {z_m_open : Int32} {z_m_bad : Int32} {z_m_fault : Int32} {z_m_nKept : Int32} {z_m_mindsKept : Int32} {z_m_lastsKept : Int32} {z_m_cutKept : Int32} {z_m_yearKept : Int32} {z_m_ruleKept : Int32} {z_m_tokenWorth : Int64} {z_m_texts : Nat → Int32} {z_m_textSize : Nat → Int32} {z_m_tape : Nat → Int32} {z_m_parents : Nat → Int32} {z_m_kinds : Nat → Int32} {z_m_numbers : Nat → Int32} {z_m_odds : Nat → Int32} {z_m_yes : Nat → Int32} {z_m_no : Nat → Int32} {z_m_prices : Nat → Int32} {z_m_numbersKept : Nat → Int32} {z_m_oddsKept : Nat → Int32} {z_m_isThere : Nat → Int32} {z_m_sorts : Nat → Int32} {z_m_sheetSize : Nat → Int32} {z_m_items : Nat → Int32} {r : Int32 × Int32 × Int32 × Int32 × Int32 × Int32 × Int32 × Int64}, R 1 z_m_ofNode z_m_ofDepth z_m_ofKids z_m_ofTwigs z_m_ofLast z_m_ofYear z_m_from z_m_size z_m_here z_m_token z_m_tokenAt z_m_open z_m_bad z_m_fault z_m_tokenWorth z_m_texts = some r → xt_M yX6_both cX6_both 3 (some .int) (d + 4) [.ref 0] (WM z_m_thrown z_m_textCount z_m_rule z_m_taped z_m_n z_m_minds z_m_lasts z_m_cutNow z_m_year z_m_ofNode z_m_ofDepth z_m_ofKids z_m_ofTwigs z_m_ofLast z_m_ofYear z_m_from z_m_size z_m_here z_m_token z_m_tokenAt z_m_open z_m_bad z_m_fault z_m_nKept z_m_mindsKept z_m_lastsKept z_m_cutKept z_m_yearKept z_m_ruleKept z_m_tokenWorth z_m_texts z_m_textSize z_m_tape z_m_parents z_m_kinds z_m_numbers z_m_odds z_m_yes z_m_no z_m_prices z_m_numbersKept z_m_oddsKept z_m_isThere z_m_sorts z_m_sheetSize z_m_items) (xt_Ki r.1 (WM z_m_thrown z_m_textCount z_m_rule z_m_taped z_m_n z_m_minds z_m_lasts z_m_cutNow z_m_year z_m_ofNode z_m_ofDepth z_m_ofKids z_m_ofTwigs z_m_ofLast z_m_ofYear z_m_from z_m_size r.2.1 r.2.2.1 r.2.2.2.1 r.2.2.2.2.1 r.2.2.2.2.2.1 r.2.2.2.2.2.2.1 z_m_nKept z_m_mindsKept z_m_lastsKept z_m_cutKept z_m_yearKept z_m_ruleKept r.2.2.2.2.2.2.2 z_m_texts z_m_textSize z_m_tape z_m_parents z_m_kinds z_m_numbers z_m_odds z_m_yes z_m_no z_m_prices z_m_numbersKept z_m_oddsKept z_m_isThere z_m_sorts z_m_sheetSize z_m_items)))  (hm : sp_X6_either R m_ofNode m_ofDepth m_ofKids m_ofTwigs m_ofLast m_ofYear m_from m_size m_here m_token m_tokenAt m_open m_bad m_fault m_tokenWorth m_texts = some o) : xt_M yX6_either cX6_either 3 (some .int) (d + 4 + 1) [.ref 0] (WM m_thrown m_textCount m_rule m_taped m_n m_minds m_lasts m_cutNow m_year m_ofNode m_ofDepth m_ofKids m_ofTwigs m_ofLast m_ofYear m_from m_size m_here m_token m_tokenAt m_open m_bad m_fault m_nKept m_mindsKept m_lastsKept m_cutKept m_yearKept m_ruleKept m_tokenWorth m_texts m_textSize m_tape m_parents m_kinds m_numbers m_odds m_yes m_no m_prices m_numbersKept m_oddsKept m_isThere m_sorts m_sheetSize m_items) (xt_Ki o.1 (WM m_thrown m_textCount m_rule m_taped m_n m_minds m_lasts m_cutNow m_year m_ofNode m_ofDepth m_ofKids m_ofTwigs m_ofLast m_ofYear m_from m_size o.2.1 o.2.2.1 o.2.2.2.1 o.2.2.2.2.1 o.2.2.2.2.2.1 o.2.2.2.2.2.2.1 m_nKept m_mindsKept m_lastsKept m_cutKept m_yearKept m_ruleKept o.2.2.2.2.2.2.2 m_texts m_textSize m_tape m_parents m_kinds m_numbers m_odds m_yes m_no m_prices m_numbersKept m_oddsKept m_isThere m_sorts m_sheetSize m_items)) := by
  unfold sp_X6_either at hm
  refine xt_M.go (own := RX6) (lv := [some (.ref 0), none, none]) rfl rfl (Nat.le_of_ble_eq_true rfl) rfl ?_
  refine x_aload0 eX6_either_0 ?_
  obtain ⟨r1, hr, hm⟩ := xo_bind hm
  refine x_Vi0 eX6_either_1 kX6_both mX6_240 (hR1 hr) rfl (Nat.le_of_ble_eq_true rfl) ?_
  refine x_istore1 eX6_either_4 rfl ?_
  exact l_X6_either_5 hR1 _ hm
set_option maxRecDepth 4000 in
theorem l_X6_both_5 {o : Int32 × Int32 × Int32 × Int32 × Int32 × Int32 × Int32 × Int64} {R : Nat → Int32 → Int32 → Int32 → Int32 → Int32 → Int32 → Int32 → Int32 → Int32 → Int32 → Int32 → Int32 → Int32 → Int32 → Int64 → (Nat → Int32) → Option (Int32 × Int32 × Int32 × Int32 × Int32 × Int32 × Int32 × Int64)} (hR2 : ∀  {z_m_thrown : Int32} {z_m_textCount : Int32} {z_m_rule : Int32} {z_m_taped : Int32} {z_m_n : Int32} {z_m_minds : Int32} {z_m_lasts : Int32} {z_m_cutNow : Int32} {z_m_year : Int32} {z_m_ofNode : Int32} {z_m_ofDepth : Int32} {z_m_ofKids : Int32} {z_m_ofTwigs : Int32} {z_m_ofLast : Int32} {z_m_ofYear : Int32} {z_m_from : Int32} {z_m_size : Int32} {z_m_here : Int32} {z_m_token : Int32} {z_m_tokenAt : Int32} {z_m_open : Int32} {z_m_bad : Int32} {z_m_fault : Int32} {z_m_nKept : Int32} {z_m_mindsKept : Int32} {z_m_lastsKept : Int32} {z_m_cutKept : Int32} {z_m_yearKept : Int32} {z_m_ruleKept : Int32} {z_m_tokenWorth : Int64} {z_m_texts : Nat → Int32} {z_m_textSize : Nat → Int32} {z_m_tape : Nat → Int32} {z_m_parents : Nat → Int32} {z_m_kinds : Nat → Int32} {z_m_numbers : Nat → Int32} {z_m_odds : Nat → Int32} {z_m_yes : Nat → Int32} {z_m_no : Nat → Int32} {z_m_prices : Nat → Int32} {z_m_numbersKept : Nat → Int32} {z_m_oddsKept : Nat → Int32} {z_m_isThere : Nat → Int32} {z_m_sorts : Nat → Int32} {z_m_sheetSize : Nat → Int32} {z_m_items : Nat → Int32} {r : Int32 × Int32 × Int32 × Int32 × Int32 × Int32 × Int32 × Int64}, R 2 z_m_ofNode z_m_ofDepth z_m_ofKids z_m_ofTwigs z_m_ofLast z_m_ofYear z_m_from z_m_size z_m_here z_m_token z_m_tokenAt z_m_open z_m_bad z_m_fault z_m_tokenWorth z_m_texts = some r → xt_M yX6_not cX6_not 4 (some .int) (d + 4) [.ref 0] (WM z_m_thrown z_m_textCount z_m_rule z_m_taped z_m_n z_m_minds z_m_lasts z_m_cutNow z_m_year z_m_ofNode z_m_ofDepth z_m_ofKids z_m_ofTwigs z_m_ofLast z_m_ofYear z_m_from z_m_size z_m_here z_m_token z_m_tokenAt z_m_open z_m_bad z_m_fault z_m_nKept z_m_mindsKept z_m_lastsKept z_m_cutKept z_m_yearKept z_m_ruleKept z_m_tokenWorth z_m_texts z_m_textSize z_m_tape z_m_parents z_m_kinds z_m_numbers z_m_odds z_m_yes z_m_no z_m_prices z_m_numbersKept z_m_oddsKept z_m_isThere z_m_sorts z_m_sheetSize z_m_items) (xt_Ki r.1 (WM z_m_thrown z_m_textCount z_m_rule z_m_taped z_m_n z_m_minds z_m_lasts z_m_cutNow z_m_year z_m_ofNode z_m_ofDepth z_m_ofKids z_m_ofTwigs z_m_ofLast z_m_ofYear z_m_from z_m_size r.2.1 r.2.2.1 r.2.2.2.1 r.2.2.2.2.1 r.2.2.2.2.2.1 r.2.2.2.2.2.2.1 z_m_nKept z_m_mindsKept z_m_lastsKept z_m_cutKept z_m_yearKept z_m_ruleKept r.2.2.2.2.2.2.2 z_m_texts z_m_textSize z_m_tape z_m_parents z_m_kinds z_m_numbers z_m_odds z_m_yes z_m_no z_m_prices z_m_numbersKept z_m_oddsKept z_m_isThere z_m_sorts z_m_sheetSize z_m_items))) {m_ofNode : Int32} {m_ofDepth : Int32} {m_ofKids : Int32} {m_ofTwigs : Int32} {m_ofLast : Int32} {m_ofYear : Int32} {m_from : Int32} {m_size : Int32} {m_texts : Nat → Int32} : ∀ (n : Nat) {u1 : Int32} {m_here : Int32} {m_token : Int32} {m_tokenAt : Int32} {m_open : Int32} {m_bad : Int32} {m_fault : Int32} {m_tokenWorth : Int64}, sp_X6_both_5 R m_ofNode m_ofDepth m_ofKids m_ofTwigs m_ofLast m_ofYear m_from m_size m_texts n u1 m_here m_token m_tokenAt m_open m_bad m_fault m_tokenWorth = some o → xt_T RX6 cX6_both 3 (some .int) (d + 4 + 1) (xt_Ki o.1 (WM m_thrown m_textCount m_rule m_taped m_n m_minds m_lasts m_cutNow m_year m_ofNode m_ofDepth m_ofKids m_ofTwigs m_ofLast m_ofYear m_from m_size o.2.1 o.2.2.1 o.2.2.2.1 o.2.2.2.2.1 o.2.2.2.2.2.1 o.2.2.2.2.2.2.1 m_nKept m_mindsKept m_lastsKept m_cutKept m_yearKept m_ruleKept o.2.2.2.2.2.2.2 m_texts m_textSize m_tape m_parents m_kinds m_numbers m_odds m_yes m_no m_prices m_numbersKept m_oddsKept m_isThere m_sorts m_sheetSize m_items)) 5 [some (.ref 0), some (.int u1), none] [] (WM m_thrown m_textCount m_rule m_taped m_n m_minds m_lasts m_cutNow m_year m_ofNode m_ofDepth m_ofKids m_ofTwigs m_ofLast m_ofYear m_from m_size m_here m_token m_tokenAt m_open m_bad m_fault m_nKept m_mindsKept m_lastsKept m_cutKept m_yearKept m_ruleKept m_tokenWorth m_texts m_textSize m_tape m_parents m_kinds m_numbers m_odds m_yes m_no m_prices m_numbersKept m_oddsKept m_isThere m_sorts m_sheetSize m_items) := by
  intro n
  induction n with
  | zero => intro u1 m_here m_token m_tokenAt m_open m_bad m_fault m_tokenWorth hm; rw [sp_X6_both_5] at hm; cases hm
  | succ n ih =>
    intro u1 m_here m_token m_tokenAt m_open m_bad m_fault m_tokenWorth hm
    rw [sp_X6_both_5] at hm
    refine x_aload0 eX6_both_5 ?_
    refine x_k eX6_both_6 ?_
    refine x_k eX6_both_8 ?_
    refine x_k eX6_both_10 ?_
    refine x_k eX6_both_12 ?_
    refine x_k eX6_both_13 ?_
    refine x_k eX6_both_14 ?_
    refine x_k eX6_both_15 ?_
    refine x_k eX6_both_16 ?_
    obtain ⟨r2, hr, hm⟩ := xo_bind hm
    refine x_Vi8 eX6_both_17 kX6_isWord mX6_188 (t_X6_isWord hr) rfl (Nat.le_of_ble_eq_true rfl) ?_
    refine x_if_eq eX6_both_20 (fun c => ?_) (fun c => ?_)
    · rw [if_pos c] at hm
      refine x_iload1 eX6_both_49 ?_
      obtain rfl := Option.some.inj hm
      exact x_iret eX6_both_50 ⟨rfl, rfl⟩
    · rw [if_neg c] at hm
      refine x_aload0 eX6_both_23 ?_
      obtain ⟨r3, hr, hm⟩ := xo_bind hm
      refine x_Vv0 eX6_both_24 kX6_next mX6_185 (t_X6_next hr) rfl (Nat.le_of_ble_eq_true rfl) ?_
      refine x_aload0 eX6_both_27 ?_
      obtain ⟨r4, hr, hm⟩ := xo_bind hm
      refine x_Vi0 eX6_both_28 kX6_not mX6_232 (hR2 hr) rfl (Nat.le_of_ble_eq_true rfl) ?_
      refine x_istore2 eX6_both_31 rfl ?_
      refine x_iload1 eX6_both_32 ?_
      refine x_if_eq eX6_both_33 (fun c => ?_) (fun c => ?_)
      · rw [if_pos c] at hm
        refine x_k eX6_both_44 ?_
        refine x_istore1 eX6_both_45 rfl ?_
        refine x_goto eX6_both_46 ?_
        exact x_weak (by simp [xt_le]) (ih hm)
      · rw [if_neg c] at hm
        refine x_iload2 eX6_both_36 ?_
        refine x_if_eq eX6_both_37 (fun c => ?_) (fun c => ?_)
        · rw [if_pos c] at hm
          refine x_k eX6_both_44 ?_
          refine x_istore1 eX6_both_45 rfl ?_
          refine x_goto eX6_both_46 ?_
          exact x_weak (by simp [xt_le]) (ih hm)
        · rw [if_neg c] at hm
          refine x_k eX6_both_40 ?_
          refine x_goto eX6_both_41 ?_
          refine x_istore1 eX6_both_45 rfl ?_
          refine x_goto eX6_both_46 ?_
          exact x_weak (by simp [xt_le]) (ih hm)
set_option maxRecDepth 4000 in
theorem t_X6_both {o : Int32 × Int32 × Int32 × Int32 × Int32 × Int32 × Int32 × Int64} {R : Nat → Int32 → Int32 → Int32 → Int32 → Int32 → Int32 → Int32 → Int32 → Int32 → Int32 → Int32 → Int32 → Int32 → Int32 → Int64 → (Nat → Int32) → Option (Int32 × Int32 × Int32 × Int32 × Int32 × Int32 × Int32 × Int64)} (hR2 : ∀  {z_m_thrown : Int32} {z_m_textCount : Int32} {z_m_rule : Int32} {z_m_taped : Int32} {z_m_n : Int32} {z_m_minds : Int32} {z_m_lasts : Int32} {z_m_cutNow : Int32} {z_m_year : Int32} {z_m_ofNode : Int32} {z_m_ofDepth : Int32} {z_m_ofKids : Int32} {z_m_ofTwigs : Int32} {z_m_ofLast : Int32} {z_m_ofYear : Int32} {z_m_from : Int32} {z_m_size : Int32} {z_m_here : Int32} {z_m_token : Int32} {z_m_tokenAt : Int32} {z_m_open : Int32} {z_m_bad : Int32} {z_m_fault : Int32} {z_m_nKept : Int32} {z_m_mindsKept : Int32} {z_m_lastsKept : Int32} {z_m_cutKept : Int32} {z_m_yearKept : Int32} {z_m_ruleKept : Int32} {z_m_tokenWorth : Int64} {z_m_texts : Nat → Int32} {z_m_textSize : Nat → Int32} {z_m_tape : Nat → Int32} {z_m_parents : Nat → Int32} {z_m_kinds : Nat → Int32} {z_m_numbers : Nat → Int32} {z_m_odds : Nat → Int32} {z_m_yes : Nat → Int32} {z_m_no : Nat → Int32} {z_m_prices : Nat → Int32} {z_m_numbersKept : Nat → Int32} {z_m_oddsKept : Nat → Int32} {z_m_isThere : Nat → Int32} {z_m_sorts : Nat → Int32} {z_m_sheetSize : Nat → Int32} {z_m_items : Nat → Int32} {r : Int32 × Int32 × Int32 × Int32 × Int32 × Int32 × Int32 × Int64}, R 2 z_m_ofNode z_m_ofDepth z_m_ofKids z_m_ofTwigs z_m_ofLast z_m_ofYear z_m_from z_m_size z_m_here z_m_token z_m_tokenAt z_m_open z_m_bad z_m_fault z_m_tokenWorth z_m_texts = some r → xt_M yX6_not cX6_not 4 (some .int) (d + 4) [.ref 0] (WM z_m_thrown z_m_textCount z_m_rule z_m_taped z_m_n z_m_minds z_m_lasts z_m_cutNow z_m_year z_m_ofNode z_m_ofDepth z_m_ofKids z_m_ofTwigs z_m_ofLast z_m_ofYear z_m_from z_m_size z_m_here z_m_token z_m_tokenAt z_m_open z_m_bad z_m_fault z_m_nKept z_m_mindsKept z_m_lastsKept z_m_cutKept z_m_yearKept z_m_ruleKept z_m_tokenWorth z_m_texts z_m_textSize z_m_tape z_m_parents z_m_kinds z_m_numbers z_m_odds z_m_yes z_m_no z_m_prices z_m_numbersKept z_m_oddsKept z_m_isThere z_m_sorts z_m_sheetSize z_m_items) (xt_Ki r.1 (WM z_m_thrown z_m_textCount z_m_rule z_m_taped z_m_n z_m_minds z_m_lasts z_m_cutNow z_m_year z_m_ofNode z_m_ofDepth z_m_ofKids z_m_ofTwigs z_m_ofLast z_m_ofYear z_m_from z_m_size r.2.1 r.2.2.1 r.2.2.2.1 r.2.2.2.2.1 r.2.2.2.2.2.1 r.2.2.2.2.2.2.1 z_m_nKept z_m_mindsKept z_m_lastsKept z_m_cutKept z_m_yearKept z_m_ruleKept r.2.2.2.2.2.2.2 z_m_texts z_m_textSize z_m_tape z_m_parents z_m_kinds z_m_numbers z_m_odds z_m_yes z_m_no z_m_prices z_m_numbersKept z_m_oddsKept z_m_isThere z_m_sorts z_m_sheetSize z_m_items)))  (hm : sp_X6_both R m_ofNode m_ofDepth m_ofKids m_ofTwigs m_ofLast m_ofYear m_from m_size m_here m_token m_tokenAt m_open m_bad m_fault m_tokenWorth m_texts = some o) : xt_M yX6_both cX6_both 3 (some .int) (d + 4 + 1) [.ref 0] (WM m_thrown m_textCount m_rule m_taped m_n m_minds m_lasts m_cutNow m_year m_ofNode m_ofDepth m_ofKids m_ofTwigs m_ofLast m_ofYear m_from m_size m_here m_token m_tokenAt m_open m_bad m_fault m_nKept m_mindsKept m_lastsKept m_cutKept m_yearKept m_ruleKept m_tokenWorth m_texts m_textSize m_tape m_parents m_kinds m_numbers m_odds m_yes m_no m_prices m_numbersKept m_oddsKept m_isThere m_sorts m_sheetSize m_items) (xt_Ki o.1 (WM m_thrown m_textCount m_rule m_taped m_n m_minds m_lasts m_cutNow m_year m_ofNode m_ofDepth m_ofKids m_ofTwigs m_ofLast m_ofYear m_from m_size o.2.1 o.2.2.1 o.2.2.2.1 o.2.2.2.2.1 o.2.2.2.2.2.1 o.2.2.2.2.2.2.1 m_nKept m_mindsKept m_lastsKept m_cutKept m_yearKept m_ruleKept o.2.2.2.2.2.2.2 m_texts m_textSize m_tape m_parents m_kinds m_numbers m_odds m_yes m_no m_prices m_numbersKept m_oddsKept m_isThere m_sorts m_sheetSize m_items)) := by
  unfold sp_X6_both at hm
  refine xt_M.go (own := RX6) (lv := [some (.ref 0), none, none]) rfl rfl (Nat.le_of_ble_eq_true rfl) rfl ?_
  refine x_aload0 eX6_both_0 ?_
  obtain ⟨r1, hr, hm⟩ := xo_bind hm
  refine x_Vi0 eX6_both_1 kX6_not mX6_232 (hR2 hr) rfl (Nat.le_of_ble_eq_true rfl) ?_
  refine x_istore1 eX6_both_4 rfl ?_
  exact l_X6_both_5 hR2 _ hm
set_option maxRecDepth 4000 in
theorem t_X6_not {o : Int32 × Int32 × Int32 × Int32 × Int32 × Int32 × Int32 × Int64} {R : Nat → Int32 → Int32 → Int32 → Int32 → Int32 → Int32 → Int32 → Int32 → Int32 → Int32 → Int32 → Int32 → Int32 → Int32 → Int64 → (Nat → Int32) → Option (Int32 × Int32 × Int32 × Int32 × Int32 × Int32 × Int32 × Int64)} (hR2 : ∀  {z_m_thrown : Int32} {z_m_textCount : Int32} {z_m_rule : Int32} {z_m_taped : Int32} {z_m_n : Int32} {z_m_minds : Int32} {z_m_lasts : Int32} {z_m_cutNow : Int32} {z_m_year : Int32} {z_m_ofNode : Int32} {z_m_ofDepth : Int32} {z_m_ofKids : Int32} {z_m_ofTwigs : Int32} {z_m_ofLast : Int32} {z_m_ofYear : Int32} {z_m_from : Int32} {z_m_size : Int32} {z_m_here : Int32} {z_m_token : Int32} {z_m_tokenAt : Int32} {z_m_open : Int32} {z_m_bad : Int32} {z_m_fault : Int32} {z_m_nKept : Int32} {z_m_mindsKept : Int32} {z_m_lastsKept : Int32} {z_m_cutKept : Int32} {z_m_yearKept : Int32} {z_m_ruleKept : Int32} {z_m_tokenWorth : Int64} {z_m_texts : Nat → Int32} {z_m_textSize : Nat → Int32} {z_m_tape : Nat → Int32} {z_m_parents : Nat → Int32} {z_m_kinds : Nat → Int32} {z_m_numbers : Nat → Int32} {z_m_odds : Nat → Int32} {z_m_yes : Nat → Int32} {z_m_no : Nat → Int32} {z_m_prices : Nat → Int32} {z_m_numbersKept : Nat → Int32} {z_m_oddsKept : Nat → Int32} {z_m_isThere : Nat → Int32} {z_m_sorts : Nat → Int32} {z_m_sheetSize : Nat → Int32} {z_m_items : Nat → Int32} {r : Int32 × Int32 × Int32 × Int32 × Int32 × Int32 × Int32 × Int64}, R 2 z_m_ofNode z_m_ofDepth z_m_ofKids z_m_ofTwigs z_m_ofLast z_m_ofYear z_m_from z_m_size z_m_here z_m_token z_m_tokenAt z_m_open z_m_bad z_m_fault z_m_tokenWorth z_m_texts = some r → xt_M yX6_not cX6_not 4 (some .int) (d + 4) [.ref 0] (WM z_m_thrown z_m_textCount z_m_rule z_m_taped z_m_n z_m_minds z_m_lasts z_m_cutNow z_m_year z_m_ofNode z_m_ofDepth z_m_ofKids z_m_ofTwigs z_m_ofLast z_m_ofYear z_m_from z_m_size z_m_here z_m_token z_m_tokenAt z_m_open z_m_bad z_m_fault z_m_nKept z_m_mindsKept z_m_lastsKept z_m_cutKept z_m_yearKept z_m_ruleKept z_m_tokenWorth z_m_texts z_m_textSize z_m_tape z_m_parents z_m_kinds z_m_numbers z_m_odds z_m_yes z_m_no z_m_prices z_m_numbersKept z_m_oddsKept z_m_isThere z_m_sorts z_m_sheetSize z_m_items) (xt_Ki r.1 (WM z_m_thrown z_m_textCount z_m_rule z_m_taped z_m_n z_m_minds z_m_lasts z_m_cutNow z_m_year z_m_ofNode z_m_ofDepth z_m_ofKids z_m_ofTwigs z_m_ofLast z_m_ofYear z_m_from z_m_size r.2.1 r.2.2.1 r.2.2.2.1 r.2.2.2.2.1 r.2.2.2.2.2.1 r.2.2.2.2.2.2.1 z_m_nKept z_m_mindsKept z_m_lastsKept z_m_cutKept z_m_yearKept z_m_ruleKept r.2.2.2.2.2.2.2 z_m_texts z_m_textSize z_m_tape z_m_parents z_m_kinds z_m_numbers z_m_odds z_m_yes z_m_no z_m_prices z_m_numbersKept z_m_oddsKept z_m_isThere z_m_sorts z_m_sheetSize z_m_items))) (hR3 : ∀  {z_m_thrown : Int32} {z_m_textCount : Int32} {z_m_rule : Int32} {z_m_taped : Int32} {z_m_n : Int32} {z_m_minds : Int32} {z_m_lasts : Int32} {z_m_cutNow : Int32} {z_m_year : Int32} {z_m_ofNode : Int32} {z_m_ofDepth : Int32} {z_m_ofKids : Int32} {z_m_ofTwigs : Int32} {z_m_ofLast : Int32} {z_m_ofYear : Int32} {z_m_from : Int32} {z_m_size : Int32} {z_m_here : Int32} {z_m_token : Int32} {z_m_tokenAt : Int32} {z_m_open : Int32} {z_m_bad : Int32} {z_m_fault : Int32} {z_m_nKept : Int32} {z_m_mindsKept : Int32} {z_m_lastsKept : Int32} {z_m_cutKept : Int32} {z_m_yearKept : Int32} {z_m_ruleKept : Int32} {z_m_tokenWorth : Int64} {z_m_texts : Nat → Int32} {z_m_textSize : Nat → Int32} {z_m_tape : Nat → Int32} {z_m_parents : Nat → Int32} {z_m_kinds : Nat → Int32} {z_m_numbers : Nat → Int32} {z_m_odds : Nat → Int32} {z_m_yes : Nat → Int32} {z_m_no : Nat → Int32} {z_m_prices : Nat → Int32} {z_m_numbersKept : Nat → Int32} {z_m_oddsKept : Nat → Int32} {z_m_isThere : Nat → Int32} {z_m_sorts : Nat → Int32} {z_m_sheetSize : Nat → Int32} {z_m_items : Nat → Int32} {r : Int32 × Int32 × Int32 × Int32 × Int32 × Int32 × Int32 × Int64}, R 3 z_m_ofNode z_m_ofDepth z_m_ofKids z_m_ofTwigs z_m_ofLast z_m_ofYear z_m_from z_m_size z_m_here z_m_token z_m_tokenAt z_m_open z_m_bad z_m_fault z_m_tokenWorth z_m_texts = some r → xt_M yX6_added cX6_added 4 (some .int) (d + 4) [.ref 0] (WM z_m_thrown z_m_textCount z_m_rule z_m_taped z_m_n z_m_minds z_m_lasts z_m_cutNow z_m_year z_m_ofNode z_m_ofDepth z_m_ofKids z_m_ofTwigs z_m_ofLast z_m_ofYear z_m_from z_m_size z_m_here z_m_token z_m_tokenAt z_m_open z_m_bad z_m_fault z_m_nKept z_m_mindsKept z_m_lastsKept z_m_cutKept z_m_yearKept z_m_ruleKept z_m_tokenWorth z_m_texts z_m_textSize z_m_tape z_m_parents z_m_kinds z_m_numbers z_m_odds z_m_yes z_m_no z_m_prices z_m_numbersKept z_m_oddsKept z_m_isThere z_m_sorts z_m_sheetSize z_m_items) (xt_Ki r.1 (WM z_m_thrown z_m_textCount z_m_rule z_m_taped z_m_n z_m_minds z_m_lasts z_m_cutNow z_m_year z_m_ofNode z_m_ofDepth z_m_ofKids z_m_ofTwigs z_m_ofLast z_m_ofYear z_m_from z_m_size r.2.1 r.2.2.1 r.2.2.2.1 r.2.2.2.2.1 r.2.2.2.2.2.1 r.2.2.2.2.2.2.1 z_m_nKept z_m_mindsKept z_m_lastsKept z_m_cutKept z_m_yearKept z_m_ruleKept r.2.2.2.2.2.2.2 z_m_texts z_m_textSize z_m_tape z_m_parents z_m_kinds z_m_numbers z_m_odds z_m_yes z_m_no z_m_prices z_m_numbersKept z_m_oddsKept z_m_isThere z_m_sorts z_m_sheetSize z_m_items)))  (hm : sp_X6_not R m_ofNode m_ofDepth m_ofKids m_ofTwigs m_ofLast m_ofYear m_from m_size m_here m_token m_tokenAt m_open m_bad m_fault m_tokenWorth m_texts = some o) : xt_M yX6_not cX6_not 4 (some .int) (d + 4 + 1) [.ref 0] (WM m_thrown m_textCount m_rule m_taped m_n m_minds m_lasts m_cutNow m_year m_ofNode m_ofDepth m_ofKids m_ofTwigs m_ofLast m_ofYear m_from m_size m_here m_token m_tokenAt m_open m_bad m_fault m_nKept m_mindsKept m_lastsKept m_cutKept m_yearKept m_ruleKept m_tokenWorth m_texts m_textSize m_tape m_parents m_kinds m_numbers m_odds m_yes m_no m_prices m_numbersKept m_oddsKept m_isThere m_sorts m_sheetSize m_items) (xt_Ki o.1 (WM m_thrown m_textCount m_rule m_taped m_n m_minds m_lasts m_cutNow m_year m_ofNode m_ofDepth m_ofKids m_ofTwigs m_ofLast m_ofYear m_from m_size o.2.1 o.2.2.1 o.2.2.2.1 o.2.2.2.2.1 o.2.2.2.2.2.1 o.2.2.2.2.2.2.1 m_nKept m_mindsKept m_lastsKept m_cutKept m_yearKept m_ruleKept o.2.2.2.2.2.2.2 m_texts m_textSize m_tape m_parents m_kinds m_numbers m_odds m_yes m_no m_prices m_numbersKept m_oddsKept m_isThere m_sorts m_sheetSize m_items)) := by
  unfold sp_X6_not at hm
  refine xt_M.go (own := RX6) (lv := [some (.ref 0), none, none, none]) rfl rfl (Nat.le_of_ble_eq_true rfl) rfl ?_
  refine x_aload0 eX6_not_0 ?_
  refine x_k eX6_not_1 ?_
  refine x_k eX6_not_3 ?_
  refine x_k eX6_not_5 ?_
  refine x_k eX6_not_7 ?_
  refine x_k eX6_not_8 ?_
  refine x_k eX6_not_9 ?_
  refine x_k eX6_not_10 ?_
  refine x_k eX6_not_11 ?_
  obtain ⟨r1, hr, hm⟩ := xo_bind hm
  refine x_Vi8 eX6_not_12 kX6_isWord mX6_188 (t_X6_isWord hr) rfl (Nat.le_of_ble_eq_true rfl) ?_
  refine x_if_eq eX6_not_15 (fun c => ?_) (fun c => ?_)
  · rw [if_pos c] at hm
    refine x_aload0 eX6_not_52 ?_
    obtain ⟨r2, hr, hm⟩ := xo_bind hm
    refine x_Vi0 eX6_not_53 kX6_added mX6_235 (hR3 hr) rfl (Nat.le_of_ble_eq_true rfl) ?_
    refine x_istore1 eX6_not_56 rfl ?_
    refine x_aload0 eX6_not_57 ?_
    refine x_k eX6_not_58 ?_
    refine x_Vi1 eX6_not_60 kX6_isSign mX6_210 (t_X6_isSign rfl) rfl (Nat.le_of_ble_eq_true rfl) ?_
    refine x_if_ne eX6_not_63 (fun c => ?_) (fun c => ?_)
    · rw [if_neg c] at hm
      refine x_aload0 eX6_not_77 ?_
      refine x_get eX6_not_78 fX6_163 rfl rfl ?_
      refine x_ldc2 eX6_not_81 cX6_238 ?_
      refine x_lcmp eX6_not_84 ?_
      refine x_if_ne eX6_not_85 (fun c => ?_) (fun c => ?_)
      · rw [if_neg c] at hm
        refine x_k eX6_not_92 ?_
        refine x_istore2 eX6_not_93 rfl ?_
        refine x_aload0 eX6_not_94 ?_
        obtain ⟨r3, hr, hm⟩ := xo_bind hm
        refine x_Vv0 eX6_not_95 kX6_next mX6_185 (t_X6_next hr) rfl (Nat.le_of_ble_eq_true rfl) ?_
        refine x_aload0 eX6_not_98 ?_
        obtain ⟨r4, hr, hm⟩ := xo_bind hm
        refine x_Vi0 eX6_not_99 kX6_added mX6_235 (hR3 hr) rfl (Nat.le_of_ble_eq_true rfl) ?_
        refine x_istore3 eX6_not_102 rfl ?_
        refine x_iload2 eX6_not_103 ?_
        refine x_if_eq eX6_not_104 (fun c => ?_) (fun c => ?_)
        · rw [if_pos c] at hm
          refine x_iload1 eX6_not_115 ?_
          refine x_iload3 eX6_not_116 ?_
          refine x_icmp_ne eX6_not_117 (fun c => ?_) (fun c => ?_)
          · rw [if_neg c] at hm
            refine x_k eX6_not_124 ?_
            obtain rfl := Option.some.inj hm
            exact x_iret eX6_not_125 ⟨rfl, rfl⟩
          · rw [if_pos c] at hm
            refine x_k eX6_not_120 ?_
            refine x_goto eX6_not_121 ?_
            obtain rfl := Option.some.inj hm
            exact x_iret eX6_not_125 ⟨rfl, rfl⟩
        · rw [if_neg c] at hm
          refine x_iload1 eX6_not_107 ?_
          refine x_iload3 eX6_not_108 ?_
          refine x_icmp_ge eX6_not_109 (fun c => ?_) (fun c => ?_)
          · rw [if_pos c] at hm
            refine x_k eX6_not_124 ?_
            obtain rfl := Option.some.inj hm
            exact x_iret eX6_not_125 ⟨rfl, rfl⟩
          · rw [if_neg c] at hm
            refine x_goto eX6_not_112 ?_
            refine x_k eX6_not_120 ?_
            refine x_goto eX6_not_121 ?_
            obtain rfl := Option.some.inj hm
            exact x_iret eX6_not_125 ⟨rfl, rfl⟩
      · rw [if_pos c] at hm
        refine x_k eX6_not_88 ?_
        refine x_goto eX6_not_89 ?_
        refine x_istore2 eX6_not_93 rfl ?_
        refine x_aload0 eX6_not_94 ?_
        obtain ⟨r5, hr, hm⟩ := xo_bind hm
        refine x_Vv0 eX6_not_95 kX6_next mX6_185 (t_X6_next hr) rfl (Nat.le_of_ble_eq_true rfl) ?_
        refine x_aload0 eX6_not_98 ?_
        obtain ⟨r6, hr, hm⟩ := xo_bind hm
        refine x_Vi0 eX6_not_99 kX6_added mX6_235 (hR3 hr) rfl (Nat.le_of_ble_eq_true rfl) ?_
        refine x_istore3 eX6_not_102 rfl ?_
        refine x_iload2 eX6_not_103 ?_
        refine x_if_eq eX6_not_104 (fun c => ?_) (fun c => ?_)
        · rw [if_pos c] at hm
          refine x_iload1 eX6_not_115 ?_
          refine x_iload3 eX6_not_116 ?_
          refine x_icmp_ne eX6_not_117 (fun c => ?_) (fun c => ?_)
          · rw [if_neg c] at hm
            refine x_k eX6_not_124 ?_
            obtain rfl := Option.some.inj hm
            exact x_iret eX6_not_125 ⟨rfl, rfl⟩
          · rw [if_pos c] at hm
            refine x_k eX6_not_120 ?_
            refine x_goto eX6_not_121 ?_
            obtain rfl := Option.some.inj hm
            exact x_iret eX6_not_125 ⟨rfl, rfl⟩
        · rw [if_neg c] at hm
          refine x_iload1 eX6_not_107 ?_
          refine x_iload3 eX6_not_108 ?_
          refine x_icmp_ge eX6_not_109 (fun c => ?_) (fun c => ?_)
          · rw [if_pos c] at hm
            refine x_k eX6_not_124 ?_
            obtain rfl := Option.some.inj hm
            exact x_iret eX6_not_125 ⟨rfl, rfl⟩
          · rw [if_neg c] at hm
            refine x_goto eX6_not_112 ?_
            refine x_k eX6_not_120 ?_
            refine x_goto eX6_not_121 ?_
            obtain rfl := Option.some.inj hm
            exact x_iret eX6_not_125 ⟨rfl, rfl⟩
    · rw [if_pos c] at hm
      refine x_aload0 eX6_not_66 ?_
      refine x_k eX6_not_67 ?_
      refine x_Vi1 eX6_not_69 kX6_isSign mX6_210 (t_X6_isSign rfl) rfl (Nat.le_of_ble_eq_true rfl) ?_
      refine x_if_ne eX6_not_72 (fun c => ?_) (fun c => ?_)
      · rw [if_neg c] at hm
        refine x_aload0 eX6_not_77 ?_
        refine x_get eX6_not_78 fX6_163 rfl rfl ?_
        refine x_ldc2 eX6_not_81 cX6_238 ?_
        refine x_lcmp eX6_not_84 ?_
        refine x_if_ne eX6_not_85 (fun c => ?_) (fun c => ?_)
        · rw [if_neg c] at hm
          refine x_k eX6_not_92 ?_
          refine x_istore2 eX6_not_93 rfl ?_
          refine x_aload0 eX6_not_94 ?_
          obtain ⟨r7, hr, hm⟩ := xo_bind hm
          refine x_Vv0 eX6_not_95 kX6_next mX6_185 (t_X6_next hr) rfl (Nat.le_of_ble_eq_true rfl) ?_
          refine x_aload0 eX6_not_98 ?_
          obtain ⟨r8, hr, hm⟩ := xo_bind hm
          refine x_Vi0 eX6_not_99 kX6_added mX6_235 (hR3 hr) rfl (Nat.le_of_ble_eq_true rfl) ?_
          refine x_istore3 eX6_not_102 rfl ?_
          refine x_iload2 eX6_not_103 ?_
          refine x_if_eq eX6_not_104 (fun c => ?_) (fun c => ?_)
          · rw [if_pos c] at hm
            refine x_iload1 eX6_not_115 ?_
            refine x_iload3 eX6_not_116 ?_
            refine x_icmp_ne eX6_not_117 (fun c => ?_) (fun c => ?_)
            · rw [if_neg c] at hm
              refine x_k eX6_not_124 ?_
              obtain rfl := Option.some.inj hm
              exact x_iret eX6_not_125 ⟨rfl, rfl⟩
            · rw [if_pos c] at hm
              refine x_k eX6_not_120 ?_
              refine x_goto eX6_not_121 ?_
              obtain rfl := Option.some.inj hm
              exact x_iret eX6_not_125 ⟨rfl, rfl⟩
          · rw [if_neg c] at hm
            refine x_iload1 eX6_not_107 ?_
            refine x_iload3 eX6_not_108 ?_
            refine x_icmp_ge eX6_not_109 (fun c => ?_) (fun c => ?_)
            · rw [if_pos c] at hm
              refine x_k eX6_not_124 ?_
              obtain rfl := Option.some.inj hm
              exact x_iret eX6_not_125 ⟨rfl, rfl⟩
            · rw [if_neg c] at hm
              refine x_goto eX6_not_112 ?_
              refine x_k eX6_not_120 ?_
              refine x_goto eX6_not_121 ?_
              obtain rfl := Option.some.inj hm
              exact x_iret eX6_not_125 ⟨rfl, rfl⟩
        · rw [if_pos c] at hm
          refine x_k eX6_not_88 ?_
          refine x_goto eX6_not_89 ?_
          refine x_istore2 eX6_not_93 rfl ?_
          refine x_aload0 eX6_not_94 ?_
          obtain ⟨r9, hr, hm⟩ := xo_bind hm
          refine x_Vv0 eX6_not_95 kX6_next mX6_185 (t_X6_next hr) rfl (Nat.le_of_ble_eq_true rfl) ?_
          refine x_aload0 eX6_not_98 ?_
          obtain ⟨r10, hr, hm⟩ := xo_bind hm
          refine x_Vi0 eX6_not_99 kX6_added mX6_235 (hR3 hr) rfl (Nat.le_of_ble_eq_true rfl) ?_
          refine x_istore3 eX6_not_102 rfl ?_
          refine x_iload2 eX6_not_103 ?_
          refine x_if_eq eX6_not_104 (fun c => ?_) (fun c => ?_)
          · rw [if_pos c] at hm
            refine x_iload1 eX6_not_115 ?_
            refine x_iload3 eX6_not_116 ?_
            refine x_icmp_ne eX6_not_117 (fun c => ?_) (fun c => ?_)
            · rw [if_neg c] at hm
              refine x_k eX6_not_124 ?_
              obtain rfl := Option.some.inj hm
              exact x_iret eX6_not_125 ⟨rfl, rfl⟩
            · rw [if_pos c] at hm
              refine x_k eX6_not_120 ?_
              refine x_goto eX6_not_121 ?_
              obtain rfl := Option.some.inj hm
              exact x_iret eX6_not_125 ⟨rfl, rfl⟩
          · rw [if_neg c] at hm
            refine x_iload1 eX6_not_107 ?_
            refine x_iload3 eX6_not_108 ?_
            refine x_icmp_ge eX6_not_109 (fun c => ?_) (fun c => ?_)
            · rw [if_pos c] at hm
              refine x_k eX6_not_124 ?_
              obtain rfl := Option.some.inj hm
              exact x_iret eX6_not_125 ⟨rfl, rfl⟩
            · rw [if_neg c] at hm
              refine x_goto eX6_not_112 ?_
              refine x_k eX6_not_120 ?_
              refine x_goto eX6_not_121 ?_
              obtain rfl := Option.some.inj hm
              exact x_iret eX6_not_125 ⟨rfl, rfl⟩
      · rw [if_pos c] at hm
        refine x_iload1 eX6_not_75 ?_
        obtain rfl := Option.some.inj hm
        exact x_iret eX6_not_76 ⟨rfl, rfl⟩
  · rw [if_neg c] at hm
    refine x_aload0 eX6_not_18 ?_
    obtain ⟨r11, hr, hm⟩ := xo_bind hm
    refine x_Vi0 eX6_not_19 kX6_opens mX6_213 (t_X6_opens hr) rfl (Nat.le_of_ble_eq_true rfl) ?_
    refine x_if_ne eX6_not_22 (fun c => ?_) (fun c => ?_)
    · rw [if_neg c] at hm
      refine x_aload0 eX6_not_27 ?_
      obtain ⟨r12, hr, hm⟩ := xo_bind hm
      refine x_Vi0 eX6_not_28 kX6_not mX6_232 (hR2 hr) rfl (Nat.le_of_ble_eq_true rfl) ?_
      refine x_istore1 eX6_not_31 rfl ?_
      refine x_aload0 eX6_not_32 ?_
      refine x_dup eX6_not_33 rfl ?_
      refine x_get eX6_not_34 fX6_179 rfl rfl ?_
      refine x_k eX6_not_37 ?_
      refine x_isub eX6_not_38 ?_
      refine x_puti (w' := WM _ _ _ _ _ _ _ _ _ _ _ _ _ _ _ _ _ _ _ _ _ _ _ _ _ _ _ _ _ _ _ _ _ _ _ _ _ _ _ _ _ _ _ _ _ _) eX6_not_39 pX6_179 rfl (Nat.le_of_ble_eq_true rfl) rfl ?_
      refine x_iload1 eX6_not_42 ?_
      refine x_if_ne eX6_not_43 (fun c => ?_) (fun c => ?_)
      · rw [if_neg c] at hm
        refine x_k eX6_not_50 ?_
        obtain rfl := Option.some.inj hm
        exact x_iret eX6_not_51 ⟨rfl, rfl⟩
      · rw [if_pos c] at hm
        refine x_k eX6_not_46 ?_
        refine x_goto eX6_not_47 ?_
        obtain rfl := Option.some.inj hm
        exact x_iret eX6_not_51 ⟨rfl, rfl⟩
    · rw [if_pos c] at hm
      refine x_k eX6_not_25 ?_
      obtain rfl := Option.some.inj hm
      exact x_iret eX6_not_26 ⟨rfl, rfl⟩
set_option maxRecDepth 4000 in
theorem l_X6_added_5 {o : Int32 × Int32 × Int32 × Int32 × Int32 × Int32 × Int32 × Int64} {R : Nat → Int32 → Int32 → Int32 → Int32 → Int32 → Int32 → Int32 → Int32 → Int32 → Int32 → Int32 → Int32 → Int32 → Int32 → Int64 → (Nat → Int32) → Option (Int32 × Int32 × Int32 × Int32 × Int32 × Int32 × Int32 × Int64)} (hR4 : ∀  {z_m_thrown : Int32} {z_m_textCount : Int32} {z_m_rule : Int32} {z_m_taped : Int32} {z_m_n : Int32} {z_m_minds : Int32} {z_m_lasts : Int32} {z_m_cutNow : Int32} {z_m_year : Int32} {z_m_ofNode : Int32} {z_m_ofDepth : Int32} {z_m_ofKids : Int32} {z_m_ofTwigs : Int32} {z_m_ofLast : Int32} {z_m_ofYear : Int32} {z_m_from : Int32} {z_m_size : Int32} {z_m_here : Int32} {z_m_token : Int32} {z_m_tokenAt : Int32} {z_m_open : Int32} {z_m_bad : Int32} {z_m_fault : Int32} {z_m_nKept : Int32} {z_m_mindsKept : Int32} {z_m_lastsKept : Int32} {z_m_cutKept : Int32} {z_m_yearKept : Int32} {z_m_ruleKept : Int32} {z_m_tokenWorth : Int64} {z_m_texts : Nat → Int32} {z_m_textSize : Nat → Int32} {z_m_tape : Nat → Int32} {z_m_parents : Nat → Int32} {z_m_kinds : Nat → Int32} {z_m_numbers : Nat → Int32} {z_m_odds : Nat → Int32} {z_m_yes : Nat → Int32} {z_m_no : Nat → Int32} {z_m_prices : Nat → Int32} {z_m_numbersKept : Nat → Int32} {z_m_oddsKept : Nat → Int32} {z_m_isThere : Nat → Int32} {z_m_sorts : Nat → Int32} {z_m_sheetSize : Nat → Int32} {z_m_items : Nat → Int32} {r : Int32 × Int32 × Int32 × Int32 × Int32 × Int32 × Int32 × Int64}, R 4 z_m_ofNode z_m_ofDepth z_m_ofKids z_m_ofTwigs z_m_ofLast z_m_ofYear z_m_from z_m_size z_m_here z_m_token z_m_tokenAt z_m_open z_m_bad z_m_fault z_m_tokenWorth z_m_texts = some r → xt_M yX6_term cX6_term 2 (some .int) (d + 4) [.ref 0] (WM z_m_thrown z_m_textCount z_m_rule z_m_taped z_m_n z_m_minds z_m_lasts z_m_cutNow z_m_year z_m_ofNode z_m_ofDepth z_m_ofKids z_m_ofTwigs z_m_ofLast z_m_ofYear z_m_from z_m_size z_m_here z_m_token z_m_tokenAt z_m_open z_m_bad z_m_fault z_m_nKept z_m_mindsKept z_m_lastsKept z_m_cutKept z_m_yearKept z_m_ruleKept z_m_tokenWorth z_m_texts z_m_textSize z_m_tape z_m_parents z_m_kinds z_m_numbers z_m_odds z_m_yes z_m_no z_m_prices z_m_numbersKept z_m_oddsKept z_m_isThere z_m_sorts z_m_sheetSize z_m_items) (xt_Ki r.1 (WM z_m_thrown z_m_textCount z_m_rule z_m_taped z_m_n z_m_minds z_m_lasts z_m_cutNow z_m_year z_m_ofNode z_m_ofDepth z_m_ofKids z_m_ofTwigs z_m_ofLast z_m_ofYear z_m_from z_m_size r.2.1 r.2.2.1 r.2.2.2.1 r.2.2.2.2.1 r.2.2.2.2.2.1 r.2.2.2.2.2.2.1 z_m_nKept z_m_mindsKept z_m_lastsKept z_m_cutKept z_m_yearKept z_m_ruleKept r.2.2.2.2.2.2.2 z_m_texts z_m_textSize z_m_tape z_m_parents z_m_kinds z_m_numbers z_m_odds z_m_yes z_m_no z_m_prices z_m_numbersKept z_m_oddsKept z_m_isThere z_m_sorts z_m_sheetSize z_m_items))) {m_ofNode : Int32} {m_ofDepth : Int32} {m_ofKids : Int32} {m_ofTwigs : Int32} {m_ofLast : Int32} {m_ofYear : Int32} {m_from : Int32} {m_size : Int32} {m_texts : Nat → Int32} : ∀ (n : Nat) {u1 : Int32} {m_here : Int32} {m_token : Int32} {m_tokenAt : Int32} {m_open : Int32} {m_bad : Int32} {m_fault : Int32} {m_tokenWorth : Int64}, sp_X6_added_5 R m_ofNode m_ofDepth m_ofKids m_ofTwigs m_ofLast m_ofYear m_from m_size m_texts n u1 m_here m_token m_tokenAt m_open m_bad m_fault m_tokenWorth = some o → xt_T RX6 cX6_added 4 (some .int) (d + 4 + 1) (xt_Ki o.1 (WM m_thrown m_textCount m_rule m_taped m_n m_minds m_lasts m_cutNow m_year m_ofNode m_ofDepth m_ofKids m_ofTwigs m_ofLast m_ofYear m_from m_size o.2.1 o.2.2.1 o.2.2.2.1 o.2.2.2.2.1 o.2.2.2.2.2.1 o.2.2.2.2.2.2.1 m_nKept m_mindsKept m_lastsKept m_cutKept m_yearKept m_ruleKept o.2.2.2.2.2.2.2 m_texts m_textSize m_tape m_parents m_kinds m_numbers m_odds m_yes m_no m_prices m_numbersKept m_oddsKept m_isThere m_sorts m_sheetSize m_items)) 5 [some (.ref 0), some (.int u1), none, none] [] (WM m_thrown m_textCount m_rule m_taped m_n m_minds m_lasts m_cutNow m_year m_ofNode m_ofDepth m_ofKids m_ofTwigs m_ofLast m_ofYear m_from m_size m_here m_token m_tokenAt m_open m_bad m_fault m_nKept m_mindsKept m_lastsKept m_cutKept m_yearKept m_ruleKept m_tokenWorth m_texts m_textSize m_tape m_parents m_kinds m_numbers m_odds m_yes m_no m_prices m_numbersKept m_oddsKept m_isThere m_sorts m_sheetSize m_items) := by
  intro n
  induction n with
  | zero => intro u1 m_here m_token m_tokenAt m_open m_bad m_fault m_tokenWorth hm; rw [sp_X6_added_5] at hm; cases hm
  | succ n ih =>
    intro u1 m_here m_token m_tokenAt m_open m_bad m_fault m_tokenWorth hm
    rw [sp_X6_added_5] at hm
    refine x_aload0 eX6_added_5 ?_
    refine x_k eX6_added_6 ?_
    refine x_Vi1 eX6_added_8 kX6_isSign mX6_210 (t_X6_isSign rfl) rfl (Nat.le_of_ble_eq_true rfl) ?_
    refine x_if_ne eX6_added_11 (fun c => ?_) (fun c => ?_)
    · rw [if_neg c] at hm
      refine x_aload0 eX6_added_23 ?_
      refine x_get eX6_added_24 fX6_163 rfl rfl ?_
      refine x_ldc2 eX6_added_27 cX6_230 ?_
      refine x_lcmp eX6_added_30 ?_
      refine x_if_ne eX6_added_31 (fun c => ?_) (fun c => ?_)
      · rw [if_neg c] at hm
        refine x_k eX6_added_38 ?_
        refine x_istore2 eX6_added_39 rfl ?_
        refine x_aload0 eX6_added_40 ?_
        obtain ⟨r2, hr, hm⟩ := xo_bind hm
        refine x_Vv0 eX6_added_41 kX6_next mX6_185 (t_X6_next hr) rfl (Nat.le_of_ble_eq_true rfl) ?_
        refine x_aload0 eX6_added_44 ?_
        obtain ⟨r3, hr, hm⟩ := xo_bind hm
        refine x_Vi0 eX6_added_45 kX6_term mX6_227 (hR4 hr) rfl (Nat.le_of_ble_eq_true rfl) ?_
        refine x_istore3 eX6_added_48 rfl ?_
        refine x_iload2 eX6_added_49 ?_
        refine x_if_eq eX6_added_50 (fun c => ?_) (fun c => ?_)
        · rw [if_pos c] at hm
          refine x_iload1 eX6_added_59 ?_
          refine x_iload3 eX6_added_60 ?_
          refine x_isub eX6_added_61 ?_
          refine x_istore1 eX6_added_62 rfl ?_
          refine x_goto eX6_added_63 ?_
          exact x_weak (by simp [xt_le]) (ih hm)
        · rw [if_neg c] at hm
          refine x_iload1 eX6_added_53 ?_
          refine x_iload3 eX6_added_54 ?_
          refine x_iadd eX6_added_55 ?_
          refine x_goto eX6_added_56 ?_
          refine x_istore1 eX6_added_62 rfl ?_
          refine x_goto eX6_added_63 ?_
          exact x_weak (by simp [xt_le]) (ih hm)
      · rw [if_pos c] at hm
        refine x_k eX6_added_34 ?_
        refine x_goto eX6_added_35 ?_
        refine x_istore2 eX6_added_39 rfl ?_
        refine x_aload0 eX6_added_40 ?_
        obtain ⟨r4, hr, hm⟩ := xo_bind hm
        refine x_Vv0 eX6_added_41 kX6_next mX6_185 (t_X6_next hr) rfl (Nat.le_of_ble_eq_true rfl) ?_
        refine x_aload0 eX6_added_44 ?_
        obtain ⟨r5, hr, hm⟩ := xo_bind hm
        refine x_Vi0 eX6_added_45 kX6_term mX6_227 (hR4 hr) rfl (Nat.le_of_ble_eq_true rfl) ?_
        refine x_istore3 eX6_added_48 rfl ?_
        refine x_iload2 eX6_added_49 ?_
        refine x_if_eq eX6_added_50 (fun c => ?_) (fun c => ?_)
        · rw [if_pos c] at hm
          refine x_iload1 eX6_added_59 ?_
          refine x_iload3 eX6_added_60 ?_
          refine x_isub eX6_added_61 ?_
          refine x_istore1 eX6_added_62 rfl ?_
          refine x_goto eX6_added_63 ?_
          exact x_weak (by simp [xt_le]) (ih hm)
        · rw [if_neg c] at hm
          refine x_iload1 eX6_added_53 ?_
          refine x_iload3 eX6_added_54 ?_
          refine x_iadd eX6_added_55 ?_
          refine x_goto eX6_added_56 ?_
          refine x_istore1 eX6_added_62 rfl ?_
          refine x_goto eX6_added_63 ?_
          exact x_weak (by simp [xt_le]) (ih hm)
    · rw [if_pos c] at hm
      refine x_aload0 eX6_added_14 ?_
      refine x_k eX6_added_15 ?_
      refine x_Vi1 eX6_added_17 kX6_isSign mX6_210 (t_X6_isSign rfl) rfl (Nat.le_of_ble_eq_true rfl) ?_
      refine x_if_eq eX6_added_20 (fun c => ?_) (fun c => ?_)
      · rw [if_pos c] at hm
        refine x_iload1 eX6_added_66 ?_
        obtain rfl := Option.some.inj hm
        exact x_iret eX6_added_67 ⟨rfl, rfl⟩
      · rw [if_neg c] at hm
        refine x_aload0 eX6_added_23 ?_
        refine x_get eX6_added_24 fX6_163 rfl rfl ?_
        refine x_ldc2 eX6_added_27 cX6_230 ?_
        refine x_lcmp eX6_added_30 ?_
        refine x_if_ne eX6_added_31 (fun c => ?_) (fun c => ?_)
        · rw [if_neg c] at hm
          refine x_k eX6_added_38 ?_
          refine x_istore2 eX6_added_39 rfl ?_
          refine x_aload0 eX6_added_40 ?_
          obtain ⟨r6, hr, hm⟩ := xo_bind hm
          refine x_Vv0 eX6_added_41 kX6_next mX6_185 (t_X6_next hr) rfl (Nat.le_of_ble_eq_true rfl) ?_
          refine x_aload0 eX6_added_44 ?_
          obtain ⟨r7, hr, hm⟩ := xo_bind hm
          refine x_Vi0 eX6_added_45 kX6_term mX6_227 (hR4 hr) rfl (Nat.le_of_ble_eq_true rfl) ?_
          refine x_istore3 eX6_added_48 rfl ?_
          refine x_iload2 eX6_added_49 ?_
          refine x_if_eq eX6_added_50 (fun c => ?_) (fun c => ?_)
          · rw [if_pos c] at hm
            refine x_iload1 eX6_added_59 ?_
            refine x_iload3 eX6_added_60 ?_
            refine x_isub eX6_added_61 ?_
            refine x_istore1 eX6_added_62 rfl ?_
            refine x_goto eX6_added_63 ?_
            exact x_weak (by simp [xt_le]) (ih hm)
          · rw [if_neg c] at hm
            refine x_iload1 eX6_added_53 ?_
            refine x_iload3 eX6_added_54 ?_
            refine x_iadd eX6_added_55 ?_
            refine x_goto eX6_added_56 ?_
            refine x_istore1 eX6_added_62 rfl ?_
            refine x_goto eX6_added_63 ?_
            exact x_weak (by simp [xt_le]) (ih hm)
        · rw [if_pos c] at hm
          refine x_k eX6_added_34 ?_
          refine x_goto eX6_added_35 ?_
          refine x_istore2 eX6_added_39 rfl ?_
          refine x_aload0 eX6_added_40 ?_
          obtain ⟨r8, hr, hm⟩ := xo_bind hm
          refine x_Vv0 eX6_added_41 kX6_next mX6_185 (t_X6_next hr) rfl (Nat.le_of_ble_eq_true rfl) ?_
          refine x_aload0 eX6_added_44 ?_
          obtain ⟨r9, hr, hm⟩ := xo_bind hm
          refine x_Vi0 eX6_added_45 kX6_term mX6_227 (hR4 hr) rfl (Nat.le_of_ble_eq_true rfl) ?_
          refine x_istore3 eX6_added_48 rfl ?_
          refine x_iload2 eX6_added_49 ?_
          refine x_if_eq eX6_added_50 (fun c => ?_) (fun c => ?_)
          · rw [if_pos c] at hm
            refine x_iload1 eX6_added_59 ?_
            refine x_iload3 eX6_added_60 ?_
            refine x_isub eX6_added_61 ?_
            refine x_istore1 eX6_added_62 rfl ?_
            refine x_goto eX6_added_63 ?_
            exact x_weak (by simp [xt_le]) (ih hm)
          · rw [if_neg c] at hm
            refine x_iload1 eX6_added_53 ?_
            refine x_iload3 eX6_added_54 ?_
            refine x_iadd eX6_added_55 ?_
            refine x_goto eX6_added_56 ?_
            refine x_istore1 eX6_added_62 rfl ?_
            refine x_goto eX6_added_63 ?_
            exact x_weak (by simp [xt_le]) (ih hm)
set_option maxRecDepth 4000 in
theorem t_X6_added {o : Int32 × Int32 × Int32 × Int32 × Int32 × Int32 × Int32 × Int64} {R : Nat → Int32 → Int32 → Int32 → Int32 → Int32 → Int32 → Int32 → Int32 → Int32 → Int32 → Int32 → Int32 → Int32 → Int32 → Int64 → (Nat → Int32) → Option (Int32 × Int32 × Int32 × Int32 × Int32 × Int32 × Int32 × Int64)} (hR4 : ∀  {z_m_thrown : Int32} {z_m_textCount : Int32} {z_m_rule : Int32} {z_m_taped : Int32} {z_m_n : Int32} {z_m_minds : Int32} {z_m_lasts : Int32} {z_m_cutNow : Int32} {z_m_year : Int32} {z_m_ofNode : Int32} {z_m_ofDepth : Int32} {z_m_ofKids : Int32} {z_m_ofTwigs : Int32} {z_m_ofLast : Int32} {z_m_ofYear : Int32} {z_m_from : Int32} {z_m_size : Int32} {z_m_here : Int32} {z_m_token : Int32} {z_m_tokenAt : Int32} {z_m_open : Int32} {z_m_bad : Int32} {z_m_fault : Int32} {z_m_nKept : Int32} {z_m_mindsKept : Int32} {z_m_lastsKept : Int32} {z_m_cutKept : Int32} {z_m_yearKept : Int32} {z_m_ruleKept : Int32} {z_m_tokenWorth : Int64} {z_m_texts : Nat → Int32} {z_m_textSize : Nat → Int32} {z_m_tape : Nat → Int32} {z_m_parents : Nat → Int32} {z_m_kinds : Nat → Int32} {z_m_numbers : Nat → Int32} {z_m_odds : Nat → Int32} {z_m_yes : Nat → Int32} {z_m_no : Nat → Int32} {z_m_prices : Nat → Int32} {z_m_numbersKept : Nat → Int32} {z_m_oddsKept : Nat → Int32} {z_m_isThere : Nat → Int32} {z_m_sorts : Nat → Int32} {z_m_sheetSize : Nat → Int32} {z_m_items : Nat → Int32} {r : Int32 × Int32 × Int32 × Int32 × Int32 × Int32 × Int32 × Int64}, R 4 z_m_ofNode z_m_ofDepth z_m_ofKids z_m_ofTwigs z_m_ofLast z_m_ofYear z_m_from z_m_size z_m_here z_m_token z_m_tokenAt z_m_open z_m_bad z_m_fault z_m_tokenWorth z_m_texts = some r → xt_M yX6_term cX6_term 2 (some .int) (d + 4) [.ref 0] (WM z_m_thrown z_m_textCount z_m_rule z_m_taped z_m_n z_m_minds z_m_lasts z_m_cutNow z_m_year z_m_ofNode z_m_ofDepth z_m_ofKids z_m_ofTwigs z_m_ofLast z_m_ofYear z_m_from z_m_size z_m_here z_m_token z_m_tokenAt z_m_open z_m_bad z_m_fault z_m_nKept z_m_mindsKept z_m_lastsKept z_m_cutKept z_m_yearKept z_m_ruleKept z_m_tokenWorth z_m_texts z_m_textSize z_m_tape z_m_parents z_m_kinds z_m_numbers z_m_odds z_m_yes z_m_no z_m_prices z_m_numbersKept z_m_oddsKept z_m_isThere z_m_sorts z_m_sheetSize z_m_items) (xt_Ki r.1 (WM z_m_thrown z_m_textCount z_m_rule z_m_taped z_m_n z_m_minds z_m_lasts z_m_cutNow z_m_year z_m_ofNode z_m_ofDepth z_m_ofKids z_m_ofTwigs z_m_ofLast z_m_ofYear z_m_from z_m_size r.2.1 r.2.2.1 r.2.2.2.1 r.2.2.2.2.1 r.2.2.2.2.2.1 r.2.2.2.2.2.2.1 z_m_nKept z_m_mindsKept z_m_lastsKept z_m_cutKept z_m_yearKept z_m_ruleKept r.2.2.2.2.2.2.2 z_m_texts z_m_textSize z_m_tape z_m_parents z_m_kinds z_m_numbers z_m_odds z_m_yes z_m_no z_m_prices z_m_numbersKept z_m_oddsKept z_m_isThere z_m_sorts z_m_sheetSize z_m_items)))  (hm : sp_X6_added R m_ofNode m_ofDepth m_ofKids m_ofTwigs m_ofLast m_ofYear m_from m_size m_here m_token m_tokenAt m_open m_bad m_fault m_tokenWorth m_texts = some o) : xt_M yX6_added cX6_added 4 (some .int) (d + 4 + 1) [.ref 0] (WM m_thrown m_textCount m_rule m_taped m_n m_minds m_lasts m_cutNow m_year m_ofNode m_ofDepth m_ofKids m_ofTwigs m_ofLast m_ofYear m_from m_size m_here m_token m_tokenAt m_open m_bad m_fault m_nKept m_mindsKept m_lastsKept m_cutKept m_yearKept m_ruleKept m_tokenWorth m_texts m_textSize m_tape m_parents m_kinds m_numbers m_odds m_yes m_no m_prices m_numbersKept m_oddsKept m_isThere m_sorts m_sheetSize m_items) (xt_Ki o.1 (WM m_thrown m_textCount m_rule m_taped m_n m_minds m_lasts m_cutNow m_year m_ofNode m_ofDepth m_ofKids m_ofTwigs m_ofLast m_ofYear m_from m_size o.2.1 o.2.2.1 o.2.2.2.1 o.2.2.2.2.1 o.2.2.2.2.2.1 o.2.2.2.2.2.2.1 m_nKept m_mindsKept m_lastsKept m_cutKept m_yearKept m_ruleKept o.2.2.2.2.2.2.2 m_texts m_textSize m_tape m_parents m_kinds m_numbers m_odds m_yes m_no m_prices m_numbersKept m_oddsKept m_isThere m_sorts m_sheetSize m_items)) := by
  unfold sp_X6_added at hm
  refine xt_M.go (own := RX6) (lv := [some (.ref 0), none, none, none]) rfl rfl (Nat.le_of_ble_eq_true rfl) rfl ?_
  refine x_aload0 eX6_added_0 ?_
  obtain ⟨r1, hr, hm⟩ := xo_bind hm
  refine x_Vi0 eX6_added_1 kX6_term mX6_227 (hR4 hr) rfl (Nat.le_of_ble_eq_true rfl) ?_
  refine x_istore1 eX6_added_4 rfl ?_
  exact l_X6_added_5 hR4 _ hm
set_option maxRecDepth 4000 in
theorem l_X6_term_5 {o : Int32 × Int32 × Int32 × Int32 × Int32 × Int32 × Int32 × Int64} {R : Nat → Int32 → Int32 → Int32 → Int32 → Int32 → Int32 → Int32 → Int32 → Int32 → Int32 → Int32 → Int32 → Int32 → Int32 → Int64 → (Nat → Int32) → Option (Int32 × Int32 × Int32 × Int32 × Int32 × Int32 × Int32 × Int64)} (hR5 : ∀  {z_m_thrown : Int32} {z_m_textCount : Int32} {z_m_rule : Int32} {z_m_taped : Int32} {z_m_n : Int32} {z_m_minds : Int32} {z_m_lasts : Int32} {z_m_cutNow : Int32} {z_m_year : Int32} {z_m_ofNode : Int32} {z_m_ofDepth : Int32} {z_m_ofKids : Int32} {z_m_ofTwigs : Int32} {z_m_ofLast : Int32} {z_m_ofYear : Int32} {z_m_from : Int32} {z_m_size : Int32} {z_m_here : Int32} {z_m_token : Int32} {z_m_tokenAt : Int32} {z_m_open : Int32} {z_m_bad : Int32} {z_m_fault : Int32} {z_m_nKept : Int32} {z_m_mindsKept : Int32} {z_m_lastsKept : Int32} {z_m_cutKept : Int32} {z_m_yearKept : Int32} {z_m_ruleKept : Int32} {z_m_tokenWorth : Int64} {z_m_texts : Nat → Int32} {z_m_textSize : Nat → Int32} {z_m_tape : Nat → Int32} {z_m_parents : Nat → Int32} {z_m_kinds : Nat → Int32} {z_m_numbers : Nat → Int32} {z_m_odds : Nat → Int32} {z_m_yes : Nat → Int32} {z_m_no : Nat → Int32} {z_m_prices : Nat → Int32} {z_m_numbersKept : Nat → Int32} {z_m_oddsKept : Nat → Int32} {z_m_isThere : Nat → Int32} {z_m_sorts : Nat → Int32} {z_m_sheetSize : Nat → Int32} {z_m_items : Nat → Int32} {r : Int32 × Int32 × Int32 × Int32 × Int32 × Int32 × Int32 × Int64}, R 5 z_m_ofNode z_m_ofDepth z_m_ofKids z_m_ofTwigs z_m_ofLast z_m_ofYear z_m_from z_m_size z_m_here z_m_token z_m_tokenAt z_m_open z_m_bad z_m_fault z_m_tokenWorth z_m_texts = some r → xt_M yX6_atom cX6_atom 2 (some .int) (d + 4) [.ref 0] (WM z_m_thrown z_m_textCount z_m_rule z_m_taped z_m_n z_m_minds z_m_lasts z_m_cutNow z_m_year z_m_ofNode z_m_ofDepth z_m_ofKids z_m_ofTwigs z_m_ofLast z_m_ofYear z_m_from z_m_size z_m_here z_m_token z_m_tokenAt z_m_open z_m_bad z_m_fault z_m_nKept z_m_mindsKept z_m_lastsKept z_m_cutKept z_m_yearKept z_m_ruleKept z_m_tokenWorth z_m_texts z_m_textSize z_m_tape z_m_parents z_m_kinds z_m_numbers z_m_odds z_m_yes z_m_no z_m_prices z_m_numbersKept z_m_oddsKept z_m_isThere z_m_sorts z_m_sheetSize z_m_items) (xt_Ki r.1 (WM z_m_thrown z_m_textCount z_m_rule z_m_taped z_m_n z_m_minds z_m_lasts z_m_cutNow z_m_year z_m_ofNode z_m_ofDepth z_m_ofKids z_m_ofTwigs z_m_ofLast z_m_ofYear z_m_from z_m_size r.2.1 r.2.2.1 r.2.2.2.1 r.2.2.2.2.1 r.2.2.2.2.2.1 r.2.2.2.2.2.2.1 z_m_nKept z_m_mindsKept z_m_lastsKept z_m_cutKept z_m_yearKept z_m_ruleKept r.2.2.2.2.2.2.2 z_m_texts z_m_textSize z_m_tape z_m_parents z_m_kinds z_m_numbers z_m_odds z_m_yes z_m_no z_m_prices z_m_numbersKept z_m_oddsKept z_m_isThere z_m_sorts z_m_sheetSize z_m_items))) {m_ofNode : Int32} {m_ofDepth : Int32} {m_ofKids : Int32} {m_ofTwigs : Int32} {m_ofLast : Int32} {m_ofYear : Int32} {m_from : Int32} {m_size : Int32} {m_texts : Nat → Int32} : ∀ (n : Nat) {u1 : Int32} {m_here : Int32} {m_token : Int32} {m_tokenAt : Int32} {m_open : Int32} {m_bad : Int32} {m_fault : Int32} {m_tokenWorth : Int64}, sp_X6_term_5 R m_ofNode m_ofDepth m_ofKids m_ofTwigs m_ofLast m_ofYear m_from m_size m_texts n u1 m_here m_token m_tokenAt m_open m_bad m_fault m_tokenWorth = some o → xt_T RX6 cX6_term 2 (some .int) (d + 4 + 1) (xt_Ki o.1 (WM m_thrown m_textCount m_rule m_taped m_n m_minds m_lasts m_cutNow m_year m_ofNode m_ofDepth m_ofKids m_ofTwigs m_ofLast m_ofYear m_from m_size o.2.1 o.2.2.1 o.2.2.2.1 o.2.2.2.2.1 o.2.2.2.2.2.1 o.2.2.2.2.2.2.1 m_nKept m_mindsKept m_lastsKept m_cutKept m_yearKept m_ruleKept o.2.2.2.2.2.2.2 m_texts m_textSize m_tape m_parents m_kinds m_numbers m_odds m_yes m_no m_prices m_numbersKept m_oddsKept m_isThere m_sorts m_sheetSize m_items)) 5 [some (.ref 0), some (.int u1)] [] (WM m_thrown m_textCount m_rule m_taped m_n m_minds m_lasts m_cutNow m_year m_ofNode m_ofDepth m_ofKids m_ofTwigs m_ofLast m_ofYear m_from m_size m_here m_token m_tokenAt m_open m_bad m_fault m_nKept m_mindsKept m_lastsKept m_cutKept m_yearKept m_ruleKept m_tokenWorth m_texts m_textSize m_tape m_parents m_kinds m_numbers m_odds m_yes m_no m_prices m_numbersKept m_oddsKept m_isThere m_sorts m_sheetSize m_items) := by
  intro n
  induction n with
  | zero => intro u1 m_here m_token m_tokenAt m_open m_bad m_fault m_tokenWorth hm; rw [sp_X6_term_5] at hm; cases hm
  | succ n ih =>
    intro u1 m_here m_token m_tokenAt m_open m_bad m_fault m_tokenWorth hm
    rw [sp_X6_term_5] at hm
    refine x_aload0 eX6_term_5 ?_
    refine x_k eX6_term_6 ?_
    refine x_Vi1 eX6_term_8 kX6_isSign mX6_210 (t_X6_isSign rfl) rfl (Nat.le_of_ble_eq_true rfl) ?_
    refine x_if_eq eX6_term_11 (fun c => ?_) (fun c => ?_)
    · rw [if_pos c] at hm
      refine x_iload1 eX6_term_28 ?_
      obtain rfl := Option.some.inj hm
      exact x_iret eX6_term_29 ⟨rfl, rfl⟩
    · rw [if_neg c] at hm
      refine x_aload0 eX6_term_14 ?_
      obtain ⟨r2, hr, hm⟩ := xo_bind hm
      refine x_Vv0 eX6_term_15 kX6_next mX6_185 (t_X6_next hr) rfl (Nat.le_of_ble_eq_true rfl) ?_
      refine x_iload1 eX6_term_18 ?_
      refine x_aload0 eX6_term_19 ?_
      obtain ⟨r3, hr, hm⟩ := xo_bind hm
      refine x_Vi0 eX6_term_20 kX6_atom mX6_217 (hR5 hr) rfl (Nat.le_of_ble_eq_true rfl) ?_
      refine x_imul eX6_term_23 ?_
      refine x_istore1 eX6_term_24 rfl ?_
      refine x_goto eX6_term_25 ?_
      exact ih hm
set_option maxRecDepth 4000 in
theorem t_X6_term {o : Int32 × Int32 × Int32 × Int32 × Int32 × Int32 × Int32 × Int64} {R : Nat → Int32 → Int32 → Int32 → Int32 → Int32 → Int32 → Int32 → Int32 → Int32 → Int32 → Int32 → Int32 → Int32 → Int32 → Int64 → (Nat → Int32) → Option (Int32 × Int32 × Int32 × Int32 × Int32 × Int32 × Int32 × Int64)} (hR5 : ∀  {z_m_thrown : Int32} {z_m_textCount : Int32} {z_m_rule : Int32} {z_m_taped : Int32} {z_m_n : Int32} {z_m_minds : Int32} {z_m_lasts : Int32} {z_m_cutNow : Int32} {z_m_year : Int32} {z_m_ofNode : Int32} {z_m_ofDepth : Int32} {z_m_ofKids : Int32} {z_m_ofTwigs : Int32} {z_m_ofLast : Int32} {z_m_ofYear : Int32} {z_m_from : Int32} {z_m_size : Int32} {z_m_here : Int32} {z_m_token : Int32} {z_m_tokenAt : Int32} {z_m_open : Int32} {z_m_bad : Int32} {z_m_fault : Int32} {z_m_nKept : Int32} {z_m_mindsKept : Int32} {z_m_lastsKept : Int32} {z_m_cutKept : Int32} {z_m_yearKept : Int32} {z_m_ruleKept : Int32} {z_m_tokenWorth : Int64} {z_m_texts : Nat → Int32} {z_m_textSize : Nat → Int32} {z_m_tape : Nat → Int32} {z_m_parents : Nat → Int32} {z_m_kinds : Nat → Int32} {z_m_numbers : Nat → Int32} {z_m_odds : Nat → Int32} {z_m_yes : Nat → Int32} {z_m_no : Nat → Int32} {z_m_prices : Nat → Int32} {z_m_numbersKept : Nat → Int32} {z_m_oddsKept : Nat → Int32} {z_m_isThere : Nat → Int32} {z_m_sorts : Nat → Int32} {z_m_sheetSize : Nat → Int32} {z_m_items : Nat → Int32} {r : Int32 × Int32 × Int32 × Int32 × Int32 × Int32 × Int32 × Int64}, R 5 z_m_ofNode z_m_ofDepth z_m_ofKids z_m_ofTwigs z_m_ofLast z_m_ofYear z_m_from z_m_size z_m_here z_m_token z_m_tokenAt z_m_open z_m_bad z_m_fault z_m_tokenWorth z_m_texts = some r → xt_M yX6_atom cX6_atom 2 (some .int) (d + 4) [.ref 0] (WM z_m_thrown z_m_textCount z_m_rule z_m_taped z_m_n z_m_minds z_m_lasts z_m_cutNow z_m_year z_m_ofNode z_m_ofDepth z_m_ofKids z_m_ofTwigs z_m_ofLast z_m_ofYear z_m_from z_m_size z_m_here z_m_token z_m_tokenAt z_m_open z_m_bad z_m_fault z_m_nKept z_m_mindsKept z_m_lastsKept z_m_cutKept z_m_yearKept z_m_ruleKept z_m_tokenWorth z_m_texts z_m_textSize z_m_tape z_m_parents z_m_kinds z_m_numbers z_m_odds z_m_yes z_m_no z_m_prices z_m_numbersKept z_m_oddsKept z_m_isThere z_m_sorts z_m_sheetSize z_m_items) (xt_Ki r.1 (WM z_m_thrown z_m_textCount z_m_rule z_m_taped z_m_n z_m_minds z_m_lasts z_m_cutNow z_m_year z_m_ofNode z_m_ofDepth z_m_ofKids z_m_ofTwigs z_m_ofLast z_m_ofYear z_m_from z_m_size r.2.1 r.2.2.1 r.2.2.2.1 r.2.2.2.2.1 r.2.2.2.2.2.1 r.2.2.2.2.2.2.1 z_m_nKept z_m_mindsKept z_m_lastsKept z_m_cutKept z_m_yearKept z_m_ruleKept r.2.2.2.2.2.2.2 z_m_texts z_m_textSize z_m_tape z_m_parents z_m_kinds z_m_numbers z_m_odds z_m_yes z_m_no z_m_prices z_m_numbersKept z_m_oddsKept z_m_isThere z_m_sorts z_m_sheetSize z_m_items)))  (hm : sp_X6_term R m_ofNode m_ofDepth m_ofKids m_ofTwigs m_ofLast m_ofYear m_from m_size m_here m_token m_tokenAt m_open m_bad m_fault m_tokenWorth m_texts = some o) : xt_M yX6_term cX6_term 2 (some .int) (d + 4 + 1) [.ref 0] (WM m_thrown m_textCount m_rule m_taped m_n m_minds m_lasts m_cutNow m_year m_ofNode m_ofDepth m_ofKids m_ofTwigs m_ofLast m_ofYear m_from m_size m_here m_token m_tokenAt m_open m_bad m_fault m_nKept m_mindsKept m_lastsKept m_cutKept m_yearKept m_ruleKept m_tokenWorth m_texts m_textSize m_tape m_parents m_kinds m_numbers m_odds m_yes m_no m_prices m_numbersKept m_oddsKept m_isThere m_sorts m_sheetSize m_items) (xt_Ki o.1 (WM m_thrown m_textCount m_rule m_taped m_n m_minds m_lasts m_cutNow m_year m_ofNode m_ofDepth m_ofKids m_ofTwigs m_ofLast m_ofYear m_from m_size o.2.1 o.2.2.1 o.2.2.2.1 o.2.2.2.2.1 o.2.2.2.2.2.1 o.2.2.2.2.2.2.1 m_nKept m_mindsKept m_lastsKept m_cutKept m_yearKept m_ruleKept o.2.2.2.2.2.2.2 m_texts m_textSize m_tape m_parents m_kinds m_numbers m_odds m_yes m_no m_prices m_numbersKept m_oddsKept m_isThere m_sorts m_sheetSize m_items)) := by
  unfold sp_X6_term at hm
  refine xt_M.go (own := RX6) (lv := [some (.ref 0), none]) rfl rfl (Nat.le_of_ble_eq_true rfl) rfl ?_
  refine x_aload0 eX6_term_0 ?_
  obtain ⟨r1, hr, hm⟩ := xo_bind hm
  refine x_Vi0 eX6_term_1 kX6_atom mX6_217 (hR5 hr) rfl (Nat.le_of_ble_eq_true rfl) ?_
  refine x_istore1 eX6_term_4 rfl ?_
  exact l_X6_term_5 hR5 _ hm
set_option maxRecDepth 4000 in
theorem t_X6_atom {o : Int32 × Int32 × Int32 × Int32 × Int32 × Int32 × Int32 × Int64} {R : Nat → Int32 → Int32 → Int32 → Int32 → Int32 → Int32 → Int32 → Int32 → Int32 → Int32 → Int32 → Int32 → Int32 → Int32 → Int64 → (Nat → Int32) → Option (Int32 × Int32 × Int32 × Int32 × Int32 × Int32 × Int32 × Int64)} (hR0 : ∀  {z_m_thrown : Int32} {z_m_textCount : Int32} {z_m_rule : Int32} {z_m_taped : Int32} {z_m_n : Int32} {z_m_minds : Int32} {z_m_lasts : Int32} {z_m_cutNow : Int32} {z_m_year : Int32} {z_m_ofNode : Int32} {z_m_ofDepth : Int32} {z_m_ofKids : Int32} {z_m_ofTwigs : Int32} {z_m_ofLast : Int32} {z_m_ofYear : Int32} {z_m_from : Int32} {z_m_size : Int32} {z_m_here : Int32} {z_m_token : Int32} {z_m_tokenAt : Int32} {z_m_open : Int32} {z_m_bad : Int32} {z_m_fault : Int32} {z_m_nKept : Int32} {z_m_mindsKept : Int32} {z_m_lastsKept : Int32} {z_m_cutKept : Int32} {z_m_yearKept : Int32} {z_m_ruleKept : Int32} {z_m_tokenWorth : Int64} {z_m_texts : Nat → Int32} {z_m_textSize : Nat → Int32} {z_m_tape : Nat → Int32} {z_m_parents : Nat → Int32} {z_m_kinds : Nat → Int32} {z_m_numbers : Nat → Int32} {z_m_odds : Nat → Int32} {z_m_yes : Nat → Int32} {z_m_no : Nat → Int32} {z_m_prices : Nat → Int32} {z_m_numbersKept : Nat → Int32} {z_m_oddsKept : Nat → Int32} {z_m_isThere : Nat → Int32} {z_m_sorts : Nat → Int32} {z_m_sheetSize : Nat → Int32} {z_m_items : Nat → Int32} {r : Int32 × Int32 × Int32 × Int32 × Int32 × Int32 × Int32 × Int64}, R 0 z_m_ofNode z_m_ofDepth z_m_ofKids z_m_ofTwigs z_m_ofLast z_m_ofYear z_m_from z_m_size z_m_here z_m_token z_m_tokenAt z_m_open z_m_bad z_m_fault z_m_tokenWorth z_m_texts = some r → xt_M yX6_either cX6_either 3 (some .int) (d + 4) [.ref 0] (WM z_m_thrown z_m_textCount z_m_rule z_m_taped z_m_n z_m_minds z_m_lasts z_m_cutNow z_m_year z_m_ofNode z_m_ofDepth z_m_ofKids z_m_ofTwigs z_m_ofLast z_m_ofYear z_m_from z_m_size z_m_here z_m_token z_m_tokenAt z_m_open z_m_bad z_m_fault z_m_nKept z_m_mindsKept z_m_lastsKept z_m_cutKept z_m_yearKept z_m_ruleKept z_m_tokenWorth z_m_texts z_m_textSize z_m_tape z_m_parents z_m_kinds z_m_numbers z_m_odds z_m_yes z_m_no z_m_prices z_m_numbersKept z_m_oddsKept z_m_isThere z_m_sorts z_m_sheetSize z_m_items) (xt_Ki r.1 (WM z_m_thrown z_m_textCount z_m_rule z_m_taped z_m_n z_m_minds z_m_lasts z_m_cutNow z_m_year z_m_ofNode z_m_ofDepth z_m_ofKids z_m_ofTwigs z_m_ofLast z_m_ofYear z_m_from z_m_size r.2.1 r.2.2.1 r.2.2.2.1 r.2.2.2.2.1 r.2.2.2.2.2.1 r.2.2.2.2.2.2.1 z_m_nKept z_m_mindsKept z_m_lastsKept z_m_cutKept z_m_yearKept z_m_ruleKept r.2.2.2.2.2.2.2 z_m_texts z_m_textSize z_m_tape z_m_parents z_m_kinds z_m_numbers z_m_odds z_m_yes z_m_no z_m_prices z_m_numbersKept z_m_oddsKept z_m_isThere z_m_sorts z_m_sheetSize z_m_items))) (hR5 : ∀  {z_m_thrown : Int32} {z_m_textCount : Int32} {z_m_rule : Int32} {z_m_taped : Int32} {z_m_n : Int32} {z_m_minds : Int32} {z_m_lasts : Int32} {z_m_cutNow : Int32} {z_m_year : Int32} {z_m_ofNode : Int32} {z_m_ofDepth : Int32} {z_m_ofKids : Int32} {z_m_ofTwigs : Int32} {z_m_ofLast : Int32} {z_m_ofYear : Int32} {z_m_from : Int32} {z_m_size : Int32} {z_m_here : Int32} {z_m_token : Int32} {z_m_tokenAt : Int32} {z_m_open : Int32} {z_m_bad : Int32} {z_m_fault : Int32} {z_m_nKept : Int32} {z_m_mindsKept : Int32} {z_m_lastsKept : Int32} {z_m_cutKept : Int32} {z_m_yearKept : Int32} {z_m_ruleKept : Int32} {z_m_tokenWorth : Int64} {z_m_texts : Nat → Int32} {z_m_textSize : Nat → Int32} {z_m_tape : Nat → Int32} {z_m_parents : Nat → Int32} {z_m_kinds : Nat → Int32} {z_m_numbers : Nat → Int32} {z_m_odds : Nat → Int32} {z_m_yes : Nat → Int32} {z_m_no : Nat → Int32} {z_m_prices : Nat → Int32} {z_m_numbersKept : Nat → Int32} {z_m_oddsKept : Nat → Int32} {z_m_isThere : Nat → Int32} {z_m_sorts : Nat → Int32} {z_m_sheetSize : Nat → Int32} {z_m_items : Nat → Int32} {r : Int32 × Int32 × Int32 × Int32 × Int32 × Int32 × Int32 × Int64}, R 5 z_m_ofNode z_m_ofDepth z_m_ofKids z_m_ofTwigs z_m_ofLast z_m_ofYear z_m_from z_m_size z_m_here z_m_token z_m_tokenAt z_m_open z_m_bad z_m_fault z_m_tokenWorth z_m_texts = some r → xt_M yX6_atom cX6_atom 2 (some .int) (d + 4) [.ref 0] (WM z_m_thrown z_m_textCount z_m_rule z_m_taped z_m_n z_m_minds z_m_lasts z_m_cutNow z_m_year z_m_ofNode z_m_ofDepth z_m_ofKids z_m_ofTwigs z_m_ofLast z_m_ofYear z_m_from z_m_size z_m_here z_m_token z_m_tokenAt z_m_open z_m_bad z_m_fault z_m_nKept z_m_mindsKept z_m_lastsKept z_m_cutKept z_m_yearKept z_m_ruleKept z_m_tokenWorth z_m_texts z_m_textSize z_m_tape z_m_parents z_m_kinds z_m_numbers z_m_odds z_m_yes z_m_no z_m_prices z_m_numbersKept z_m_oddsKept z_m_isThere z_m_sorts z_m_sheetSize z_m_items) (xt_Ki r.1 (WM z_m_thrown z_m_textCount z_m_rule z_m_taped z_m_n z_m_minds z_m_lasts z_m_cutNow z_m_year z_m_ofNode z_m_ofDepth z_m_ofKids z_m_ofTwigs z_m_ofLast z_m_ofYear z_m_from z_m_size r.2.1 r.2.2.1 r.2.2.2.1 r.2.2.2.2.1 r.2.2.2.2.2.1 r.2.2.2.2.2.2.1 z_m_nKept z_m_mindsKept z_m_lastsKept z_m_cutKept z_m_yearKept z_m_ruleKept r.2.2.2.2.2.2.2 z_m_texts z_m_textSize z_m_tape z_m_parents z_m_kinds z_m_numbers z_m_odds z_m_yes z_m_no z_m_prices z_m_numbersKept z_m_oddsKept z_m_isThere z_m_sorts z_m_sheetSize z_m_items)))  (hm : sp_X6_atom R m_ofNode m_ofDepth m_ofKids m_ofTwigs m_ofLast m_ofYear m_from m_size m_here m_token m_tokenAt m_open m_bad m_fault m_tokenWorth m_texts = some o) : xt_M yX6_atom cX6_atom 2 (some .int) (d + 4 + 1) [.ref 0] (WM m_thrown m_textCount m_rule m_taped m_n m_minds m_lasts m_cutNow m_year m_ofNode m_ofDepth m_ofKids m_ofTwigs m_ofLast m_ofYear m_from m_size m_here m_token m_tokenAt m_open m_bad m_fault m_nKept m_mindsKept m_lastsKept m_cutKept m_yearKept m_ruleKept m_tokenWorth m_texts m_textSize m_tape m_parents m_kinds m_numbers m_odds m_yes m_no m_prices m_numbersKept m_oddsKept m_isThere m_sorts m_sheetSize m_items) (xt_Ki o.1 (WM m_thrown m_textCount m_rule m_taped m_n m_minds m_lasts m_cutNow m_year m_ofNode m_ofDepth m_ofKids m_ofTwigs m_ofLast m_ofYear m_from m_size o.2.1 o.2.2.1 o.2.2.2.1 o.2.2.2.2.1 o.2.2.2.2.2.1 o.2.2.2.2.2.2.1 m_nKept m_mindsKept m_lastsKept m_cutKept m_yearKept m_ruleKept o.2.2.2.2.2.2.2 m_texts m_textSize m_tape m_parents m_kinds m_numbers m_odds m_yes m_no m_prices m_numbersKept m_oddsKept m_isThere m_sorts m_sheetSize m_items)) := by
  unfold sp_X6_atom at hm
  refine xt_M.go (own := RX6) (lv := [some (.ref 0), none]) rfl rfl (Nat.le_of_ble_eq_true rfl) rfl ?_
  refine x_k eX6_atom_0 ?_
  refine x_istore1 eX6_atom_1 rfl ?_
  refine x_aload0 eX6_atom_2 ?_
  refine x_k eX6_atom_3 ?_
  refine x_Vi1 eX6_atom_5 kX6_isSign mX6_210 (t_X6_isSign rfl) rfl (Nat.le_of_ble_eq_true rfl) ?_
  refine x_if_eq eX6_atom_8 (fun c => ?_) (fun c => ?_)
  · rw [if_pos c] at hm
    refine x_aload0 eX6_atom_37 ?_
    refine x_k eX6_atom_38 ?_
    refine x_Vi1 eX6_atom_40 kX6_isSign mX6_210 (t_X6_isSign rfl) rfl (Nat.le_of_ble_eq_true rfl) ?_
    refine x_if_eq eX6_atom_43 (fun c => ?_) (fun c => ?_)
    · rw [if_pos c] at hm
      refine x_aload0 eX6_atom_95 ?_
      refine x_get eX6_atom_96 fX6_169 rfl rfl ?_
      refine x_if_ne eX6_atom_99 (fun c => ?_) (fun c => ?_)
      · rw [if_neg c] at hm
        refine x_aload0 eX6_atom_123 ?_
        refine x_get eX6_atom_124 fX6_169 rfl rfl ?_
        refine x_if_ne eX6_atom_127 (fun c => ?_) (fun c => ?_)
        · rw [if_neg c] at hm
          refine x_aload0 eX6_atom_157 ?_
          refine x_Vv0 eX6_atom_158 kX6_fail mX6_182 (t_X6_fail rfl) rfl (Nat.le_of_ble_eq_true rfl) ?_
          refine x_iload1 eX6_atom_161 ?_
          obtain rfl := Option.some.inj hm
          exact x_iret eX6_atom_162 ⟨rfl, rfl⟩
        · rw [if_pos c] at hm
          refine x_aload0 eX6_atom_130 ?_
          refine x_get eX6_atom_131 fX6_152 rfl rfl ?_
          refine x_k eX6_atom_134 ?_
          refine x_icmp_ne eX6_atom_135 (fun c => ?_) (fun c => ?_)
          · rw [if_neg c] at hm
            refine x_aload0 eX6_atom_157 ?_
            refine x_Vv0 eX6_atom_158 kX6_fail mX6_182 (t_X6_fail rfl) rfl (Nat.le_of_ble_eq_true rfl) ?_
            refine x_iload1 eX6_atom_161 ?_
            obtain rfl := Option.some.inj hm
            exact x_iret eX6_atom_162 ⟨rfl, rfl⟩
          · rw [if_pos c] at hm
            refine x_aload0 eX6_atom_138 ?_
            obtain ⟨r1, hr, hm⟩ := xo_bind hm
            refine x_Vi0 eX6_atom_139 kX6_name mX6_224 (t_X6_name hr) rfl (Nat.le_of_ble_eq_true rfl) ?_
            refine x_istore1 eX6_atom_142 rfl ?_
            refine x_aload0 eX6_atom_143 ?_
            refine x_get eX6_atom_144 fX6_169 rfl rfl ?_
            refine x_if_ne eX6_atom_147 (fun c => ?_) (fun c => ?_)
            · rw [if_neg c] at hm
              refine x_iload1 eX6_atom_161 ?_
              obtain rfl := Option.some.inj hm
              exact x_iret eX6_atom_162 ⟨rfl, rfl⟩
            · rw [if_pos c] at hm
              refine x_aload0 eX6_atom_150 ?_
              obtain ⟨r2, hr, hm⟩ := xo_bind hm
              refine x_Vv0 eX6_atom_151 kX6_next mX6_185 (t_X6_next hr) rfl (Nat.le_of_ble_eq_true rfl) ?_
              refine x_goto eX6_atom_154 ?_
              refine x_iload1 eX6_atom_161 ?_
              obtain rfl := Option.some.inj hm
              exact x_iret eX6_atom_162 ⟨rfl, rfl⟩
      · rw [if_pos c] at hm
        refine x_aload0 eX6_atom_102 ?_
        refine x_get eX6_atom_103 fX6_152 rfl rfl ?_
        refine x_k eX6_atom_106 ?_
        refine x_icmp_ne eX6_atom_107 (fun c => ?_) (fun c => ?_)
        · rw [if_neg c] at hm
          refine x_aload0 eX6_atom_123 ?_
          refine x_get eX6_atom_124 fX6_169 rfl rfl ?_
          refine x_if_ne eX6_atom_127 (fun c => ?_) (fun c => ?_)
          · rw [if_neg c] at hm
            refine x_aload0 eX6_atom_157 ?_
            refine x_Vv0 eX6_atom_158 kX6_fail mX6_182 (t_X6_fail rfl) rfl (Nat.le_of_ble_eq_true rfl) ?_
            refine x_iload1 eX6_atom_161 ?_
            obtain rfl := Option.some.inj hm
            exact x_iret eX6_atom_162 ⟨rfl, rfl⟩
          · rw [if_pos c] at hm
            refine x_aload0 eX6_atom_130 ?_
            refine x_get eX6_atom_131 fX6_152 rfl rfl ?_
            refine x_k eX6_atom_134 ?_
            refine x_icmp_ne eX6_atom_135 (fun c => ?_) (fun c => ?_)
            · rw [if_neg c] at hm
              refine x_aload0 eX6_atom_157 ?_
              refine x_Vv0 eX6_atom_158 kX6_fail mX6_182 (t_X6_fail rfl) rfl (Nat.le_of_ble_eq_true rfl) ?_
              refine x_iload1 eX6_atom_161 ?_
              obtain rfl := Option.some.inj hm
              exact x_iret eX6_atom_162 ⟨rfl, rfl⟩
            · rw [if_pos c] at hm
              refine x_aload0 eX6_atom_138 ?_
              obtain ⟨r3, hr, hm⟩ := xo_bind hm
              refine x_Vi0 eX6_atom_139 kX6_name mX6_224 (t_X6_name hr) rfl (Nat.le_of_ble_eq_true rfl) ?_
              refine x_istore1 eX6_atom_142 rfl ?_
              refine x_aload0 eX6_atom_143 ?_
              refine x_get eX6_atom_144 fX6_169 rfl rfl ?_
              refine x_if_ne eX6_atom_147 (fun c => ?_) (fun c => ?_)
              · rw [if_neg c] at hm
                refine x_iload1 eX6_atom_161 ?_
                obtain rfl := Option.some.inj hm
                exact x_iret eX6_atom_162 ⟨rfl, rfl⟩
              · rw [if_pos c] at hm
                refine x_aload0 eX6_atom_150 ?_
                obtain ⟨r4, hr, hm⟩ := xo_bind hm
                refine x_Vv0 eX6_atom_151 kX6_next mX6_185 (t_X6_next hr) rfl (Nat.le_of_ble_eq_true rfl) ?_
                refine x_goto eX6_atom_154 ?_
                refine x_iload1 eX6_atom_161 ?_
                obtain rfl := Option.some.inj hm
                exact x_iret eX6_atom_162 ⟨rfl, rfl⟩
        · rw [if_pos c] at hm
          refine x_aload0 eX6_atom_110 ?_
          refine x_get eX6_atom_111 fX6_163 rfl rfl ?_
          refine x_l2i eX6_atom_114 ?_
          refine x_istore1 eX6_atom_115 rfl ?_
          refine x_aload0 eX6_atom_116 ?_
          obtain ⟨r5, hr, hm⟩ := xo_bind hm
          refine x_Vv0 eX6_atom_117 kX6_next mX6_185 (t_X6_next hr) rfl (Nat.le_of_ble_eq_true rfl) ?_
          refine x_goto eX6_atom_120 ?_
          refine x_iload1 eX6_atom_161 ?_
          obtain rfl := Option.some.inj hm
          exact x_iret eX6_atom_162 ⟨rfl, rfl⟩
    · rw [if_neg c] at hm
      refine x_aload0 eX6_atom_46 ?_
      obtain ⟨r6, hr, hm⟩ := xo_bind hm
      refine x_Vi0 eX6_atom_47 kX6_opens mX6_213 (t_X6_opens hr) rfl (Nat.le_of_ble_eq_true rfl) ?_
      refine x_if_eq eX6_atom_50 (fun c => ?_) (fun c => ?_)
      · rw [if_pos c] at hm
        refine x_iload1 eX6_atom_161 ?_
        obtain rfl := Option.some.inj hm
        exact x_iret eX6_atom_162 ⟨rfl, rfl⟩
      · rw [if_neg c] at hm
        refine x_aload0 eX6_atom_53 ?_
        obtain ⟨r7, hr, hm⟩ := xo_bind hm
        refine x_Vi0 eX6_atom_54 kX6_either mX6_221 (hR0 hr) rfl (Nat.le_of_ble_eq_true rfl) ?_
        refine x_istore1 eX6_atom_57 rfl ?_
        refine x_aload0 eX6_atom_58 ?_
        refine x_k eX6_atom_59 ?_
        refine x_Vi1 eX6_atom_61 kX6_isSign mX6_210 (t_X6_isSign rfl) rfl (Nat.le_of_ble_eq_true rfl) ?_
        refine x_if_ne eX6_atom_64 (fun c => ?_) (fun c => ?_)
        · rw [if_neg c] at hm
          refine x_aload0 eX6_atom_71 ?_
          refine x_dup eX6_atom_72 rfl ?_
          refine x_get eX6_atom_73 fX6_179 rfl rfl ?_
          refine x_k eX6_atom_76 ?_
          refine x_isub eX6_atom_77 ?_
          refine x_puti (w' := WM _ _ _ _ _ _ _ _ _ _ _ _ _ _ _ _ _ _ _ _ _ _ _ _ _ _ _ _ _ _ _ _ _ _ _ _ _ _ _ _ _ _ _ _ _ _) eX6_atom_78 pX6_179 rfl (Nat.le_of_ble_eq_true rfl) rfl ?_
          refine x_aload0 eX6_atom_81 ?_
          refine x_get eX6_atom_82 fX6_169 rfl rfl ?_
          refine x_if_ne eX6_atom_85 (fun c => ?_) (fun c => ?_)
          · rw [if_neg c] at hm
            refine x_iload1 eX6_atom_161 ?_
            obtain rfl := Option.some.inj hm
            exact x_iret eX6_atom_162 ⟨rfl, rfl⟩
          · rw [if_pos c] at hm
            refine x_aload0 eX6_atom_88 ?_
            obtain ⟨r8, hr, hm⟩ := xo_bind hm
            refine x_Vv0 eX6_atom_89 kX6_next mX6_185 (t_X6_next hr) rfl (Nat.le_of_ble_eq_true rfl) ?_
            refine x_goto eX6_atom_92 ?_
            refine x_iload1 eX6_atom_161 ?_
            obtain rfl := Option.some.inj hm
            exact x_iret eX6_atom_162 ⟨rfl, rfl⟩
        · rw [if_pos c] at hm
          refine x_aload0 eX6_atom_67 ?_
          refine x_Vv0 eX6_atom_68 kX6_fail mX6_182 (t_X6_fail rfl) rfl (Nat.le_of_ble_eq_true rfl) ?_
          refine x_aload0 eX6_atom_71 ?_
          refine x_dup eX6_atom_72 rfl ?_
          refine x_get eX6_atom_73 fX6_179 rfl rfl ?_
          refine x_k eX6_atom_76 ?_
          refine x_isub eX6_atom_77 ?_
          refine x_puti (w' := WM _ _ _ _ _ _ _ _ _ _ _ _ _ _ _ _ _ _ _ _ _ _ _ _ _ _ _ _ _ _ _ _ _ _ _ _ _ _ _ _ _ _ _ _ _ _) eX6_atom_78 pX6_179 rfl (Nat.le_of_ble_eq_true rfl) rfl ?_
          refine x_aload0 eX6_atom_81 ?_
          refine x_get eX6_atom_82 fX6_169 rfl rfl ?_
          refine x_if_ne eX6_atom_85 (fun c => ?_) (fun c => ?_)
          · rw [if_neg c] at hm
            refine x_iload1 eX6_atom_161 ?_
            obtain rfl := Option.some.inj hm
            exact x_iret eX6_atom_162 ⟨rfl, rfl⟩
          · rw [if_pos c] at hm
            refine x_aload0 eX6_atom_88 ?_
            obtain ⟨r9, hr, hm⟩ := xo_bind hm
            refine x_Vv0 eX6_atom_89 kX6_next mX6_185 (t_X6_next hr) rfl (Nat.le_of_ble_eq_true rfl) ?_
            refine x_goto eX6_atom_92 ?_
            refine x_iload1 eX6_atom_161 ?_
            obtain rfl := Option.some.inj hm
            exact x_iret eX6_atom_162 ⟨rfl, rfl⟩
  · rw [if_neg c] at hm
    refine x_aload0 eX6_atom_11 ?_
    obtain ⟨r10, hr, hm⟩ := xo_bind hm
    refine x_Vi0 eX6_atom_12 kX6_opens mX6_213 (t_X6_opens hr) rfl (Nat.le_of_ble_eq_true rfl) ?_
    refine x_if_eq eX6_atom_15 (fun c => ?_) (fun c => ?_)
    · rw [if_pos c] at hm
      refine x_iload1 eX6_atom_161 ?_
      obtain rfl := Option.some.inj hm
      exact x_iret eX6_atom_162 ⟨rfl, rfl⟩
    · rw [if_neg c] at hm
      refine x_aload0 eX6_atom_18 ?_
      obtain ⟨r11, hr, hm⟩ := xo_bind hm
      refine x_Vi0 eX6_atom_19 kX6_atom mX6_217 (hR5 hr) rfl (Nat.le_of_ble_eq_true rfl) ?_
      refine x_ineg eX6_atom_22 ?_
      refine x_istore1 eX6_atom_23 rfl ?_
      refine x_aload0 eX6_atom_24 ?_
      refine x_dup eX6_atom_25 rfl ?_
      refine x_get eX6_atom_26 fX6_179 rfl rfl ?_
      refine x_k eX6_atom_29 ?_
      refine x_isub eX6_atom_30 ?_
      refine x_puti (w' := WM _ _ _ _ _ _ _ _ _ _ _ _ _ _ _ _ _ _ _ _ _ _ _ _ _ _ _ _ _ _ _ _ _ _ _ _ _ _ _ _ _ _ _ _ _ _) eX6_atom_31 pX6_179 rfl (Nat.le_of_ble_eq_true rfl) rfl ?_
      refine x_goto eX6_atom_34 ?_
      refine x_iload1 eX6_atom_161 ?_
      obtain rfl := Option.some.inj hm
      exact x_iret eX6_atom_162 ⟨rfl, rfl⟩
set_option maxRecDepth 4000 in
theorem t_gX6 : ∀ n : Nat, (∀  {z_m_thrown : Int32} {z_m_textCount : Int32} {z_m_rule : Int32} {z_m_taped : Int32} {z_m_n : Int32} {z_m_minds : Int32} {z_m_lasts : Int32} {z_m_cutNow : Int32} {z_m_year : Int32} {z_m_ofNode : Int32} {z_m_ofDepth : Int32} {z_m_ofKids : Int32} {z_m_ofTwigs : Int32} {z_m_ofLast : Int32} {z_m_ofYear : Int32} {z_m_from : Int32} {z_m_size : Int32} {z_m_here : Int32} {z_m_token : Int32} {z_m_tokenAt : Int32} {z_m_open : Int32} {z_m_bad : Int32} {z_m_fault : Int32} {z_m_nKept : Int32} {z_m_mindsKept : Int32} {z_m_lastsKept : Int32} {z_m_cutKept : Int32} {z_m_yearKept : Int32} {z_m_ruleKept : Int32} {z_m_tokenWorth : Int64} {z_m_texts : Nat → Int32} {z_m_textSize : Nat → Int32} {z_m_tape : Nat → Int32} {z_m_parents : Nat → Int32} {z_m_kinds : Nat → Int32} {z_m_numbers : Nat → Int32} {z_m_odds : Nat → Int32} {z_m_yes : Nat → Int32} {z_m_no : Nat → Int32} {z_m_prices : Nat → Int32} {z_m_numbersKept : Nat → Int32} {z_m_oddsKept : Nat → Int32} {z_m_isThere : Nat → Int32} {z_m_sorts : Nat → Int32} {z_m_sheetSize : Nat → Int32} {z_m_items : Nat → Int32} {r : Int32 × Int32 × Int32 × Int32 × Int32 × Int32 × Int32 × Int64}, sp_gX6 n 0 z_m_ofNode z_m_ofDepth z_m_ofKids z_m_ofTwigs z_m_ofLast z_m_ofYear z_m_from z_m_size z_m_here z_m_token z_m_tokenAt z_m_open z_m_bad z_m_fault z_m_tokenWorth z_m_texts = some r → xt_M yX6_either cX6_either 3 (some .int) (d + n + 4) [.ref 0] (WM z_m_thrown z_m_textCount z_m_rule z_m_taped z_m_n z_m_minds z_m_lasts z_m_cutNow z_m_year z_m_ofNode z_m_ofDepth z_m_ofKids z_m_ofTwigs z_m_ofLast z_m_ofYear z_m_from z_m_size z_m_here z_m_token z_m_tokenAt z_m_open z_m_bad z_m_fault z_m_nKept z_m_mindsKept z_m_lastsKept z_m_cutKept z_m_yearKept z_m_ruleKept z_m_tokenWorth z_m_texts z_m_textSize z_m_tape z_m_parents z_m_kinds z_m_numbers z_m_odds z_m_yes z_m_no z_m_prices z_m_numbersKept z_m_oddsKept z_m_isThere z_m_sorts z_m_sheetSize z_m_items) (xt_Ki r.1 (WM z_m_thrown z_m_textCount z_m_rule z_m_taped z_m_n z_m_minds z_m_lasts z_m_cutNow z_m_year z_m_ofNode z_m_ofDepth z_m_ofKids z_m_ofTwigs z_m_ofLast z_m_ofYear z_m_from z_m_size r.2.1 r.2.2.1 r.2.2.2.1 r.2.2.2.2.1 r.2.2.2.2.2.1 r.2.2.2.2.2.2.1 z_m_nKept z_m_mindsKept z_m_lastsKept z_m_cutKept z_m_yearKept z_m_ruleKept r.2.2.2.2.2.2.2 z_m_texts z_m_textSize z_m_tape z_m_parents z_m_kinds z_m_numbers z_m_odds z_m_yes z_m_no z_m_prices z_m_numbersKept z_m_oddsKept z_m_isThere z_m_sorts z_m_sheetSize z_m_items))) ∧ (∀  {z_m_thrown : Int32} {z_m_textCount : Int32} {z_m_rule : Int32} {z_m_taped : Int32} {z_m_n : Int32} {z_m_minds : Int32} {z_m_lasts : Int32} {z_m_cutNow : Int32} {z_m_year : Int32} {z_m_ofNode : Int32} {z_m_ofDepth : Int32} {z_m_ofKids : Int32} {z_m_ofTwigs : Int32} {z_m_ofLast : Int32} {z_m_ofYear : Int32} {z_m_from : Int32} {z_m_size : Int32} {z_m_here : Int32} {z_m_token : Int32} {z_m_tokenAt : Int32} {z_m_open : Int32} {z_m_bad : Int32} {z_m_fault : Int32} {z_m_nKept : Int32} {z_m_mindsKept : Int32} {z_m_lastsKept : Int32} {z_m_cutKept : Int32} {z_m_yearKept : Int32} {z_m_ruleKept : Int32} {z_m_tokenWorth : Int64} {z_m_texts : Nat → Int32} {z_m_textSize : Nat → Int32} {z_m_tape : Nat → Int32} {z_m_parents : Nat → Int32} {z_m_kinds : Nat → Int32} {z_m_numbers : Nat → Int32} {z_m_odds : Nat → Int32} {z_m_yes : Nat → Int32} {z_m_no : Nat → Int32} {z_m_prices : Nat → Int32} {z_m_numbersKept : Nat → Int32} {z_m_oddsKept : Nat → Int32} {z_m_isThere : Nat → Int32} {z_m_sorts : Nat → Int32} {z_m_sheetSize : Nat → Int32} {z_m_items : Nat → Int32} {r : Int32 × Int32 × Int32 × Int32 × Int32 × Int32 × Int32 × Int64}, sp_gX6 n 1 z_m_ofNode z_m_ofDepth z_m_ofKids z_m_ofTwigs z_m_ofLast z_m_ofYear z_m_from z_m_size z_m_here z_m_token z_m_tokenAt z_m_open z_m_bad z_m_fault z_m_tokenWorth z_m_texts = some r → xt_M yX6_both cX6_both 3 (some .int) (d + n + 4) [.ref 0] (WM z_m_thrown z_m_textCount z_m_rule z_m_taped z_m_n z_m_minds z_m_lasts z_m_cutNow z_m_year z_m_ofNode z_m_ofDepth z_m_ofKids z_m_ofTwigs z_m_ofLast z_m_ofYear z_m_from z_m_size z_m_here z_m_token z_m_tokenAt z_m_open z_m_bad z_m_fault z_m_nKept z_m_mindsKept z_m_lastsKept z_m_cutKept z_m_yearKept z_m_ruleKept z_m_tokenWorth z_m_texts z_m_textSize z_m_tape z_m_parents z_m_kinds z_m_numbers z_m_odds z_m_yes z_m_no z_m_prices z_m_numbersKept z_m_oddsKept z_m_isThere z_m_sorts z_m_sheetSize z_m_items) (xt_Ki r.1 (WM z_m_thrown z_m_textCount z_m_rule z_m_taped z_m_n z_m_minds z_m_lasts z_m_cutNow z_m_year z_m_ofNode z_m_ofDepth z_m_ofKids z_m_ofTwigs z_m_ofLast z_m_ofYear z_m_from z_m_size r.2.1 r.2.2.1 r.2.2.2.1 r.2.2.2.2.1 r.2.2.2.2.2.1 r.2.2.2.2.2.2.1 z_m_nKept z_m_mindsKept z_m_lastsKept z_m_cutKept z_m_yearKept z_m_ruleKept r.2.2.2.2.2.2.2 z_m_texts z_m_textSize z_m_tape z_m_parents z_m_kinds z_m_numbers z_m_odds z_m_yes z_m_no z_m_prices z_m_numbersKept z_m_oddsKept z_m_isThere z_m_sorts z_m_sheetSize z_m_items))) ∧ (∀  {z_m_thrown : Int32} {z_m_textCount : Int32} {z_m_rule : Int32} {z_m_taped : Int32} {z_m_n : Int32} {z_m_minds : Int32} {z_m_lasts : Int32} {z_m_cutNow : Int32} {z_m_year : Int32} {z_m_ofNode : Int32} {z_m_ofDepth : Int32} {z_m_ofKids : Int32} {z_m_ofTwigs : Int32} {z_m_ofLast : Int32} {z_m_ofYear : Int32} {z_m_from : Int32} {z_m_size : Int32} {z_m_here : Int32} {z_m_token : Int32} {z_m_tokenAt : Int32} {z_m_open : Int32} {z_m_bad : Int32} {z_m_fault : Int32} {z_m_nKept : Int32} {z_m_mindsKept : Int32} {z_m_lastsKept : Int32} {z_m_cutKept : Int32} {z_m_yearKept : Int32} {z_m_ruleKept : Int32} {z_m_tokenWorth : Int64} {z_m_texts : Nat → Int32} {z_m_textSize : Nat → Int32} {z_m_tape : Nat → Int32} {z_m_parents : Nat → Int32} {z_m_kinds : Nat → Int32} {z_m_numbers : Nat → Int32} {z_m_odds : Nat → Int32} {z_m_yes : Nat → Int32} {z_m_no : Nat → Int32} {z_m_prices : Nat → Int32} {z_m_numbersKept : Nat → Int32} {z_m_oddsKept : Nat → Int32} {z_m_isThere : Nat → Int32} {z_m_sorts : Nat → Int32} {z_m_sheetSize : Nat → Int32} {z_m_items : Nat → Int32} {r : Int32 × Int32 × Int32 × Int32 × Int32 × Int32 × Int32 × Int64}, sp_gX6 n 2 z_m_ofNode z_m_ofDepth z_m_ofKids z_m_ofTwigs z_m_ofLast z_m_ofYear z_m_from z_m_size z_m_here z_m_token z_m_tokenAt z_m_open z_m_bad z_m_fault z_m_tokenWorth z_m_texts = some r → xt_M yX6_not cX6_not 4 (some .int) (d + n + 4) [.ref 0] (WM z_m_thrown z_m_textCount z_m_rule z_m_taped z_m_n z_m_minds z_m_lasts z_m_cutNow z_m_year z_m_ofNode z_m_ofDepth z_m_ofKids z_m_ofTwigs z_m_ofLast z_m_ofYear z_m_from z_m_size z_m_here z_m_token z_m_tokenAt z_m_open z_m_bad z_m_fault z_m_nKept z_m_mindsKept z_m_lastsKept z_m_cutKept z_m_yearKept z_m_ruleKept z_m_tokenWorth z_m_texts z_m_textSize z_m_tape z_m_parents z_m_kinds z_m_numbers z_m_odds z_m_yes z_m_no z_m_prices z_m_numbersKept z_m_oddsKept z_m_isThere z_m_sorts z_m_sheetSize z_m_items) (xt_Ki r.1 (WM z_m_thrown z_m_textCount z_m_rule z_m_taped z_m_n z_m_minds z_m_lasts z_m_cutNow z_m_year z_m_ofNode z_m_ofDepth z_m_ofKids z_m_ofTwigs z_m_ofLast z_m_ofYear z_m_from z_m_size r.2.1 r.2.2.1 r.2.2.2.1 r.2.2.2.2.1 r.2.2.2.2.2.1 r.2.2.2.2.2.2.1 z_m_nKept z_m_mindsKept z_m_lastsKept z_m_cutKept z_m_yearKept z_m_ruleKept r.2.2.2.2.2.2.2 z_m_texts z_m_textSize z_m_tape z_m_parents z_m_kinds z_m_numbers z_m_odds z_m_yes z_m_no z_m_prices z_m_numbersKept z_m_oddsKept z_m_isThere z_m_sorts z_m_sheetSize z_m_items))) ∧ (∀  {z_m_thrown : Int32} {z_m_textCount : Int32} {z_m_rule : Int32} {z_m_taped : Int32} {z_m_n : Int32} {z_m_minds : Int32} {z_m_lasts : Int32} {z_m_cutNow : Int32} {z_m_year : Int32} {z_m_ofNode : Int32} {z_m_ofDepth : Int32} {z_m_ofKids : Int32} {z_m_ofTwigs : Int32} {z_m_ofLast : Int32} {z_m_ofYear : Int32} {z_m_from : Int32} {z_m_size : Int32} {z_m_here : Int32} {z_m_token : Int32} {z_m_tokenAt : Int32} {z_m_open : Int32} {z_m_bad : Int32} {z_m_fault : Int32} {z_m_nKept : Int32} {z_m_mindsKept : Int32} {z_m_lastsKept : Int32} {z_m_cutKept : Int32} {z_m_yearKept : Int32} {z_m_ruleKept : Int32} {z_m_tokenWorth : Int64} {z_m_texts : Nat → Int32} {z_m_textSize : Nat → Int32} {z_m_tape : Nat → Int32} {z_m_parents : Nat → Int32} {z_m_kinds : Nat → Int32} {z_m_numbers : Nat → Int32} {z_m_odds : Nat → Int32} {z_m_yes : Nat → Int32} {z_m_no : Nat → Int32} {z_m_prices : Nat → Int32} {z_m_numbersKept : Nat → Int32} {z_m_oddsKept : Nat → Int32} {z_m_isThere : Nat → Int32} {z_m_sorts : Nat → Int32} {z_m_sheetSize : Nat → Int32} {z_m_items : Nat → Int32} {r : Int32 × Int32 × Int32 × Int32 × Int32 × Int32 × Int32 × Int64}, sp_gX6 n 3 z_m_ofNode z_m_ofDepth z_m_ofKids z_m_ofTwigs z_m_ofLast z_m_ofYear z_m_from z_m_size z_m_here z_m_token z_m_tokenAt z_m_open z_m_bad z_m_fault z_m_tokenWorth z_m_texts = some r → xt_M yX6_added cX6_added 4 (some .int) (d + n + 4) [.ref 0] (WM z_m_thrown z_m_textCount z_m_rule z_m_taped z_m_n z_m_minds z_m_lasts z_m_cutNow z_m_year z_m_ofNode z_m_ofDepth z_m_ofKids z_m_ofTwigs z_m_ofLast z_m_ofYear z_m_from z_m_size z_m_here z_m_token z_m_tokenAt z_m_open z_m_bad z_m_fault z_m_nKept z_m_mindsKept z_m_lastsKept z_m_cutKept z_m_yearKept z_m_ruleKept z_m_tokenWorth z_m_texts z_m_textSize z_m_tape z_m_parents z_m_kinds z_m_numbers z_m_odds z_m_yes z_m_no z_m_prices z_m_numbersKept z_m_oddsKept z_m_isThere z_m_sorts z_m_sheetSize z_m_items) (xt_Ki r.1 (WM z_m_thrown z_m_textCount z_m_rule z_m_taped z_m_n z_m_minds z_m_lasts z_m_cutNow z_m_year z_m_ofNode z_m_ofDepth z_m_ofKids z_m_ofTwigs z_m_ofLast z_m_ofYear z_m_from z_m_size r.2.1 r.2.2.1 r.2.2.2.1 r.2.2.2.2.1 r.2.2.2.2.2.1 r.2.2.2.2.2.2.1 z_m_nKept z_m_mindsKept z_m_lastsKept z_m_cutKept z_m_yearKept z_m_ruleKept r.2.2.2.2.2.2.2 z_m_texts z_m_textSize z_m_tape z_m_parents z_m_kinds z_m_numbers z_m_odds z_m_yes z_m_no z_m_prices z_m_numbersKept z_m_oddsKept z_m_isThere z_m_sorts z_m_sheetSize z_m_items))) ∧ (∀  {z_m_thrown : Int32} {z_m_textCount : Int32} {z_m_rule : Int32} {z_m_taped : Int32} {z_m_n : Int32} {z_m_minds : Int32} {z_m_lasts : Int32} {z_m_cutNow : Int32} {z_m_year : Int32} {z_m_ofNode : Int32} {z_m_ofDepth : Int32} {z_m_ofKids : Int32} {z_m_ofTwigs : Int32} {z_m_ofLast : Int32} {z_m_ofYear : Int32} {z_m_from : Int32} {z_m_size : Int32} {z_m_here : Int32} {z_m_token : Int32} {z_m_tokenAt : Int32} {z_m_open : Int32} {z_m_bad : Int32} {z_m_fault : Int32} {z_m_nKept : Int32} {z_m_mindsKept : Int32} {z_m_lastsKept : Int32} {z_m_cutKept : Int32} {z_m_yearKept : Int32} {z_m_ruleKept : Int32} {z_m_tokenWorth : Int64} {z_m_texts : Nat → Int32} {z_m_textSize : Nat → Int32} {z_m_tape : Nat → Int32} {z_m_parents : Nat → Int32} {z_m_kinds : Nat → Int32} {z_m_numbers : Nat → Int32} {z_m_odds : Nat → Int32} {z_m_yes : Nat → Int32} {z_m_no : Nat → Int32} {z_m_prices : Nat → Int32} {z_m_numbersKept : Nat → Int32} {z_m_oddsKept : Nat → Int32} {z_m_isThere : Nat → Int32} {z_m_sorts : Nat → Int32} {z_m_sheetSize : Nat → Int32} {z_m_items : Nat → Int32} {r : Int32 × Int32 × Int32 × Int32 × Int32 × Int32 × Int32 × Int64}, sp_gX6 n 4 z_m_ofNode z_m_ofDepth z_m_ofKids z_m_ofTwigs z_m_ofLast z_m_ofYear z_m_from z_m_size z_m_here z_m_token z_m_tokenAt z_m_open z_m_bad z_m_fault z_m_tokenWorth z_m_texts = some r → xt_M yX6_term cX6_term 2 (some .int) (d + n + 4) [.ref 0] (WM z_m_thrown z_m_textCount z_m_rule z_m_taped z_m_n z_m_minds z_m_lasts z_m_cutNow z_m_year z_m_ofNode z_m_ofDepth z_m_ofKids z_m_ofTwigs z_m_ofLast z_m_ofYear z_m_from z_m_size z_m_here z_m_token z_m_tokenAt z_m_open z_m_bad z_m_fault z_m_nKept z_m_mindsKept z_m_lastsKept z_m_cutKept z_m_yearKept z_m_ruleKept z_m_tokenWorth z_m_texts z_m_textSize z_m_tape z_m_parents z_m_kinds z_m_numbers z_m_odds z_m_yes z_m_no z_m_prices z_m_numbersKept z_m_oddsKept z_m_isThere z_m_sorts z_m_sheetSize z_m_items) (xt_Ki r.1 (WM z_m_thrown z_m_textCount z_m_rule z_m_taped z_m_n z_m_minds z_m_lasts z_m_cutNow z_m_year z_m_ofNode z_m_ofDepth z_m_ofKids z_m_ofTwigs z_m_ofLast z_m_ofYear z_m_from z_m_size r.2.1 r.2.2.1 r.2.2.2.1 r.2.2.2.2.1 r.2.2.2.2.2.1 r.2.2.2.2.2.2.1 z_m_nKept z_m_mindsKept z_m_lastsKept z_m_cutKept z_m_yearKept z_m_ruleKept r.2.2.2.2.2.2.2 z_m_texts z_m_textSize z_m_tape z_m_parents z_m_kinds z_m_numbers z_m_odds z_m_yes z_m_no z_m_prices z_m_numbersKept z_m_oddsKept z_m_isThere z_m_sorts z_m_sheetSize z_m_items))) ∧ (∀  {z_m_thrown : Int32} {z_m_textCount : Int32} {z_m_rule : Int32} {z_m_taped : Int32} {z_m_n : Int32} {z_m_minds : Int32} {z_m_lasts : Int32} {z_m_cutNow : Int32} {z_m_year : Int32} {z_m_ofNode : Int32} {z_m_ofDepth : Int32} {z_m_ofKids : Int32} {z_m_ofTwigs : Int32} {z_m_ofLast : Int32} {z_m_ofYear : Int32} {z_m_from : Int32} {z_m_size : Int32} {z_m_here : Int32} {z_m_token : Int32} {z_m_tokenAt : Int32} {z_m_open : Int32} {z_m_bad : Int32} {z_m_fault : Int32} {z_m_nKept : Int32} {z_m_mindsKept : Int32} {z_m_lastsKept : Int32} {z_m_cutKept : Int32} {z_m_yearKept : Int32} {z_m_ruleKept : Int32} {z_m_tokenWorth : Int64} {z_m_texts : Nat → Int32} {z_m_textSize : Nat → Int32} {z_m_tape : Nat → Int32} {z_m_parents : Nat → Int32} {z_m_kinds : Nat → Int32} {z_m_numbers : Nat → Int32} {z_m_odds : Nat → Int32} {z_m_yes : Nat → Int32} {z_m_no : Nat → Int32} {z_m_prices : Nat → Int32} {z_m_numbersKept : Nat → Int32} {z_m_oddsKept : Nat → Int32} {z_m_isThere : Nat → Int32} {z_m_sorts : Nat → Int32} {z_m_sheetSize : Nat → Int32} {z_m_items : Nat → Int32} {r : Int32 × Int32 × Int32 × Int32 × Int32 × Int32 × Int32 × Int64}, sp_gX6 n 5 z_m_ofNode z_m_ofDepth z_m_ofKids z_m_ofTwigs z_m_ofLast z_m_ofYear z_m_from z_m_size z_m_here z_m_token z_m_tokenAt z_m_open z_m_bad z_m_fault z_m_tokenWorth z_m_texts = some r → xt_M yX6_atom cX6_atom 2 (some .int) (d + n + 4) [.ref 0] (WM z_m_thrown z_m_textCount z_m_rule z_m_taped z_m_n z_m_minds z_m_lasts z_m_cutNow z_m_year z_m_ofNode z_m_ofDepth z_m_ofKids z_m_ofTwigs z_m_ofLast z_m_ofYear z_m_from z_m_size z_m_here z_m_token z_m_tokenAt z_m_open z_m_bad z_m_fault z_m_nKept z_m_mindsKept z_m_lastsKept z_m_cutKept z_m_yearKept z_m_ruleKept z_m_tokenWorth z_m_texts z_m_textSize z_m_tape z_m_parents z_m_kinds z_m_numbers z_m_odds z_m_yes z_m_no z_m_prices z_m_numbersKept z_m_oddsKept z_m_isThere z_m_sorts z_m_sheetSize z_m_items) (xt_Ki r.1 (WM z_m_thrown z_m_textCount z_m_rule z_m_taped z_m_n z_m_minds z_m_lasts z_m_cutNow z_m_year z_m_ofNode z_m_ofDepth z_m_ofKids z_m_ofTwigs z_m_ofLast z_m_ofYear z_m_from z_m_size r.2.1 r.2.2.1 r.2.2.2.1 r.2.2.2.2.1 r.2.2.2.2.2.1 r.2.2.2.2.2.2.1 z_m_nKept z_m_mindsKept z_m_lastsKept z_m_cutKept z_m_yearKept z_m_ruleKept r.2.2.2.2.2.2.2 z_m_texts z_m_textSize z_m_tape z_m_parents z_m_kinds z_m_numbers z_m_odds z_m_yes z_m_no z_m_prices z_m_numbersKept z_m_oddsKept z_m_isThere z_m_sorts z_m_sheetSize z_m_items))) := by
  intro n
  induction n with
  | zero => refine ⟨?_, ?_, ?_, ?_, ?_, ?_⟩ <;> (intros; rename_i hm; rw [sp_gX6] at hm; cases hm)
  | succ n ih =>
    obtain ⟨i0, i1, i2, i3, i4, i5⟩ := ih
    refine ⟨?_, ?_, ?_, ?_, ?_, ?_⟩
    · intros; rename_i hm; rw [sp_gX6, if_pos rfl] at hm; exact t_X6_either (d := d + n) i1 hm
    · intros; rename_i hm; rw [sp_gX6, if_neg (by decide), if_pos rfl] at hm; exact t_X6_both (d := d + n) i2 hm
    · intros; rename_i hm; rw [sp_gX6, if_neg (by decide), if_neg (by decide), if_pos rfl] at hm; exact t_X6_not (d := d + n) i2 i3 hm
    · intros; rename_i hm; rw [sp_gX6, if_neg (by decide), if_neg (by decide), if_neg (by decide), if_pos rfl] at hm; exact t_X6_added (d := d + n) i4 hm
    · intros; rename_i hm; rw [sp_gX6, if_neg (by decide), if_neg (by decide), if_neg (by decide), if_neg (by decide), if_pos rfl] at hm; exact t_X6_term (d := d + n) i5 hm
    · intros; rename_i hm; rw [sp_gX6, if_neg (by decide), if_neg (by decide), if_neg (by decide), if_neg (by decide), if_neg (by decide), if_pos rfl] at hm; exact t_X6_atom (d := d + n) i0 i5 hm

set_option maxRecDepth 4000 in
theorem t_X6_part {o : Int32 × Int32 × Int32 × Int32 × Int32 × Int32 × Int32 × Int64} {p1 : Int32} (hm : sp_X6_part p1 m_ofNode m_ofDepth m_ofKids m_ofTwigs m_ofLast m_ofYear m_from m_size m_here m_token m_tokenAt m_open m_bad m_fault m_tokenWorth m_texts = some o) : xt_M yX6_part cX6_part 3 (some .int) (d + 85) [.ref 0, .int p1] (WM m_thrown m_textCount m_rule m_taped m_n m_minds m_lasts m_cutNow m_year m_ofNode m_ofDepth m_ofKids m_ofTwigs m_ofLast m_ofYear m_from m_size m_here m_token m_tokenAt m_open m_bad m_fault m_nKept m_mindsKept m_lastsKept m_cutKept m_yearKept m_ruleKept m_tokenWorth m_texts m_textSize m_tape m_parents m_kinds m_numbers m_odds m_yes m_no m_prices m_numbersKept m_oddsKept m_isThere m_sorts m_sheetSize m_items) (xt_Ki o.1 (WM m_thrown m_textCount m_rule m_taped m_n m_minds m_lasts m_cutNow m_year m_ofNode m_ofDepth m_ofKids m_ofTwigs m_ofLast m_ofYear m_from m_size o.2.1 o.2.2.1 o.2.2.2.1 o.2.2.2.2.1 o.2.2.2.2.2.1 o.2.2.2.2.2.2.1 m_nKept m_mindsKept m_lastsKept m_cutKept m_yearKept m_ruleKept o.2.2.2.2.2.2.2 m_texts m_textSize m_tape m_parents m_kinds m_numbers m_odds m_yes m_no m_prices m_numbersKept m_oddsKept m_isThere m_sorts m_sheetSize m_items)) := by
  unfold sp_X6_part at hm
  refine xt_M.go (own := RX6) (lv := [some (.ref 0), some (.int p1), none]) rfl rfl (Nat.le_of_ble_eq_true rfl) rfl ?_
  refine x_iload1 eX6_part_0 ?_
  refine x_if_ne eX6_part_1 (fun c => ?_) (fun c => ?_)
  · rw [if_neg c] at hm
    refine x_aload0 eX6_part_8 ?_
    refine x_get eX6_part_9 fX6_169 rfl rfl ?_
    refine x_if_ne eX6_part_12 (fun c => ?_) (fun c => ?_)
    · rw [if_neg c] at hm
      refine x_aload0 eX6_part_19 ?_
      refine x_get eX6_part_20 fX6_169 rfl rfl ?_
      refine x_if_eq eX6_part_23 (fun c => ?_) (fun c => ?_)
      · rw [if_pos c] at hm
        refine x_aload0 eX6_part_30 ?_
        obtain ⟨r1, hr, hm⟩ := xo_bind hm
        refine x_Vi0 eX6_part_31 kX6_either mX6_221 ((t_gX6 80).1 hr) rfl (Nat.le_of_ble_eq_true rfl) ?_
        refine x_istore2 eX6_part_34 rfl ?_
        refine x_aload0 eX6_part_35 ?_
        refine x_k eX6_part_36 ?_
        refine x_Vi1 eX6_part_38 kX6_isSign mX6_210 (t_X6_isSign rfl) rfl (Nat.le_of_ble_eq_true rfl) ?_
        refine x_if_ne eX6_part_41 (fun c => ?_) (fun c => ?_)
        · rw [if_neg c] at hm
          refine x_aload0 eX6_part_48 ?_
          refine x_get eX6_part_49 fX6_169 rfl rfl ?_
          refine x_if_ne eX6_part_52 (fun c => ?_) (fun c => ?_)
          · rw [if_neg c] at hm
            refine x_iload2 eX6_part_59 ?_
            obtain rfl := Option.some.inj hm
            exact x_iret eX6_part_60 ⟨rfl, rfl⟩
          · rw [if_pos c] at hm
            refine x_aload0 eX6_part_55 ?_
            obtain ⟨r2, hr, hm⟩ := xo_bind hm
            refine x_Vv0 eX6_part_56 kX6_next mX6_185 (t_X6_next hr) rfl (Nat.le_of_ble_eq_true rfl) ?_
            refine x_iload2 eX6_part_59 ?_
            obtain rfl := Option.some.inj hm
            exact x_iret eX6_part_60 ⟨rfl, rfl⟩
        · rw [if_pos c] at hm
          refine x_aload0 eX6_part_44 ?_
          refine x_Vv0 eX6_part_45 kX6_fail mX6_182 (t_X6_fail rfl) rfl (Nat.le_of_ble_eq_true rfl) ?_
          refine x_aload0 eX6_part_48 ?_
          refine x_get eX6_part_49 fX6_169 rfl rfl ?_
          refine x_if_ne eX6_part_52 (fun c => ?_) (fun c => ?_)
          · rw [if_neg c] at hm
            refine x_iload2 eX6_part_59 ?_
            obtain rfl := Option.some.inj hm
            exact x_iret eX6_part_60 ⟨rfl, rfl⟩
          · rw [if_pos c] at hm
            refine x_aload0 eX6_part_55 ?_
            obtain ⟨r3, hr, hm⟩ := xo_bind hm
            refine x_Vv0 eX6_part_56 kX6_next mX6_185 (t_X6_next hr) rfl (Nat.le_of_ble_eq_true rfl) ?_
            refine x_iload2 eX6_part_59 ?_
            obtain rfl := Option.some.inj hm
            exact x_iret eX6_part_60 ⟨rfl, rfl⟩
      · rw [if_neg c] at hm
        refine x_k eX6_part_26 ?_
        refine x_goto eX6_part_27 ?_
        refine x_istore2 eX6_part_34 rfl ?_
        refine x_aload0 eX6_part_35 ?_
        refine x_k eX6_part_36 ?_
        refine x_Vi1 eX6_part_38 kX6_isSign mX6_210 (t_X6_isSign rfl) rfl (Nat.le_of_ble_eq_true rfl) ?_
        refine x_if_ne eX6_part_41 (fun c => ?_) (fun c => ?_)
        · rw [if_neg c] at hm
          refine x_aload0 eX6_part_48 ?_
          refine x_get eX6_part_49 fX6_169 rfl rfl ?_
          refine x_if_ne eX6_part_52 (fun c => ?_) (fun c => ?_)
          · rw [if_neg c] at hm
            refine x_iload2 eX6_part_59 ?_
            obtain rfl := Option.some.inj hm
            exact x_iret eX6_part_60 ⟨rfl, rfl⟩
          · rw [if_pos c] at hm
            refine x_aload0 eX6_part_55 ?_
            obtain ⟨r4, hr, hm⟩ := xo_bind hm
            refine x_Vv0 eX6_part_56 kX6_next mX6_185 (t_X6_next hr) rfl (Nat.le_of_ble_eq_true rfl) ?_
            refine x_iload2 eX6_part_59 ?_
            obtain rfl := Option.some.inj hm
            exact x_iret eX6_part_60 ⟨rfl, rfl⟩
        · rw [if_pos c] at hm
          refine x_aload0 eX6_part_44 ?_
          refine x_Vv0 eX6_part_45 kX6_fail mX6_182 (t_X6_fail rfl) rfl (Nat.le_of_ble_eq_true rfl) ?_
          refine x_aload0 eX6_part_48 ?_
          refine x_get eX6_part_49 fX6_169 rfl rfl ?_
          refine x_if_ne eX6_part_52 (fun c => ?_) (fun c => ?_)
          · rw [if_neg c] at hm
            refine x_iload2 eX6_part_59 ?_
            obtain rfl := Option.some.inj hm
            exact x_iret eX6_part_60 ⟨rfl, rfl⟩
          · rw [if_pos c] at hm
            refine x_aload0 eX6_part_55 ?_
            obtain ⟨r5, hr, hm⟩ := xo_bind hm
            refine x_Vv0 eX6_part_56 kX6_next mX6_185 (t_X6_next hr) rfl (Nat.le_of_ble_eq_true rfl) ?_
            refine x_iload2 eX6_part_59 ?_
            obtain rfl := Option.some.inj hm
            exact x_iret eX6_part_60 ⟨rfl, rfl⟩
    · rw [if_pos c] at hm
      refine x_aload0 eX6_part_15 ?_
      obtain ⟨r6, hr, hm⟩ := xo_bind hm
      refine x_Vv0 eX6_part_16 kX6_next mX6_185 (t_X6_next hr) rfl (Nat.le_of_ble_eq_true rfl) ?_
      refine x_aload0 eX6_part_19 ?_
      refine x_get eX6_part_20 fX6_169 rfl rfl ?_
      refine x_if_eq eX6_part_23 (fun c => ?_) (fun c => ?_)
      · rw [if_pos c] at hm
        refine x_aload0 eX6_part_30 ?_
        obtain ⟨r7, hr, hm⟩ := xo_bind hm
        refine x_Vi0 eX6_part_31 kX6_either mX6_221 ((t_gX6 80).1 hr) rfl (Nat.le_of_ble_eq_true rfl) ?_
        refine x_istore2 eX6_part_34 rfl ?_
        refine x_aload0 eX6_part_35 ?_
        refine x_k eX6_part_36 ?_
        refine x_Vi1 eX6_part_38 kX6_isSign mX6_210 (t_X6_isSign rfl) rfl (Nat.le_of_ble_eq_true rfl) ?_
        refine x_if_ne eX6_part_41 (fun c => ?_) (fun c => ?_)
        · rw [if_neg c] at hm
          refine x_aload0 eX6_part_48 ?_
          refine x_get eX6_part_49 fX6_169 rfl rfl ?_
          refine x_if_ne eX6_part_52 (fun c => ?_) (fun c => ?_)
          · rw [if_neg c] at hm
            refine x_iload2 eX6_part_59 ?_
            obtain rfl := Option.some.inj hm
            exact x_iret eX6_part_60 ⟨rfl, rfl⟩
          · rw [if_pos c] at hm
            refine x_aload0 eX6_part_55 ?_
            obtain ⟨r8, hr, hm⟩ := xo_bind hm
            refine x_Vv0 eX6_part_56 kX6_next mX6_185 (t_X6_next hr) rfl (Nat.le_of_ble_eq_true rfl) ?_
            refine x_iload2 eX6_part_59 ?_
            obtain rfl := Option.some.inj hm
            exact x_iret eX6_part_60 ⟨rfl, rfl⟩
        · rw [if_pos c] at hm
          refine x_aload0 eX6_part_44 ?_
          refine x_Vv0 eX6_part_45 kX6_fail mX6_182 (t_X6_fail rfl) rfl (Nat.le_of_ble_eq_true rfl) ?_
          refine x_aload0 eX6_part_48 ?_
          refine x_get eX6_part_49 fX6_169 rfl rfl ?_
          refine x_if_ne eX6_part_52 (fun c => ?_) (fun c => ?_)
          · rw [if_neg c] at hm
            refine x_iload2 eX6_part_59 ?_
            obtain rfl := Option.some.inj hm
            exact x_iret eX6_part_60 ⟨rfl, rfl⟩
          · rw [if_pos c] at hm
            refine x_aload0 eX6_part_55 ?_
            obtain ⟨r9, hr, hm⟩ := xo_bind hm
            refine x_Vv0 eX6_part_56 kX6_next mX6_185 (t_X6_next hr) rfl (Nat.le_of_ble_eq_true rfl) ?_
            refine x_iload2 eX6_part_59 ?_
            obtain rfl := Option.some.inj hm
            exact x_iret eX6_part_60 ⟨rfl, rfl⟩
      · rw [if_neg c] at hm
        refine x_k eX6_part_26 ?_
        refine x_goto eX6_part_27 ?_
        refine x_istore2 eX6_part_34 rfl ?_
        refine x_aload0 eX6_part_35 ?_
        refine x_k eX6_part_36 ?_
        refine x_Vi1 eX6_part_38 kX6_isSign mX6_210 (t_X6_isSign rfl) rfl (Nat.le_of_ble_eq_true rfl) ?_
        refine x_if_ne eX6_part_41 (fun c => ?_) (fun c => ?_)
        · rw [if_neg c] at hm
          refine x_aload0 eX6_part_48 ?_
          refine x_get eX6_part_49 fX6_169 rfl rfl ?_
          refine x_if_ne eX6_part_52 (fun c => ?_) (fun c => ?_)
          · rw [if_neg c] at hm
            refine x_iload2 eX6_part_59 ?_
            obtain rfl := Option.some.inj hm
            exact x_iret eX6_part_60 ⟨rfl, rfl⟩
          · rw [if_pos c] at hm
            refine x_aload0 eX6_part_55 ?_
            obtain ⟨r10, hr, hm⟩ := xo_bind hm
            refine x_Vv0 eX6_part_56 kX6_next mX6_185 (t_X6_next hr) rfl (Nat.le_of_ble_eq_true rfl) ?_
            refine x_iload2 eX6_part_59 ?_
            obtain rfl := Option.some.inj hm
            exact x_iret eX6_part_60 ⟨rfl, rfl⟩
        · rw [if_pos c] at hm
          refine x_aload0 eX6_part_44 ?_
          refine x_Vv0 eX6_part_45 kX6_fail mX6_182 (t_X6_fail rfl) rfl (Nat.le_of_ble_eq_true rfl) ?_
          refine x_aload0 eX6_part_48 ?_
          refine x_get eX6_part_49 fX6_169 rfl rfl ?_
          refine x_if_ne eX6_part_52 (fun c => ?_) (fun c => ?_)
          · rw [if_neg c] at hm
            refine x_iload2 eX6_part_59 ?_
            obtain rfl := Option.some.inj hm
            exact x_iret eX6_part_60 ⟨rfl, rfl⟩
          · rw [if_pos c] at hm
            refine x_aload0 eX6_part_55 ?_
            obtain ⟨r11, hr, hm⟩ := xo_bind hm
            refine x_Vv0 eX6_part_56 kX6_next mX6_185 (t_X6_next hr) rfl (Nat.le_of_ble_eq_true rfl) ?_
            refine x_iload2 eX6_part_59 ?_
            obtain rfl := Option.some.inj hm
            exact x_iret eX6_part_60 ⟨rfl, rfl⟩
  · rw [if_pos c] at hm
    refine x_aload0 eX6_part_4 ?_
    refine x_Vv0 eX6_part_5 kX6_fail mX6_182 (t_X6_fail rfl) rfl (Nat.le_of_ble_eq_true rfl) ?_
    refine x_aload0 eX6_part_8 ?_
    refine x_get eX6_part_9 fX6_169 rfl rfl ?_
    refine x_if_ne eX6_part_12 (fun c => ?_) (fun c => ?_)
    · rw [if_neg c] at hm
      refine x_aload0 eX6_part_19 ?_
      refine x_get eX6_part_20 fX6_169 rfl rfl ?_
      refine x_if_eq eX6_part_23 (fun c => ?_) (fun c => ?_)
      · rw [if_pos c] at hm
        refine x_aload0 eX6_part_30 ?_
        obtain ⟨r12, hr, hm⟩ := xo_bind hm
        refine x_Vi0 eX6_part_31 kX6_either mX6_221 ((t_gX6 80).1 hr) rfl (Nat.le_of_ble_eq_true rfl) ?_
        refine x_istore2 eX6_part_34 rfl ?_
        refine x_aload0 eX6_part_35 ?_
        refine x_k eX6_part_36 ?_
        refine x_Vi1 eX6_part_38 kX6_isSign mX6_210 (t_X6_isSign rfl) rfl (Nat.le_of_ble_eq_true rfl) ?_
        refine x_if_ne eX6_part_41 (fun c => ?_) (fun c => ?_)
        · rw [if_neg c] at hm
          refine x_aload0 eX6_part_48 ?_
          refine x_get eX6_part_49 fX6_169 rfl rfl ?_
          refine x_if_ne eX6_part_52 (fun c => ?_) (fun c => ?_)
          · rw [if_neg c] at hm
            refine x_iload2 eX6_part_59 ?_
            obtain rfl := Option.some.inj hm
            exact x_iret eX6_part_60 ⟨rfl, rfl⟩
          · rw [if_pos c] at hm
            refine x_aload0 eX6_part_55 ?_
            obtain ⟨r13, hr, hm⟩ := xo_bind hm
            refine x_Vv0 eX6_part_56 kX6_next mX6_185 (t_X6_next hr) rfl (Nat.le_of_ble_eq_true rfl) ?_
            refine x_iload2 eX6_part_59 ?_
            obtain rfl := Option.some.inj hm
            exact x_iret eX6_part_60 ⟨rfl, rfl⟩
        · rw [if_pos c] at hm
          refine x_aload0 eX6_part_44 ?_
          refine x_Vv0 eX6_part_45 kX6_fail mX6_182 (t_X6_fail rfl) rfl (Nat.le_of_ble_eq_true rfl) ?_
          refine x_aload0 eX6_part_48 ?_
          refine x_get eX6_part_49 fX6_169 rfl rfl ?_
          refine x_if_ne eX6_part_52 (fun c => ?_) (fun c => ?_)
          · rw [if_neg c] at hm
            refine x_iload2 eX6_part_59 ?_
            obtain rfl := Option.some.inj hm
            exact x_iret eX6_part_60 ⟨rfl, rfl⟩
          · rw [if_pos c] at hm
            refine x_aload0 eX6_part_55 ?_
            obtain ⟨r14, hr, hm⟩ := xo_bind hm
            refine x_Vv0 eX6_part_56 kX6_next mX6_185 (t_X6_next hr) rfl (Nat.le_of_ble_eq_true rfl) ?_
            refine x_iload2 eX6_part_59 ?_
            obtain rfl := Option.some.inj hm
            exact x_iret eX6_part_60 ⟨rfl, rfl⟩
      · rw [if_neg c] at hm
        refine x_k eX6_part_26 ?_
        refine x_goto eX6_part_27 ?_
        refine x_istore2 eX6_part_34 rfl ?_
        refine x_aload0 eX6_part_35 ?_
        refine x_k eX6_part_36 ?_
        refine x_Vi1 eX6_part_38 kX6_isSign mX6_210 (t_X6_isSign rfl) rfl (Nat.le_of_ble_eq_true rfl) ?_
        refine x_if_ne eX6_part_41 (fun c => ?_) (fun c => ?_)
        · rw [if_neg c] at hm
          refine x_aload0 eX6_part_48 ?_
          refine x_get eX6_part_49 fX6_169 rfl rfl ?_
          refine x_if_ne eX6_part_52 (fun c => ?_) (fun c => ?_)
          · rw [if_neg c] at hm
            refine x_iload2 eX6_part_59 ?_
            obtain rfl := Option.some.inj hm
            exact x_iret eX6_part_60 ⟨rfl, rfl⟩
          · rw [if_pos c] at hm
            refine x_aload0 eX6_part_55 ?_
            obtain ⟨r15, hr, hm⟩ := xo_bind hm
            refine x_Vv0 eX6_part_56 kX6_next mX6_185 (t_X6_next hr) rfl (Nat.le_of_ble_eq_true rfl) ?_
            refine x_iload2 eX6_part_59 ?_
            obtain rfl := Option.some.inj hm
            exact x_iret eX6_part_60 ⟨rfl, rfl⟩
        · rw [if_pos c] at hm
          refine x_aload0 eX6_part_44 ?_
          refine x_Vv0 eX6_part_45 kX6_fail mX6_182 (t_X6_fail rfl) rfl (Nat.le_of_ble_eq_true rfl) ?_
          refine x_aload0 eX6_part_48 ?_
          refine x_get eX6_part_49 fX6_169 rfl rfl ?_
          refine x_if_ne eX6_part_52 (fun c => ?_) (fun c => ?_)
          · rw [if_neg c] at hm
            refine x_iload2 eX6_part_59 ?_
            obtain rfl := Option.some.inj hm
            exact x_iret eX6_part_60 ⟨rfl, rfl⟩
          · rw [if_pos c] at hm
            refine x_aload0 eX6_part_55 ?_
            obtain ⟨r16, hr, hm⟩ := xo_bind hm
            refine x_Vv0 eX6_part_56 kX6_next mX6_185 (t_X6_next hr) rfl (Nat.le_of_ble_eq_true rfl) ?_
            refine x_iload2 eX6_part_59 ?_
            obtain rfl := Option.some.inj hm
            exact x_iret eX6_part_60 ⟨rfl, rfl⟩
    · rw [if_pos c] at hm
      refine x_aload0 eX6_part_15 ?_
      obtain ⟨r17, hr, hm⟩ := xo_bind hm
      refine x_Vv0 eX6_part_16 kX6_next mX6_185 (t_X6_next hr) rfl (Nat.le_of_ble_eq_true rfl) ?_
      refine x_aload0 eX6_part_19 ?_
      refine x_get eX6_part_20 fX6_169 rfl rfl ?_
      refine x_if_eq eX6_part_23 (fun c => ?_) (fun c => ?_)
      · rw [if_pos c] at hm
        refine x_aload0 eX6_part_30 ?_
        obtain ⟨r18, hr, hm⟩ := xo_bind hm
        refine x_Vi0 eX6_part_31 kX6_either mX6_221 ((t_gX6 80).1 hr) rfl (Nat.le_of_ble_eq_true rfl) ?_
        refine x_istore2 eX6_part_34 rfl ?_
        refine x_aload0 eX6_part_35 ?_
        refine x_k eX6_part_36 ?_
        refine x_Vi1 eX6_part_38 kX6_isSign mX6_210 (t_X6_isSign rfl) rfl (Nat.le_of_ble_eq_true rfl) ?_
        refine x_if_ne eX6_part_41 (fun c => ?_) (fun c => ?_)
        · rw [if_neg c] at hm
          refine x_aload0 eX6_part_48 ?_
          refine x_get eX6_part_49 fX6_169 rfl rfl ?_
          refine x_if_ne eX6_part_52 (fun c => ?_) (fun c => ?_)
          · rw [if_neg c] at hm
            refine x_iload2 eX6_part_59 ?_
            obtain rfl := Option.some.inj hm
            exact x_iret eX6_part_60 ⟨rfl, rfl⟩
          · rw [if_pos c] at hm
            refine x_aload0 eX6_part_55 ?_
            obtain ⟨r19, hr, hm⟩ := xo_bind hm
            refine x_Vv0 eX6_part_56 kX6_next mX6_185 (t_X6_next hr) rfl (Nat.le_of_ble_eq_true rfl) ?_
            refine x_iload2 eX6_part_59 ?_
            obtain rfl := Option.some.inj hm
            exact x_iret eX6_part_60 ⟨rfl, rfl⟩
        · rw [if_pos c] at hm
          refine x_aload0 eX6_part_44 ?_
          refine x_Vv0 eX6_part_45 kX6_fail mX6_182 (t_X6_fail rfl) rfl (Nat.le_of_ble_eq_true rfl) ?_
          refine x_aload0 eX6_part_48 ?_
          refine x_get eX6_part_49 fX6_169 rfl rfl ?_
          refine x_if_ne eX6_part_52 (fun c => ?_) (fun c => ?_)
          · rw [if_neg c] at hm
            refine x_iload2 eX6_part_59 ?_
            obtain rfl := Option.some.inj hm
            exact x_iret eX6_part_60 ⟨rfl, rfl⟩
          · rw [if_pos c] at hm
            refine x_aload0 eX6_part_55 ?_
            obtain ⟨r20, hr, hm⟩ := xo_bind hm
            refine x_Vv0 eX6_part_56 kX6_next mX6_185 (t_X6_next hr) rfl (Nat.le_of_ble_eq_true rfl) ?_
            refine x_iload2 eX6_part_59 ?_
            obtain rfl := Option.some.inj hm
            exact x_iret eX6_part_60 ⟨rfl, rfl⟩
      · rw [if_neg c] at hm
        refine x_k eX6_part_26 ?_
        refine x_goto eX6_part_27 ?_
        refine x_istore2 eX6_part_34 rfl ?_
        refine x_aload0 eX6_part_35 ?_
        refine x_k eX6_part_36 ?_
        refine x_Vi1 eX6_part_38 kX6_isSign mX6_210 (t_X6_isSign rfl) rfl (Nat.le_of_ble_eq_true rfl) ?_
        refine x_if_ne eX6_part_41 (fun c => ?_) (fun c => ?_)
        · rw [if_neg c] at hm
          refine x_aload0 eX6_part_48 ?_
          refine x_get eX6_part_49 fX6_169 rfl rfl ?_
          refine x_if_ne eX6_part_52 (fun c => ?_) (fun c => ?_)
          · rw [if_neg c] at hm
            refine x_iload2 eX6_part_59 ?_
            obtain rfl := Option.some.inj hm
            exact x_iret eX6_part_60 ⟨rfl, rfl⟩
          · rw [if_pos c] at hm
            refine x_aload0 eX6_part_55 ?_
            obtain ⟨r21, hr, hm⟩ := xo_bind hm
            refine x_Vv0 eX6_part_56 kX6_next mX6_185 (t_X6_next hr) rfl (Nat.le_of_ble_eq_true rfl) ?_
            refine x_iload2 eX6_part_59 ?_
            obtain rfl := Option.some.inj hm
            exact x_iret eX6_part_60 ⟨rfl, rfl⟩
        · rw [if_pos c] at hm
          refine x_aload0 eX6_part_44 ?_
          refine x_Vv0 eX6_part_45 kX6_fail mX6_182 (t_X6_fail rfl) rfl (Nat.le_of_ble_eq_true rfl) ?_
          refine x_aload0 eX6_part_48 ?_
          refine x_get eX6_part_49 fX6_169 rfl rfl ?_
          refine x_if_ne eX6_part_52 (fun c => ?_) (fun c => ?_)
          · rw [if_neg c] at hm
            refine x_iload2 eX6_part_59 ?_
            obtain rfl := Option.some.inj hm
            exact x_iret eX6_part_60 ⟨rfl, rfl⟩
          · rw [if_pos c] at hm
            refine x_aload0 eX6_part_55 ?_
            obtain ⟨r22, hr, hm⟩ := xo_bind hm
            refine x_Vv0 eX6_part_56 kX6_next mX6_185 (t_X6_next hr) rfl (Nat.le_of_ble_eq_true rfl) ?_
            refine x_iload2 eX6_part_59 ?_
            obtain rfl := Option.some.inj hm
            exact x_iret eX6_part_60 ⟨rfl, rfl⟩
set_option maxRecDepth 4000 in
theorem t_X6_read {o : Int32 × Int32 × Int32 × Int32 × Int32 × Int32 × Int32 × Int32 × Int32 × Int64} {p1 : Int32} {p2 : Int32} (hm : sp_X6_read p1 p2 m_ofNode m_ofDepth m_ofKids m_ofTwigs m_ofLast m_ofYear m_from m_size m_here m_token m_tokenAt m_open m_bad m_fault m_tokenWorth m_texts m_textSize = some o) : xt_M yX6_read cX6_read 6 (some .int) (d + 86) [.ref 0, .int p1, .int p2] (WM m_thrown m_textCount m_rule m_taped m_n m_minds m_lasts m_cutNow m_year m_ofNode m_ofDepth m_ofKids m_ofTwigs m_ofLast m_ofYear m_from m_size m_here m_token m_tokenAt m_open m_bad m_fault m_nKept m_mindsKept m_lastsKept m_cutKept m_yearKept m_ruleKept m_tokenWorth m_texts m_textSize m_tape m_parents m_kinds m_numbers m_odds m_yes m_no m_prices m_numbersKept m_oddsKept m_isThere m_sorts m_sheetSize m_items) (xt_Ki o.1 (WM m_thrown m_textCount m_rule m_taped m_n m_minds m_lasts m_cutNow m_year m_ofNode m_ofDepth m_ofKids m_ofTwigs m_ofLast m_ofYear o.2.1 o.2.2.1 o.2.2.2.1 o.2.2.2.2.1 o.2.2.2.2.2.1 o.2.2.2.2.2.2.1 o.2.2.2.2.2.2.2.1 o.2.2.2.2.2.2.2.2.1 m_nKept m_mindsKept m_lastsKept m_cutKept m_yearKept m_ruleKept o.2.2.2.2.2.2.2.2.2 m_texts m_textSize m_tape m_parents m_kinds m_numbers m_odds m_yes m_no m_prices m_numbersKept m_oddsKept m_isThere m_sorts m_sheetSize m_items)) := by
  unfold sp_X6_read at hm
  refine xt_M.go (own := RX6) (lv := [some (.ref 0), some (.int p1), some (.int p2), none, none, none]) rfl rfl (Nat.le_of_ble_eq_true rfl) rfl ?_
  refine x_aload0 eX6_read_0 ?_
  refine x_k eX6_read_1 ?_
  refine x_iload1 eX6_read_4 ?_
  refine x_imul eX6_read_5 ?_
  refine x_puti (w' := WM _ _ _ _ _ _ _ _ _ _ _ _ _ _ _ _ _ _ _ _ _ _ _ _ _ _ _ _ _ _ _ _ _ _ _ _ _ _ _ _ _ _ _ _ _ _) eX6_read_6 pX6_140 rfl (Nat.le_of_ble_eq_true rfl) rfl ?_
  refine x_aload0 eX6_read_9 ?_
  refine x_aload0 eX6_read_10 ?_
  refine x_get eX6_read_11 fX6_17 rfl rfl ?_
  refine x_iload1 eX6_read_14 ?_
  obtain ⟨v1, hv, hm⟩ := xo_bind hm
  obtain ⟨hi, rfl⟩ := xo_at_some hv
  refine x_iaload eX6_read_15 rfl hi ?_
  refine x_puti (w' := WM _ _ _ _ _ _ _ _ _ _ _ _ _ _ _ _ _ _ _ _ _ _ _ _ _ _ _ _ _ _ _ _ _ _ _ _ _ _ _ _ _ _ _ _ _ _) eX6_read_16 pX6_137 rfl (Nat.le_of_ble_eq_true rfl) rfl ?_
  refine x_aload0 eX6_read_19 ?_
  refine x_k eX6_read_20 ?_
  refine x_puti (w' := WM _ _ _ _ _ _ _ _ _ _ _ _ _ _ _ _ _ _ _ _ _ _ _ _ _ _ _ _ _ _ _ _ _ _ _ _ _ _ _ _ _ _ _ _ _ _) eX6_read_21 pX6_143 rfl (Nat.le_of_ble_eq_true rfl) rfl ?_
  refine x_aload0 eX6_read_24 ?_
  refine x_k eX6_read_25 ?_
  refine x_puti (w' := WM _ _ _ _ _ _ _ _ _ _ _ _ _ _ _ _ _ _ _ _ _ _ _ _ _ _ _ _ _ _ _ _ _ _ _ _ _ _ _ _ _ _ _ _ _ _) eX6_read_26 pX6_179 rfl (Nat.le_of_ble_eq_true rfl) rfl ?_
  refine x_aload0 eX6_read_29 ?_
  refine x_k eX6_read_30 ?_
  refine x_putz (w' := WM _ _ _ _ _ _ _ _ _ _ _ _ _ _ _ _ _ _ _ _ _ _ _ _ _ _ _ _ _ _ _ _ _ _ _ _ _ _ _ _ _ _ _ _ _ _) eX6_read_31 pX6_169 rfl (Nat.le_of_ble_eq_true rfl) (by decide) rfl ?_
  refine x_aload0 eX6_read_34 ?_
  obtain ⟨r2, hr, hm⟩ := xo_bind hm
  refine x_Vv0 eX6_read_35 kX6_next mX6_185 (t_X6_next hr) rfl (Nat.le_of_ble_eq_true rfl) ?_
  refine x_aload0 eX6_read_38 ?_
  refine x_aload0 eX6_read_39 ?_
  refine x_k eX6_read_40 ?_
  refine x_k eX6_read_42 ?_
  refine x_k eX6_read_44 ?_
  refine x_k eX6_read_46 ?_
  refine x_k eX6_read_48 ?_
  refine x_k eX6_read_50 ?_
  refine x_k eX6_read_51 ?_
  refine x_k eX6_read_52 ?_
  obtain ⟨r3, hr, hm⟩ := xo_bind hm
  refine x_Vi8 eX6_read_53 kX6_isWord mX6_188 (t_X6_isWord hr) rfl (Nat.le_of_ble_eq_true rfl) ?_
  obtain ⟨r4, hr, hm⟩ := xo_bind hm
  refine x_Vi1 eX6_read_56 kX6_part mX6_243 (t_X6_part hr) rfl (Nat.le_of_ble_eq_true rfl) ?_
  refine x_istore3 eX6_read_59 rfl ?_
  refine x_aload0 eX6_read_60 ?_
  refine x_get eX6_read_61 fX6_169 rfl rfl ?_
  refine x_if_eq eX6_read_64 (fun c => ?_) (fun c => ?_)
  · rw [if_pos c] at hm
    refine x_aload0 eX6_read_71 ?_
    refine x_aload0 eX6_read_72 ?_
    refine x_k eX6_read_73 ?_
    refine x_k eX6_read_75 ?_
    refine x_k eX6_read_77 ?_
    refine x_k eX6_read_79 ?_
    refine x_k eX6_read_81 ?_
    refine x_k eX6_read_83 ?_
    refine x_k eX6_read_84 ?_
    refine x_k eX6_read_85 ?_
    obtain ⟨r5, hr, hm⟩ := xo_bind hm
    refine x_Vi8 eX6_read_86 kX6_isWord mX6_188 (t_X6_isWord hr) rfl (Nat.le_of_ble_eq_true rfl) ?_
    obtain ⟨r6, hr, hm⟩ := xo_bind hm
    refine x_Vi1 eX6_read_89 kX6_part mX6_243 (t_X6_part hr) rfl (Nat.le_of_ble_eq_true rfl) ?_
    refine x_istore4 eX6_read_92 rfl ?_
    refine x_aload0 eX6_read_94 ?_
    refine x_get eX6_read_95 fX6_169 rfl rfl ?_
    refine x_if_eq eX6_read_98 (fun c => ?_) (fun c => ?_)
    · rw [if_pos c] at hm
      refine x_aload0 eX6_read_105 ?_
      refine x_aload0 eX6_read_106 ?_
      refine x_k eX6_read_107 ?_
      refine x_k eX6_read_109 ?_
      refine x_k eX6_read_111 ?_
      refine x_k eX6_read_113 ?_
      refine x_k eX6_read_115 ?_
      refine x_k eX6_read_117 ?_
      refine x_k eX6_read_118 ?_
      refine x_k eX6_read_119 ?_
      obtain ⟨r7, hr, hm⟩ := xo_bind hm
      refine x_Vi8 eX6_read_120 kX6_isWord mX6_188 (t_X6_isWord hr) rfl (Nat.le_of_ble_eq_true rfl) ?_
      obtain ⟨r8, hr, hm⟩ := xo_bind hm
      refine x_Vi1 eX6_read_123 kX6_part mX6_243 (t_X6_part hr) rfl (Nat.le_of_ble_eq_true rfl) ?_
      refine x_istore5 eX6_read_126 rfl ?_
      refine x_aload0 eX6_read_128 ?_
      refine x_get eX6_read_129 fX6_169 rfl rfl ?_
      refine x_if_ne eX6_read_132 (fun c => ?_) (fun c => ?_)
      · rw [if_neg c] at hm
        refine x_iload2 eX6_read_146 ?_
        refine x_if_ne eX6_read_147 (fun c => ?_) (fun c => ?_)
        · rw [if_neg c] at hm
          refine x_iload2 eX6_read_154 ?_
          refine x_k eX6_read_155 ?_
          refine x_icmp_ne eX6_read_156 (fun c => ?_) (fun c => ?_)
          · rw [if_neg c] at hm
            refine x_iload5 eX6_read_164 ?_
            obtain rfl := Option.some.inj hm
            exact x_iret eX6_read_166 ⟨rfl, rfl⟩
          · rw [if_pos c] at hm
            refine x_iload4 eX6_read_159 ?_
            refine x_goto eX6_read_161 ?_
            obtain rfl := Option.some.inj hm
            exact x_iret eX6_read_166 ⟨rfl, rfl⟩
        · rw [if_pos c] at hm
          refine x_iload3 eX6_read_150 ?_
          refine x_goto eX6_read_151 ?_
          obtain rfl := Option.some.inj hm
          exact x_iret eX6_read_166 ⟨rfl, rfl⟩
      · rw [if_pos c] at hm
        refine x_aload0 eX6_read_135 ?_
        refine x_get eX6_read_136 fX6_152 rfl rfl ?_
        refine x_if_eq eX6_read_139 (fun c => ?_) (fun c => ?_)
        · rw [if_pos c] at hm
          refine x_iload2 eX6_read_146 ?_
          refine x_if_ne eX6_read_147 (fun c => ?_) (fun c => ?_)
          · rw [if_neg c] at hm
            refine x_iload2 eX6_read_154 ?_
            refine x_k eX6_read_155 ?_
            refine x_icmp_ne eX6_read_156 (fun c => ?_) (fun c => ?_)
            · rw [if_neg c] at hm
              refine x_iload5 eX6_read_164 ?_
              obtain rfl := Option.some.inj hm
              exact x_iret eX6_read_166 ⟨rfl, rfl⟩
            · rw [if_pos c] at hm
              refine x_iload4 eX6_read_159 ?_
              refine x_goto eX6_read_161 ?_
              obtain rfl := Option.some.inj hm
              exact x_iret eX6_read_166 ⟨rfl, rfl⟩
          · rw [if_pos c] at hm
            refine x_iload3 eX6_read_150 ?_
            refine x_goto eX6_read_151 ?_
            obtain rfl := Option.some.inj hm
            exact x_iret eX6_read_166 ⟨rfl, rfl⟩
        · rw [if_neg c] at hm
          refine x_aload0 eX6_read_142 ?_
          refine x_Vv0 eX6_read_143 kX6_fail mX6_182 (t_X6_fail rfl) rfl (Nat.le_of_ble_eq_true rfl) ?_
          refine x_iload2 eX6_read_146 ?_
          refine x_if_ne eX6_read_147 (fun c => ?_) (fun c => ?_)
          · rw [if_neg c] at hm
            refine x_iload2 eX6_read_154 ?_
            refine x_k eX6_read_155 ?_
            refine x_icmp_ne eX6_read_156 (fun c => ?_) (fun c => ?_)
            · rw [if_neg c] at hm
              refine x_iload5 eX6_read_164 ?_
              obtain rfl := Option.some.inj hm
              exact x_iret eX6_read_166 ⟨rfl, rfl⟩
            · rw [if_pos c] at hm
              refine x_iload4 eX6_read_159 ?_
              refine x_goto eX6_read_161 ?_
              obtain rfl := Option.some.inj hm
              exact x_iret eX6_read_166 ⟨rfl, rfl⟩
          · rw [if_pos c] at hm
            refine x_iload3 eX6_read_150 ?_
            refine x_goto eX6_read_151 ?_
            obtain rfl := Option.some.inj hm
            exact x_iret eX6_read_166 ⟨rfl, rfl⟩
    · rw [if_neg c] at hm
      refine x_k eX6_read_101 ?_
      refine x_goto eX6_read_102 ?_
      refine x_istore5 eX6_read_126 rfl ?_
      refine x_aload0 eX6_read_128 ?_
      refine x_get eX6_read_129 fX6_169 rfl rfl ?_
      refine x_if_ne eX6_read_132 (fun c => ?_) (fun c => ?_)
      · rw [if_neg c] at hm
        refine x_iload2 eX6_read_146 ?_
        refine x_if_ne eX6_read_147 (fun c => ?_) (fun c => ?_)
        · rw [if_neg c] at hm
          refine x_iload2 eX6_read_154 ?_
          refine x_k eX6_read_155 ?_
          refine x_icmp_ne eX6_read_156 (fun c => ?_) (fun c => ?_)
          · rw [if_neg c] at hm
            refine x_iload5 eX6_read_164 ?_
            obtain rfl := Option.some.inj hm
            exact x_iret eX6_read_166 ⟨rfl, rfl⟩
          · rw [if_pos c] at hm
            refine x_iload4 eX6_read_159 ?_
            refine x_goto eX6_read_161 ?_
            obtain rfl := Option.some.inj hm
            exact x_iret eX6_read_166 ⟨rfl, rfl⟩
        · rw [if_pos c] at hm
          refine x_iload3 eX6_read_150 ?_
          refine x_goto eX6_read_151 ?_
          obtain rfl := Option.some.inj hm
          exact x_iret eX6_read_166 ⟨rfl, rfl⟩
      · rw [if_pos c] at hm
        refine x_aload0 eX6_read_135 ?_
        refine x_get eX6_read_136 fX6_152 rfl rfl ?_
        refine x_if_eq eX6_read_139 (fun c => ?_) (fun c => ?_)
        · rw [if_pos c] at hm
          refine x_iload2 eX6_read_146 ?_
          refine x_if_ne eX6_read_147 (fun c => ?_) (fun c => ?_)
          · rw [if_neg c] at hm
            refine x_iload2 eX6_read_154 ?_
            refine x_k eX6_read_155 ?_
            refine x_icmp_ne eX6_read_156 (fun c => ?_) (fun c => ?_)
            · rw [if_neg c] at hm
              refine x_iload5 eX6_read_164 ?_
              obtain rfl := Option.some.inj hm
              exact x_iret eX6_read_166 ⟨rfl, rfl⟩
            · rw [if_pos c] at hm
              refine x_iload4 eX6_read_159 ?_
              refine x_goto eX6_read_161 ?_
              obtain rfl := Option.some.inj hm
              exact x_iret eX6_read_166 ⟨rfl, rfl⟩
          · rw [if_pos c] at hm
            refine x_iload3 eX6_read_150 ?_
            refine x_goto eX6_read_151 ?_
            obtain rfl := Option.some.inj hm
            exact x_iret eX6_read_166 ⟨rfl, rfl⟩
        · rw [if_neg c] at hm
          refine x_aload0 eX6_read_142 ?_
          refine x_Vv0 eX6_read_143 kX6_fail mX6_182 (t_X6_fail rfl) rfl (Nat.le_of_ble_eq_true rfl) ?_
          refine x_iload2 eX6_read_146 ?_
          refine x_if_ne eX6_read_147 (fun c => ?_) (fun c => ?_)
          · rw [if_neg c] at hm
            refine x_iload2 eX6_read_154 ?_
            refine x_k eX6_read_155 ?_
            refine x_icmp_ne eX6_read_156 (fun c => ?_) (fun c => ?_)
            · rw [if_neg c] at hm
              refine x_iload5 eX6_read_164 ?_
              obtain rfl := Option.some.inj hm
              exact x_iret eX6_read_166 ⟨rfl, rfl⟩
            · rw [if_pos c] at hm
              refine x_iload4 eX6_read_159 ?_
              refine x_goto eX6_read_161 ?_
              obtain rfl := Option.some.inj hm
              exact x_iret eX6_read_166 ⟨rfl, rfl⟩
          · rw [if_pos c] at hm
            refine x_iload3 eX6_read_150 ?_
            refine x_goto eX6_read_151 ?_
            obtain rfl := Option.some.inj hm
            exact x_iret eX6_read_166 ⟨rfl, rfl⟩
  · rw [if_neg c] at hm
    refine x_k eX6_read_67 ?_
    refine x_goto eX6_read_68 ?_
    refine x_istore4 eX6_read_92 rfl ?_
    refine x_aload0 eX6_read_94 ?_
    refine x_get eX6_read_95 fX6_169 rfl rfl ?_
    refine x_if_eq eX6_read_98 (fun c => ?_) (fun c => ?_)
    · rw [if_pos c] at hm
      refine x_aload0 eX6_read_105 ?_
      refine x_aload0 eX6_read_106 ?_
      refine x_k eX6_read_107 ?_
      refine x_k eX6_read_109 ?_
      refine x_k eX6_read_111 ?_
      refine x_k eX6_read_113 ?_
      refine x_k eX6_read_115 ?_
      refine x_k eX6_read_117 ?_
      refine x_k eX6_read_118 ?_
      refine x_k eX6_read_119 ?_
      obtain ⟨r9, hr, hm⟩ := xo_bind hm
      refine x_Vi8 eX6_read_120 kX6_isWord mX6_188 (t_X6_isWord hr) rfl (Nat.le_of_ble_eq_true rfl) ?_
      obtain ⟨r10, hr, hm⟩ := xo_bind hm
      refine x_Vi1 eX6_read_123 kX6_part mX6_243 (t_X6_part hr) rfl (Nat.le_of_ble_eq_true rfl) ?_
      refine x_istore5 eX6_read_126 rfl ?_
      refine x_aload0 eX6_read_128 ?_
      refine x_get eX6_read_129 fX6_169 rfl rfl ?_
      refine x_if_ne eX6_read_132 (fun c => ?_) (fun c => ?_)
      · rw [if_neg c] at hm
        refine x_iload2 eX6_read_146 ?_
        refine x_if_ne eX6_read_147 (fun c => ?_) (fun c => ?_)
        · rw [if_neg c] at hm
          refine x_iload2 eX6_read_154 ?_
          refine x_k eX6_read_155 ?_
          refine x_icmp_ne eX6_read_156 (fun c => ?_) (fun c => ?_)
          · rw [if_neg c] at hm
            refine x_iload5 eX6_read_164 ?_
            obtain rfl := Option.some.inj hm
            exact x_iret eX6_read_166 ⟨rfl, rfl⟩
          · rw [if_pos c] at hm
            refine x_iload4 eX6_read_159 ?_
            refine x_goto eX6_read_161 ?_
            obtain rfl := Option.some.inj hm
            exact x_iret eX6_read_166 ⟨rfl, rfl⟩
        · rw [if_pos c] at hm
          refine x_iload3 eX6_read_150 ?_
          refine x_goto eX6_read_151 ?_
          obtain rfl := Option.some.inj hm
          exact x_iret eX6_read_166 ⟨rfl, rfl⟩
      · rw [if_pos c] at hm
        refine x_aload0 eX6_read_135 ?_
        refine x_get eX6_read_136 fX6_152 rfl rfl ?_
        refine x_if_eq eX6_read_139 (fun c => ?_) (fun c => ?_)
        · rw [if_pos c] at hm
          refine x_iload2 eX6_read_146 ?_
          refine x_if_ne eX6_read_147 (fun c => ?_) (fun c => ?_)
          · rw [if_neg c] at hm
            refine x_iload2 eX6_read_154 ?_
            refine x_k eX6_read_155 ?_
            refine x_icmp_ne eX6_read_156 (fun c => ?_) (fun c => ?_)
            · rw [if_neg c] at hm
              refine x_iload5 eX6_read_164 ?_
              obtain rfl := Option.some.inj hm
              exact x_iret eX6_read_166 ⟨rfl, rfl⟩
            · rw [if_pos c] at hm
              refine x_iload4 eX6_read_159 ?_
              refine x_goto eX6_read_161 ?_
              obtain rfl := Option.some.inj hm
              exact x_iret eX6_read_166 ⟨rfl, rfl⟩
          · rw [if_pos c] at hm
            refine x_iload3 eX6_read_150 ?_
            refine x_goto eX6_read_151 ?_
            obtain rfl := Option.some.inj hm
            exact x_iret eX6_read_166 ⟨rfl, rfl⟩
        · rw [if_neg c] at hm
          refine x_aload0 eX6_read_142 ?_
          refine x_Vv0 eX6_read_143 kX6_fail mX6_182 (t_X6_fail rfl) rfl (Nat.le_of_ble_eq_true rfl) ?_
          refine x_iload2 eX6_read_146 ?_
          refine x_if_ne eX6_read_147 (fun c => ?_) (fun c => ?_)
          · rw [if_neg c] at hm
            refine x_iload2 eX6_read_154 ?_
            refine x_k eX6_read_155 ?_
            refine x_icmp_ne eX6_read_156 (fun c => ?_) (fun c => ?_)
            · rw [if_neg c] at hm
              refine x_iload5 eX6_read_164 ?_
              obtain rfl := Option.some.inj hm
              exact x_iret eX6_read_166 ⟨rfl, rfl⟩
            · rw [if_pos c] at hm
              refine x_iload4 eX6_read_159 ?_
              refine x_goto eX6_read_161 ?_
              obtain rfl := Option.some.inj hm
              exact x_iret eX6_read_166 ⟨rfl, rfl⟩
          · rw [if_pos c] at hm
            refine x_iload3 eX6_read_150 ?_
            refine x_goto eX6_read_151 ?_
            obtain rfl := Option.some.inj hm
            exact x_iret eX6_read_166 ⟨rfl, rfl⟩
    · rw [if_neg c] at hm
      refine x_k eX6_read_101 ?_
      refine x_goto eX6_read_102 ?_
      refine x_istore5 eX6_read_126 rfl ?_
      refine x_aload0 eX6_read_128 ?_
      refine x_get eX6_read_129 fX6_169 rfl rfl ?_
      refine x_if_ne eX6_read_132 (fun c => ?_) (fun c => ?_)
      · rw [if_neg c] at hm
        refine x_iload2 eX6_read_146 ?_
        refine x_if_ne eX6_read_147 (fun c => ?_) (fun c => ?_)
        · rw [if_neg c] at hm
          refine x_iload2 eX6_read_154 ?_
          refine x_k eX6_read_155 ?_
          refine x_icmp_ne eX6_read_156 (fun c => ?_) (fun c => ?_)
          · rw [if_neg c] at hm
            refine x_iload5 eX6_read_164 ?_
            obtain rfl := Option.some.inj hm
            exact x_iret eX6_read_166 ⟨rfl, rfl⟩
          · rw [if_pos c] at hm
            refine x_iload4 eX6_read_159 ?_
            refine x_goto eX6_read_161 ?_
            obtain rfl := Option.some.inj hm
            exact x_iret eX6_read_166 ⟨rfl, rfl⟩
        · rw [if_pos c] at hm
          refine x_iload3 eX6_read_150 ?_
          refine x_goto eX6_read_151 ?_
          obtain rfl := Option.some.inj hm
          exact x_iret eX6_read_166 ⟨rfl, rfl⟩
      · rw [if_pos c] at hm
        refine x_aload0 eX6_read_135 ?_
        refine x_get eX6_read_136 fX6_152 rfl rfl ?_
        refine x_if_eq eX6_read_139 (fun c => ?_) (fun c => ?_)
        · rw [if_pos c] at hm
          refine x_iload2 eX6_read_146 ?_
          refine x_if_ne eX6_read_147 (fun c => ?_) (fun c => ?_)
          · rw [if_neg c] at hm
            refine x_iload2 eX6_read_154 ?_
            refine x_k eX6_read_155 ?_
            refine x_icmp_ne eX6_read_156 (fun c => ?_) (fun c => ?_)
            · rw [if_neg c] at hm
              refine x_iload5 eX6_read_164 ?_
              obtain rfl := Option.some.inj hm
              exact x_iret eX6_read_166 ⟨rfl, rfl⟩
            · rw [if_pos c] at hm
              refine x_iload4 eX6_read_159 ?_
              refine x_goto eX6_read_161 ?_
              obtain rfl := Option.some.inj hm
              exact x_iret eX6_read_166 ⟨rfl, rfl⟩
          · rw [if_pos c] at hm
            refine x_iload3 eX6_read_150 ?_
            refine x_goto eX6_read_151 ?_
            obtain rfl := Option.some.inj hm
            exact x_iret eX6_read_166 ⟨rfl, rfl⟩
        · rw [if_neg c] at hm
          refine x_aload0 eX6_read_142 ?_
          refine x_Vv0 eX6_read_143 kX6_fail mX6_182 (t_X6_fail rfl) rfl (Nat.le_of_ble_eq_true rfl) ?_
          refine x_iload2 eX6_read_146 ?_
          refine x_if_ne eX6_read_147 (fun c => ?_) (fun c => ?_)
          · rw [if_neg c] at hm
            refine x_iload2 eX6_read_154 ?_
            refine x_k eX6_read_155 ?_
            refine x_icmp_ne eX6_read_156 (fun c => ?_) (fun c => ?_)
            · rw [if_neg c] at hm
              refine x_iload5 eX6_read_164 ?_
              obtain rfl := Option.some.inj hm
              exact x_iret eX6_read_166 ⟨rfl, rfl⟩
            · rw [if_pos c] at hm
              refine x_iload4 eX6_read_159 ?_
              refine x_goto eX6_read_161 ?_
              obtain rfl := Option.some.inj hm
              exact x_iret eX6_read_166 ⟨rfl, rfl⟩
          · rw [if_pos c] at hm
            refine x_iload3 eX6_read_150 ?_
            refine x_goto eX6_read_151 ?_
            obtain rfl := Option.some.inj hm
            exact x_iret eX6_read_166 ⟨rfl, rfl⟩
set_option maxRecDepth 4000 in
theorem l_X6_text_14 {o : Int32 × Int32 × Int32 × Int32 × Int32 × Int32 × Int32 × Int32 × Int32 × Int32 × Int32 × Int64 × (Nat → Int32) × (Nat → Int32)} {m_ofNode : Int32} {m_ofDepth : Int32} {m_ofKids : Int32} {m_ofTwigs : Int32} {m_ofLast : Int32} {m_ofYear : Int32} {m_tape : Nat → Int32} : ∀ (n : Nat) {u1 : Int32} {m_textCount : Int32} {m_taped : Int32} {m_from : Int32} {m_size : Int32} {m_here : Int32} {m_token : Int32} {m_tokenAt : Int32} {m_open : Int32} {m_bad : Int32} {m_fault : Int32} {m_tokenWorth : Int64} {m_texts : Nat → Int32} {m_textSize : Nat → Int32}, sp_X6_text_14 m_ofNode m_ofDepth m_ofKids m_ofTwigs m_ofLast m_ofYear m_tape n u1 m_textCount m_taped m_from m_size m_here m_token m_tokenAt m_open m_bad m_fault m_tokenWorth m_texts m_textSize = some o → xt_T RX6 cX6_text 2 (some .int) (d + 87) (xt_Ki o.1 (WM m_thrown o.2.1 m_rule o.2.2.1 m_n m_minds m_lasts m_cutNow m_year m_ofNode m_ofDepth m_ofKids m_ofTwigs m_ofLast m_ofYear o.2.2.2.1 o.2.2.2.2.1 o.2.2.2.2.2.1 o.2.2.2.2.2.2.1 o.2.2.2.2.2.2.2.1 o.2.2.2.2.2.2.2.2.1 o.2.2.2.2.2.2.2.2.2.1 o.2.2.2.2.2.2.2.2.2.2.1 m_nKept m_mindsKept m_lastsKept m_cutKept m_yearKept m_ruleKept o.2.2.2.2.2.2.2.2.2.2.2.1 o.2.2.2.2.2.2.2.2.2.2.2.2.1 o.2.2.2.2.2.2.2.2.2.2.2.2.2 m_tape m_parents m_kinds m_numbers m_odds m_yes m_no m_prices m_numbersKept m_oddsKept m_isThere m_sorts m_sheetSize m_items)) 14 [some (.ref 0), some (.int u1)] [] (WM m_thrown m_textCount m_rule m_taped m_n m_minds m_lasts m_cutNow m_year m_ofNode m_ofDepth m_ofKids m_ofTwigs m_ofLast m_ofYear m_from m_size m_here m_token m_tokenAt m_open m_bad m_fault m_nKept m_mindsKept m_lastsKept m_cutKept m_yearKept m_ruleKept m_tokenWorth m_texts m_textSize m_tape m_parents m_kinds m_numbers m_odds m_yes m_no m_prices m_numbersKept m_oddsKept m_isThere m_sorts m_sheetSize m_items) := by
  intro n
  induction n with
  | zero => intro u1 m_textCount m_taped m_from m_size m_here m_token m_tokenAt m_open m_bad m_fault m_tokenWorth m_texts m_textSize hm; rw [sp_X6_text_14] at hm; cases hm
  | succ n ih =>
    intro u1 m_textCount m_taped m_from m_size m_here m_token m_tokenAt m_open m_bad m_fault m_tokenWorth m_texts m_textSize hm
    rw [sp_X6_text_14] at hm
    refine x_iload1 eX6_text_14 ?_
    refine x_aload0 eX6_text_15 ?_
    refine x_get eX6_text_16 fX6_134 rfl rfl ?_
    refine x_icmp_ge eX6_text_19 (fun c => ?_) (fun c => ?_)
    · rw [if_pos c] at hm
      refine x_aload0 eX6_text_49 ?_
      refine x_get eX6_text_50 fX6_17 rfl rfl ?_
      refine x_aload0 eX6_text_53 ?_
      refine x_get eX6_text_54 fX6_73 rfl rfl ?_
      refine x_aload0 eX6_text_57 ?_
      refine x_get eX6_text_58 fX6_134 rfl rfl ?_
      obtain ⟨f1, hv, hm⟩ := xo_bind hm
      obtain ⟨hi, rfl⟩ := xo_set_some hv
      refine x_iastore (w' := WM _ _ _ _ _ _ _ _ _ _ _ _ _ _ _ _ _ _ _ _ _ _ _ _ _ _ _ _ _ _ _ _ _ _ _ _ _ _ _ _ _ _ _ _ _ _) eX6_text_61 rfl hi rfl ?_
      refine x_aload0 eX6_text_62 ?_
      refine x_k eX6_text_63 ?_
      refine x_puti (w' := WM _ _ _ _ _ _ _ _ _ _ _ _ _ _ _ _ _ _ _ _ _ _ _ _ _ _ _ _ _ _ _ _ _ _ _ _ _ _ _ _ _ _ _ _ _ _) eX6_text_64 pX6_134 rfl (Nat.le_of_ble_eq_true rfl) rfl ?_
      refine x_aload0 eX6_text_67 ?_
      refine x_aload0 eX6_text_68 ?_
      refine x_get eX6_text_69 fX6_73 rfl rfl ?_
      refine x_k eX6_text_72 ?_
      obtain ⟨r2, hr, hm⟩ := xo_bind hm
      refine x_Vi2 eX6_text_73 kX6_read mX6_247 (t_X6_read hr) rfl (Nat.le_of_ble_eq_true rfl) ?_
      refine x_istore1 eX6_text_76 rfl ?_
      refine x_aload0 eX6_text_77 ?_
      refine x_get eX6_text_78 fX6_169 rfl rfl ?_
      refine x_if_eq eX6_text_81 (fun c => ?_) (fun c => ?_)
      · rw [if_pos c] at hm
        refine x_aload0 eX6_text_92 ?_
        refine x_dup eX6_text_93 rfl ?_
        refine x_get eX6_text_94 fX6_73 rfl rfl ?_
        refine x_k eX6_text_97 ?_
        refine x_iadd eX6_text_98 ?_
        refine x_puti (w' := WM _ _ _ _ _ _ _ _ _ _ _ _ _ _ _ _ _ _ _ _ _ _ _ _ _ _ _ _ _ _ _ _ _ _ _ _ _ _ _ _ _ _ _ _ _ _) eX6_text_99 pX6_73 rfl (Nat.le_of_ble_eq_true rfl) rfl ?_
        refine x_aload0 eX6_text_102 ?_
        refine x_get eX6_text_103 fX6_73 rfl rfl ?_
        refine x_k eX6_text_106 ?_
        refine x_isub eX6_text_107 ?_
        obtain rfl := Option.some.inj hm
        exact x_iret eX6_text_108 ⟨rfl, rfl⟩
      · rw [if_neg c] at hm
        refine x_k eX6_text_84 ?_
        refine x_aload0 eX6_text_86 ?_
        refine x_get eX6_text_87 fX6_173 rfl rfl ?_
        refine x_isub eX6_text_90 ?_
        obtain rfl := Option.some.inj hm
        exact x_iret eX6_text_91 ⟨rfl, rfl⟩
    · rw [if_neg c] at hm
      refine x_aload0 eX6_text_22 ?_
      refine x_get eX6_text_23 fX6_13 rfl rfl ?_
      refine x_k eX6_text_26 ?_
      refine x_aload0 eX6_text_29 ?_
      refine x_get eX6_text_30 fX6_73 rfl rfl ?_
      refine x_imul eX6_text_33 ?_
      refine x_iload1 eX6_text_34 ?_
      refine x_iadd eX6_text_35 ?_
      refine x_aload0 eX6_text_36 ?_
      refine x_get eX6_text_37 fX6_20 rfl rfl ?_
      refine x_iload1 eX6_text_40 ?_
      obtain ⟨v3, hv, hm⟩ := xo_bind hm
      obtain ⟨hi, rfl⟩ := xo_at_some hv
      refine x_iaload eX6_text_41 rfl hi ?_
      obtain ⟨f4, hv, hm⟩ := xo_bind hm
      obtain ⟨hi, rfl⟩ := xo_set_some hv
      refine x_iastore (w' := WM _ _ _ _ _ _ _ _ _ _ _ _ _ _ _ _ _ _ _ _ _ _ _ _ _ _ _ _ _ _ _ _ _ _ _ _ _ _ _ _ _ _ _ _ _ _) eX6_text_42 rfl hi rfl ?_
      refine x_iinc1 eX6_text_43 rfl ?_
      refine x_goto eX6_text_46 ?_
      exact ih hm
set_option maxRecDepth 4000 in
theorem t_X6_text {o : Int32 × Int32 × Int32 × Int32 × Int32 × Int32 × Int32 × Int32 × Int32 × Int32 × Int32 × Int64 × (Nat → Int32) × (Nat → Int32)}  (hm : sp_X6_text m_textCount m_taped m_ofNode m_ofDepth m_ofKids m_ofTwigs m_ofLast m_ofYear m_from m_size m_here m_token m_tokenAt m_open m_bad m_fault m_tokenWorth m_texts m_textSize m_tape = some o) : xt_M yX6_text cX6_text 2 (some .int) (d + 87) [.ref 0] (WM m_thrown m_textCount m_rule m_taped m_n m_minds m_lasts m_cutNow m_year m_ofNode m_ofDepth m_ofKids m_ofTwigs m_ofLast m_ofYear m_from m_size m_here m_token m_tokenAt m_open m_bad m_fault m_nKept m_mindsKept m_lastsKept m_cutKept m_yearKept m_ruleKept m_tokenWorth m_texts m_textSize m_tape m_parents m_kinds m_numbers m_odds m_yes m_no m_prices m_numbersKept m_oddsKept m_isThere m_sorts m_sheetSize m_items) (xt_Ki o.1 (WM m_thrown o.2.1 m_rule o.2.2.1 m_n m_minds m_lasts m_cutNow m_year m_ofNode m_ofDepth m_ofKids m_ofTwigs m_ofLast m_ofYear o.2.2.2.1 o.2.2.2.2.1 o.2.2.2.2.2.1 o.2.2.2.2.2.2.1 o.2.2.2.2.2.2.2.1 o.2.2.2.2.2.2.2.2.1 o.2.2.2.2.2.2.2.2.2.1 o.2.2.2.2.2.2.2.2.2.2.1 m_nKept m_mindsKept m_lastsKept m_cutKept m_yearKept m_ruleKept o.2.2.2.2.2.2.2.2.2.2.2.1 o.2.2.2.2.2.2.2.2.2.2.2.2.1 o.2.2.2.2.2.2.2.2.2.2.2.2.2 m_tape m_parents m_kinds m_numbers m_odds m_yes m_no m_prices m_numbersKept m_oddsKept m_isThere m_sorts m_sheetSize m_items)) := by
  unfold sp_X6_text at hm
  refine xt_M.go (own := RX6) (lv := [some (.ref 0), none]) rfl rfl (Nat.le_of_ble_eq_true rfl) rfl ?_
  refine x_aload0 eX6_text_0 ?_
  refine x_get eX6_text_1 fX6_73 rfl rfl ?_
  refine x_k eX6_text_4 ?_
  refine x_icmp_ne eX6_text_6 (fun c => ?_) (fun c => ?_)
  · rw [if_neg c] at hm
    refine x_k eX6_text_12 ?_
    refine x_istore1 eX6_text_13 rfl ?_
    exact l_X6_text_14 _ hm
  · rw [if_pos c] at hm
    refine x_k eX6_text_9 ?_
    obtain rfl := Option.some.inj hm
    exact x_iret eX6_text_11 ⟨rfl, rfl⟩
set_option maxRecDepth 4000 in
theorem t_X6_within {o : Int32} {p1 : Int32} {p2 : Int32} {p3 : Int32} (hm : sp_X6_within p1 p2 p3 = o) : xt_M yX6_within cX6_within 3 (some .int) (d + 0) [.int p1, .int p2, .int p3] (WM m_thrown m_textCount m_rule m_taped m_n m_minds m_lasts m_cutNow m_year m_ofNode m_ofDepth m_ofKids m_ofTwigs m_ofLast m_ofYear m_from m_size m_here m_token m_tokenAt m_open m_bad m_fault m_nKept m_mindsKept m_lastsKept m_cutKept m_yearKept m_ruleKept m_tokenWorth m_texts m_textSize m_tape m_parents m_kinds m_numbers m_odds m_yes m_no m_prices m_numbersKept m_oddsKept m_isThere m_sorts m_sheetSize m_items) (xt_Ki o (WM m_thrown m_textCount m_rule m_taped m_n m_minds m_lasts m_cutNow m_year m_ofNode m_ofDepth m_ofKids m_ofTwigs m_ofLast m_ofYear m_from m_size m_here m_token m_tokenAt m_open m_bad m_fault m_nKept m_mindsKept m_lastsKept m_cutKept m_yearKept m_ruleKept m_tokenWorth m_texts m_textSize m_tape m_parents m_kinds m_numbers m_odds m_yes m_no m_prices m_numbersKept m_oddsKept m_isThere m_sorts m_sheetSize m_items)) := by
  unfold sp_X6_within at hm
  refine xt_M.go (own := RX6) (lv := [some (.int p1), some (.int p2), some (.int p3)]) rfl rfl (Nat.le_of_ble_eq_true rfl) rfl ?_
  refine x_iload0 eX6_within_0 ?_
  refine x_iload1 eX6_within_1 ?_
  refine x_icmp_ge eX6_within_2 (fun c => ?_) (fun c => ?_)
  · rw [if_pos c] at hm
    refine x_iload0 eX6_within_9 ?_
    refine x_iload2 eX6_within_10 ?_
    refine x_icmp_le eX6_within_11 (fun c => ?_) (fun c => ?_)
    · rw [if_pos c] at hm
      refine x_iload0 eX6_within_18 ?_
      subst hm
      exact x_iret eX6_within_19 ⟨rfl, rfl⟩
    · rw [if_neg c] at hm
      refine x_iload2 eX6_within_14 ?_
      refine x_goto eX6_within_15 ?_
      subst hm
      exact x_iret eX6_within_19 ⟨rfl, rfl⟩
  · rw [if_neg c] at hm
    refine x_iload1 eX6_within_5 ?_
    refine x_goto eX6_within_6 ?_
    subst hm
    exact x_iret eX6_within_19 ⟨rfl, rfl⟩
set_option maxRecDepth 4000 in
theorem l_X6_growsFrom_2 {o : Int32} {u2 : Int32} {m_parents : Nat → Int32} {u1 : Int32} : ∀ (n : Nat) {u3 : Int32}, sp_X6_growsFrom_2 u2 m_parents n u3 = some o → xt_T RX6 cX6_growsFrom 4 (some .boolean) (d + 0) (xt_Ki o (WM m_thrown m_textCount m_rule m_taped m_n m_minds m_lasts m_cutNow m_year m_ofNode m_ofDepth m_ofKids m_ofTwigs m_ofLast m_ofYear m_from m_size m_here m_token m_tokenAt m_open m_bad m_fault m_nKept m_mindsKept m_lastsKept m_cutKept m_yearKept m_ruleKept m_tokenWorth m_texts m_textSize m_tape m_parents m_kinds m_numbers m_odds m_yes m_no m_prices m_numbersKept m_oddsKept m_isThere m_sorts m_sheetSize m_items)) 2 [some (.ref 0), some (.int u1), some (.int u2), some (.int u3)] [] (WM m_thrown m_textCount m_rule m_taped m_n m_minds m_lasts m_cutNow m_year m_ofNode m_ofDepth m_ofKids m_ofTwigs m_ofLast m_ofYear m_from m_size m_here m_token m_tokenAt m_open m_bad m_fault m_nKept m_mindsKept m_lastsKept m_cutKept m_yearKept m_ruleKept m_tokenWorth m_texts m_textSize m_tape m_parents m_kinds m_numbers m_odds m_yes m_no m_prices m_numbersKept m_oddsKept m_isThere m_sorts m_sheetSize m_items) := by
  intro n
  induction n with
  | zero => intro u3 hm; rw [sp_X6_growsFrom_2] at hm; cases hm
  | succ n ih =>
    intro u3 hm
    rw [sp_X6_growsFrom_2] at hm
    refine x_iload3 eX6_growsFrom_2 ?_
    refine x_iload2 eX6_growsFrom_3 ?_
    refine x_icmp_le eX6_growsFrom_4 (fun c => ?_) (fun c => ?_)
    · rw [if_pos c] at hm
      refine x_iload3 eX6_growsFrom_17 ?_
      refine x_iload2 eX6_growsFrom_18 ?_
      refine x_icmp_ne eX6_growsFrom_19 (fun c => ?_) (fun c => ?_)
      · rw [if_neg c] at hm
        refine x_k eX6_growsFrom_26 ?_
        obtain rfl := Option.some.inj hm
        exact x_zret eX6_growsFrom_27 (by decide) ⟨rfl, rfl⟩
      · rw [if_pos c] at hm
        refine x_k eX6_growsFrom_22 ?_
        refine x_goto eX6_growsFrom_23 ?_
        obtain rfl := Option.some.inj hm
        exact x_zret eX6_growsFrom_27 (by decide) ⟨rfl, rfl⟩
    · rw [if_neg c] at hm
      refine x_aload0 eX6_growsFrom_7 ?_
      refine x_get eX6_growsFrom_8 fX6_26 rfl rfl ?_
      refine x_iload3 eX6_growsFrom_11 ?_
      obtain ⟨v1, hv, hm⟩ := xo_bind hm
      obtain ⟨hi, rfl⟩ := xo_at_some hv
      refine x_iaload eX6_growsFrom_12 rfl hi ?_
      refine x_istore3 eX6_growsFrom_13 rfl ?_
      refine x_goto eX6_growsFrom_14 ?_
      exact ih hm
set_option maxRecDepth 4000 in
theorem t_X6_growsFrom {o : Int32} {p1 : Int32} {p2 : Int32} (hm : sp_X6_growsFrom p1 p2 m_parents = some o) : xt_M yX6_growsFrom cX6_growsFrom 4 (some .boolean) (d + 0) [.ref 0, .int p1, .int p2] (WM m_thrown m_textCount m_rule m_taped m_n m_minds m_lasts m_cutNow m_year m_ofNode m_ofDepth m_ofKids m_ofTwigs m_ofLast m_ofYear m_from m_size m_here m_token m_tokenAt m_open m_bad m_fault m_nKept m_mindsKept m_lastsKept m_cutKept m_yearKept m_ruleKept m_tokenWorth m_texts m_textSize m_tape m_parents m_kinds m_numbers m_odds m_yes m_no m_prices m_numbersKept m_oddsKept m_isThere m_sorts m_sheetSize m_items) (xt_Ki o (WM m_thrown m_textCount m_rule m_taped m_n m_minds m_lasts m_cutNow m_year m_ofNode m_ofDepth m_ofKids m_ofTwigs m_ofLast m_ofYear m_from m_size m_here m_token m_tokenAt m_open m_bad m_fault m_nKept m_mindsKept m_lastsKept m_cutKept m_yearKept m_ruleKept m_tokenWorth m_texts m_textSize m_tape m_parents m_kinds m_numbers m_odds m_yes m_no m_prices m_numbersKept m_oddsKept m_isThere m_sorts m_sheetSize m_items)) := by
  unfold sp_X6_growsFrom at hm
  refine xt_M.go (own := RX6) (lv := [some (.ref 0), some (.int p1), some (.int p2), none]) rfl rfl (Nat.le_of_ble_eq_true rfl) rfl ?_
  refine x_iload1 eX6_growsFrom_0 ?_
  refine x_istore3 eX6_growsFrom_1 rfl ?_
  exact l_X6_growsFrom_2 _ hm
set_option maxRecDepth 4000 in
theorem l_X6_says_67 {o : Int32 × Int32 × Int32 × Int32 × Int32 × Int32 × Int32 × Int32 × Int32 × Int32 × Int32 × Int32 × Int32 × Int32 × Int32 × Int64} {u1 : Int32} {u2 : Int32} {u3 : Int32} {m_rule : Int32} {m_n : Int32} {m_lasts : Int32} {m_year : Int32} {m_texts : Nat → Int32} {m_textSize : Nat → Int32} {m_parents : Nat → Int32} : ∀ (n : Nat) {u4 : Int32} {m_ofNode : Int32} {m_ofDepth : Int32} {m_ofKids : Int32} {m_ofTwigs : Int32} {m_ofLast : Int32} {m_ofYear : Int32} {m_from : Int32} {m_size : Int32} {m_here : Int32} {m_token : Int32} {m_tokenAt : Int32} {m_open : Int32} {m_bad : Int32} {m_fault : Int32} {m_tokenWorth : Int64}, sp_X6_says_67 u1 u2 u3 m_rule m_n m_lasts m_year m_texts m_textSize m_parents n u4 m_ofNode m_ofDepth m_ofKids m_ofTwigs m_ofLast m_ofYear m_from m_size m_here m_token m_tokenAt m_open m_bad m_fault m_tokenWorth = some o → xt_T RX6 cX6_says 5 (some .int) (d + 87) (xt_Ki o.1 (WM m_thrown m_textCount m_rule m_taped m_n m_minds m_lasts m_cutNow m_year o.2.1 o.2.2.1 o.2.2.2.1 o.2.2.2.2.1 o.2.2.2.2.2.1 o.2.2.2.2.2.2.1 o.2.2.2.2.2.2.2.1 o.2.2.2.2.2.2.2.2.1 o.2.2.2.2.2.2.2.2.2.1 o.2.2.2.2.2.2.2.2.2.2.1 o.2.2.2.2.2.2.2.2.2.2.2.1 o.2.2.2.2.2.2.2.2.2.2.2.2.1 o.2.2.2.2.2.2.2.2.2.2.2.2.2.1 o.2.2.2.2.2.2.2.2.2.2.2.2.2.2.1 m_nKept m_mindsKept m_lastsKept m_cutKept m_yearKept m_ruleKept o.2.2.2.2.2.2.2.2.2.2.2.2.2.2.2 m_texts m_textSize m_tape m_parents m_kinds m_numbers m_odds m_yes m_no m_prices m_numbersKept m_oddsKept m_isThere m_sorts m_sheetSize m_items)) 67 [some (.ref 0), some (.int u1), some (.int u2), some (.int u3), some (.int u4)] [] (WM m_thrown m_textCount m_rule m_taped m_n m_minds m_lasts m_cutNow m_year m_ofNode m_ofDepth m_ofKids m_ofTwigs m_ofLast m_ofYear m_from m_size m_here m_token m_tokenAt m_open m_bad m_fault m_nKept m_mindsKept m_lastsKept m_cutKept m_yearKept m_ruleKept m_tokenWorth m_texts m_textSize m_tape m_parents m_kinds m_numbers m_odds m_yes m_no m_prices m_numbersKept m_oddsKept m_isThere m_sorts m_sheetSize m_items) := by
  intro n
  induction n with
  | zero => intro u4 m_ofNode m_ofDepth m_ofKids m_ofTwigs m_ofLast m_ofYear m_from m_size m_here m_token m_tokenAt m_open m_bad m_fault m_tokenWorth hm; rw [sp_X6_says_67] at hm; cases hm
  | succ n ih =>
    intro u4 m_ofNode m_ofDepth m_ofKids m_ofTwigs m_ofLast m_ofYear m_from m_size m_here m_token m_tokenAt m_open m_bad m_fault m_tokenWorth hm
    rw [sp_X6_says_67] at hm
    refine x_iload4 eX6_says_67 ?_
    refine x_aload0 eX6_says_69 ?_
    refine x_get eX6_says_70 fX6_23 rfl rfl ?_
    refine x_icmp_ge eX6_says_73 (fun c => ?_) (fun c => ?_)
    · rw [if_pos c] at hm
      refine x_aload0 eX6_says_116 ?_
      refine x_aload0 eX6_says_117 ?_
      refine x_get eX6_says_118 fX6_88 rfl rfl ?_
      refine x_iload2 eX6_says_121 ?_
      refine x_ishr eX6_says_122 ?_
      refine x_k eX6_says_123 ?_
      refine x_iand eX6_says_124 ?_
      refine x_puti (w' := WM _ _ _ _ _ _ _ _ _ _ _ _ _ _ _ _ _ _ _ _ _ _ _ _ _ _ _ _ _ _ _ _ _ _ _ _ _ _ _ _ _ _ _ _ _ _) eX6_says_125 pX6_204 rfl (Nat.le_of_ble_eq_true rfl) rfl ?_
      refine x_aload0 eX6_says_128 ?_
      refine x_aload0 eX6_says_129 ?_
      refine x_get eX6_says_130 fX6_129 rfl rfl ?_
      refine x_puti (w' := WM _ _ _ _ _ _ _ _ _ _ _ _ _ _ _ _ _ _ _ _ _ _ _ _ _ _ _ _ _ _ _ _ _ _ _ _ _ _ _ _ _ _ _ _ _ _) eX6_says_133 pX6_207 rfl (Nat.le_of_ble_eq_true rfl) rfl ?_
      refine x_aload0 eX6_says_136 ?_
      refine x_aload0 eX6_says_137 ?_
      refine x_get eX6_says_138 fX6_250 rfl rfl ?_
      refine x_iload1 eX6_says_141 ?_
      obtain ⟨r3, hr, hm⟩ := xo_bind hm
      refine x_Vi2 eX6_says_142 kX6_read mX6_247 (t_X6_read hr) rfl (Nat.le_of_ble_eq_true rfl) ?_
      refine x_k eX6_says_145 ?_
      refine x_iload1 eX6_says_146 ?_
      refine x_k eX6_says_147 ?_
      refine x_icmp_ne eX6_says_148 (fun c => ?_) (fun c => ?_)
      · rw [if_neg c] at hm
        refine x_k eX6_says_156 ?_
        refine x_Si3 eX6_says_158 kX6_within mX6_256 (t_X6_within rfl) (Nat.le_of_ble_eq_true rfl) ?_
        obtain rfl := Option.some.inj hm
        exact x_iret eX6_says_161 ⟨rfl, rfl⟩
      · rw [if_pos c] at hm
        refine x_k eX6_says_151 ?_
        refine x_goto eX6_says_153 ?_
        refine x_Si3 eX6_says_158 kX6_within mX6_256 (t_X6_within rfl) (Nat.le_of_ble_eq_true rfl) ?_
        obtain rfl := Option.some.inj hm
        exact x_iret eX6_says_161 ⟨rfl, rfl⟩
    · rw [if_neg c] at hm
      refine x_aload0 eX6_says_76 ?_
      refine x_dup eX6_says_77 rfl ?_
      refine x_get eX6_says_78 fX6_201 rfl rfl ?_
      refine x_aload0 eX6_says_81 ?_
      refine x_iload4 eX6_says_82 ?_
      refine x_iload3 eX6_says_84 ?_
      obtain ⟨r4, hr, hm⟩ := xo_bind hm
      refine x_Vi2 eX6_says_85 kX6_isTwig mX6_84 (t_X6_isTwig hr) rfl (Nat.le_of_ble_eq_true rfl) ?_
      refine x_if_eq eX6_says_88 (fun c => ?_) (fun c => ?_)
      · rw [if_pos c] at hm
        refine x_k eX6_says_105 ?_
        refine x_iadd eX6_says_106 ?_
        refine x_puti (w' := WM _ _ _ _ _ _ _ _ _ _ _ _ _ _ _ _ _ _ _ _ _ _ _ _ _ _ _ _ _ _ _ _ _ _ _ _ _ _ _ _ _ _ _ _ _ _) eX6_says_107 pX6_201 rfl (Nat.le_of_ble_eq_true rfl) rfl ?_
        refine x_iinc4 eX6_says_110 rfl ?_
        refine x_goto eX6_says_113 ?_
        exact ih hm
      · rw [if_neg c] at hm
        refine x_aload0 eX6_says_91 ?_
        refine x_iload4 eX6_says_92 ?_
        refine x_iload2 eX6_says_94 ?_
        obtain ⟨r5, hr, hm⟩ := xo_bind hm
        refine x_Vi2 eX6_says_95 kX6_growsFrom mX6_253 (t_X6_growsFrom hr) rfl (Nat.le_of_ble_eq_true rfl) ?_
        refine x_if_eq eX6_says_98 (fun c => ?_) (fun c => ?_)
        · rw [if_pos c] at hm
          refine x_k eX6_says_105 ?_
          refine x_iadd eX6_says_106 ?_
          refine x_puti (w' := WM _ _ _ _ _ _ _ _ _ _ _ _ _ _ _ _ _ _ _ _ _ _ _ _ _ _ _ _ _ _ _ _ _ _ _ _ _ _ _ _ _ _ _ _ _ _) eX6_says_107 pX6_201 rfl (Nat.le_of_ble_eq_true rfl) rfl ?_
          refine x_iinc4 eX6_says_110 rfl ?_
          refine x_goto eX6_says_113 ?_
          exact ih hm
        · rw [if_neg c] at hm
          refine x_k eX6_says_101 ?_
          refine x_goto eX6_says_102 ?_
          refine x_iadd eX6_says_106 ?_
          refine x_puti (w' := WM _ _ _ _ _ _ _ _ _ _ _ _ _ _ _ _ _ _ _ _ _ _ _ _ _ _ _ _ _ _ _ _ _ _ _ _ _ _ _ _ _ _ _ _ _ _) eX6_says_107 pX6_201 rfl (Nat.le_of_ble_eq_true rfl) rfl ?_
          refine x_iinc4 eX6_says_110 rfl ?_
          refine x_goto eX6_says_113 ?_
          exact ih hm
set_option maxRecDepth 4000 in
theorem l_X6_says_22 {o : Int32 × Int32 × Int32 × Int32 × Int32 × Int32 × Int32 × Int32 × Int32 × Int32 × Int32 × Int32 × Int32 × Int32 × Int32 × Int64} {u1 : Int32} {u2 : Int32} {u3 : Int32} {m_rule : Int32} {m_n : Int32} {m_lasts : Int32} {m_year : Int32} {m_texts : Nat → Int32} {m_textSize : Nat → Int32} {m_parents : Nat → Int32} : ∀ (n : Nat) {u4 : Int32} {m_ofNode : Int32} {m_ofDepth : Int32} {m_ofKids : Int32} {m_ofTwigs : Int32} {m_ofLast : Int32} {m_ofYear : Int32} {m_from : Int32} {m_size : Int32} {m_here : Int32} {m_token : Int32} {m_tokenAt : Int32} {m_open : Int32} {m_bad : Int32} {m_fault : Int32} {m_tokenWorth : Int64}, sp_X6_says_22 u1 u2 u3 m_rule m_n m_lasts m_year m_texts m_textSize m_parents n u4 m_ofNode m_ofDepth m_ofKids m_ofTwigs m_ofLast m_ofYear m_from m_size m_here m_token m_tokenAt m_open m_bad m_fault m_tokenWorth = some o → xt_T RX6 cX6_says 5 (some .int) (d + 87) (xt_Ki o.1 (WM m_thrown m_textCount m_rule m_taped m_n m_minds m_lasts m_cutNow m_year o.2.1 o.2.2.1 o.2.2.2.1 o.2.2.2.2.1 o.2.2.2.2.2.1 o.2.2.2.2.2.2.1 o.2.2.2.2.2.2.2.1 o.2.2.2.2.2.2.2.2.1 o.2.2.2.2.2.2.2.2.2.1 o.2.2.2.2.2.2.2.2.2.2.1 o.2.2.2.2.2.2.2.2.2.2.2.1 o.2.2.2.2.2.2.2.2.2.2.2.2.1 o.2.2.2.2.2.2.2.2.2.2.2.2.2.1 o.2.2.2.2.2.2.2.2.2.2.2.2.2.2.1 m_nKept m_mindsKept m_lastsKept m_cutKept m_yearKept m_ruleKept o.2.2.2.2.2.2.2.2.2.2.2.2.2.2.2 m_texts m_textSize m_tape m_parents m_kinds m_numbers m_odds m_yes m_no m_prices m_numbersKept m_oddsKept m_isThere m_sorts m_sheetSize m_items)) 22 [some (.ref 0), some (.int u1), some (.int u2), some (.int u3), some (.int u4)] [] (WM m_thrown m_textCount m_rule m_taped m_n m_minds m_lasts m_cutNow m_year m_ofNode m_ofDepth m_ofKids m_ofTwigs m_ofLast m_ofYear m_from m_size m_here m_token m_tokenAt m_open m_bad m_fault m_nKept m_mindsKept m_lastsKept m_cutKept m_yearKept m_ruleKept m_tokenWorth m_texts m_textSize m_tape m_parents m_kinds m_numbers m_odds m_yes m_no m_prices m_numbersKept m_oddsKept m_isThere m_sorts m_sheetSize m_items) := by
  intro n
  induction n with
  | zero => intro u4 m_ofNode m_ofDepth m_ofKids m_ofTwigs m_ofLast m_ofYear m_from m_size m_here m_token m_tokenAt m_open m_bad m_fault m_tokenWorth hm; rw [sp_X6_says_22] at hm; cases hm
  | succ n ih =>
    intro u4 m_ofNode m_ofDepth m_ofKids m_ofTwigs m_ofLast m_ofYear m_from m_size m_here m_token m_tokenAt m_open m_bad m_fault m_tokenWorth hm
    rw [sp_X6_says_22] at hm
    refine x_iload4 eX6_says_22 ?_
    refine x_if_le eX6_says_24 (fun c => ?_) (fun c => ?_)
    · rw [if_pos c] at hm
      refine x_aload0 eX6_says_49 ?_
      refine x_aload0 eX6_says_50 ?_
      refine x_iload2 eX6_says_51 ?_
      refine x_iload3 eX6_says_52 ?_
      obtain ⟨r2, hr, hm⟩ := xo_bind hm
      refine x_Vi2 eX6_says_53 kX6_kidsOf mX6_80 (t_X6_kidsOf hr) rfl (Nat.le_of_ble_eq_true rfl) ?_
      refine x_puti (w' := WM _ _ _ _ _ _ _ _ _ _ _ _ _ _ _ _ _ _ _ _ _ _ _ _ _ _ _ _ _ _ _ _ _ _ _ _ _ _ _ _ _ _ _ _ _ _) eX6_says_56 pX6_198 rfl (Nat.le_of_ble_eq_true rfl) rfl ?_
      refine x_aload0 eX6_says_59 ?_
      refine x_k eX6_says_60 ?_
      refine x_puti (w' := WM _ _ _ _ _ _ _ _ _ _ _ _ _ _ _ _ _ _ _ _ _ _ _ _ _ _ _ _ _ _ _ _ _ _ _ _ _ _ _ _ _ _ _ _ _ _) eX6_says_61 pX6_201 rfl (Nat.le_of_ble_eq_true rfl) rfl ?_
      refine x_iload2 eX6_says_64 ?_
      refine x_istore4 eX6_says_65 rfl ?_
      exact l_X6_says_67 _ hm
    · rw [if_neg c] at hm
      refine x_aload0 eX6_says_27 ?_
      refine x_dup eX6_says_28 rfl ?_
      refine x_get eX6_says_29 fX6_195 rfl rfl ?_
      refine x_k eX6_says_32 ?_
      refine x_iadd eX6_says_33 ?_
      refine x_puti (w' := WM _ _ _ _ _ _ _ _ _ _ _ _ _ _ _ _ _ _ _ _ _ _ _ _ _ _ _ _ _ _ _ _ _ _ _ _ _ _ _ _ _ _ _ _ _ _) eX6_says_34 pX6_195 rfl (Nat.le_of_ble_eq_true rfl) rfl ?_
      refine x_aload0 eX6_says_37 ?_
      refine x_get eX6_says_38 fX6_26 rfl rfl ?_
      refine x_iload4 eX6_says_41 ?_
      obtain ⟨v6, hv, hm⟩ := xo_bind hm
      obtain ⟨hi, rfl⟩ := xo_at_some hv
      refine x_iaload eX6_says_43 rfl hi ?_
      refine x_istore4 eX6_says_44 rfl ?_
      refine x_goto eX6_says_46 ?_
      exact ih hm
set_option maxRecDepth 4000 in
theorem t_X6_says {o : Int32 × Int32 × Int32 × Int32 × Int32 × Int32 × Int32 × Int32 × Int32 × Int32 × Int32 × Int32 × Int32 × Int32 × Int32 × Int64} {p1 : Int32} {p2 : Int32} (hm : sp_X6_says p1 p2 m_rule m_n m_lasts m_cutNow m_year m_ofNode m_ofDepth m_ofKids m_ofTwigs m_ofLast m_ofYear m_from m_size m_here m_token m_tokenAt m_open m_bad m_fault m_tokenWorth m_texts m_textSize m_parents = some o) : xt_M yX6_says cX6_says 5 (some .int) (d + 87) [.ref 0, .int p1, .int p2] (WM m_thrown m_textCount m_rule m_taped m_n m_minds m_lasts m_cutNow m_year m_ofNode m_ofDepth m_ofKids m_ofTwigs m_ofLast m_ofYear m_from m_size m_here m_token m_tokenAt m_open m_bad m_fault m_nKept m_mindsKept m_lastsKept m_cutKept m_yearKept m_ruleKept m_tokenWorth m_texts m_textSize m_tape m_parents m_kinds m_numbers m_odds m_yes m_no m_prices m_numbersKept m_oddsKept m_isThere m_sorts m_sheetSize m_items) (xt_Ki o.1 (WM m_thrown m_textCount m_rule m_taped m_n m_minds m_lasts m_cutNow m_year o.2.1 o.2.2.1 o.2.2.2.1 o.2.2.2.2.1 o.2.2.2.2.2.1 o.2.2.2.2.2.2.1 o.2.2.2.2.2.2.2.1 o.2.2.2.2.2.2.2.2.1 o.2.2.2.2.2.2.2.2.2.1 o.2.2.2.2.2.2.2.2.2.2.1 o.2.2.2.2.2.2.2.2.2.2.2.1 o.2.2.2.2.2.2.2.2.2.2.2.2.1 o.2.2.2.2.2.2.2.2.2.2.2.2.2.1 o.2.2.2.2.2.2.2.2.2.2.2.2.2.2.1 m_nKept m_mindsKept m_lastsKept m_cutKept m_yearKept m_ruleKept o.2.2.2.2.2.2.2.2.2.2.2.2.2.2.2 m_texts m_textSize m_tape m_parents m_kinds m_numbers m_odds m_yes m_no m_prices m_numbersKept m_oddsKept m_isThere m_sorts m_sheetSize m_items)) := by
  unfold sp_X6_says at hm
  refine xt_M.go (own := RX6) (lv := [some (.ref 0), some (.int p1), some (.int p2), none, none]) rfl rfl (Nat.le_of_ble_eq_true rfl) rfl ?_
  refine x_aload0 eX6_says_0 ?_
  refine x_aload0 eX6_says_1 ?_
  refine x_get eX6_says_2 fX6_104 rfl rfl ?_
  obtain ⟨r1, hr, hm⟩ := xo_bind hm
  refine x_Vi1 eX6_says_5 kX6_standing mX6_98 (t_X6_standing hr) rfl (Nat.le_of_ble_eq_true rfl) ?_
  refine x_istore3 eX6_says_8 rfl ?_
  refine x_aload0 eX6_says_9 ?_
  refine x_iload2 eX6_says_10 ?_
  refine x_puti (w' := WM _ _ _ _ _ _ _ _ _ _ _ _ _ _ _ _ _ _ _ _ _ _ _ _ _ _ _ _ _ _ _ _ _ _ _ _ _ _ _ _ _ _ _ _ _ _) eX6_says_11 pX6_192 rfl (Nat.le_of_ble_eq_true rfl) rfl ?_
  refine x_aload0 eX6_says_14 ?_
  refine x_k eX6_says_15 ?_
  refine x_puti (w' := WM _ _ _ _ _ _ _ _ _ _ _ _ _ _ _ _ _ _ _ _ _ _ _ _ _ _ _ _ _ _ _ _ _ _ _ _ _ _ _ _ _ _ _ _ _ _) eX6_says_16 pX6_195 rfl (Nat.le_of_ble_eq_true rfl) rfl ?_
  refine x_iload2 eX6_says_19 ?_
  refine x_istore4 eX6_says_20 rfl ?_
  exact l_X6_says_22 _ hm
set_option maxRecDepth 4000 in
theorem t_X6_asks {o : Int32 × Int32 × Int32 × Int32 × Int32 × Int32 × Int32 × Int32 × Int32 × Int32 × Int32 × Int32 × Int32 × Int32 × Int32 × Int64} {p1 : Int32} {p2 : Int32} (hm : sp_X6_asks p1 p2 m_rule m_n m_lasts m_cutNow m_year m_ofNode m_ofDepth m_ofKids m_ofTwigs m_ofLast m_ofYear m_from m_size m_here m_token m_tokenAt m_open m_bad m_fault m_tokenWorth m_texts m_textSize m_parents = some o) : xt_M yX6_asks cX6_asks 3 (some .int) (d + 88) [.ref 0, .int p1, .int p2] (WM m_thrown m_textCount m_rule m_taped m_n m_minds m_lasts m_cutNow m_year m_ofNode m_ofDepth m_ofKids m_ofTwigs m_ofLast m_ofYear m_from m_size m_here m_token m_tokenAt m_open m_bad m_fault m_nKept m_mindsKept m_lastsKept m_cutKept m_yearKept m_ruleKept m_tokenWorth m_texts m_textSize m_tape m_parents m_kinds m_numbers m_odds m_yes m_no m_prices m_numbersKept m_oddsKept m_isThere m_sorts m_sheetSize m_items) (xt_Ki o.1 (WM m_thrown m_textCount m_rule m_taped m_n m_minds m_lasts m_cutNow m_year o.2.1 o.2.2.1 o.2.2.2.1 o.2.2.2.2.1 o.2.2.2.2.2.1 o.2.2.2.2.2.2.1 o.2.2.2.2.2.2.2.1 o.2.2.2.2.2.2.2.2.1 o.2.2.2.2.2.2.2.2.2.1 o.2.2.2.2.2.2.2.2.2.2.1 o.2.2.2.2.2.2.2.2.2.2.2.1 o.2.2.2.2.2.2.2.2.2.2.2.2.1 o.2.2.2.2.2.2.2.2.2.2.2.2.2.1 o.2.2.2.2.2.2.2.2.2.2.2.2.2.2.1 m_nKept m_mindsKept m_lastsKept m_cutKept m_yearKept m_ruleKept o.2.2.2.2.2.2.2.2.2.2.2.2.2.2.2 m_texts m_textSize m_tape m_parents m_kinds m_numbers m_odds m_yes m_no m_prices m_numbersKept m_oddsKept m_isThere m_sorts m_sheetSize m_items)) := by
  unfold sp_X6_asks at hm
  refine xt_M.go (own := RX6) (lv := [some (.ref 0), some (.int p1), some (.int p2)]) rfl rfl (Nat.le_of_ble_eq_true rfl) rfl ?_
  refine x_aload0 eX6_asks_0 ?_
  refine x_iload1 eX6_asks_1 ?_
  obtain ⟨r1, hr, hm⟩ := xo_bind hm
  refine x_Vi1 eX6_asks_2 kX6_isNode mX6_113 (t_X6_isNode hr) rfl (Nat.le_of_ble_eq_true rfl) ?_
  refine x_if_eq eX6_asks_5 (fun c => ?_) (fun c => ?_)
  · rw [if_pos c] at hm
    refine x_k eX6_asks_20 ?_
    obtain rfl := Option.some.inj hm
    exact x_iret eX6_asks_22 ⟨rfl, rfl⟩
  · rw [if_neg c] at hm
    refine x_iload2 eX6_asks_8 ?_
    refine x_i2l eX6_asks_9 ?_
    refine x_lk eX6_asks_10 ?_
    refine x_ldc2 eX6_asks_11 cX6_260 ?_
    refine x_Si3 eX6_asks_14 kX6_in mX6_76 (t_X6_in rfl) (Nat.le_of_ble_eq_true rfl) ?_
    refine x_if_ne eX6_asks_17 (fun c => ?_) (fun c => ?_)
    · rw [if_neg c] at hm
      refine x_aload0 eX6_asks_23 ?_
      refine x_aload0 eX6_asks_24 ?_
      refine x_get eX6_asks_25 fX6_104 rfl rfl ?_
      obtain ⟨r2, hr, hm⟩ := xo_bind hm
      refine x_Vi1 eX6_asks_28 kX6_standing mX6_98 (t_X6_standing hr) rfl (Nat.le_of_ble_eq_true rfl) ?_
      refine x_iload1 eX6_asks_31 ?_
      refine x_ishr eX6_asks_32 ?_
      refine x_k eX6_asks_33 ?_
      refine x_iand eX6_asks_34 ?_
      refine x_if_ne eX6_asks_35 (fun c => ?_) (fun c => ?_)
      · rw [if_neg c] at hm
        refine x_aload0 eX6_asks_43 ?_
        refine x_iload2 eX6_asks_44 ?_
        refine x_iload1 eX6_asks_45 ?_
        obtain ⟨r3, hr, hm⟩ := xo_bind hm
        refine x_Vi2 eX6_asks_46 kX6_says mX6_262 (t_X6_says hr) rfl (Nat.le_of_ble_eq_true rfl) ?_
        obtain rfl := Option.some.inj hm
        exact x_iret eX6_asks_49 ⟨rfl, rfl⟩
      · rw [if_pos c] at hm
        refine x_k eX6_asks_38 ?_
        refine x_goto eX6_asks_40 ?_
        obtain rfl := Option.some.inj hm
        exact x_iret eX6_asks_49 ⟨rfl, rfl⟩
    · rw [if_pos c] at hm
      refine x_k eX6_asks_20 ?_
      obtain rfl := Option.some.inj hm
      exact x_iret eX6_asks_22 ⟨rfl, rfl⟩
set_option maxRecDepth 4000 in
theorem l_X6_gathers_2 {o : Int32 × Int32 × Int32 × Int32 × Int32 × Int32 × Int32 × Int32 × Int32 × Int32 × Int32 × Int32 × Int32 × Int32 × Int64 × (Nat → Int32)} {u1 : Int32} {u2 : Int32} {m_rule : Int32} {m_n : Int32} {m_lasts : Int32} {m_cutNow : Int32} {m_year : Int32} {m_texts : Nat → Int32} {m_textSize : Nat → Int32} {m_parents : Nat → Int32} : ∀ (n : Nat) {u3 : Int32} {m_ofNode : Int32} {m_ofDepth : Int32} {m_ofKids : Int32} {m_ofTwigs : Int32} {m_ofLast : Int32} {m_ofYear : Int32} {m_from : Int32} {m_size : Int32} {m_here : Int32} {m_token : Int32} {m_tokenAt : Int32} {m_open : Int32} {m_bad : Int32} {m_fault : Int32} {m_tokenWorth : Int64} {m_prices : Nat → Int32}, sp_X6_gathers_2 u1 u2 m_rule m_n m_lasts m_cutNow m_year m_texts m_textSize m_parents n u3 m_ofNode m_ofDepth m_ofKids m_ofTwigs m_ofLast m_ofYear m_from m_size m_here m_token m_tokenAt m_open m_bad m_fault m_tokenWorth m_prices = some o → xt_T RX6 cX6_gathers 4 none (d + 88) (xt_Kv (WM m_thrown m_textCount m_rule m_taped m_n m_minds m_lasts m_cutNow m_year o.1 o.2.1 o.2.2.1 o.2.2.2.1 o.2.2.2.2.1 o.2.2.2.2.2.1 o.2.2.2.2.2.2.1 o.2.2.2.2.2.2.2.1 o.2.2.2.2.2.2.2.2.1 o.2.2.2.2.2.2.2.2.2.1 o.2.2.2.2.2.2.2.2.2.2.1 o.2.2.2.2.2.2.2.2.2.2.2.1 o.2.2.2.2.2.2.2.2.2.2.2.2.1 o.2.2.2.2.2.2.2.2.2.2.2.2.2.1 m_nKept m_mindsKept m_lastsKept m_cutKept m_yearKept m_ruleKept o.2.2.2.2.2.2.2.2.2.2.2.2.2.2.1 m_texts m_textSize m_tape m_parents m_kinds m_numbers m_odds m_yes m_no o.2.2.2.2.2.2.2.2.2.2.2.2.2.2.2 m_numbersKept m_oddsKept m_isThere m_sorts m_sheetSize m_items)) 2 [some (.ref 0), some (.int u1), some (.int u2), some (.int u3)] [] (WM m_thrown m_textCount m_rule m_taped m_n m_minds m_lasts m_cutNow m_year m_ofNode m_ofDepth m_ofKids m_ofTwigs m_ofLast m_ofYear m_from m_size m_here m_token m_tokenAt m_open m_bad m_fault m_nKept m_mindsKept m_lastsKept m_cutKept m_yearKept m_ruleKept m_tokenWorth m_texts m_textSize m_tape m_parents m_kinds m_numbers m_odds m_yes m_no m_prices m_numbersKept m_oddsKept m_isThere m_sorts m_sheetSize m_items) := by
  intro n
  induction n with
  | zero => intro u3 m_ofNode m_ofDepth m_ofKids m_ofTwigs m_ofLast m_ofYear m_from m_size m_here m_token m_tokenAt m_open m_bad m_fault m_tokenWorth m_prices hm; rw [sp_X6_gathers_2] at hm; cases hm
  | succ n ih =>
    intro u3 m_ofNode m_ofDepth m_ofKids m_ofTwigs m_ofLast m_ofYear m_from m_size m_here m_token m_tokenAt m_open m_bad m_fault m_tokenWorth m_prices hm
    rw [sp_X6_gathers_2] at hm
    refine x_iload3 eX6_gathers_2 ?_
    refine x_aload0 eX6_gathers_3 ?_
    refine x_get eX6_gathers_4 fX6_23 rfl rfl ?_
    refine x_icmp_ge eX6_gathers_7 (fun c => ?_) (fun c => ?_)
    · rw [if_pos c] at hm
      obtain rfl := Option.some.inj hm
      exact x_vret eX6_gathers_41 ⟨rfl, rfl⟩
    · rw [if_neg c] at hm
      refine x_aload0 eX6_gathers_10 ?_
      refine x_get eX6_gathers_11 fX6_44 rfl rfl ?_
      refine x_iload3 eX6_gathers_14 ?_
      refine x_iload2 eX6_gathers_15 ?_
      refine x_iload3 eX6_gathers_16 ?_
      refine x_ishr eX6_gathers_17 ?_
      refine x_k eX6_gathers_18 ?_
      refine x_iand eX6_gathers_19 ?_
      refine x_k eX6_gathers_20 ?_
      refine x_icmp_ne eX6_gathers_21 (fun c => ?_) (fun c => ?_)
      · rw [if_neg c] at hm
        refine x_k eX6_gathers_33 ?_
        obtain ⟨f1, hv, hm⟩ := xo_bind hm
        obtain ⟨hi, rfl⟩ := xo_set_some hv
        refine x_iastore (w' := WM _ _ _ _ _ _ _ _ _ _ _ _ _ _ _ _ _ _ _ _ _ _ _ _ _ _ _ _ _ _ _ _ _ _ _ _ _ _ _ _ _ _ _ _ _ _) eX6_gathers_34 rfl hi rfl ?_
        refine x_iinc3 eX6_gathers_35 rfl ?_
        refine x_goto eX6_gathers_38 ?_
        exact ih hm
      · rw [if_pos c] at hm
        refine x_aload0 eX6_gathers_24 ?_
        refine x_iload1 eX6_gathers_25 ?_
        refine x_iload3 eX6_gathers_26 ?_
        obtain ⟨r2, hr, hm⟩ := xo_bind hm
        refine x_Vi2 eX6_gathers_27 kX6_says mX6_262 (t_X6_says hr) rfl (Nat.le_of_ble_eq_true rfl) ?_
        refine x_goto eX6_gathers_30 ?_
        obtain ⟨f3, hv, hm⟩ := xo_bind hm
        obtain ⟨hi, rfl⟩ := xo_set_some hv
        refine x_iastore (w' := WM _ _ _ _ _ _ _ _ _ _ _ _ _ _ _ _ _ _ _ _ _ _ _ _ _ _ _ _ _ _ _ _ _ _ _ _ _ _ _ _ _ _ _ _ _ _) eX6_gathers_34 rfl hi rfl ?_
        refine x_iinc3 eX6_gathers_35 rfl ?_
        refine x_goto eX6_gathers_38 ?_
        exact ih hm
set_option maxRecDepth 4000 in
theorem t_X6_gathers {o : Int32 × Int32 × Int32 × Int32 × Int32 × Int32 × Int32 × Int32 × Int32 × Int32 × Int32 × Int32 × Int32 × Int32 × Int64 × (Nat → Int32)} {p1 : Int32} {p2 : Int32} (hm : sp_X6_gathers p1 p2 m_rule m_n m_lasts m_cutNow m_year m_ofNode m_ofDepth m_ofKids m_ofTwigs m_ofLast m_ofYear m_from m_size m_here m_token m_tokenAt m_open m_bad m_fault m_tokenWorth m_texts m_textSize m_parents m_prices = some o) : xt_M yX6_gathers cX6_gathers 4 none (d + 88) [.ref 0, .int p1, .int p2] (WM m_thrown m_textCount m_rule m_taped m_n m_minds m_lasts m_cutNow m_year m_ofNode m_ofDepth m_ofKids m_ofTwigs m_ofLast m_ofYear m_from m_size m_here m_token m_tokenAt m_open m_bad m_fault m_nKept m_mindsKept m_lastsKept m_cutKept m_yearKept m_ruleKept m_tokenWorth m_texts m_textSize m_tape m_parents m_kinds m_numbers m_odds m_yes m_no m_prices m_numbersKept m_oddsKept m_isThere m_sorts m_sheetSize m_items) (xt_Kv (WM m_thrown m_textCount m_rule m_taped m_n m_minds m_lasts m_cutNow m_year o.1 o.2.1 o.2.2.1 o.2.2.2.1 o.2.2.2.2.1 o.2.2.2.2.2.1 o.2.2.2.2.2.2.1 o.2.2.2.2.2.2.2.1 o.2.2.2.2.2.2.2.2.1 o.2.2.2.2.2.2.2.2.2.1 o.2.2.2.2.2.2.2.2.2.2.1 o.2.2.2.2.2.2.2.2.2.2.2.1 o.2.2.2.2.2.2.2.2.2.2.2.2.1 o.2.2.2.2.2.2.2.2.2.2.2.2.2.1 m_nKept m_mindsKept m_lastsKept m_cutKept m_yearKept m_ruleKept o.2.2.2.2.2.2.2.2.2.2.2.2.2.2.1 m_texts m_textSize m_tape m_parents m_kinds m_numbers m_odds m_yes m_no o.2.2.2.2.2.2.2.2.2.2.2.2.2.2.2 m_numbersKept m_oddsKept m_isThere m_sorts m_sheetSize m_items)) := by
  unfold sp_X6_gathers at hm
  refine xt_M.go (own := RX6) (lv := [some (.ref 0), some (.int p1), some (.int p2), none]) rfl rfl (Nat.le_of_ble_eq_true rfl) rfl ?_
  refine x_k eX6_gathers_0 ?_
  refine x_istore3 eX6_gathers_1 rfl ?_
  exact l_X6_gathers_2 _ hm
set_option maxRecDepth 4000 in
theorem l_X6_priceOf_4 {o : Int32} {u1 : Int32} {m_n : Int32} {m_prices : Nat → Int32} : ∀ (n : Nat) {u2 : Int32} {u3 : Int32}, sp_X6_priceOf_4 u1 m_n m_prices n u2 u3 = some o → xt_T RX6 cX6_priceOf 4 (some .int) (d + 0) (xt_Ki o (WM m_thrown m_textCount m_rule m_taped m_n m_minds m_lasts m_cutNow m_year m_ofNode m_ofDepth m_ofKids m_ofTwigs m_ofLast m_ofYear m_from m_size m_here m_token m_tokenAt m_open m_bad m_fault m_nKept m_mindsKept m_lastsKept m_cutKept m_yearKept m_ruleKept m_tokenWorth m_texts m_textSize m_tape m_parents m_kinds m_numbers m_odds m_yes m_no m_prices m_numbersKept m_oddsKept m_isThere m_sorts m_sheetSize m_items)) 4 [some (.ref 0), some (.int u1), some (.int u2), some (.int u3)] [] (WM m_thrown m_textCount m_rule m_taped m_n m_minds m_lasts m_cutNow m_year m_ofNode m_ofDepth m_ofKids m_ofTwigs m_ofLast m_ofYear m_from m_size m_here m_token m_tokenAt m_open m_bad m_fault m_nKept m_mindsKept m_lastsKept m_cutKept m_yearKept m_ruleKept m_tokenWorth m_texts m_textSize m_tape m_parents m_kinds m_numbers m_odds m_yes m_no m_prices m_numbersKept m_oddsKept m_isThere m_sorts m_sheetSize m_items) := by
  intro n
  induction n with
  | zero => intro u2 u3 hm; rw [sp_X6_priceOf_4] at hm; cases hm
  | succ n ih =>
    intro u2 u3 hm
    rw [sp_X6_priceOf_4] at hm
    refine x_iload3 eX6_priceOf_4 ?_
    refine x_aload0 eX6_priceOf_5 ?_
    refine x_get eX6_priceOf_6 fX6_23 rfl rfl ?_
    refine x_icmp_ge eX6_priceOf_9 (fun c => ?_) (fun c => ?_)
    · rw [if_pos c] at hm
      refine x_iload2 eX6_priceOf_33 ?_
      obtain rfl := Option.some.inj hm
      exact x_iret eX6_priceOf_34 ⟨rfl, rfl⟩
    · rw [if_neg c] at hm
      refine x_iload2 eX6_priceOf_12 ?_
      refine x_iload1 eX6_priceOf_13 ?_
      refine x_iload3 eX6_priceOf_14 ?_
      refine x_ishr eX6_priceOf_15 ?_
      refine x_k eX6_priceOf_16 ?_
      refine x_iand eX6_priceOf_17 ?_
      refine x_aload0 eX6_priceOf_18 ?_
      refine x_get eX6_priceOf_19 fX6_44 rfl rfl ?_
      refine x_iload3 eX6_priceOf_22 ?_
      obtain ⟨v1, hv, hm⟩ := xo_bind hm
      obtain ⟨hi, rfl⟩ := xo_at_some hv
      refine x_iaload eX6_priceOf_23 rfl hi ?_
      refine x_imul eX6_priceOf_24 ?_
      refine x_iadd eX6_priceOf_25 ?_
      refine x_istore2 eX6_priceOf_26 rfl ?_
      refine x_iinc3 eX6_priceOf_27 rfl ?_
      refine x_goto eX6_priceOf_30 ?_
      exact ih hm
set_option maxRecDepth 4000 in
theorem t_X6_priceOf {o : Int32} {p1 : Int32} (hm : sp_X6_priceOf p1 m_n m_prices = some o) : xt_M yX6_priceOf cX6_priceOf 4 (some .int) (d + 0) [.ref 0, .int p1] (WM m_thrown m_textCount m_rule m_taped m_n m_minds m_lasts m_cutNow m_year m_ofNode m_ofDepth m_ofKids m_ofTwigs m_ofLast m_ofYear m_from m_size m_here m_token m_tokenAt m_open m_bad m_fault m_nKept m_mindsKept m_lastsKept m_cutKept m_yearKept m_ruleKept m_tokenWorth m_texts m_textSize m_tape m_parents m_kinds m_numbers m_odds m_yes m_no m_prices m_numbersKept m_oddsKept m_isThere m_sorts m_sheetSize m_items) (xt_Ki o (WM m_thrown m_textCount m_rule m_taped m_n m_minds m_lasts m_cutNow m_year m_ofNode m_ofDepth m_ofKids m_ofTwigs m_ofLast m_ofYear m_from m_size m_here m_token m_tokenAt m_open m_bad m_fault m_nKept m_mindsKept m_lastsKept m_cutKept m_yearKept m_ruleKept m_tokenWorth m_texts m_textSize m_tape m_parents m_kinds m_numbers m_odds m_yes m_no m_prices m_numbersKept m_oddsKept m_isThere m_sorts m_sheetSize m_items)) := by
  unfold sp_X6_priceOf at hm
  refine xt_M.go (own := RX6) (lv := [some (.ref 0), some (.int p1), none, none]) rfl rfl (Nat.le_of_ble_eq_true rfl) rfl ?_
  refine x_k eX6_priceOf_0 ?_
  refine x_istore2 eX6_priceOf_1 rfl ?_
  refine x_k eX6_priceOf_2 ?_
  refine x_istore3 eX6_priceOf_3 rfl ?_
  exact l_X6_priceOf_4 _ hm
set_option maxRecDepth 4000 in
theorem l_X6_minds_62 {o : Int32 × Int32 × Int32 × Int32 × Int32 × Int32 × Int32 × Int32 × Int32 × Int32 × Int32 × Int32 × Int32 × Int32 × Int32 × Int64 × (Nat → Int32) × (Nat → Int32) × (Nat → Int32)} {u1 : Int32} {u2 : Int32} {u3 : Int32} {u4 : Int32} {m_n : Int32} {m_minds : Int32} {m_lasts : Int32} {m_cutNow : Int32} {m_parents : Nat → Int32} {m_kinds : Nat → Int32} {m_numbers : Nat → Int32} : ∀ (n : Nat) {u5 : Int32} {u6 : Int32} {m_ofNode : Int32} {m_ofDepth : Int32} {m_ofKids : Int32} {m_ofTwigs : Int32} {m_ofLast : Int32} {m_ofYear : Int32} {m_from : Int32} {m_size : Int32} {m_here : Int32} {m_token : Int32} {m_tokenAt : Int32} {m_open : Int32} {m_bad : Int32} {m_fault : Int32} {m_tokenWorth : Int64} {m_yes : Nat → Int32} {m_no : Nat → Int32} {m_prices : Nat → Int32}, sp_X6_minds_62 u1 u2 u3 u4 m_n m_minds m_lasts m_cutNow m_parents m_kinds m_numbers n u5 u6 m_ofNode m_ofDepth m_ofKids m_ofTwigs m_ofLast m_ofYear m_from m_size m_here m_token m_tokenAt m_open m_bad m_fault m_tokenWorth m_yes m_no m_prices = some o → xt_T RX6 cX6_minds 7 (some .int) (d + 89) (xt_Ki o.1 (WM m_thrown m_textCount m_rule m_taped m_n m_minds m_lasts m_cutNow m_year o.2.1 o.2.2.1 o.2.2.2.1 o.2.2.2.2.1 o.2.2.2.2.2.1 o.2.2.2.2.2.2.1 o.2.2.2.2.2.2.2.1 o.2.2.2.2.2.2.2.2.1 o.2.2.2.2.2.2.2.2.2.1 o.2.2.2.2.2.2.2.2.2.2.1 o.2.2.2.2.2.2.2.2.2.2.2.1 o.2.2.2.2.2.2.2.2.2.2.2.2.1 o.2.2.2.2.2.2.2.2.2.2.2.2.2.1 o.2.2.2.2.2.2.2.2.2.2.2.2.2.2.1 m_nKept m_mindsKept m_lastsKept m_cutKept m_yearKept m_ruleKept o.2.2.2.2.2.2.2.2.2.2.2.2.2.2.2.1 m_texts m_textSize m_tape m_parents m_kinds m_numbers m_odds o.2.2.2.2.2.2.2.2.2.2.2.2.2.2.2.2.1 o.2.2.2.2.2.2.2.2.2.2.2.2.2.2.2.2.2.1 o.2.2.2.2.2.2.2.2.2.2.2.2.2.2.2.2.2.2 m_numbersKept m_oddsKept m_isThere m_sorts m_sheetSize m_items)) 62 [some (.ref 0), some (.int u1), some (.int u2), some (.int u3), some (.int u4), some (.int u5), some (.int u6)] [] (WM m_thrown m_textCount m_rule m_taped m_n m_minds m_lasts m_cutNow m_year m_ofNode m_ofDepth m_ofKids m_ofTwigs m_ofLast m_ofYear m_from m_size m_here m_token m_tokenAt m_open m_bad m_fault m_nKept m_mindsKept m_lastsKept m_cutKept m_yearKept m_ruleKept m_tokenWorth m_texts m_textSize m_tape m_parents m_kinds m_numbers m_odds m_yes m_no m_prices m_numbersKept m_oddsKept m_isThere m_sorts m_sheetSize m_items) := by
  intro n
  induction n with
  | zero => intro u5 u6 m_ofNode m_ofDepth m_ofKids m_ofTwigs m_ofLast m_ofYear m_from m_size m_here m_token m_tokenAt m_open m_bad m_fault m_tokenWorth m_yes m_no m_prices hm; rw [sp_X6_minds_62] at hm; cases hm
  | succ n ih =>
    intro u5 u6 m_ofNode m_ofDepth m_ofKids m_ofTwigs m_ofLast m_ofYear m_from m_size m_here m_token m_tokenAt m_open m_bad m_fault m_tokenWorth m_yes m_no m_prices hm
    rw [sp_X6_minds_62] at hm
    refine x_iload6 eX6_minds_62 ?_
    refine x_k eX6_minds_64 ?_
    refine x_aload0 eX6_minds_65 ?_
    refine x_get eX6_minds_66 fX6_23 rfl rfl ?_
    refine x_ishl eX6_minds_69 ?_
    refine x_icmp_ge eX6_minds_70 (fun c => ?_) (fun c => ?_)
    · rw [if_pos c] at hm
      refine x_iload5 eX6_minds_153 ?_
      refine x_k eX6_minds_155 ?_
      refine x_icmp_eq eX6_minds_156 (fun c => ?_) (fun c => ?_)
      · rw [if_pos c] at hm
        refine x_iload5 eX6_minds_163 ?_
        refine x_goto eX6_minds_165 ?_
        obtain rfl := Option.some.inj hm
        exact x_iret eX6_minds_187 ⟨rfl, rfl⟩
      · rw [if_neg c] at hm
        refine x_iload3 eX6_minds_159 ?_
        refine x_if_ne eX6_minds_160 (fun c => ?_) (fun c => ?_)
        · rw [if_neg c] at hm
          refine x_iload3 eX6_minds_168 ?_
          refine x_k eX6_minds_169 ?_
          refine x_icmp_ne eX6_minds_170 (fun c => ?_) (fun c => ?_)
          · rw [if_neg c] at hm
            refine x_aload0 eX6_minds_181 ?_
            refine x_iload5 eX6_minds_182 ?_
            obtain ⟨r4, hr, hm⟩ := xo_bind hm
            refine x_Vi1 eX6_minds_184 kX6_priceOf mX6_275 (t_X6_priceOf hr) rfl (Nat.le_of_ble_eq_true rfl) ?_
            obtain rfl := Option.some.inj hm
            exact x_iret eX6_minds_187 ⟨rfl, rfl⟩
          · rw [if_pos c] at hm
            refine x_iload5 eX6_minds_173 ?_
            obtain ⟨r5, hr, hm⟩ := xo_bind hm
            refine x_Si1 eX6_minds_175 kX6_bitsOf mX6_265 (t_X6_bitsOf hr) (Nat.le_of_ble_eq_true rfl) ?_
            refine x_goto eX6_minds_178 ?_
            obtain rfl := Option.some.inj hm
            exact x_iret eX6_minds_187 ⟨rfl, rfl⟩
        · rw [if_pos c] at hm
          refine x_iload5 eX6_minds_163 ?_
          refine x_goto eX6_minds_165 ?_
          obtain rfl := Option.some.inj hm
          exact x_iret eX6_minds_187 ⟨rfl, rfl⟩
    · rw [if_neg c] at hm
      refine x_iload6 eX6_minds_73 ?_
      refine x_iload4 eX6_minds_75 ?_
      refine x_k eX6_minds_77 ?_
      refine x_ixor eX6_minds_78 ?_
      refine x_iand eX6_minds_79 ?_
      refine x_if_ne eX6_minds_80 (fun c => ?_) (fun c => ?_)
      · rw [if_neg c] at hm
        refine x_iinc6 eX6_minds_147 rfl ?_
        refine x_goto eX6_minds_150 ?_
        exact ih hm
      · rw [if_pos c] at hm
        refine x_aload0 eX6_minds_83 ?_
        refine x_aload0 eX6_minds_84 ?_
        refine x_get eX6_minds_85 fX6_104 rfl rfl ?_
        refine x_aload0 eX6_minds_88 ?_
        refine x_get eX6_minds_89 fX6_107 rfl rfl ?_
        refine x_iload6 eX6_minds_92 ?_
        refine x_ixor eX6_minds_94 ?_
        obtain ⟨r6, hr, hm⟩ := xo_bind hm
        refine x_Vi2 eX6_minds_95 kX6_lawOf mX6_110 (t_X6_lawOf hr) rfl (Nat.le_of_ble_eq_true rfl) ?_
        refine x_iload1 eX6_minds_98 ?_
        refine x_icmp_ne eX6_minds_99 (fun c => ?_) (fun c => ?_)
        · rw [if_neg c] at hm
          refine x_iinc6 eX6_minds_147 rfl ?_
          refine x_goto eX6_minds_150 ?_
          exact ih hm
        · rw [if_pos c] at hm
          refine x_iload5 eX6_minds_102 ?_
          refine x_k eX6_minds_104 ?_
          refine x_icmp_eq eX6_minds_105 (fun c => ?_) (fun c => ?_)
          · rw [if_pos c] at hm
            refine x_iload6 eX6_minds_143 ?_
            refine x_istore5 eX6_minds_145 rfl ?_
            refine x_iinc6 eX6_minds_147 rfl ?_
            refine x_goto eX6_minds_150 ?_
            exact ih hm
          · rw [if_neg c] at hm
            refine x_iload2 eX6_minds_108 ?_
            refine x_if_ne eX6_minds_109 (fun c => ?_) (fun c => ?_)
            · rw [if_neg c] at hm
              refine x_aload0 eX6_minds_128 ?_
              refine x_iload6 eX6_minds_129 ?_
              obtain ⟨r7, hr, hm⟩ := xo_bind hm
              refine x_Vi1 eX6_minds_131 kX6_priceOf mX6_275 (t_X6_priceOf hr) rfl (Nat.le_of_ble_eq_true rfl) ?_
              refine x_aload0 eX6_minds_134 ?_
              refine x_iload5 eX6_minds_135 ?_
              obtain ⟨r8, hr, hm⟩ := xo_bind hm
              refine x_Vi1 eX6_minds_137 kX6_priceOf mX6_275 (t_X6_priceOf hr) rfl (Nat.le_of_ble_eq_true rfl) ?_
              refine x_icmp_ge eX6_minds_140 (fun c => ?_) (fun c => ?_)
              · rw [if_pos c] at hm
                refine x_iinc6 eX6_minds_147 rfl ?_
                refine x_goto eX6_minds_150 ?_
                exact ih hm
              · rw [if_neg c] at hm
                refine x_iload6 eX6_minds_143 ?_
                refine x_istore5 eX6_minds_145 rfl ?_
                refine x_iinc6 eX6_minds_147 rfl ?_
                refine x_goto eX6_minds_150 ?_
                exact ih hm
            · rw [if_pos c] at hm
              refine x_iload6 eX6_minds_112 ?_
              obtain ⟨r9, hr, hm⟩ := xo_bind hm
              refine x_Si1 eX6_minds_114 kX6_bitsOf mX6_265 (t_X6_bitsOf hr) (Nat.le_of_ble_eq_true rfl) ?_
              refine x_iload5 eX6_minds_117 ?_
              obtain ⟨r10, hr, hm⟩ := xo_bind hm
              refine x_Si1 eX6_minds_119 kX6_bitsOf mX6_265 (t_X6_bitsOf hr) (Nat.le_of_ble_eq_true rfl) ?_
              refine x_icmp_ge eX6_minds_122 (fun c => ?_) (fun c => ?_)
              · rw [if_pos c] at hm
                refine x_iinc6 eX6_minds_147 rfl ?_
                refine x_goto eX6_minds_150 ?_
                exact ih hm
              · rw [if_neg c] at hm
                refine x_goto eX6_minds_125 ?_
                refine x_iload6 eX6_minds_143 ?_
                refine x_istore5 eX6_minds_145 rfl ?_
                refine x_iinc6 eX6_minds_147 rfl ?_
                refine x_goto eX6_minds_150 ?_
                exact ih hm
set_option maxRecDepth 4000 in
theorem t_X6_minds {o : Int32 × Int32 × Int32 × Int32 × Int32 × Int32 × Int32 × Int32 × Int32 × Int32 × Int32 × Int32 × Int32 × Int32 × Int32 × Int64 × (Nat → Int32) × (Nat → Int32) × (Nat → Int32)} {p1 : Int32} {p2 : Int32} {p3 : Int32} (hm : sp_X6_minds p1 p2 p3 m_rule m_n m_minds m_lasts m_cutNow m_year m_ofNode m_ofDepth m_ofKids m_ofTwigs m_ofLast m_ofYear m_from m_size m_here m_token m_tokenAt m_open m_bad m_fault m_tokenWorth m_texts m_textSize m_parents m_kinds m_numbers m_yes m_no m_prices = some o) : xt_M yX6_minds cX6_minds 7 (some .int) (d + 89) [.ref 0, .int p1, .int p2, .int p3] (WM m_thrown m_textCount m_rule m_taped m_n m_minds m_lasts m_cutNow m_year m_ofNode m_ofDepth m_ofKids m_ofTwigs m_ofLast m_ofYear m_from m_size m_here m_token m_tokenAt m_open m_bad m_fault m_nKept m_mindsKept m_lastsKept m_cutKept m_yearKept m_ruleKept m_tokenWorth m_texts m_textSize m_tape m_parents m_kinds m_numbers m_odds m_yes m_no m_prices m_numbersKept m_oddsKept m_isThere m_sorts m_sheetSize m_items) (xt_Ki o.1 (WM m_thrown m_textCount m_rule m_taped m_n m_minds m_lasts m_cutNow m_year o.2.1 o.2.2.1 o.2.2.2.1 o.2.2.2.2.1 o.2.2.2.2.2.1 o.2.2.2.2.2.2.1 o.2.2.2.2.2.2.2.1 o.2.2.2.2.2.2.2.2.1 o.2.2.2.2.2.2.2.2.2.1 o.2.2.2.2.2.2.2.2.2.2.1 o.2.2.2.2.2.2.2.2.2.2.2.1 o.2.2.2.2.2.2.2.2.2.2.2.2.1 o.2.2.2.2.2.2.2.2.2.2.2.2.2.1 o.2.2.2.2.2.2.2.2.2.2.2.2.2.2.1 m_nKept m_mindsKept m_lastsKept m_cutKept m_yearKept m_ruleKept o.2.2.2.2.2.2.2.2.2.2.2.2.2.2.2.1 m_texts m_textSize m_tape m_parents m_kinds m_numbers m_odds o.2.2.2.2.2.2.2.2.2.2.2.2.2.2.2.2.1 o.2.2.2.2.2.2.2.2.2.2.2.2.2.2.2.2.2.1 o.2.2.2.2.2.2.2.2.2.2.2.2.2.2.2.2.2.2 m_numbersKept m_oddsKept m_isThere m_sorts m_sheetSize m_items)) := by
  unfold sp_X6_minds at hm
  refine xt_M.go (own := RX6) (lv := [some (.ref 0), some (.int p1), some (.int p2), some (.int p3), none, none, none]) rfl rfl (Nat.le_of_ble_eq_true rfl) rfl ?_
  refine x_iload1 eX6_minds_0 ?_
  refine x_i2l eX6_minds_1 ?_
  refine x_lk eX6_minds_2 ?_
  refine x_lk eX6_minds_3 ?_
  refine x_Si3 eX6_minds_4 kX6_in mX6_76 (t_X6_in rfl) (Nat.le_of_ble_eq_true rfl) ?_
  refine x_if_eq eX6_minds_7 (fun c => ?_) (fun c => ?_)
  · rw [if_pos c] at hm
    refine x_k eX6_minds_32 ?_
    obtain rfl := Option.some.inj hm
    exact x_iret eX6_minds_34 ⟨rfl, rfl⟩
  · rw [if_neg c] at hm
    refine x_iload2 eX6_minds_10 ?_
    refine x_i2l eX6_minds_11 ?_
    refine x_lk eX6_minds_12 ?_
    refine x_lk eX6_minds_13 ?_
    refine x_Si3 eX6_minds_14 kX6_in mX6_76 (t_X6_in rfl) (Nat.le_of_ble_eq_true rfl) ?_
    refine x_if_eq eX6_minds_17 (fun c => ?_) (fun c => ?_)
    · rw [if_pos c] at hm
      refine x_k eX6_minds_32 ?_
      obtain rfl := Option.some.inj hm
      exact x_iret eX6_minds_34 ⟨rfl, rfl⟩
    · rw [if_neg c] at hm
      refine x_iload3 eX6_minds_20 ?_
      refine x_i2l eX6_minds_21 ?_
      refine x_lk eX6_minds_22 ?_
      refine x_ldc2 eX6_minds_23 cX6_260 ?_
      refine x_Si3 eX6_minds_26 kX6_in mX6_76 (t_X6_in rfl) (Nat.le_of_ble_eq_true rfl) ?_
      refine x_if_ne eX6_minds_29 (fun c => ?_) (fun c => ?_)
      · rw [if_neg c] at hm
        refine x_aload0 eX6_minds_35 ?_
        refine x_aload0 eX6_minds_36 ?_
        refine x_aload0 eX6_minds_37 ?_
        refine x_get eX6_minds_38 fX6_104 rfl rfl ?_
        obtain ⟨r1, hr, hm⟩ := xo_bind hm
        refine x_Vi1 eX6_minds_41 kX6_standing mX6_98 (t_X6_standing hr) rfl (Nat.le_of_ble_eq_true rfl) ?_
        obtain ⟨r2, hr, hm⟩ := xo_bind hm
        refine x_Vi1 eX6_minds_44 kX6_twigs mX6_268 (t_X6_twigs hr) rfl (Nat.le_of_ble_eq_true rfl) ?_
        refine x_istore4 eX6_minds_47 rfl ?_
        refine x_aload0 eX6_minds_49 ?_
        refine x_k eX6_minds_50 ?_
        refine x_iload4 eX6_minds_51 ?_
        obtain ⟨r3, hr, hm⟩ := xo_bind hm
        refine x_Vv2 eX6_minds_53 kX6_gathers mX6_271 (t_X6_gathers hr) rfl (Nat.le_of_ble_eq_true rfl) ?_
        refine x_k eX6_minds_56 ?_
        refine x_istore5 eX6_minds_57 rfl ?_
        refine x_k eX6_minds_59 ?_
        refine x_istore6 eX6_minds_60 rfl ?_
        exact l_X6_minds_62 _ hm
      · rw [if_pos c] at hm
        refine x_k eX6_minds_32 ?_
        obtain rfl := Option.some.inj hm
        exact x_iret eX6_minds_34 ⟨rfl, rfl⟩
set_option maxRecDepth 4000 in
theorem l_X6_cuts_58 {o : Int32 × Int32 × Int32 × Int32 × Int32 × Int32 × Int32 × Int32 × Int32 × Int32 × Int32 × Int32 × Int32 × Int32 × Int32 × Int64 × (Nat → Int32) × (Nat → Int32) × (Nat → Int32)} {u1 : Int32} {u2 : Int32} {u3 : Int32} {u4 : Int32} {m_n : Int32} {m_minds : Int32} {m_lasts : Int32} {m_cutNow : Int32} {m_parents : Nat → Int32} {m_kinds : Nat → Int32} {m_numbers : Nat → Int32} : ∀ (n : Nat) {u5 : Int32} {u6 : Int32} {m_ofNode : Int32} {m_ofDepth : Int32} {m_ofKids : Int32} {m_ofTwigs : Int32} {m_ofLast : Int32} {m_ofYear : Int32} {m_from : Int32} {m_size : Int32} {m_here : Int32} {m_token : Int32} {m_tokenAt : Int32} {m_open : Int32} {m_bad : Int32} {m_fault : Int32} {m_tokenWorth : Int64} {m_yes : Nat → Int32} {m_no : Nat → Int32} {m_prices : Nat → Int32}, sp_X6_cuts_58 u1 u2 u3 u4 m_n m_minds m_lasts m_cutNow m_parents m_kinds m_numbers n u5 u6 m_ofNode m_ofDepth m_ofKids m_ofTwigs m_ofLast m_ofYear m_from m_size m_here m_token m_tokenAt m_open m_bad m_fault m_tokenWorth m_yes m_no m_prices = some o → xt_T RX6 cX6_cuts 7 (some .int) (d + 89) (xt_Ki o.1 (WM m_thrown m_textCount m_rule m_taped m_n m_minds m_lasts m_cutNow m_year o.2.1 o.2.2.1 o.2.2.2.1 o.2.2.2.2.1 o.2.2.2.2.2.1 o.2.2.2.2.2.2.1 o.2.2.2.2.2.2.2.1 o.2.2.2.2.2.2.2.2.1 o.2.2.2.2.2.2.2.2.2.1 o.2.2.2.2.2.2.2.2.2.2.1 o.2.2.2.2.2.2.2.2.2.2.2.1 o.2.2.2.2.2.2.2.2.2.2.2.2.1 o.2.2.2.2.2.2.2.2.2.2.2.2.2.1 o.2.2.2.2.2.2.2.2.2.2.2.2.2.2.1 m_nKept m_mindsKept m_lastsKept m_cutKept m_yearKept m_ruleKept o.2.2.2.2.2.2.2.2.2.2.2.2.2.2.2.1 m_texts m_textSize m_tape m_parents m_kinds m_numbers m_odds o.2.2.2.2.2.2.2.2.2.2.2.2.2.2.2.2.1 o.2.2.2.2.2.2.2.2.2.2.2.2.2.2.2.2.2.1 o.2.2.2.2.2.2.2.2.2.2.2.2.2.2.2.2.2.2 m_numbersKept m_oddsKept m_isThere m_sorts m_sheetSize m_items)) 58 [some (.ref 0), some (.int u1), some (.int u2), some (.int u3), some (.int u4), some (.int u5), some (.int u6)] [] (WM m_thrown m_textCount m_rule m_taped m_n m_minds m_lasts m_cutNow m_year m_ofNode m_ofDepth m_ofKids m_ofTwigs m_ofLast m_ofYear m_from m_size m_here m_token m_tokenAt m_open m_bad m_fault m_nKept m_mindsKept m_lastsKept m_cutKept m_yearKept m_ruleKept m_tokenWorth m_texts m_textSize m_tape m_parents m_kinds m_numbers m_odds m_yes m_no m_prices m_numbersKept m_oddsKept m_isThere m_sorts m_sheetSize m_items) := by
  intro n
  induction n with
  | zero => intro u5 u6 m_ofNode m_ofDepth m_ofKids m_ofTwigs m_ofLast m_ofYear m_from m_size m_here m_token m_tokenAt m_open m_bad m_fault m_tokenWorth m_yes m_no m_prices hm; rw [sp_X6_cuts_58] at hm; cases hm
  | succ n ih =>
    intro u5 u6 m_ofNode m_ofDepth m_ofKids m_ofTwigs m_ofLast m_ofYear m_from m_size m_here m_token m_tokenAt m_open m_bad m_fault m_tokenWorth m_yes m_no m_prices hm
    rw [sp_X6_cuts_58] at hm
    refine x_iload6 eX6_cuts_58 ?_
    refine x_k eX6_cuts_60 ?_
    refine x_aload0 eX6_cuts_61 ?_
    refine x_get eX6_cuts_62 fX6_23 rfl rfl ?_
    refine x_ishl eX6_cuts_65 ?_
    refine x_icmp_ge eX6_cuts_66 (fun c => ?_) (fun c => ?_)
    · rw [if_pos c] at hm
      refine x_iload5 eX6_cuts_158 ?_
      refine x_k eX6_cuts_160 ?_
      refine x_icmp_eq eX6_cuts_161 (fun c => ?_) (fun c => ?_)
      · rw [if_pos c] at hm
        refine x_iload5 eX6_cuts_168 ?_
        refine x_goto eX6_cuts_170 ?_
        obtain rfl := Option.some.inj hm
        exact x_iret eX6_cuts_192 ⟨rfl, rfl⟩
      · rw [if_neg c] at hm
        refine x_iload3 eX6_cuts_164 ?_
        refine x_if_ne eX6_cuts_165 (fun c => ?_) (fun c => ?_)
        · rw [if_neg c] at hm
          refine x_iload3 eX6_cuts_173 ?_
          refine x_k eX6_cuts_174 ?_
          refine x_icmp_ne eX6_cuts_175 (fun c => ?_) (fun c => ?_)
          · rw [if_neg c] at hm
            refine x_aload0 eX6_cuts_186 ?_
            refine x_iload5 eX6_cuts_187 ?_
            obtain ⟨r3, hr, hm⟩ := xo_bind hm
            refine x_Vi1 eX6_cuts_189 kX6_priceOf mX6_275 (t_X6_priceOf hr) rfl (Nat.le_of_ble_eq_true rfl) ?_
            obtain rfl := Option.some.inj hm
            exact x_iret eX6_cuts_192 ⟨rfl, rfl⟩
          · rw [if_pos c] at hm
            refine x_iload5 eX6_cuts_178 ?_
            obtain ⟨r4, hr, hm⟩ := xo_bind hm
            refine x_Si1 eX6_cuts_180 kX6_bitsOf mX6_265 (t_X6_bitsOf hr) (Nat.le_of_ble_eq_true rfl) ?_
            refine x_goto eX6_cuts_183 ?_
            obtain rfl := Option.some.inj hm
            exact x_iret eX6_cuts_192 ⟨rfl, rfl⟩
        · rw [if_pos c] at hm
          refine x_iload5 eX6_cuts_168 ?_
          refine x_goto eX6_cuts_170 ?_
          obtain rfl := Option.some.inj hm
          exact x_iret eX6_cuts_192 ⟨rfl, rfl⟩
    · rw [if_neg c] at hm
      refine x_iload6 eX6_cuts_69 ?_
      refine x_iload4 eX6_cuts_71 ?_
      refine x_k eX6_cuts_73 ?_
      refine x_ixor eX6_cuts_74 ?_
      refine x_iand eX6_cuts_75 ?_
      refine x_if_ne eX6_cuts_76 (fun c => ?_) (fun c => ?_)
      · rw [if_neg c] at hm
        refine x_iinc6 eX6_cuts_152 rfl ?_
        refine x_goto eX6_cuts_155 ?_
        exact ih hm
      · rw [if_pos c] at hm
        refine x_aload0 eX6_cuts_79 ?_
        refine x_iload6 eX6_cuts_80 ?_
        obtain ⟨r5, hr, hm⟩ := xo_bind hm
        refine x_Vi1 eX6_cuts_82 kX6_areApart mX6_278 (t_X6_areApart hr) rfl (Nat.le_of_ble_eq_true rfl) ?_
        refine x_if_eq eX6_cuts_85 (fun c => ?_) (fun c => ?_)
        · rw [if_pos c] at hm
          refine x_iinc6 eX6_cuts_152 rfl ?_
          refine x_goto eX6_cuts_155 ?_
          exact ih hm
        · rw [if_neg c] at hm
          refine x_aload0 eX6_cuts_88 ?_
          refine x_aload0 eX6_cuts_89 ?_
          refine x_get eX6_cuts_90 fX6_104 rfl rfl ?_
          refine x_iload6 eX6_cuts_93 ?_
          refine x_ior eX6_cuts_95 ?_
          refine x_aload0 eX6_cuts_96 ?_
          refine x_get eX6_cuts_97 fX6_107 rfl rfl ?_
          obtain ⟨r6, hr, hm⟩ := xo_bind hm
          refine x_Vi2 eX6_cuts_100 kX6_lawOf mX6_110 (t_X6_lawOf hr) rfl (Nat.le_of_ble_eq_true rfl) ?_
          refine x_iload1 eX6_cuts_103 ?_
          refine x_icmp_ne eX6_cuts_104 (fun c => ?_) (fun c => ?_)
          · rw [if_neg c] at hm
            refine x_iinc6 eX6_cuts_152 rfl ?_
            refine x_goto eX6_cuts_155 ?_
            exact ih hm
          · rw [if_pos c] at hm
            refine x_iload5 eX6_cuts_107 ?_
            refine x_k eX6_cuts_109 ?_
            refine x_icmp_eq eX6_cuts_110 (fun c => ?_) (fun c => ?_)
            · rw [if_pos c] at hm
              refine x_iload6 eX6_cuts_148 ?_
              refine x_istore5 eX6_cuts_150 rfl ?_
              refine x_iinc6 eX6_cuts_152 rfl ?_
              refine x_goto eX6_cuts_155 ?_
              exact ih hm
            · rw [if_neg c] at hm
              refine x_iload2 eX6_cuts_113 ?_
              refine x_if_ne eX6_cuts_114 (fun c => ?_) (fun c => ?_)
              · rw [if_neg c] at hm
                refine x_aload0 eX6_cuts_133 ?_
                refine x_iload6 eX6_cuts_134 ?_
                obtain ⟨r7, hr, hm⟩ := xo_bind hm
                refine x_Vi1 eX6_cuts_136 kX6_priceOf mX6_275 (t_X6_priceOf hr) rfl (Nat.le_of_ble_eq_true rfl) ?_
                refine x_aload0 eX6_cuts_139 ?_
                refine x_iload5 eX6_cuts_140 ?_
                obtain ⟨r8, hr, hm⟩ := xo_bind hm
                refine x_Vi1 eX6_cuts_142 kX6_priceOf mX6_275 (t_X6_priceOf hr) rfl (Nat.le_of_ble_eq_true rfl) ?_
                refine x_icmp_ge eX6_cuts_145 (fun c => ?_) (fun c => ?_)
                · rw [if_pos c] at hm
                  refine x_iinc6 eX6_cuts_152 rfl ?_
                  refine x_goto eX6_cuts_155 ?_
                  exact ih hm
                · rw [if_neg c] at hm
                  refine x_iload6 eX6_cuts_148 ?_
                  refine x_istore5 eX6_cuts_150 rfl ?_
                  refine x_iinc6 eX6_cuts_152 rfl ?_
                  refine x_goto eX6_cuts_155 ?_
                  exact ih hm
              · rw [if_pos c] at hm
                refine x_iload6 eX6_cuts_117 ?_
                obtain ⟨r9, hr, hm⟩ := xo_bind hm
                refine x_Si1 eX6_cuts_119 kX6_bitsOf mX6_265 (t_X6_bitsOf hr) (Nat.le_of_ble_eq_true rfl) ?_
                refine x_iload5 eX6_cuts_122 ?_
                obtain ⟨r10, hr, hm⟩ := xo_bind hm
                refine x_Si1 eX6_cuts_124 kX6_bitsOf mX6_265 (t_X6_bitsOf hr) (Nat.le_of_ble_eq_true rfl) ?_
                refine x_icmp_ge eX6_cuts_127 (fun c => ?_) (fun c => ?_)
                · rw [if_pos c] at hm
                  refine x_iinc6 eX6_cuts_152 rfl ?_
                  refine x_goto eX6_cuts_155 ?_
                  exact ih hm
                · rw [if_neg c] at hm
                  refine x_goto eX6_cuts_130 ?_
                  refine x_iload6 eX6_cuts_148 ?_
                  refine x_istore5 eX6_cuts_150 rfl ?_
                  refine x_iinc6 eX6_cuts_152 rfl ?_
                  refine x_goto eX6_cuts_155 ?_
                  exact ih hm
set_option maxRecDepth 4000 in
theorem t_X6_cuts {o : Int32 × Int32 × Int32 × Int32 × Int32 × Int32 × Int32 × Int32 × Int32 × Int32 × Int32 × Int32 × Int32 × Int32 × Int32 × Int64 × (Nat → Int32) × (Nat → Int32) × (Nat → Int32)} {p1 : Int32} {p2 : Int32} {p3 : Int32} (hm : sp_X6_cuts p1 p2 p3 m_rule m_n m_minds m_lasts m_cutNow m_year m_ofNode m_ofDepth m_ofKids m_ofTwigs m_ofLast m_ofYear m_from m_size m_here m_token m_tokenAt m_open m_bad m_fault m_tokenWorth m_texts m_textSize m_parents m_kinds m_numbers m_yes m_no m_prices = some o) : xt_M yX6_cuts cX6_cuts 7 (some .int) (d + 89) [.ref 0, .int p1, .int p2, .int p3] (WM m_thrown m_textCount m_rule m_taped m_n m_minds m_lasts m_cutNow m_year m_ofNode m_ofDepth m_ofKids m_ofTwigs m_ofLast m_ofYear m_from m_size m_here m_token m_tokenAt m_open m_bad m_fault m_nKept m_mindsKept m_lastsKept m_cutKept m_yearKept m_ruleKept m_tokenWorth m_texts m_textSize m_tape m_parents m_kinds m_numbers m_odds m_yes m_no m_prices m_numbersKept m_oddsKept m_isThere m_sorts m_sheetSize m_items) (xt_Ki o.1 (WM m_thrown m_textCount m_rule m_taped m_n m_minds m_lasts m_cutNow m_year o.2.1 o.2.2.1 o.2.2.2.1 o.2.2.2.2.1 o.2.2.2.2.2.1 o.2.2.2.2.2.2.1 o.2.2.2.2.2.2.2.1 o.2.2.2.2.2.2.2.2.1 o.2.2.2.2.2.2.2.2.2.1 o.2.2.2.2.2.2.2.2.2.2.1 o.2.2.2.2.2.2.2.2.2.2.2.1 o.2.2.2.2.2.2.2.2.2.2.2.2.1 o.2.2.2.2.2.2.2.2.2.2.2.2.2.1 o.2.2.2.2.2.2.2.2.2.2.2.2.2.2.1 m_nKept m_mindsKept m_lastsKept m_cutKept m_yearKept m_ruleKept o.2.2.2.2.2.2.2.2.2.2.2.2.2.2.2.1 m_texts m_textSize m_tape m_parents m_kinds m_numbers m_odds o.2.2.2.2.2.2.2.2.2.2.2.2.2.2.2.2.1 o.2.2.2.2.2.2.2.2.2.2.2.2.2.2.2.2.2.1 o.2.2.2.2.2.2.2.2.2.2.2.2.2.2.2.2.2.2 m_numbersKept m_oddsKept m_isThere m_sorts m_sheetSize m_items)) := by
  unfold sp_X6_cuts at hm
  refine xt_M.go (own := RX6) (lv := [some (.ref 0), some (.int p1), some (.int p2), some (.int p3), none, none, none]) rfl rfl (Nat.le_of_ble_eq_true rfl) rfl ?_
  refine x_iload1 eX6_cuts_0 ?_
  refine x_i2l eX6_cuts_1 ?_
  refine x_lk eX6_cuts_2 ?_
  refine x_lk eX6_cuts_3 ?_
  refine x_Si3 eX6_cuts_4 kX6_in mX6_76 (t_X6_in rfl) (Nat.le_of_ble_eq_true rfl) ?_
  refine x_if_eq eX6_cuts_7 (fun c => ?_) (fun c => ?_)
  · rw [if_pos c] at hm
    refine x_k eX6_cuts_32 ?_
    obtain rfl := Option.some.inj hm
    exact x_iret eX6_cuts_34 ⟨rfl, rfl⟩
  · rw [if_neg c] at hm
    refine x_iload2 eX6_cuts_10 ?_
    refine x_i2l eX6_cuts_11 ?_
    refine x_lk eX6_cuts_12 ?_
    refine x_lk eX6_cuts_13 ?_
    refine x_Si3 eX6_cuts_14 kX6_in mX6_76 (t_X6_in rfl) (Nat.le_of_ble_eq_true rfl) ?_
    refine x_if_eq eX6_cuts_17 (fun c => ?_) (fun c => ?_)
    · rw [if_pos c] at hm
      refine x_k eX6_cuts_32 ?_
      obtain rfl := Option.some.inj hm
      exact x_iret eX6_cuts_34 ⟨rfl, rfl⟩
    · rw [if_neg c] at hm
      refine x_iload3 eX6_cuts_20 ?_
      refine x_i2l eX6_cuts_21 ?_
      refine x_lk eX6_cuts_22 ?_
      refine x_ldc2 eX6_cuts_23 cX6_260 ?_
      refine x_Si3 eX6_cuts_26 kX6_in mX6_76 (t_X6_in rfl) (Nat.le_of_ble_eq_true rfl) ?_
      refine x_if_ne eX6_cuts_29 (fun c => ?_) (fun c => ?_)
      · rw [if_neg c] at hm
        refine x_aload0 eX6_cuts_35 ?_
        refine x_aload0 eX6_cuts_36 ?_
        refine x_get eX6_cuts_37 fX6_104 rfl rfl ?_
        obtain ⟨r1, hr, hm⟩ := xo_bind hm
        refine x_Vi1 eX6_cuts_40 kX6_standing mX6_98 (t_X6_standing hr) rfl (Nat.le_of_ble_eq_true rfl) ?_
        refine x_istore4 eX6_cuts_43 rfl ?_
        refine x_aload0 eX6_cuts_45 ?_
        refine x_k eX6_cuts_46 ?_
        refine x_iload4 eX6_cuts_47 ?_
        obtain ⟨r2, hr, hm⟩ := xo_bind hm
        refine x_Vv2 eX6_cuts_49 kX6_gathers mX6_271 (t_X6_gathers hr) rfl (Nat.le_of_ble_eq_true rfl) ?_
        refine x_k eX6_cuts_52 ?_
        refine x_istore5 eX6_cuts_53 rfl ?_
        refine x_k eX6_cuts_55 ?_
        refine x_istore6 eX6_cuts_56 rfl ?_
        exact l_X6_cuts_58 _ hm
      · rw [if_pos c] at hm
        refine x_k eX6_cuts_32 ?_
        obtain rfl := Option.some.inj hm
        exact x_iret eX6_cuts_34 ⟨rfl, rfl⟩
set_option maxRecDepth 4000 in
theorem l_X6_boughs_13 {o : Int32} {u1 : Int32} {m_n : Int32} {m_parents : Nat → Int32} : ∀ (n : Nat) {u2 : Int32} {u3 : Int32}, sp_X6_boughs_13 u1 m_n m_parents n u2 u3 = some o → xt_T RX6 cX6_boughs 4 (some .int) (d + 1) (xt_Ki o (WM m_thrown m_textCount m_rule m_taped m_n m_minds m_lasts m_cutNow m_year m_ofNode m_ofDepth m_ofKids m_ofTwigs m_ofLast m_ofYear m_from m_size m_here m_token m_tokenAt m_open m_bad m_fault m_nKept m_mindsKept m_lastsKept m_cutKept m_yearKept m_ruleKept m_tokenWorth m_texts m_textSize m_tape m_parents m_kinds m_numbers m_odds m_yes m_no m_prices m_numbersKept m_oddsKept m_isThere m_sorts m_sheetSize m_items)) 13 [some (.ref 0), some (.int u1), some (.int u2), some (.int u3)] [] (WM m_thrown m_textCount m_rule m_taped m_n m_minds m_lasts m_cutNow m_year m_ofNode m_ofDepth m_ofKids m_ofTwigs m_ofLast m_ofYear m_from m_size m_here m_token m_tokenAt m_open m_bad m_fault m_nKept m_mindsKept m_lastsKept m_cutKept m_yearKept m_ruleKept m_tokenWorth m_texts m_textSize m_tape m_parents m_kinds m_numbers m_odds m_yes m_no m_prices m_numbersKept m_oddsKept m_isThere m_sorts m_sheetSize m_items) := by
  intro n
  induction n with
  | zero => intro u2 u3 hm; rw [sp_X6_boughs_13] at hm; cases hm
  | succ n ih =>
    intro u2 u3 hm
    rw [sp_X6_boughs_13] at hm
    refine x_iload3 eX6_boughs_13 ?_
    refine x_aload0 eX6_boughs_14 ?_
    refine x_get eX6_boughs_15 fX6_23 rfl rfl ?_
    refine x_icmp_ge eX6_boughs_18 (fun c => ?_) (fun c => ?_)
    · rw [if_pos c] at hm
      refine x_iload2 eX6_boughs_55 ?_
      obtain rfl := Option.some.inj hm
      exact x_iret eX6_boughs_56 ⟨rfl, rfl⟩
    · rw [if_neg c] at hm
      refine x_iload2 eX6_boughs_21 ?_
      refine x_aload0 eX6_boughs_22 ?_
      refine x_get eX6_boughs_23 fX6_26 rfl rfl ?_
      refine x_iload3 eX6_boughs_26 ?_
      obtain ⟨v2, hv, hm⟩ := xo_bind hm
      obtain ⟨hi, rfl⟩ := xo_at_some hv
      refine x_iaload eX6_boughs_27 rfl hi ?_
      refine x_if_ne eX6_boughs_28 (fun c => ?_) (fun c => ?_)
      · rw [if_neg c] at hm
        refine x_k eX6_boughs_44 ?_
        refine x_iload3 eX6_boughs_45 ?_
        refine x_ishl eX6_boughs_46 ?_
        refine x_ior eX6_boughs_47 ?_
        refine x_istore2 eX6_boughs_48 rfl ?_
        refine x_iinc3 eX6_boughs_49 rfl ?_
        refine x_goto eX6_boughs_52 ?_
        exact ih hm
      · rw [if_pos c] at hm
        refine x_iload1 eX6_boughs_31 ?_
        refine x_iload3 eX6_boughs_32 ?_
        refine x_ishr eX6_boughs_33 ?_
        refine x_k eX6_boughs_34 ?_
        refine x_iand eX6_boughs_35 ?_
        refine x_k eX6_boughs_36 ?_
        refine x_icmp_ne eX6_boughs_37 (fun c => ?_) (fun c => ?_)
        · rw [if_neg c] at hm
          refine x_k eX6_boughs_44 ?_
          refine x_iload3 eX6_boughs_45 ?_
          refine x_ishl eX6_boughs_46 ?_
          refine x_ior eX6_boughs_47 ?_
          refine x_istore2 eX6_boughs_48 rfl ?_
          refine x_iinc3 eX6_boughs_49 rfl ?_
          refine x_goto eX6_boughs_52 ?_
          exact ih hm
        · rw [if_pos c] at hm
          refine x_k eX6_boughs_40 ?_
          refine x_goto eX6_boughs_41 ?_
          refine x_iload3 eX6_boughs_45 ?_
          refine x_ishl eX6_boughs_46 ?_
          refine x_ior eX6_boughs_47 ?_
          refine x_istore2 eX6_boughs_48 rfl ?_
          refine x_iinc3 eX6_boughs_49 rfl ?_
          refine x_goto eX6_boughs_52 ?_
          exact ih hm
set_option maxRecDepth 4000 in
theorem t_X6_boughs {o : Int32}  (hm : sp_X6_boughs m_n m_cutNow m_parents = some o) : xt_M yX6_boughs cX6_boughs 4 (some .int) (d + 1) [.ref 0] (WM m_thrown m_textCount m_rule m_taped m_n m_minds m_lasts m_cutNow m_year m_ofNode m_ofDepth m_ofKids m_ofTwigs m_ofLast m_ofYear m_from m_size m_here m_token m_tokenAt m_open m_bad m_fault m_nKept m_mindsKept m_lastsKept m_cutKept m_yearKept m_ruleKept m_tokenWorth m_texts m_textSize m_tape m_parents m_kinds m_numbers m_odds m_yes m_no m_prices m_numbersKept m_oddsKept m_isThere m_sorts m_sheetSize m_items) (xt_Ki o (WM m_thrown m_textCount m_rule m_taped m_n m_minds m_lasts m_cutNow m_year m_ofNode m_ofDepth m_ofKids m_ofTwigs m_ofLast m_ofYear m_from m_size m_here m_token m_tokenAt m_open m_bad m_fault m_nKept m_mindsKept m_lastsKept m_cutKept m_yearKept m_ruleKept m_tokenWorth m_texts m_textSize m_tape m_parents m_kinds m_numbers m_odds m_yes m_no m_prices m_numbersKept m_oddsKept m_isThere m_sorts m_sheetSize m_items)) := by
  unfold sp_X6_boughs at hm
  refine xt_M.go (own := RX6) (lv := [some (.ref 0), none, none, none]) rfl rfl (Nat.le_of_ble_eq_true rfl) rfl ?_
  refine x_aload0 eX6_boughs_0 ?_
  refine x_aload0 eX6_boughs_1 ?_
  refine x_get eX6_boughs_2 fX6_104 rfl rfl ?_
  obtain ⟨r1, hr, hm⟩ := xo_bind hm
  refine x_Vi1 eX6_boughs_5 kX6_standing mX6_98 (t_X6_standing hr) rfl (Nat.le_of_ble_eq_true rfl) ?_
  refine x_istore1 eX6_boughs_8 rfl ?_
  refine x_k eX6_boughs_9 ?_
  refine x_istore2 eX6_boughs_10 rfl ?_
  refine x_k eX6_boughs_11 ?_
  refine x_istore3 eX6_boughs_12 rfl ?_
  exact l_X6_boughs_13 _ hm
set_option maxRecDepth 4000 in
theorem l_X6_allBy_68 {o : Int64 × (Nat → Int32) × (Nat → Int32)} {u1 : Int32} {u2 : Int32} {u3 : Int32} {u4 : Int64} {u6 : Int32} {m_n : Int32} {m_lasts : Int32} {m_cutNow : Int32} {m_parents : Nat → Int32} {m_kinds : Nat → Int32} {m_numbers : Nat → Int32} {m_prices : Nat → Int32} {k : Int64 → Int32 → (Nat → Int32) → (Nat → Int32) → Option (Int64 × (Nat → Int32) × (Nat → Int32))} (hk : ∀ {u7 : Int64} {u9 : Int32} {m_yes : Nat → Int32} {m_no : Nat → Int32}, k u7 u9 m_yes m_no = some o → xt_T RX6 cX6_allBy 10 (some .long) (d + 4) (xt_Kl o.1 (WM m_thrown m_textCount m_rule m_taped m_n m_minds m_lasts m_cutNow m_year m_ofNode m_ofDepth m_ofKids m_ofTwigs m_ofLast m_ofYear m_from m_size m_here m_token m_tokenAt m_open m_bad m_fault m_nKept m_mindsKept m_lastsKept m_cutKept m_yearKept m_ruleKept m_tokenWorth m_texts m_textSize m_tape m_parents m_kinds m_numbers m_odds o.2.1 o.2.2 m_prices m_numbersKept m_oddsKept m_isThere m_sorts m_sheetSize m_items)) 131 [some (.ref 0), some (.int u1), some (.int u2), some (.int u3), some (.long u4), none, some (.int u6), some (.long u7), none, some (.int u9)] [] (WM m_thrown m_textCount m_rule m_taped m_n m_minds m_lasts m_cutNow m_year m_ofNode m_ofDepth m_ofKids m_ofTwigs m_ofLast m_ofYear m_from m_size m_here m_token m_tokenAt m_open m_bad m_fault m_nKept m_mindsKept m_lastsKept m_cutKept m_yearKept m_ruleKept m_tokenWorth m_texts m_textSize m_tape m_parents m_kinds m_numbers m_odds m_yes m_no m_prices m_numbersKept m_oddsKept m_isThere m_sorts m_sheetSize m_items)) : ∀ (n : Nat) {u7 : Int64} {u9 : Int32} {m_yes : Nat → Int32} {m_no : Nat → Int32}, sp_X6_allBy_68 k u1 u2 u3 u4 u6 m_n m_lasts m_cutNow m_parents m_kinds m_numbers m_prices n u7 u9 m_yes m_no = some o → xt_T RX6 cX6_allBy 10 (some .long) (d + 4) (xt_Kl o.1 (WM m_thrown m_textCount m_rule m_taped m_n m_minds m_lasts m_cutNow m_year m_ofNode m_ofDepth m_ofKids m_ofTwigs m_ofLast m_ofYear m_from m_size m_here m_token m_tokenAt m_open m_bad m_fault m_nKept m_mindsKept m_lastsKept m_cutKept m_yearKept m_ruleKept m_tokenWorth m_texts m_textSize m_tape m_parents m_kinds m_numbers m_odds o.2.1 o.2.2 m_prices m_numbersKept m_oddsKept m_isThere m_sorts m_sheetSize m_items)) 68 [some (.ref 0), some (.int u1), some (.int u2), some (.int u3), some (.long u4), none, some (.int u6), some (.long u7), none, some (.int u9)] [] (WM m_thrown m_textCount m_rule m_taped m_n m_minds m_lasts m_cutNow m_year m_ofNode m_ofDepth m_ofKids m_ofTwigs m_ofLast m_ofYear m_from m_size m_here m_token m_tokenAt m_open m_bad m_fault m_nKept m_mindsKept m_lastsKept m_cutKept m_yearKept m_ruleKept m_tokenWorth m_texts m_textSize m_tape m_parents m_kinds m_numbers m_odds m_yes m_no m_prices m_numbersKept m_oddsKept m_isThere m_sorts m_sheetSize m_items) := by
  intro n
  induction n with
  | zero => intro u7 u9 m_yes m_no hm; rw [sp_X6_allBy_68] at hm; cases hm
  | succ n ih =>
    intro u7 u9 m_yes m_no hm
    rw [sp_X6_allBy_68] at hm
    refine x_iload9 eX6_allBy_68 ?_
    refine x_aload0 eX6_allBy_70 ?_
    refine x_get eX6_allBy_71 fX6_23 rfl rfl ?_
    refine x_icmp_ge eX6_allBy_74 (fun c => ?_) (fun c => ?_)
    · rw [if_pos c] at hm
      exact hk hm
    · rw [if_neg c] at hm
      refine x_iload1 eX6_allBy_77 ?_
      refine x_iload9 eX6_allBy_78 ?_
      refine x_ishr eX6_allBy_80 ?_
      refine x_k eX6_allBy_81 ?_
      refine x_iand eX6_allBy_82 ?_
      refine x_k eX6_allBy_83 ?_
      refine x_icmp_ne eX6_allBy_84 (fun c => ?_) (fun c => ?_)
      · rw [if_neg c] at hm
        refine x_iinc9 eX6_allBy_125 rfl ?_
        refine x_goto eX6_allBy_128 ?_
        exact ih hm
      · rw [if_pos c] at hm
        refine x_lload7 eX6_allBy_87 ?_
        refine x_iload6 eX6_allBy_89 ?_
        refine x_iload9 eX6_allBy_91 ?_
        refine x_ishr eX6_allBy_93 ?_
        refine x_k eX6_allBy_94 ?_
        refine x_iand eX6_allBy_95 ?_
        refine x_k eX6_allBy_96 ?_
        refine x_icmp_ne eX6_allBy_97 (fun c => ?_) (fun c => ?_)
        · rw [if_neg c] at hm
          refine x_k eX6_allBy_111 ?_
          refine x_aload0 eX6_allBy_113 ?_
          refine x_get eX6_allBy_114 fX6_44 rfl rfl ?_
          refine x_iload9 eX6_allBy_117 ?_
          obtain ⟨v2, hv, hm⟩ := xo_bind hm
          obtain ⟨hi, rfl⟩ := xo_at_some hv
          refine x_iaload eX6_allBy_119 rfl hi ?_
          refine x_isub eX6_allBy_120 ?_
          refine x_i2l eX6_allBy_121 ?_
          refine x_lmul eX6_allBy_122 ?_
          refine x_lstore7 eX6_allBy_123 rfl ?_
          refine x_iinc9 eX6_allBy_125 rfl ?_
          refine x_goto eX6_allBy_128 ?_
          exact ih hm
        · rw [if_pos c] at hm
          refine x_aload0 eX6_allBy_100 ?_
          refine x_get eX6_allBy_101 fX6_44 rfl rfl ?_
          refine x_iload9 eX6_allBy_104 ?_
          obtain ⟨v3, hv, hm⟩ := xo_bind hm
          obtain ⟨hi, rfl⟩ := xo_at_some hv
          refine x_iaload eX6_allBy_106 rfl hi ?_
          refine x_i2l eX6_allBy_107 ?_
          refine x_goto eX6_allBy_108 ?_
          refine x_lmul eX6_allBy_122 ?_
          refine x_lstore7 eX6_allBy_123 rfl ?_
          refine x_iinc9 eX6_allBy_125 rfl ?_
          refine x_goto eX6_allBy_128 ?_
          exact ih hm
set_option maxRecDepth 4000 in
theorem l_X6_allBy_6 {o : Int64 × (Nat → Int32) × (Nat → Int32)} {u1 : Int32} {u2 : Int32} {u3 : Int32} {m_n : Int32} {m_minds : Int32} {m_lasts : Int32} {m_cutNow : Int32} {m_parents : Nat → Int32} {m_kinds : Nat → Int32} {m_numbers : Nat → Int32} {m_prices : Nat → Int32} : ∀ (n : Nat) {u4 : Int64} {u6 : Int32} {m_yes : Nat → Int32} {m_no : Nat → Int32}, sp_X6_allBy_6 u1 u2 u3 m_n m_minds m_lasts m_cutNow m_parents m_kinds m_numbers m_prices n u4 u6 m_yes m_no = some o → xt_T RX6 cX6_allBy 10 (some .long) (d + 4) (xt_Kl o.1 (WM m_thrown m_textCount m_rule m_taped m_n m_minds m_lasts m_cutNow m_year m_ofNode m_ofDepth m_ofKids m_ofTwigs m_ofLast m_ofYear m_from m_size m_here m_token m_tokenAt m_open m_bad m_fault m_nKept m_mindsKept m_lastsKept m_cutKept m_yearKept m_ruleKept m_tokenWorth m_texts m_textSize m_tape m_parents m_kinds m_numbers m_odds o.2.1 o.2.2 m_prices m_numbersKept m_oddsKept m_isThere m_sorts m_sheetSize m_items)) 6 [some (.ref 0), some (.int u1), some (.int u2), some (.int u3), some (.long u4), none, some (.int u6), none, none, none] [] (WM m_thrown m_textCount m_rule m_taped m_n m_minds m_lasts m_cutNow m_year m_ofNode m_ofDepth m_ofKids m_ofTwigs m_ofLast m_ofYear m_from m_size m_here m_token m_tokenAt m_open m_bad m_fault m_nKept m_mindsKept m_lastsKept m_cutKept m_yearKept m_ruleKept m_tokenWorth m_texts m_textSize m_tape m_parents m_kinds m_numbers m_odds m_yes m_no m_prices m_numbersKept m_oddsKept m_isThere m_sorts m_sheetSize m_items) := by
  intro n
  induction n with
  | zero => intro u4 u6 m_yes m_no hm; rw [sp_X6_allBy_6] at hm; cases hm
  | succ n ih =>
    intro u4 u6 m_yes m_no hm
    rw [sp_X6_allBy_6] at hm
    refine x_iload6 eX6_allBy_6 ?_
    refine x_k eX6_allBy_8 ?_
    refine x_aload0 eX6_allBy_9 ?_
    refine x_get eX6_allBy_10 fX6_23 rfl rfl ?_
    refine x_ishl eX6_allBy_13 ?_
    refine x_icmp_ge eX6_allBy_14 (fun c => ?_) (fun c => ?_)
    · rw [if_pos c] at hm
      refine x_lload4 eX6_allBy_144 ?_
      obtain rfl := Option.some.inj hm
      exact x_lret eX6_allBy_146 ⟨rfl, rfl⟩
    · rw [if_neg c] at hm
      refine x_iload6 eX6_allBy_17 ?_
      refine x_iload1 eX6_allBy_19 ?_
      refine x_k eX6_allBy_20 ?_
      refine x_ixor eX6_allBy_21 ?_
      refine x_iand eX6_allBy_22 ?_
      refine x_if_ne eX6_allBy_23 (fun c => ?_) (fun c => ?_)
      · rw [if_neg c] at hm
        refine x_iinc6 eX6_allBy_138 rfl ?_
        refine x_goto eX6_allBy_141 ?_
        exact ih hm
      · rw [if_pos c] at hm
        refine x_iload2 eX6_allBy_26 ?_
        refine x_if_eq eX6_allBy_27 (fun c => ?_) (fun c => ?_)
        · rw [if_pos c] at hm
          refine x_aload0 eX6_allBy_48 ?_
          refine x_aload0 eX6_allBy_49 ?_
          refine x_get eX6_allBy_50 fX6_104 rfl rfl ?_
          refine x_iload6 eX6_allBy_53 ?_
          obtain ⟨r1, hr, hm⟩ := xo_bind hm
          refine x_Vi2 eX6_allBy_55 kX6_lawOf mX6_110 (t_X6_lawOf hr) rfl (Nat.le_of_ble_eq_true rfl) ?_
          refine x_iload3 eX6_allBy_58 ?_
          refine x_icmp_ne eX6_allBy_59 (fun c => ?_) (fun c => ?_)
          · rw [if_neg c] at hm
            refine x_iinc6 eX6_allBy_138 rfl ?_
            refine x_goto eX6_allBy_141 ?_
            exact ih hm
          · rw [if_pos c] at hm
            refine x_lk eX6_allBy_62 ?_
            refine x_lstore7 eX6_allBy_63 rfl ?_
            refine x_k eX6_allBy_65 ?_
            refine x_istore9 eX6_allBy_66 rfl ?_
            refine l_X6_allBy_68 (fun {u7 u9 m_yes m_no} hm => ?_) _ hm
            refine x_lload4 eX6_allBy_131 ?_
            refine x_lload7 eX6_allBy_133 ?_
            refine x_ladd eX6_allBy_135 ?_
            refine x_lstore4 eX6_allBy_136 rfl ?_
            refine x_iinc6 eX6_allBy_138 rfl ?_
            refine x_goto eX6_allBy_141 ?_
            exact x_weak (by simp [xt_le]) (ih hm)
        · rw [if_neg c] at hm
          refine x_aload0 eX6_allBy_30 ?_
          refine x_aload0 eX6_allBy_31 ?_
          refine x_get eX6_allBy_32 fX6_104 rfl rfl ?_
          refine x_iload6 eX6_allBy_35 ?_
          refine x_ior eX6_allBy_37 ?_
          refine x_aload0 eX6_allBy_38 ?_
          refine x_get eX6_allBy_39 fX6_107 rfl rfl ?_
          obtain ⟨r4, hr, hm⟩ := xo_bind hm
          refine x_Vi2 eX6_allBy_42 kX6_lawOf mX6_110 (t_X6_lawOf hr) rfl (Nat.le_of_ble_eq_true rfl) ?_
          refine x_goto eX6_allBy_45 ?_
          refine x_iload3 eX6_allBy_58 ?_
          refine x_icmp_ne eX6_allBy_59 (fun c => ?_) (fun c => ?_)
          · rw [if_neg c] at hm
            refine x_iinc6 eX6_allBy_138 rfl ?_
            refine x_goto eX6_allBy_141 ?_
            exact ih hm
          · rw [if_pos c] at hm
            refine x_lk eX6_allBy_62 ?_
            refine x_lstore7 eX6_allBy_63 rfl ?_
            refine x_k eX6_allBy_65 ?_
            refine x_istore9 eX6_allBy_66 rfl ?_
            refine l_X6_allBy_68 (fun {u7 u9 m_yes m_no} hm => ?_) _ hm
            refine x_lload4 eX6_allBy_131 ?_
            refine x_lload7 eX6_allBy_133 ?_
            refine x_ladd eX6_allBy_135 ?_
            refine x_lstore4 eX6_allBy_136 rfl ?_
            refine x_iinc6 eX6_allBy_138 rfl ?_
            refine x_goto eX6_allBy_141 ?_
            exact x_weak (by simp [xt_le]) (ih hm)
set_option maxRecDepth 4000 in
theorem t_X6_allBy {o : Int64 × (Nat → Int32) × (Nat → Int32)} {p1 : Int32} {p2 : Int32} {p3 : Int32} (hm : sp_X6_allBy p1 p2 p3 m_n m_minds m_lasts m_cutNow m_parents m_kinds m_numbers m_yes m_no m_prices = some o) : xt_M yX6_allBy cX6_allBy 10 (some .long) (d + 4) [.ref 0, .int p1, .int p2, .int p3] (WM m_thrown m_textCount m_rule m_taped m_n m_minds m_lasts m_cutNow m_year m_ofNode m_ofDepth m_ofKids m_ofTwigs m_ofLast m_ofYear m_from m_size m_here m_token m_tokenAt m_open m_bad m_fault m_nKept m_mindsKept m_lastsKept m_cutKept m_yearKept m_ruleKept m_tokenWorth m_texts m_textSize m_tape m_parents m_kinds m_numbers m_odds m_yes m_no m_prices m_numbersKept m_oddsKept m_isThere m_sorts m_sheetSize m_items) (xt_Kl o.1 (WM m_thrown m_textCount m_rule m_taped m_n m_minds m_lasts m_cutNow m_year m_ofNode m_ofDepth m_ofKids m_ofTwigs m_ofLast m_ofYear m_from m_size m_here m_token m_tokenAt m_open m_bad m_fault m_nKept m_mindsKept m_lastsKept m_cutKept m_yearKept m_ruleKept m_tokenWorth m_texts m_textSize m_tape m_parents m_kinds m_numbers m_odds o.2.1 o.2.2 m_prices m_numbersKept m_oddsKept m_isThere m_sorts m_sheetSize m_items)) := by
  unfold sp_X6_allBy at hm
  refine xt_M.go (own := RX6) (lv := [some (.ref 0), some (.int p1), some (.int p2), some (.int p3), none, none, none, none, none, none]) rfl rfl (Nat.le_of_ble_eq_true rfl) rfl ?_
  refine x_lk eX6_allBy_0 ?_
  refine x_lstore4 eX6_allBy_1 rfl ?_
  refine x_k eX6_allBy_3 ?_
  refine x_istore6 eX6_allBy_4 rfl ?_
  exact l_X6_allBy_6 _ hm
set_option maxRecDepth 4000 in
theorem l_X6_hundreds_4 {o : Int64} {u0 : Int32} : ∀ (n : Nat) {u1 : Int64} {u3 : Int32}, sp_X6_hundreds_4 u0 n u1 u3 = some o → xt_T RX6 cX6_hundreds 4 (some .long) (d + 0) (xt_Kl o (WM m_thrown m_textCount m_rule m_taped m_n m_minds m_lasts m_cutNow m_year m_ofNode m_ofDepth m_ofKids m_ofTwigs m_ofLast m_ofYear m_from m_size m_here m_token m_tokenAt m_open m_bad m_fault m_nKept m_mindsKept m_lastsKept m_cutKept m_yearKept m_ruleKept m_tokenWorth m_texts m_textSize m_tape m_parents m_kinds m_numbers m_odds m_yes m_no m_prices m_numbersKept m_oddsKept m_isThere m_sorts m_sheetSize m_items)) 4 [some (.int u0), some (.long u1), none, some (.int u3)] [] (WM m_thrown m_textCount m_rule m_taped m_n m_minds m_lasts m_cutNow m_year m_ofNode m_ofDepth m_ofKids m_ofTwigs m_ofLast m_ofYear m_from m_size m_here m_token m_tokenAt m_open m_bad m_fault m_nKept m_mindsKept m_lastsKept m_cutKept m_yearKept m_ruleKept m_tokenWorth m_texts m_textSize m_tape m_parents m_kinds m_numbers m_odds m_yes m_no m_prices m_numbersKept m_oddsKept m_isThere m_sorts m_sheetSize m_items) := by
  intro n
  induction n with
  | zero => intro u1 u3 hm; rw [sp_X6_hundreds_4] at hm; cases hm
  | succ n ih =>
    intro u1 u3 hm
    rw [sp_X6_hundreds_4] at hm
    refine x_iload3 eX6_hundreds_4 ?_
    refine x_iload0 eX6_hundreds_5 ?_
    refine x_icmp_ge eX6_hundreds_6 (fun c => ?_) (fun c => ?_)
    · rw [if_pos c] at hm
      refine x_lload1 eX6_hundreds_21 ?_
      obtain rfl := Option.some.inj hm
      exact x_lret eX6_hundreds_22 ⟨rfl, rfl⟩
    · rw [if_neg c] at hm
      refine x_lload1 eX6_hundreds_9 ?_
      refine x_ldc2 eX6_hundreds_10 cX6_125 ?_
      refine x_lmul eX6_hundreds_13 ?_
      refine x_lstore1 eX6_hundreds_14 rfl ?_
      refine x_iinc3 eX6_hundreds_15 rfl ?_
      refine x_goto eX6_hundreds_18 ?_
      exact ih hm
set_option maxRecDepth 4000 in
theorem t_X6_hundreds {o : Int64} {p1 : Int32} (hm : sp_X6_hundreds p1 = some o) : xt_M yX6_hundreds cX6_hundreds 4 (some .long) (d + 0) [.int p1] (WM m_thrown m_textCount m_rule m_taped m_n m_minds m_lasts m_cutNow m_year m_ofNode m_ofDepth m_ofKids m_ofTwigs m_ofLast m_ofYear m_from m_size m_here m_token m_tokenAt m_open m_bad m_fault m_nKept m_mindsKept m_lastsKept m_cutKept m_yearKept m_ruleKept m_tokenWorth m_texts m_textSize m_tape m_parents m_kinds m_numbers m_odds m_yes m_no m_prices m_numbersKept m_oddsKept m_isThere m_sorts m_sheetSize m_items) (xt_Kl o (WM m_thrown m_textCount m_rule m_taped m_n m_minds m_lasts m_cutNow m_year m_ofNode m_ofDepth m_ofKids m_ofTwigs m_ofLast m_ofYear m_from m_size m_here m_token m_tokenAt m_open m_bad m_fault m_nKept m_mindsKept m_lastsKept m_cutKept m_yearKept m_ruleKept m_tokenWorth m_texts m_textSize m_tape m_parents m_kinds m_numbers m_odds m_yes m_no m_prices m_numbersKept m_oddsKept m_isThere m_sorts m_sheetSize m_items)) := by
  unfold sp_X6_hundreds at hm
  refine xt_M.go (own := RX6) (lv := [some (.int p1), none, none, none]) rfl rfl (Nat.le_of_ble_eq_true rfl) rfl ?_
  refine x_lk eX6_hundreds_0 ?_
  refine x_lstore1 eX6_hundreds_1 rfl ?_
  refine x_k eX6_hundreds_2 ?_
  refine x_istore3 eX6_hundreds_3 rfl ?_
  exact l_X6_hundreds_4 _ hm
set_option maxRecDepth 4000 in
theorem l_X6_sure_70 {o : Int64 × Int32 × Int32 × Int32 × Int32 × Int32 × Int32 × Int32 × Int32 × Int32 × Int32 × Int32 × Int32 × Int32 × Int32 × Int64 × (Nat → Int32) × (Nat → Int32) × (Nat → Int32)} {u1 : Int32} {u2 : Int32} {u3 : Int32} {m_n : Int32} {m_minds : Int32} {m_lasts : Int32} {m_cutNow : Int32} {m_parents : Nat → Int32} {m_kinds : Nat → Int32} {m_numbers : Nat → Int32} {m_odds : Nat → Int32} : ∀ (n : Nat) {u4 : Int32} {m_ofNode : Int32} {m_ofDepth : Int32} {m_ofKids : Int32} {m_ofTwigs : Int32} {m_ofLast : Int32} {m_ofYear : Int32} {m_from : Int32} {m_size : Int32} {m_here : Int32} {m_token : Int32} {m_tokenAt : Int32} {m_open : Int32} {m_bad : Int32} {m_fault : Int32} {m_tokenWorth : Int64} {m_yes : Nat → Int32} {m_no : Nat → Int32} {m_prices : Nat → Int32}, sp_X6_sure_70 u1 u2 u3 m_n m_minds m_lasts m_cutNow m_parents m_kinds m_numbers m_odds n u4 m_ofNode m_ofDepth m_ofKids m_ofTwigs m_ofLast m_ofYear m_from m_size m_here m_token m_tokenAt m_open m_bad m_fault m_tokenWorth m_yes m_no m_prices = some o → xt_T RX6 cX6_sure 5 (some .long) (d + 89) (xt_Kl o.1 (WM m_thrown m_textCount m_rule m_taped m_n m_minds m_lasts m_cutNow m_year o.2.1 o.2.2.1 o.2.2.2.1 o.2.2.2.2.1 o.2.2.2.2.2.1 o.2.2.2.2.2.2.1 o.2.2.2.2.2.2.2.1 o.2.2.2.2.2.2.2.2.1 o.2.2.2.2.2.2.2.2.2.1 o.2.2.2.2.2.2.2.2.2.2.1 o.2.2.2.2.2.2.2.2.2.2.2.1 o.2.2.2.2.2.2.2.2.2.2.2.2.1 o.2.2.2.2.2.2.2.2.2.2.2.2.2.1 o.2.2.2.2.2.2.2.2.2.2.2.2.2.2.1 m_nKept m_mindsKept m_lastsKept m_cutKept m_yearKept m_ruleKept o.2.2.2.2.2.2.2.2.2.2.2.2.2.2.2.1 m_texts m_textSize m_tape m_parents m_kinds m_numbers m_odds o.2.2.2.2.2.2.2.2.2.2.2.2.2.2.2.2.1 o.2.2.2.2.2.2.2.2.2.2.2.2.2.2.2.2.2.1 o.2.2.2.2.2.2.2.2.2.2.2.2.2.2.2.2.2.2 m_numbersKept m_oddsKept m_isThere m_sorts m_sheetSize m_items)) 70 [some (.ref 0), some (.int u1), some (.int u2), some (.int u3), some (.int u4)] [] (WM m_thrown m_textCount m_rule m_taped m_n m_minds m_lasts m_cutNow m_year m_ofNode m_ofDepth m_ofKids m_ofTwigs m_ofLast m_ofYear m_from m_size m_here m_token m_tokenAt m_open m_bad m_fault m_nKept m_mindsKept m_lastsKept m_cutKept m_yearKept m_ruleKept m_tokenWorth m_texts m_textSize m_tape m_parents m_kinds m_numbers m_odds m_yes m_no m_prices m_numbersKept m_oddsKept m_isThere m_sorts m_sheetSize m_items) := by
  intro n
  induction n with
  | zero => intro u4 m_ofNode m_ofDepth m_ofKids m_ofTwigs m_ofLast m_ofYear m_from m_size m_here m_token m_tokenAt m_open m_bad m_fault m_tokenWorth m_yes m_no m_prices hm; rw [sp_X6_sure_70] at hm; cases hm
  | succ n ih =>
    intro u4 m_ofNode m_ofDepth m_ofKids m_ofTwigs m_ofLast m_ofYear m_from m_size m_here m_token m_tokenAt m_open m_bad m_fault m_tokenWorth m_yes m_no m_prices hm
    rw [sp_X6_sure_70] at hm
    refine x_iload4 eX6_sure_70 ?_
    refine x_aload0 eX6_sure_72 ?_
    refine x_get eX6_sure_73 fX6_23 rfl rfl ?_
    refine x_icmp_ge eX6_sure_76 (fun c => ?_) (fun c => ?_)
    · rw [if_pos c] at hm
      refine x_aload0 eX6_sure_103 ?_
      refine x_iload3 eX6_sure_104 ?_
      refine x_iload1 eX6_sure_105 ?_
      refine x_k eX6_sure_106 ?_
      refine x_icmp_ne eX6_sure_107 (fun c => ?_) (fun c => ?_)
      · rw [if_neg c] at hm
        refine x_k eX6_sure_114 ?_
        refine x_k eX6_sure_115 ?_
        obtain ⟨r4, hr, hm⟩ := xo_bind hm
        refine x_Vl3 eX6_sure_116 kX6_allBy mX6_289 (t_X6_allBy hr) rfl (Nat.le_of_ble_eq_true rfl) ?_
        refine x_iload3 eX6_sure_119 ?_
        obtain ⟨r5, hr, hm⟩ := xo_bind hm
        refine x_Si1 eX6_sure_120 kX6_bitsOf mX6_265 (t_X6_bitsOf hr) (Nat.le_of_ble_eq_true rfl) ?_
        obtain ⟨r6, hr, hm⟩ := xo_bind hm
        refine x_Sl1 eX6_sure_123 kX6_hundreds mX6_293 (t_X6_hundreds hr) (Nat.le_of_ble_eq_true rfl) ?_
        refine x_iload2 eX6_sure_126 ?_
        obtain ⟨r7, hr, hm⟩ := xo_bind hm
        refine x_Sl3 eX6_sure_127 kX6_lowest mX6_297 (t_X6_lowest hr) (Nat.le_of_ble_eq_true rfl) ?_
        obtain rfl := Option.some.inj hm
        exact x_lret eX6_sure_130 ⟨rfl, rfl⟩
      · rw [if_pos c] at hm
        refine x_k eX6_sure_110 ?_
        refine x_goto eX6_sure_111 ?_
        refine x_k eX6_sure_115 ?_
        obtain ⟨r8, hr, hm⟩ := xo_bind hm
        refine x_Vl3 eX6_sure_116 kX6_allBy mX6_289 (t_X6_allBy hr) rfl (Nat.le_of_ble_eq_true rfl) ?_
        refine x_iload3 eX6_sure_119 ?_
        obtain ⟨r9, hr, hm⟩ := xo_bind hm
        refine x_Si1 eX6_sure_120 kX6_bitsOf mX6_265 (t_X6_bitsOf hr) (Nat.le_of_ble_eq_true rfl) ?_
        obtain ⟨r10, hr, hm⟩ := xo_bind hm
        refine x_Sl1 eX6_sure_123 kX6_hundreds mX6_293 (t_X6_hundreds hr) (Nat.le_of_ble_eq_true rfl) ?_
        refine x_iload2 eX6_sure_126 ?_
        obtain ⟨r11, hr, hm⟩ := xo_bind hm
        refine x_Sl3 eX6_sure_127 kX6_lowest mX6_297 (t_X6_lowest hr) (Nat.le_of_ble_eq_true rfl) ?_
        obtain rfl := Option.some.inj hm
        exact x_lret eX6_sure_130 ⟨rfl, rfl⟩
    · rw [if_neg c] at hm
      refine x_iload1 eX6_sure_79 ?_
      refine x_if_ne eX6_sure_80 (fun c => ?_) (fun c => ?_)
      · rw [if_neg c] at hm
        refine x_aload0 eX6_sure_103 ?_
        refine x_iload3 eX6_sure_104 ?_
        refine x_iload1 eX6_sure_105 ?_
        refine x_k eX6_sure_106 ?_
        refine x_icmp_ne eX6_sure_107 (fun c => ?_) (fun c => ?_)
        · rw [if_neg c] at hm
          refine x_k eX6_sure_114 ?_
          refine x_k eX6_sure_115 ?_
          obtain ⟨r12, hr, hm⟩ := xo_bind hm
          refine x_Vl3 eX6_sure_116 kX6_allBy mX6_289 (t_X6_allBy hr) rfl (Nat.le_of_ble_eq_true rfl) ?_
          refine x_iload3 eX6_sure_119 ?_
          obtain ⟨r13, hr, hm⟩ := xo_bind hm
          refine x_Si1 eX6_sure_120 kX6_bitsOf mX6_265 (t_X6_bitsOf hr) (Nat.le_of_ble_eq_true rfl) ?_
          obtain ⟨r14, hr, hm⟩ := xo_bind hm
          refine x_Sl1 eX6_sure_123 kX6_hundreds mX6_293 (t_X6_hundreds hr) (Nat.le_of_ble_eq_true rfl) ?_
          refine x_iload2 eX6_sure_126 ?_
          obtain ⟨r15, hr, hm⟩ := xo_bind hm
          refine x_Sl3 eX6_sure_127 kX6_lowest mX6_297 (t_X6_lowest hr) (Nat.le_of_ble_eq_true rfl) ?_
          obtain rfl := Option.some.inj hm
          exact x_lret eX6_sure_130 ⟨rfl, rfl⟩
        · rw [if_pos c] at hm
          refine x_k eX6_sure_110 ?_
          refine x_goto eX6_sure_111 ?_
          refine x_k eX6_sure_115 ?_
          obtain ⟨r16, hr, hm⟩ := xo_bind hm
          refine x_Vl3 eX6_sure_116 kX6_allBy mX6_289 (t_X6_allBy hr) rfl (Nat.le_of_ble_eq_true rfl) ?_
          refine x_iload3 eX6_sure_119 ?_
          obtain ⟨r17, hr, hm⟩ := xo_bind hm
          refine x_Si1 eX6_sure_120 kX6_bitsOf mX6_265 (t_X6_bitsOf hr) (Nat.le_of_ble_eq_true rfl) ?_
          obtain ⟨r18, hr, hm⟩ := xo_bind hm
          refine x_Sl1 eX6_sure_123 kX6_hundreds mX6_293 (t_X6_hundreds hr) (Nat.le_of_ble_eq_true rfl) ?_
          refine x_iload2 eX6_sure_126 ?_
          obtain ⟨r19, hr, hm⟩ := xo_bind hm
          refine x_Sl3 eX6_sure_127 kX6_lowest mX6_297 (t_X6_lowest hr) (Nat.le_of_ble_eq_true rfl) ?_
          obtain rfl := Option.some.inj hm
          exact x_lret eX6_sure_130 ⟨rfl, rfl⟩
      · rw [if_pos c] at hm
        refine x_aload0 eX6_sure_83 ?_
        refine x_get eX6_sure_84 fX6_44 rfl rfl ?_
        refine x_iload4 eX6_sure_87 ?_
        refine x_aload0 eX6_sure_89 ?_
        refine x_get eX6_sure_90 fX6_35 rfl rfl ?_
        refine x_iload4 eX6_sure_93 ?_
        obtain ⟨v20, hv, hm⟩ := xo_bind hm
        obtain ⟨hi, rfl⟩ := xo_at_some hv
        refine x_iaload eX6_sure_95 rfl hi ?_
        obtain ⟨f21, hv, hm⟩ := xo_bind hm
        obtain ⟨hi, rfl⟩ := xo_set_some hv
        refine x_iastore (w' := WM _ _ _ _ _ _ _ _ _ _ _ _ _ _ _ _ _ _ _ _ _ _ _ _ _ _ _ _ _ _ _ _ _ _ _ _ _ _ _ _ _ _ _ _ _ _) eX6_sure_96 rfl hi rfl ?_
        refine x_iinc4 eX6_sure_97 rfl ?_
        refine x_goto eX6_sure_100 ?_
        exact ih hm
set_option maxRecDepth 4000 in
theorem t_X6_sure {o : Int64 × Int32 × Int32 × Int32 × Int32 × Int32 × Int32 × Int32 × Int32 × Int32 × Int32 × Int32 × Int32 × Int32 × Int32 × Int64 × (Nat → Int32) × (Nat → Int32) × (Nat → Int32)} {p1 : Int32} {p2 : Int32} (hm : sp_X6_sure p1 p2 m_rule m_n m_minds m_lasts m_cutNow m_year m_ofNode m_ofDepth m_ofKids m_ofTwigs m_ofLast m_ofYear m_from m_size m_here m_token m_tokenAt m_open m_bad m_fault m_tokenWorth m_texts m_textSize m_parents m_kinds m_numbers m_odds m_yes m_no m_prices = some o) : xt_M yX6_sure cX6_sure 5 (some .long) (d + 89) [.ref 0, .int p1, .int p2] (WM m_thrown m_textCount m_rule m_taped m_n m_minds m_lasts m_cutNow m_year m_ofNode m_ofDepth m_ofKids m_ofTwigs m_ofLast m_ofYear m_from m_size m_here m_token m_tokenAt m_open m_bad m_fault m_nKept m_mindsKept m_lastsKept m_cutKept m_yearKept m_ruleKept m_tokenWorth m_texts m_textSize m_tape m_parents m_kinds m_numbers m_odds m_yes m_no m_prices m_numbersKept m_oddsKept m_isThere m_sorts m_sheetSize m_items) (xt_Kl o.1 (WM m_thrown m_textCount m_rule m_taped m_n m_minds m_lasts m_cutNow m_year o.2.1 o.2.2.1 o.2.2.2.1 o.2.2.2.2.1 o.2.2.2.2.2.1 o.2.2.2.2.2.2.1 o.2.2.2.2.2.2.2.1 o.2.2.2.2.2.2.2.2.1 o.2.2.2.2.2.2.2.2.2.1 o.2.2.2.2.2.2.2.2.2.2.1 o.2.2.2.2.2.2.2.2.2.2.2.1 o.2.2.2.2.2.2.2.2.2.2.2.2.1 o.2.2.2.2.2.2.2.2.2.2.2.2.2.1 o.2.2.2.2.2.2.2.2.2.2.2.2.2.2.1 m_nKept m_mindsKept m_lastsKept m_cutKept m_yearKept m_ruleKept o.2.2.2.2.2.2.2.2.2.2.2.2.2.2.2.1 m_texts m_textSize m_tape m_parents m_kinds m_numbers m_odds o.2.2.2.2.2.2.2.2.2.2.2.2.2.2.2.2.1 o.2.2.2.2.2.2.2.2.2.2.2.2.2.2.2.2.2.1 o.2.2.2.2.2.2.2.2.2.2.2.2.2.2.2.2.2.2 m_numbersKept m_oddsKept m_isThere m_sorts m_sheetSize m_items)) := by
  unfold sp_X6_sure at hm
  refine xt_M.go (own := RX6) (lv := [some (.ref 0), some (.int p1), some (.int p2), none, none]) rfl rfl (Nat.le_of_ble_eq_true rfl) rfl ?_
  refine x_iload1 eX6_sure_0 ?_
  refine x_i2l eX6_sure_1 ?_
  refine x_lk eX6_sure_2 ?_
  refine x_lk eX6_sure_3 ?_
  refine x_Si3 eX6_sure_4 kX6_in mX6_76 (t_X6_in rfl) (Nat.le_of_ble_eq_true rfl) ?_
  refine x_if_eq eX6_sure_7 (fun c => ?_) (fun c => ?_)
  · rw [if_pos c] at hm
    refine x_ldc2 eX6_sure_20 cX6_284 ?_
    obtain rfl := Option.some.inj hm
    exact x_lret eX6_sure_23 ⟨rfl, rfl⟩
  · rw [if_neg c] at hm
    refine x_iload2 eX6_sure_10 ?_
    refine x_i2l eX6_sure_11 ?_
    refine x_lk eX6_sure_12 ?_
    refine x_lk eX6_sure_13 ?_
    refine x_Si3 eX6_sure_14 kX6_in mX6_76 (t_X6_in rfl) (Nat.le_of_ble_eq_true rfl) ?_
    refine x_if_ne eX6_sure_17 (fun c => ?_) (fun c => ?_)
    · rw [if_neg c] at hm
      refine x_iload1 eX6_sure_24 ?_
      refine x_if_ne eX6_sure_25 (fun c => ?_) (fun c => ?_)
      · rw [if_neg c] at hm
        refine x_aload0 eX6_sure_43 ?_
        obtain ⟨r1, hr, hm⟩ := xo_bind hm
        refine x_Vi0 eX6_sure_44 kX6_boughs mX6_286 (t_X6_boughs hr) rfl (Nat.le_of_ble_eq_true rfl) ?_
        refine x_istore3 eX6_sure_47 rfl ?_
        refine x_iload3 eX6_sure_48 ?_
        obtain ⟨r2, hr, hm⟩ := xo_bind hm
        refine x_Si1 eX6_sure_49 kX6_bitsOf mX6_265 (t_X6_bitsOf hr) (Nat.le_of_ble_eq_true rfl) ?_
        refine x_k eX6_sure_52 ?_
        refine x_icmp_le eX6_sure_54 (fun c => ?_) (fun c => ?_)
        · rw [if_pos c] at hm
          refine x_aload0 eX6_sure_61 ?_
          refine x_k eX6_sure_62 ?_
          refine x_iload3 eX6_sure_63 ?_
          obtain ⟨r3, hr, hm⟩ := xo_bind hm
          refine x_Vv2 eX6_sure_64 kX6_gathers mX6_271 (t_X6_gathers hr) rfl (Nat.le_of_ble_eq_true rfl) ?_
          refine x_k eX6_sure_67 ?_
          refine x_istore4 eX6_sure_68 rfl ?_
          exact l_X6_sure_70 _ hm
        · rw [if_neg c] at hm
          refine x_ldc2 eX6_sure_57 cX6_284 ?_
          obtain rfl := Option.some.inj hm
          exact x_lret eX6_sure_60 ⟨rfl, rfl⟩
      · rw [if_pos c] at hm
        refine x_aload0 eX6_sure_28 ?_
        refine x_aload0 eX6_sure_29 ?_
        refine x_aload0 eX6_sure_30 ?_
        refine x_get eX6_sure_31 fX6_104 rfl rfl ?_
        obtain ⟨r22, hr, hm⟩ := xo_bind hm
        refine x_Vi1 eX6_sure_34 kX6_standing mX6_98 (t_X6_standing hr) rfl (Nat.le_of_ble_eq_true rfl) ?_
        obtain ⟨r23, hr, hm⟩ := xo_bind hm
        refine x_Vi1 eX6_sure_37 kX6_twigs mX6_268 (t_X6_twigs hr) rfl (Nat.le_of_ble_eq_true rfl) ?_
        refine x_goto eX6_sure_40 ?_
        refine x_istore3 eX6_sure_47 rfl ?_
        refine x_iload3 eX6_sure_48 ?_
        obtain ⟨r24, hr, hm⟩ := xo_bind hm
        refine x_Si1 eX6_sure_49 kX6_bitsOf mX6_265 (t_X6_bitsOf hr) (Nat.le_of_ble_eq_true rfl) ?_
        refine x_k eX6_sure_52 ?_
        refine x_icmp_le eX6_sure_54 (fun c => ?_) (fun c => ?_)
        · rw [if_pos c] at hm
          refine x_aload0 eX6_sure_61 ?_
          refine x_k eX6_sure_62 ?_
          refine x_iload3 eX6_sure_63 ?_
          obtain ⟨r25, hr, hm⟩ := xo_bind hm
          refine x_Vv2 eX6_sure_64 kX6_gathers mX6_271 (t_X6_gathers hr) rfl (Nat.le_of_ble_eq_true rfl) ?_
          refine x_k eX6_sure_67 ?_
          refine x_istore4 eX6_sure_68 rfl ?_
          exact l_X6_sure_70 _ hm
        · rw [if_neg c] at hm
          refine x_ldc2 eX6_sure_57 cX6_284 ?_
          obtain rfl := Option.some.inj hm
          exact x_lret eX6_sure_60 ⟨rfl, rfl⟩
    · rw [if_pos c] at hm
      refine x_ldc2 eX6_sure_20 cX6_284 ?_
      obtain rfl := Option.some.inj hm
      exact x_lret eX6_sure_23 ⟨rfl, rfl⟩
set_option maxRecDepth 4000 in
theorem l_X6_prop_36 {o : Int32 × Int32 × Int32 × Int32 × Int32 × Int32 × Int32 × Int32 × Int32 × Int32 × Int32 × Int32 × Int32 × Int32 × Int32 × Int64 × (Nat → Int32) × (Nat → Int32) × (Nat → Int32)} {u1 : Int32} {u2 : Int32} {m_n : Int32} {m_minds : Int32} {m_lasts : Int32} {m_cutNow : Int32} {m_parents : Nat → Int32} {m_kinds : Nat → Int32} {m_numbers : Nat → Int32} : ∀ (n : Nat) {u3 : Int32} {u4 : Int64} {u6 : Int32} {m_ofNode : Int32} {m_ofDepth : Int32} {m_ofKids : Int32} {m_ofTwigs : Int32} {m_ofLast : Int32} {m_ofYear : Int32} {m_from : Int32} {m_size : Int32} {m_here : Int32} {m_token : Int32} {m_tokenAt : Int32} {m_open : Int32} {m_bad : Int32} {m_fault : Int32} {m_tokenWorth : Int64} {m_yes : Nat → Int32} {m_no : Nat → Int32} {m_prices : Nat → Int32}, sp_X6_prop_36 u1 u2 m_n m_minds m_lasts m_cutNow m_parents m_kinds m_numbers n u3 u4 u6 m_ofNode m_ofDepth m_ofKids m_ofTwigs m_ofLast m_ofYear m_from m_size m_here m_token m_tokenAt m_open m_bad m_fault m_tokenWorth m_yes m_no m_prices = some o → xt_T RX6 cX6_prop 10 (some .int) (d + 89) (xt_Ki o.1 (WM m_thrown m_textCount m_rule m_taped m_n m_minds m_lasts m_cutNow m_year o.2.1 o.2.2.1 o.2.2.2.1 o.2.2.2.2.1 o.2.2.2.2.2.1 o.2.2.2.2.2.2.1 o.2.2.2.2.2.2.2.1 o.2.2.2.2.2.2.2.2.1 o.2.2.2.2.2.2.2.2.2.1 o.2.2.2.2.2.2.2.2.2.2.1 o.2.2.2.2.2.2.2.2.2.2.2.1 o.2.2.2.2.2.2.2.2.2.2.2.2.1 o.2.2.2.2.2.2.2.2.2.2.2.2.2.1 o.2.2.2.2.2.2.2.2.2.2.2.2.2.2.1 m_nKept m_mindsKept m_lastsKept m_cutKept m_yearKept m_ruleKept o.2.2.2.2.2.2.2.2.2.2.2.2.2.2.2.1 m_texts m_textSize m_tape m_parents m_kinds m_numbers m_odds o.2.2.2.2.2.2.2.2.2.2.2.2.2.2.2.2.1 o.2.2.2.2.2.2.2.2.2.2.2.2.2.2.2.2.2.1 o.2.2.2.2.2.2.2.2.2.2.2.2.2.2.2.2.2.2 m_numbersKept m_oddsKept m_isThere m_sorts m_sheetSize m_items)) 36 [some (.ref 0), some (.int u1), some (.int u2), some (.int u3), some (.long u4), none, some (.int u6), none, none, none] [] (WM m_thrown m_textCount m_rule m_taped m_n m_minds m_lasts m_cutNow m_year m_ofNode m_ofDepth m_ofKids m_ofTwigs m_ofLast m_ofYear m_from m_size m_here m_token m_tokenAt m_open m_bad m_fault m_nKept m_mindsKept m_lastsKept m_cutKept m_yearKept m_ruleKept m_tokenWorth m_texts m_textSize m_tape m_parents m_kinds m_numbers m_odds m_yes m_no m_prices m_numbersKept m_oddsKept m_isThere m_sorts m_sheetSize m_items) := by
  intro n
  induction n with
  | zero => intro u3 u4 u6 m_ofNode m_ofDepth m_ofKids m_ofTwigs m_ofLast m_ofYear m_from m_size m_here m_token m_tokenAt m_open m_bad m_fault m_tokenWorth m_yes m_no m_prices hm; rw [sp_X6_prop_36] at hm; cases hm
  | succ n ih =>
    intro u3 u4 u6 m_ofNode m_ofDepth m_ofKids m_ofTwigs m_ofLast m_ofYear m_from m_size m_here m_token m_tokenAt m_open m_bad m_fault m_tokenWorth m_yes m_no m_prices hm
    rw [sp_X6_prop_36] at hm
    refine x_iload6 eX6_prop_36 ?_
    refine x_aload0 eX6_prop_38 ?_
    refine x_get eX6_prop_39 fX6_23 rfl rfl ?_
    refine x_icmp_ge eX6_prop_42 (fun c => ?_) (fun c => ?_)
    · rw [if_pos c] at hm
      refine x_iload3 eX6_prop_116 ?_
      obtain rfl := Option.some.inj hm
      exact x_iret eX6_prop_117 ⟨rfl, rfl⟩
    · rw [if_neg c] at hm
      refine x_iload1 eX6_prop_45 ?_
      refine x_iload6 eX6_prop_46 ?_
      refine x_ishr eX6_prop_48 ?_
      refine x_k eX6_prop_49 ?_
      refine x_iand eX6_prop_50 ?_
      refine x_k eX6_prop_51 ?_
      refine x_icmp_ne eX6_prop_52 (fun c => ?_) (fun c => ?_)
      · rw [if_neg c] at hm
        refine x_iinc6 eX6_prop_110 rfl ?_
        refine x_goto eX6_prop_113 ?_
        exact ih hm
      · rw [if_pos c] at hm
        refine x_aload0 eX6_prop_55 ?_
        refine x_get eX6_prop_56 fX6_44 rfl rfl ?_
        refine x_iload6 eX6_prop_59 ?_
        obtain ⟨v5, hv, hm⟩ := xo_bind hm
        obtain ⟨hi, rfl⟩ := xo_at_some hv
        refine x_iaload eX6_prop_61 rfl hi ?_
        refine x_istore7 eX6_prop_62 rfl ?_
        refine x_aload0 eX6_prop_64 ?_
        refine x_get eX6_prop_65 fX6_44 rfl rfl ?_
        refine x_iload6 eX6_prop_68 ?_
        refine x_k eX6_prop_70 ?_
        obtain ⟨f6, hv, hm⟩ := xo_bind hm
        obtain ⟨hi, rfl⟩ := xo_set_some hv
        refine x_iastore (w' := WM _ _ _ _ _ _ _ _ _ _ _ _ _ _ _ _ _ _ _ _ _ _ _ _ _ _ _ _ _ _ _ _ _ _ _ _ _ _ _ _ _ _ _ _ _ _) eX6_prop_71 rfl hi rfl ?_
        refine x_aload0 eX6_prop_72 ?_
        refine x_iload1 eX6_prop_73 ?_
        refine x_k eX6_prop_74 ?_
        refine x_iload2 eX6_prop_75 ?_
        obtain ⟨r7, hr, hm⟩ := xo_bind hm
        refine x_Vl3 eX6_prop_76 kX6_allBy mX6_289 (t_X6_allBy hr) rfl (Nat.le_of_ble_eq_true rfl) ?_
        refine x_lstore8 eX6_prop_79 rfl ?_
        refine x_aload0 eX6_prop_81 ?_
        refine x_get eX6_prop_82 fX6_44 rfl rfl ?_
        refine x_iload6 eX6_prop_85 ?_
        refine x_iload7 eX6_prop_87 ?_
        obtain ⟨f8, hv, hm⟩ := xo_bind hm
        obtain ⟨hi, rfl⟩ := xo_set_some hv
        refine x_iastore (w' := WM _ _ _ _ _ _ _ _ _ _ _ _ _ _ _ _ _ _ _ _ _ _ _ _ _ _ _ _ _ _ _ _ _ _ _ _ _ _ _ _ _ _ _ _ _ _) eX6_prop_89 rfl hi rfl ?_
        refine x_iload3 eX6_prop_90 ?_
        refine x_k eX6_prop_91 ?_
        refine x_icmp_eq eX6_prop_92 (fun c => ?_) (fun c => ?_)
        · rw [if_pos c] at hm
          refine x_iload6 eX6_prop_103 ?_
          refine x_istore3 eX6_prop_105 rfl ?_
          refine x_lload8 eX6_prop_106 ?_
          refine x_lstore4 eX6_prop_108 rfl ?_
          refine x_iinc6 eX6_prop_110 rfl ?_
          refine x_goto eX6_prop_113 ?_
          exact x_weak (by simp [xt_le]) (ih hm)
        · rw [if_neg c] at hm
          refine x_lload8 eX6_prop_95 ?_
          refine x_lload4 eX6_prop_97 ?_
          refine x_lcmp eX6_prop_99 ?_
          refine x_if_le eX6_prop_100 (fun c => ?_) (fun c => ?_)
          · rw [if_pos c] at hm
            refine x_iinc6 eX6_prop_110 rfl ?_
            refine x_goto eX6_prop_113 ?_
            exact x_weak (by simp [xt_le]) (ih hm)
          · rw [if_neg c] at hm
            refine x_iload6 eX6_prop_103 ?_
            refine x_istore3 eX6_prop_105 rfl ?_
            refine x_lload8 eX6_prop_106 ?_
            refine x_lstore4 eX6_prop_108 rfl ?_
            refine x_iinc6 eX6_prop_110 rfl ?_
            refine x_goto eX6_prop_113 ?_
            exact x_weak (by simp [xt_le]) (ih hm)
set_option maxRecDepth 4000 in
theorem t_X6_prop {o : Int32 × Int32 × Int32 × Int32 × Int32 × Int32 × Int32 × Int32 × Int32 × Int32 × Int32 × Int32 × Int32 × Int32 × Int32 × Int64 × (Nat → Int32) × (Nat → Int32) × (Nat → Int32)}  (hm : sp_X6_prop m_rule m_n m_minds m_lasts m_cutNow m_year m_ofNode m_ofDepth m_ofKids m_ofTwigs m_ofLast m_ofYear m_from m_size m_here m_token m_tokenAt m_open m_bad m_fault m_tokenWorth m_texts m_textSize m_parents m_kinds m_numbers m_yes m_no m_prices = some o) : xt_M yX6_prop cX6_prop 10 (some .int) (d + 89) [.ref 0] (WM m_thrown m_textCount m_rule m_taped m_n m_minds m_lasts m_cutNow m_year m_ofNode m_ofDepth m_ofKids m_ofTwigs m_ofLast m_ofYear m_from m_size m_here m_token m_tokenAt m_open m_bad m_fault m_nKept m_mindsKept m_lastsKept m_cutKept m_yearKept m_ruleKept m_tokenWorth m_texts m_textSize m_tape m_parents m_kinds m_numbers m_odds m_yes m_no m_prices m_numbersKept m_oddsKept m_isThere m_sorts m_sheetSize m_items) (xt_Ki o.1 (WM m_thrown m_textCount m_rule m_taped m_n m_minds m_lasts m_cutNow m_year o.2.1 o.2.2.1 o.2.2.2.1 o.2.2.2.2.1 o.2.2.2.2.2.1 o.2.2.2.2.2.2.1 o.2.2.2.2.2.2.2.1 o.2.2.2.2.2.2.2.2.1 o.2.2.2.2.2.2.2.2.2.1 o.2.2.2.2.2.2.2.2.2.2.1 o.2.2.2.2.2.2.2.2.2.2.2.1 o.2.2.2.2.2.2.2.2.2.2.2.2.1 o.2.2.2.2.2.2.2.2.2.2.2.2.2.1 o.2.2.2.2.2.2.2.2.2.2.2.2.2.2.1 m_nKept m_mindsKept m_lastsKept m_cutKept m_yearKept m_ruleKept o.2.2.2.2.2.2.2.2.2.2.2.2.2.2.2.1 m_texts m_textSize m_tape m_parents m_kinds m_numbers m_odds o.2.2.2.2.2.2.2.2.2.2.2.2.2.2.2.2.1 o.2.2.2.2.2.2.2.2.2.2.2.2.2.2.2.2.2.1 o.2.2.2.2.2.2.2.2.2.2.2.2.2.2.2.2.2.2 m_numbersKept m_oddsKept m_isThere m_sorts m_sheetSize m_items)) := by
  unfold sp_X6_prop at hm
  refine xt_M.go (own := RX6) (lv := [some (.ref 0), none, none, none, none, none, none, none, none, none]) rfl rfl (Nat.le_of_ble_eq_true rfl) rfl ?_
  refine x_aload0 eX6_prop_0 ?_
  obtain ⟨r1, hr, hm⟩ := xo_bind hm
  refine x_Vi0 eX6_prop_1 kX6_boughs mX6_286 (t_X6_boughs hr) rfl (Nat.le_of_ble_eq_true rfl) ?_
  refine x_istore1 eX6_prop_4 rfl ?_
  refine x_iload1 eX6_prop_5 ?_
  obtain ⟨r2, hr, hm⟩ := xo_bind hm
  refine x_Si1 eX6_prop_6 kX6_bitsOf mX6_265 (t_X6_bitsOf hr) (Nat.le_of_ble_eq_true rfl) ?_
  refine x_k eX6_prop_9 ?_
  refine x_icmp_le eX6_prop_11 (fun c => ?_) (fun c => ?_)
  · rw [if_pos c] at hm
    refine x_aload0 eX6_prop_17 ?_
    refine x_k eX6_prop_18 ?_
    refine x_iload1 eX6_prop_19 ?_
    obtain ⟨r3, hr, hm⟩ := xo_bind hm
    refine x_Vv2 eX6_prop_20 kX6_gathers mX6_271 (t_X6_gathers hr) rfl (Nat.le_of_ble_eq_true rfl) ?_
    refine x_aload0 eX6_prop_23 ?_
    obtain ⟨r4, hr, hm⟩ := xo_bind hm
    refine x_Vi0 eX6_prop_24 kX6_law mX6_301 (t_X6_law hr) rfl (Nat.le_of_ble_eq_true rfl) ?_
    refine x_istore2 eX6_prop_27 rfl ?_
    refine x_k eX6_prop_28 ?_
    refine x_istore3 eX6_prop_29 rfl ?_
    refine x_lk eX6_prop_30 ?_
    refine x_lstore4 eX6_prop_31 rfl ?_
    refine x_k eX6_prop_33 ?_
    refine x_istore6 eX6_prop_34 rfl ?_
    exact l_X6_prop_36 _ hm
  · rw [if_neg c] at hm
    refine x_k eX6_prop_14 ?_
    obtain rfl := Option.some.inj hm
    exact x_iret eX6_prop_16 ⟨rfl, rfl⟩
end S14
