theorem xt_M.go {y : MethodName} {cc : ByteArray} {nL : Nat} {ret : Option FieldType} {d : Nat} {as : List Value} {w : List xt_E} {K : Option Value → List xt_E → Prop} {lv : List (Option Value)} {own : String} (ho : y.cls = own) (hy : plainName own = true) (hn : (xt_lv as).length ≤ nL) (hlv : xt_lv as ++ List.replicate (nL - (xt_lv as).length) none = lv)
    (h : xt_T own cc nL ret d K 0 lv [] w) : xt_M y cc nL ret d as w K := by
  subst ho
  exact xt_M.of hy hn hlv h
theorem xt_T.imp {own : String} {cc : ByteArray} {nL : Nat} {ret : Option FieldType} {d : Nat} {Q Q' : Option Value → List xt_E → Prop} {pc : Nat} {lv : List (Option Value)} {st : List Value} {w : List xt_E} (e : Q = Q') (h : xt_T own cc nL ret d Q pc lv st w) : xt_T own cc nL ret d Q' pc lv st w := e ▸ h
/-- the class's world -/
def WX (o_size o_year o_gone o_minds o_lasts r_size r_token r_place r_at r_open r_made t_size t_rule i_there i_rule i_size i_year i_gone i_minds i_lasts : Int32) (o_parent o_kind o_number o_odds o_above o_kidCount o_lead r_tape r_steps r_ends t_steps t_ends t_stack s_sort s_size s_items i_number i_odds x_prices x_facts x_laws x_clues : Nat → Int32) : List xt_E :=
  [.inr (5, [.ref 1, .ref 9, .ref 13, .ref 17, .ref 21, .ref 24, .ref 25, .ref 26, .ref 27]),
   .inr (1, [.int o_size, .int o_year, .int o_gone, .int o_minds, .int o_lasts, .ref 2, .ref 3, .ref 4, .ref 5, .ref 6, .ref 7, .ref 8]),
   .inl (0, 12, o_parent), .inl (0, 12, o_kind), .inl (0, 12, o_number), .inl (0, 12, o_odds), .inl (0, 12, o_above), .inl (0, 12, o_kidCount), .inl (0, 12, o_lead),
   .inr (2, [.int r_size, .ref 10, .int r_token, .int r_place, .int r_at, .int r_open, .int r_made, .ref 11, .ref 12]),
   .inl (0, 160, r_tape), .inl (0, 160, r_steps), .inl (0, 3, r_ends),
   .inr (4, [.int t_size, .int t_rule, .ref 14, .ref 15, .ref 16]),
   .inl (0, 960, t_steps), .inl (0, 18, t_ends), .inl (0, 160, t_stack),
   .inr (3, [.ref 18, .ref 19, .ref 20]),
   .inl (0, 4, s_sort), .inl (0, 4, s_size), .inl (0, 160, s_items),
   .inr (0, [.int i_there, .int i_rule, .int i_size, .int i_year, .int i_gone, .int i_minds, .int i_lasts, .ref 22, .ref 23]),
   .inl (0, 12, i_number), .inl (0, 12, i_odds), .inl (0, 12, x_prices), .inl (0, 6, x_facts), .inl (0, 64, x_laws), .inl (0, 3, x_clues)]
/-- the reference's world -/
def WM (m_thrown m_textCount m_rule m_taped m_n m_minds m_lasts m_cutNow m_year m_ofNode m_ofDepth m_ofKids m_ofTwigs m_ofLast m_ofYear m_from m_size m_here m_token m_tokenAt m_open m_bad m_fault m_nKept m_mindsKept m_lastsKept m_cutKept m_yearKept m_ruleKept : Int32) (m_tokenWorth : Int64) (m_texts m_textSize m_tape m_parents m_kinds m_numbers m_odds m_yes m_no m_prices m_numbersKept m_oddsKept m_isThere m_sorts m_sheetSize m_items : Nat → Int32) : List xt_E :=
  [.inr (6, [.int m_thrown, .ref 1, .ref 2, .int m_textCount, .int m_rule, .ref 3, .int m_taped, .int m_n, .ref 4, .ref 5, .ref 6, .ref 7, .int m_minds, .int m_lasts, .int m_cutNow, .int m_year, .ref 8, .ref 9, .int m_ofNode, .int m_ofDepth, .int m_ofKids, .int m_ofTwigs, .int m_ofLast, .int m_ofYear, .int m_from, .int m_size, .int m_here, .int m_token, .int m_tokenAt, .long m_tokenWorth, .int m_open, .int m_bad, .int m_fault, .ref 10, .ref 11, .ref 12, .int m_nKept, .int m_mindsKept, .int m_lastsKept, .int m_cutKept, .int m_yearKept, .int m_ruleKept, .ref 13, .ref 14, .ref 15, .ref 16]),
   .inl (0, 960, m_texts), .inl (0, 6, m_textSize), .inl (0, 160, m_tape), .inl (0, 12, m_parents), .inl (0, 12, m_kinds), .inl (0, 12, m_numbers), .inl (0, 12, m_odds), .inl (0, 12, m_yes), .inl (0, 12, m_no), .inl (0, 12, m_prices), .inl (0, 12, m_numbersKept), .inl (0, 12, m_oddsKept), .inl (1, 4, m_isThere), .inl (0, 4, m_sorts), .inl (0, 4, m_sheetSize), .inl (0, 160, m_items)]
