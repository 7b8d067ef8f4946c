def tX10_parse_A_b15 : Option Unit := some ()
def tX10_parse_A (t_reader_bytesHeld : Int32) (x1 : Int32) : Option Unit := if x1 < 0 then tX10_parse_A_b15 else if x1 ≤ t_reader_bytesHeld then none else tX10_parse_A_b15
set_option maxRecDepth 100000 in
set_option maxHeartbeats 4000000 in
theorem ktX10_parse_A (l : Launch) (hls : l.stackTraces = false) (D : va_G) (cT : Nat → ClassId) (a_t : Nat) (a_t_reader : Nat) (a_t_exchange : Nat) (a_t_now : Nat) (a_t_history : Nat) (a_t_slots : Nat) (a_t_filled : Nat) (a_t_bestSet : Nat) (a_t_planner : Nat) (a_t_search : Nat) (a_t_leastCosts : Nat) (a_t_reader_text : Nat) (a_t_reader_draft : Nat) (t_reader_bytesHeld : Int32) (t_reader_code : Int32) (t_reader_wrongAt : Int32) (t_reader_length : Int32) (t_reader_kind : Int32) (t_reader_start : Int32) (t_reader_end : Int32) (t_reader_number : Int32) (x1 : Int32) (r : Unit) (h : tX10_parse_A t_reader_bytesHeld x1 = some r) : sT l yX10_parse cX10_parse 3 (some .int) (zRA 2 1 6) 1 6 D cT [.ref a_t, .int x1] [(a_t, .inr (10, [.ref a_t_reader, .ref a_t_exchange, .ref a_t_now, .ref a_t_history, .ref a_t_slots, .ref a_t_filled, .ref a_t_bestSet, .ref a_t_planner, .ref a_t_search, .ref a_t_leastCosts])), (a_t_reader, .inr (9, [.ref a_t_reader_text, .int t_reader_bytesHeld, .ref a_t_reader_draft, .int t_reader_code, .int t_reader_wrongAt, .int t_reader_length, .int t_reader_kind, .int t_reader_start, .int t_reader_end, .int t_reader_number]))] "java/lang/IllegalArgumentException" := by
  refine sT_of rfl (Nat.le_of_ble_eq_true rfl) ?_
  intro X C TX
  have B15 : tX10_parse_A_b15 = some r → sW X l (zRA 2 1 6) D 3 0 0 15 [] [] [(a_t, .inr (10, [.ref a_t_reader, .ref a_t_exchange, .ref a_t_now, .ref a_t_history, .ref a_t_slots, .ref a_t_filled, .ref a_t_bestSet, .ref a_t_planner, .ref a_t_search, .ref a_t_leastCosts])), (a_t_reader, .inr (9, [.ref a_t_reader_text, .int t_reader_bytesHeld, .ref a_t_reader_draft, .int t_reader_code, .int t_reader_wrongAt, .int t_reader_length, .int t_reader_kind, .int t_reader_start, .int t_reader_end, .int t_reader_number]))] := by
    intro h
    exact xi_throw C hls TX rfl zclX10_84 (zm1 (i := 15) rfl rfl) (List.mem_of_getElem? (i := 0) rfl) (zat_fin (zm3 (i := 68) rfl rfl) zat_A zre_A) dX10_parse_15 dX10_parse_18 dX10_parse_19 dX10_parse_21 dX10_parse_24 ⟨Nat.le_of_ble_eq_true rfl, Nat.le_of_ble_eq_true rfl, Nat.le_refl _, Nat.le_refl _⟩ (Nat.le_of_ble_eq_true rfl) ⟨Nat.le_refl _, Nat.le_refl _⟩
  refine xi_drop (L2 := [(0, .ref a_t), (1, .int x1)]) [0, 1] rfl ?_
  refine xi_iload_n C 1 dX10_parse_0 rfl ?_
  refine xi_if_lt C (tgt := 15) dX10_parse_1 rfl (fun c1 => ?_) (fun c1 => ?_)
  · replace h := (if_pos c1).symm.trans h
    refine xi_drop (L2 := []) [] rfl ?_
    exact B15 h
  · replace h := (if_neg c1).symm.trans h
    refine xi_iload_n C 1 dX10_parse_4 rfl ?_
    refine xi_aload_n C 0 dX10_parse_5 rfl ?_
    refine xi_get C zkX10 0 0 zlX10_10 (by decide) rfl rfl dX10_parse_6 ?_
    refine xi_get C zkX9 1 1 zlX10_78 (by decide) rfl rfl dX10_parse_9 ?_
    refine xi_icmp_le C (tgt := 25) dX10_parse_12 rfl (fun c2 => ?_) (fun c2 => ?_)
    · replace h := (if_pos c2).symm.trans h
      exact zno h
    · replace h := (if_neg c2).symm.trans h
      refine xi_drop (L2 := []) [] rfl ?_
      exact B15 h
def tX10_size_A (x1 : Int32) : Option Unit := if x1 = 0 then none else if x1 = 1 then none else if x1 = 2 then none else if x1 = 3 then none else if x1 = 4 then none else if x1 = 5 then none else some ()
set_option maxRecDepth 100000 in
set_option maxHeartbeats 4000000 in
theorem ktX10_size_A (l : Launch) (hls : l.stackTraces = false) (D : va_G) (cT : Nat → ClassId) (a_t : Nat) (a_t_reader : Nat) (a_t_exchange : Nat) (a_t_now : Nat) (a_t_history : Nat) (a_t_slots : Nat) (a_t_filled : Nat) (a_t_bestSet : Nat) (a_t_planner : Nat) (a_t_search : Nat) (a_t_leastCosts : Nat) (x1 : Int32) (r : Unit) (h : tX10_size_A x1 = some r) : sT l yX10_size cX10_size 2 (some .int) (zRA 2 1 6) 1 6 D cT [.ref a_t, .int x1] [(a_t, .inr (10, [.ref a_t_reader, .ref a_t_exchange, .ref a_t_now, .ref a_t_history, .ref a_t_slots, .ref a_t_filled, .ref a_t_bestSet, .ref a_t_planner, .ref a_t_search, .ref a_t_leastCosts]))] "java/lang/IllegalArgumentException" := by
  refine sT_of rfl (Nat.le_of_ble_eq_true rfl) ?_
  intro X C TX
  refine xi_drop (L2 := [(0, .ref a_t), (1, .int x1)]) [0, 1] rfl ?_
  refine xi_iload_n C 1 dX10_size_0 rfl ?_
  by_cases c1 : x1 = 0
  · replace h := (if_pos c1).symm.trans h
    refine xi_tabEq C 0 c1 dX10_size_1 (by decide) (by decide) rfl (tgt := 40) rfl ?_
    exact zno h
  · replace h := (if_neg c1).symm.trans h
    by_cases c2 : x1 = 1
    · replace h := (if_pos c2).symm.trans h
      refine xi_tabEq C 1 c2 dX10_size_1 (by decide) (by decide) rfl (tgt := 48) rfl ?_
      exact zno h
    · replace h := (if_neg c2).symm.trans h
      by_cases c3 : x1 = 2
      · replace h := (if_pos c3).symm.trans h
        refine xi_tabEq C 2 c3 dX10_size_1 (by decide) (by decide) rfl (tgt := 56) rfl ?_
        exact zno h
      · replace h := (if_neg c3).symm.trans h
        by_cases c4 : x1 = 3
        · replace h := (if_pos c4).symm.trans h
          refine xi_tabEq C 3 c4 dX10_size_1 (by decide) (by decide) rfl (tgt := 64) rfl ?_
          exact zno h
        · replace h := (if_neg c4).symm.trans h
          by_cases c5 : x1 = 4
          · replace h := (if_pos c5).symm.trans h
            refine xi_tabEq C 4 c5 dX10_size_1 (by decide) (by decide) rfl (tgt := 72) rfl ?_
            exact zno h
          · replace h := (if_neg c5).symm.trans h
            by_cases c6 : x1 = 5
            · replace h := (if_pos c6).symm.trans h
              refine xi_tabEq C 5 c6 dX10_size_1 (by decide) (by decide) rfl (tgt := 83) rfl ?_
              exact zno h
            · replace h := (if_neg c6).symm.trans h
              refine xi_tableOut C dX10_size_1 (ztab (by decide) (by decide) (fun i hi => zsw6 i hi c1 c2 c3 c4 c5 c6)) (tgt := 94) rfl ?_
              exact xi_throw C hls TX rfl zclX10_84 (zm1 (i := 15) rfl rfl) (List.mem_of_getElem? (i := 1) rfl) (zat_fin (zm3 (i := 68) rfl rfl) zat_A zre_A) dX10_size_94 dX10_size_97 dX10_size_98 dX10_size_100 dX10_size_103 ⟨Nat.le_of_ble_eq_true rfl, Nat.le_of_ble_eq_true rfl, Nat.le_refl _, Nat.le_refl _⟩ (Nat.le_of_ble_eq_true rfl) ⟨Nat.le_refl _, Nat.le_refl _⟩
def tX10_requireLine_I_b15 : Option Unit := some ()
def tX10_requireLine_I (t_exchange_lineCount : Int32) (x1 : Int32) : Option Unit := if x1 < 0 then tX10_requireLine_I_b15 else if x1 < t_exchange_lineCount then none else tX10_requireLine_I_b15
set_option maxRecDepth 100000 in
set_option maxHeartbeats 4000000 in
theorem ktX10_requireLine_I (l : Launch) (hls : l.stackTraces = false) (D : va_G) (cT : Nat → ClassId) (a_t : Nat) (a_t_reader : Nat) (a_t_exchange : Nat) (a_t_now : Nat) (a_t_history : Nat) (a_t_slots : Nat) (a_t_filled : Nat) (a_t_bestSet : Nat) (a_t_planner : Nat) (a_t_search : Nat) (a_t_leastCosts : Nat) (a_t_exchange_first : Nat) (a_t_exchange_second : Nat) (a_t_exchange_cost : Nat) (a_t_exchange_oneWay : Nat) (a_t_exchange_breaks : Nat) (a_t_exchange_absences : Nat) (t_exchange_people : Int32) (t_exchange_lineCount : Int32) (x1 : Int32) (r : Unit) (h : tX10_requireLine_I t_exchange_lineCount x1 = some r) : sT l yX10_requireLine cX10_requireLine 2 none (zRA 2 1 6) 1 6 D cT [.ref a_t, .int x1] [(a_t, .inr (10, [.ref a_t_reader, .ref a_t_exchange, .ref a_t_now, .ref a_t_history, .ref a_t_slots, .ref a_t_filled, .ref a_t_bestSet, .ref a_t_planner, .ref a_t_search, .ref a_t_leastCosts])), (a_t_exchange, .inr (1, [.int t_exchange_people, .int t_exchange_lineCount, .ref a_t_exchange_first, .ref a_t_exchange_second, .ref a_t_exchange_cost, .ref a_t_exchange_oneWay, .ref a_t_exchange_breaks, .ref a_t_exchange_absences]))] "java/lang/IndexOutOfBoundsException" := by
  refine sT_of rfl (Nat.le_of_ble_eq_true rfl) ?_
  intro X C TX
  have B15 : tX10_requireLine_I_b15 = some r → sW X l (zRA 2 1 6) D 2 0 0 15 [] [] [(a_t, .inr (10, [.ref a_t_reader, .ref a_t_exchange, .ref a_t_now, .ref a_t_history, .ref a_t_slots, .ref a_t_filled, .ref a_t_bestSet, .ref a_t_planner, .ref a_t_search, .ref a_t_leastCosts])), (a_t_exchange, .inr (1, [.int t_exchange_people, .int t_exchange_lineCount, .ref a_t_exchange_first, .ref a_t_exchange_second, .ref a_t_exchange_cost, .ref a_t_exchange_oneWay, .ref a_t_exchange_breaks, .ref a_t_exchange_absences]))] := by
    intro h
    exact xi_throwW C hls TX rfl zclX10_296 (zm1 (i := 22) rfl rfl) (List.mem_of_getElem? (i := 2) rfl) (zat_fin (zm4 (i := 25) rfl rfl) zat_I zre_I) dX10_requireLine_15 dX10_requireLine_18 dX10_requireLine_19 dX10_requireLine_22 dX10_requireLine_25 ⟨Nat.le_of_ble_eq_true rfl, Nat.le_of_ble_eq_true rfl, Nat.le_refl _, Nat.le_refl _⟩ (Nat.le_of_ble_eq_true rfl) ⟨Nat.le_refl _, Nat.le_refl _⟩
  refine xi_drop (L2 := [(0, .ref a_t), (1, .int x1)]) [0, 1] rfl ?_
  refine xi_iload_n C 1 dX10_requireLine_0 rfl ?_
  refine xi_if_lt C (tgt := 15) dX10_requireLine_1 rfl (fun c1 => ?_) (fun c1 => ?_)
  · replace h := (if_pos c1).symm.trans h
    refine xi_drop (L2 := []) [] rfl ?_
    exact B15 h
  · replace h := (if_neg c1).symm.trans h
    refine xi_iload_n C 1 dX10_requireLine_4 rfl ?_
    refine xi_aload_n C 0 dX10_requireLine_5 rfl ?_
    refine xi_get C zkX10 1 0 zlX10_19 (by decide) rfl rfl dX10_requireLine_6 ?_
    refine xi_get C zkX1 1 1 zlX10_108 (by decide) rfl rfl dX10_requireLine_9 ?_
    refine xi_icmp_lt C (tgt := 26) dX10_requireLine_12 rfl (fun c2 => ?_) (fun c2 => ?_)
    · replace h := (if_pos c2).symm.trans h
      exact zno h
    · replace h := (if_neg c2).symm.trans h
      refine xi_drop (L2 := []) [] rfl ?_
      exact B15 h
def tX10_line_I (t_exchange_lineCount : Int32) (x1 : Int32) : Option Unit := tsel (tX10_requireLine_I t_exchange_lineCount x1) (none)
set_option maxRecDepth 100000 in
set_option maxHeartbeats 4000000 in
theorem ktX10_line_I (l : Launch) (hls : l.stackTraces = false) (D : va_G) (cT : Nat → ClassId) (a_t : Nat) (a_t_reader : Nat) (a_t_exchange : Nat) (a_t_now : Nat) (a_t_history : Nat) (a_t_slots : Nat) (a_t_filled : Nat) (a_t_bestSet : Nat) (a_t_planner : Nat) (a_t_search : Nat) (a_t_leastCosts : Nat) (a_t_exchange_first : Nat) (a_t_exchange_second : Nat) (a_t_exchange_cost : Nat) (a_t_exchange_oneWay : Nat) (a_t_exchange_breaks : Nat) (a_t_exchange_absences : Nat) (t_exchange_people : Int32) (t_exchange_lineCount : Int32) (x1 : Int32) (x2 : Int32) (r : Unit) (h : tX10_line_I t_exchange_lineCount x1 = some r) : sT l yX10_line cX10_line 3 (some .int) (zRA 3 1 6) 1 6 D cT [.ref a_t, .int x1, .int x2] [(a_t, .inr (10, [.ref a_t_reader, .ref a_t_exchange, .ref a_t_now, .ref a_t_history, .ref a_t_slots, .ref a_t_filled, .ref a_t_bestSet, .ref a_t_planner, .ref a_t_search, .ref a_t_leastCosts])), (a_t_exchange, .inr (1, [.int t_exchange_people, .int t_exchange_lineCount, .ref a_t_exchange_first, .ref a_t_exchange_second, .ref a_t_exchange_cost, .ref a_t_exchange_oneWay, .ref a_t_exchange_breaks, .ref a_t_exchange_absences]))] "java/lang/IndexOutOfBoundsException" := by
  refine sT_of rfl (Nat.le_of_ble_eq_true rfl) ?_
  intro X C TX
  refine xi_drop (L2 := [(0, .ref a_t), (1, .int x1), (2, .int x2)]) [0, 1, 2] rfl ?_
  refine xi_aload_n C 0 dX10_line_0 rfl ?_
  refine xi_iload_n C 1 dX10_line_1 rfl ?_
  rcases tselE h with ht1 | h
  · exact xt_callV C (ktX10_requireLine_I l hls D cT a_t a_t_reader a_t_exchange a_t_now a_t_history a_t_slots a_t_filled a_t_bestSet a_t_planner a_t_search a_t_leastCosts a_t_exchange_first a_t_exchange_second a_t_exchange_cost a_t_exchange_oneWay a_t_exchange_breaks a_t_exchange_absences t_exchange_people t_exchange_lineCount x1 () ht1) zcX10_requireLine (zm4 (i := 11) rfl rfl) ziX10_requireLine (zrA rfl rfl) ⟨Nat.le_refl _, Nat.le_refl _⟩ rfl [0, 1] rfl rfl zkX10.1 (qr := 0) rfl rfl (Nat.le_of_ble_eq_true rfl) dX10_line_2 (zXW_out C TX (Nat.le_refl _) (Nat.le_refl _))
  exact zno h
def tX10_line_A (t_exchange_lineCount : Int32) (x1 : Int32) (x2 : Int32) : Option Unit := (fX10_requireLine t_exchange_lineCount x1).bind (fun u1 => if x2 = 0 then none else if x2 = 1 then none else if x2 = 2 then none else if x2 = 3 then none else if x2 = 4 then none else if x2 = 5 then none else if x2 = 6 then none else some ())
set_option maxRecDepth 100000 in
set_option maxHeartbeats 4000000 in
theorem ktX10_line_A (l : Launch) (hls : l.stackTraces = false) (D : va_G) (cT : Nat → ClassId) (a_t : Nat) (a_t_reader : Nat) (a_t_exchange : Nat) (a_t_now : Nat) (a_t_history : Nat) (a_t_slots : Nat) (a_t_filled : Nat) (a_t_bestSet : Nat) (a_t_planner : Nat) (a_t_search : Nat) (a_t_leastCosts : Nat) (a_t_exchange_first : Nat) (a_t_exchange_second : Nat) (a_t_exchange_cost : Nat) (a_t_exchange_oneWay : Nat) (a_t_exchange_breaks : Nat) (a_t_exchange_absences : Nat) (t_exchange_people : Int32) (t_exchange_lineCount : Int32) (x1 : Int32) (x2 : Int32) (r : Unit) (h : tX10_line_A t_exchange_lineCount x1 x2 = some r) : sT l yX10_line cX10_line 3 (some .int) (zRA 2 1 6) 1 6 D cT [.ref a_t, .int x1, .int x2] [(a_t, .inr (10, [.ref a_t_reader, .ref a_t_exchange, .ref a_t_now, .ref a_t_history, .ref a_t_slots, .ref a_t_filled, .ref a_t_bestSet, .ref a_t_planner, .ref a_t_search, .ref a_t_leastCosts])), (a_t_exchange, .inr (1, [.int t_exchange_people, .int t_exchange_lineCount, .ref a_t_exchange_first, .ref a_t_exchange_second, .ref a_t_exchange_cost, .ref a_t_exchange_oneWay, .ref a_t_exchange_breaks, .ref a_t_exchange_absences]))] "java/lang/IllegalArgumentException" := by
  refine sT_of rfl (Nat.le_of_ble_eq_true rfl) ?_
  intro X C TX
  refine xi_drop (L2 := [(0, .ref a_t), (1, .int x1), (2, .int x2)]) [0, 1, 2] rfl ?_
  refine xi_aload_n C 0 dX10_line_0 rfl ?_
  refine xi_iload_n C 1 dX10_line_1 rfl ?_
  replace h := ob h
  obtain ⟨u1, hu2, h⟩ := h
  refine xi_callVr C (kX10_requireLine l D cT a_t a_t_reader a_t_exchange a_t_now a_t_history a_t_slots a_t_filled a_t_bestSet a_t_planner a_t_search a_t_leastCosts a_t_exchange_first a_t_exchange_second a_t_exchange_cost a_t_exchange_oneWay a_t_exchange_breaks a_t_exchange_absences t_exchange_people t_exchange_lineCount x1 u1 hu2) zcX10_requireLine zmX10_130 ziX10_requireLine (zrM rfl rfl) z00 rfl [0, 1] rfl rfl zkX10.1 (qr := 0) rfl rfl (Nat.le_of_ble_eq_true rfl) dX10_line_2 (fun z3 => ?_)
  refine xi_iload_n C 2 dX10_line_5 rfl ?_
  by_cases c4 : x2 = 0
  · replace h := (if_pos c4).symm.trans h
    refine xi_tabEq C 0 c4 dX10_line_6 (by decide) (by decide) rfl (tgt := 48) rfl ?_
    exact zno h
  · replace h := (if_neg c4).symm.trans h
    by_cases c5 : x2 = 1
    · replace h := (if_pos c5).symm.trans h
      refine xi_tabEq C 1 c5 dX10_line_6 (by decide) (by decide) rfl (tgt := 58) rfl ?_
      exact zno h
    · replace h := (if_neg c5).symm.trans h
      by_cases c6 : x2 = 2
      · replace h := (if_pos c6).symm.trans h
        refine xi_tabEq C 2 c6 dX10_line_6 (by decide) (by decide) rfl (tgt := 68) rfl ?_
        exact zno h
      · replace h := (if_neg c6).symm.trans h
        by_cases c7 : x2 = 3
        · replace h := (if_pos c7).symm.trans h
          refine xi_tabEq C 3 c7 dX10_line_6 (by decide) (by decide) rfl (tgt := 86) rfl ?_
          exact zno h
        · replace h := (if_neg c7).symm.trans h
          by_cases c8 : x2 = 4
          · replace h := (if_pos c8).symm.trans h
            refine xi_tabEq C 4 c8 dX10_line_6 (by decide) (by decide) rfl (tgt := 96) rfl ?_
            exact zno h
          · replace h := (if_neg c8).symm.trans h
            by_cases c9 : x2 = 5
            · replace h := (if_pos c9).symm.trans h
              refine xi_tabEq C 5 c9 dX10_line_6 (by decide) (by decide) rfl (tgt := 108) rfl ?_
              exact zno h
            · replace h := (if_neg c9).symm.trans h
              by_cases c10 : x2 = 6
              · replace h := (if_pos c10).symm.trans h
                refine xi_tabEq C 6 c10 dX10_line_6 (by decide) (by decide) rfl (tgt := 120) rfl ?_
                exact zno h
              · replace h := (if_neg c10).symm.trans h
                refine xi_tableOut C dX10_line_6 (ztab (by decide) (by decide) (fun i hi => zsw7 i hi c4 c5 c6 c7 c8 c9 c10)) (tgt := 132) rfl ?_
                exact xi_throw C hls TX rfl zclX10_84 (zm1 (i := 15) rfl rfl) (List.mem_of_getElem? (i := 3) rfl) (zat_fin (zm3 (i := 68) rfl rfl) zat_A zre_A) dX10_line_132 dX10_line_135 dX10_line_136 dX10_line_138 dX10_line_141 ⟨Nat.le_of_ble_eq_true rfl, Nat.le_of_ble_eq_true rfl, Nat.le_refl _, Nat.le_refl _⟩ (Nat.le_of_ble_eq_true rfl) ⟨Nat.le_refl _, Nat.le_refl _⟩
def tX10_isUsable_I (t_exchange_lineCount : Int32) (x1 : Int32) : Option Unit := tsel (tX10_requireLine_I t_exchange_lineCount x1) (none)
set_option maxRecDepth 100000 in
set_option maxHeartbeats 4000000 in
theorem ktX10_isUsable_I (l : Launch) (hls : l.stackTraces = false) (D : va_G) (cT : Nat → ClassId) (a_t : Nat) (a_t_reader : Nat) (a_t_exchange : Nat) (a_t_now : Nat) (a_t_history : Nat) (a_t_slots : Nat) (a_t_filled : Nat) (a_t_bestSet : Nat) (a_t_planner : Nat) (a_t_search : Nat) (a_t_leastCosts : Nat) (a_t_exchange_first : Nat) (a_t_exchange_second : Nat) (a_t_exchange_cost : Nat) (a_t_exchange_oneWay : Nat) (a_t_exchange_breaks : Nat) (a_t_exchange_absences : Nat) (t_exchange_people : Int32) (t_exchange_lineCount : Int32) (x1 : Int32) (x2 : Int32) (r : Unit) (h : tX10_isUsable_I t_exchange_lineCount x1 = some r) : sT l yX10_isUsable cX10_isUsable 3 (some .boolean) (zRA 3 1 6) 1 6 D cT [.ref a_t, .int x1, .int x2] [(a_t, .inr (10, [.ref a_t_reader, .ref a_t_exchange, .ref a_t_now, .ref a_t_history, .ref a_t_slots, .ref a_t_filled, .ref a_t_bestSet, .ref a_t_planner, .ref a_t_search, .ref a_t_leastCosts])), (a_t_exchange, .inr (1, [.int t_exchange_people, .int t_exchange_lineCount, .ref a_t_exchange_first, .ref a_t_exchange_second, .ref a_t_exchange_cost, .ref a_t_exchange_oneWay, .ref a_t_exchange_breaks, .ref a_t_exchange_absences]))] "java/lang/IndexOutOfBoundsException" := by
  refine sT_of rfl (Nat.le_of_ble_eq_true rfl) ?_
  intro X C TX
  refine xi_drop (L2 := [(0, .ref a_t), (1, .int x1), (2, .int x2)]) [0, 1, 2] rfl ?_
  refine xi_aload_n C 0 dX10_isUsable_0 rfl ?_
  refine xi_iload_n C 1 dX10_isUsable_1 rfl ?_
  rcases tselE h with ht1 | h
  · exact xt_callV C (ktX10_requireLine_I l hls D cT a_t a_t_reader a_t_exchange a_t_now a_t_history a_t_slots a_t_filled a_t_bestSet a_t_planner a_t_search a_t_leastCosts a_t_exchange_first a_t_exchange_second a_t_exchange_cost a_t_exchange_oneWay a_t_exchange_breaks a_t_exchange_absences t_exchange_people t_exchange_lineCount x1 () ht1) zcX10_requireLine (zm4 (i := 11) rfl rfl) ziX10_requireLine (zrA rfl rfl) ⟨Nat.le_refl _, Nat.le_refl _⟩ rfl [0, 1] rfl rfl zkX10.1 (qr := 0) rfl rfl (Nat.le_of_ble_eq_true rfl) dX10_isUsable_2 (zXW_out C TX (Nat.le_refl _) (Nat.le_refl _))
  exact zno h
def tX10_isUsable_A_b17 : Option Unit := some ()
def tX10_isUsable_A (t_exchange_lineCount : Int32) (x1 : Int32) (x2 : Int32) : Option Unit := (fX10_requireLine t_exchange_lineCount x1).bind (fun u1 => if x2 < 1 then tX10_isUsable_A_b17 else if x2 ≤ 9999 then none else tX10_isUsable_A_b17)
set_option maxRecDepth 100000 in
set_option maxHeartbeats 4000000 in
theorem ktX10_isUsable_A (l : Launch) (hls : l.stackTraces = false) (D : va_G) (cT : Nat → ClassId) (a_t : Nat) (a_t_reader : Nat) (a_t_exchange : Nat) (a_t_now : Nat) (a_t_history : Nat) (a_t_slots : Nat) (a_t_filled : Nat) (a_t_bestSet : Nat) (a_t_planner : Nat) (a_t_search : Nat) (a_t_leastCosts : Nat) (a_t_exchange_first : Nat) (a_t_exchange_second : Nat) (a_t_exchange_cost : Nat) (a_t_exchange_oneWay : Nat) (a_t_exchange_breaks : Nat) (a_t_exchange_absences : Nat) (t_exchange_people : Int32) (t_exchange_lineCount : Int32) (x1 : Int32) (x2 : Int32) (r : Unit) (h : tX10_isUsable_A t_exchange_lineCount x1 x2 = some r) : sT l yX10_isUsable cX10_isUsable 3 (some .boolean) (zRA 2 1 6) 1 6 D cT [.ref a_t, .int x1, .int x2] [(a_t, .inr (10, [.ref a_t_reader, .ref a_t_exchange, .ref a_t_now, .ref a_t_history, .ref a_t_slots, .ref a_t_filled, .ref a_t_bestSet, .ref a_t_planner, .ref a_t_search, .ref a_t_leastCosts])), (a_t_exchange, .inr (1, [.int t_exchange_people, .int t_exchange_lineCount, .ref a_t_exchange_first, .ref a_t_exchange_second, .ref a_t_exchange_cost, .ref a_t_exchange_oneWay, .ref a_t_exchange_breaks, .ref a_t_exchange_absences]))] "java/lang/IllegalArgumentException" := by
  refine sT_of rfl (Nat.le_of_ble_eq_true rfl) ?_
  intro X C TX
  have B17 : tX10_isUsable_A_b17 = some r → sW X l (zRA 2 1 6) D 3 0 0 17 [] [] [(a_t, .inr (10, [.ref a_t_reader, .ref a_t_exchange, .ref a_t_now, .ref a_t_history, .ref a_t_slots, .ref a_t_filled, .ref a_t_bestSet, .ref a_t_planner, .ref a_t_search, .ref a_t_leastCosts])), (a_t_exchange, .inr (1, [.int t_exchange_people, .int t_exchange_lineCount, .ref a_t_exchange_first, .ref a_t_exchange_second, .ref a_t_exchange_cost, .ref a_t_exchange_oneWay, .ref a_t_exchange_breaks, .ref a_t_exchange_absences]))] := by
    intro h
    exact xi_throw C hls TX rfl zclX10_84 (zm1 (i := 15) rfl rfl) (List.mem_of_getElem? (i := 4) rfl) (zat_fin (zm3 (i := 68) rfl rfl) zat_A zre_A) dX10_isUsable_17 dX10_isUsable_20 dX10_isUsable_21 dX10_isUsable_23 dX10_isUsable_26 ⟨Nat.le_of_ble_eq_true rfl, Nat.le_of_ble_eq_true rfl, Nat.le_refl _, Nat.le_refl _⟩ (Nat.le_of_ble_eq_true rfl) ⟨Nat.le_refl _, Nat.le_refl _⟩
  refine xi_drop (L2 := [(0, .ref a_t), (1, .int x1), (2, .int x2)]) [0, 1, 2] rfl ?_
  refine xi_aload_n C 0 dX10_isUsable_0 rfl ?_
  refine xi_iload_n C 1 dX10_isUsable_1 rfl ?_
  replace h := ob h
  obtain ⟨u1, hu2, h⟩ := h
  refine xi_callVr C (kX10_requireLine l D cT a_t a_t_reader a_t_exchange a_t_now a_t_history a_t_slots a_t_filled a_t_bestSet a_t_planner a_t_search a_t_leastCosts a_t_exchange_first a_t_exchange_second a_t_exchange_cost a_t_exchange_oneWay a_t_exchange_breaks a_t_exchange_absences t_exchange_people t_exchange_lineCount x1 u1 hu2) zcX10_requireLine zmX10_130 ziX10_requireLine (zrM rfl rfl) z00 rfl [0, 1] rfl rfl zkX10.1 (qr := 0) rfl rfl (Nat.le_of_ble_eq_true rfl) dX10_isUsable_2 (fun z3 => ?_)
  refine xi_iload_n C 2 dX10_isUsable_5 rfl ?_
  refine xi_iconst C (v := 1) dX10_isUsable_6 rfl ?_
  refine xi_icmp_lt C (tgt := 17) dX10_isUsable_7 rfl (fun c4 => ?_) (fun c4 => ?_)
  · replace h := (if_pos c4).symm.trans h
    refine xi_drop (L2 := []) [] rfl ?_
    exact B17 h
  · replace h := (if_neg c4).symm.trans h
    refine xi_iload_n C 2 dX10_isUsable_10 rfl ?_
    refine xi_sipush C (v := 9999) dX10_isUsable_11 rfl ?_
    refine xi_icmp_le C (tgt := 27) dX10_isUsable_14 rfl (fun c5 => ?_) (fun c5 => ?_)
    · replace h := (if_pos c5).symm.trans h
      exact zno h
    · replace h := (if_neg c5).symm.trans h
      refine xi_drop (L2 := []) [] rfl ?_
      exact B17 h
def tX10_requirePerson_I_b15 : Option Unit := some ()
def tX10_requirePerson_I (t_exchange_people : Int32) (x1 : Int32) : Option Unit := if x1 < 0 then tX10_requirePerson_I_b15 else if x1 < t_exchange_people then none else tX10_requirePerson_I_b15
set_option maxRecDepth 100000 in
set_option maxHeartbeats 4000000 in
theorem ktX10_requirePerson_I (l : Launch) (hls : l.stackTraces = false) (D : va_G) (cT : Nat → ClassId) (a_t : Nat) (a_t_reader : Nat) (a_t_exchange : Nat) (a_t_now : Nat) (a_t_history : Nat) (a_t_slots : Nat) (a_t_filled : Nat) (a_t_bestSet : Nat) (a_t_planner : Nat) (a_t_search : Nat) (a_t_leastCosts : Nat) (a_t_exchange_first : Nat) (a_t_exchange_second : Nat) (a_t_exchange_cost : Nat) (a_t_exchange_oneWay : Nat) (a_t_exchange_breaks : Nat) (a_t_exchange_absences : Nat) (t_exchange_people : Int32) (t_exchange_lineCount : Int32) (x1 : Int32) (r : Unit) (h : tX10_requirePerson_I t_exchange_people x1 = some r) : sT l yX10_requirePerson cX10_requirePerson 2 none (zRA 2 1 6) 1 6 D cT [.ref a_t, .int x1] [(a_t, .inr (10, [.ref a_t_reader, .ref a_t_exchange, .ref a_t_now, .ref a_t_history, .ref a_t_slots, .ref a_t_filled, .ref a_t_bestSet, .ref a_t_planner, .ref a_t_search, .ref a_t_leastCosts])), (a_t_exchange, .inr (1, [.int t_exchange_people, .int t_exchange_lineCount, .ref a_t_exchange_first, .ref a_t_exchange_second, .ref a_t_exchange_cost, .ref a_t_exchange_oneWay, .ref a_t_exchange_breaks, .ref a_t_exchange_absences]))] "java/lang/IndexOutOfBoundsException" := by
  refine sT_of rfl (Nat.le_of_ble_eq_true rfl) ?_
  intro X C TX
  have B15 : tX10_requirePerson_I_b15 = some r → sW X l (zRA 2 1 6) D 2 0 0 15 [] [] [(a_t, .inr (10, [.ref a_t_reader, .ref a_t_exchange, .ref a_t_now, .ref a_t_history, .ref a_t_slots, .ref a_t_filled, .ref a_t_bestSet, .ref a_t_planner, .ref a_t_search, .ref a_t_leastCosts])), (a_t_exchange, .inr (1, [.int t_exchange_people, .int t_exchange_lineCount, .ref a_t_exchange_first, .ref a_t_exchange_second, .ref a_t_exchange_cost, .ref a_t_exchange_oneWay, .ref a_t_exchange_breaks, .ref a_t_exchange_absences]))] := by
    intro h
    exact xi_throwW C hls TX rfl zclX10_296 (zm1 (i := 22) rfl rfl) (List.mem_of_getElem? (i := 5) rfl) (zat_fin (zm4 (i := 25) rfl rfl) zat_I zre_I) dX10_requirePerson_15 dX10_requirePerson_18 dX10_requirePerson_19 dX10_requirePerson_22 dX10_requirePerson_25 ⟨Nat.le_of_ble_eq_true rfl, Nat.le_of_ble_eq_true rfl, Nat.le_refl _, Nat.le_refl _⟩ (Nat.le_of_ble_eq_true rfl) ⟨Nat.le_refl _, Nat.le_refl _⟩
  refine xi_drop (L2 := [(0, .ref a_t), (1, .int x1)]) [0, 1] rfl ?_
  refine xi_iload_n C 1 dX10_requirePerson_0 rfl ?_
  refine xi_if_lt C (tgt := 15) dX10_requirePerson_1 rfl (fun c1 => ?_) (fun c1 => ?_)
  · replace h := (if_pos c1).symm.trans h
    refine xi_drop (L2 := []) [] rfl ?_
    exact B15 h
  · replace h := (if_neg c1).symm.trans h
    refine xi_iload_n C 1 dX10_requirePerson_4 rfl ?_
    refine xi_aload_n C 0 dX10_requirePerson_5 rfl ?_
    refine xi_get C zkX10 1 0 zlX10_19 (by decide) rfl rfl dX10_requirePerson_6 ?_
    refine xi_get C zkX1 0 1 zlX10_70 (by decide) rfl rfl dX10_requirePerson_9 ?_
    refine xi_icmp_lt C (tgt := 26) dX10_requirePerson_12 rfl (fun c2 => ?_) (fun c2 => ?_)
    · replace h := (if_pos c2).symm.trans h
      exact zno h
    · replace h := (if_neg c2).symm.trans h
      refine xi_drop (L2 := []) [] rfl ?_
      exact B15 h
def tX10_known_I (t_exchange_people : Int32) (x1 : Int32) : Option Unit := tsel (tX10_requirePerson_I t_exchange_people x1) (none)
set_option maxRecDepth 100000 in
set_option maxHeartbeats 4000000 in
theorem ktX10_known_I (l : Launch) (hls : l.stackTraces = false) (D : va_G) (cT : Nat → ClassId) (a_t : Nat) (a_t_reader : Nat) (a_t_exchange : Nat) (a_t_now : Nat) (a_t_history : Nat) (a_t_slots : Nat) (a_t_filled : Nat) (a_t_bestSet : Nat) (a_t_planner : Nat) (a_t_search : Nat) (a_t_leastCosts : Nat) (a_t_exchange_first : Nat) (a_t_exchange_second : Nat) (a_t_exchange_cost : Nat) (a_t_exchange_oneWay : Nat) (a_t_exchange_breaks : Nat) (a_t_exchange_absences : Nat) (t_exchange_people : Int32) (t_exchange_lineCount : Int32) (x1 : Int32) (r : Unit) (h : tX10_known_I t_exchange_people x1 = some r) : sT l yX10_known cX10_known 2 (some .int) (zRA 3 1 6) 1 6 D cT [.ref a_t, .int x1] [(a_t, .inr (10, [.ref a_t_reader, .ref a_t_exchange, .ref a_t_now, .ref a_t_history, .ref a_t_slots, .ref a_t_filled, .ref a_t_bestSet, .ref a_t_planner, .ref a_t_search, .ref a_t_leastCosts])), (a_t_exchange, .inr (1, [.int t_exchange_people, .int t_exchange_lineCount, .ref a_t_exchange_first, .ref a_t_exchange_second, .ref a_t_exchange_cost, .ref a_t_exchange_oneWay, .ref a_t_exchange_breaks, .ref a_t_exchange_absences]))] "java/lang/IndexOutOfBoundsException" := by
  refine sT_of rfl (Nat.le_of_ble_eq_true rfl) ?_
  intro X C TX
  refine xi_drop (L2 := [(0, .ref a_t), (1, .int x1)]) [0, 1] rfl ?_
  refine xi_aload_n C 0 dX10_known_0 rfl ?_
  refine xi_iload_n C 1 dX10_known_1 rfl ?_
  rcases tselE h with ht1 | h
  · exact xt_callV C (ktX10_requirePerson_I l hls D cT a_t a_t_reader a_t_exchange a_t_now a_t_history a_t_slots a_t_filled a_t_bestSet a_t_planner a_t_search a_t_leastCosts a_t_exchange_first a_t_exchange_second a_t_exchange_cost a_t_exchange_oneWay a_t_exchange_breaks a_t_exchange_absences t_exchange_people t_exchange_lineCount x1 () ht1) zcX10_requirePerson (zm4 (i := 52) rfl rfl) ziX10_requirePerson (zrA rfl rfl) ⟨Nat.le_refl _, Nat.le_refl _⟩ rfl [0, 1] rfl rfl zkX10.1 (qr := 0) rfl rfl (Nat.le_of_ble_eq_true rfl) dX10_known_2 (zXW_out C TX (Nat.le_refl _) (Nat.le_refl _))
  exact zno h
def tX10_knowers_I (t_exchange_people : Int32) (x1 : Int32) : Option Unit := tsel (tX10_requirePerson_I t_exchange_people x1) (none)
set_option maxRecDepth 100000 in
set_option maxHeartbeats 4000000 in
theorem ktX10_knowers_I (l : Launch) (hls : l.stackTraces = false) (D : va_G) (cT : Nat → ClassId) (a_t : Nat) (a_t_reader : Nat) (a_t_exchange : Nat) (a_t_now : Nat) (a_t_history : Nat) (a_t_slots : Nat) (a_t_filled : Nat) (a_t_bestSet : Nat) (a_t_planner : Nat) (a_t_search : Nat) (a_t_leastCosts : Nat) (a_t_exchange_first : Nat) (a_t_exchange_second : Nat) (a_t_exchange_cost : Nat) (a_t_exchange_oneWay : Nat) (a_t_exchange_breaks : Nat) (a_t_exchange_absences : Nat) (t_exchange_people : Int32) (t_exchange_lineCount : Int32) (x1 : Int32) (r : Unit) (h : tX10_knowers_I t_exchange_people x1 = some r) : sT l yX10_knowers cX10_knowers 2 (some .int) (zRA 3 1 6) 1 6 D cT [.ref a_t, .int x1] [(a_t, .inr (10, [.ref a_t_reader, .ref a_t_exchange, .ref a_t_now, .ref a_t_history, .ref a_t_slots, .ref a_t_filled, .ref a_t_bestSet, .ref a_t_planner, .ref a_t_search, .ref a_t_leastCosts])), (a_t_exchange, .inr (1, [.int t_exchange_people, .int t_exchange_lineCount, .ref a_t_exchange_first, .ref a_t_exchange_second, .ref a_t_exchange_cost, .ref a_t_exchange_oneWay, .ref a_t_exchange_breaks, .ref a_t_exchange_absences]))] "java/lang/IndexOutOfBoundsException" := by
  refine sT_of rfl (Nat.le_of_ble_eq_true rfl) ?_
  intro X C TX
  refine xi_drop (L2 := [(0, .ref a_t), (1, .int x1)]) [0, 1] rfl ?_
  refine xi_aload_n C 0 dX10_knowers_0 rfl ?_
  refine xi_iload_n C 1 dX10_knowers_1 rfl ?_
  rcases tselE h with ht1 | h
  · exact xt_callV C (ktX10_requirePerson_I l hls D cT a_t a_t_reader a_t_exchange a_t_now a_t_history a_t_slots a_t_filled a_t_bestSet a_t_planner a_t_search a_t_leastCosts a_t_exchange_first a_t_exchange_second a_t_exchange_cost a_t_exchange_oneWay a_t_exchange_breaks a_t_exchange_absences t_exchange_people t_exchange_lineCount x1 () ht1) zcX10_requirePerson (zm4 (i := 52) rfl rfl) ziX10_requirePerson (zrA rfl rfl) ⟨Nat.le_refl _, Nat.le_refl _⟩ rfl [0, 1] rfl rfl zkX10.1 (qr := 0) rfl rfl (Nat.le_of_ble_eq_true rfl) dX10_knowers_2 (zXW_out C TX (Nat.le_refl _) (Nat.le_refl _))
  exact zno h
def tX10_partner_I (t_exchange_people : Int32) (x1 : Int32) : Option Unit := tsel (tX10_requirePerson_I t_exchange_people x1) (none)
set_option maxRecDepth 100000 in
set_option maxHeartbeats 4000000 in
theorem ktX10_partner_I (l : Launch) (hls : l.stackTraces = false) (D : va_G) (cT : Nat → ClassId) (a_t : Nat) (a_t_reader : Nat) (a_t_exchange : Nat) (a_t_now : Nat) (a_t_history : Nat) (a_t_slots : Nat) (a_t_filled : Nat) (a_t_bestSet : Nat) (a_t_planner : Nat) (a_t_search : Nat) (a_t_leastCosts : Nat) (a_t_exchange_first : Nat) (a_t_exchange_second : Nat) (a_t_exchange_cost : Nat) (a_t_exchange_oneWay : Nat) (a_t_exchange_breaks : Nat) (a_t_exchange_absences : Nat) (t_exchange_people : Int32) (t_exchange_lineCount : Int32) (x1 : Int32) (r : Unit) (h : tX10_partner_I t_exchange_people x1 = some r) : sT l yX10_partner cX10_partner 2 (some .int) (zRA 3 1 6) 1 6 D cT [.ref a_t, .int x1] [(a_t, .inr (10, [.ref a_t_reader, .ref a_t_exchange, .ref a_t_now, .ref a_t_history, .ref a_t_slots, .ref a_t_filled, .ref a_t_bestSet, .ref a_t_planner, .ref a_t_search, .ref a_t_leastCosts])), (a_t_exchange, .inr (1, [.int t_exchange_people, .int t_exchange_lineCount, .ref a_t_exchange_first, .ref a_t_exchange_second, .ref a_t_exchange_cost, .ref a_t_exchange_oneWay, .ref a_t_exchange_breaks, .ref a_t_exchange_absences]))] "java/lang/IndexOutOfBoundsException" := by
  refine sT_of rfl (Nat.le_of_ble_eq_true rfl) ?_
  intro X C TX
  refine xi_drop (L2 := [(0, .ref a_t), (1, .int x1)]) [0, 1] rfl ?_
  refine xi_aload_n C 0 dX10_partner_0 rfl ?_
  refine xi_iload_n C 1 dX10_partner_1 rfl ?_
  rcases tselE h with ht1 | h
  · exact xt_callV C (ktX10_requirePerson_I l hls D cT a_t a_t_reader a_t_exchange a_t_now a_t_history a_t_slots a_t_filled a_t_bestSet a_t_planner a_t_search a_t_leastCosts a_t_exchange_first a_t_exchange_second a_t_exchange_cost a_t_exchange_oneWay a_t_exchange_breaks a_t_exchange_absences t_exchange_people t_exchange_lineCount x1 () ht1) zcX10_requirePerson (zm4 (i := 52) rfl rfl) ziX10_requirePerson (zrA rfl rfl) ⟨Nat.le_refl _, Nat.le_refl _⟩ rfl [0, 1] rfl rfl zkX10.1 (qr := 0) rfl rfl (Nat.le_of_ble_eq_true rfl) dX10_partner_2 (zXW_out C TX (Nat.le_refl _) (Nat.le_refl _))
  exact zno h
def tX10_spent_A_b11 : Option Unit := some ()
def tX10_spent_A (x1 : Int32) : Option Unit := if x1 < 0 then tX10_spent_A_b11 else if x1 ≤ 9999 then none else tX10_spent_A_b11
set_option maxRecDepth 100000 in
set_option maxHeartbeats 4000000 in
theorem ktX10_spent_A (l : Launch) (hls : l.stackTraces = false) (D : va_G) (cT : Nat → ClassId) (a_t : Nat) (a_t_reader : Nat) (a_t_exchange : Nat) (a_t_now : Nat) (a_t_history : Nat) (a_t_slots : Nat) (a_t_filled : Nat) (a_t_bestSet : Nat) (a_t_planner : Nat) (a_t_search : Nat) (a_t_leastCosts : Nat) (x1 : Int32) (r : Unit) (h : tX10_spent_A x1 = some r) : sT l yX10_spent cX10_spent 2 (some .int) (zRA 2 1 6) 1 6 D cT [.ref a_t, .int x1] [(a_t, .inr (10, [.ref a_t_reader, .ref a_t_exchange, .ref a_t_now, .ref a_t_history, .ref a_t_slots, .ref a_t_filled, .ref a_t_bestSet, .ref a_t_planner, .ref a_t_search, .ref a_t_leastCosts]))] "java/lang/IllegalArgumentException" := by
  refine sT_of rfl (Nat.le_of_ble_eq_true rfl) ?_
  intro X C TX
  have B11 : tX10_spent_A_b11 = some r → sW X l (zRA 2 1 6) D 2 0 0 11 [] [] [(a_t, .inr (10, [.ref a_t_reader, .ref a_t_exchange, .ref a_t_now, .ref a_t_history, .ref a_t_slots, .ref a_t_filled, .ref a_t_bestSet, .ref a_t_planner, .ref a_t_search, .ref a_t_leastCosts]))] := by
    intro h
    exact xi_throw C hls TX rfl zclX10_84 (zm1 (i := 15) rfl rfl) (List.mem_of_getElem? (i := 6) rfl) (zat_fin (zm3 (i := 68) rfl rfl) zat_A zre_A) dX10_spent_11 dX10_spent_14 dX10_spent_15 dX10_spent_17 dX10_spent_20 ⟨Nat.le_of_ble_eq_true rfl, Nat.le_of_ble_eq_true rfl, Nat.le_refl _, Nat.le_refl _⟩ (Nat.le_of_ble_eq_true rfl) ⟨Nat.le_refl _, Nat.le_refl _⟩
  refine xi_drop (L2 := [(0, .ref a_t), (1, .int x1)]) [0, 1] rfl ?_
  refine xi_iload_n C 1 dX10_spent_0 rfl ?_
  refine xi_if_lt C (tgt := 11) dX10_spent_1 rfl (fun c1 => ?_) (fun c1 => ?_)
  · replace h := (if_pos c1).symm.trans h
    refine xi_drop (L2 := []) [] rfl ?_
    exact B11 h
  · replace h := (if_neg c1).symm.trans h
    refine xi_iload_n C 1 dX10_spent_4 rfl ?_
    refine xi_sipush C (v := 9999) dX10_spent_5 rfl ?_
    refine xi_icmp_le C (tgt := 21) dX10_spent_8 rfl (fun c2 => ?_) (fun c2 => ?_)
    · replace h := (if_pos c2).symm.trans h
      exact zno h
    · replace h := (if_neg c2).symm.trans h
      refine xi_drop (L2 := []) [] rfl ?_
      exact B11 h
def tX10_best_A_b9 : Option Unit := some ()
def tX10_best_A (x1 : Int32) : Option Unit := if x1 < 0 then tX10_best_A_b9 else if x1 ≤ 2 then none else tX10_best_A_b9
set_option maxRecDepth 100000 in
set_option maxHeartbeats 4000000 in
theorem ktX10_best_A (l : Launch) (hls : l.stackTraces = false) (D : va_G) (cT : Nat → ClassId) (a_t : Nat) (a_t_reader : Nat) (a_t_exchange : Nat) (a_t_now : Nat) (a_t_history : Nat) (a_t_slots : Nat) (a_t_filled : Nat) (a_t_bestSet : Nat) (a_t_planner : Nat) (a_t_search : Nat) (a_t_leastCosts : Nat) (x1 : Int32) (r : Unit) (h : tX10_best_A x1 = some r) : sT l yX10_best cX10_best 3 (some .int) (zRA 2 1 6) 1 6 D cT [.ref a_t, .int x1] [(a_t, .inr (10, [.ref a_t_reader, .ref a_t_exchange, .ref a_t_now, .ref a_t_history, .ref a_t_slots, .ref a_t_filled, .ref a_t_bestSet, .ref a_t_planner, .ref a_t_search, .ref a_t_leastCosts]))] "java/lang/IllegalArgumentException" := by
  refine sT_of rfl (Nat.le_of_ble_eq_true rfl) ?_
  intro X C TX
  have B9 : tX10_best_A_b9 = some r → sW X l (zRA 2 1 6) D 3 0 0 9 [] [] [(a_t, .inr (10, [.ref a_t_reader, .ref a_t_exchange, .ref a_t_now, .ref a_t_history, .ref a_t_slots, .ref a_t_filled, .ref a_t_bestSet, .ref a_t_planner, .ref a_t_search, .ref a_t_leastCosts]))] := by
    intro h
    exact xi_throw C hls TX rfl zclX10_84 (zm1 (i := 15) rfl rfl) (List.mem_of_getElem? (i := 7) rfl) (zat_fin (zm3 (i := 68) rfl rfl) zat_A zre_A) dX10_best_9 dX10_best_12 dX10_best_13 dX10_best_15 dX10_best_18 ⟨Nat.le_of_ble_eq_true rfl, Nat.le_of_ble_eq_true rfl, Nat.le_refl _, Nat.le_refl _⟩ (Nat.le_of_ble_eq_true rfl) ⟨Nat.le_refl _, Nat.le_refl _⟩
  refine xi_drop (L2 := [(0, .ref a_t), (1, .int x1)]) [0, 1] rfl ?_
  refine xi_iload_n C 1 dX10_best_0 rfl ?_
  refine xi_if_lt C (tgt := 9) dX10_best_1 rfl (fun c1 => ?_) (fun c1 => ?_)
  · replace h := (if_pos c1).symm.trans h
    refine xi_drop (L2 := []) [] rfl ?_
    exact B9 h
  · replace h := (if_neg c1).symm.trans h
    refine xi_iload_n C 1 dX10_best_4 rfl ?_
    refine xi_iconst C (v := 2) dX10_best_5 rfl ?_
    refine xi_icmp_le C (tgt := 19) dX10_best_6 rfl (fun c2 => ?_) (fun c2 => ?_)
    · replace h := (if_pos c2).symm.trans h
      exact zno h
    · replace h := (if_neg c2).symm.trans h
      refine xi_drop (L2 := []) [] rfl ?_
      exact B9 h
def tX10_plan_A_b9 : Option Unit := some ()
def tX10_plan_A (x1 : Int32) : Option Unit := if x1 < 0 then tX10_plan_A_b9 else if x1 ≤ 3 then none else tX10_plan_A_b9
set_option maxRecDepth 100000 in
set_option maxHeartbeats 4000000 in
theorem ktX10_plan_A (l : Launch) (hls : l.stackTraces = false) (D : va_G) (cT : Nat → ClassId) (a_t : Nat) (a_t_reader : Nat) (a_t_exchange : Nat) (a_t_now : Nat) (a_t_history : Nat) (a_t_slots : Nat) (a_t_filled : Nat) (a_t_bestSet : Nat) (a_t_planner : Nat) (a_t_search : Nat) (a_t_leastCosts : Nat) (x1 : Int32) (r : Unit) (h : tX10_plan_A x1 = some r) : sT l yX10_plan cX10_plan 2 (some .int) (zRA 2 1 6) 1 6 D cT [.ref a_t, .int x1] [(a_t, .inr (10, [.ref a_t_reader, .ref a_t_exchange, .ref a_t_now, .ref a_t_history, .ref a_t_slots, .ref a_t_filled, .ref a_t_bestSet, .ref a_t_planner, .ref a_t_search, .ref a_t_leastCosts]))] "java/lang/IllegalArgumentException" := by
  refine sT_of rfl (Nat.le_of_ble_eq_true rfl) ?_
  intro X C TX
  have B9 : tX10_plan_A_b9 = some r → sW X l (zRA 2 1 6) D 2 0 0 9 [] [] [(a_t, .inr (10, [.ref a_t_reader, .ref a_t_exchange, .ref a_t_now, .ref a_t_history, .ref a_t_slots, .ref a_t_filled, .ref a_t_bestSet, .ref a_t_planner, .ref a_t_search, .ref a_t_leastCosts]))] := by
    intro h
    exact xi_throw C hls TX rfl zclX10_84 (zm1 (i := 15) rfl rfl) (List.mem_of_getElem? (i := 8) rfl) (zat_fin (zm3 (i := 68) rfl rfl) zat_A zre_A) dX10_plan_9 dX10_plan_12 dX10_plan_13 dX10_plan_15 dX10_plan_18 ⟨Nat.le_of_ble_eq_true rfl, Nat.le_of_ble_eq_true rfl, Nat.le_refl _, Nat.le_refl _⟩ (Nat.le_of_ble_eq_true rfl) ⟨Nat.le_refl _, Nat.le_refl _⟩
  refine xi_drop (L2 := [(0, .ref a_t), (1, .int x1)]) [0, 1] rfl ?_
  refine xi_iload_n C 1 dX10_plan_0 rfl ?_
  refine xi_if_lt C (tgt := 9) dX10_plan_1 rfl (fun c1 => ?_) (fun c1 => ?_)
  · replace h := (if_pos c1).symm.trans h
    refine xi_drop (L2 := []) [] rfl ?_
    exact B9 h
  · replace h := (if_neg c1).symm.trans h
    refine xi_iload_n C 1 dX10_plan_4 rfl ?_
    refine xi_iconst C (v := 3) dX10_plan_5 rfl ?_
    refine xi_icmp_le C (tgt := 19) dX10_plan_6 rfl (fun c2 => ?_) (fun c2 => ?_)
    · replace h := (if_pos c2).symm.trans h
      exact zno h
    · replace h := (if_neg c2).symm.trans h
      refine xi_drop (L2 := []) [] rfl ?_
      exact B9 h
def tX10_fewest_A_b9 : Option Unit := some ()
def tX10_fewest_A (x1 : Int32) : Option Unit := if x1 < 0 then tX10_fewest_A_b9 else if x1 ≤ 4 then none else tX10_fewest_A_b9
set_option maxRecDepth 100000 in
set_option maxHeartbeats 4000000 in
theorem ktX10_fewest_A (l : Launch) (hls : l.stackTraces = false) (D : va_G) (cT : Nat → ClassId) (a_t : Nat) (a_t_reader : Nat) (a_t_exchange : Nat) (a_t_now : Nat) (a_t_history : Nat) (a_t_slots : Nat) (a_t_filled : Nat) (a_t_bestSet : Nat) (a_t_planner : Nat) (a_t_search : Nat) (a_t_leastCosts : Nat) (x1 : Int32) (r : Unit) (h : tX10_fewest_A x1 = some r) : sT l yX10_fewest cX10_fewest 2 (some .int) (zRA 2 1 6) 1 6 D cT [.ref a_t, .int x1] [(a_t, .inr (10, [.ref a_t_reader, .ref a_t_exchange, .ref a_t_now, .ref a_t_history, .ref a_t_slots, .ref a_t_filled, .ref a_t_bestSet, .ref a_t_planner, .ref a_t_search, .ref a_t_leastCosts]))] "java/lang/IllegalArgumentException" := by
  refine sT_of rfl (Nat.le_of_ble_eq_true rfl) ?_
  intro X C TX
  have B9 : tX10_fewest_A_b9 = some r → sW X l (zRA 2 1 6) D 2 0 0 9 [] [] [(a_t, .inr (10, [.ref a_t_reader, .ref a_t_exchange, .ref a_t_now, .ref a_t_history, .ref a_t_slots, .ref a_t_filled, .ref a_t_bestSet, .ref a_t_planner, .ref a_t_search, .ref a_t_leastCosts]))] := by
    intro h
    exact xi_throw C hls TX rfl zclX10_84 (zm1 (i := 15) rfl rfl) (List.mem_of_getElem? (i := 9) rfl) (zat_fin (zm3 (i := 68) rfl rfl) zat_A zre_A) dX10_fewest_9 dX10_fewest_12 dX10_fewest_13 dX10_fewest_15 dX10_fewest_18 ⟨Nat.le_of_ble_eq_true rfl, Nat.le_of_ble_eq_true rfl, Nat.le_refl _, Nat.le_refl _⟩ (Nat.le_of_ble_eq_true rfl) ⟨Nat.le_refl _, Nat.le_refl _⟩
  refine xi_drop (L2 := [(0, .ref a_t), (1, .int x1)]) [0, 1] rfl ?_
  refine xi_iload_n C 1 dX10_fewest_0 rfl ?_
  refine xi_if_lt C (tgt := 9) dX10_fewest_1 rfl (fun c1 => ?_) (fun c1 => ?_)
  · replace h := (if_pos c1).symm.trans h
    refine xi_drop (L2 := []) [] rfl ?_
    exact B9 h
  · replace h := (if_neg c1).symm.trans h
    refine xi_iload_n C 1 dX10_fewest_4 rfl ?_
    refine xi_iconst C (v := 4) dX10_fewest_5 rfl ?_
    refine xi_icmp_le C (tgt := 19) dX10_fewest_6 rfl (fun c2 => ?_) (fun c2 => ?_)
    · replace h := (if_pos c2).symm.trans h
      exact zno h
    · replace h := (if_neg c2).symm.trans h
      refine xi_drop (L2 := []) [] rfl ?_
      exact B9 h
def tX10_fewest_S (t_exchange_people : Int32) (x1 : Int32) : Option Unit := if x1 < 0 then none else if x1 ≤ 4 then if t_exchange_people ≤ 6 then none else some () else none
set_option maxRecDepth 100000 in
set_option maxHeartbeats 4000000 in
theorem ktX10_fewest_S (l : Launch) (hls : l.stackTraces = false) (D : va_G) (cT : Nat → ClassId) (a_t : Nat) (a_t_reader : Nat) (a_t_exchange : Nat) (a_t_now : Nat) (a_t_history : Nat) (a_t_slots : Nat) (a_t_filled : Nat) (a_t_bestSet : Nat) (a_t_planner : Nat) (a_t_search : Nat) (a_t_leastCosts : Nat) (a_t_exchange_first : Nat) (a_t_exchange_second : Nat) (a_t_exchange_cost : Nat) (a_t_exchange_oneWay : Nat) (a_t_exchange_breaks : Nat) (a_t_exchange_absences : Nat) (t_exchange_people : Int32) (t_exchange_lineCount : Int32) (x1 : Int32) (r : Unit) (h : tX10_fewest_S t_exchange_people x1 = some r) : sT l yX10_fewest cX10_fewest 2 (some .int) (zRA 2 1 6) 1 6 D cT [.ref a_t, .int x1] [(a_t, .inr (10, [.ref a_t_reader, .ref a_t_exchange, .ref a_t_now, .ref a_t_history, .ref a_t_slots, .ref a_t_filled, .ref a_t_bestSet, .ref a_t_planner, .ref a_t_search, .ref a_t_leastCosts])), (a_t_exchange, .inr (1, [.int t_exchange_people, .int t_exchange_lineCount, .ref a_t_exchange_first, .ref a_t_exchange_second, .ref a_t_exchange_cost, .ref a_t_exchange_oneWay, .ref a_t_exchange_breaks, .ref a_t_exchange_absences]))] "java/lang/IllegalStateException" := by
  refine sT_of rfl (Nat.le_of_ble_eq_true rfl) ?_
  intro X C TX
  refine xi_drop (L2 := [(0, .ref a_t), (1, .int x1)]) [0, 1] rfl ?_
  refine xi_iload_n C 1 dX10_fewest_0 rfl ?_
  refine xi_if_lt C (tgt := 9) dX10_fewest_1 rfl (fun c1 => ?_) (fun c1 => ?_)
  · replace h := (if_pos c1).symm.trans h
    exact zno h
  · replace h := (if_neg c1).symm.trans h
    refine xi_iload_n C 1 dX10_fewest_4 rfl ?_
    refine xi_iconst C (v := 4) dX10_fewest_5 rfl ?_
    refine xi_icmp_le C (tgt := 19) dX10_fewest_6 rfl (fun c2 => ?_) (fun c2 => ?_)
    · replace h := (if_pos c2).symm.trans h
      refine xi_aload_n C 0 dX10_fewest_19 rfl ?_
      refine xi_get C zkX10 1 0 zlX10_19 (by decide) rfl rfl dX10_fewest_20 ?_
      refine xi_get C zkX1 0 1 zlX10_70 (by decide) rfl rfl dX10_fewest_23 ?_
      refine xi_bipush C (v := 6) dX10_fewest_26 rfl ?_
      refine xi_icmp_le C (tgt := 41) dX10_fewest_28 rfl (fun c3 => ?_) (fun c3 => ?_)
      · replace h := (if_pos c3).symm.trans h
        exact zno h
      · replace h := (if_neg c3).symm.trans h
        exact xi_throw C hls TX rfl zclX10_225 (zm1 (i := 23) rfl rfl) (List.mem_of_getElem? (i := 10) rfl) (zat_fin (zm4 (i := 140) rfl rfl) zat_S zre_S) dX10_fewest_31 dX10_fewest_34 dX10_fewest_35 dX10_fewest_37 dX10_fewest_40 ⟨Nat.le_of_ble_eq_true rfl, Nat.le_of_ble_eq_true rfl, Nat.le_refl _, Nat.le_refl _⟩ (Nat.le_of_ble_eq_true rfl) ⟨Nat.le_refl _, Nat.le_refl _⟩
    · replace h := (if_neg c2).symm.trans h
      exact zno h
def tX10_soonest_I (t_exchange_people : Int32) (x1 : Int32) (x2 : Int32) : Option Unit := tsel (tX10_requirePerson_I t_exchange_people x1) ((fX10_requirePerson t_exchange_people x1).bind (fun u2 => tsel (tX10_requirePerson_I t_exchange_people x2) (none)))
set_option maxRecDepth 100000 in
set_option maxHeartbeats 4000000 in
theorem ktX10_soonest_I (l : Launch) (hls : l.stackTraces = false) (D : va_G) (cT : Nat → ClassId) (a_t : Nat) (a_t_reader : Nat) (a_t_exchange : Nat) (a_t_now : Nat) (a_t_history : Nat) (a_t_slots : Nat) (a_t_filled : Nat) (a_t_bestSet : Nat) (a_t_planner : Nat) (a_t_search : Nat) (a_t_leastCosts : Nat) (a_t_exchange_first : Nat) (a_t_exchange_second : Nat) (a_t_exchange_cost : Nat) (a_t_exchange_oneWay : Nat) (a_t_exchange_breaks : Nat) (a_t_exchange_absences : Nat) (t_exchange_people : Int32) (t_exchange_lineCount : Int32) (x1 : Int32) (x2 : Int32) (r : Unit) (h : tX10_soonest_I t_exchange_people x1 x2 = some r) : sT l yX10_soonest cX10_soonest 5 (some .int) (zRA 3 1 6) 1 6 D cT [.ref a_t, .int x1, .int x2] [(a_t, .inr (10, [.ref a_t_reader, .ref a_t_exchange, .ref a_t_now, .ref a_t_history, .ref a_t_slots, .ref a_t_filled, .ref a_t_bestSet, .ref a_t_planner, .ref a_t_search, .ref a_t_leastCosts])), (a_t_exchange, .inr (1, [.int t_exchange_people, .int t_exchange_lineCount, .ref a_t_exchange_first, .ref a_t_exchange_second, .ref a_t_exchange_cost, .ref a_t_exchange_oneWay, .ref a_t_exchange_breaks, .ref a_t_exchange_absences]))] "java/lang/IndexOutOfBoundsException" := by
  refine sT_of rfl (Nat.le_of_ble_eq_true rfl) ?_
  intro X C TX
  refine xi_drop (L2 := [(0, .ref a_t), (1, .int x1), (2, .int x2)]) [0, 1, 2] rfl ?_
  refine xi_aload_n C 0 dX10_soonest_0 rfl ?_
  refine xi_iload_n C 1 dX10_soonest_1 rfl ?_
  rcases tselE h with ht1 | h
  · exact xt_callV C (ktX10_requirePerson_I l hls D cT a_t a_t_reader a_t_exchange a_t_now a_t_history a_t_slots a_t_filled a_t_bestSet a_t_planner a_t_search a_t_leastCosts a_t_exchange_first a_t_exchange_second a_t_exchange_cost a_t_exchange_oneWay a_t_exchange_breaks a_t_exchange_absences t_exchange_people t_exchange_lineCount x1 () ht1) zcX10_requirePerson (zm4 (i := 52) rfl rfl) ziX10_requirePerson (zrA rfl rfl) ⟨Nat.le_refl _, Nat.le_refl _⟩ rfl [0, 1] rfl rfl zkX10.1 (qr := 0) rfl rfl (Nat.le_of_ble_eq_true rfl) dX10_soonest_2 (zXW_out C TX (Nat.le_refl _) (Nat.le_refl _))
  replace h := ob h
  obtain ⟨u2, hu3, h⟩ := h
  refine xi_callVr C (kX10_requirePerson l D cT a_t a_t_reader a_t_exchange a_t_now a_t_history a_t_slots a_t_filled a_t_bestSet a_t_planner a_t_search a_t_leastCosts a_t_exchange_first a_t_exchange_second a_t_exchange_cost a_t_exchange_oneWay a_t_exchange_breaks a_t_exchange_absences t_exchange_people t_exchange_lineCount x1 u2 hu3) zcX10_requirePerson zmX10_168 ziX10_requirePerson (zrM rfl rfl) z00 rfl [0, 1] rfl rfl zkX10.1 (qr := 0) rfl rfl (Nat.le_of_ble_eq_true rfl) dX10_soonest_2 (fun z4 => ?_)
  refine xi_aload_n C 0 dX10_soonest_5 rfl ?_
  refine xi_iload_n C 2 dX10_soonest_6 rfl ?_
  rcases tselE h with ht5 | h
  · exact xt_callV C (ktX10_requirePerson_I l hls D cT a_t a_t_reader a_t_exchange a_t_now a_t_history a_t_slots a_t_filled a_t_bestSet a_t_planner a_t_search a_t_leastCosts a_t_exchange_first a_t_exchange_second a_t_exchange_cost a_t_exchange_oneWay a_t_exchange_breaks a_t_exchange_absences t_exchange_people t_exchange_lineCount x2 () ht5) zcX10_requirePerson (zm4 (i := 52) rfl rfl) ziX10_requirePerson (zrA rfl rfl) ⟨Nat.le_refl _, Nat.le_refl _⟩ rfl [0, 1] rfl rfl zkX10.1 (qr := 0) rfl rfl (Nat.le_of_ble_eq_true rfl) dX10_soonest_7 (zXW_out C TX (Nat.le_refl _) (Nat.le_refl _))
  exact zno h
def tX10_cheapest_I (t_exchange_people : Int32) (x1 : Int32) (x2 : Int32) : Option Unit := tsel (tX10_requirePerson_I t_exchange_people x1) ((fX10_requirePerson t_exchange_people x1).bind (fun u2 => tsel (tX10_requirePerson_I t_exchange_people x2) (none)))
set_option maxRecDepth 100000 in
set_option maxHeartbeats 4000000 in
theorem ktX10_cheapest_I (l : Launch) (hls : l.stackTraces = false) (D : va_G) (cT : Nat → ClassId) (a_t : Nat) (a_t_reader : Nat) (a_t_exchange : Nat) (a_t_now : Nat) (a_t_history : Nat) (a_t_slots : Nat) (a_t_filled : Nat) (a_t_bestSet : Nat) (a_t_planner : Nat) (a_t_search : Nat) (a_t_leastCosts : Nat) (a_t_exchange_first : Nat) (a_t_exchange_second : Nat) (a_t_exchange_cost : Nat) (a_t_exchange_oneWay : Nat) (a_t_exchange_breaks : Nat) (a_t_exchange_absences : Nat) (t_exchange_people : Int32) (t_exchange_lineCount : Int32) (x1 : Int32) (x2 : Int32) (r : Unit) (h : tX10_cheapest_I t_exchange_people x1 x2 = some r) : sT l yX10_cheapest cX10_cheapest 3 (some .int) (zRA 3 1 6) 1 6 D cT [.ref a_t, .int x1, .int x2] [(a_t, .inr (10, [.ref a_t_reader, .ref a_t_exchange, .ref a_t_now, .ref a_t_history, .ref a_t_slots, .ref a_t_filled, .ref a_t_bestSet, .ref a_t_planner, .ref a_t_search, .ref a_t_leastCosts])), (a_t_exchange, .inr (1, [.int t_exchange_people, .int t_exchange_lineCount, .ref a_t_exchange_first, .ref a_t_exchange_second, .ref a_t_exchange_cost, .ref a_t_exchange_oneWay, .ref a_t_exchange_breaks, .ref a_t_exchange_absences]))] "java/lang/IndexOutOfBoundsException" := by
  refine sT_of rfl (Nat.le_of_ble_eq_true rfl) ?_
  intro X C TX
  refine xi_drop (L2 := [(0, .ref a_t), (1, .int x1), (2, .int x2)]) [0, 1, 2] rfl ?_
  refine xi_aload_n C 0 dX10_cheapest_0 rfl ?_
  refine xi_iload_n C 1 dX10_cheapest_1 rfl ?_
  rcases tselE h with ht1 | h
  · exact xt_callV C (ktX10_requirePerson_I l hls D cT a_t a_t_reader a_t_exchange a_t_now a_t_history a_t_slots a_t_filled a_t_bestSet a_t_planner a_t_search a_t_leastCosts a_t_exchange_first a_t_exchange_second a_t_exchange_cost a_t_exchange_oneWay a_t_exchange_breaks a_t_exchange_absences t_exchange_people t_exchange_lineCount x1 () ht1) zcX10_requirePerson (zm4 (i := 52) rfl rfl) ziX10_requirePerson (zrA rfl rfl) ⟨Nat.le_refl _, Nat.le_refl _⟩ rfl [0, 1] rfl rfl zkX10.1 (qr := 0) rfl rfl (Nat.le_of_ble_eq_true rfl) dX10_cheapest_2 (zXW_out C TX (Nat.le_refl _) (Nat.le_refl _))
  replace h := ob h
  obtain ⟨u2, hu3, h⟩ := h
  refine xi_callVr C (kX10_requirePerson l D cT a_t a_t_reader a_t_exchange a_t_now a_t_history a_t_slots a_t_filled a_t_bestSet a_t_planner a_t_search a_t_leastCosts a_t_exchange_first a_t_exchange_second a_t_exchange_cost a_t_exchange_oneWay a_t_exchange_breaks a_t_exchange_absences t_exchange_people t_exchange_lineCount x1 u2 hu3) zcX10_requirePerson zmX10_168 ziX10_requirePerson (zrM rfl rfl) z00 rfl [0, 1] rfl rfl zkX10.1 (qr := 0) rfl rfl (Nat.le_of_ble_eq_true rfl) dX10_cheapest_2 (fun z4 => ?_)
  refine xi_aload_n C 0 dX10_cheapest_5 rfl ?_
  refine xi_iload_n C 2 dX10_cheapest_6 rfl ?_
  rcases tselE h with ht5 | h
  · exact xt_callV C (ktX10_requirePerson_I l hls D cT a_t a_t_reader a_t_exchange a_t_now a_t_history a_t_slots a_t_filled a_t_bestSet a_t_planner a_t_search a_t_leastCosts a_t_exchange_first a_t_exchange_second a_t_exchange_cost a_t_exchange_oneWay a_t_exchange_breaks a_t_exchange_absences t_exchange_people t_exchange_lineCount x2 () ht5) zcX10_requirePerson (zm4 (i := 52) rfl rfl) ziX10_requirePerson (zrA rfl rfl) ⟨Nat.le_refl _, Nat.le_refl _⟩ rfl [0, 1] rfl rfl zkX10.1 (qr := 0) rfl rfl (Nat.le_of_ble_eq_true rfl) dX10_cheapest_7 (zXW_out C TX (Nat.le_refl _) (Nat.le_refl _))
  exact zno h
def tX10_arrange_I (t_exchange_lineCount : Int32) (x1 : Int32) : Option Unit := tsel (tX10_requireLine_I t_exchange_lineCount x1) (none)
set_option maxRecDepth 100000 in
set_option maxHeartbeats 4000000 in
theorem ktX10_arrange_I (l : Launch) (hls : l.stackTraces = false) (D : va_G) (cT : Nat → ClassId) (a_t : Nat) (a_t_reader : Nat) (a_t_exchange : Nat) (a_t_now : Nat) (a_t_history : Nat) (a_t_slots : Nat) (a_t_filled : Nat) (a_t_bestSet : Nat) (a_t_planner : Nat) (a_t_search : Nat) (a_t_leastCosts : Nat) (a_t_exchange_first : Nat) (a_t_exchange_second : Nat) (a_t_exchange_cost : Nat) (a_t_exchange_oneWay : Nat) (a_t_exchange_breaks : Nat) (a_t_exchange_absences : Nat) (t_exchange_people : Int32) (t_exchange_lineCount : Int32) (x1 : Int32) (r : Unit) (h : tX10_arrange_I t_exchange_lineCount x1 = some r) : sT l yX10_arrange cX10_arrange 2 (some .int) (zRA 3 1 6) 1 6 D cT [.ref a_t, .int x1] [(a_t, .inr (10, [.ref a_t_reader, .ref a_t_exchange, .ref a_t_now, .ref a_t_history, .ref a_t_slots, .ref a_t_filled, .ref a_t_bestSet, .ref a_t_planner, .ref a_t_search, .ref a_t_leastCosts])), (a_t_exchange, .inr (1, [.int t_exchange_people, .int t_exchange_lineCount, .ref a_t_exchange_first, .ref a_t_exchange_second, .ref a_t_exchange_cost, .ref a_t_exchange_oneWay, .ref a_t_exchange_breaks, .ref a_t_exchange_absences]))] "java/lang/IndexOutOfBoundsException" := by
  refine sT_of rfl (Nat.le_of_ble_eq_true rfl) ?_
  intro X C TX
  refine xi_drop (L2 := [(0, .ref a_t), (1, .int x1)]) [0, 1] rfl ?_
  refine xi_aload_n C 0 dX10_arrange_0 rfl ?_
  refine xi_iload_n C 1 dX10_arrange_1 rfl ?_
  rcases tselE h with ht1 | h
  · exact xt_callV C (ktX10_requireLine_I l hls D cT a_t a_t_reader a_t_exchange a_t_now a_t_history a_t_slots a_t_filled a_t_bestSet a_t_planner a_t_search a_t_leastCosts a_t_exchange_first a_t_exchange_second a_t_exchange_cost a_t_exchange_oneWay a_t_exchange_breaks a_t_exchange_absences t_exchange_people t_exchange_lineCount x1 () ht1) zcX10_requireLine (zm4 (i := 11) rfl rfl) ziX10_requireLine (zrA rfl rfl) ⟨Nat.le_refl _, Nat.le_refl _⟩ rfl [0, 1] rfl rfl zkX10.1 (qr := 0) rfl rfl (Nat.le_of_ble_eq_true rfl) dX10_arrange_2 (zXW_out C TX (Nat.le_refl _) (Nat.le_refl _))
  exact zno h
def tX10_arrange_S (t_exchange_lineCount : Int32) (t_exchange_first : Nat → Int32) (t_exchange_second : Nat → Int32) (t_exchange_breaks_count : Int32) (t_exchange_breaks_whose : Nat → Int32) (t_exchange_breaks_from : Nat → Int32) (t_exchange_breaks_until : Nat → Int32) (t_exchange_absences_count : Int32) (t_exchange_absences_whose : Nat → Int32) (t_exchange_absences_from : Nat → Int32) (t_exchange_absences_until : Nat → Int32) (t_now_arrangedLines : Int32) (t_now_cutLines : Int32) (t_now_rounds : Int32) (x1 : Int32) : Option Unit := (fX10_requireLine t_exchange_lineCount x1).bind (fun u1 => if (fX10_isIn t_now_arrangedLines x1) = 0 then (fX10_canArrange t_exchange_lineCount t_exchange_first t_exchange_second t_exchange_breaks_count t_exchange_breaks_whose t_exchange_breaks_from t_exchange_breaks_until t_exchange_absences_count t_exchange_absences_whose t_exchange_absences_from t_exchange_absences_until t_now_arrangedLines t_now_cutLines t_now_rounds x1).bind (fun u8 => if u8 = 0 then some () else none) else some ())
set_option maxRecDepth 100000 in
set_option maxHeartbeats 4000000 in
theorem ktX10_arrange_S (l : Launch) (hls : l.stackTraces = false) (D : va_G) (cT : Nat → ClassId) (a_t : Nat) (a_t_reader : Nat) (a_t_exchange : Nat) (a_t_now : Nat) (a_t_history : Nat) (a_t_slots : Nat) (a_t_filled : Nat) (a_t_bestSet : Nat) (a_t_planner : Nat) (a_t_search : Nat) (a_t_leastCosts : Nat) (a_t_exchange_first : Nat) (a_t_exchange_second : Nat) (a_t_exchange_cost : Nat) (a_t_exchange_oneWay : Nat) (a_t_exchange_breaks : Nat) (a_t_exchange_absences : Nat) (a_t_exchange_breaks_whose : Nat) (a_t_exchange_breaks_from : Nat) (a_t_exchange_breaks_until : Nat) (a_t_exchange_absences_whose : Nat) (a_t_exchange_absences_from : Nat) (a_t_exchange_absences_until : Nat) (a_t_now_news : Nat) (t_exchange_people : Int32) (t_exchange_lineCount : Int32) (t_exchange_first : Nat → Int32) (t_exchange_second : Nat → Int32) (t_exchange_breaks_count : Int32) (t_exchange_breaks_whose : Nat → Int32) (t_exchange_breaks_from : Nat → Int32) (t_exchange_breaks_until : Nat → Int32) (t_exchange_absences_count : Int32) (t_exchange_absences_whose : Nat → Int32) (t_exchange_absences_from : Nat → Int32) (t_exchange_absences_until : Nat → Int32) (t_now_arrangedLines : Int32) (t_now_cutLines : Int32) (t_now_rounds : Int32) (t_now_calls : Int32) (t_now_latest : Option Nat) (x1 : Int32) (r : Unit) (h : tX10_arrange_S t_exchange_lineCount t_exchange_first t_exchange_second t_exchange_breaks_count t_exchange_breaks_whose t_exchange_breaks_from t_exchange_breaks_until t_exchange_absences_count t_exchange_absences_whose t_exchange_absences_from t_exchange_absences_until t_now_arrangedLines t_now_cutLines t_now_rounds x1 = some r) : sT l yX10_arrange cX10_arrange 2 (some .int) (zRA 5 1 6) 1 6 D cT [.ref a_t, .int x1] [(a_t, .inr (10, [.ref a_t_reader, .ref a_t_exchange, .ref a_t_now, .ref a_t_history, .ref a_t_slots, .ref a_t_filled, .ref a_t_bestSet, .ref a_t_planner, .ref a_t_search, .ref a_t_leastCosts])), (a_t_exchange, .inr (1, [.int t_exchange_people, .int t_exchange_lineCount, .ref a_t_exchange_first, .ref a_t_exchange_second, .ref a_t_exchange_cost, .ref a_t_exchange_oneWay, .ref a_t_exchange_breaks, .ref a_t_exchange_absences])), (a_t_exchange_first, .inl (cT 0, 24, .inl t_exchange_first)), (a_t_exchange_second, .inl (cT 0, 24, .inl t_exchange_second)), (a_t_exchange_breaks, .inr (8, [.ref a_t_exchange_breaks_whose, .ref a_t_exchange_breaks_from, .ref a_t_exchange_breaks_until, .int t_exchange_breaks_count])), (a_t_exchange_breaks_whose, .inl (cT 0, 12, .inl t_exchange_breaks_whose)), (a_t_exchange_breaks_from, .inl (cT 0, 12, .inl t_exchange_breaks_from)), (a_t_exchange_breaks_until, .inl (cT 0, 12, .inl t_exchange_breaks_until)), (a_t_exchange_absences, .inr (8, [.ref a_t_exchange_absences_whose, .ref a_t_exchange_absences_from, .ref a_t_exchange_absences_until, .int t_exchange_absences_count])), (a_t_exchange_absences_whose, .inl (cT 0, 12, .inl t_exchange_absences_whose)), (a_t_exchange_absences_from, .inl (cT 0, 12, .inl t_exchange_absences_from)), (a_t_exchange_absences_until, .inl (cT 0, 12, .inl t_exchange_absences_until)), (a_t_now, .inr (7, [.ref a_t_now_news, .int t_now_arrangedLines, .int t_now_cutLines, .int t_now_rounds, .int t_now_calls, va_rf t_now_latest]))] "java/lang/IllegalStateException" := by
  refine sT_of rfl (Nat.le_of_ble_eq_true rfl) ?_
  intro X C TX
  refine xi_drop (L2 := [(0, .ref a_t), (1, .int x1)]) [0, 1] rfl ?_
  refine xi_aload_n C 0 dX10_arrange_0 rfl ?_
  refine xi_iload_n C 1 dX10_arrange_1 rfl ?_
  replace h := ob h
  obtain ⟨u1, hu2, h⟩ := h
  refine xi_callVr C (kX10_requireLine l D cT a_t a_t_reader a_t_exchange a_t_now a_t_history a_t_slots a_t_filled a_t_bestSet a_t_planner a_t_search a_t_leastCosts a_t_exchange_first a_t_exchange_second a_t_exchange_cost a_t_exchange_oneWay a_t_exchange_breaks a_t_exchange_absences t_exchange_people t_exchange_lineCount x1 u1 hu2) zcX10_requireLine zmX10_130 ziX10_requireLine (zrM rfl rfl) z00 rfl [0, 1] rfl rfl zkX10.1 (qr := 0) rfl rfl (Nat.le_of_ble_eq_true rfl) dX10_arrange_2 (fun z3 => ?_)
  refine xi_aload_n C 0 dX10_arrange_5 rfl ?_
  refine xi_get C zkX10 2 0 zlX10_26 (by decide) rfl rfl dX10_arrange_6 ?_
  refine xi_get C zkX7 1 12 zlX10_117 (by decide) rfl rfl dX10_arrange_9 ?_
  refine xi_iload_n C 1 dX10_arrange_12 rfl ?_
  refine xi_callSr C (kX10_isIn l D cT t_now_arrangedLines x1 (fX10_isIn t_now_arrangedLines x1) rfl) zcX10_isIn zmX10_161 zsX10_isIn (zrM rfl rfl) z00 rfl [] rfl rfl rfl (Nat.le_of_ble_eq_true rfl) dX10_arrange_13 (fun z6 => ?_)
  refine xi_if_eq C (tgt := 29) dX10_arrange_16 rfl (fun c7 => ?_) (fun c7 => ?_)
  · replace h := (if_pos c7).symm.trans h
    refine xi_aload_n C 0 dX10_arrange_29 rfl ?_
    refine xi_iload_n C 1 dX10_arrange_30 rfl ?_
    replace h := ob h
    obtain ⟨u8, hu9, h⟩ := h
    refine xi_callVr C (kX10_canArrange l D cT a_t a_t_reader a_t_exchange a_t_now a_t_history a_t_slots a_t_filled a_t_bestSet a_t_planner a_t_search a_t_leastCosts a_t_exchange_first a_t_exchange_second a_t_exchange_cost a_t_exchange_oneWay a_t_exchange_breaks a_t_exchange_absences a_t_exchange_breaks_whose a_t_exchange_breaks_from a_t_exchange_breaks_until a_t_exchange_absences_whose a_t_exchange_absences_from a_t_exchange_absences_until a_t_now_news t_exchange_people t_exchange_lineCount t_exchange_first t_exchange_second t_exchange_breaks_count t_exchange_breaks_whose t_exchange_breaks_from t_exchange_breaks_until t_exchange_absences_count t_exchange_absences_whose t_exchange_absences_from t_exchange_absences_until t_now_arrangedLines t_now_cutLines t_now_rounds t_now_calls t_now_latest x1 u8 hu9) zcX10_canArrange zmX10_251 ziX10_canArrange (zrM rfl rfl) z00 rfl [0, 1, 2, 3, 4, 5, 6, 7, 8, 9, 10, 11, 12] rfl rfl zkX10.1 (qr := 0) rfl rfl (Nat.le_of_ble_eq_true rfl) dX10_arrange_31 (fun z10 => ?_)
    refine xi_if_ne C (tgt := 47) dX10_arrange_34 rfl (fun c11 => ?_) (fun c11 => ?_)
    · replace h := (if_neg c11).symm.trans h
      exact zno h
    · replace h := (if_pos c11).symm.trans h
      exact xi_throw C hls TX rfl zclX10_225 (zm1 (i := 23) rfl rfl) (List.mem_of_getElem? (i := 12) rfl) (zat_fin (zm4 (i := 140) rfl rfl) zat_S zre_S) dX10_arrange_37 dX10_arrange_40 dX10_arrange_41 dX10_arrange_43 dX10_arrange_46 ⟨Nat.le_of_ble_eq_true rfl, Nat.le_of_ble_eq_true rfl, Nat.le_refl _, Nat.le_refl _⟩ (Nat.le_of_ble_eq_true rfl) ⟨Nat.le_refl _, Nat.le_refl _⟩
  · replace h := (if_neg c7).symm.trans h
    exact xi_throw C hls TX rfl zclX10_225 (zm1 (i := 23) rfl rfl) (List.mem_of_getElem? (i := 11) rfl) (zat_fin (zm4 (i := 140) rfl rfl) zat_S zre_S) dX10_arrange_19 dX10_arrange_22 dX10_arrange_23 dX10_arrange_25 dX10_arrange_28 ⟨Nat.le_of_ble_eq_true rfl, Nat.le_of_ble_eq_true rfl, Nat.le_refl _, Nat.le_refl _⟩ (Nat.le_of_ble_eq_true rfl) ⟨Nat.le_refl _, Nat.le_refl _⟩
def tX10_takeBack_I (t_exchange_lineCount : Int32) (x1 : Int32) : Option Unit := tsel (tX10_requireLine_I t_exchange_lineCount x1) (none)
set_option maxRecDepth 100000 in
set_option maxHeartbeats 4000000 in
theorem ktX10_takeBack_I (l : Launch) (hls : l.stackTraces = false) (D : va_G) (cT : Nat → ClassId) (a_t : Nat) (a_t_reader : Nat) (a_t_exchange : Nat) (a_t_now : Nat) (a_t_history : Nat) (a_t_slots : Nat) (a_t_filled : Nat) (a_t_bestSet : Nat) (a_t_planner : Nat) (a_t_search : Nat) (a_t_leastCosts : Nat) (a_t_exchange_first : Nat) (a_t_exchange_second : Nat) (a_t_exchange_cost : Nat) (a_t_exchange_oneWay : Nat) (a_t_exchange_breaks : Nat) (a_t_exchange_absences : Nat) (t_exchange_people : Int32) (t_exchange_lineCount : Int32) (x1 : Int32) (r : Unit) (h : tX10_takeBack_I t_exchange_lineCount x1 = some r) : sT l yX10_takeBack cX10_takeBack 2 (some .int) (zRA 3 1 6) 1 6 D cT [.ref a_t, .int x1] [(a_t, .inr (10, [.ref a_t_reader, .ref a_t_exchange, .ref a_t_now, .ref a_t_history, .ref a_t_slots, .ref a_t_filled, .ref a_t_bestSet, .ref a_t_planner, .ref a_t_search, .ref a_t_leastCosts])), (a_t_exchange, .inr (1, [.int t_exchange_people, .int t_exchange_lineCount, .ref a_t_exchange_first, .ref a_t_exchange_second, .ref a_t_exchange_cost, .ref a_t_exchange_oneWay, .ref a_t_exchange_breaks, .ref a_t_exchange_absences]))] "java/lang/IndexOutOfBoundsException" := by
  refine sT_of rfl (Nat.le_of_ble_eq_true rfl) ?_
  intro X C TX
  refine xi_drop (L2 := [(0, .ref a_t), (1, .int x1)]) [0, 1] rfl ?_
  refine xi_aload_n C 0 dX10_takeBack_0 rfl ?_
  refine xi_iload_n C 1 dX10_takeBack_1 rfl ?_
  rcases tselE h with ht1 | h
  · exact xt_callV C (ktX10_requireLine_I l hls D cT a_t a_t_reader a_t_exchange a_t_now a_t_history a_t_slots a_t_filled a_t_bestSet a_t_planner a_t_search a_t_leastCosts a_t_exchange_first a_t_exchange_second a_t_exchange_cost a_t_exchange_oneWay a_t_exchange_breaks a_t_exchange_absences t_exchange_people t_exchange_lineCount x1 () ht1) zcX10_requireLine (zm4 (i := 11) rfl rfl) ziX10_requireLine (zrA rfl rfl) ⟨Nat.le_refl _, Nat.le_refl _⟩ rfl [0, 1] rfl rfl zkX10.1 (qr := 0) rfl rfl (Nat.le_of_ble_eq_true rfl) dX10_takeBack_2 (zXW_out C TX (Nat.le_refl _) (Nat.le_refl _))
  exact zno h
def tX10_takeBack_S (t_exchange_lineCount : Int32) (t_now_arrangedLines : Int32) (x1 : Int32) : Option Unit := (fX10_requireLine t_exchange_lineCount x1).bind (fun u1 => if (fX10_isIn t_now_arrangedLines x1) = 0 then some () else none)
set_option maxRecDepth 100000 in
set_option maxHeartbeats 4000000 in
theorem ktX10_takeBack_S (l : Launch) (hls : l.stackTraces = false) (D : va_G) (cT : Nat → ClassId) (a_t : Nat) (a_t_reader : Nat) (a_t_exchange : Nat) (a_t_now : Nat) (a_t_history : Nat) (a_t_slots : Nat) (a_t_filled : Nat) (a_t_bestSet : Nat) (a_t_planner : Nat) (a_t_search : Nat) (a_t_leastCosts : Nat) (a_t_exchange_first : Nat) (a_t_exchange_second : Nat) (a_t_exchange_cost : Nat) (a_t_exchange_oneWay : Nat) (a_t_exchange_breaks : Nat) (a_t_exchange_absences : Nat) (a_t_now_news : Nat) (t_exchange_people : Int32) (t_exchange_lineCount : Int32) (t_now_arrangedLines : Int32) (t_now_cutLines : Int32) (t_now_rounds : Int32) (t_now_calls : Int32) (t_now_latest : Option Nat) (x1 : Int32) (r : Unit) (h : tX10_takeBack_S t_exchange_lineCount t_now_arrangedLines x1 = some r) : sT l yX10_takeBack cX10_takeBack 2 (some .int) (zRA 2 1 6) 1 6 D cT [.ref a_t, .int x1] [(a_t, .inr (10, [.ref a_t_reader, .ref a_t_exchange, .ref a_t_now, .ref a_t_history, .ref a_t_slots, .ref a_t_filled, .ref a_t_bestSet, .ref a_t_planner, .ref a_t_search, .ref a_t_leastCosts])), (a_t_exchange, .inr (1, [.int t_exchange_people, .int t_exchange_lineCount, .ref a_t_exchange_first, .ref a_t_exchange_second, .ref a_t_exchange_cost, .ref a_t_exchange_oneWay, .ref a_t_exchange_breaks, .ref a_t_exchange_absences])), (a_t_now, .inr (7, [.ref a_t_now_news, .int t_now_arrangedLines, .int t_now_cutLines, .int t_now_rounds, .int t_now_calls, va_rf t_now_latest]))] "java/lang/IllegalStateException" := by
  refine sT_of rfl (Nat.le_of_ble_eq_true rfl) ?_
  intro X C TX
  refine xi_drop (L2 := [(0, .ref a_t), (1, .int x1)]) [0, 1] rfl ?_
  refine xi_aload_n C 0 dX10_takeBack_0 rfl ?_
  refine xi_iload_n C 1 dX10_takeBack_1 rfl ?_
  replace h := ob h
  obtain ⟨u1, hu2, h⟩ := h
  refine xi_callVr C (kX10_requireLine l D cT a_t a_t_reader a_t_exchange a_t_now a_t_history a_t_slots a_t_filled a_t_bestSet a_t_planner a_t_search a_t_leastCosts a_t_exchange_first a_t_exchange_second a_t_exchange_cost a_t_exchange_oneWay a_t_exchange_breaks a_t_exchange_absences t_exchange_people t_exchange_lineCount x1 u1 hu2) zcX10_requireLine zmX10_130 ziX10_requireLine (zrM rfl rfl) z00 rfl [0, 1] rfl rfl zkX10.1 (qr := 0) rfl rfl (Nat.le_of_ble_eq_true rfl) dX10_takeBack_2 (fun z3 => ?_)
  refine xi_aload_n C 0 dX10_takeBack_5 rfl ?_
  refine xi_get C zkX10 2 0 zlX10_26 (by decide) rfl rfl dX10_takeBack_6 ?_
  refine xi_get C zkX7 1 2 zlX10_117 (by decide) rfl rfl dX10_takeBack_9 ?_
  refine xi_iload_n C 1 dX10_takeBack_12 rfl ?_
  refine xi_callSr C (kX10_isIn l D cT t_now_arrangedLines x1 (fX10_isIn t_now_arrangedLines x1) rfl) zcX10_isIn zmX10_161 zsX10_isIn (zrM rfl rfl) z00 rfl [] rfl rfl rfl (Nat.le_of_ble_eq_true rfl) dX10_takeBack_13 (fun z6 => ?_)
  refine xi_if_ne C (tgt := 30) dX10_takeBack_16 rfl (fun c7 => ?_) (fun c7 => ?_)
  · replace h := (if_neg c7).symm.trans h
    exact zno h
  · replace h := (if_pos c7).symm.trans h
    exact xi_throwW C hls TX rfl zclX10_225 (zm1 (i := 23) rfl rfl) (List.mem_of_getElem? (i := 13) rfl) (zat_fin (zm4 (i := 140) rfl rfl) zat_S zre_S) dX10_takeBack_19 dX10_takeBack_22 dX10_takeBack_23 dX10_takeBack_26 dX10_takeBack_29 ⟨Nat.le_of_ble_eq_true rfl, Nat.le_of_ble_eq_true rfl, Nat.le_refl _, Nat.le_refl _⟩ (Nat.le_of_ble_eq_true rfl) ⟨Nat.le_refl _, Nat.le_refl _⟩
def tX10_ring_S (t_now_rounds : Int32) : Option Unit := if t_now_rounds < 9999 then none else some ()
set_option maxRecDepth 100000 in
set_option maxHeartbeats 4000000 in
theorem ktX10_ring_S (l : Launch) (hls : l.stackTraces = false) (D : va_G) (cT : Nat → ClassId) (a_t : Nat) (a_t_reader : Nat) (a_t_exchange : Nat) (a_t_now : Nat) (a_t_history : Nat) (a_t_slots : Nat) (a_t_filled : Nat) (a_t_bestSet : Nat) (a_t_planner : Nat) (a_t_search : Nat) (a_t_leastCosts : Nat) (a_t_now_news : Nat) (t_now_arrangedLines : Int32) (t_now_cutLines : Int32) (t_now_rounds : Int32) (t_now_calls : Int32) (t_now_latest : Option Nat) (r : Unit) (h : tX10_ring_S t_now_rounds = some r) : sT l yX10_ring cX10_ring 2 (some .int) (zRA 2 1 6) 1 6 D cT [.ref a_t] [(a_t, .inr (10, [.ref a_t_reader, .ref a_t_exchange, .ref a_t_now, .ref a_t_history, .ref a_t_slots, .ref a_t_filled, .ref a_t_bestSet, .ref a_t_planner, .ref a_t_search, .ref a_t_leastCosts])), (a_t_now, .inr (7, [.ref a_t_now_news, .int t_now_arrangedLines, .int t_now_cutLines, .int t_now_rounds, .int t_now_calls, va_rf t_now_latest]))] "java/lang/IllegalStateException" := by
  refine sT_of rfl (Nat.le_of_ble_eq_true rfl) ?_
  intro X C TX
  refine xi_drop (L2 := [(0, .ref a_t)]) [0] rfl ?_
  refine xi_aload_n C 0 dX10_ring_0 rfl ?_
  refine xi_get C zkX10 2 0 zlX10_26 (by decide) rfl rfl dX10_ring_1 ?_
  refine xi_get C zkX7 3 1 zlX10_111 (by decide) rfl rfl dX10_ring_4 ?_
  refine xi_sipush C (v := 9999) dX10_ring_7 rfl ?_
  refine xi_icmp_lt C (tgt := 24) dX10_ring_10 rfl (fun c1 => ?_) (fun c1 => ?_)
  · replace h := (if_pos c1).symm.trans h
    exact zno h
  · replace h := (if_neg c1).symm.trans h
    exact xi_throwW C hls TX rfl zclX10_225 (zm1 (i := 23) rfl rfl) (List.mem_of_getElem? (i := 14) rfl) (zat_fin (zm4 (i := 140) rfl rfl) zat_S zre_S) dX10_ring_13 dX10_ring_16 dX10_ring_17 dX10_ring_20 dX10_ring_23 ⟨Nat.le_of_ble_eq_true rfl, Nat.le_of_ble_eq_true rfl, Nat.le_refl _, Nat.le_refl _⟩ (Nat.le_of_ble_eq_true rfl) ⟨Nat.le_refl _, Nat.le_refl _⟩
def tX10_cut_I (t_exchange_lineCount : Int32) (x1 : Int32) : Option Unit := tsel (tX10_requireLine_I t_exchange_lineCount x1) (none)
set_option maxRecDepth 100000 in
set_option maxHeartbeats 4000000 in
theorem ktX10_cut_I (l : Launch) (hls : l.stackTraces = false) (D : va_G) (cT : Nat → ClassId) (a_t : Nat) (a_t_reader : Nat) (a_t_exchange : Nat) (a_t_now : Nat) (a_t_history : Nat) (a_t_slots : Nat) (a_t_filled : Nat) (a_t_bestSet : Nat) (a_t_planner : Nat) (a_t_search : Nat) (a_t_leastCosts : Nat) (a_t_exchange_first : Nat) (a_t_exchange_second : Nat) (a_t_exchange_cost : Nat) (a_t_exchange_oneWay : Nat) (a_t_exchange_breaks : Nat) (a_t_exchange_absences : Nat) (t_exchange_people : Int32) (t_exchange_lineCount : Int32) (x1 : Int32) (r : Unit) (h : tX10_cut_I t_exchange_lineCount x1 = some r) : sT l yX10_cut cX10_cut 3 (some .boolean) (zRA 3 1 6) 1 6 D cT [.ref a_t, .int x1] [(a_t, .inr (10, [.ref a_t_reader, .ref a_t_exchange, .ref a_t_now, .ref a_t_history, .ref a_t_slots, .ref a_t_filled, .ref a_t_bestSet, .ref a_t_planner, .ref a_t_search, .ref a_t_leastCosts])), (a_t_exchange, .inr (1, [.int t_exchange_people, .int t_exchange_lineCount, .ref a_t_exchange_first, .ref a_t_exchange_second, .ref a_t_exchange_cost, .ref a_t_exchange_oneWay, .ref a_t_exchange_breaks, .ref a_t_exchange_absences]))] "java/lang/IndexOutOfBoundsException" := by
  refine sT_of rfl (Nat.le_of_ble_eq_true rfl) ?_
  intro X C TX
  refine xi_drop (L2 := [(0, .ref a_t), (1, .int x1)]) [0, 1] rfl ?_
  refine xi_aload_n C 0 dX10_cut_0 rfl ?_
  refine xi_iload_n C 1 dX10_cut_1 rfl ?_
  rcases tselE h with ht1 | h
  · exact xt_callV C (ktX10_requireLine_I l hls D cT a_t a_t_reader a_t_exchange a_t_now a_t_history a_t_slots a_t_filled a_t_bestSet a_t_planner a_t_search a_t_leastCosts a_t_exchange_first a_t_exchange_second a_t_exchange_cost a_t_exchange_oneWay a_t_exchange_breaks a_t_exchange_absences t_exchange_people t_exchange_lineCount x1 () ht1) zcX10_requireLine (zm4 (i := 11) rfl rfl) ziX10_requireLine (zrA rfl rfl) ⟨Nat.le_refl _, Nat.le_refl _⟩ rfl [0, 1] rfl rfl zkX10.1 (qr := 0) rfl rfl (Nat.le_of_ble_eq_true rfl) dX10_cut_2 (zXW_out C TX (Nat.le_refl _) (Nat.le_refl _))
  exact zno h
def tX10_cut_S (t_exchange_lineCount : Int32) (t_now_cutLines : Int32) (x1 : Int32) : Option Unit := (fX10_requireLine t_exchange_lineCount x1).bind (fun u1 => if (fX10_isIn t_now_cutLines x1) = 0 then none else some ())
set_option maxRecDepth 100000 in
set_option maxHeartbeats 4000000 in
theorem ktX10_cut_S (l : Launch) (hls : l.stackTraces = false) (D : va_G) (cT : Nat → ClassId) (a_t : Nat) (a_t_reader : Nat) (a_t_exchange : Nat) (a_t_now : Nat) (a_t_history : Nat) (a_t_slots : Nat) (a_t_filled : Nat) (a_t_bestSet : Nat) (a_t_planner : Nat) (a_t_search : Nat) (a_t_leastCosts : Nat) (a_t_exchange_first : Nat) (a_t_exchange_second : Nat) (a_t_exchange_cost : Nat) (a_t_exchange_oneWay : Nat) (a_t_exchange_breaks : Nat) (a_t_exchange_absences : Nat) (a_t_now_news : Nat) (t_exchange_people : Int32) (t_exchange_lineCount : Int32) (t_now_arrangedLines : Int32) (t_now_cutLines : Int32) (t_now_rounds : Int32) (t_now_calls : Int32) (t_now_latest : Option Nat) (x1 : Int32) (r : Unit) (h : tX10_cut_S t_exchange_lineCount t_now_cutLines x1 = some r) : sT l yX10_cut cX10_cut 3 (some .boolean) (zRA 2 1 6) 1 6 D cT [.ref a_t, .int x1] [(a_t, .inr (10, [.ref a_t_reader, .ref a_t_exchange, .ref a_t_now, .ref a_t_history, .ref a_t_slots, .ref a_t_filled, .ref a_t_bestSet, .ref a_t_planner, .ref a_t_search, .ref a_t_leastCosts])), (a_t_exchange, .inr (1, [.int t_exchange_people, .int t_exchange_lineCount, .ref a_t_exchange_first, .ref a_t_exchange_second, .ref a_t_exchange_cost, .ref a_t_exchange_oneWay, .ref a_t_exchange_breaks, .ref a_t_exchange_absences])), (a_t_now, .inr (7, [.ref a_t_now_news, .int t_now_arrangedLines, .int t_now_cutLines, .int t_now_rounds, .int t_now_calls, va_rf t_now_latest]))] "java/lang/IllegalStateException" := by
  refine sT_of rfl (Nat.le_of_ble_eq_true rfl) ?_
  intro X C TX
  refine xi_drop (L2 := [(0, .ref a_t), (1, .int x1)]) [0, 1] rfl ?_
  refine xi_aload_n C 0 dX10_cut_0 rfl ?_
  refine xi_iload_n C 1 dX10_cut_1 rfl ?_
  replace h := ob h
  obtain ⟨u1, hu2, h⟩ := h
  refine xi_callVr C (kX10_requireLine l D cT a_t a_t_reader a_t_exchange a_t_now a_t_history a_t_slots a_t_filled a_t_bestSet a_t_planner a_t_search a_t_leastCosts a_t_exchange_first a_t_exchange_second a_t_exchange_cost a_t_exchange_oneWay a_t_exchange_breaks a_t_exchange_absences t_exchange_people t_exchange_lineCount x1 u1 hu2) zcX10_requireLine zmX10_130 ziX10_requireLine (zrM rfl rfl) z00 rfl [0, 1] rfl rfl zkX10.1 (qr := 0) rfl rfl (Nat.le_of_ble_eq_true rfl) dX10_cut_2 (fun z3 => ?_)
  refine xi_aload_n C 0 dX10_cut_5 rfl ?_
  refine xi_get C zkX10 2 0 zlX10_26 (by decide) rfl rfl dX10_cut_6 ?_
  refine xi_get C zkX7 2 2 zlX10_125 (by decide) rfl rfl dX10_cut_9 ?_
  refine xi_iload_n C 1 dX10_cut_12 rfl ?_
  refine xi_callSr C (kX10_isIn l D cT t_now_cutLines x1 (fX10_isIn t_now_cutLines x1) rfl) zcX10_isIn zmX10_161 zsX10_isIn (zrM rfl rfl) z00 rfl [] rfl rfl rfl (Nat.le_of_ble_eq_true rfl) dX10_cut_13 (fun z6 => ?_)
  refine xi_if_eq C (tgt := 30) dX10_cut_16 rfl (fun c7 => ?_) (fun c7 => ?_)
  · replace h := (if_pos c7).symm.trans h
    exact zno h
  · replace h := (if_neg c7).symm.trans h
    exact xi_throwW C hls TX rfl zclX10_225 (zm1 (i := 23) rfl rfl) (List.mem_of_getElem? (i := 15) rfl) (zat_fin (zm4 (i := 140) rfl rfl) zat_S zre_S) dX10_cut_19 dX10_cut_22 dX10_cut_23 dX10_cut_26 dX10_cut_29 ⟨Nat.le_of_ble_eq_true rfl, Nat.le_of_ble_eq_true rfl, Nat.le_refl _, Nat.le_refl _⟩ (Nat.le_of_ble_eq_true rfl) ⟨Nat.le_refl _, Nat.le_refl _⟩
def tX10_mend_I (t_exchange_lineCount : Int32) (x1 : Int32) : Option Unit := tsel (tX10_requireLine_I t_exchange_lineCount x1) (none)
set_option maxRecDepth 100000 in
set_option maxHeartbeats 4000000 in
theorem ktX10_mend_I (l : Launch) (hls : l.stackTraces = false) (D : va_G) (cT : Nat → ClassId) (a_t : Nat) (a_t_reader : Nat) (a_t_exchange : Nat) (a_t_now : Nat) (a_t_history : Nat) (a_t_slots : Nat) (a_t_filled : Nat) (a_t_bestSet : Nat) (a_t_planner : Nat) (a_t_search : Nat) (a_t_leastCosts : Nat) (a_t_exchange_first : Nat) (a_t_exchange_second : Nat) (a_t_exchange_cost : Nat) (a_t_exchange_oneWay : Nat) (a_t_exchange_breaks : Nat) (a_t_exchange_absences : Nat) (t_exchange_people : Int32) (t_exchange_lineCount : Int32) (x1 : Int32) (r : Unit) (h : tX10_mend_I t_exchange_lineCount x1 = some r) : sT l yX10_mend cX10_mend 2 (some .int) (zRA 3 1 6) 1 6 D cT [.ref a_t, .int x1] [(a_t, .inr (10, [.ref a_t_reader, .ref a_t_exchange, .ref a_t_now, .ref a_t_history, .ref a_t_slots, .ref a_t_filled, .ref a_t_bestSet, .ref a_t_planner, .ref a_t_search, .ref a_t_leastCosts])), (a_t_exchange, .inr (1, [.int t_exchange_people, .int t_exchange_lineCount, .ref a_t_exchange_first, .ref a_t_exchange_second, .ref a_t_exchange_cost, .ref a_t_exchange_oneWay, .ref a_t_exchange_breaks, .ref a_t_exchange_absences]))] "java/lang/IndexOutOfBoundsException" := by
  refine sT_of rfl (Nat.le_of_ble_eq_true rfl) ?_
  intro X C TX
  refine xi_drop (L2 := [(0, .ref a_t), (1, .int x1)]) [0, 1] rfl ?_
  refine xi_aload_n C 0 dX10_mend_0 rfl ?_
  refine xi_iload_n C 1 dX10_mend_1 rfl ?_
  rcases tselE h with ht1 | h
  · exact xt_callV C (ktX10_requireLine_I l hls D cT a_t a_t_reader a_t_exchange a_t_now a_t_history a_t_slots a_t_filled a_t_bestSet a_t_planner a_t_search a_t_leastCosts a_t_exchange_first a_t_exchange_second a_t_exchange_cost a_t_exchange_oneWay a_t_exchange_breaks a_t_exchange_absences t_exchange_people t_exchange_lineCount x1 () ht1) zcX10_requireLine (zm4 (i := 11) rfl rfl) ziX10_requireLine (zrA rfl rfl) ⟨Nat.le_refl _, Nat.le_refl _⟩ rfl [0, 1] rfl rfl zkX10.1 (qr := 0) rfl rfl (Nat.le_of_ble_eq_true rfl) dX10_mend_2 (zXW_out C TX (Nat.le_refl _) (Nat.le_refl _))
  exact zno h
def tX10_mend_S (t_exchange_lineCount : Int32) (t_now_cutLines : Int32) (x1 : Int32) : Option Unit := (fX10_requireLine t_exchange_lineCount x1).bind (fun u1 => if (fX10_isIn t_now_cutLines x1) = 0 then some () else none)
set_option maxRecDepth 100000 in
set_option maxHeartbeats 4000000 in
theorem ktX10_mend_S (l : Launch) (hls : l.stackTraces = false) (D : va_G) (cT : Nat → ClassId) (a_t : Nat) (a_t_reader : Nat) (a_t_exchange : Nat) (a_t_now : Nat) (a_t_history : Nat) (a_t_slots : Nat) (a_t_filled : Nat) (a_t_bestSet : Nat) (a_t_planner : Nat) (a_t_search : Nat) (a_t_leastCosts : Nat) (a_t_exchange_first : Nat) (a_t_exchange_second : Nat) (a_t_exchange_cost : Nat) (a_t_exchange_oneWay : Nat) (a_t_exchange_breaks : Nat) (a_t_exchange_absences : Nat) (a_t_now_news : Nat) (t_exchange_people : Int32) (t_exchange_lineCount : Int32) (t_now_arrangedLines : Int32) (t_now_cutLines : Int32) (t_now_rounds : Int32) (t_now_calls : Int32) (t_now_latest : Option Nat) (x1 : Int32) (r : Unit) (h : tX10_mend_S t_exchange_lineCount t_now_cutLines x1 = some r) : sT l yX10_mend cX10_mend 2 (some .int) (zRA 2 1 6) 1 6 D cT [.ref a_t, .int x1] [(a_t, .inr (10, [.ref a_t_reader, .ref a_t_exchange, .ref a_t_now, .ref a_t_history, .ref a_t_slots, .ref a_t_filled, .ref a_t_bestSet, .ref a_t_planner, .ref a_t_search, .ref a_t_leastCosts])), (a_t_exchange, .inr (1, [.int t_exchange_people, .int t_exchange_lineCount, .ref a_t_exchange_first, .ref a_t_exchange_second, .ref a_t_exchange_cost, .ref a_t_exchange_oneWay, .ref a_t_exchange_breaks, .ref a_t_exchange_absences])), (a_t_now, .inr (7, [.ref a_t_now_news, .int t_now_arrangedLines, .int t_now_cutLines, .int t_now_rounds, .int t_now_calls, va_rf t_now_latest]))] "java/lang/IllegalStateException" := by
  refine sT_of rfl (Nat.le_of_ble_eq_true rfl) ?_
  intro X C TX
  refine xi_drop (L2 := [(0, .ref a_t), (1, .int x1)]) [0, 1] rfl ?_
  refine xi_aload_n C 0 dX10_mend_0 rfl ?_
  refine xi_iload_n C 1 dX10_mend_1 rfl ?_
  replace h := ob h
  obtain ⟨u1, hu2, h⟩ := h
  refine xi_callVr C (kX10_requireLine l D cT a_t a_t_reader a_t_exchange a_t_now a_t_history a_t_slots a_t_filled a_t_bestSet a_t_planner a_t_search a_t_leastCosts a_t_exchange_first a_t_exchange_second a_t_exchange_cost a_t_exchange_oneWay a_t_exchange_breaks a_t_exchange_absences t_exchange_people t_exchange_lineCount x1 u1 hu2) zcX10_requireLine zmX10_130 ziX10_requireLine (zrM rfl rfl) z00 rfl [0, 1] rfl rfl zkX10.1 (qr := 0) rfl rfl (Nat.le_of_ble_eq_true rfl) dX10_mend_2 (fun z3 => ?_)
  refine xi_aload_n C 0 dX10_mend_5 rfl ?_
  refine xi_get C zkX10 2 0 zlX10_26 (by decide) rfl rfl dX10_mend_6 ?_
  refine xi_get C zkX7 2 2 zlX10_125 (by decide) rfl rfl dX10_mend_9 ?_
  refine xi_iload_n C 1 dX10_mend_12 rfl ?_
  refine xi_callSr C (kX10_isIn l D cT t_now_cutLines x1 (fX10_isIn t_now_cutLines x1) rfl) zcX10_isIn zmX10_161 zsX10_isIn (zrM rfl rfl) z00 rfl [] rfl rfl rfl (Nat.le_of_ble_eq_true rfl) dX10_mend_13 (fun z6 => ?_)
  refine xi_if_ne C (tgt := 30) dX10_mend_16 rfl (fun c7 => ?_) (fun c7 => ?_)
  · replace h := (if_neg c7).symm.trans h
    exact zno h
  · replace h := (if_pos c7).symm.trans h
    exact xi_throwW C hls TX rfl zclX10_225 (zm1 (i := 23) rfl rfl) (List.mem_of_getElem? (i := 16) rfl) (zat_fin (zm4 (i := 140) rfl rfl) zat_S zre_S) dX10_mend_19 dX10_mend_22 dX10_mend_23 dX10_mend_26 dX10_mend_29 ⟨Nat.le_of_ble_eq_true rfl, Nat.le_of_ble_eq_true rfl, Nat.le_refl _, Nat.le_refl _⟩ (Nat.le_of_ble_eq_true rfl) ⟨Nat.le_refl _, Nat.le_refl _⟩
def tX10_tell_I (t_exchange_people : Int32) (x1 : Int32) (x2 : Int32) : Option Unit := tsel (tX10_requirePerson_I t_exchange_people x1) ((fX10_requirePerson t_exchange_people x1).bind (fun u2 => tsel (tX10_requirePerson_I t_exchange_people x2) (none)))
set_option maxRecDepth 100000 in
set_option maxHeartbeats 4000000 in
theorem ktX10_tell_I (l : Launch) (hls : l.stackTraces = false) (D : va_G) (cT : Nat → ClassId) (a_t : Nat) (a_t_reader : Nat) (a_t_exchange : Nat) (a_t_now : Nat) (a_t_history : Nat) (a_t_slots : Nat) (a_t_filled : Nat) (a_t_bestSet : Nat) (a_t_planner : Nat) (a_t_search : Nat) (a_t_leastCosts : Nat) (a_t_exchange_first : Nat) (a_t_exchange_second : Nat) (a_t_exchange_cost : Nat) (a_t_exchange_oneWay : Nat) (a_t_exchange_breaks : Nat) (a_t_exchange_absences : Nat) (t_exchange_people : Int32) (t_exchange_lineCount : Int32) (x1 : Int32) (x2 : Int32) (r : Unit) (h : tX10_tell_I t_exchange_people x1 x2 = some r) : sT l yX10_tell cX10_tell 3 (some .int) (zRA 3 1 6) 1 6 D cT [.ref a_t, .int x1, .int x2] [(a_t, .inr (10, [.ref a_t_reader, .ref a_t_exchange, .ref a_t_now, .ref a_t_history, .ref a_t_slots, .ref a_t_filled, .ref a_t_bestSet, .ref a_t_planner, .ref a_t_search, .ref a_t_leastCosts])), (a_t_exchange, .inr (1, [.int t_exchange_people, .int t_exchange_lineCount, .ref a_t_exchange_first, .ref a_t_exchange_second, .ref a_t_exchange_cost, .ref a_t_exchange_oneWay, .ref a_t_exchange_breaks, .ref a_t_exchange_absences]))] "java/lang/IndexOutOfBoundsException" := by
  refine sT_of rfl (Nat.le_of_ble_eq_true rfl) ?_
  intro X C TX
  refine xi_drop (L2 := [(0, .ref a_t), (1, .int x1), (2, .int x2)]) [0, 1, 2] rfl ?_
  refine xi_aload_n C 0 dX10_tell_0 rfl ?_
  refine xi_iload_n C 1 dX10_tell_1 rfl ?_
  rcases tselE h with ht1 | h
  · exact xt_callV C (ktX10_requirePerson_I l hls D cT a_t a_t_reader a_t_exchange a_t_now a_t_history a_t_slots a_t_filled a_t_bestSet a_t_planner a_t_search a_t_leastCosts a_t_exchange_first a_t_exchange_second a_t_exchange_cost a_t_exchange_oneWay a_t_exchange_breaks a_t_exchange_absences t_exchange_people t_exchange_lineCount x1 () ht1) zcX10_requirePerson (zm4 (i := 52) rfl rfl) ziX10_requirePerson (zrA rfl rfl) ⟨Nat.le_refl _, Nat.le_refl _⟩ rfl [0, 1] rfl rfl zkX10.1 (qr := 0) rfl rfl (Nat.le_of_ble_eq_true rfl) dX10_tell_2 (zXW_out C TX (Nat.le_refl _) (Nat.le_refl _))
  replace h := ob h
  obtain ⟨u2, hu3, h⟩ := h
  refine xi_callVr C (kX10_requirePerson l D cT a_t a_t_reader a_t_exchange a_t_now a_t_history a_t_slots a_t_filled a_t_bestSet a_t_planner a_t_search a_t_leastCosts a_t_exchange_first a_t_exchange_second a_t_exchange_cost a_t_exchange_oneWay a_t_exchange_breaks a_t_exchange_absences t_exchange_people t_exchange_lineCount x1 u2 hu3) zcX10_requirePerson zmX10_168 ziX10_requirePerson (zrM rfl rfl) z00 rfl [0, 1] rfl rfl zkX10.1 (qr := 0) rfl rfl (Nat.le_of_ble_eq_true rfl) dX10_tell_2 (fun z4 => ?_)
  refine xi_aload_n C 0 dX10_tell_5 rfl ?_
  refine xi_iload_n C 2 dX10_tell_6 rfl ?_
  rcases tselE h with ht5 | h
  · exact xt_callV C (ktX10_requirePerson_I l hls D cT a_t a_t_reader a_t_exchange a_t_now a_t_history a_t_slots a_t_filled a_t_bestSet a_t_planner a_t_search a_t_leastCosts a_t_exchange_first a_t_exchange_second a_t_exchange_cost a_t_exchange_oneWay a_t_exchange_breaks a_t_exchange_absences t_exchange_people t_exchange_lineCount x2 () ht5) zcX10_requirePerson (zm4 (i := 52) rfl rfl) ziX10_requirePerson (zrA rfl rfl) ⟨Nat.le_refl _, Nat.le_refl _⟩ rfl [0, 1] rfl rfl zkX10.1 (qr := 0) rfl rfl (Nat.le_of_ble_eq_true rfl) dX10_tell_7 (zXW_out C TX (Nat.le_refl _) (Nat.le_refl _))
  exact zno h
def tX10_tell_S (t_exchange_people : Int32) (t_now_news_pieces : Nat → Int32) (x1 : Int32) (x2 : Int32) : Option Unit := (fX10_requirePerson t_exchange_people x1).bind (fun u1 => (fX10_requirePerson t_exchange_people x2).bind (fun u4 => gd x1 10 (if (fX10_isIn (t_now_news_pieces x1.toNatClampNeg) x2) = 0 then none else some ())))
set_option maxRecDepth 100000 in
set_option maxHeartbeats 4000000 in
theorem ktX10_tell_S (l : Launch) (hls : l.stackTraces = false) (D : va_G) (cT : Nat → ClassId) (a_t : Nat) (a_t_reader : Nat) (a_t_exchange : Nat) (a_t_now : Nat) (a_t_history : Nat) (a_t_slots : Nat) (a_t_filled : Nat) (a_t_bestSet : Nat) (a_t_planner : Nat) (a_t_search : Nat) (a_t_leastCosts : Nat) (a_t_exchange_first : Nat) (a_t_exchange_second : Nat) (a_t_exchange_cost : Nat) (a_t_exchange_oneWay : Nat) (a_t_exchange_breaks : Nat) (a_t_exchange_absences : Nat) (a_t_now_news : Nat) (a_t_now_news_pieces : Nat) (t_exchange_people : Int32) (t_exchange_lineCount : Int32) (t_now_arrangedLines : Int32) (t_now_cutLines : Int32) (t_now_rounds : Int32) (t_now_calls : Int32) (t_now_latest : Option Nat) (t_now_news_people : Int32) (t_now_news_pieces : Nat → Int32) (x1 : Int32) (x2 : Int32) (r : Unit) (h : tX10_tell_S t_exchange_people t_now_news_pieces x1 x2 = some r) : sT l yX10_tell cX10_tell 3 (some .int) (zRA 2 1 6) 1 6 D cT [.ref a_t, .int x1, .int x2] [(a_t, .inr (10, [.ref a_t_reader, .ref a_t_exchange, .ref a_t_now, .ref a_t_history, .ref a_t_slots, .ref a_t_filled, .ref a_t_bestSet, .ref a_t_planner, .ref a_t_search, .ref a_t_leastCosts])), (a_t_exchange, .inr (1, [.int t_exchange_people, .int t_exchange_lineCount, .ref a_t_exchange_first, .ref a_t_exchange_second, .ref a_t_exchange_cost, .ref a_t_exchange_oneWay, .ref a_t_exchange_breaks, .ref a_t_exchange_absences])), (a_t_now, .inr (7, [.ref a_t_now_news, .int t_now_arrangedLines, .int t_now_cutLines, .int t_now_rounds, .int t_now_calls, va_rf t_now_latest])), (a_t_now_news, .inr (3, [.ref a_t_now_news_pieces, .int t_now_news_people])), (a_t_now_news_pieces, .inl (cT 0, 10, .inl t_now_news_pieces))] "java/lang/IllegalStateException" := by
  refine sT_of rfl (Nat.le_of_ble_eq_true rfl) ?_
  intro X C TX
  refine xi_drop (L2 := [(0, .ref a_t), (1, .int x1), (2, .int x2)]) [0, 1, 2] rfl ?_
  refine xi_aload_n C 0 dX10_tell_0 rfl ?_
  refine xi_iload_n C 1 dX10_tell_1 rfl ?_
  replace h := ob h
  obtain ⟨u1, hu2, h⟩ := h
  refine xi_callVr C (kX10_requirePerson l D cT a_t a_t_reader a_t_exchange a_t_now a_t_history a_t_slots a_t_filled a_t_bestSet a_t_planner a_t_search a_t_leastCosts a_t_exchange_first a_t_exchange_second a_t_exchange_cost a_t_exchange_oneWay a_t_exchange_breaks a_t_exchange_absences t_exchange_people t_exchange_lineCount x1 u1 hu2) zcX10_requirePerson zmX10_168 ziX10_requirePerson (zrM rfl rfl) z00 rfl [0, 1] rfl rfl zkX10.1 (qr := 0) rfl rfl (Nat.le_of_ble_eq_true rfl) dX10_tell_2 (fun z3 => ?_)
  refine xi_aload_n C 0 dX10_tell_5 rfl ?_
  refine xi_iload_n C 2 dX10_tell_6 rfl ?_
  replace h := ob h
  obtain ⟨u4, hu5, h⟩ := h
  refine xi_callVr C (kX10_requirePerson l D cT a_t a_t_reader a_t_exchange a_t_now a_t_history a_t_slots a_t_filled a_t_bestSet a_t_planner a_t_search a_t_leastCosts a_t_exchange_first a_t_exchange_second a_t_exchange_cost a_t_exchange_oneWay a_t_exchange_breaks a_t_exchange_absences t_exchange_people t_exchange_lineCount x2 u4 hu5) zcX10_requirePerson zmX10_168 ziX10_requirePerson (zrM rfl rfl) z00 rfl [0, 1] rfl rfl zkX10.1 (qr := 0) rfl rfl (Nat.le_of_ble_eq_true rfl) dX10_tell_7 (fun z6 => ?_)
  refine xi_aload_n C 0 dX10_tell_10 rfl ?_
  refine xi_get C zkX10 2 0 zlX10_26 (by decide) rfl rfl dX10_tell_11 ?_
  refine xi_get C zkX7 0 2 zlX10_171 (by decide) rfl rfl dX10_tell_14 ?_
  refine xi_get C zkX3 0 3 zlX10_175 (by decide) rfl rfl dX10_tell_17 ?_
  refine xi_iload_n C 1 dX10_tell_20 rfl ?_
  replace h := ig h
  obtain ⟨c7, h⟩ := h
  refine xi_iald C 4 rfl c7 dX10_tell_21 ?_
  refine xi_iload_n C 2 dX10_tell_22 rfl ?_
  refine xi_callSr C (kX10_isIn l D cT (t_now_news_pieces x1.toNatClampNeg) x2 (fX10_isIn (t_now_news_pieces x1.toNatClampNeg) x2) rfl) zcX10_isIn zmX10_161 zsX10_isIn (zrM rfl rfl) z00 rfl [] rfl rfl rfl (Nat.le_of_ble_eq_true rfl) dX10_tell_23 (fun z10 => ?_)
  refine xi_if_eq C (tgt := 40) dX10_tell_26 rfl (fun c11 => ?_) (fun c11 => ?_)
  · replace h := (if_pos c11).symm.trans h
    exact zno h
  · replace h := (if_neg c11).symm.trans h
    exact xi_throwW C hls TX rfl zclX10_225 (zm1 (i := 23) rfl rfl) (List.mem_of_getElem? (i := 17) rfl) (zat_fin (zm4 (i := 140) rfl rfl) zat_S zre_S) dX10_tell_29 dX10_tell_32 dX10_tell_33 dX10_tell_36 dX10_tell_39 ⟨Nat.le_of_ble_eq_true rfl, Nat.le_of_ble_eq_true rfl, Nat.le_refl _, Nat.le_refl _⟩ (Nat.le_of_ble_eq_true rfl) ⟨Nat.le_refl _, Nat.le_refl _⟩
def tX10_requireSlot_I_b9 : Option Unit := some ()
def tX10_requireSlot_I (x1 : Int32) : Option Unit := if x1 < 0 then tX10_requireSlot_I_b9 else if x1 < 2 then none else tX10_requireSlot_I_b9
set_option maxRecDepth 100000 in
set_option maxHeartbeats 4000000 in
theorem ktX10_requireSlot_I (l : Launch) (hls : l.stackTraces = false) (D : va_G) (cT : Nat → ClassId) (a_t : Nat) (a_t_reader : Nat) (a_t_exchange : Nat) (a_t_now : Nat) (a_t_history : Nat) (a_t_slots : Nat) (a_t_filled : Nat) (a_t_bestSet : Nat) (a_t_planner : Nat) (a_t_search : Nat) (a_t_leastCosts : Nat) (x1 : Int32) (r : Unit) (h : tX10_requireSlot_I x1 = some r) : sT l yX10_requireSlot cX10_requireSlot 2 none (zRA 2 1 6) 1 6 D cT [.ref a_t, .int x1] [(a_t, .inr (10, [.ref a_t_reader, .ref a_t_exchange, .ref a_t_now, .ref a_t_history, .ref a_t_slots, .ref a_t_filled, .ref a_t_bestSet, .ref a_t_planner, .ref a_t_search, .ref a_t_leastCosts]))] "java/lang/IndexOutOfBoundsException" := by
  refine sT_of rfl (Nat.le_of_ble_eq_true rfl) ?_
  intro X C TX
  have B9 : tX10_requireSlot_I_b9 = some r → sW X l (zRA 2 1 6) D 2 0 0 9 [] [] [(a_t, .inr (10, [.ref a_t_reader, .ref a_t_exchange, .ref a_t_now, .ref a_t_history, .ref a_t_slots, .ref a_t_filled, .ref a_t_bestSet, .ref a_t_planner, .ref a_t_search, .ref a_t_leastCosts]))] := by
    intro h
    exact xi_throwW C hls TX rfl zclX10_296 (zm1 (i := 22) rfl rfl) (List.mem_of_getElem? (i := 18) rfl) (zat_fin (zm4 (i := 25) rfl rfl) zat_I zre_I) dX10_requireSlot_9 dX10_requireSlot_12 dX10_requireSlot_13 dX10_requireSlot_16 dX10_requireSlot_19 ⟨Nat.le_of_ble_eq_true rfl, Nat.le_of_ble_eq_true rfl, Nat.le_refl _, Nat.le_refl _⟩ (Nat.le_of_ble_eq_true rfl) ⟨Nat.le_refl _, Nat.le_refl _⟩
  refine xi_drop (L2 := [(0, .ref a_t), (1, .int x1)]) [0, 1] rfl ?_
  refine xi_iload_n C 1 dX10_requireSlot_0 rfl ?_
  refine xi_if_lt C (tgt := 9) dX10_requireSlot_1 rfl (fun c1 => ?_) (fun c1 => ?_)
  · replace h := (if_pos c1).symm.trans h
    refine xi_drop (L2 := []) [] rfl ?_
    exact B9 h
  · replace h := (if_neg c1).symm.trans h
    refine xi_iload_n C 1 dX10_requireSlot_4 rfl ?_
    refine xi_iconst C (v := 2) dX10_requireSlot_5 rfl ?_
    refine xi_icmp_lt C (tgt := 20) dX10_requireSlot_6 rfl (fun c2 => ?_) (fun c2 => ?_)
    · replace h := (if_pos c2).symm.trans h
      exact zno h
    · replace h := (if_neg c2).symm.trans h
      refine xi_drop (L2 := []) [] rfl ?_
      exact B9 h
def tX10_saveSnapshot_I (x1 : Int32) : Option Unit := tsel (tX10_requireSlot_I x1) (none)
set_option maxRecDepth 100000 in
set_option maxHeartbeats 4000000 in
theorem ktX10_saveSnapshot_I (l : Launch) (hls : l.stackTraces = false) (D : va_G) (cT : Nat → ClassId) (a_t : Nat) (a_t_reader : Nat) (a_t_exchange : Nat) (a_t_now : Nat) (a_t_history : Nat) (a_t_slots : Nat) (a_t_filled : Nat) (a_t_bestSet : Nat) (a_t_planner : Nat) (a_t_search : Nat) (a_t_leastCosts : Nat) (x1 : Int32) (r : Unit) (h : tX10_saveSnapshot_I x1 = some r) : sT l yX10_saveSnapshot cX10_saveSnapshot 3 (some .boolean) (zRA 3 1 6) 1 6 D cT [.ref a_t, .int x1] [(a_t, .inr (10, [.ref a_t_reader, .ref a_t_exchange, .ref a_t_now, .ref a_t_history, .ref a_t_slots, .ref a_t_filled, .ref a_t_bestSet, .ref a_t_planner, .ref a_t_search, .ref a_t_leastCosts]))] "java/lang/IndexOutOfBoundsException" := by
  refine sT_of rfl (Nat.le_of_ble_eq_true rfl) ?_
  intro X C TX
  refine xi_drop (L2 := [(0, .ref a_t), (1, .int x1)]) [0, 1] rfl ?_
  refine xi_aload_n C 0 dX10_saveSnapshot_0 rfl ?_
  refine xi_iload_n C 1 dX10_saveSnapshot_1 rfl ?_
  rcases tselE h with ht1 | h
  · exact xt_callV C (ktX10_requireSlot_I l hls D cT a_t a_t_reader a_t_exchange a_t_now a_t_history a_t_slots a_t_filled a_t_bestSet a_t_planner a_t_search a_t_leastCosts x1 () ht1) zcX10_requireSlot (zm5 (i := 69) rfl rfl) ziX10_requireSlot (zrA rfl rfl) ⟨Nat.le_refl _, Nat.le_refl _⟩ rfl [0] rfl rfl zkX10.1 (qr := 0) rfl rfl (Nat.le_of_ble_eq_true rfl) dX10_saveSnapshot_2 (zXW_out C TX (Nat.le_refl _) (Nat.le_refl _))
  exact zno h
def tX10_restoreSnapshot_I (x1 : Int32) : Option Unit := tsel (tX10_requireSlot_I x1) (none)
set_option maxRecDepth 100000 in
set_option maxHeartbeats 4000000 in
theorem ktX10_restoreSnapshot_I (l : Launch) (hls : l.stackTraces = false) (D : va_G) (cT : Nat → ClassId) (a_t : Nat) (a_t_reader : Nat) (a_t_exchange : Nat) (a_t_now : Nat) (a_t_history : Nat) (a_t_slots : Nat) (a_t_filled : Nat) (a_t_bestSet : Nat) (a_t_planner : Nat) (a_t_search : Nat) (a_t_leastCosts : Nat) (x1 : Int32) (r : Unit) (h : tX10_restoreSnapshot_I x1 = some r) : sT l yX10_restoreSnapshot cX10_restoreSnapshot 2 (some .int) (zRA 3 1 6) 1 6 D cT [.ref a_t, .int x1] [(a_t, .inr (10, [.ref a_t_reader, .ref a_t_exchange, .ref a_t_now, .ref a_t_history, .ref a_t_slots, .ref a_t_filled, .ref a_t_bestSet, .ref a_t_planner, .ref a_t_search, .ref a_t_leastCosts]))] "java/lang/IndexOutOfBoundsException" := by
  refine sT_of rfl (Nat.le_of_ble_eq_true rfl) ?_
  intro X C TX
  refine xi_drop (L2 := [(0, .ref a_t), (1, .int x1)]) [0, 1] rfl ?_
  refine xi_aload_n C 0 dX10_restoreSnapshot_0 rfl ?_
  refine xi_iload_n C 1 dX10_restoreSnapshot_1 rfl ?_
  rcases tselE h with ht1 | h
  · exact xt_callV C (ktX10_requireSlot_I l hls D cT a_t a_t_reader a_t_exchange a_t_now a_t_history a_t_slots a_t_filled a_t_bestSet a_t_planner a_t_search a_t_leastCosts x1 () ht1) zcX10_requireSlot (zm5 (i := 69) rfl rfl) ziX10_requireSlot (zrA rfl rfl) ⟨Nat.le_refl _, Nat.le_refl _⟩ rfl [0] rfl rfl zkX10.1 (qr := 0) rfl rfl (Nat.le_of_ble_eq_true rfl) dX10_restoreSnapshot_2 (zXW_out C TX (Nat.le_refl _) (Nat.le_refl _))
  exact zno h
def tX10_restoreSnapshot_S (t_filled : Nat → Int32) (x1 : Int32) : Option Unit := (fX10_requireSlot x1).bind (fun u1 => gd x1 2 (if (t_filled x1.toNatClampNeg) = 0 then some () else none))
set_option maxRecDepth 100000 in
set_option maxHeartbeats 4000000 in
theorem ktX10_restoreSnapshot_S (l : Launch) (hls : l.stackTraces = false) (D : va_G) (cT : Nat → ClassId) (a_t : Nat) (a_t_reader : Nat) (a_t_exchange : Nat) (a_t_now : Nat) (a_t_history : Nat) (a_t_slots : Nat) (a_t_filled : Nat) (a_t_bestSet : Nat) (a_t_planner : Nat) (a_t_search : Nat) (a_t_leastCosts : Nat) (t_filled : Nat → Int32) (x1 : Int32) (r : Unit) (h : tX10_restoreSnapshot_S t_filled x1 = some r) : sT l yX10_restoreSnapshot cX10_restoreSnapshot 2 (some .int) (zRA 2 1 6) 1 6 D cT [.ref a_t, .int x1] [(a_t, .inr (10, [.ref a_t_reader, .ref a_t_exchange, .ref a_t_now, .ref a_t_history, .ref a_t_slots, .ref a_t_filled, .ref a_t_bestSet, .ref a_t_planner, .ref a_t_search, .ref a_t_leastCosts])), (a_t_filled, .inl (cT 3, 2, .inl t_filled))] "java/lang/IllegalStateException" := by
  refine sT_of rfl (Nat.le_of_ble_eq_true rfl) ?_
  intro X C TX
  refine xi_drop (L2 := [(0, .ref a_t), (1, .int x1)]) [0, 1] rfl ?_
  refine xi_aload_n C 0 dX10_restoreSnapshot_0 rfl ?_
  refine xi_iload_n C 1 dX10_restoreSnapshot_1 rfl ?_
  replace h := ob h
  obtain ⟨u1, hu2, h⟩ := h
  refine xi_callVr C (kX10_requireSlot l D cT a_t x1 u1 hu2) zcX10_requireSlot zmX10_288 ziX10_requireSlot (zrM rfl rfl) z00 rfl [] rfl rfl zkX10.1 (qr := 0) rfl rfl (Nat.le_of_ble_eq_true rfl) dX10_restoreSnapshot_2 (fun z3 => ?_)
  refine xi_aload_n C 0 dX10_restoreSnapshot_5 rfl ?_
  refine xi_get C zkX10 5 0 zlX10_41 (by decide) rfl rfl dX10_restoreSnapshot_6 ?_
  refine xi_iload_n C 1 dX10_restoreSnapshot_9 rfl ?_
  replace h := ig h
  obtain ⟨c4, h⟩ := h
  refine xi_zald C 1 rfl c4 dX10_restoreSnapshot_10 ?_
  refine xi_if_ne C (tgt := 25) dX10_restoreSnapshot_11 rfl (fun c5 => ?_) (fun c5 => ?_)
  · replace h := (if_neg c5).symm.trans h
    exact zno h
  · replace h := (if_pos c5).symm.trans h
    exact xi_throwW C hls TX rfl zclX10_225 (zm1 (i := 23) rfl rfl) (List.mem_of_getElem? (i := 19) rfl) (zat_fin (zm4 (i := 140) rfl rfl) zat_S zre_S) dX10_restoreSnapshot_14 dX10_restoreSnapshot_17 dX10_restoreSnapshot_18 dX10_restoreSnapshot_21 dX10_restoreSnapshot_24 ⟨Nat.le_of_ble_eq_true rfl, Nat.le_of_ble_eq_true rfl, Nat.le_refl _, Nat.le_refl _⟩ (Nat.le_of_ble_eq_true rfl) ⟨Nat.le_refl _, Nat.le_refl _⟩
