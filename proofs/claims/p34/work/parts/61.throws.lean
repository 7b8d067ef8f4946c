/-! what the five changes throw -/
def tX10_arrange_S (t_exchange_lineCount : Int32) (t_exchange_first : Nat → Int32) (t_exchange_second : Nat → Int32) (t_exchange_breaks_count : Int32) (t_exchange_breaks_whose : Nat → Int32) (t_exchange_breaks_from : Nat → Int32) (t_exchange_breaks_until : Nat → Int32) (t_exchange_absences_count : Int32) (t_exchange_absences_whose : Nat → Int32) (t_exchange_absences_from : Nat → Int32) (t_exchange_absences_until : Nat → Int32) (t_now_arrangedLines : Int32) (t_now_cutLines : Int32) (t_now_rounds : Int32) (x1 : Int32) : Option Unit := (fX10_requireLine t_exchange_lineCount x1).bind (fun u1 => if (fX10_isIn t_now_arrangedLines x1) = 0 then (fX10_canArrange t_exchange_lineCount t_exchange_first t_exchange_second t_exchange_breaks_count t_exchange_breaks_whose t_exchange_breaks_from t_exchange_breaks_until t_exchange_absences_count t_exchange_absences_whose t_exchange_absences_from t_exchange_absences_until t_now_arrangedLines t_now_cutLines t_now_rounds x1).bind (fun u8 => if u8 = 0 then some () else none) else some ())
set_option maxRecDepth 100000 in
set_option maxHeartbeats 4000000 in
theorem ktX10_arrange_S (l : Launch) (hls : l.stackTraces = false) (D : va_G) (cT : Nat → ClassId) (a_t : Nat) (a_t_reader : Nat) (a_t_exchange : Nat) (a_t_now : Nat) (a_t_history : Nat) (a_t_slots : Nat) (a_t_filled : Nat) (a_t_bestSet : Nat) (a_t_planner : Nat) (a_t_search : Nat) (a_t_leastCosts : Nat) (a_t_exchange_first : Nat) (a_t_exchange_second : Nat) (a_t_exchange_cost : Nat) (a_t_exchange_oneWay : Nat) (a_t_exchange_breaks : Nat) (a_t_exchange_absences : Nat) (a_t_exchange_breaks_whose : Nat) (a_t_exchange_breaks_from : Nat) (a_t_exchange_breaks_until : Nat) (a_t_exchange_absences_whose : Nat) (a_t_exchange_absences_from : Nat) (a_t_exchange_absences_until : Nat) (a_t_now_news : Nat) (t_exchange_people : Int32) (t_exchange_lineCount : Int32) (t_exchange_first : Nat → Int32) (t_exchange_second : Nat → Int32) (t_exchange_breaks_count : Int32) (t_exchange_breaks_whose : Nat → Int32) (t_exchange_breaks_from : Nat → Int32) (t_exchange_breaks_until : Nat → Int32) (t_exchange_absences_count : Int32) (t_exchange_absences_whose : Nat → Int32) (t_exchange_absences_from : Nat → Int32) (t_exchange_absences_until : Nat → Int32) (t_now_arrangedLines : Int32) (t_now_cutLines : Int32) (t_now_rounds : Int32) (t_now_calls : Int32) (t_now_latest : Option Nat) (x1 : Int32) (r : Unit) (h : tX10_arrange_S t_exchange_lineCount t_exchange_first t_exchange_second t_exchange_breaks_count t_exchange_breaks_whose t_exchange_breaks_from t_exchange_breaks_until t_exchange_absences_count t_exchange_absences_whose t_exchange_absences_from t_exchange_absences_until t_now_arrangedLines t_now_cutLines t_now_rounds x1 = some r) : sT l yX10_arrange cX10_arrange 2 (some .int) (zRA 5 1 6) 1 6 D cT [.ref a_t, .int x1] [(a_t, .inr (10, [.ref a_t_reader, .ref a_t_exchange, .ref a_t_now, .ref a_t_history, .ref a_t_slots, .ref a_t_filled, .ref a_t_bestSet, .ref a_t_planner, .ref a_t_search, .ref a_t_leastCosts])), (a_t_exchange, .inr (1, [.int t_exchange_people, .int t_exchange_lineCount, .ref a_t_exchange_first, .ref a_t_exchange_second, .ref a_t_exchange_cost, .ref a_t_exchange_oneWay, .ref a_t_exchange_breaks, .ref a_t_exchange_absences])), (a_t_exchange_first, .inl (cT 0, 24, .inl t_exchange_first)), (a_t_exchange_second, .inl (cT 0, 24, .inl t_exchange_second)), (a_t_exchange_breaks, .inr (8, [.ref a_t_exchange_breaks_whose, .ref a_t_exchange_breaks_from, .ref a_t_exchange_breaks_until, .int t_exchange_breaks_count])), (a_t_exchange_breaks_whose, .inl (cT 0, 12, .inl t_exchange_breaks_whose)), (a_t_exchange_breaks_from, .inl (cT 0, 12, .inl t_exchange_breaks_from)), (a_t_exchange_breaks_until, .inl (cT 0, 12, .inl t_exchange_breaks_until)), (a_t_exchange_absences, .inr (8, [.ref a_t_exchange_absences_whose, .ref a_t_exchange_absences_from, .ref a_t_exchange_absences_until, .int t_exchange_absences_count])), (a_t_exchange_absences_whose, .inl (cT 0, 12, .inl t_exchange_absences_whose)), (a_t_exchange_absences_from, .inl (cT 0, 12, .inl t_exchange_absences_from)), (a_t_exchange_absences_until, .inl (cT 0, 12, .inl t_exchange_absences_until)), (a_t_now, .inr (7, [.ref a_t_now_news, .int t_now_arrangedLines, .int t_now_cutLines, .int t_now_rounds, .int t_now_calls, va_rf t_now_latest]))] "java/lang/IllegalStateException" := by
  refine sT_of rfl (Nat.le_of_ble_eq_true rfl) ?_
  intro X C TX
  refine xi_drop (L2 := [(0, .ref a_t), (1, .int x1)]) [0, 1] rfl ?_
  refine xi_aload_n C 0 dX10_arrange_0 rfl ?_
  refine xi_iload_n C 1 dX10_arrange_1 rfl ?_
  replace h := ob h
  obtain ⟨u1, hu2, h⟩ := h
  refine xi_callVr C (kX10_requireLine l D cT a_t a_t_reader a_t_exchange a_t_now a_t_history a_t_slots a_t_filled a_t_bestSet a_t_planner a_t_search a_t_leastCosts a_t_exchange_first a_t_exchange_second a_t_exchange_cost a_t_exchange_oneWay a_t_exchange_breaks a_t_exchange_absences t_exchange_people t_exchange_lineCount x1 u1 hu2) zcX10_requireLine zmX10_130 ziX10_requireLine (zrM rfl rfl) z00 rfl [0, 1] rfl rfl zkX10.1 (qr := 0) rfl rfl (Nat.le_of_ble_eq_true rfl) dX10_arrange_2 (fun z3 => ?_)
  refine xi_aload_n C 0 dX10_arrange_5 rfl ?_
  refine xi_get C zkX10 2 0 zlX10_26 (by decide) rfl rfl dX10_arrange_6 ?_
  refine xi_get C zkX7 1 12 zlX10_117 (by decide) rfl rfl dX10_arrange_9 ?_
  refine xi_iload_n C 1 dX10_arrange_12 rfl ?_
  refine xi_callSr C (kX10_isIn l D cT t_now_arrangedLines x1 (fX10_isIn t_now_arrangedLines x1) rfl) zcX10_isIn zmX10_161 zsX10_isIn (zrM rfl rfl) z00 rfl [] rfl rfl rfl (Nat.le_of_ble_eq_true rfl) dX10_arrange_13 (fun z6 => ?_)
  refine xi_if_eq C (tgt := 29) dX10_arrange_16 rfl (fun c7 => ?_) (fun c7 => ?_)
  · replace h := (if_pos c7).symm.trans h
    refine xi_aload_n C 0 dX10_arrange_29 rfl ?_
    refine xi_iload_n C 1 dX10_arrange_30 rfl ?_
    replace h := ob h
    obtain ⟨u8, hu9, h⟩ := h
    refine xi_callVr C (kX10_canArrange l D cT a_t a_t_reader a_t_exchange a_t_now a_t_history a_t_slots a_t_filled a_t_bestSet a_t_planner a_t_search a_t_leastCosts a_t_exchange_first a_t_exchange_second a_t_exchange_cost a_t_exchange_oneWay a_t_exchange_breaks a_t_exchange_absences a_t_exchange_breaks_whose a_t_exchange_breaks_from a_t_exchange_breaks_until a_t_exchange_absences_whose a_t_exchange_absences_from a_t_exchange_absences_until a_t_now_news t_exchange_people t_exchange_lineCount t_exchange_first t_exchange_second t_exchange_breaks_count t_exchange_breaks_whose t_exchange_breaks_from t_exchange_breaks_until t_exchange_absences_count t_exchange_absences_whose t_exchange_absences_from t_exchange_absences_until t_now_arrangedLines t_now_cutLines t_now_rounds t_now_calls t_now_latest x1 u8 hu9) zcX10_canArrange zmX10_251 ziX10_canArrange (zrM rfl rfl) z00 rfl [0, 1, 2, 3, 4, 5, 6, 7, 8, 9, 10, 11, 12] rfl rfl zkX10.1 (qr := 0) rfl rfl (Nat.le_of_ble_eq_true rfl) dX10_arrange_31 (fun z10 => ?_)
    refine xi_if_ne C (tgt := 47) dX10_arrange_34 rfl (fun c11 => ?_) (fun c11 => ?_)
    · replace h := (if_neg c11).symm.trans h
      exact zno h
    · replace h := (if_pos c11).symm.trans h
      exact xi_throw C hls TX rfl zclX10_225 (zm1 (i := 29) rfl rfl) (List.mem_of_getElem? (i := 10) rfl) (zat_fin (zm4 (i := 215) rfl rfl) zat_S zre_S) dX10_arrange_37 dX10_arrange_40 dX10_arrange_41 dX10_arrange_43 dX10_arrange_46 ⟨Nat.le_of_ble_eq_true rfl, Nat.le_of_ble_eq_true rfl, Nat.le_refl _, Nat.le_refl _⟩ (Nat.le_of_ble_eq_true rfl) ⟨Nat.le_refl _, Nat.le_refl _⟩
  · replace h := (if_neg c7).symm.trans h
    exact xi_throw C hls TX rfl zclX10_225 (zm1 (i := 29) rfl rfl) (List.mem_of_getElem? (i := 9) rfl) (zat_fin (zm4 (i := 215) rfl rfl) zat_S zre_S) dX10_arrange_19 dX10_arrange_22 dX10_arrange_23 dX10_arrange_25 dX10_arrange_28 ⟨Nat.le_of_ble_eq_true rfl, Nat.le_of_ble_eq_true rfl, Nat.le_refl _, Nat.le_refl _⟩ (Nat.le_of_ble_eq_true rfl) ⟨Nat.le_refl _, Nat.le_refl _⟩
def tX10_takeBack_S (t_exchange_lineCount : Int32) (t_now_arrangedLines : Int32) (x1 : Int32) : Option Unit := (fX10_requireLine t_exchange_lineCount x1).bind (fun u1 => if (fX10_isIn t_now_arrangedLines x1) = 0 then some () else none)
set_option maxRecDepth 100000 in
set_option maxHeartbeats 4000000 in
theorem ktX10_takeBack_S (l : Launch) (hls : l.stackTraces = false) (D : va_G) (cT : Nat → ClassId) (a_t : Nat) (a_t_reader : Nat) (a_t_exchange : Nat) (a_t_now : Nat) (a_t_history : Nat) (a_t_slots : Nat) (a_t_filled : Nat) (a_t_bestSet : Nat) (a_t_planner : Nat) (a_t_search : Nat) (a_t_leastCosts : Nat) (a_t_exchange_first : Nat) (a_t_exchange_second : Nat) (a_t_exchange_cost : Nat) (a_t_exchange_oneWay : Nat) (a_t_exchange_breaks : Nat) (a_t_exchange_absences : Nat) (a_t_now_news : Nat) (t_exchange_people : Int32) (t_exchange_lineCount : Int32) (t_now_arrangedLines : Int32) (t_now_cutLines : Int32) (t_now_rounds : Int32) (t_now_calls : Int32) (t_now_latest : Option Nat) (x1 : Int32) (r : Unit) (h : tX10_takeBack_S t_exchange_lineCount t_now_arrangedLines x1 = some r) : sT l yX10_takeBack cX10_takeBack 2 (some .int) (zRA 2 1 6) 1 6 D cT [.ref a_t, .int x1] [(a_t, .inr (10, [.ref a_t_reader, .ref a_t_exchange, .ref a_t_now, .ref a_t_history, .ref a_t_slots, .ref a_t_filled, .ref a_t_bestSet, .ref a_t_planner, .ref a_t_search, .ref a_t_leastCosts])), (a_t_exchange, .inr (1, [.int t_exchange_people, .int t_exchange_lineCount, .ref a_t_exchange_first, .ref a_t_exchange_second, .ref a_t_exchange_cost, .ref a_t_exchange_oneWay, .ref a_t_exchange_breaks, .ref a_t_exchange_absences])), (a_t_now, .inr (7, [.ref a_t_now_news, .int t_now_arrangedLines, .int t_now_cutLines, .int t_now_rounds, .int t_now_calls, va_rf t_now_latest]))] "java/lang/IllegalStateException" := by
  refine sT_of rfl (Nat.le_of_ble_eq_true rfl) ?_
  intro X C TX
  refine xi_drop (L2 := [(0, .ref a_t), (1, .int x1)]) [0, 1] rfl ?_
  refine xi_aload_n C 0 dX10_takeBack_0 rfl ?_
  refine xi_iload_n C 1 dX10_takeBack_1 rfl ?_
  replace h := ob h
  obtain ⟨u1, hu2, h⟩ := h
  refine xi_callVr C (kX10_requireLine l D cT a_t a_t_reader a_t_exchange a_t_now a_t_history a_t_slots a_t_filled a_t_bestSet a_t_planner a_t_search a_t_leastCosts a_t_exchange_first a_t_exchange_second a_t_exchange_cost a_t_exchange_oneWay a_t_exchange_breaks a_t_exchange_absences t_exchange_people t_exchange_lineCount x1 u1 hu2) zcX10_requireLine zmX10_130 ziX10_requireLine (zrM rfl rfl) z00 rfl [0, 1] rfl rfl zkX10.1 (qr := 0) rfl rfl (Nat.le_of_ble_eq_true rfl) dX10_takeBack_2 (fun z3 => ?_)
  refine xi_aload_n C 0 dX10_takeBack_5 rfl ?_
  refine xi_get C zkX10 2 0 zlX10_26 (by decide) rfl rfl dX10_takeBack_6 ?_
  refine xi_get C zkX7 1 2 zlX10_117 (by decide) rfl rfl dX10_takeBack_9 ?_
  refine xi_iload_n C 1 dX10_takeBack_12 rfl ?_
  refine xi_callSr C (kX10_isIn l D cT t_now_arrangedLines x1 (fX10_isIn t_now_arrangedLines x1) rfl) zcX10_isIn zmX10_161 zsX10_isIn (zrM rfl rfl) z00 rfl [] rfl rfl rfl (Nat.le_of_ble_eq_true rfl) dX10_takeBack_13 (fun z6 => ?_)
  refine xi_if_ne C (tgt := 30) dX10_takeBack_16 rfl (fun c7 => ?_) (fun c7 => ?_)
  · replace h := (if_neg c7).symm.trans h
    exact zno h
  · replace h := (if_pos c7).symm.trans h
    exact xi_throwW C hls TX rfl zclX10_225 (zm1 (i := 29) rfl rfl) (List.mem_of_getElem? (i := 11) rfl) (zat_fin (zm4 (i := 215) rfl rfl) zat_S zre_S) dX10_takeBack_19 dX10_takeBack_22 dX10_takeBack_23 dX10_takeBack_26 dX10_takeBack_29 ⟨Nat.le_of_ble_eq_true rfl, Nat.le_of_ble_eq_true rfl, Nat.le_refl _, Nat.le_refl _⟩ (Nat.le_of_ble_eq_true rfl) ⟨Nat.le_refl _, Nat.le_refl _⟩
def tX10_cut_S (t_exchange_lineCount : Int32) (t_now_cutLines : Int32) (x1 : Int32) : Option Unit := (fX10_requireLine t_exchange_lineCount x1).bind (fun u1 => if (fX10_isIn t_now_cutLines x1) = 0 then none else some ())
set_option maxRecDepth 100000 in
set_option maxHeartbeats 4000000 in
theorem ktX10_cut_S (l : Launch) (hls : l.stackTraces = false) (D : va_G) (cT : Nat → ClassId) (a_t : Nat) (a_t_reader : Nat) (a_t_exchange : Nat) (a_t_now : Nat) (a_t_history : Nat) (a_t_slots : Nat) (a_t_filled : Nat) (a_t_bestSet : Nat) (a_t_planner : Nat) (a_t_search : Nat) (a_t_leastCosts : Nat) (a_t_exchange_first : Nat) (a_t_exchange_second : Nat) (a_t_exchange_cost : Nat) (a_t_exchange_oneWay : Nat) (a_t_exchange_breaks : Nat) (a_t_exchange_absences : Nat) (a_t_now_news : Nat) (t_exchange_people : Int32) (t_exchange_lineCount : Int32) (t_now_arrangedLines : Int32) (t_now_cutLines : Int32) (t_now_rounds : Int32) (t_now_calls : Int32) (t_now_latest : Option Nat) (x1 : Int32) (r : Unit) (h : tX10_cut_S t_exchange_lineCount t_now_cutLines x1 = some r) : sT l yX10_cut cX10_cut 3 (some .boolean) (zRA 2 1 6) 1 6 D cT [.ref a_t, .int x1] [(a_t, .inr (10, [.ref a_t_reader, .ref a_t_exchange, .ref a_t_now, .ref a_t_history, .ref a_t_slots, .ref a_t_filled, .ref a_t_bestSet, .ref a_t_planner, .ref a_t_search, .ref a_t_leastCosts])), (a_t_exchange, .inr (1, [.int t_exchange_people, .int t_exchange_lineCount, .ref a_t_exchange_first, .ref a_t_exchange_second, .ref a_t_exchange_cost, .ref a_t_exchange_oneWay, .ref a_t_exchange_breaks, .ref a_t_exchange_absences])), (a_t_now, .inr (7, [.ref a_t_now_news, .int t_now_arrangedLines, .int t_now_cutLines, .int t_now_rounds, .int t_now_calls, va_rf t_now_latest]))] "java/lang/IllegalStateException" := by
  refine sT_of rfl (Nat.le_of_ble_eq_true rfl) ?_
  intro X C TX
  refine xi_drop (L2 := [(0, .ref a_t), (1, .int x1)]) [0, 1] rfl ?_
  refine xi_aload_n C 0 dX10_cut_0 rfl ?_
  refine xi_iload_n C 1 dX10_cut_1 rfl ?_
  replace h := ob h
  obtain ⟨u1, hu2, h⟩ := h
  refine xi_callVr C (kX10_requireLine l D cT a_t a_t_reader a_t_exchange a_t_now a_t_history a_t_slots a_t_filled a_t_bestSet a_t_planner a_t_search a_t_leastCosts a_t_exchange_first a_t_exchange_second a_t_exchange_cost a_t_exchange_oneWay a_t_exchange_breaks a_t_exchange_absences t_exchange_people t_exchange_lineCount x1 u1 hu2) zcX10_requireLine zmX10_130 ziX10_requireLine (zrM rfl rfl) z00 rfl [0, 1] rfl rfl zkX10.1 (qr := 0) rfl rfl (Nat.le_of_ble_eq_true rfl) dX10_cut_2 (fun z3 => ?_)
  refine xi_aload_n C 0 dX10_cut_5 rfl ?_
  refine xi_get C zkX10 2 0 zlX10_26 (by decide) rfl rfl dX10_cut_6 ?_
  refine xi_get C zkX7 2 2 zlX10_125 (by decide) rfl rfl dX10_cut_9 ?_
  refine xi_iload_n C 1 dX10_cut_12 rfl ?_
  refine xi_callSr C (kX10_isIn l D cT t_now_cutLines x1 (fX10_isIn t_now_cutLines x1) rfl) zcX10_isIn zmX10_161 zsX10_isIn (zrM rfl rfl) z00 rfl [] rfl rfl rfl (Nat.le_of_ble_eq_true rfl) dX10_cut_13 (fun z6 => ?_)
  refine xi_if_eq C (tgt := 30) dX10_cut_16 rfl (fun c7 => ?_) (fun c7 => ?_)
  · replace h := (if_pos c7).symm.trans h
    exact zno h
  · replace h := (if_neg c7).symm.trans h
    exact xi_throwW C hls TX rfl zclX10_225 (zm1 (i := 29) rfl rfl) (List.mem_of_getElem? (i := 13) rfl) (zat_fin (zm4 (i := 215) rfl rfl) zat_S zre_S) dX10_cut_19 dX10_cut_22 dX10_cut_23 dX10_cut_26 dX10_cut_29 ⟨Nat.le_of_ble_eq_true rfl, Nat.le_of_ble_eq_true rfl, Nat.le_refl _, Nat.le_refl _⟩ (Nat.le_of_ble_eq_true rfl) ⟨Nat.le_refl _, Nat.le_refl _⟩
def tX10_mend_S (t_exchange_lineCount : Int32) (t_now_cutLines : Int32) (x1 : Int32) : Option Unit := (fX10_requireLine t_exchange_lineCount x1).bind (fun u1 => if (fX10_isIn t_now_cutLines x1) = 0 then some () else none)
set_option maxRecDepth 100000 in
set_option maxHeartbeats 4000000 in
theorem ktX10_mend_S (l : Launch) (hls : l.stackTraces = false) (D : va_G) (cT : Nat → ClassId) (a_t : Nat) (a_t_reader : Nat) (a_t_exchange : Nat) (a_t_now : Nat) (a_t_history : Nat) (a_t_slots : Nat) (a_t_filled : Nat) (a_t_bestSet : Nat) (a_t_planner : Nat) (a_t_search : Nat) (a_t_leastCosts : Nat) (a_t_exchange_first : Nat) (a_t_exchange_second : Nat) (a_t_exchange_cost : Nat) (a_t_exchange_oneWay : Nat) (a_t_exchange_breaks : Nat) (a_t_exchange_absences : Nat) (a_t_now_news : Nat) (t_exchange_people : Int32) (t_exchange_lineCount : Int32) (t_now_arrangedLines : Int32) (t_now_cutLines : Int32) (t_now_rounds : Int32) (t_now_calls : Int32) (t_now_latest : Option Nat) (x1 : Int32) (r : Unit) (h : tX10_mend_S t_exchange_lineCount t_now_cutLines x1 = some r) : sT l yX10_mend cX10_mend 2 (some .int) (zRA 2 1 6) 1 6 D cT [.ref a_t, .int x1] [(a_t, .inr (10, [.ref a_t_reader, .ref a_t_exchange, .ref a_t_now, .ref a_t_history, .ref a_t_slots, .ref a_t_filled, .ref a_t_bestSet, .ref a_t_planner, .ref a_t_search, .ref a_t_leastCosts])), (a_t_exchange, .inr (1, [.int t_exchange_people, .int t_exchange_lineCount, .ref a_t_exchange_first, .ref a_t_exchange_second, .ref a_t_exchange_cost, .ref a_t_exchange_oneWay, .ref a_t_exchange_breaks, .ref a_t_exchange_absences])), (a_t_now, .inr (7, [.ref a_t_now_news, .int t_now_arrangedLines, .int t_now_cutLines, .int t_now_rounds, .int t_now_calls, va_rf t_now_latest]))] "java/lang/IllegalStateException" := by
  refine sT_of rfl (Nat.le_of_ble_eq_true rfl) ?_
  intro X C TX
  refine xi_drop (L2 := [(0, .ref a_t), (1, .int x1)]) [0, 1] rfl ?_
  refine xi_aload_n C 0 dX10_mend_0 rfl ?_
  refine xi_iload_n C 1 dX10_mend_1 rfl ?_
  replace h := ob h
  obtain ⟨u1, hu2, h⟩ := h
  refine xi_callVr C (kX10_requireLine l D cT a_t a_t_reader a_t_exchange a_t_now a_t_history a_t_slots a_t_filled a_t_bestSet a_t_planner a_t_search a_t_leastCosts a_t_exchange_first a_t_exchange_second a_t_exchange_cost a_t_exchange_oneWay a_t_exchange_breaks a_t_exchange_absences t_exchange_people t_exchange_lineCount x1 u1 hu2) zcX10_requireLine zmX10_130 ziX10_requireLine (zrM rfl rfl) z00 rfl [0, 1] rfl rfl zkX10.1 (qr := 0) rfl rfl (Nat.le_of_ble_eq_true rfl) dX10_mend_2 (fun z3 => ?_)
  refine xi_aload_n C 0 dX10_mend_5 rfl ?_
  refine xi_get C zkX10 2 0 zlX10_26 (by decide) rfl rfl dX10_mend_6 ?_
  refine xi_get C zkX7 2 2 zlX10_125 (by decide) rfl rfl dX10_mend_9 ?_
  refine xi_iload_n C 1 dX10_mend_12 rfl ?_
  refine xi_callSr C (kX10_isIn l D cT t_now_cutLines x1 (fX10_isIn t_now_cutLines x1) rfl) zcX10_isIn zmX10_161 zsX10_isIn (zrM rfl rfl) z00 rfl [] rfl rfl rfl (Nat.le_of_ble_eq_true rfl) dX10_mend_13 (fun z6 => ?_)
  refine xi_if_ne C (tgt := 30) dX10_mend_16 rfl (fun c7 => ?_) (fun c7 => ?_)
  · replace h := (if_neg c7).symm.trans h
    exact zno h
  · replace h := (if_pos c7).symm.trans h
    exact xi_throwW C hls TX rfl zclX10_225 (zm1 (i := 29) rfl rfl) (List.mem_of_getElem? (i := 14) rfl) (zat_fin (zm4 (i := 215) rfl rfl) zat_S zre_S) dX10_mend_19 dX10_mend_22 dX10_mend_23 dX10_mend_26 dX10_mend_29 ⟨Nat.le_of_ble_eq_true rfl, Nat.le_of_ble_eq_true rfl, Nat.le_refl _, Nat.le_refl _⟩ (Nat.le_of_ble_eq_true rfl) ⟨Nat.le_refl _, Nat.le_refl _⟩
def tX10_tell_S (t_exchange_people : Int32) (t_now_news_pieces : Nat → Int32) (x1 : Int32) (x2 : Int32) : Option Unit := (fX10_requirePerson t_exchange_people x1).bind (fun u1 => (fX10_requirePerson t_exchange_people x2).bind (fun u4 => gd x1 10 (if (fX10_isIn (t_now_news_pieces x1.toNatClampNeg) x2) = 0 then none else some ())))
set_option maxRecDepth 100000 in
set_option maxHeartbeats 4000000 in
theorem ktX10_tell_S (l : Launch) (hls : l.stackTraces = false) (D : va_G) (cT : Nat → ClassId) (a_t : Nat) (a_t_reader : Nat) (a_t_exchange : Nat) (a_t_now : Nat) (a_t_history : Nat) (a_t_slots : Nat) (a_t_filled : Nat) (a_t_bestSet : Nat) (a_t_planner : Nat) (a_t_search : Nat) (a_t_leastCosts : Nat) (a_t_exchange_first : Nat) (a_t_exchange_second : Nat) (a_t_exchange_cost : Nat) (a_t_exchange_oneWay : Nat) (a_t_exchange_breaks : Nat) (a_t_exchange_absences : Nat) (a_t_now_news : Nat) (a_t_now_news_pieces : Nat) (t_exchange_people : Int32) (t_exchange_lineCount : Int32) (t_now_arrangedLines : Int32) (t_now_cutLines : Int32) (t_now_rounds : Int32) (t_now_calls : Int32) (t_now_latest : Option Nat) (t_now_news_people : Int32) (t_now_news_pieces : Nat → Int32) (x1 : Int32) (x2 : Int32) (r : Unit) (h : tX10_tell_S t_exchange_people t_now_news_pieces x1 x2 = some r) : sT l yX10_tell cX10_tell 3 (some .int) (zRA 2 1 6) 1 6 D cT [.ref a_t, .int x1, .int x2] [(a_t, .inr (10, [.ref a_t_reader, .ref a_t_exchange, .ref a_t_now, .ref a_t_history, .ref a_t_slots, .ref a_t_filled, .ref a_t_bestSet, .ref a_t_planner, .ref a_t_search, .ref a_t_leastCosts])), (a_t_exchange, .inr (1, [.int t_exchange_people, .int t_exchange_lineCount, .ref a_t_exchange_first, .ref a_t_exchange_second, .ref a_t_exchange_cost, .ref a_t_exchange_oneWay, .ref a_t_exchange_breaks, .ref a_t_exchange_absences])), (a_t_now, .inr (7, [.ref a_t_now_news, .int t_now_arrangedLines, .int t_now_cutLines, .int t_now_rounds, .int t_now_calls, va_rf t_now_latest])), (a_t_now_news, .inr (3, [.ref a_t_now_news_pieces, .int t_now_news_people])), (a_t_now_news_pieces, .inl (cT 0, 10, .inl t_now_news_pieces))] "java/lang/IllegalStateException" := by
  refine sT_of rfl (Nat.le_of_ble_eq_true rfl) ?_
  intro X C TX
  refine xi_drop (L2 := [(0, .ref a_t), (1, .int x1), (2, .int x2)]) [0, 1, 2] rfl ?_
  refine xi_aload_n C 0 dX10_tell_0 rfl ?_
  refine xi_iload_n C 1 dX10_tell_1 rfl ?_
  replace h := ob h
  obtain ⟨u1, hu2, h⟩ := h
  refine xi_callVr C (kX10_requirePerson l D cT a_t a_t_reader a_t_exchange a_t_now a_t_history a_t_slots a_t_filled a_t_bestSet a_t_planner a_t_search a_t_leastCosts a_t_exchange_first a_t_exchange_second a_t_exchange_cost a_t_exchange_oneWay a_t_exchange_breaks a_t_exchange_absences t_exchange_people t_exchange_lineCount x1 u1 hu2) zcX10_requirePerson zmX10_168 ziX10_requirePerson (zrM rfl rfl) z00 rfl [0, 1] rfl rfl zkX10.1 (qr := 0) rfl rfl (Nat.le_of_ble_eq_true rfl) dX10_tell_2 (fun z3 => ?_)
  refine xi_aload_n C 0 dX10_tell_5 rfl ?_
  refine xi_iload_n C 2 dX10_tell_6 rfl ?_
  replace h := ob h
  obtain ⟨u4, hu5, h⟩ := h
  refine xi_callVr C (kX10_requirePerson l D cT a_t a_t_reader a_t_exchange a_t_now a_t_history a_t_slots a_t_filled a_t_bestSet a_t_planner a_t_search a_t_leastCosts a_t_exchange_first a_t_exchange_second a_t_exchange_cost a_t_exchange_oneWay a_t_exchange_breaks a_t_exchange_absences t_exchange_people t_exchange_lineCount x2 u4 hu5) zcX10_requirePerson zmX10_168 ziX10_requirePerson (zrM rfl rfl) z00 rfl [0, 1] rfl rfl zkX10.1 (qr := 0) rfl rfl (Nat.le_of_ble_eq_true rfl) dX10_tell_7 (fun z6 => ?_)
  refine xi_aload_n C 0 dX10_tell_10 rfl ?_
  refine xi_get C zkX10 2 0 zlX10_26 (by decide) rfl rfl dX10_tell_11 ?_
  refine xi_get C zkX7 0 2 zlX10_171 (by decide) rfl rfl dX10_tell_14 ?_
  refine xi_get C zkX3 0 3 zlX10_175 (by decide) rfl rfl dX10_tell_17 ?_
  refine xi_iload_n C 1 dX10_tell_20 rfl ?_
  replace h := ig h
  obtain ⟨c7, h⟩ := h
  refine xi_iald C 4 rfl c7 dX10_tell_21 ?_
  refine xi_iload_n C 2 dX10_tell_22 rfl ?_
  refine xi_callSr C (kX10_isIn l D cT (t_now_news_pieces x1.toNatClampNeg) x2 (fX10_isIn (t_now_news_pieces x1.toNatClampNeg) x2) rfl) zcX10_isIn zmX10_161 zsX10_isIn (zrM rfl rfl) z00 rfl [] rfl rfl rfl (Nat.le_of_ble_eq_true rfl) dX10_tell_23 (fun z10 => ?_)
  refine xi_if_eq C (tgt := 40) dX10_tell_26 rfl (fun c11 => ?_) (fun c11 => ?_)
  · replace h := (if_pos c11).symm.trans h
    exact zno h
  · replace h := (if_neg c11).symm.trans h
    exact xi_throwW C hls TX rfl zclX10_225 (zm1 (i := 29) rfl rfl) (List.mem_of_getElem? (i := 15) rfl) (zat_fin (zm4 (i := 215) rfl rfl) zat_S zre_S) dX10_tell_29 dX10_tell_32 dX10_tell_33 dX10_tell_36 dX10_tell_39 ⟨Nat.le_of_ble_eq_true rfl, Nat.le_of_ble_eq_true rfl, Nat.le_refl _, Nat.le_refl _⟩ (Nat.le_of_ble_eq_true rfl) ⟨Nat.le_refl _, Nat.le_refl _⟩
