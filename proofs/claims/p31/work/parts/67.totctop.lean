/-! the class: an answer, or an exception -/
theorem c_size {t_exchange_people : Nat} {t_exchange_lineCount : Nat} {t_now_arrangedLines : Int32} {t_now_cutLines : Int32} {t_now_rounds : Int32} {t_now_calls : Int32} {x1 : Int32} (h_t_exchange_people : t_exchange_people ≤ 10) (h_t_exchange_lineCount : t_exchange_lineCount ≤ 24) : tG tT (fX10_size (nI t_exchange_people) (nI t_exchange_lineCount) t_now_arrangedLines t_now_cutLines t_now_rounds t_now_calls x1) ∨ tX10_size_A x1 = some () := by
  by_cases c0 : x1 = 0
  · left
    unfold fX10_size
    rw [if_pos c0]
    exact tgS trivial
  · skip
    by_cases c1 : x1 = 1
    · left
      unfold fX10_size
      rw [if_neg c0, if_pos c1]
      exact tgS trivial
    · skip
      by_cases c2 : x1 = 2
      · left
        unfold fX10_size
        rw [if_neg c0, if_neg c1, if_pos c2]
        exact tgS trivial
      · skip
        by_cases c3 : x1 = 3
        · left
          unfold fX10_size
          rw [if_neg c0, if_neg c1, if_neg c2, if_pos c3]
          exact tgS trivial
        · skip
          by_cases c4 : x1 = 4
          · left
            unfold fX10_size
            rw [if_neg c0, if_neg c1, if_neg c2, if_neg c3, if_pos c4]
            exact tgS trivial
          · skip
            by_cases c5 : x1 = 5
            · left
              unfold fX10_size
              rw [if_neg c0, if_neg c1, if_neg c2, if_neg c3, if_neg c4, if_pos c5]
              exact tgS trivial
            · skip
              right
              unfold tX10_size_A
              rw [if_neg c0, if_neg c1, if_neg c2, if_neg c3, if_neg c4, if_neg c5]
theorem c_line {t_exchange_lineCount : Nat} {t_exchange_first : Nat → Int32} {t_exchange_second : Nat → Int32} {t_exchange_cost : Nat → Int32} {t_exchange_oneWay : Nat → Int32} {t_exchange_breaks_count : Nat} {t_exchange_breaks_whose : Nat → Int32} {t_now_arrangedLines : Int32} {t_now_cutLines : Int32} {x1 : Int32} {x2 : Int32} (h_t_exchange_lineCount : t_exchange_lineCount ≤ 24) (h_t_exchange_breaks_count : t_exchange_breaks_count ≤ 12) (hF : hFS t_exchange_lineCount t_exchange_first t_exchange_second) : tG tT (fX10_line (nI t_exchange_lineCount) t_exchange_first t_exchange_second t_exchange_cost t_exchange_oneWay (nI t_exchange_breaks_count) t_exchange_breaks_whose t_now_arrangedLines t_now_cutLines x1 x2) ∨ tX10_line_I (nI t_exchange_lineCount) x1 = some () ∨ tX10_line_A (nI t_exchange_lineCount) x1 x2 = some () := by
  rcases c_reqL h_t_exchange_lineCount x1 with h | ⟨k, hk, rfl, h1, h2⟩
  · right; left
    unfold tX10_line_I
    rw [h]
    rfl
  · skip
    by_cases c0 : x2 = 0
    · left
      unfold fX10_line
      refine tGb h1 ?_
      rw [if_pos c0]
      exact tgD (vkn (by omega) (by decide)) (tgS trivial)
    · skip
      by_cases c1 : x2 = 1
      · left
        unfold fX10_line
        refine tGb h1 ?_
        rw [if_neg c0, if_pos c1]
        exact tgD (vkn (by omega) (by decide)) (tgS trivial)
      · skip
        by_cases c2 : x2 = 2
        · left
          unfold fX10_line
          refine tGb h1 ?_
          rw [if_neg c0, if_neg c1, if_pos c2]
          exact tgD (vkn (by omega) (by decide)) (tgI (fun _ => tgS trivial) (fun _ => tgS trivial))
        · skip
          by_cases c3 : x2 = 3
          · left
            unfold fX10_line
            refine tGb h1 ?_
            rw [if_neg c0, if_neg c1, if_neg c2, if_pos c3]
            exact tgD (vkn (by omega) (by decide)) (tgS trivial)
          · skip
            by_cases c4 : x2 = 4
            · left
              unfold fX10_line
              refine tGb h1 ?_
              rw [if_neg c0, if_neg c1, if_neg c2, if_neg c3, if_pos c4]
              exact tgS trivial
            · skip
              by_cases c5 : x2 = 5
              · left
                unfold fX10_line
                refine tGb h1 ?_
                rw [if_neg c0, if_neg c1, if_neg c2, if_neg c3, if_neg c4, if_pos c5]
                exact tgS trivial
              · skip
                by_cases c6 : x2 = 6
                · left
                  unfold fX10_line
                  refine tGb h1 ?_
                  rw [if_neg c0, if_neg c1, if_neg c2, if_neg c3, if_neg c4, if_neg c5, if_pos c6]
                  exact tgC (t_fX8_countOf h_t_exchange_breaks_count) (fun u _ => tgS trivial)
                · skip
                  right; right
                  unfold tX10_line_A
                  refine bnd h1 ?_
                  rw [if_neg c0, if_neg c1, if_neg c2, if_neg c3, if_neg c4, if_neg c5, if_neg c6]
theorem c_isUsable {t_exchange_lineCount : Nat} {t_exchange_first : Nat → Int32} {t_exchange_second : Nat → Int32} {t_exchange_breaks_count : Nat} {t_exchange_breaks_whose : Nat → Int32} {t_exchange_breaks_from : Nat → Int32} {t_exchange_breaks_until : Nat → Int32} {t_exchange_absences_count : Nat} {t_exchange_absences_whose : Nat → Int32} {t_exchange_absences_from : Nat → Int32} {t_exchange_absences_until : Nat → Int32} {t_now_cutLines : Int32} {x1 : Int32} {x2 : Int32} (h_t_exchange_lineCount : t_exchange_lineCount ≤ 24) (h_t_exchange_breaks_count : t_exchange_breaks_count ≤ 12) (h_t_exchange_absences_count : t_exchange_absences_count ≤ 12) (hF : hFS t_exchange_lineCount t_exchange_first t_exchange_second) : tG tT (fX10_isUsable (nI t_exchange_lineCount) t_exchange_first t_exchange_second (nI t_exchange_breaks_count) t_exchange_breaks_whose t_exchange_breaks_from t_exchange_breaks_until (nI t_exchange_absences_count) t_exchange_absences_whose t_exchange_absences_from t_exchange_absences_until t_now_cutLines x1 x2) ∨ tX10_isUsable_I (nI t_exchange_lineCount) x1 = some () ∨ tX10_isUsable_A (nI t_exchange_lineCount) x1 x2 = some () := by
  rcases c_reqL h_t_exchange_lineCount x1 with h | ⟨k, hk, rfl, h1, h2⟩
  · right; left
    unfold tX10_isUsable_I
    rw [h]
    rfl
  · skip
    by_cases c0 : x2 < 1
    · right; right
      unfold tX10_isUsable_A tX10_isUsable_A_b17
      refine bnd h1 ?_
      rw [if_pos c0]
    · by_cases c1 : x2 ≤ 9999
      · left
        unfold fX10_isUsable
        refine tGb h1 ?_
        rw [if_neg c0, if_pos c1]
        exact tgC (t_fX10_usableLines h_t_exchange_lineCount h_t_exchange_breaks_count h_t_exchange_absences_count hF) (fun u _ => tgS trivial)
      · right; right
        unfold tX10_isUsable_A tX10_isUsable_A_b17
        refine bnd h1 ?_
        rw [if_neg c0, if_neg c1]
theorem c_known {t_exchange_people : Nat} {t_now_news_pieces : Nat → Int32} {x1 : Int32} (h_t_exchange_people : t_exchange_people ≤ 10) : tG tT (fX10_known (nI t_exchange_people) t_now_news_pieces x1) ∨ tX10_known_I (nI t_exchange_people) x1 = some () := by
  rcases c_reqP h_t_exchange_people x1 with h | ⟨k, hk, rfl, h1, h2⟩
  · right
    unfold tX10_known_I
    rw [h]
    rfl
  · left
    unfold fX10_known
    exact tGb h1 (tgD (vkn (by omega) (by decide)) (tgS trivial))
theorem c_knowers {t_exchange_people : Nat} {t_now_news_people : Nat} {t_now_news_pieces : Nat → Int32} {x1 : Int32} (h_t_exchange_people : t_exchange_people ≤ 10) (h_t_now_news_people : t_now_news_people ≤ 10) : tG tT (fX10_knowers (nI t_exchange_people) (nI t_now_news_people) t_now_news_pieces x1) ∨ tX10_knowers_I (nI t_exchange_people) x1 = some () := by
  rcases c_reqP h_t_exchange_people x1 with h | ⟨k, hk, rfl, h1, h2⟩
  · right
    unfold tX10_knowers_I
    rw [h]
    rfl
  · left
    unfold fX10_knowers
    exact tGb h1 (tgC (t_fX3_knowersOf h_t_now_news_people) (fun u _ => tgS trivial))
theorem c_partner {t_exchange_people : Nat} {t_exchange_lineCount : Nat} {t_exchange_first : Nat → Int32} {t_exchange_second : Nat → Int32} {t_now_arrangedLines : Int32} {x1 : Int32} (h_t_exchange_people : t_exchange_people ≤ 10) (h_t_exchange_lineCount : t_exchange_lineCount ≤ 24) (hF : hFS t_exchange_lineCount t_exchange_first t_exchange_second) : tG tT (fX10_partner (nI t_exchange_people) (nI t_exchange_lineCount) t_exchange_first t_exchange_second t_now_arrangedLines x1) ∨ tX10_partner_I (nI t_exchange_people) x1 = some () := by
  rcases c_reqP h_t_exchange_people x1 with h | ⟨k, hk, rfl, h1, h2⟩
  · right
    unfold tX10_partner_I
    rw [h]
    rfl
  · left
    unfold fX10_partner
    exact tGb h1 (tgC (t_fX1_otherPerson h_t_exchange_lineCount hF) (fun u _ => tgS trivial))
theorem c_best {t_exchange_people : Nat} {t_exchange_lineCount : Nat} {t_exchange_first : Nat → Int32} {t_exchange_second : Nat → Int32} {t_exchange_cost : Nat → Int32} {t_exchange_oneWay : Nat → Int32} {t_exchange_breaks_count : Nat} {t_exchange_breaks_whose : Nat → Int32} {t_exchange_breaks_from : Nat → Int32} {t_exchange_breaks_until : Nat → Int32} {t_exchange_absences_count : Nat} {t_exchange_absences_whose : Nat → Int32} {t_exchange_absences_from : Nat → Int32} {t_exchange_absences_until : Nat → Int32} {t_now_cutLines : Int32} {t_now_rounds : Int32} {t_now_news_pieces : Nat → Int32} {t_bestSet_worthOfPair : Nat → Int64} {t_bestSet_worthOfGroup : Nat → Int64} {x1 : Int32} (h_t_exchange_people : t_exchange_people ≤ 10) (h_t_exchange_lineCount : t_exchange_lineCount ≤ 24) (h_t_exchange_breaks_count : t_exchange_breaks_count ≤ 12) (h_t_exchange_absences_count : t_exchange_absences_count ≤ 12) (hF : hFS t_exchange_lineCount t_exchange_first t_exchange_second) : tG tT (fX10_best (nI t_exchange_people) (nI t_exchange_lineCount) t_exchange_first t_exchange_second t_exchange_cost t_exchange_oneWay (nI t_exchange_breaks_count) t_exchange_breaks_whose t_exchange_breaks_from t_exchange_breaks_until (nI t_exchange_absences_count) t_exchange_absences_whose t_exchange_absences_from t_exchange_absences_until t_now_cutLines t_now_rounds t_now_news_pieces t_bestSet_worthOfPair t_bestSet_worthOfGroup x1) ∨ tX10_best_A x1 = some () := by
  by_cases c0 : x1 < 0
  · right
    unfold tX10_best_A tX10_best_A_b9
    rw [if_pos c0]
  · by_cases c1 : x1 ≤ 2
    · left
      unfold fX10_best
      rw [if_neg c0, if_pos c1]
      refine tgC (t_fX10_bestOfNextRound h_t_exchange_people h_t_exchange_lineCount h_t_exchange_breaks_count h_t_exchange_absences_count hF) (fun u _ => tgI (fun _ => tgS trivial) (fun _ => tgI (fun _ => ?_) (fun _ => ?_)))
      · exact tgC (t_fX1_gainOf h_t_exchange_lineCount hF) (fun u _ => tgS trivial)
      · exact tgC (t_fX1_costOf h_t_exchange_lineCount) (fun u _ => tgS trivial)
    · right
      unfold tX10_best_A tX10_best_A_b9
      rw [if_neg c0, if_neg c1]
theorem c_plan {t_exchange_people : Nat} {t_exchange_lineCount : Nat} {t_exchange_first : Nat → Int32} {t_exchange_second : Nat → Int32} {t_exchange_cost : Nat → Int32} {t_exchange_oneWay : Nat → Int32} {t_exchange_breaks_count : Nat} {t_exchange_breaks_whose : Nat → Int32} {t_exchange_breaks_from : Nat → Int32} {t_exchange_breaks_until : Nat → Int32} {t_exchange_absences_count : Nat} {t_exchange_absences_whose : Nat → Int32} {t_exchange_absences_from : Nat → Int32} {t_exchange_absences_until : Nat → Int32} {t_now_cutLines : Int32} {t_now_rounds : Int32} {t_now_news_people : Nat} {t_now_news_pieces : Nat → Int32} {t_bestSet_worthOfPair : Nat → Int64} {t_bestSet_worthOfGroup : Nat → Int64} {t_planner_news_pieces : Nat → Int32} {x1 : Int32} (h_t_exchange_people : t_exchange_people ≤ 10) (h_t_exchange_lineCount : t_exchange_lineCount ≤ 24) (h_t_exchange_breaks_count : t_exchange_breaks_count ≤ 12) (h_t_exchange_absences_count : t_exchange_absences_count ≤ 12) (h_t_now_news_people : t_now_news_people ≤ 10) (hF : hFS t_exchange_lineCount t_exchange_first t_exchange_second) : tG tT (fX10_plan (nI t_exchange_people) (nI t_exchange_lineCount) t_exchange_first t_exchange_second t_exchange_cost t_exchange_oneWay (nI t_exchange_breaks_count) t_exchange_breaks_whose t_exchange_breaks_from t_exchange_breaks_until (nI t_exchange_absences_count) t_exchange_absences_whose t_exchange_absences_from t_exchange_absences_until t_now_cutLines t_now_rounds (nI t_now_news_people) t_now_news_pieces t_bestSet_worthOfPair t_bestSet_worthOfGroup t_planner_news_pieces x1) ∨ tX10_plan_A x1 = some () := by
  by_cases c0 : x1 < 0
  · right
    unfold tX10_plan_A tX10_plan_A_b9
    rw [if_pos c0]
  · by_cases c1 : x1 ≤ 3
    · left
      unfold fX10_plan
      rw [if_neg c0, if_pos c1]
      refine tgC (t_fX4_make h_t_exchange_people h_t_exchange_lineCount h_t_exchange_breaks_count h_t_exchange_absences_count h_t_now_news_people hF) (fun u hu => ?_)
      obtain ⟨q, q1, q2⟩ := hu
      rw [q2]
      exact tgI (fun _ => tgC (t_fX3_missingPieces q1) (fun _ _ => tgI (fun _ => tgS trivial) (fun _ => tgS trivial))) (fun _ => tgI (fun _ => tgS trivial) (fun _ => tgI (fun _ => tgS trivial) (fun _ => tgC (t_fX3_missingPieces q1) (fun _ _ => tgS trivial))))
    · right
      unfold tX10_plan_A tX10_plan_A_b9
      rw [if_neg c0, if_neg c1]
theorem c_fewest {t_exchange_people : Nat} {t_exchange_lineCount : Nat} {t_exchange_first : Nat → Int32} {t_exchange_second : Nat → Int32} {t_exchange_oneWay : Nat → Int32} {t_exchange_breaks_count : Nat} {t_exchange_breaks_whose : Nat → Int32} {t_exchange_breaks_from : Nat → Int32} {t_exchange_breaks_until : Nat → Int32} {t_exchange_absences_count : Nat} {t_exchange_absences_whose : Nat → Int32} {t_exchange_absences_from : Nat → Int32} {t_exchange_absences_until : Nat → Int32} {t_now_cutLines : Int32} {t_now_rounds : Int32} {t_now_news_people : Nat} {t_now_news_pieces : Nat → Int32} {t_search_limit : Int32} {t_search_after_e_people : Nat → Int32} {t_search_after_e_pieces : Nat → Nat → Int32} {t_search_hears_e : Nat → Nat → Int32} {t_search_talks_e : Nat → Nat → Int32} {x1 : Int32} (h_t_exchange_people : t_exchange_people ≤ 10) (h_t_exchange_lineCount : t_exchange_lineCount ≤ 24) (h_t_exchange_breaks_count : t_exchange_breaks_count ≤ 12) (h_t_exchange_absences_count : t_exchange_absences_count ≤ 12) (h_t_now_news_people : t_now_news_people ≤ 10) (hF : hFS t_exchange_lineCount t_exchange_first t_exchange_second) : tG tT (fX10_fewest (nI t_exchange_people) (nI t_exchange_lineCount) t_exchange_first t_exchange_second t_exchange_oneWay (nI t_exchange_breaks_count) t_exchange_breaks_whose t_exchange_breaks_from t_exchange_breaks_until (nI t_exchange_absences_count) t_exchange_absences_whose t_exchange_absences_from t_exchange_absences_until t_now_cutLines t_now_rounds (nI t_now_news_people) t_now_news_pieces t_search_limit t_search_after_e_people t_search_after_e_pieces t_search_hears_e t_search_talks_e x1) ∨ tX10_fewest_A x1 = some () ∨ tX10_fewest_S (nI t_exchange_people) x1 = some () := by
  by_cases c0 : x1 < 0
  · right; left
    unfold tX10_fewest_A tX10_fewest_A_b9
    rw [if_pos c0]
  · by_cases c1 : x1 ≤ 4
    · by_cases c2 : nI t_exchange_people ≤ 6
      · left
        unfold fX10_fewest
        rw [if_neg c0, if_pos c1, if_pos c2]
        exact tgC (t_find h_t_exchange_lineCount h_t_exchange_breaks_count h_t_exchange_absences_count hF h_t_exchange_people ⟨_, h_t_now_news_people, rfl⟩) (fun u _ => tgS trivial)
      · right; right
        unfold tX10_fewest_S
        rw [if_neg c0, if_pos c1, if_neg c2]
    · right; left
      unfold tX10_fewest_A tX10_fewest_A_b9
      rw [if_neg c0, if_neg c1]
theorem c_soonest {t_exchange_people : Nat} {t_exchange_lineCount : Nat} {t_exchange_first : Nat → Int32} {t_exchange_second : Nat → Int32} {t_exchange_oneWay : Nat → Int32} {t_exchange_breaks_count : Nat} {t_exchange_breaks_whose : Nat → Int32} {t_exchange_breaks_from : Nat → Int32} {t_exchange_breaks_until : Nat → Int32} {t_exchange_absences_count : Nat} {t_exchange_absences_whose : Nat → Int32} {t_exchange_absences_from : Nat → Int32} {t_exchange_absences_until : Nat → Int32} {t_now_cutLines : Int32} {t_now_rounds : Int32} {t_now_news_people : Nat} {t_now_news_pieces : Nat → Int32} {x1 : Int32} {x2 : Int32} (h_t_exchange_people : t_exchange_people ≤ 10) (h_t_exchange_lineCount : t_exchange_lineCount ≤ 24) (h_t_exchange_breaks_count : t_exchange_breaks_count ≤ 12) (h_t_exchange_absences_count : t_exchange_absences_count ≤ 12) (h_t_now_news_people : t_now_news_people ≤ 10) (hF : hFS t_exchange_lineCount t_exchange_first t_exchange_second) : tG tT (fX10_soonest (nI t_exchange_people) (nI t_exchange_lineCount) t_exchange_first t_exchange_second t_exchange_oneWay (nI t_exchange_breaks_count) t_exchange_breaks_whose t_exchange_breaks_from t_exchange_breaks_until (nI t_exchange_absences_count) t_exchange_absences_whose t_exchange_absences_from t_exchange_absences_until t_now_cutLines t_now_rounds (nI t_now_news_people) t_now_news_pieces x1 x2) ∨ tX10_soonest_I (nI t_exchange_people) x1 x2 = some () := by
  rcases c_reqP h_t_exchange_people x1 with h | ⟨k, hk, rfl, h1, h2⟩
  · right
    unfold tX10_soonest_I
    rw [h]
    rfl
  · rcases c_reqP h_t_exchange_people x2 with h | ⟨k2, hk2, rfl, h3, h4⟩
    · right
      unfold tX10_soonest_I
      rw [h2]
      show (fX10_requirePerson _ _).bind _ = _
      refine bnd h1 ?_
      rw [h]
      rfl
    · left
      unfold fX10_soonest
      exact tGb h1 (tGb h3 (tgC (t_fX3_knowersOf h_t_now_news_people) (fun u _ => tl_fX10_soonest_b25 h_t_exchange_lineCount h_t_exchange_breaks_count h_t_exchange_absences_count hF FU _ 0 (by decide) (by have := FUge; omega))))
theorem c_cheapest {t_exchange_people : Nat} {t_exchange_lineCount : Nat} {t_exchange_first : Nat → Int32} {t_exchange_second : Nat → Int32} {t_exchange_cost : Nat → Int32} {t_exchange_oneWay : Nat → Int32} {t_now_cutLines : Int32} {t_now_news_people : Nat} {t_now_news_pieces : Nat → Int32} {t_leastCosts : Nat → Int32} {x1 : Int32} {x2 : Int32} (h_t_exchange_people : t_exchange_people ≤ 10) (h_t_exchange_lineCount : t_exchange_lineCount ≤ 24) (h_t_now_news_people : t_now_news_people ≤ 10) (hF : hFS t_exchange_lineCount t_exchange_first t_exchange_second) : tG tT (fX10_cheapest (nI t_exchange_people) (nI t_exchange_lineCount) t_exchange_first t_exchange_second t_exchange_cost t_exchange_oneWay t_now_cutLines (nI t_now_news_people) t_now_news_pieces t_leastCosts x1 x2) ∨ tX10_cheapest_I (nI t_exchange_people) x1 x2 = some () := by
  rcases c_reqP h_t_exchange_people x1 with h | ⟨k, hk, rfl, h1, h2⟩
  · right
    unfold tX10_cheapest_I
    rw [h]
    rfl
  · rcases c_reqP h_t_exchange_people x2 with h | ⟨k2, hk2, rfl, h3, h4⟩
    · right
      unfold tX10_cheapest_I
      rw [h2]
      show (fX10_requirePerson _ _).bind _ = _
      refine bnd h1 ?_
      rw [h]
      rfl
    · left
      unfold fX10_cheapest
      exact tGb h1 (tGb h3 (tgC (t_fX3_knowersOf h_t_now_news_people) (fun u _ => tgC (t_fX1_fillLeastCosts h_t_exchange_people h_t_exchange_lineCount rfl hF) (fun u _ => tgD (vkn (by omega) (by decide)) (tgS trivial)))))
theorem c_arrange {t_exchange_lineCount : Nat} {t_exchange_first : Nat → Int32} {t_exchange_second : Nat → Int32} {t_exchange_oneWay : Nat → Int32} {t_exchange_breaks_count : Nat} {t_exchange_breaks_whose : Nat → Int32} {t_exchange_breaks_from : Nat → Int32} {t_exchange_breaks_until : Nat → Int32} {t_exchange_absences_count : Nat} {t_exchange_absences_whose : Nat → Int32} {t_exchange_absences_from : Nat → Int32} {t_exchange_absences_until : Nat → Int32} {t_now_arrangedLines : Int32} {t_now_cutLines : Int32} {t_now_rounds : Int32} {t_now_calls : Int32} {t_now_latest : Option Nat} {t_now_news_people : Nat} {t_now_news_pieces : Nat → Int32} {t_history_next : Int32} {t_history_count : Int32} {t_history_earlier_e_arrangedLines : Nat → Int32} {t_history_earlier_e_cutLines : Nat → Int32} {t_history_earlier_e_rounds : Nat → Int32} {t_history_earlier_e_calls : Nat → Int32} {t_history_earlier_e_latest : Nat → Option Nat} {t_history_earlier_e_news_people : Nat → Int32} {t_history_earlier_e_news_pieces : Nat → Nat → Int32} {x1 : Int32} (h_t_exchange_lineCount : t_exchange_lineCount ≤ 24) (h_t_exchange_breaks_count : t_exchange_breaks_count ≤ 12) (h_t_exchange_absences_count : t_exchange_absences_count ≤ 12) (h_t_now_news_people : t_now_news_people ≤ 10) (hF : hFS t_exchange_lineCount t_exchange_first t_exchange_second) {d : Nat} {rl : zRL} (hh : hH rl d t_history_next t_history_count t_history_earlier_e_latest t_history_earlier_e_news_people) (hl : zV rl d t_now_latest) : tG (fun r => hH rl d r.2.2.1 r.2.2.2.1 r.2.2.2.2.2.2.2.2.1 r.2.2.2.2.2.2.2.2.2.1) (fX10_arrange (nI t_exchange_lineCount) t_exchange_first t_exchange_second t_exchange_oneWay (nI t_exchange_breaks_count) t_exchange_breaks_whose t_exchange_breaks_from t_exchange_breaks_until (nI t_exchange_absences_count) t_exchange_absences_whose t_exchange_absences_from t_exchange_absences_until t_now_arrangedLines t_now_cutLines t_now_rounds t_now_calls t_now_latest (nI t_now_news_people) t_now_news_pieces t_history_next t_history_count t_history_earlier_e_arrangedLines t_history_earlier_e_cutLines t_history_earlier_e_rounds t_history_earlier_e_calls t_history_earlier_e_latest t_history_earlier_e_news_people t_history_earlier_e_news_pieces x1) ∨ tX10_arrange_I (nI t_exchange_lineCount) x1 = some () ∨ tX10_arrange_S (nI t_exchange_lineCount) t_exchange_first t_exchange_second (nI t_exchange_breaks_count) t_exchange_breaks_whose t_exchange_breaks_from t_exchange_breaks_until (nI t_exchange_absences_count) t_exchange_absences_whose t_exchange_absences_from t_exchange_absences_until t_now_arrangedLines t_now_cutLines t_now_rounds x1 = some () := by
  rcases c_reqL h_t_exchange_lineCount x1 with h | ⟨k, hk, rfl, h1, h2⟩
  · right; left
    unfold tX10_arrange_I
    rw [h]
    rfl
  · by_cases c0 : fX10_isIn t_now_arrangedLines (nI k) = 0
    · obtain ⟨w, w1, _⟩ := t_fX10_canArrange (t_now_arrangedLines := t_now_arrangedLines) (t_now_cutLines := t_now_cutLines) (t_now_rounds := t_now_rounds) (x1 := nI k) (t_exchange_breaks_whose := t_exchange_breaks_whose) (t_exchange_breaks_from := t_exchange_breaks_from) (t_exchange_breaks_until := t_exchange_breaks_until) (t_exchange_absences_whose := t_exchange_absences_whose) (t_exchange_absences_from := t_exchange_absences_from) (t_exchange_absences_until := t_exchange_absences_until) h_t_exchange_lineCount h_t_exchange_breaks_count h_t_exchange_absences_count hF
      by_cases c1 : w = 0
      · right; right
        unfold tX10_arrange_S
        refine bnd h1 ?_
        rw [if_pos c0]
        refine bnd w1 ?_
        rw [if_pos c1]
      · left
        unfold fX10_arrange
        refine tGb h1 ?_
        rw [if_pos c0]
        refine tGb w1 ?_
        rw [if_neg c1]
        exact tgC (t_remember hh ⟨_, h_t_now_news_people, rfl⟩ hl) (fun u hu => tgC (t_fX10_gain h_t_exchange_lineCount hF) (fun u2 _ => tgS hu))
    · right; right
      unfold tX10_arrange_S
      refine bnd h1 ?_
      rw [if_neg c0]
theorem c_takeBack {t_exchange_lineCount : Nat} {t_exchange_first : Nat → Int32} {t_exchange_second : Nat → Int32} {t_exchange_oneWay : Nat → Int32} {t_now_arrangedLines : Int32} {t_now_cutLines : Int32} {t_now_rounds : Int32} {t_now_calls : Int32} {t_now_latest : Option Nat} {t_now_news_people : Nat} {t_now_news_pieces : Nat → Int32} {t_history_next : Int32} {t_history_count : Int32} {t_history_earlier_e_arrangedLines : Nat → Int32} {t_history_earlier_e_cutLines : Nat → Int32} {t_history_earlier_e_rounds : Nat → Int32} {t_history_earlier_e_calls : Nat → Int32} {t_history_earlier_e_latest : Nat → Option Nat} {t_history_earlier_e_news_people : Nat → Int32} {t_history_earlier_e_news_pieces : Nat → Nat → Int32} {x1 : Int32} (h_t_exchange_lineCount : t_exchange_lineCount ≤ 24) (h_t_now_news_people : t_now_news_people ≤ 10) (hF : hFS t_exchange_lineCount t_exchange_first t_exchange_second) {d : Nat} {rl : zRL} (hh : hH rl d t_history_next t_history_count t_history_earlier_e_latest t_history_earlier_e_news_people) (hl : zV rl d t_now_latest) : tG (fun r => hH rl d r.2.2.1 r.2.2.2.1 r.2.2.2.2.2.2.2.2.1 r.2.2.2.2.2.2.2.2.2.1) (fX10_takeBack (nI t_exchange_lineCount) t_exchange_first t_exchange_second t_exchange_oneWay t_now_arrangedLines t_now_cutLines t_now_rounds t_now_calls t_now_latest (nI t_now_news_people) t_now_news_pieces t_history_next t_history_count t_history_earlier_e_arrangedLines t_history_earlier_e_cutLines t_history_earlier_e_rounds t_history_earlier_e_calls t_history_earlier_e_latest t_history_earlier_e_news_people t_history_earlier_e_news_pieces x1) ∨ tX10_takeBack_I (nI t_exchange_lineCount) x1 = some () ∨ tX10_takeBack_S (nI t_exchange_lineCount) t_now_arrangedLines x1 = some () := by
  rcases c_reqL h_t_exchange_lineCount x1 with h | ⟨k, hk, rfl, h1, h2⟩
  · right; left
    unfold tX10_takeBack_I
    rw [h]
    rfl
  · by_cases c0 : fX10_isIn t_now_arrangedLines (nI k) = 0
    · right; right
      unfold tX10_takeBack_S
      refine bnd h1 ?_
      rw [if_pos c0]
    · left
      unfold fX10_takeBack
      refine tGb h1 ?_
      rw [if_neg c0]
      exact tgC (t_remember hh ⟨_, h_t_now_news_people, rfl⟩ hl) (fun u hu => tgC (t_fX10_gain h_t_exchange_lineCount hF) (fun u2 _ => tgS hu))
theorem c_arrangeBest {t_exchange_people : Nat} {t_exchange_lineCount : Nat} {t_exchange_first : Nat → Int32} {t_exchange_second : Nat → Int32} {t_exchange_cost : Nat → Int32} {t_exchange_oneWay : Nat → Int32} {t_exchange_breaks_count : Nat} {t_exchange_breaks_whose : Nat → Int32} {t_exchange_breaks_from : Nat → Int32} {t_exchange_breaks_until : Nat → Int32} {t_exchange_absences_count : Nat} {t_exchange_absences_whose : Nat → Int32} {t_exchange_absences_from : Nat → Int32} {t_exchange_absences_until : Nat → Int32} {t_now_arrangedLines : Int32} {t_now_cutLines : Int32} {t_now_rounds : Int32} {t_now_calls : Int32} {t_now_latest : Option Nat} {t_now_news_people : Nat} {t_now_news_pieces : Nat → Int32} {t_history_next : Int32} {t_history_count : Int32} {t_history_earlier_e_arrangedLines : Nat → Int32} {t_history_earlier_e_cutLines : Nat → Int32} {t_history_earlier_e_rounds : Nat → Int32} {t_history_earlier_e_calls : Nat → Int32} {t_history_earlier_e_latest : Nat → Option Nat} {t_history_earlier_e_news_people : Nat → Int32} {t_history_earlier_e_news_pieces : Nat → Nat → Int32} {t_bestSet_worthOfPair : Nat → Int64} {t_bestSet_worthOfGroup : Nat → Int64} (h_t_exchange_people : t_exchange_people ≤ 10) (h_t_exchange_lineCount : t_exchange_lineCount ≤ 24) (h_t_exchange_breaks_count : t_exchange_breaks_count ≤ 12) (h_t_exchange_absences_count : t_exchange_absences_count ≤ 12) (h_t_now_news_people : t_now_news_people ≤ 10) (hF : hFS t_exchange_lineCount t_exchange_first t_exchange_second) {d : Nat} {rl : zRL} (hh : hH rl d t_history_next t_history_count t_history_earlier_e_latest t_history_earlier_e_news_people) (hl : zV rl d t_now_latest) : tG (fun r => hH rl d r.2.2.1 r.2.2.2.1 r.2.2.2.2.2.2.2.2.1 r.2.2.2.2.2.2.2.2.2.1) (fX10_arrangeBest (nI t_exchange_people) (nI t_exchange_lineCount) t_exchange_first t_exchange_second t_exchange_cost t_exchange_oneWay (nI t_exchange_breaks_count) t_exchange_breaks_whose t_exchange_breaks_from t_exchange_breaks_until (nI t_exchange_absences_count) t_exchange_absences_whose t_exchange_absences_from t_exchange_absences_until t_now_arrangedLines t_now_cutLines t_now_rounds t_now_calls t_now_latest (nI t_now_news_people) t_now_news_pieces t_history_next t_history_count t_history_earlier_e_arrangedLines t_history_earlier_e_cutLines t_history_earlier_e_rounds t_history_earlier_e_calls t_history_earlier_e_latest t_history_earlier_e_news_people t_history_earlier_e_news_pieces t_bestSet_worthOfPair t_bestSet_worthOfGroup) := by
  unfold fX10_arrangeBest
  exact tgC (t_remember hh ⟨_, h_t_now_news_people, rfl⟩ hl) (fun u hu => tgC (t_fX10_bestOfNextRound h_t_exchange_people h_t_exchange_lineCount h_t_exchange_breaks_count h_t_exchange_absences_count hF) (fun u4 _ => tgC (t_fX10_gain h_t_exchange_lineCount hF) (fun u2 _ => tgS hu)))
theorem c_cut {t_exchange_lineCount : Nat} {t_now_arrangedLines : Int32} {t_now_cutLines : Int32} {t_now_rounds : Int32} {t_now_calls : Int32} {t_now_latest : Option Nat} {t_now_news_people : Nat} {t_now_news_pieces : Nat → Int32} {t_history_next : Int32} {t_history_count : Int32} {t_history_earlier_e_arrangedLines : Nat → Int32} {t_history_earlier_e_cutLines : Nat → Int32} {t_history_earlier_e_rounds : Nat → Int32} {t_history_earlier_e_calls : Nat → Int32} {t_history_earlier_e_latest : Nat → Option Nat} {t_history_earlier_e_news_people : Nat → Int32} {t_history_earlier_e_news_pieces : Nat → Nat → Int32} {x1 : Int32} (h_t_exchange_lineCount : t_exchange_lineCount ≤ 24) (h_t_now_news_people : t_now_news_people ≤ 10) {d : Nat} {rl : zRL} (hh : hH rl d t_history_next t_history_count t_history_earlier_e_latest t_history_earlier_e_news_people) (hl : zV rl d t_now_latest) : tG (fun r => (r.1 = 0 ∨ r.1 = 1) ∧ hH rl d r.2.2.2.1 r.2.2.2.2.1 r.2.2.2.2.2.2.2.2.2.1 r.2.2.2.2.2.2.2.2.2.2.1) (fX10_cut (nI t_exchange_lineCount) t_now_arrangedLines t_now_cutLines t_now_rounds t_now_calls t_now_latest (nI t_now_news_people) t_now_news_pieces t_history_next t_history_count t_history_earlier_e_arrangedLines t_history_earlier_e_cutLines t_history_earlier_e_rounds t_history_earlier_e_calls t_history_earlier_e_latest t_history_earlier_e_news_people t_history_earlier_e_news_pieces x1) ∨ tX10_cut_I (nI t_exchange_lineCount) x1 = some () ∨ tX10_cut_S (nI t_exchange_lineCount) t_now_cutLines x1 = some () := by
  rcases c_reqL h_t_exchange_lineCount x1 with h | ⟨k, hk, rfl, h1, h2⟩
  · right; left
    unfold tX10_cut_I
    rw [h]
    rfl
  · by_cases c0 : fX10_isIn t_now_cutLines (nI k) = 0
    · left
      unfold fX10_cut
      refine tGb h1 ?_
      rw [if_pos c0]
      exact tgC (t_remember hh ⟨_, h_t_now_news_people, rfl⟩ hl) (fun u hu => tgS ⟨tz _ _, hu⟩)
    · right; right
      unfold tX10_cut_S
      refine bnd h1 ?_
      rw [if_neg c0]
theorem c_mend {t_exchange_lineCount : Nat} {t_now_arrangedLines : Int32} {t_now_cutLines : Int32} {t_now_rounds : Int32} {t_now_calls : Int32} {t_now_latest : Option Nat} {t_now_news_people : Nat} {t_now_news_pieces : Nat → Int32} {t_history_next : Int32} {t_history_count : Int32} {t_history_earlier_e_arrangedLines : Nat → Int32} {t_history_earlier_e_cutLines : Nat → Int32} {t_history_earlier_e_rounds : Nat → Int32} {t_history_earlier_e_calls : Nat → Int32} {t_history_earlier_e_latest : Nat → Option Nat} {t_history_earlier_e_news_people : Nat → Int32} {t_history_earlier_e_news_pieces : Nat → Nat → Int32} {x1 : Int32} (h_t_exchange_lineCount : t_exchange_lineCount ≤ 24) (h_t_now_news_people : t_now_news_people ≤ 10) {d : Nat} {rl : zRL} (hh : hH rl d t_history_next t_history_count t_history_earlier_e_latest t_history_earlier_e_news_people) (hl : zV rl d t_now_latest) : tG (fun r => hH rl d r.2.2.1 r.2.2.2.1 r.2.2.2.2.2.2.2.2.1 r.2.2.2.2.2.2.2.2.2.1) (fX10_mend (nI t_exchange_lineCount) t_now_arrangedLines t_now_cutLines t_now_rounds t_now_calls t_now_latest (nI t_now_news_people) t_now_news_pieces t_history_next t_history_count t_history_earlier_e_arrangedLines t_history_earlier_e_cutLines t_history_earlier_e_rounds t_history_earlier_e_calls t_history_earlier_e_latest t_history_earlier_e_news_people t_history_earlier_e_news_pieces x1) ∨ tX10_mend_I (nI t_exchange_lineCount) x1 = some () ∨ tX10_mend_S (nI t_exchange_lineCount) t_now_cutLines x1 = some () := by
  rcases c_reqL h_t_exchange_lineCount x1 with h | ⟨k, hk, rfl, h1, h2⟩
  · right; left
    unfold tX10_mend_I
    rw [h]
    rfl
  · by_cases c0 : fX10_isIn t_now_cutLines (nI k) = 0
    · right; right
      unfold tX10_mend_S
      refine bnd h1 ?_
      rw [if_pos c0]
    · left
      unfold fX10_mend
      refine tGb h1 ?_
      rw [if_neg c0]
      exact tgC (t_remember hh ⟨_, h_t_now_news_people, rfl⟩ hl) (fun u hu => tgS hu)
theorem c_tell {t_exchange_people : Nat} {t_now_arrangedLines : Int32} {t_now_cutLines : Int32} {t_now_rounds : Int32} {t_now_calls : Int32} {t_now_latest : Option Nat} {t_now_news_people : Nat} {t_now_news_pieces : Nat → Int32} {t_history_next : Int32} {t_history_count : Int32} {t_history_earlier_e_arrangedLines : Nat → Int32} {t_history_earlier_e_cutLines : Nat → Int32} {t_history_earlier_e_rounds : Nat → Int32} {t_history_earlier_e_calls : Nat → Int32} {t_history_earlier_e_latest : Nat → Option Nat} {t_history_earlier_e_news_people : Nat → Int32} {t_history_earlier_e_news_pieces : Nat → Nat → Int32} {x1 : Int32} {x2 : Int32} (h_t_exchange_people : t_exchange_people ≤ 10) (h_t_now_news_people : t_now_news_people ≤ 10) {d : Nat} {rl : zRL} (hh : hH rl d t_history_next t_history_count t_history_earlier_e_latest t_history_earlier_e_news_people) (hl : zV rl d t_now_latest) : tG (fun r => hH rl d r.2.2.1 r.2.2.2.1 r.2.2.2.2.2.2.2.2.1 r.2.2.2.2.2.2.2.2.2.1) (fX10_tell (nI t_exchange_people) t_now_arrangedLines t_now_cutLines t_now_rounds t_now_calls t_now_latest (nI t_now_news_people) t_now_news_pieces t_history_next t_history_count t_history_earlier_e_arrangedLines t_history_earlier_e_cutLines t_history_earlier_e_rounds t_history_earlier_e_calls t_history_earlier_e_latest t_history_earlier_e_news_people t_history_earlier_e_news_pieces x1 x2) ∨ tX10_tell_I (nI t_exchange_people) x1 x2 = some () ∨ tX10_tell_S (nI t_exchange_people) t_now_news_pieces x1 x2 = some () := by
  rcases c_reqP h_t_exchange_people x1 with h | ⟨k, hk, rfl, h1, h2⟩
  · right; left
    unfold tX10_tell_I
    rw [h]
    rfl
  · rcases c_reqP h_t_exchange_people x2 with h | ⟨k2, hk2, rfl, h3, h4⟩
    · right; left
      unfold tX10_tell_I
      rw [h2]
      show (fX10_requirePerson _ _).bind _ = _
      refine bnd h1 ?_
      rw [h]
      rfl
    · by_cases c0 : fX10_isIn (t_now_news_pieces (nI k).toNatClampNeg) (nI k2) = 0
      · left
        unfold fX10_tell
        refine tGb h1 (tGb h3 (tgD (vkn (by omega) (by decide)) ?_))
        rw [if_pos c0]
        exact tgC (t_remember hh ⟨_, h_t_now_news_people, rfl⟩ hl) (fun u hu => tgS hu)
      · right; right
        unfold tX10_tell_S
        refine bnd h1 (bnd h3 ?_)
        rw [gdI (show vp_in (nI k) 10 from vp_in_nI (by omega) (by decide)), if_neg c0]
theorem c_undo {t_now_arrangedLines : Int32} {t_now_cutLines : Int32} {t_now_rounds : Int32} {t_now_calls : Int32} {t_now_latest : Option Nat} {t_now_news_people : Nat} {t_now_news_pieces : Nat → Int32} {t_history_next : Int32} {t_history_count : Int32} {t_history_earlier_e_arrangedLines : Nat → Int32} {t_history_earlier_e_cutLines : Nat → Int32} {t_history_earlier_e_rounds : Nat → Int32} {t_history_earlier_e_calls : Nat → Int32} {t_history_earlier_e_latest : Nat → Option Nat} {t_history_earlier_e_news_people : Nat → Int32} {t_history_earlier_e_news_pieces : Nat → Nat → Int32} (h_t_now_news_people : t_now_news_people ≤ 10) {d : Nat} {rl : zRL} (hh : hH rl d t_history_next t_history_count t_history_earlier_e_latest t_history_earlier_e_news_people) (hl : zV rl d t_now_latest) : tG (fun r => hH rl d r.2.2.2.2.2.2.2.2.1 r.2.2.2.2.2.2.2.2.2 t_history_earlier_e_latest t_history_earlier_e_news_people ∧ zV rl d r.2.2.2.2.2.1 ∧ pB 10 r.2.2.2.2.2.2.1) (fX10_undo t_now_arrangedLines t_now_cutLines t_now_rounds t_now_calls t_now_latest (nI t_now_news_people) t_now_news_pieces t_history_next t_history_count t_history_earlier_e_arrangedLines t_history_earlier_e_cutLines t_history_earlier_e_rounds t_history_earlier_e_calls t_history_earlier_e_latest t_history_earlier_e_news_people t_history_earlier_e_news_pieces) := by
  unfold fX10_undo
  exact tgC (t_stepBack hh ⟨_, h_t_now_news_people, rfl⟩ hl) (fun u hu => tgS hu)
theorem c_saveSnapshot {t_now_arrangedLines : Int32} {t_now_cutLines : Int32} {t_now_rounds : Int32} {t_now_calls : Int32} {t_now_latest : Option Nat} {t_now_news_people : Nat} {t_now_news_pieces : Nat → Int32} {t_slots_e_arrangedLines : Nat → Int32} {t_slots_e_cutLines : Nat → Int32} {t_slots_e_rounds : Nat → Int32} {t_slots_e_calls : Nat → Int32} {t_slots_e_latest : Nat → Option Nat} {t_slots_e_news_people : Nat → Int32} {t_slots_e_news_pieces : Nat → Nat → Int32} {t_filled : Nat → Int32} {x1 : Int32} (h_t_now_news_people : t_now_news_people ≤ 10) {d : Nat} {rl : zRL} (hs : ∀ s : Nat, s < 2 → (pB 10 (t_slots_e_news_people s) ∧ zV rl d (t_slots_e_latest s)) ∧ (t_filled s = 0 ∨ t_filled s = 1)) (hl : zV rl d t_now_latest) : tG (fun r => (r.1 = 0 ∨ r.1 = 1) ∧ ∀ s : Nat, s < 2 → (pB 10 (r.2.2.2.2.2.2.1 s) ∧ zV rl d (r.2.2.2.2.2.1 s)) ∧ (r.2.2.2.2.2.2.2.2 s = 0 ∨ r.2.2.2.2.2.2.2.2 s = 1)) (fX10_saveSnapshot t_now_arrangedLines t_now_cutLines t_now_rounds t_now_calls t_now_latest (nI t_now_news_people) t_now_news_pieces t_slots_e_arrangedLines t_slots_e_cutLines t_slots_e_rounds t_slots_e_calls t_slots_e_latest t_slots_e_news_people t_slots_e_news_pieces t_filled x1) ∨ tX10_saveSnapshot_I x1 = some () := by
  rcases c_reqS x1 with h | ⟨k, hk, rfl, h1, h2⟩
  · right
    unfold tX10_saveSnapshot_I
    rw [h]
    rfl
  · left
    unfold fX10_saveSnapshot
    refine tGb h1 (tgD (vkn hk (by decide)) (tgN (fun J hJ => ?_)))
    rw [nI_clamp (by omega)] at hJ ⊢
    subst hJ
    obtain ⟨pc, hpc⟩ := t_copy7 (t_news_pieces := t_slots_e_news_pieces J) (p1_arrangedLines := t_now_arrangedLines) (p1_cutLines := t_now_cutLines) (p1_rounds := t_now_rounds) (p1_calls := t_now_calls) (p1_latest := t_now_latest) (p1_news_people := nI t_now_news_people) (p1_news_pieces := t_now_news_pieces)
    refine tGb hpc (tgB (hs J hk).2 (tgS ⟨(hs J hk).2, fun s hs1 => ?_⟩))
    show (pB 10 (va_up t_slots_e_news_people J (nI t_now_news_people) s) ∧ zV rl d (va_up t_slots_e_latest J t_now_latest s)) ∧ (upd t_filled J (vp_nar .boolean 1) s = 0 ∨ upd t_filled J (vp_nar .boolean 1) s = 1)
    by_cases c : s = J
    · subst c
      rw [upS, upS, pk_us]
      exact ⟨⟨⟨_, h_t_now_news_people, rfl⟩, hl⟩, Or.inr rfl⟩
    · rw [upN c, upN c, pk_un c]
      exact hs s hs1
theorem c_restoreSnapshot {t_now_news_pieces : Nat → Int32} {t_slots_e_arrangedLines : Nat → Int32} {t_slots_e_cutLines : Nat → Int32} {t_slots_e_rounds : Nat → Int32} {t_slots_e_calls : Nat → Int32} {t_slots_e_latest : Nat → Option Nat} {t_slots_e_news_people : Nat → Int32} {t_slots_e_news_pieces : Nat → Nat → Int32} {t_filled : Nat → Int32} {x1 : Int32} {d : Nat} {rl : zRL} (hs : ∀ s : Nat, s < 2 → (pB 10 (t_slots_e_news_people s) ∧ zV rl d (t_slots_e_latest s)) ∧ (t_filled s = 0 ∨ t_filled s = 1)) : tG (fun r => zV rl d r.2.2.2.2.2.1 ∧ pB 10 r.2.2.2.2.2.2.1 ∧ r.2.2.2.2.2.2.2.2 = 0) (fX10_restoreSnapshot t_now_news_pieces t_slots_e_arrangedLines t_slots_e_cutLines t_slots_e_rounds t_slots_e_calls t_slots_e_latest t_slots_e_news_people t_slots_e_news_pieces t_filled x1) ∨ tX10_restoreSnapshot_I x1 = some () ∨ tX10_restoreSnapshot_S t_filled x1 = some () := by
  rcases c_reqS x1 with h | ⟨k, hk, rfl, h1, h2⟩
  · right; left
    unfold tX10_restoreSnapshot_I
    rw [h]
    rfl
  · by_cases c0 : t_filled (nI k).toNatClampNeg = 0
    · right; right
      unfold tX10_restoreSnapshot_S
      refine bnd h1 ?_
      rw [gdI (show vp_in (nI k) 2 from vp_in_nI hk (by decide)), if_pos c0]
    · left
      unfold fX10_restoreSnapshot
      refine tGb h1 (tgD (vkn hk (by decide)) ?_)
      rw [if_neg c0]
      refine tgN (fun J hJ => ?_)
      rw [nI_clamp (by omega)] at hJ
      subst hJ
      obtain ⟨pc, hpc⟩ := t_copy7 (t_news_pieces := t_now_news_pieces) (p1_arrangedLines := t_slots_e_arrangedLines J) (p1_cutLines := t_slots_e_cutLines J) (p1_rounds := t_slots_e_rounds J) (p1_calls := t_slots_e_calls J) (p1_latest := t_slots_e_latest J) (p1_news_people := t_slots_e_news_people J) (p1_news_pieces := t_slots_e_news_pieces J)
      exact tGb hpc (tgN (fun w hw => tgS ⟨(hs J hk).1.2, (hs J hk).1.1, hw⟩))
theorem c_spent {t_now_latest : Option Nat} {rl : zRL} {x1 : Int32} {d : Nat} (hl : zV rl d t_now_latest) (hd : d ≤ 10000) : tG tT (fX10_spent t_now_latest rl x1) ∨ tX10_spent_A x1 = some () := by
  by_cases c0 : x1 < 0
  · right
    unfold tX10_spent_A tX10_spent_A_b11
    rw [if_pos c0]
  · by_cases c1 : x1 ≤ 9999
    · left
      unfold fX10_spent
      rw [if_neg c0, if_pos c1]
      exact tgC (t_spentUpTo hl hd) (fun u _ => tgS trivial)
    · right
      unfold tX10_spent_A tX10_spent_A_b11
      rw [if_neg c0, if_neg c1]
theorem c_ring {t_exchange_lineCount : Nat} {t_exchange_first : Nat → Int32} {t_exchange_second : Nat → Int32} {t_exchange_cost : Nat → Int32} {t_exchange_oneWay : Nat → Int32} {t_now_arrangedLines : Int32} {t_now_cutLines : Int32} {t_now_rounds : Int32} {t_now_calls : Int32} {t_now_latest : Option Nat} {t_now_news_people : Nat} {t_now_news_pieces : Nat → Int32} {t_history_next : Int32} {t_history_count : Int32} {t_history_earlier_e_arrangedLines : Nat → Int32} {t_history_earlier_e_cutLines : Nat → Int32} {t_history_earlier_e_rounds : Nat → Int32} {t_history_earlier_e_calls : Nat → Int32} {t_history_earlier_e_latest : Nat → Option Nat} {t_history_earlier_e_news_people : Nat → Int32} {t_history_earlier_e_news_pieces : Nat → Nat → Int32} {rl : zRL} (h_t_exchange_lineCount : t_exchange_lineCount ≤ 24) (h_t_now_news_people : t_now_news_people ≤ 10) (hF : hFS t_exchange_lineCount t_exchange_first t_exchange_second) {d : Nat} (hh : hH rl d t_history_next t_history_count t_history_earlier_e_latest t_history_earlier_e_news_people) (hl : zV rl d t_now_latest) (hd : d ≤ 10000) : tG (fun r => hH rl d r.2.2.2.2.2.1 r.2.2.2.2.2.2.1 r.2.2.2.2.2.2.2.2.2.2.2.1 r.2.2.2.2.2.2.2.2.2.2.2.2.1) (fX10_ring (nI t_exchange_lineCount) t_exchange_first t_exchange_second t_exchange_cost t_exchange_oneWay t_now_arrangedLines t_now_cutLines t_now_rounds t_now_calls t_now_latest (nI t_now_news_people) t_now_news_pieces t_history_next t_history_count t_history_earlier_e_arrangedLines t_history_earlier_e_cutLines t_history_earlier_e_rounds t_history_earlier_e_calls t_history_earlier_e_latest t_history_earlier_e_news_people t_history_earlier_e_news_pieces rl) ∨ tX10_ring_S t_now_rounds = some () := by
  by_cases c0 : t_now_rounds < 9999
  · left
    unfold fX10_ring
    rw [if_pos c0]
    exact tgC (t_remember hh ⟨_, h_t_now_news_people, rfl⟩ hl) (fun u hu => tgC (t_fX10_gain h_t_exchange_lineCount hF) (fun _ _ => tgC (t_fX1_makeCalls h_t_exchange_lineCount hF) (fun _ _ => tgC (t_fX1_costOf h_t_exchange_lineCount) (fun _ _ => tgC (t_spentUpTo hl hd) (fun _ _ => tgS hu)))))
  · right
    unfold tX10_ring_S
    rw [if_neg c0]
