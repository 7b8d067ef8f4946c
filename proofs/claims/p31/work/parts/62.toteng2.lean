/-! that the pure functions give an answer: by program -/
theorem tl_fX3_knowersOf_b4 {t_people : Nat} {t_pieces : Nat → Int32} {x1 : Int32} (hb_t_people : t_people ≤ 10) : ∀ (n : Nat) (y2 : Int32) (y3 : Nat), y3 ≤ t_people → t_people - y3 < n → tG tT (fX3_knowersOf_b4 (nI t_people) t_pieces x1 n y2 (nI y3)) := by
  intro n
  induction n with
  | zero =>
    intro y2 y3 hi0 hm
    omega
  | succ n ih =>
    intro y2 y3 hi0 hm
    rw [fX3_knowersOf_b4_s]
    refine tgI (fun h1 => ?_) (fun h1 => ?_)
    · have h1 := nll (a := t_people) (b := y3) h1 (by omega) (by omega)
      exact tgS trivial
    · have h1 := nln (a := t_people) (b := y3) h1 (by omega) (by omega)
      refine tgD (vkn (by omega) (by omega)) ?_
      refine tgI (fun h2 => ?_) (fun h2 => ?_)
      · rw [show ((nI y3) + 1 : Int32) = nI (y3 + 1) from (nadd rfl (show (1 : Int32) = nI 1 from rfl))]
        exact ih _ (y3 + 1) (by first | omega | assumption | exact Or.inl rfl | exact Or.inr rfl) (by omega)
      · rw [show ((nI y3) + 1 : Int32) = nI (y3 + 1) from (nadd rfl (show (1 : Int32) = nI 1 from rfl))]
        exact ih _ (y3 + 1) (by first | omega | assumption | exact Or.inl rfl | exact Or.inr rfl) (by omega)
theorem t_fX3_knowersOf {t_people : Nat} {t_pieces : Nat → Int32} {x1 : Int32} (hb_t_people : t_people ≤ 10) : tG tT (fX3_knowersOf (nI t_people) t_pieces x1) := by
  unfold fX3_knowersOf
  exact (tl_fX3_knowersOf_b4 (t_people := t_people) (by omega) FU _ 0 (by first | omega | assumption | exact Or.inl rfl | exact Or.inr rfl) (by have := FUge; omega))
theorem tl_fX3_doublingsFrom_b4 {t_people : Nat} (hb_t_people : t_people ≤ 10) : ∀ (n : Nat) (y2 : Nat) (y3 : Int32), y2 ≤ 10 → 10 - y2 < n → tG tT (fX3_doublingsFrom_b4 (nI t_people) n (nI y2) y3) := by
  intro n
  induction n with
  | zero =>
    intro y2 y3 hi0 hm
    omega
  | succ n ih =>
    intro y2 y3 hi0 hm
    rw [fX3_doublingsFrom_b4_s]
    refine tgI (fun h1 => ?_) (fun h1 => ?_)
    · exact tgS trivial
    · refine tgI (fun h2 => ?_) (fun h2 => ?_)
      · have h2 := nll (a := 10) (b := y2) h2 (by omega) (by omega)
        exact tgS trivial
      · have h2 := nln (a := 10) (b := y2) h2 (by omega) (by omega)
        rw [show ((nI y2) + 1 : Int32) = nI (y2 + 1) from (nadd rfl (show (1 : Int32) = nI 1 from rfl))]
        exact ih (y2 + 1) _ (by first | omega | assumption | exact Or.inl rfl | exact Or.inr rfl) (by omega)
theorem t_fX3_doublingsFrom {t_people : Nat} {x1 : Int32} (hb_t_people : t_people ≤ 10) : tG tT (fX3_doublingsFrom (nI t_people) x1) := by
  unfold fX3_doublingsFrom
  exact (tl_fX3_doublingsFrom_b4 (t_people := t_people) (by omega) FU 0 _ (by first | omega | assumption | exact Or.inl rfl | exact Or.inr rfl) (by have := FUge; omega))
theorem tl_fX3_neededDoublings_b4 {t_people : Nat} {t_pieces : Nat → Int32} (hb_t_people : t_people ≤ 10) : ∀ (n : Nat) (y1 : Int32) (y2 : Nat), y2 ≤ t_people → t_people - y2 < n → tG tT (fX3_neededDoublings_b4 (nI t_people) t_pieces n y1 (nI y2)) := by
  intro n
  induction n with
  | zero =>
    intro y1 y2 hi0 hm
    omega
  | succ n ih =>
    intro y1 y2 hi0 hm
    rw [fX3_neededDoublings_b4_s]
    refine tgI (fun h1 => ?_) (fun h1 => ?_)
    · have h1 := nll (a := t_people) (b := y2) h1 (by omega) (by omega)
      exact tgS trivial
    · have h1 := nln (a := t_people) (b := y2) h1 (by omega) (by omega)
      refine tgC (t_fX3_knowersOf (t_people := t_people) (by omega)) (fun u2 hu2 => ?_)
      refine tgC (t_fX3_doublingsFrom (t_people := t_people) (by omega)) (fun u8 hu8 => ?_)
      refine tgN (fun w11 ew11 => ?_)
      rw [show ((nI y2) + 1 : Int32) = nI (y2 + 1) from (nadd rfl (show (1 : Int32) = nI 1 from rfl))]
      exact ih _ (y2 + 1) (by first | omega | assumption | exact Or.inl rfl | exact Or.inr rfl) (by omega)
theorem t_fX3_neededDoublings {t_people : Nat} {t_pieces : Nat → Int32} (hb_t_people : t_people ≤ 10) : tG tT (fX3_neededDoublings (nI t_people) t_pieces) := by
  unfold fX3_neededDoublings
  exact (tl_fX3_neededDoublings_b4 (t_people := t_people) (by omega) FU _ 0 (by first | omega | assumption | exact Or.inl rfl | exact Or.inr rfl) (by have := FUge; omega))
theorem t_fX1_gainOfLine {L : Nat} {t_first : Nat → Int32} {t_second : Nat → Int32} {t_oneWay : Nat → Int32} {p2_pieces : Nat → Int32} {x1 : Nat} (hb_x1 : x1 ≤ 23) (hx : x1 < L) (hF : hFS L t_first t_second) : tG tT (fX1_gainOfLine t_first t_second t_oneWay p2_pieces (nI x1)) := by
  unfold fX1_gainOfLine
  refine tgD (vkn (by omega) (by omega)) ?_
  refine tgD (vpB (hF x1 (by omega)).1 (by omega) (by omega)) ?_
  refine tgN (fun w3 ew3 => ?_)
  refine tgD (vpB (hF x1 (by omega)).2 (by omega) (by omega)) ?_
  refine tgN (fun w5 ew5 => ?_)
  refine tgN (fun w9 ew9 => ?_)
  refine tgI (fun h1 => ?_) (fun h1 => ?_)
  · exact tgS trivial
  · exact tgS trivial
theorem tl_fX8_keptOut_b4 {t_count : Nat} {t_whose : Nat → Int32} {t_from : Nat → Int32} {t_until : Nat → Int32} {x1 : Int32} (hb_t_count : t_count ≤ 12) : ∀ (n : Nat) (y2 : Int32) (y3 : Nat), y3 ≤ t_count → t_count - y3 < n → tG tT (fX8_keptOut_b4 (nI t_count) t_whose t_from t_until x1 n y2 (nI y3)) := by
  intro n
  induction n with
  | zero =>
    intro y2 y3 hi0 hm
    omega
  | succ n ih =>
    intro y2 y3 hi0 hm
    rw [fX8_keptOut_b4_s]
    refine tgI (fun h1 => ?_) (fun h1 => ?_)
    · have h1 := nll (a := t_count) (b := y3) h1 (by omega) (by omega)
      exact tgS trivial
    · have h1 := nln (a := t_count) (b := y3) h1 (by omega) (by omega)
      refine tgD (vkn (by omega) (by omega)) ?_
      refine tgI (fun h2 => ?_) (fun h2 => ?_)
      · rw [show ((nI y3) + 1 : Int32) = nI (y3 + 1) from (nadd rfl (show (1 : Int32) = nI 1 from rfl))]
        exact ih _ (y3 + 1) (by first | omega | assumption | exact Or.inl rfl | exact Or.inr rfl) (by omega)
      · refine tgI (fun h3 => ?_) (fun h3 => ?_)
        · rw [show ((nI y3) + 1 : Int32) = nI (y3 + 1) from (nadd rfl (show (1 : Int32) = nI 1 from rfl))]
          exact ih _ (y3 + 1) (by first | omega | assumption | exact Or.inl rfl | exact Or.inr rfl) (by omega)
        · refine tgN (fun w5 ew5 => ?_)
          rw [show ((nI y3) + 1 : Int32) = nI (y3 + 1) from (nadd rfl (show (1 : Int32) = nI 1 from rfl))]
          exact ih _ (y3 + 1) (by first | omega | assumption | exact Or.inl rfl | exact Or.inr rfl) (by omega)
theorem t_fX8_keptOut {t_count : Nat} {t_whose : Nat → Int32} {t_from : Nat → Int32} {t_until : Nat → Int32} {x1 : Int32} (hb_t_count : t_count ≤ 12) : tG tT (fX8_keptOut (nI t_count) t_whose t_from t_until x1) := by
  unfold fX8_keptOut
  exact (tl_fX8_keptOut_b4 (t_count := t_count) (by omega) FU _ 0 (by first | omega | assumption | exact Or.inl rfl | exact Or.inr rfl) (by have := FUge; omega))
theorem tl_fX1_openLines_b28 {t_lineCount : Nat} {t_first : Nat → Int32} {t_second : Nat → Int32} (hb_t_lineCount : t_lineCount ≤ 24) (hFS_t : hFS t_lineCount t_first t_second) : ∀ (n : Nat) (y2 : Int32) (y3 : Int32) (y4 : Nat), y4 ≤ t_lineCount → t_lineCount - y4 < n → tG tT (fX1_openLines_b28 (nI t_lineCount) t_first t_second n y2 y3 (nI y4)) := by
  intro n
  induction n with
  | zero =>
    intro y2 y3 y4 hi0 hm
    omega
  | succ n ih =>
    intro y2 y3 y4 hi0 hm
    rw [fX1_openLines_b28_s]
    refine tgI (fun h1 => ?_) (fun h1 => ?_)
    · have h1 := nll (a := t_lineCount) (b := y4) h1 (by omega) (by omega)
      exact tgS trivial
    · have h1 := nln (a := t_lineCount) (b := y4) h1 (by omega) (by omega)
      refine tgD (vkn (by omega) (by omega)) ?_
      refine tgI (fun h2 => ?_) (fun h2 => ?_)
      · refine tgI (fun h3 => ?_) (fun h3 => ?_)
        · rw [show ((nI y4) + 1 : Int32) = nI (y4 + 1) from (nadd rfl (show (1 : Int32) = nI 1 from rfl))]
          exact ih _ _ (y4 + 1) (by first | omega | assumption | exact Or.inl rfl | exact Or.inr rfl) (by omega)
        · unfold fX1_openLines_b65
          rw [show ((nI y4) + 1 : Int32) = nI (y4 + 1) from (nadd rfl (show (1 : Int32) = nI 1 from rfl))]
          exact ih _ _ (y4 + 1) (by first | omega | assumption | exact Or.inl rfl | exact Or.inr rfl) (by omega)
      · unfold fX1_openLines_b65
        rw [show ((nI y4) + 1 : Int32) = nI (y4 + 1) from (nadd rfl (show (1 : Int32) = nI 1 from rfl))]
        exact ih _ _ (y4 + 1) (by first | omega | assumption | exact Or.inl rfl | exact Or.inr rfl) (by omega)
theorem t_fX1_openLines {t_lineCount : Nat} {t_first : Nat → Int32} {t_second : Nat → Int32} {t_breaks_count : Nat} {t_breaks_whose : Nat → Int32} {t_breaks_from : Nat → Int32} {t_breaks_until : Nat → Int32} {t_absences_count : Nat} {t_absences_whose : Nat → Int32} {t_absences_from : Nat → Int32} {t_absences_until : Nat → Int32} {x1 : Int32} (hb_t_lineCount : t_lineCount ≤ 24) (hb_t_breaks_count : t_breaks_count ≤ 12) (hb_t_absences_count : t_absences_count ≤ 12) (hFS_t : hFS t_lineCount t_first t_second) : tG tT (fX1_openLines (nI t_lineCount) t_first t_second (nI t_breaks_count) t_breaks_whose t_breaks_from t_breaks_until (nI t_absences_count) t_absences_whose t_absences_from t_absences_until x1) := by
  unfold fX1_openLines
  refine tgC (t_fX8_keptOut (t_count := t_absences_count) (by omega)) (fun u1 hu1 => ?_)
  refine tgC (t_fX8_keptOut (t_count := t_breaks_count) (by omega)) (fun u7 hu7 => ?_)
  refine tgN (fun w10 ew10 => ?_)
  exact (tl_fX1_openLines_b28 (t_lineCount := t_lineCount) (by omega) hFS_t FU _ _ 0 (by first | omega | assumption | exact Or.inl rfl | exact Or.inr rfl) (by have := FUge; omega))
theorem tl_fX1_placeByCost_b4 {t_lineCount : Nat} {t_cost : Nat → Int32} {x1 : Nat} (hb_t_lineCount : t_lineCount ≤ 24) (hb_x1 : x1 ≤ 23) : ∀ (n : Nat) (y2 : Int32) (y3 : Nat), y3 ≤ t_lineCount → t_lineCount - y3 < n → tG tT (fX1_placeByCost_b4 (nI t_lineCount) t_cost (nI x1) n y2 (nI y3)) := by
  intro n
  induction n with
  | zero =>
    intro y2 y3 hi0 hm
    omega
  | succ n ih =>
    intro y2 y3 hi0 hm
    rw [fX1_placeByCost_b4_s]
    refine tgI (fun h1 => ?_) (fun h1 => ?_)
    · have h1 := nll (a := t_lineCount) (b := y3) h1 (by omega) (by omega)
      exact tgS trivial
    · have h1 := nln (a := t_lineCount) (b := y3) h1 (by omega) (by omega)
      refine tgD (vkn (by omega) (by omega)) ?_
      refine tgD (vkn (by omega) (by omega)) ?_
      refine tgI (fun h2 => ?_) (fun h2 => ?_)
      · rw [show ((nI y3) + 1 : Int32) = nI (y3 + 1) from (nadd rfl (show (1 : Int32) = nI 1 from rfl))]
        exact ih _ (y3 + 1) (by first | omega | assumption | exact Or.inl rfl | exact Or.inr rfl) (by omega)
      · refine tgI (fun h3 => ?_) (fun h3 => ?_)
        · refine tgI (fun h4 => ?_) (fun h4 => ?_)
          · have h4 := nll (a := x1) (b := y3) h4 (by omega) (by omega)
            rw [show ((nI y3) + 1 : Int32) = nI (y3 + 1) from (nadd rfl (show (1 : Int32) = nI 1 from rfl))]
            exact ih _ (y3 + 1) (by first | omega | assumption | exact Or.inl rfl | exact Or.inr rfl) (by omega)
          · have h4 := nln (a := x1) (b := y3) h4 (by omega) (by omega)
            rw [show ((nI y3) + 1 : Int32) = nI (y3 + 1) from (nadd rfl (show (1 : Int32) = nI 1 from rfl))]
            exact ih _ (y3 + 1) (by first | omega | assumption | exact Or.inl rfl | exact Or.inr rfl) (by omega)
        · rw [show ((nI y3) + 1 : Int32) = nI (y3 + 1) from (nadd rfl (show (1 : Int32) = nI 1 from rfl))]
          exact ih _ (y3 + 1) (by first | omega | assumption | exact Or.inl rfl | exact Or.inr rfl) (by omega)
theorem t_fX1_placeByCost {t_lineCount : Nat} {t_cost : Nat → Int32} {x1 : Nat} (hb_t_lineCount : t_lineCount ≤ 24) (hb_x1 : x1 ≤ 23) : tG tT (fX1_placeByCost (nI t_lineCount) t_cost (nI x1)) := by
  unfold fX1_placeByCost
  exact (tl_fX1_placeByCost_b4 (t_lineCount := t_lineCount) (x1 := x1) (by omega) (by omega) FU _ 0 (by first | omega | assumption | exact Or.inl rfl | exact Or.inr rfl) (by have := FUge; omega))
theorem tl_fX1_costOf_b4 {t_lineCount : Nat} {t_cost : Nat → Int32} {x1 : Int32} (hb_t_lineCount : t_lineCount ≤ 24) : ∀ (n : Nat) (y2 : Int32) (y3 : Nat), y3 ≤ t_lineCount → t_lineCount - y3 < n → tG tT (fX1_costOf_b4 (nI t_lineCount) t_cost x1 n y2 (nI y3)) := by
  intro n
  induction n with
  | zero =>
    intro y2 y3 hi0 hm
    omega
  | succ n ih =>
    intro y2 y3 hi0 hm
    rw [fX1_costOf_b4_s]
    refine tgI (fun h1 => ?_) (fun h1 => ?_)
    · have h1 := nll (a := t_lineCount) (b := y3) h1 (by omega) (by omega)
      exact tgS trivial
    · have h1 := nln (a := t_lineCount) (b := y3) h1 (by omega) (by omega)
      refine tgI (fun h2 => ?_) (fun h2 => ?_)
      · rw [show ((nI y3) + 1 : Int32) = nI (y3 + 1) from (nadd rfl (show (1 : Int32) = nI 1 from rfl))]
        exact ih _ (y3 + 1) (by first | omega | assumption | exact Or.inl rfl | exact Or.inr rfl) (by omega)
      · refine tgD (vkn (by omega) (by omega)) ?_
        rw [show ((nI y3) + 1 : Int32) = nI (y3 + 1) from (nadd rfl (show (1 : Int32) = nI 1 from rfl))]
        exact ih _ (y3 + 1) (by first | omega | assumption | exact Or.inl rfl | exact Or.inr rfl) (by omega)
theorem t_fX1_costOf {t_lineCount : Nat} {t_cost : Nat → Int32} {x1 : Int32} (hb_t_lineCount : t_lineCount ≤ 24) : tG tT (fX1_costOf (nI t_lineCount) t_cost x1) := by
  unfold fX1_costOf
  exact (tl_fX1_costOf_b4 (t_lineCount := t_lineCount) (by omega) FU _ 0 (by first | omega | assumption | exact Or.inl rfl | exact Or.inr rfl) (by have := FUge; omega))
theorem tl_fX1_personsOf_b4 {t_lineCount : Nat} {t_first : Nat → Int32} {t_second : Nat → Int32} {x1 : Int32} (hb_t_lineCount : t_lineCount ≤ 24) (hFS_t : hFS t_lineCount t_first t_second) : ∀ (n : Nat) (y2 : Int32) (y3 : Nat), y3 ≤ t_lineCount → t_lineCount - y3 < n → tG tT (fX1_personsOf_b4 (nI t_lineCount) t_first t_second x1 n y2 (nI y3)) := by
  intro n
  induction n with
  | zero =>
    intro y2 y3 hi0 hm
    omega
  | succ n ih =>
    intro y2 y3 hi0 hm
    rw [fX1_personsOf_b4_s]
    refine tgI (fun h1 => ?_) (fun h1 => ?_)
    · have h1 := nll (a := t_lineCount) (b := y3) h1 (by omega) (by omega)
      exact tgS trivial
    · have h1 := nln (a := t_lineCount) (b := y3) h1 (by omega) (by omega)
      refine tgI (fun h2 => ?_) (fun h2 => ?_)
      · rw [show ((nI y3) + 1 : Int32) = nI (y3 + 1) from (nadd rfl (show (1 : Int32) = nI 1 from rfl))]
        exact ih _ (y3 + 1) (by first | omega | assumption | exact Or.inl rfl | exact Or.inr rfl) (by omega)
      · refine tgD (vkn (by omega) (by omega)) ?_
        refine tgN (fun w7 ew7 => ?_)
        rw [show ((nI y3) + 1 : Int32) = nI (y3 + 1) from (nadd rfl (show (1 : Int32) = nI 1 from rfl))]
        exact ih _ (y3 + 1) (by first | omega | assumption | exact Or.inl rfl | exact Or.inr rfl) (by omega)
theorem t_fX1_personsOf {t_lineCount : Nat} {t_first : Nat → Int32} {t_second : Nat → Int32} {x1 : Int32} (hb_t_lineCount : t_lineCount ≤ 24) (hFS_t : hFS t_lineCount t_first t_second) : tG tT (fX1_personsOf (nI t_lineCount) t_first t_second x1) := by
  unfold fX1_personsOf
  exact (tl_fX1_personsOf_b4 (t_lineCount := t_lineCount) (by omega) hFS_t FU _ 0 (by first | omega | assumption | exact Or.inl rfl | exact Or.inr rfl) (by have := FUge; omega))
theorem tl_fX1_otherPerson_b2 {t_lineCount : Nat} {t_first : Nat → Int32} {t_second : Nat → Int32} {x1 : Int32} {x2 : Int32} (hb_t_lineCount : t_lineCount ≤ 24) (hFS_t : hFS t_lineCount t_first t_second) : ∀ (n : Nat) (y3 : Nat), y3 ≤ t_lineCount → t_lineCount - y3 < n → tG tT (fX1_otherPerson_b2 (nI t_lineCount) t_first t_second x1 x2 n (nI y3)) := by
  intro n
  induction n with
  | zero =>
    intro y3 hi0 hm
    omega
  | succ n ih =>
    intro y3 hi0 hm
    rw [fX1_otherPerson_b2_s]
    refine tgI (fun h1 => ?_) (fun h1 => ?_)
    · have h1 := nll (a := t_lineCount) (b := y3) h1 (by omega) (by omega)
      exact tgS trivial
    · have h1 := nln (a := t_lineCount) (b := y3) h1 (by omega) (by omega)
      refine tgI (fun h2 => ?_) (fun h2 => ?_)
      · unfold fX1_otherPerson_b35
        refine tgI (fun h3 => ?_) (fun h3 => ?_)
        · rw [show ((nI y3) + 1 : Int32) = nI (y3 + 1) from (nadd rfl (show (1 : Int32) = nI 1 from rfl))]
          exact ih (y3 + 1) (by first | omega | assumption | exact Or.inl rfl | exact Or.inr rfl) (by omega)
        · refine tgD (vkn (by omega) (by omega)) ?_
          refine tgI (fun h4 => ?_) (fun h4 => ?_)
          · unfold fX1_otherPerson_b53
            refine tgD (vkn (by omega) (by omega)) ?_
            exact tgS trivial
          · rw [show ((nI y3) + 1 : Int32) = nI (y3 + 1) from (nadd rfl (show (1 : Int32) = nI 1 from rfl))]
            exact ih (y3 + 1) (by first | omega | assumption | exact Or.inl rfl | exact Or.inr rfl) (by omega)
      · refine tgD (vkn (by omega) (by omega)) ?_
        refine tgI (fun h5 => ?_) (fun h5 => ?_)
        · unfold fX1_otherPerson_b28
          refine tgD (vkn (by omega) (by omega)) ?_
          exact tgS trivial
        · unfold fX1_otherPerson_b35
          refine tgI (fun h6 => ?_) (fun h6 => ?_)
          · rw [show ((nI y3) + 1 : Int32) = nI (y3 + 1) from (nadd rfl (show (1 : Int32) = nI 1 from rfl))]
            exact ih (y3 + 1) (by first | omega | assumption | exact Or.inl rfl | exact Or.inr rfl) (by omega)
          · refine tgD (vkn (by omega) (by omega)) ?_
            refine tgI (fun h7 => ?_) (fun h7 => ?_)
            · unfold fX1_otherPerson_b53
              refine tgD (vkn (by omega) (by omega)) ?_
              exact tgS trivial
            · rw [show ((nI y3) + 1 : Int32) = nI (y3 + 1) from (nadd rfl (show (1 : Int32) = nI 1 from rfl))]
              exact ih (y3 + 1) (by first | omega | assumption | exact Or.inl rfl | exact Or.inr rfl) (by omega)
theorem t_fX1_otherPerson {t_lineCount : Nat} {t_first : Nat → Int32} {t_second : Nat → Int32} {x1 : Int32} {x2 : Int32} (hb_t_lineCount : t_lineCount ≤ 24) (hFS_t : hFS t_lineCount t_first t_second) : tG tT (fX1_otherPerson (nI t_lineCount) t_first t_second x1 x2) := by
  unfold fX1_otherPerson
  exact (tl_fX1_otherPerson_b2 (t_lineCount := t_lineCount) (by omega) hFS_t FU 0 (by first | omega | assumption | exact Or.inl rfl | exact Or.inr rfl) (by have := FUge; omega))
theorem tl_fX1_gainOf_b5 {t_lineCount : Nat} {t_first : Nat → Int32} {t_second : Nat → Int32} {t_oneWay : Nat → Int32} {p2_pieces : Nat → Int32} {x1 : Int32} (hb_t_lineCount : t_lineCount ≤ 24) (hFS_t : hFS t_lineCount t_first t_second) : ∀ (n : Nat) (y3 : Int32) (y4 : Nat), y4 ≤ t_lineCount → t_lineCount - y4 < n → tG tT (fX1_gainOf_b5 (nI t_lineCount) t_first t_second t_oneWay p2_pieces x1 n y3 (nI y4)) := by
  intro n
  induction n with
  | zero =>
    intro y3 y4 hi0 hm
    omega
  | succ n ih =>
    intro y3 y4 hi0 hm
    rw [fX1_gainOf_b5_s]
    refine tgI (fun h1 => ?_) (fun h1 => ?_)
    · have h1 := nll (a := t_lineCount) (b := y4) h1 (by omega) (by omega)
      exact tgS trivial
    · have h1 := nln (a := t_lineCount) (b := y4) h1 (by omega) (by omega)
      refine tgI (fun h2 => ?_) (fun h2 => ?_)
      · rw [show ((nI y4) + 1 : Int32) = nI (y4 + 1) from (nadd rfl (show (1 : Int32) = nI 1 from rfl))]
        exact ih _ (y4 + 1) (by first | omega | assumption | exact Or.inl rfl | exact Or.inr rfl) (by omega)
      · refine tgC (t_fX1_gainOfLine (x1 := y4) (L := t_lineCount) (by omega) (by omega) hFS_t) (fun u6 hu6 => ?_)
        rw [show ((nI y4) + 1 : Int32) = nI (y4 + 1) from (nadd rfl (show (1 : Int32) = nI 1 from rfl))]
        exact ih _ (y4 + 1) (by first | omega | assumption | exact Or.inl rfl | exact Or.inr rfl) (by omega)
theorem t_fX1_gainOf {t_lineCount : Nat} {t_first : Nat → Int32} {t_second : Nat → Int32} {t_oneWay : Nat → Int32} {p2_pieces : Nat → Int32} {x1 : Int32} (hb_t_lineCount : t_lineCount ≤ 24) (hFS_t : hFS t_lineCount t_first t_second) : tG tT (fX1_gainOf (nI t_lineCount) t_first t_second t_oneWay p2_pieces x1) := by
  unfold fX1_gainOf
  exact (tl_fX1_gainOf_b5 (t_lineCount := t_lineCount) (by omega) hFS_t FU _ 0 (by first | omega | assumption | exact Or.inl rfl | exact Or.inr rfl) (by have := FUge; omega))
theorem tl_fX1_makeCalls_b2 {t_lineCount : Nat} {t_first : Nat → Int32} {t_second : Nat → Int32} {t_oneWay : Nat → Int32} {x1 : Int32} (hb_t_lineCount : t_lineCount ≤ 24) (hFS_t : hFS t_lineCount t_first t_second) : ∀ (n : Nat) (y3 : Nat) (p2_pieces : (Nat → Int32)), y3 ≤ t_lineCount → t_lineCount - y3 < n → tG tT (fX1_makeCalls_b2 (nI t_lineCount) t_first t_second t_oneWay x1 n (nI y3) p2_pieces) := by
  intro n
  induction n with
  | zero =>
    intro y3 p2_pieces hi0 hm
    omega
  | succ n ih =>
    intro y3 p2_pieces hi0 hm
    rw [fX1_makeCalls_b2_s]
    refine tgI (fun h1 => ?_) (fun h1 => ?_)
    · have h1 := nll (a := t_lineCount) (b := y3) h1 (by omega) (by omega)
      exact tgS trivial
    · have h1 := nln (a := t_lineCount) (b := y3) h1 (by omega) (by omega)
      refine tgI (fun h2 => ?_) (fun h2 => ?_)
      · rw [show ((nI y3) + 1 : Int32) = nI (y3 + 1) from (nadd rfl (show (1 : Int32) = nI 1 from rfl))]
        exact ih (y3 + 1) _ (by first | omega | assumption | exact Or.inl rfl | exact Or.inr rfl) (by omega)
      · refine tgD (vkn (by omega) (by omega)) ?_
        refine tgD (vpB (hFS_t y3 (by omega)).1 (by omega) (by omega)) ?_
        refine tgD (vpB (hFS_t y3 (by omega)).2 (by omega) (by omega)) ?_
        refine tgN (fun w9 ew9 => ?_)
        refine tgI (fun h3 => ?_) (fun h3 => ?_)
        · rw [show ((nI y3) + 1 : Int32) = nI (y3 + 1) from (nadd rfl (show (1 : Int32) = nI 1 from rfl))]
          exact ih (y3 + 1) _ (by first | omega | assumption | exact Or.inl rfl | exact Or.inr rfl) (by omega)
        · rw [show ((nI y3) + 1 : Int32) = nI (y3 + 1) from (nadd rfl (show (1 : Int32) = nI 1 from rfl))]
          exact ih (y3 + 1) _ (by first | omega | assumption | exact Or.inl rfl | exact Or.inr rfl) (by omega)
theorem t_fX1_makeCalls {t_lineCount : Nat} {t_first : Nat → Int32} {t_second : Nat → Int32} {t_oneWay : Nat → Int32} {p2_pieces : Nat → Int32} {x1 : Int32} (hb_t_lineCount : t_lineCount ≤ 24) (hFS_t : hFS t_lineCount t_first t_second) : tG tT (fX1_makeCalls (nI t_lineCount) t_first t_second t_oneWay p2_pieces x1) := by
  unfold fX1_makeCalls
  exact (tl_fX1_makeCalls_b2 (t_lineCount := t_lineCount) (by omega) hFS_t FU 0 _ (by first | omega | assumption | exact Or.inl rfl | exact Or.inr rfl) (by have := FUge; omega))
theorem tl_fX1_spread_b5 {t_lineCount : Nat} {t_first : Nat → Int32} {t_second : Nat → Int32} {t_oneWay : Nat → Int32} {x1 : Int32} {x2 : Int32} (hb_t_lineCount : t_lineCount ≤ 24) (hFS_t : hFS t_lineCount t_first t_second) : ∀ (n : Nat) (y3 : Int32) (y4 : Nat), y4 ≤ t_lineCount → t_lineCount - y4 < n → tG tT (fX1_spread_b5 (nI t_lineCount) t_first t_second t_oneWay x1 x2 n y3 (nI y4)) := by
  intro n
  induction n with
  | zero =>
    intro y3 y4 hi0 hm
    omega
  | succ n ih =>
    intro y3 y4 hi0 hm
    rw [fX1_spread_b5_s]
    refine tgI (fun h1 => ?_) (fun h1 => ?_)
    · have h1 := nll (a := t_lineCount) (b := y4) h1 (by omega) (by omega)
      exact tgS trivial
    · have h1 := nln (a := t_lineCount) (b := y4) h1 (by omega) (by omega)
      refine tgI (fun h2 => ?_) (fun h2 => ?_)
      · unfold fX1_spread_b49
        refine tgI (fun h3 => ?_) (fun h3 => ?_)
        · rw [show ((nI y4) + 1 : Int32) = nI (y4 + 1) from (nadd rfl (show (1 : Int32) = nI 1 from rfl))]
          exact ih _ (y4 + 1) (by first | omega | assumption | exact Or.inl rfl | exact Or.inr rfl) (by omega)
        · refine tgD (vkn (by omega) (by omega)) ?_
          refine tgI (fun h4 => ?_) (fun h4 => ?_)
          · rw [show ((nI y4) + 1 : Int32) = nI (y4 + 1) from (nadd rfl (show (1 : Int32) = nI 1 from rfl))]
            exact ih _ (y4 + 1) (by first | omega | assumption | exact Or.inl rfl | exact Or.inr rfl) (by omega)
          · refine tgI (fun h5 => ?_) (fun h5 => ?_)
            · refine tgN (fun w16 ew16 => ?_)
              rw [show ((nI y4) + 1 : Int32) = nI (y4 + 1) from (nadd rfl (show (1 : Int32) = nI 1 from rfl))]
              exact ih _ (y4 + 1) (by first | omega | assumption | exact Or.inl rfl | exact Or.inr rfl) (by omega)
            · rw [show ((nI y4) + 1 : Int32) = nI (y4 + 1) from (nadd rfl (show (1 : Int32) = nI 1 from rfl))]
              exact ih _ (y4 + 1) (by first | omega | assumption | exact Or.inl rfl | exact Or.inr rfl) (by omega)
      · refine tgD (vkn (by omega) (by omega)) ?_
        refine tgI (fun h6 => ?_) (fun h6 => ?_)
        · unfold fX1_spread_b49
          refine tgI (fun h7 => ?_) (fun h7 => ?_)
          · rw [show ((nI y4) + 1 : Int32) = nI (y4 + 1) from (nadd rfl (show (1 : Int32) = nI 1 from rfl))]
            exact ih _ (y4 + 1) (by first | omega | assumption | exact Or.inl rfl | exact Or.inr rfl) (by omega)
          · refine tgD (vkn (by omega) (by omega)) ?_
            refine tgI (fun h8 => ?_) (fun h8 => ?_)
            · rw [show ((nI y4) + 1 : Int32) = nI (y4 + 1) from (nadd rfl (show (1 : Int32) = nI 1 from rfl))]
              exact ih _ (y4 + 1) (by first | omega | assumption | exact Or.inl rfl | exact Or.inr rfl) (by omega)
            · refine tgI (fun h9 => ?_) (fun h9 => ?_)
              · refine tgN (fun w16 ew16 => ?_)
                rw [show ((nI y4) + 1 : Int32) = nI (y4 + 1) from (nadd rfl (show (1 : Int32) = nI 1 from rfl))]
                exact ih _ (y4 + 1) (by first | omega | assumption | exact Or.inl rfl | exact Or.inr rfl) (by omega)
              · rw [show ((nI y4) + 1 : Int32) = nI (y4 + 1) from (nadd rfl (show (1 : Int32) = nI 1 from rfl))]
                exact ih _ (y4 + 1) (by first | omega | assumption | exact Or.inl rfl | exact Or.inr rfl) (by omega)
        · refine tgN (fun w22 ew22 => ?_)
          unfold fX1_spread_b49
          refine tgI (fun h10 => ?_) (fun h10 => ?_)
          · rw [show ((nI y4) + 1 : Int32) = nI (y4 + 1) from (nadd rfl (show (1 : Int32) = nI 1 from rfl))]
            exact ih _ (y4 + 1) (by first | omega | assumption | exact Or.inl rfl | exact Or.inr rfl) (by omega)
          · refine tgD (vkn (by omega) (by omega)) ?_
            refine tgI (fun h11 => ?_) (fun h11 => ?_)
            · rw [show ((nI y4) + 1 : Int32) = nI (y4 + 1) from (nadd rfl (show (1 : Int32) = nI 1 from rfl))]
              exact ih _ (y4 + 1) (by first | omega | assumption | exact Or.inl rfl | exact Or.inr rfl) (by omega)
            · refine tgI (fun h12 => ?_) (fun h12 => ?_)
              · refine tgN (fun w16 ew16 => ?_)
                rw [show ((nI y4) + 1 : Int32) = nI (y4 + 1) from (nadd rfl (show (1 : Int32) = nI 1 from rfl))]
                exact ih _ (y4 + 1) (by first | omega | assumption | exact Or.inl rfl | exact Or.inr rfl) (by omega)
              · rw [show ((nI y4) + 1 : Int32) = nI (y4 + 1) from (nadd rfl (show (1 : Int32) = nI 1 from rfl))]
                exact ih _ (y4 + 1) (by first | omega | assumption | exact Or.inl rfl | exact Or.inr rfl) (by omega)
theorem t_fX1_spread {t_lineCount : Nat} {t_first : Nat → Int32} {t_second : Nat → Int32} {t_oneWay : Nat → Int32} {x1 : Int32} {x2 : Int32} (hb_t_lineCount : t_lineCount ≤ 24) (hFS_t : hFS t_lineCount t_first t_second) : tG tT (fX1_spread (nI t_lineCount) t_first t_second t_oneWay x1 x2) := by
  unfold fX1_spread
  exact (tl_fX1_spread_b5 (t_lineCount := t_lineCount) (by omega) hFS_t FU _ 0 (by first | omega | assumption | exact Or.inl rfl | exact Or.inr rfl) (by have := FUge; omega))
theorem tl_fX1_reached_b5 {t_people : Nat} {t_lineCount : Nat} {t_first : Nat → Int32} {t_second : Nat → Int32} {t_oneWay : Nat → Int32} {x2 : Int32} (hb_t_people : t_people ≤ 10) (hb_t_lineCount : t_lineCount ≤ 24) (hFS_t : hFS t_lineCount t_first t_second) : ∀ (n : Nat) (y3 : Int32) (y4 : Nat), y4 ≤ 11 → t_people - y4 < n → tG tT (fX1_reached_b5 (nI t_people) (nI t_lineCount) t_first t_second t_oneWay x2 n y3 (nI y4)) := by
  intro n
  induction n with
  | zero =>
    intro y3 y4 hi0 hm
    omega
  | succ n ih =>
    intro y3 y4 hi0 hm
    rw [fX1_reached_b5_s]
    refine tgI (fun h1 => ?_) (fun h1 => ?_)
    · have h1 := nll (a := t_people) (b := y4) h1 (by omega) (by omega)
      exact tgS trivial
    · have h1 := nln (a := t_people) (b := y4) h1 (by omega) (by omega)
      refine tgC (t_fX1_spread (t_lineCount := t_lineCount) (by omega) hFS_t) (fun u2 hu2 => ?_)
      refine tgI (fun h2 => ?_) (fun h2 => ?_)
      · exact tgS trivial
      · rw [show ((nI y4) + 1 : Int32) = nI (y4 + 1) from (nadd rfl (show (1 : Int32) = nI 1 from rfl))]
        exact ih _ (y4 + 1) (by first | omega | assumption | exact Or.inl rfl | exact Or.inr rfl) (by omega)
theorem t_fX1_reached {t_people : Nat} {t_lineCount : Nat} {t_first : Nat → Int32} {t_second : Nat → Int32} {t_oneWay : Nat → Int32} {x1 : Int32} {x2 : Int32} (hb_t_people : t_people ≤ 10) (hb_t_lineCount : t_lineCount ≤ 24) (hFS_t : hFS t_lineCount t_first t_second) : tG tT (fX1_reached (nI t_people) (nI t_lineCount) t_first t_second t_oneWay x1 x2) := by
  unfold fX1_reached
  exact (tl_fX1_reached_b5 (t_people := t_people) (t_lineCount := t_lineCount) (by omega) (by omega) hFS_t FU _ 1 (by first | omega | assumption | exact Or.inl rfl | exact Or.inr rfl) (by have := FUge; omega))
theorem tl_fX1_neededLines_b13 {t_people : Nat} {t_lineCount : Nat} {t_first : Nat → Int32} {t_second : Nat → Int32} {t_oneWay : Nat → Int32} {x1 : Int32} {x2 : Int32} (hb_t_people : t_people ≤ 10) (hb_t_lineCount : t_lineCount ≤ 24) (hFS_t : hFS t_lineCount t_first t_second) : ∀ (n : Nat) (y3 : Int32) (y4 : Int32) (y5 : Nat), y5 ≤ t_lineCount → t_lineCount - y5 < n → tG tT (fX1_neededLines_b13 (nI t_people) (nI t_lineCount) t_first t_second t_oneWay x1 x2 n y3 y4 (nI y5)) := by
  intro n
  induction n with
  | zero =>
    intro y3 y4 y5 hi0 hm
    omega
  | succ n ih =>
    intro y3 y4 y5 hi0 hm
    rw [fX1_neededLines_b13_s]
    refine tgI (fun h1 => ?_) (fun h1 => ?_)
    · have h1 := nll (a := t_lineCount) (b := y5) h1 (by omega) (by omega)
      exact tgS trivial
    · have h1 := nln (a := t_lineCount) (b := y5) h1 (by omega) (by omega)
      refine tgI (fun h2 => ?_) (fun h2 => ?_)
      · rw [show ((nI y5) + 1 : Int32) = nI (y5 + 1) from (nadd rfl (show (1 : Int32) = nI 1 from rfl))]
        exact ih _ _ (y5 + 1) (by first | omega | assumption | exact Or.inl rfl | exact Or.inr rfl) (by omega)
      · refine tgC (t_fX1_reached (t_people := t_people) (t_lineCount := t_lineCount) (by omega) (by omega) hFS_t) (fun u9 hu9 => ?_)
        refine tgI (fun h3 => ?_) (fun h3 => ?_)
        · rw [show ((nI y5) + 1 : Int32) = nI (y5 + 1) from (nadd rfl (show (1 : Int32) = nI 1 from rfl))]
          exact ih _ _ (y5 + 1) (by first | omega | assumption | exact Or.inl rfl | exact Or.inr rfl) (by omega)
        · rw [show ((nI y5) + 1 : Int32) = nI (y5 + 1) from (nadd rfl (show (1 : Int32) = nI 1 from rfl))]
          exact ih _ _ (y5 + 1) (by first | omega | assumption | exact Or.inl rfl | exact Or.inr rfl) (by omega)
theorem t_fX1_neededLines {t_people : Nat} {t_lineCount : Nat} {t_first : Nat → Int32} {t_second : Nat → Int32} {t_oneWay : Nat → Int32} {x1 : Int32} {x2 : Int32} (hb_t_people : t_people ≤ 10) (hb_t_lineCount : t_lineCount ≤ 24) (hFS_t : hFS t_lineCount t_first t_second) : tG tT (fX1_neededLines (nI t_people) (nI t_lineCount) t_first t_second t_oneWay x1 x2) := by
  unfold fX1_neededLines
  refine tgC (t_fX1_reached (t_people := t_people) (t_lineCount := t_lineCount) (by omega) (by omega) hFS_t) (fun u1 hu1 => ?_)
  exact (tl_fX1_neededLines_b13 (t_people := t_people) (t_lineCount := t_lineCount) (by omega) (by omega) hFS_t FU _ _ 0 (by first | omega | assumption | exact Or.inl rfl | exact Or.inr rfl) (by have := FUge; omega))
theorem tl_fX1_lowerCosts_b2 {N_p2 : Nat} {t_lineCount : Nat} {t_first : Nat → Int32} {t_second : Nat → Int32} {t_cost : Nat → Int32} {t_oneWay : Nat → Int32} {x1 : Int32} (hb_t_lineCount : t_lineCount ≤ 24) (hN : N_p2 = 10) (hFS_t : hFS t_lineCount t_first t_second) : ∀ (n : Nat) (y3 : Nat) (p2 : (Nat → Int32)), y3 ≤ t_lineCount → t_lineCount - y3 < n → tG tT (fX1_lowerCosts_b2 N_p2 (nI t_lineCount) t_first t_second t_cost t_oneWay x1 n (nI y3) p2) := by
  intro n
  induction n with
  | zero =>
    intro y3 p2 hi0 hm
    omega
  | succ n ih =>
    intro y3 p2 hi0 hm
    rw [fX1_lowerCosts_b2_s]
    refine tgI (fun h1 => ?_) (fun h1 => ?_)
    · have h1 := nll (a := t_lineCount) (b := y3) h1 (by omega) (by omega)
      exact tgS trivial
    · have h1 := nln (a := t_lineCount) (b := y3) h1 (by omega) (by omega)
      refine tgI (fun h2 => ?_) (fun h2 => ?_)
      · rw [show ((nI y3) + 1 : Int32) = nI (y3 + 1) from (nadd rfl (show (1 : Int32) = nI 1 from rfl))]
        exact ih (y3 + 1) _ (by first | omega | assumption | exact Or.inl rfl | exact Or.inr rfl) (by omega)
      · refine tgD (vkn (by omega) (by omega)) ?_
        refine tgD (vpB (hFS_t y3 (by omega)).1 (by omega) (by omega)) ?_
        refine tgN (fun w8 ew8 => ?_)
        refine tgD (vpB (hFS_t y3 (by omega)).2 (by omega) (by omega)) ?_
        refine tgN (fun w10 ew10 => ?_)
        refine tgN (fun w14 ew14 => ?_)
        refine tgI (fun h3 => ?_) (fun h3 => ?_)
        · refine tgN (fun w19 ew19 => ?_)
          rw [show ((nI y3) + 1 : Int32) = nI (y3 + 1) from (nadd rfl (show (1 : Int32) = nI 1 from rfl))]
          exact ih (y3 + 1) _ (by first | omega | assumption | exact Or.inl rfl | exact Or.inr rfl) (by omega)
        · rw [show ((nI y3) + 1 : Int32) = nI (y3 + 1) from (nadd rfl (show (1 : Int32) = nI 1 from rfl))]
          exact ih (y3 + 1) _ (by first | omega | assumption | exact Or.inl rfl | exact Or.inr rfl) (by omega)
theorem t_fX1_lowerCosts {N_p2 : Nat} {t_lineCount : Nat} {t_first : Nat → Int32} {t_second : Nat → Int32} {t_cost : Nat → Int32} {t_oneWay : Nat → Int32} {p2 : Nat → Int32} {x1 : Int32} (hb_t_lineCount : t_lineCount ≤ 24) (hN : N_p2 = 10) (hFS_t : hFS t_lineCount t_first t_second) : tG tT (fX1_lowerCosts N_p2 (nI t_lineCount) t_first t_second t_cost t_oneWay p2 x1) := by
  unfold fX1_lowerCosts
  exact (tl_fX1_lowerCosts_b2 (t_lineCount := t_lineCount) (by omega) (by omega) hFS_t FU 0 _ (by first | omega | assumption | exact Or.inl rfl | exact Or.inr rfl) (by have := FUge; omega))
theorem tl_fX1_fillLeastCosts_b62 {N_p3 : Nat} (hN : N_p3 = 10) : ∀ (n : Nat) (y4 : Nat) (p3 : (Nat → Int32)), y4 ≤ 10 → 10 - y4 < n → tG tT (fX1_fillLeastCosts_b62 N_p3 n (nI y4) p3) := by
  intro n
  induction n with
  | zero =>
    intro y4 p3 hi0 hm
    omega
  | succ n ih =>
    intro y4 p3 hi0 hm
    rw [fX1_fillLeastCosts_b62_s]
    refine tgI (fun h1 => ?_) (fun h1 => ?_)
    · have h1 := nll (a := 10) (b := y4) h1 (by omega) (by omega)
      exact tgS trivial
    · have h1 := nln (a := 10) (b := y4) h1 (by omega) (by omega)
      refine tgD (vkn (by omega) (by omega)) ?_
      refine tgI (fun h2 => ?_) (fun h2 => ?_)
      · rw [show ((nI y4) + 1 : Int32) = nI (y4 + 1) from (nadd rfl (show (1 : Int32) = nI 1 from rfl))]
        exact ih (y4 + 1) _ (by first | omega | assumption | exact Or.inl rfl | exact Or.inr rfl) (by omega)
      · rw [show ((nI y4) + 1 : Int32) = nI (y4 + 1) from (nadd rfl (show (1 : Int32) = nI 1 from rfl))]
        exact ih (y4 + 1) _ (by first | omega | assumption | exact Or.inl rfl | exact Or.inr rfl) (by omega)
theorem tl_fX1_fillLeastCosts_b38 {N_p3 : Nat} {t_people : Nat} {t_lineCount : Nat} {t_first : Nat → Int32} {t_second : Nat → Int32} {t_cost : Nat → Int32} {t_oneWay : Nat → Int32} {x2 : Int32} (hb_t_people : t_people ≤ 10) (hb_t_lineCount : t_lineCount ≤ 24) (hN : N_p3 = 10) (hFS_t : hFS t_lineCount t_first t_second) : ∀ (n : Nat) (y4 : Nat) (p3 : (Nat → Int32)), y4 ≤ 11 → t_people - y4 < n → tG tT (fX1_fillLeastCosts_b38 N_p3 (nI t_people) (nI t_lineCount) t_first t_second t_cost t_oneWay x2 n (nI y4) p3) := by
  intro n
  induction n with
  | zero =>
    intro y4 p3 hi0 hm
    omega
  | succ n ih =>
    intro y4 p3 hi0 hm
    rw [fX1_fillLeastCosts_b38_s]
    refine tgI (fun h1 => ?_) (fun h1 => ?_)
    · have h1 := nll (a := t_people) (b := y4) h1 (by omega) (by omega)
      exact (tl_fX1_fillLeastCosts_b62 (by omega) FU 0 _ (by first | omega | assumption | exact Or.inl rfl | exact Or.inr rfl) (by have := FUge; omega))
    · have h1 := nln (a := t_people) (b := y4) h1 (by omega) (by omega)
      refine tgC (t_fX1_lowerCosts (t_lineCount := t_lineCount) (by omega) (by omega) hFS_t) (fun u6 hu6 => ?_)
      rw [show ((nI y4) + 1 : Int32) = nI (y4 + 1) from (nadd rfl (show (1 : Int32) = nI 1 from rfl))]
      exact ih (y4 + 1) _ (by first | omega | assumption | exact Or.inl rfl | exact Or.inr rfl) (by omega)
theorem tl_fX1_fillLeastCosts_b3 {N_p3 : Nat} {t_people : Nat} {t_lineCount : Nat} {t_first : Nat → Int32} {t_second : Nat → Int32} {t_cost : Nat → Int32} {t_oneWay : Nat → Int32} {x1 : Int32} {x2 : Int32} (hb_t_people : t_people ≤ 10) (hb_t_lineCount : t_lineCount ≤ 24) (hN : N_p3 = 10) (hFS_t : hFS t_lineCount t_first t_second) : ∀ (n : Nat) (y4 : Nat) (p3 : (Nat → Int32)), y4 ≤ 10 → 10 - y4 < n → tG tT (fX1_fillLeastCosts_b3 N_p3 (nI t_people) (nI t_lineCount) t_first t_second t_cost t_oneWay x1 x2 n (nI y4) p3) := by
  intro n
  induction n with
  | zero =>
    intro y4 p3 hi0 hm
    omega
  | succ n ih =>
    intro y4 p3 hi0 hm
    rw [fX1_fillLeastCosts_b3_s]
    refine tgI (fun h1 => ?_) (fun h1 => ?_)
    · have h1 := nll (a := 10) (b := y4) h1 (by omega) (by omega)
      exact (tl_fX1_fillLeastCosts_b38 (t_people := t_people) (t_lineCount := t_lineCount) (by omega) (by omega) (by omega) hFS_t FU 1 _ (by first | omega | assumption | exact Or.inl rfl | exact Or.inr rfl) (by have := FUge; omega))
    · have h1 := nln (a := 10) (b := y4) h1 (by omega) (by omega)
      refine tgI (fun h2 => ?_) (fun h2 => ?_)
      · unfold fX1_fillLeastCosts_b28
        refine tgD (vkn (by omega) (by omega)) ?_
        rw [show ((nI y4) + 1 : Int32) = nI (y4 + 1) from (nadd rfl (show (1 : Int32) = nI 1 from rfl))]
        exact ih (y4 + 1) _ (by first | omega | assumption | exact Or.inl rfl | exact Or.inr rfl) (by omega)
      · unfold fX1_fillLeastCosts_b28
        refine tgD (vkn (by omega) (by omega)) ?_
        rw [show ((nI y4) + 1 : Int32) = nI (y4 + 1) from (nadd rfl (show (1 : Int32) = nI 1 from rfl))]
        exact ih (y4 + 1) _ (by first | omega | assumption | exact Or.inl rfl | exact Or.inr rfl) (by omega)
theorem t_fX1_fillLeastCosts {N_p3 : Nat} {t_people : Nat} {t_lineCount : Nat} {t_first : Nat → Int32} {t_second : Nat → Int32} {t_cost : Nat → Int32} {t_oneWay : Nat → Int32} {p3 : Nat → Int32} {x1 : Int32} {x2 : Int32} (hb_t_people : t_people ≤ 10) (hb_t_lineCount : t_lineCount ≤ 24) (hN : N_p3 = 10) (hFS_t : hFS t_lineCount t_first t_second) : tG tT (fX1_fillLeastCosts N_p3 (nI t_people) (nI t_lineCount) t_first t_second t_cost t_oneWay p3 x1 x2) := by
  unfold fX1_fillLeastCosts
  exact (tl_fX1_fillLeastCosts_b3 (t_people := t_people) (t_lineCount := t_lineCount) (by omega) (by omega) (by omega) hFS_t FU 0 _ (by first | omega | assumption | exact Or.inl rfl | exact Or.inr rfl) (by have := FUge; omega))
theorem tl_fX3_copyFrom_b10 {p1_pieces : Nat → Int32} : ∀ (n : Nat) (y2 : Nat) (t_people : Int32) (t_pieces : (Nat → Int32)), y2 ≤ 10 → 10 - y2 < n → tG (fun r => r.1 = t_people) (fX3_copyFrom_b10 p1_pieces n (nI y2) t_people t_pieces) := by
  intro n
  induction n with
  | zero =>
    intro y2 t_people t_pieces hi0 hm
    omega
  | succ n ih =>
    intro y2 t_people t_pieces hi0 hm
    rw [fX3_copyFrom_b10_s]
    refine tgI (fun h1 => ?_) (fun h1 => ?_)
    · have h1 := nll (a := 10) (b := y2) h1 (by omega) (by omega)
      exact tgS rfl
    · have h1 := nln (a := 10) (b := y2) h1 (by omega) (by omega)
      refine tgD (vkn (by omega) (by omega)) ?_
      rw [show ((nI y2) + 1 : Int32) = nI (y2 + 1) from (nadd rfl (show (1 : Int32) = nI 1 from rfl))]
      exact ih (y2 + 1) _ _ (by first | omega | assumption | exact Or.inl rfl | exact Or.inr rfl) (by omega)
theorem t_fX3_copyFrom {t_pieces : Nat → Int32} {p1_people : Int32} {p1_pieces : Nat → Int32} : tG (fun r => r.1 = p1_people) (fX3_copyFrom t_pieces p1_people p1_pieces) := by
  unfold fX3_copyFrom
  exact (tl_fX3_copyFrom_b10  FU 0 _ _ (by first | omega | assumption | exact Or.inl rfl | exact Or.inr rfl) (by have := FUge; omega))
theorem tl_fX3_begin_b7 {x1 : Int32} : ∀ (n : Nat) (y2 : Nat) (t_people : Int32) (t_pieces : (Nat → Int32)), y2 ≤ 10 → 10 - y2 < n → tG tT (fX3_begin_b7 x1 n (nI y2) t_people t_pieces) := by
  intro n
  induction n with
  | zero =>
    intro y2 t_people t_pieces hi0 hm
    omega
  | succ n ih =>
    intro y2 t_people t_pieces hi0 hm
    rw [fX3_begin_b7_s]
    refine tgI (fun h1 => ?_) (fun h1 => ?_)
    · have h1 := nll (a := 10) (b := y2) h1 (by omega) (by omega)
      exact tgS trivial
    · have h1 := nln (a := 10) (b := y2) h1 (by omega) (by omega)
      refine tgI (fun h2 => ?_) (fun h2 => ?_)
      · unfold fX3_begin_b30
        refine tgD (vkn (by omega) (by omega)) ?_
        rw [show ((nI y2) + 1 : Int32) = nI (y2 + 1) from (nadd rfl (show (1 : Int32) = nI 1 from rfl))]
        exact ih (y2 + 1) _ _ (by first | omega | assumption | exact Or.inl rfl | exact Or.inr rfl) (by omega)
      · unfold fX3_begin_b30
        refine tgD (vkn (by omega) (by omega)) ?_
        rw [show ((nI y2) + 1 : Int32) = nI (y2 + 1) from (nadd rfl (show (1 : Int32) = nI 1 from rfl))]
        exact ih (y2 + 1) _ _ (by first | omega | assumption | exact Or.inl rfl | exact Or.inr rfl) (by omega)
theorem t_fX3_begin {t_pieces : Nat → Int32} {x1 : Int32} : tG tT (fX3_begin t_pieces x1) := by
  unfold fX3_begin
  exact (tl_fX3_begin_b7  FU 0 _ _ (by first | omega | assumption | exact Or.inl rfl | exact Or.inr rfl) (by have := FUge; omega))
theorem tl_fX3_missingPieces_b12 {t_people : Nat} {t_pieces : Nat → Int32} (hb_t_people : t_people ≤ 10) : ∀ (n : Nat) (y1 : Int32) (y2 : Nat), y2 ≤ t_people → t_people - y2 < n → tG tT (fX3_missingPieces_b12 (nI t_people) t_pieces n y1 (nI y2)) := by
  intro n
  induction n with
  | zero =>
    intro y1 y2 hi0 hm
    omega
  | succ n ih =>
    intro y1 y2 hi0 hm
    rw [fX3_missingPieces_b12_s]
    refine tgI (fun h1 => ?_) (fun h1 => ?_)
    · have h1 := nll (a := t_people) (b := y2) h1 (by omega) (by omega)
      exact tgS trivial
    · have h1 := nln (a := t_people) (b := y2) h1 (by omega) (by omega)
      refine tgD (vkn (by omega) (by omega)) ?_
      refine tgN (fun w6 ew6 => ?_)
      rw [show ((nI y2) + 1 : Int32) = nI (y2 + 1) from (nadd rfl (show (1 : Int32) = nI 1 from rfl))]
      exact ih _ (y2 + 1) (by first | omega | assumption | exact Or.inl rfl | exact Or.inr rfl) (by omega)
theorem t_fX3_missingPieces {t_people : Nat} {t_pieces : Nat → Int32} (hb_t_people : t_people ≤ 10) : tG tT (fX3_missingPieces (nI t_people) t_pieces) := by
  unfold fX3_missingPieces
  exact (tl_fX3_missingPieces_b12 (t_people := t_people) (by omega) FU _ 0 (by first | omega | assumption | exact Or.inl rfl | exact Or.inr rfl) (by have := FUge; omega))
theorem tl_fX8_countOf_b4 {t_count : Nat} {t_whose : Nat → Int32} {x1 : Int32} (hb_t_count : t_count ≤ 12) : ∀ (n : Nat) (y2 : Int32) (y3 : Nat), y3 ≤ t_count → t_count - y3 < n → tG tT (fX8_countOf_b4 (nI t_count) t_whose x1 n y2 (nI y3)) := by
  intro n
  induction n with
  | zero =>
    intro y2 y3 hi0 hm
    omega
  | succ n ih =>
    intro y2 y3 hi0 hm
    rw [fX8_countOf_b4_s]
    refine tgI (fun h1 => ?_) (fun h1 => ?_)
    · have h1 := nll (a := t_count) (b := y3) h1 (by omega) (by omega)
      exact tgS trivial
    · have h1 := nln (a := t_count) (b := y3) h1 (by omega) (by omega)
      refine tgD (vkn (by omega) (by omega)) ?_
      refine tgI (fun h2 => ?_) (fun h2 => ?_)
      · rw [show ((nI y3) + 1 : Int32) = nI (y3 + 1) from (nadd rfl (show (1 : Int32) = nI 1 from rfl))]
        exact ih _ (y3 + 1) (by first | omega | assumption | exact Or.inl rfl | exact Or.inr rfl) (by omega)
      · rw [show ((nI y3) + 1 : Int32) = nI (y3 + 1) from (nadd rfl (show (1 : Int32) = nI 1 from rfl))]
        exact ih _ (y3 + 1) (by first | omega | assumption | exact Or.inl rfl | exact Or.inr rfl) (by omega)
theorem t_fX8_countOf {t_count : Nat} {t_whose : Nat → Int32} {x1 : Int32} (hb_t_count : t_count ≤ 12) : tG tT (fX8_countOf (nI t_count) t_whose x1) := by
  unfold fX8_countOf
  exact (tl_fX8_countOf_b4 (t_count := t_count) (by omega) FU _ 0 (by first | omega | assumption | exact Or.inl rfl | exact Or.inr rfl) (by have := FUge; omega))
theorem tl_fX0_rankPairs_b33 {p1_lineCount : Nat} {p1_first : Nat → Int32} {p1_second : Nat → Int32} {p1_cost : Nat → Int32} {p1_oneWay : Nat → Int32} {p3_pieces : Nat → Int32} {x2 : Int32} (hb_p1_lineCount : p1_lineCount ≤ 24) (hFS_p1 : hFS p1_lineCount p1_first p1_second) : ∀ (n : Nat) (y4 : Int32) (y5 : Nat) (t_worthOfPair : (Nat → Int64)), y5 ≤ p1_lineCount → (y4 = 0 ∨ y4 = 1) → p1_lineCount - y5 < n → tG tT (fX0_rankPairs_b33 (nI p1_lineCount) p1_first p1_second p1_cost p1_oneWay p3_pieces x2 n y4 (nI y5) t_worthOfPair) := by
  intro n
  induction n with
  | zero =>
    intro y4 y5 t_worthOfPair hi0 hi1 hm
    omega
  | succ n ih =>
    intro y4 y5 t_worthOfPair hi0 hi1 hm
    rw [fX0_rankPairs_b33_s]
    refine tgI (fun h1 => ?_) (fun h1 => ?_)
    · have h1 := nll (a := p1_lineCount) (b := y5) h1 (by omega) (by omega)
      refine tgB hi1 ?_
      exact tgS trivial
    · have h1 := nln (a := p1_lineCount) (b := y5) h1 (by omega) (by omega)
      refine tgI (fun h2 => ?_) (fun h2 => ?_)
      · unfold fX0_rankPairs_b62
        refine tgI (fun h3 => ?_) (fun h3 => ?_)
        · have h3 := nll (a := 0) (b := 0) h3 (by omega) (by omega)
          rw [show ((nI y5) + 1 : Int32) = nI (y5 + 1) from (nadd rfl (show (1 : Int32) = nI 1 from rfl))]
          exact ih _ (y5 + 1) _ (by first | omega | assumption | exact Or.inl rfl | exact Or.inr rfl) (by first | omega | assumption | exact Or.inl rfl | exact Or.inr rfl) (by omega)
        · have h3 := nln (a := 0) (b := 0) h3 (by omega) (by omega)
          refine tgD (vkn (by omega) (by omega)) ?_
          refine tgN (fun w13 ew13 => ?_)
          refine tgD (by rw [ew13]; exact (vpB (tpair (hFS_p1 y5 (by omega)).1 (hFS_p1 y5 (by omega)).2) (by omega) (by omega))) ?_
          refine tgN (fun w18 ew18 => ?_)
          rw [show ((nI y5) + 1 : Int32) = nI (y5 + 1) from (nadd rfl (show (1 : Int32) = nI 1 from rfl))]
          exact ih _ (y5 + 1) _ (by first | omega | assumption | exact Or.inl rfl | exact Or.inr rfl) (by first | omega | assumption | exact Or.inl rfl | exact Or.inr rfl) (by omega)
      · refine tgC (t_fX1_gainOfLine (x1 := y5) (L := p1_lineCount) (by omega) (by omega) hFS_p1) (fun u19 hu19 => ?_)
        unfold fX0_rankPairs_b62
        refine tgI (fun h4 => ?_) (fun h4 => ?_)
        · rw [show ((nI y5) + 1 : Int32) = nI (y5 + 1) from (nadd rfl (show (1 : Int32) = nI 1 from rfl))]
          exact ih _ (y5 + 1) _ (by first | omega | assumption | exact Or.inl rfl | exact Or.inr rfl) (by first | omega | assumption | exact Or.inl rfl | exact Or.inr rfl) (by omega)
        · refine tgD (vkn (by omega) (by omega)) ?_
          refine tgN (fun w13 ew13 => ?_)
          refine tgD (by rw [ew13]; exact (vpB (tpair (hFS_p1 y5 (by omega)).1 (hFS_p1 y5 (by omega)).2) (by omega) (by omega))) ?_
          refine tgN (fun w18 ew18 => ?_)
          rw [show ((nI y5) + 1 : Int32) = nI (y5 + 1) from (nadd rfl (show (1 : Int32) = nI 1 from rfl))]
          exact ih _ (y5 + 1) _ (by first | omega | assumption | exact Or.inl rfl | exact Or.inr rfl) (by first | omega | assumption | exact Or.inl rfl | exact Or.inr rfl) (by omega)
theorem tl_fX0_rankPairs_b6 {p1_lineCount : Nat} {p1_first : Nat → Int32} {p1_second : Nat → Int32} {p1_cost : Nat → Int32} {p1_oneWay : Nat → Int32} {p3_pieces : Nat → Int32} {x2 : Int32} (hb_p1_lineCount : p1_lineCount ≤ 24) (hFS_p1 : hFS p1_lineCount p1_first p1_second) : ∀ (n : Nat) (y4 : Int32) (y5 : Nat) (t_worthOfPair : (Nat → Int64)), y5 ≤ 100 → (y4 = 0 ∨ y4 = 1) → 100 - y5 < n → tG tT (fX0_rankPairs_b6 (nI p1_lineCount) p1_first p1_second p1_cost p1_oneWay p3_pieces x2 n y4 (nI y5) t_worthOfPair) := by
  intro n
  induction n with
  | zero =>
    intro y4 y5 t_worthOfPair hi0 hi1 hm
    omega
  | succ n ih =>
    intro y4 y5 t_worthOfPair hi0 hi1 hm
    rw [fX0_rankPairs_b6_s]
    refine tgI (fun h1 => ?_) (fun h1 => ?_)
    · have h1 := nll (a := 100) (b := y5) h1 (by omega) (by omega)
      exact (tl_fX0_rankPairs_b33 (p1_lineCount := p1_lineCount) (by omega) hFS_p1 FU _ 0 _ (by first | omega | assumption | exact Or.inl rfl | exact Or.inr rfl) (by first | omega | assumption | exact Or.inl rfl | exact Or.inr rfl) (by have := FUge; omega))
    · have h1 := nln (a := 100) (b := y5) h1 (by omega) (by omega)
      refine tgD (vkn (by omega) (by omega)) ?_
      rw [show ((nI y5) + 1 : Int32) = nI (y5 + 1) from (nadd rfl (show (1 : Int32) = nI 1 from rfl))]
      exact ih _ (y5 + 1) _ (by first | omega | assumption | exact Or.inl rfl | exact Or.inr rfl) (by first | omega | assumption | exact Or.inl rfl | exact Or.inr rfl) (by omega)
theorem t_fX0_rankPairs {t_worthOfPair : Nat → Int64} {p1_lineCount : Nat} {p1_first : Nat → Int32} {p1_second : Nat → Int32} {p1_cost : Nat → Int32} {p1_oneWay : Nat → Int32} {p3_pieces : Nat → Int32} {x2 : Int32} (hb_p1_lineCount : p1_lineCount ≤ 24) (hFS_p1 : hFS p1_lineCount p1_first p1_second) : tG tT (fX0_rankPairs t_worthOfPair (nI p1_lineCount) p1_first p1_second p1_cost p1_oneWay p3_pieces x2) := by
  unfold fX0_rankPairs
  exact (tl_fX0_rankPairs_b6 (p1_lineCount := p1_lineCount) (by omega) hFS_p1 FU _ 0 _ (by first | omega | assumption | exact Or.inl rfl | exact Or.inr rfl) (by first | omega | assumption | exact Or.inl rfl | exact Or.inr rfl) (by have := FUge; omega))
theorem tl_fX0_admitWith_b3 {x1 : Nat} {x2 : Int32} {x3 : Int64} (hb_x1 : x1 ≤ 512) : ∀ (n : Nat) (y5 : Nat) (t_worthOfGroup : (Nat → Int64)), y5 ≤ x1 → x1 - y5 < n → tG tT (fX0_admitWith_b3 (nI x1) x2 x3 n (nI y5) t_worthOfGroup) := by
  intro n
  induction n with
  | zero =>
    intro y5 t_worthOfGroup hi0 hm
    omega
  | succ n ih =>
    intro y5 t_worthOfGroup hi0 hm
    rw [fX0_admitWith_b3_s]
    refine tgI (fun h1 => ?_) (fun h1 => ?_)
    · have h1 := nll (a := x1) (b := y5) h1 (by omega) (by omega)
      exact tgS trivial
    · have h1 := nln (a := x1) (b := y5) h1 (by omega) (by omega)
      refine tgI (fun h2 => ?_) (fun h2 => ?_)
      · rw [show ((nI y5) + 1 : Int32) = nI (y5 + 1) from (nadd rfl (show (1 : Int32) = nI 1 from rfl))]
        exact ih (y5 + 1) _ (by first | omega | assumption | exact Or.inl rfl | exact Or.inr rfl) (by omega)
      · refine tgD (vand (by omega) (by omega)) ?_
        refine tgD (vne (nadd rfl rfl) (by omega) (by omega)) ?_
        refine tgN (fun w8 ew8 => ?_)
        rw [show ((nI y5) + 1 : Int32) = nI (y5 + 1) from (nadd rfl (show (1 : Int32) = nI 1 from rfl))]
        exact ih (y5 + 1) _ (by first | omega | assumption | exact Or.inl rfl | exact Or.inr rfl) (by omega)
theorem t_fX0_admitWith {t_worthOfGroup : Nat → Int64} {x1 : Nat} {x2 : Int32} {x3 : Int64} (hb_x1 : x1 ≤ 512) : tG tT (fX0_admitWith t_worthOfGroup (nI x1) x2 x3) := by
  unfold fX0_admitWith
  exact (tl_fX0_admitWith_b3 (x1 := x1) (by omega) FU 0 _ (by first | omega | assumption | exact Or.inl rfl | exact Or.inr rfl) (by have := FUge; omega))
theorem tl_fX0_admit_b33 {t_worthOfPair : Nat → Int64} {x1 : Nat} (hb_x1 : x1 ≤ 9) : ∀ (n : Nat) (y2 : Nat) (y3 : Nat) (t_worthOfGroup : (Nat → Int64)), y3 ≤ x1 → y2 ≤ 512 → x1 - y3 < n → tG tT (fX0_admit_b33 t_worthOfPair (nI x1) n (nI y2) (nI y3) t_worthOfGroup) := by
  intro n
  induction n with
  | zero =>
    intro y2 y3 t_worthOfGroup hi0 hi1 hm
    omega
  | succ n ih =>
    intro y2 y3 t_worthOfGroup hi0 hi1 hm
    rw [fX0_admit_b33_s]
    refine tgI (fun h1 => ?_) (fun h1 => ?_)
    · have h1 := nll (a := x1) (b := y3) h1 (by omega) (by omega)
      exact tgS trivial
    · have h1 := nln (a := x1) (b := y3) h1 (by omega) (by omega)
      refine tgD (vpB (tpair ⟨x1, by omega, rfl⟩ ⟨y3, by omega, rfl⟩) (by omega) (by omega)) ?_
      refine tgI (fun h2 => ?_) (fun h2 => ?_)
      · rw [show ((nI y3) + 1 : Int32) = nI (y3 + 1) from (nadd rfl (show (1 : Int32) = nI 1 from rfl))]
        exact ih y2 (y3 + 1) _ (by first | omega | assumption | exact Or.inl rfl | exact Or.inr rfl) (by first | omega | assumption | exact Or.inl rfl | exact Or.inr rfl) (by omega)
      · refine tgC (t_fX0_admitWith (x1 := y2) (by omega)) (fun u8 hu8 => ?_)
        rw [show ((nI y3) + 1 : Int32) = nI (y3 + 1) from (nadd rfl (show (1 : Int32) = nI 1 from rfl))]
        exact ih y2 (y3 + 1) _ (by first | omega | assumption | exact Or.inl rfl | exact Or.inr rfl) (by first | omega | assumption | exact Or.inl rfl | exact Or.inr rfl) (by omega)
theorem tl_fX0_admit_b6 {t_worthOfPair : Nat → Int64} {x1 : Nat} (hb_x1 : x1 ≤ 9) : ∀ (n : Nat) (y2 : Nat) (y3 : Nat) (t_worthOfGroup : (Nat → Int64)), y3 ≤ y2 → y2 ≤ 512 → y2 - y3 < n → tG tT (fX0_admit_b6 t_worthOfPair (nI x1) n (nI y2) (nI y3) t_worthOfGroup) := by
  intro n
  induction n with
  | zero =>
    intro y2 y3 t_worthOfGroup hi0 hi1 hm
    omega
  | succ n ih =>
    intro y2 y3 t_worthOfGroup hi0 hi1 hm
    rw [fX0_admit_b6_s]
    refine tgI (fun h1 => ?_) (fun h1 => ?_)
    · have h1 := nll (a := y2) (b := y3) h1 (by omega) (by omega)
      exact (tl_fX0_admit_b33 (x1 := x1) (by omega) FU y2 0 _ (by first | omega | assumption | exact Or.inl rfl | exact Or.inr rfl) (by first | omega | assumption | exact Or.inl rfl | exact Or.inr rfl) (by have := FUge; omega))
    · have h1 := nln (a := y2) (b := y3) h1 (by omega) (by omega)
      refine tgD (vkn (by omega) (by omega)) ?_
      refine tgD (vne (nadd rfl rfl) (by omega) (by omega)) ?_
      rw [show ((nI y3) + 1 : Int32) = nI (y3 + 1) from (nadd rfl (show (1 : Int32) = nI 1 from rfl))]
      exact ih y2 (y3 + 1) _ (by first | omega | assumption | exact Or.inl rfl | exact Or.inr rfl) (by first | omega | assumption | exact Or.inl rfl | exact Or.inr rfl) (by omega)
theorem t_fX0_admit {t_worthOfPair : Nat → Int64} {t_worthOfGroup : Nat → Int64} {x1 : Nat} (hb_x1 : x1 ≤ 9) : tG tT (fX0_admit t_worthOfPair t_worthOfGroup (nI x1)) := by
  unfold fX0_admit
  rw [tshl hb_x1]
  exact tl_fX0_admit_b6 hb_x1 FU (2 ^ x1) 0 _ (Nat.zero_le _) (tpw hb_x1) (by have := FUge; have := tpw hb_x1; omega)
theorem tl_fX0_find_b15 {p1_people : Nat} (hb_p1_people : p1_people ≤ 10) : ∀ (n : Nat) (y4 : Nat) (t_worthOfPair : (Nat → Int64)) (t_worthOfGroup : (Nat → Int64)), y4 ≤ p1_people → p1_people - y4 < n → tG tT (fX0_find_b15 (nI p1_people) n (nI y4) t_worthOfPair t_worthOfGroup) := by
  intro n
  induction n with
  | zero =>
    intro y4 t_worthOfPair t_worthOfGroup hi0 hm
    omega
  | succ n ih =>
    intro y4 t_worthOfPair t_worthOfGroup hi0 hm
    rw [fX0_find_b15_s]
    refine tgI (fun h1 => ?_) (fun h1 => ?_)
    · have h1 := nll (a := p1_people) (b := y4) h1 (by omega) (by omega)
      unfold fX0_find_b36
      refine tgD (vshl1 (by omega)) ?_
      exact tgS trivial
    · have h1 := nln (a := p1_people) (b := y4) h1 (by omega) (by omega)
      refine tgC (t_fX0_admit (x1 := y4) (by omega)) (fun u7 hu7 => ?_)
      rw [show ((nI y4) + 1 : Int32) = nI (y4 + 1) from (nadd rfl (show (1 : Int32) = nI 1 from rfl))]
      exact ih (y4 + 1) _ _ (by first | omega | assumption | exact Or.inl rfl | exact Or.inr rfl) (by omega)
theorem t_fX0_find {t_worthOfPair : Nat → Int64} {t_worthOfGroup : Nat → Int64} {p1_people : Nat} {p1_lineCount : Nat} {p1_first : Nat → Int32} {p1_second : Nat → Int32} {p1_cost : Nat → Int32} {p1_oneWay : Nat → Int32} {p3_pieces : Nat → Int32} {x2 : Int32} (hb_p1_people : p1_people ≤ 10) (hb_p1_lineCount : p1_lineCount ≤ 24) (hFS_p1 : hFS p1_lineCount p1_first p1_second) : tG tT (fX0_find t_worthOfPair t_worthOfGroup (nI p1_people) (nI p1_lineCount) p1_first p1_second p1_cost p1_oneWay p3_pieces x2) := by
  unfold fX0_find
  refine tgC (t_fX0_rankPairs (p1_lineCount := p1_lineCount) (by omega) hFS_p1) (fun u1 hu1 => ?_)
  refine tgI (fun h1 => ?_) (fun h1 => ?_)
  · exact tgS trivial
  · exact (tl_fX0_find_b15 (p1_people := p1_people) (by omega) FU 0 _ _ (by first | omega | assumption | exact Or.inl rfl | exact Or.inr rfl) (by have := FUge; omega))
theorem t_fX7_copyFrom {t_news_pieces : Nat → Int32} {p1_arrangedLines : Int32} {p1_cutLines : Int32} {p1_rounds : Int32} {p1_calls : Int32} {p1_latest : Option Nat} {p1_news_people : Nat} {p1_news_pieces : Nat → Int32} (hb_p1_news_people : p1_news_people ≤ 10) : tG tT (fX7_copyFrom t_news_pieces p1_arrangedLines p1_cutLines p1_rounds p1_calls p1_latest (nI p1_news_people) p1_news_pieces) := by
  unfold fX7_copyFrom
  refine tgC (t_fX3_copyFrom ) (fun u1 hu1 => ?_)
  rw [hu1]
  exact tgS trivial
theorem tl_fX4_make_b26 {p1_people : Nat} {p1_lineCount : Nat} {p1_first : Nat → Int32} {p1_second : Nat → Int32} {p1_cost : Nat → Int32} {p1_oneWay : Nat → Int32} {p1_breaks_count : Nat} {p1_breaks_whose : Nat → Int32} {p1_breaks_from : Nat → Int32} {p1_breaks_until : Nat → Int32} {p1_absences_count : Nat} {p1_absences_whose : Nat → Int32} {p1_absences_from : Nat → Int32} {p1_absences_until : Nat → Int32} {p2_cutLines : Int32} {p2_rounds : Int32} (hb_p1_people : p1_people ≤ 10) (hb_p1_lineCount : p1_lineCount ≤ 24) (hb_p1_breaks_count : p1_breaks_count ≤ 12) (hb_p1_absences_count : p1_absences_count ≤ 12) (hFS_p1 : hFS p1_lineCount p1_first p1_second) : ∀ (n : Nat) (t_rounds : Nat) (t_calls : Int32) (t_cost : Int32) (t_news_people : Nat) (t_news_pieces : (Nat → Int32)) (p3_worthOfPair : (Nat → Int64)) (p3_worthOfGroup : (Nat → Int64)), t_rounds ≤ 40 → t_news_people ≤ 10 → 40 - t_rounds < n → tG (fun r => pB 10 r.2.2.2.1) (fX4_make_b26 (nI p1_people) (nI p1_lineCount) p1_first p1_second p1_cost p1_oneWay (nI p1_breaks_count) p1_breaks_whose p1_breaks_from p1_breaks_until (nI p1_absences_count) p1_absences_whose p1_absences_from p1_absences_until p2_cutLines p2_rounds n (nI t_rounds) t_calls t_cost (nI t_news_people) t_news_pieces p3_worthOfPair p3_worthOfGroup) := by
  intro n
  induction n with
  | zero =>
    intro t_rounds t_calls t_cost t_news_people t_news_pieces p3_worthOfPair p3_worthOfGroup hi0 hi1 hm
    omega
  | succ n ih =>
    intro t_rounds t_calls t_cost t_news_people t_news_pieces p3_worthOfPair p3_worthOfGroup hi0 hi1 hm
    rw [fX4_make_b26_s]
    refine tgI (fun h1 => ?_) (fun h1 => ?_)
    · have h1 := nll (a := 40) (b := t_rounds) h1 (by omega) (by omega)
      exact tgS ⟨t_news_people, by omega, rfl⟩
    · have h1 := nln (a := 40) (b := t_rounds) h1 (by omega) (by omega)
      refine tgC (t_fX3_missingPieces (t_people := t_news_people) (by omega)) (fun u5 hu5 => ?_)
      refine tgI (fun h2 => ?_) (fun h2 => ?_)
      · exact tgS ⟨t_news_people, by omega, rfl⟩
      · refine tgC (t_fX1_openLines (t_lineCount := p1_lineCount) (t_breaks_count := p1_breaks_count) (t_absences_count := p1_absences_count) (by omega) (by omega) (by omega) hFS_p1) (fun u9 hu9 => ?_)
        refine tgC (t_fX0_find (p1_people := p1_people) (p1_lineCount := p1_lineCount) (by omega) (by omega) hFS_p1) (fun u12 hu12 => ?_)
        refine tgC (t_fX1_makeCalls (t_lineCount := p1_lineCount) (by omega) hFS_p1) (fun u15 hu15 => ?_)
        refine tgC (t_fX1_costOf (t_lineCount := p1_lineCount) (by omega)) (fun u21 hu21 => ?_)
        rw [show ((nI t_rounds) + 1 : Int32) = nI (t_rounds + 1) from (nadd rfl (show (1 : Int32) = nI 1 from rfl))]
        exact ih (t_rounds + 1) _ _ t_news_people _ _ _ (by first | omega | assumption | exact Or.inl rfl | exact Or.inr rfl) (by first | omega | assumption | exact Or.inl rfl | exact Or.inr rfl) (by omega)
theorem t_fX4_make {t_news_pieces : Nat → Int32} {p1_people : Nat} {p1_lineCount : Nat} {p1_first : Nat → Int32} {p1_second : Nat → Int32} {p1_cost : Nat → Int32} {p1_oneWay : Nat → Int32} {p1_breaks_count : Nat} {p1_breaks_whose : Nat → Int32} {p1_breaks_from : Nat → Int32} {p1_breaks_until : Nat → Int32} {p1_absences_count : Nat} {p1_absences_whose : Nat → Int32} {p1_absences_from : Nat → Int32} {p1_absences_until : Nat → Int32} {p2_cutLines : Int32} {p2_rounds : Int32} {p2_news_people : Nat} {p2_news_pieces : Nat → Int32} {p3_worthOfPair : Nat → Int64} {p3_worthOfGroup : Nat → Int64} (hb_p1_people : p1_people ≤ 10) (hb_p1_lineCount : p1_lineCount ≤ 24) (hb_p1_breaks_count : p1_breaks_count ≤ 12) (hb_p1_absences_count : p1_absences_count ≤ 12) (hb_p2_news_people : p2_news_people ≤ 10) (hFS_p1 : hFS p1_lineCount p1_first p1_second) : tG (fun r => pB 10 r.2.2.2.1) (fX4_make t_news_pieces (nI p1_people) (nI p1_lineCount) p1_first p1_second p1_cost p1_oneWay (nI p1_breaks_count) p1_breaks_whose p1_breaks_from p1_breaks_until (nI p1_absences_count) p1_absences_whose p1_absences_from p1_absences_until p2_cutLines p2_rounds (nI p2_news_people) p2_news_pieces p3_worthOfPair p3_worthOfGroup) := by
  unfold fX4_make
  refine tgC (t_fX3_copyFrom ) (fun u1 hu1 => ?_)
  rw [hu1]
  exact (tl_fX4_make_b26 (p1_people := p1_people) (p1_lineCount := p1_lineCount) (p1_breaks_count := p1_breaks_count) (p1_absences_count := p1_absences_count) (by omega) (by omega) (by omega) (by omega) hFS_p1 FU 0 _ _ p2_news_people _ _ _ (by first | omega | assumption | exact Or.inl rfl | exact Or.inr rfl) (by first | omega | assumption | exact Or.inl rfl | exact Or.inr rfl) (by have := FUge; omega))
theorem t_fX7_begin {t_news_pieces : Nat → Int32} {x1 : Int32} : tG tT (fX7_begin t_news_pieces x1) := by
  unfold fX7_begin
  refine tgC (t_fX3_begin ) (fun u1 hu1 => ?_)
  exact tgS trivial
theorem tl_fX6_canLearnTheRest_b46_k {t_people : Nat} {t_after_e_pieces : Nat → Nat → Int32} {x2 : Nat} {Jm : Nat} (hb_t_people : t_people ≤ 10) (hb_x2 : x2 ≤ 9) : ∀ (n : Nat) (y4 : Int32) (y5 : Int32) (y6 : Nat), y6 ≤ t_people → t_people - y6 < n → tG tT (fX6_canLearnTheRest_b46_k (nI t_people) t_after_e_pieces (nI x2) Jm n y4 y5 (nI y6)) := by
  intro n
  induction n with
  | zero =>
    intro y4 y5 y6 hi0 hm
    omega
  | succ n ih =>
    intro y4 y5 y6 hi0 hm
    rw [fX6_canLearnTheRest_b46_k_s]
    refine tgI (fun h1 => ?_) (fun h1 => ?_)
    · have h1 := nll (a := t_people) (b := y6) h1 (by omega) (by omega)
      exact tgS trivial
    · have h1 := nln (a := t_people) (b := y6) h1 (by omega) (by omega)
      refine tgI (fun h2 => ?_) (fun h2 => ?_)
      · rw [show ((nI y6) + 1 : Int32) = nI (y6 + 1) from (nadd rfl (show (1 : Int32) = nI 1 from rfl))]
        exact ih _ _ (y6 + 1) (by first | omega | assumption | exact Or.inl rfl | exact Or.inr rfl) (by omega)
      · refine tgD (vkn (by omega) (by omega)) ?_
        refine tgD (vkn (by omega) (by omega)) ?_
        refine tgI (fun h3 => ?_) (fun h3 => ?_)
        · exact tgS trivial
        · rw [show ((nI y6) + 1 : Int32) = nI (y6 + 1) from (nadd rfl (show (1 : Int32) = nI 1 from rfl))]
          exact ih _ _ (y6 + 1) (by first | omega | assumption | exact Or.inl rfl | exact Or.inr rfl) (by omega)
theorem t_fX6_canLearnTheRest {t_people : Nat} {t_after_e_pieces : Nat → Nat → Int32} {t_hears_e : Nat → Nat → Int32} {t_talks_e : Nat → Nat → Int32} {x1 : Nat} {x2 : Nat} (hb_t_people : t_people ≤ 10) (hb_x1 : x1 ≤ 3) (hb_x2 : x2 ≤ 9) : tG tT (fX6_canLearnTheRest (nI t_people) t_after_e_pieces t_hears_e t_talks_e (nI x1) (nI x2)) := by
  unfold fX6_canLearnTheRest
  refine tgD (vkn (by omega) (by omega)) ?_
  refine tgN (fun J2 eJ2 => ?_)
  refine tgD (vkn (by omega) (by omega)) ?_
  refine tgD (vkn (by omega) (by omega)) ?_
  refine tgN (fun w6 ew6 => ?_)
  exact (tl_fX6_canLearnTheRest_b46_k (t_people := t_people) (x2 := x2) (by omega) (by omega) FU _ _ 0 (by first | omega | assumption | exact Or.inl rfl | exact Or.inr rfl) (by have := FUge; omega))
theorem tl_fX6_allCanLearnTheRest_b2 {t_people : Nat} {t_after_e_pieces : Nat → Nat → Int32} {t_hears_e : Nat → Nat → Int32} {t_talks_e : Nat → Nat → Int32} {x1 : Nat} (hb_t_people : t_people ≤ 10) (hb_x1 : x1 ≤ 3) : ∀ (n : Nat) (y2 : Nat), y2 ≤ t_people → t_people - y2 < n → tG tT (fX6_allCanLearnTheRest_b2 (nI t_people) t_after_e_pieces t_hears_e t_talks_e (nI x1) n (nI y2)) := by
  intro n
  induction n with
  | zero =>
    intro y2 hi0 hm
    omega
  | succ n ih =>
    intro y2 hi0 hm
    rw [fX6_allCanLearnTheRest_b2_s]
    refine tgI (fun h1 => ?_) (fun h1 => ?_)
    · have h1 := nll (a := t_people) (b := y2) h1 (by omega) (by omega)
      exact tgS trivial
    · have h1 := nln (a := t_people) (b := y2) h1 (by omega) (by omega)
      refine tgC (t_fX6_canLearnTheRest (t_people := t_people) (x1 := x1) (x2 := y2) (by omega) (by omega) (by omega)) (fun u2 hu2 => ?_)
      refine tgI (fun h2 => ?_) (fun h2 => ?_)
      · exact tgS trivial
      · rw [show ((nI y2) + 1 : Int32) = nI (y2 + 1) from (nadd rfl (show (1 : Int32) = nI 1 from rfl))]
        exact ih (y2 + 1) (by first | omega | assumption | exact Or.inl rfl | exact Or.inr rfl) (by omega)
theorem t_fX6_allCanLearnTheRest {t_people : Nat} {t_after_e_pieces : Nat → Nat → Int32} {t_hears_e : Nat → Nat → Int32} {t_talks_e : Nat → Nat → Int32} {x1 : Nat} (hb_t_people : t_people ≤ 10) (hb_x1 : x1 ≤ 3) : tG tT (fX6_allCanLearnTheRest (nI t_people) t_after_e_pieces t_hears_e t_talks_e (nI x1)) := by
  unfold fX6_allCanLearnTheRest
  exact (tl_fX6_allCanLearnTheRest_b2 (t_people := t_people) (x1 := x1) (by omega) (by omega) FU 0 (by first | omega | assumption | exact Or.inl rfl | exact Or.inr rfl) (by have := FUge; omega))
theorem tl_fX6_couldCall_b3 {t_people : Nat} {t_hears_e : Nat → Nat → Int32} {t_talks_e : Nat → Nat → Int32} {x1 : Nat} {x2 : Nat} {x3 : Int32} (hb_t_people : t_people ≤ 10) (hb_x1 : x1 ≤ 3) (hb_x2 : x2 ≤ 9) : ∀ (n : Nat) (y4 : Nat), y4 ≤ t_people → t_people - y4 < n → tG tT (fX6_couldCall_b3 (nI t_people) t_hears_e t_talks_e (nI x1) (nI x2) x3 n (nI y4)) := by
  intro n
  induction n with
  | zero =>
    intro y4 hi0 hm
    omega
  | succ n ih =>
    intro y4 hi0 hm
    rw [fX6_couldCall_b3_s]
    refine tgI (fun h1 => ?_) (fun h1 => ?_)
    · have h1 := nll (a := t_people) (b := y4) h1 (by omega) (by omega)
      unfold fX6_couldCall_b45
      refine tgD (vkn (by omega) (by omega)) ?_
      refine tgN (fun J3 eJ3 => ?_)
      refine tgD (vkn (by omega) (by omega)) ?_
      refine tgI (fun h2 => ?_) (fun h2 => ?_)
      · exact tgS trivial
      · exact tgS trivial
    · have h1 := nln (a := t_people) (b := y4) h1 (by omega) (by omega)
      refine tgI (fun h3 => ?_) (fun h3 => ?_)
      · rw [show ((nI y4) + 1 : Int32) = nI (y4 + 1) from (nadd rfl (show (1 : Int32) = nI 1 from rfl))]
        exact ih (y4 + 1) (by first | omega | assumption | exact Or.inl rfl | exact Or.inr rfl) (by omega)
      · refine tgD (vkn (by omega) (by omega)) ?_
        refine tgN (fun J20 eJ20 => ?_)
        refine tgD (vkn (by omega) (by omega)) ?_
        refine tgI (fun h4 => ?_) (fun h4 => ?_)
        · rw [show ((nI y4) + 1 : Int32) = nI (y4 + 1) from (nadd rfl (show (1 : Int32) = nI 1 from rfl))]
          exact ih (y4 + 1) (by first | omega | assumption | exact Or.inl rfl | exact Or.inr rfl) (by omega)
        · exact tgS trivial
theorem t_fX6_couldCall {t_people : Nat} {t_hears_e : Nat → Nat → Int32} {t_talks_e : Nat → Nat → Int32} {x1 : Nat} {x2 : Nat} {x3 : Int32} (hb_t_people : t_people ≤ 10) (hb_x1 : x1 ≤ 3) (hb_x2 : x2 ≤ 9) : tG tT (fX6_couldCall (nI t_people) t_hears_e t_talks_e (nI x1) (nI x2) x3) := by
  unfold fX6_couldCall
  exact (tl_fX6_couldCall_b3 (t_people := t_people) (x1 := x1) (x2 := x2) (by omega) (by omega) (by omega) FU 0 (by first | omega | assumption | exact Or.inl rfl | exact Or.inr rfl) (by have := FUge; omega))
theorem tl_fX6_connect_b39 {p2_lineCount : Nat} {p2_first : Nat → Int32} {p2_second : Nat → Int32} {p2_oneWay : Nat → Int32} {x1 : Nat} {x3 : Int32} (hb_p2_lineCount : p2_lineCount ≤ 24) (hb_x1 : x1 ≤ 3) (hFS_p2 : hFS p2_lineCount p2_first p2_second) : ∀ (n : Nat) (y4 : Nat) (t_hears_e : (Nat → Nat → Int32)) (t_talks_e : (Nat → Nat → Int32)), y4 ≤ p2_lineCount → p2_lineCount - y4 < n → tG tT (fX6_connect_b39 (nI p2_lineCount) p2_first p2_second p2_oneWay (nI x1) x3 n (nI y4) t_hears_e t_talks_e) := by
  intro n
  induction n with
  | zero =>
    intro y4 t_hears_e t_talks_e hi0 hm
    omega
  | succ n ih =>
    intro y4 t_hears_e t_talks_e hi0 hm
    rw [fX6_connect_b39_s]
    refine tgI (fun h1 => ?_) (fun h1 => ?_)
    · have h1 := nll (a := p2_lineCount) (b := y4) h1 (by omega) (by omega)
      exact tgS trivial
    · have h1 := nln (a := p2_lineCount) (b := y4) h1 (by omega) (by omega)
      refine tgD (vkn (by omega) (by omega)) ?_
      refine tgI (fun h2 => ?_) (fun h2 => ?_)
      · unfold fX6_connect_b104
        refine tgI (fun h3 => ?_) (fun h3 => ?_)
        · rw [show ((nI y4) + 1 : Int32) = nI (y4 + 1) from (nadd rfl (show (1 : Int32) = nI 1 from rfl))]
          exact ih (y4 + 1) _ _ (by first | omega | assumption | exact Or.inl rfl | exact Or.inr rfl) (by omega)
        · refine tgD (vkn (by omega) (by omega)) ?_
          refine tgN (fun J13 eJ13 => ?_)
          refine tgD (vpB (hFS_p2 y4 (by omega)).1 (by omega) (by omega)) ?_
          refine tgD (vpB (hFS_p2 y4 (by omega)).2 (by omega) (by omega)) ?_
          rw [show ((nI y4) + 1 : Int32) = nI (y4 + 1) from (nadd rfl (show (1 : Int32) = nI 1 from rfl))]
          exact ih (y4 + 1) _ _ (by first | omega | assumption | exact Or.inl rfl | exact Or.inr rfl) (by omega)
      · refine tgI (fun h4 => ?_) (fun h4 => ?_)
        · unfold fX6_connect_b104
          refine tgI (fun h5 => ?_) (fun h5 => ?_)
          · rw [show ((nI y4) + 1 : Int32) = nI (y4 + 1) from (nadd rfl (show (1 : Int32) = nI 1 from rfl))]
            exact ih (y4 + 1) _ _ (by first | omega | assumption | exact Or.inl rfl | exact Or.inr rfl) (by omega)
          · refine tgD (vkn (by omega) (by omega)) ?_
            refine tgN (fun J13 eJ13 => ?_)
            refine tgD (vpB (hFS_p2 y4 (by omega)).1 (by omega) (by omega)) ?_
            refine tgD (vpB (hFS_p2 y4 (by omega)).2 (by omega) (by omega)) ?_
            rw [show ((nI y4) + 1 : Int32) = nI (y4 + 1) from (nadd rfl (show (1 : Int32) = nI 1 from rfl))]
            exact ih (y4 + 1) _ _ (by first | omega | assumption | exact Or.inl rfl | exact Or.inr rfl) (by omega)
        · refine tgD (vkn (by omega) (by omega)) ?_
          refine tgN (fun J27 eJ27 => ?_)
          refine tgD (vpB (hFS_p2 y4 (by omega)).2 (by omega) (by omega)) ?_
          rw [show ((nI y4) + 1 : Int32) = nI (y4 + 1) from (nadd rfl (show (1 : Int32) = nI 1 from rfl))]
          exact ih (y4 + 1) _ _ (by first | omega | assumption | exact Or.inl rfl | exact Or.inr rfl) (by omega)
theorem tl_fX6_connect_b3 {p2_lineCount : Nat} {p2_first : Nat → Int32} {p2_second : Nat → Int32} {p2_oneWay : Nat → Int32} {x1 : Nat} {x3 : Int32} (hb_p2_lineCount : p2_lineCount ≤ 24) (hb_x1 : x1 ≤ 3) (hFS_p2 : hFS p2_lineCount p2_first p2_second) : ∀ (n : Nat) (y4 : Nat) (t_hears_e : (Nat → Nat → Int32)) (t_talks_e : (Nat → Nat → Int32)), y4 ≤ 10 → 10 - y4 < n → tG tT (fX6_connect_b3 (nI p2_lineCount) p2_first p2_second p2_oneWay (nI x1) x3 n (nI y4) t_hears_e t_talks_e) := by
  intro n
  induction n with
  | zero =>
    intro y4 t_hears_e t_talks_e hi0 hm
    omega
  | succ n ih =>
    intro y4 t_hears_e t_talks_e hi0 hm
    rw [fX6_connect_b3_s]
    refine tgI (fun h1 => ?_) (fun h1 => ?_)
    · have h1 := nll (a := 10) (b := y4) h1 (by omega) (by omega)
      exact (tl_fX6_connect_b39 (p2_lineCount := p2_lineCount) (x1 := x1) (by omega) (by omega) hFS_p2 FU 0 _ _ (by first | omega | assumption | exact Or.inl rfl | exact Or.inr rfl) (by have := FUge; omega))
    · have h1 := nln (a := 10) (b := y4) h1 (by omega) (by omega)
      refine tgD (vkn (by omega) (by omega)) ?_
      refine tgN (fun J35 eJ35 => ?_)
      refine tgD (vkn (by omega) (by omega)) ?_
      rw [show ((nI y4) + 1 : Int32) = nI (y4 + 1) from (nadd rfl (show (1 : Int32) = nI 1 from rfl))]
      exact ih (y4 + 1) _ _ (by first | omega | assumption | exact Or.inl rfl | exact Or.inr rfl) (by omega)
theorem t_fX6_connect {t_hears_e : Nat → Nat → Int32} {t_talks_e : Nat → Nat → Int32} {p2_lineCount : Nat} {p2_first : Nat → Int32} {p2_second : Nat → Int32} {p2_oneWay : Nat → Int32} {x1 : Nat} {x3 : Int32} (hb_p2_lineCount : p2_lineCount ≤ 24) (hb_x1 : x1 ≤ 3) (hFS_p2 : hFS p2_lineCount p2_first p2_second) : tG tT (fX6_connect t_hears_e t_talks_e (nI p2_lineCount) p2_first p2_second p2_oneWay (nI x1) x3) := by
  unfold fX6_connect
  exact (tl_fX6_connect_b3 (p2_lineCount := p2_lineCount) (x1 := x1) (by omega) (by omega) hFS_p2 FU 0 _ _ (by first | omega | assumption | exact Or.inl rfl | exact Or.inr rfl) (by have := FUge; omega))
theorem tl_fX10_startAnew_b23 : ∀ (n : Nat) (y1 : Nat) (t_now_arrangedLines : Int32) (t_now_cutLines : Int32) (t_now_rounds : Int32) (t_now_calls : Int32) (t_now_latest : Option Nat) (t_now_news_people : Int32) (t_now_news_pieces : (Nat → Int32)) (t_history_count : Int32) (t_filled : (Nat → Int32)), y1 ≤ 2 → 2 - y1 < n → tG tT (fX10_startAnew_b23  n (nI y1) t_now_arrangedLines t_now_cutLines t_now_rounds t_now_calls t_now_latest t_now_news_people t_now_news_pieces t_history_count t_filled) := by
  intro n
  induction n with
  | zero =>
    intro y1 t_now_arrangedLines t_now_cutLines t_now_rounds t_now_calls t_now_latest t_now_news_people t_now_news_pieces t_history_count t_filled hi0 hm
    omega
  | succ n ih =>
    intro y1 t_now_arrangedLines t_now_cutLines t_now_rounds t_now_calls t_now_latest t_now_news_people t_now_news_pieces t_history_count t_filled hi0 hm
    rw [fX10_startAnew_b23_s]
    refine tgI (fun h1 => ?_) (fun h1 => ?_)
    · have h1 := nll (a := 2) (b := y1) h1 (by omega) (by omega)
      exact tgS trivial
    · have h1 := nln (a := 2) (b := y1) h1 (by omega) (by omega)
      refine tgD (vkn (by omega) (by omega)) ?_
      rw [show ((nI y1) + 1 : Int32) = nI (y1 + 1) from (nadd rfl (show (1 : Int32) = nI 1 from rfl))]
      exact ih (y1 + 1) _ _ _ _ _ _ _ _ _ (by first | omega | assumption | exact Or.inl rfl | exact Or.inr rfl) (by omega)
theorem t_fX10_usableLines {t_exchange_lineCount : Nat} {t_exchange_first : Nat → Int32} {t_exchange_second : Nat → Int32} {t_exchange_breaks_count : Nat} {t_exchange_breaks_whose : Nat → Int32} {t_exchange_breaks_from : Nat → Int32} {t_exchange_breaks_until : Nat → Int32} {t_exchange_absences_count : Nat} {t_exchange_absences_whose : Nat → Int32} {t_exchange_absences_from : Nat → Int32} {t_exchange_absences_until : Nat → Int32} {t_now_cutLines : Int32} {x1 : Int32} (hb_t_exchange_lineCount : t_exchange_lineCount ≤ 24) (hb_t_exchange_breaks_count : t_exchange_breaks_count ≤ 12) (hb_t_exchange_absences_count : t_exchange_absences_count ≤ 12) (hFS_t_exchange : hFS t_exchange_lineCount t_exchange_first t_exchange_second) : tG tT (fX10_usableLines (nI t_exchange_lineCount) t_exchange_first t_exchange_second (nI t_exchange_breaks_count) t_exchange_breaks_whose t_exchange_breaks_from t_exchange_breaks_until (nI t_exchange_absences_count) t_exchange_absences_whose t_exchange_absences_from t_exchange_absences_until t_now_cutLines x1) := by
  unfold fX10_usableLines
  refine tgC (t_fX1_openLines (t_lineCount := t_exchange_lineCount) (t_breaks_count := t_exchange_breaks_count) (t_absences_count := t_exchange_absences_count) (by omega) (by omega) (by omega) hFS_t_exchange) (fun u1 hu1 => ?_)
  exact tgS trivial
theorem tl_fX10_cheapestLine_b2 {t_exchange_lineCount : Nat} {t_exchange_cost : Nat → Int32} {x1 : Int32} (hb_t_exchange_lineCount : t_exchange_lineCount ≤ 24) : ∀ (n : Nat) (y2 : Nat), y2 ≤ t_exchange_lineCount → t_exchange_lineCount - y2 < n → tG tT (fX10_cheapestLine_b2 (nI t_exchange_lineCount) t_exchange_cost x1 n (nI y2)) := by
  intro n
  induction n with
  | zero =>
    intro y2 hi0 hm
    omega
  | succ n ih =>
    intro y2 hi0 hm
    rw [fX10_cheapestLine_b2_s]
    refine tgI (fun h1 => ?_) (fun h1 => ?_)
    · have h1 := nll (a := t_exchange_lineCount) (b := y2) h1 (by omega) (by omega)
      exact tgS trivial
    · have h1 := nln (a := t_exchange_lineCount) (b := y2) h1 (by omega) (by omega)
      refine tgC (t_fX1_placeByCost (t_lineCount := t_exchange_lineCount) (x1 := y2) (by omega) (by omega)) (fun u2 hu2 => ?_)
      refine tgI (fun h2 => ?_) (fun h2 => ?_)
      · exact tgS trivial
      · rw [show ((nI y2) + 1 : Int32) = nI (y2 + 1) from (nadd rfl (show (1 : Int32) = nI 1 from rfl))]
        exact ih (y2 + 1) (by first | omega | assumption | exact Or.inl rfl | exact Or.inr rfl) (by omega)
theorem t_fX10_cheapestLine {t_exchange_lineCount : Nat} {t_exchange_cost : Nat → Int32} {x1 : Int32} (hb_t_exchange_lineCount : t_exchange_lineCount ≤ 24) : tG tT (fX10_cheapestLine (nI t_exchange_lineCount) t_exchange_cost x1) := by
  unfold fX10_cheapestLine
  exact (tl_fX10_cheapestLine_b2 (t_exchange_lineCount := t_exchange_lineCount) (by omega) FU 0 (by first | omega | assumption | exact Or.inl rfl | exact Or.inr rfl) (by have := FUge; omega))
theorem t_fX10_missing {t_now_news_people : Nat} {t_now_news_pieces : Nat → Int32} (hb_t_now_news_people : t_now_news_people ≤ 10) : tG tT (fX10_missing (nI t_now_news_people) t_now_news_pieces) := by
  unfold fX10_missing
  refine tgC (t_fX3_missingPieces (t_people := t_now_news_people) (by omega)) (fun u1 hu1 => ?_)
  exact tgS trivial
theorem t_fX10_gain {t_exchange_lineCount : Nat} {t_exchange_first : Nat → Int32} {t_exchange_second : Nat → Int32} {t_exchange_oneWay : Nat → Int32} {t_now_arrangedLines : Int32} {t_now_news_pieces : Nat → Int32} (hb_t_exchange_lineCount : t_exchange_lineCount ≤ 24) (hFS_t_exchange : hFS t_exchange_lineCount t_exchange_first t_exchange_second) : tG tT (fX10_gain (nI t_exchange_lineCount) t_exchange_first t_exchange_second t_exchange_oneWay t_now_arrangedLines t_now_news_pieces) := by
  unfold fX10_gain
  refine tgC (t_fX1_gainOf (t_lineCount := t_exchange_lineCount) (by omega) hFS_t_exchange) (fun u1 hu1 => ?_)
  exact tgS trivial
theorem t_fX10_bestOfNextRound {t_exchange_people : Nat} {t_exchange_lineCount : Nat} {t_exchange_first : Nat → Int32} {t_exchange_second : Nat → Int32} {t_exchange_cost : Nat → Int32} {t_exchange_oneWay : Nat → Int32} {t_exchange_breaks_count : Nat} {t_exchange_breaks_whose : Nat → Int32} {t_exchange_breaks_from : Nat → Int32} {t_exchange_breaks_until : Nat → Int32} {t_exchange_absences_count : Nat} {t_exchange_absences_whose : Nat → Int32} {t_exchange_absences_from : Nat → Int32} {t_exchange_absences_until : Nat → Int32} {t_now_cutLines : Int32} {t_now_rounds : Int32} {t_now_news_pieces : Nat → Int32} {t_bestSet_worthOfPair : Nat → Int64} {t_bestSet_worthOfGroup : Nat → Int64} (hb_t_exchange_people : t_exchange_people ≤ 10) (hb_t_exchange_lineCount : t_exchange_lineCount ≤ 24) (hb_t_exchange_breaks_count : t_exchange_breaks_count ≤ 12) (hb_t_exchange_absences_count : t_exchange_absences_count ≤ 12) (hFS_t_exchange : hFS t_exchange_lineCount t_exchange_first t_exchange_second) : tG tT (fX10_bestOfNextRound (nI t_exchange_people) (nI t_exchange_lineCount) t_exchange_first t_exchange_second t_exchange_cost t_exchange_oneWay (nI t_exchange_breaks_count) t_exchange_breaks_whose t_exchange_breaks_from t_exchange_breaks_until (nI t_exchange_absences_count) t_exchange_absences_whose t_exchange_absences_from t_exchange_absences_until t_now_cutLines t_now_rounds t_now_news_pieces t_bestSet_worthOfPair t_bestSet_worthOfGroup) := by
  unfold fX10_bestOfNextRound
  refine tgC (t_fX10_usableLines (t_exchange_lineCount := t_exchange_lineCount) (t_exchange_breaks_count := t_exchange_breaks_count) (t_exchange_absences_count := t_exchange_absences_count) (by omega) (by omega) (by omega) hFS_t_exchange) (fun u1 hu1 => ?_)
  refine tgC (t_fX0_find (p1_people := t_exchange_people) (p1_lineCount := t_exchange_lineCount) (by omega) (by omega) hFS_t_exchange) (fun u4 hu4 => ?_)
  exact tgS trivial
theorem t_fX10_doublings {t_now_news_people : Nat} {t_now_news_pieces : Nat → Int32} (hb_t_now_news_people : t_now_news_people ≤ 10) : tG tT (fX10_doublings (nI t_now_news_people) t_now_news_pieces) := by
  unfold fX10_doublings
  refine tgC (t_fX3_neededDoublings (t_people := t_now_news_people) (by omega)) (fun u1 hu1 => ?_)
  exact tgS trivial
theorem tl_fX10_soonest_b25 {t_exchange_lineCount : Nat} {t_exchange_first : Nat → Int32} {t_exchange_second : Nat → Int32} {t_exchange_oneWay : Nat → Int32} {t_exchange_breaks_count : Nat} {t_exchange_breaks_whose : Nat → Int32} {t_exchange_breaks_from : Nat → Int32} {t_exchange_breaks_until : Nat → Int32} {t_exchange_absences_count : Nat} {t_exchange_absences_whose : Nat → Int32} {t_exchange_absences_from : Nat → Int32} {t_exchange_absences_until : Nat → Int32} {t_now_cutLines : Int32} {t_now_rounds : Int32} {x1 : Int32} (hb_t_exchange_lineCount : t_exchange_lineCount ≤ 24) (hb_t_exchange_breaks_count : t_exchange_breaks_count ≤ 12) (hb_t_exchange_absences_count : t_exchange_absences_count ≤ 12) (hFS_t_exchange : hFS t_exchange_lineCount t_exchange_first t_exchange_second) : ∀ (n : Nat) (y3 : Int32) (y4 : Nat), y4 ≤ 61 → 61 - y4 < n → tG tT (fX10_soonest_b25 (nI t_exchange_lineCount) t_exchange_first t_exchange_second t_exchange_oneWay (nI t_exchange_breaks_count) t_exchange_breaks_whose t_exchange_breaks_from t_exchange_breaks_until (nI t_exchange_absences_count) t_exchange_absences_whose t_exchange_absences_from t_exchange_absences_until t_now_cutLines t_now_rounds x1 n y3 (nI y4)) := by
  intro n
  induction n with
  | zero =>
    intro y3 y4 hi0 hm
    omega
  | succ n ih =>
    intro y3 y4 hi0 hm
    rw [fX10_soonest_b25_s]
    refine tgI (fun h1 => ?_) (fun h1 => ?_)
    · have h1 := nlt (a := 60) (b := y4) h1 (by omega) (by omega)
      exact tgS trivial
    · have h1 := nltn (a := 60) (b := y4) h1 (by omega) (by omega)
      refine tgI (fun h2 => ?_) (fun h2 => ?_)
      · refine tgC (t_fX10_usableLines (t_exchange_lineCount := t_exchange_lineCount) (t_exchange_breaks_count := t_exchange_breaks_count) (t_exchange_absences_count := t_exchange_absences_count) (by omega) (by omega) (by omega) hFS_t_exchange) (fun u15 hu15 => ?_)
        refine tgC (t_fX1_spread (t_lineCount := t_exchange_lineCount) (by omega) hFS_t_exchange) (fun u18 hu18 => ?_)
        rw [show ((nI y4) + 1 : Int32) = nI (y4 + 1) from (nadd rfl (show (1 : Int32) = nI 1 from rfl))]
        exact ih _ (y4 + 1) (by first | omega | assumption | exact Or.inl rfl | exact Or.inr rfl) (by omega)
      · exact tgS trivial
theorem tl_fX10_vital_b9 {t_exchange_people : Nat} {t_exchange_lineCount : Nat} {t_exchange_first : Nat → Int32} {t_exchange_second : Nat → Int32} {t_exchange_oneWay : Nat → Int32} {t_now_news_people : Nat} {t_now_news_pieces : Nat → Int32} (hb_t_exchange_people : t_exchange_people ≤ 10) (hb_t_exchange_lineCount : t_exchange_lineCount ≤ 24) (hb_t_now_news_people : t_now_news_people ≤ 10) (hFS_t_exchange : hFS t_exchange_lineCount t_exchange_first t_exchange_second) : ∀ (n : Nat) (y1 : Int32) (y2 : Int32) (y3 : Nat), y3 ≤ t_exchange_people → t_exchange_people - y3 < n → tG tT (fX10_vital_b9 (nI t_exchange_people) (nI t_exchange_lineCount) t_exchange_first t_exchange_second t_exchange_oneWay (nI t_now_news_people) t_now_news_pieces n y1 y2 (nI y3)) := by
  intro n
  induction n with
  | zero =>
    intro y1 y2 y3 hi0 hm
    omega
  | succ n ih =>
    intro y1 y2 y3 hi0 hm
    rw [fX10_vital_b9_s]
    refine tgI (fun h1 => ?_) (fun h1 => ?_)
    · have h1 := nll (a := t_exchange_people) (b := y3) h1 (by omega) (by omega)
      exact tgS trivial
    · have h1 := nln (a := t_exchange_people) (b := y3) h1 (by omega) (by omega)
      refine tgC (t_fX3_knowersOf (t_people := t_now_news_people) (by omega)) (fun u6 hu6 => ?_)
      refine tgC (t_fX1_neededLines (t_people := t_exchange_people) (t_lineCount := t_exchange_lineCount) (by omega) (by omega) hFS_t_exchange) (fun u9 hu9 => ?_)
      rw [show ((nI y3) + 1 : Int32) = nI (y3 + 1) from (nadd rfl (show (1 : Int32) = nI 1 from rfl))]
      exact ih _ _ (y3 + 1) (by first | omega | assumption | exact Or.inl rfl | exact Or.inr rfl) (by omega)
theorem t_fX10_vital {t_exchange_people : Nat} {t_exchange_lineCount : Nat} {t_exchange_first : Nat → Int32} {t_exchange_second : Nat → Int32} {t_exchange_oneWay : Nat → Int32} {t_now_cutLines : Int32} {t_now_news_people : Nat} {t_now_news_pieces : Nat → Int32} (hb_t_exchange_people : t_exchange_people ≤ 10) (hb_t_exchange_lineCount : t_exchange_lineCount ≤ 24) (hb_t_now_news_people : t_now_news_people ≤ 10) (hFS_t_exchange : hFS t_exchange_lineCount t_exchange_first t_exchange_second) : tG tT (fX10_vital (nI t_exchange_people) (nI t_exchange_lineCount) t_exchange_first t_exchange_second t_exchange_oneWay t_now_cutLines (nI t_now_news_people) t_now_news_pieces) := by
  unfold fX10_vital
  refine tgN (fun w4 ew4 => ?_)
  exact (tl_fX10_vital_b9 (t_exchange_people := t_exchange_people) (t_exchange_lineCount := t_exchange_lineCount) (t_now_news_people := t_now_news_people) (by omega) (by omega) (by omega) hFS_t_exchange FU _ _ 0 (by first | omega | assumption | exact Or.inl rfl | exact Or.inr rfl) (by have := FUge; omega))
theorem t_fX10_canArrange {t_exchange_lineCount : Nat} {t_exchange_first : Nat → Int32} {t_exchange_second : Nat → Int32} {t_exchange_breaks_count : Nat} {t_exchange_breaks_whose : Nat → Int32} {t_exchange_breaks_from : Nat → Int32} {t_exchange_breaks_until : Nat → Int32} {t_exchange_absences_count : Nat} {t_exchange_absences_whose : Nat → Int32} {t_exchange_absences_from : Nat → Int32} {t_exchange_absences_until : Nat → Int32} {t_now_arrangedLines : Int32} {t_now_cutLines : Int32} {t_now_rounds : Int32} {x1 : Int32} (hb_t_exchange_lineCount : t_exchange_lineCount ≤ 24) (hb_t_exchange_breaks_count : t_exchange_breaks_count ≤ 12) (hb_t_exchange_absences_count : t_exchange_absences_count ≤ 12) (hFS_t_exchange : hFS t_exchange_lineCount t_exchange_first t_exchange_second) : tG tT (fX10_canArrange (nI t_exchange_lineCount) t_exchange_first t_exchange_second (nI t_exchange_breaks_count) t_exchange_breaks_whose t_exchange_breaks_from t_exchange_breaks_until (nI t_exchange_absences_count) t_exchange_absences_whose t_exchange_absences_from t_exchange_absences_until t_now_arrangedLines t_now_cutLines t_now_rounds x1) := by
  unfold fX10_canArrange
  refine tgC (t_fX1_personsOf (t_lineCount := t_exchange_lineCount) (by omega) hFS_t_exchange) (fun u1 hu1 => ?_)
  refine tgC (t_fX10_usableLines (t_exchange_lineCount := t_exchange_lineCount) (t_exchange_breaks_count := t_exchange_breaks_count) (t_exchange_absences_count := t_exchange_absences_count) (by omega) (by omega) (by omega) hFS_t_exchange) (fun u4 hu4 => ?_)
  refine tgI (fun h1 => ?_) (fun h1 => ?_)
  · exact tgS trivial
  · refine tgC (t_fX1_personsOf (t_lineCount := t_exchange_lineCount) (by omega) hFS_t_exchange) (fun u11 hu11 => ?_)
    refine tgI (fun h2 => ?_) (fun h2 => ?_)
    · exact tgS trivial
    · exact tgS trivial
