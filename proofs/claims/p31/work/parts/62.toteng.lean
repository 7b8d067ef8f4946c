/-! that the pure functions give an answer: by program -/
theorem tl_fX11_includes_b3 {N_p0 : Nat} {p0 : Nat → Int32} {x1 : Nat} {x2 : Int32} {x3 : Int32} (hb_x1 : x1 ≤ 12) (hN : N_p0 = 72) : ∀ (n : Nat) (y4 : Nat), y4 ≤ x1 → x1 - y4 < n → tG tT (fX11_includes_b3 N_p0 p0 (nI x1) x2 x3 n (nI y4)) := by
  intro n
  induction n with
  | zero =>
    intro y4 hi0 hm
    omega
  | succ n ih =>
    intro y4 hi0 hm
    rw [fX11_includes_b3_s]
    refine tgI (fun h1 => ?_) (fun h1 => ?_)
    · have h1 := nll (a := x1) (b := y4) h1 (by omega) (by omega)
      exact tgS trivial
    · have h1 := nln (a := x1) (b := y4) h1 (by omega) (by omega)
      refine tgD (vne (nmul (show (3 : Int32) = nI 3 from rfl) rfl) (by omega) (by omega)) ?_
      refine tgI (fun h2 => ?_) (fun h2 => ?_)
      · refine tgD (vne (nadd (nmul (show (3 : Int32) = nI 3 from rfl) rfl) (show (1 : Int32) = nI 1 from rfl)) (by omega) (by omega)) ?_
        refine tgD (vne (nadd (nmul (show (3 : Int32) = nI 3 from rfl) rfl) (show (2 : Int32) = nI 2 from rfl)) (by omega) (by omega)) ?_
        refine tgI (fun h3 => ?_) (fun h3 => ?_)
        · rw [show ((nI y4) + 1 : Int32) = nI (y4 + 1) from (nadd rfl (show (1 : Int32) = nI 1 from rfl))]
          exact ih (y4 + 1) (by first | omega | assumption | exact Or.inl rfl | exact Or.inr rfl) (by omega)
        · exact tgS trivial
      · rw [show ((nI y4) + 1 : Int32) = nI (y4 + 1) from (nadd rfl (show (1 : Int32) = nI 1 from rfl))]
        exact ih (y4 + 1) (by first | omega | assumption | exact Or.inl rfl | exact Or.inr rfl) (by omega)
theorem t_fX11_includes {N_p0 : Nat} {p0 : Nat → Int32} {x1 : Nat} {x2 : Int32} {x3 : Int32} (hb_x1 : x1 ≤ 12) (hN : N_p0 = 72) : tG tT (fX11_includes N_p0 p0 (nI x1) x2 x3) := by
  unfold fX11_includes
  exact (tl_fX11_includes_b3 (x1 := x1) (by omega) (by omega) FU 0 (by first | omega | assumption | exact Or.inl rfl | exact Or.inr rfl) (by have := FUge; omega))
theorem t_fX11_canCall {np nl nb na : Nat} {t_now : Nat → Int32} {t_told : Nat → Int32} {t_one : Nat → Int32} {t_other : Nat → Int32} {t_broken : Nat → Int32} {t_away : Nat → Int32} {x1 : Nat} {x2 : Int32} (hb_x1 : x1 ≤ 23) (hnp : np ≤ 10) (hnl : nl ≤ 24) (hnb : nb ≤ 12) (hna : na ≤ 12) (hx : x1 < nl) (hT : hTold t_told np nl nb na) (hL : hLN nl np t_one t_other) : tG tT (fX11_canCall t_now t_told t_one t_other t_broken t_away (nI x1) x2) := by
  unfold fX11_canCall
  try simp only [hT.1, hT.2.1, hT.2.2.1, hT.2.2.2]
  refine tgI (fun h1 => ?_) (fun h1 => ?_)
  · refine tgC (t_fX11_includes (x1 := nb) (by omega) (by omega)) (fun u5 hu5 => ?_)
    refine tgI (fun h2 => ?_) (fun h2 => ?_)
    · refine tgD (vkn (by omega) (by omega)) ?_
      refine tgC (t_fX11_includes (x1 := na) (by omega) (by omega)) (fun u10 hu10 => ?_)
      refine tgI (fun h3 => ?_) (fun h3 => ?_)
      · refine tgC (t_fX11_includes (x1 := na) (by omega) (by omega)) (fun u14 hu14 => ?_)
        refine tgI (fun h4 => ?_) (fun h4 => ?_)
        · exact tgS trivial
        · exact tgS trivial
      · exact tgS trivial
    · exact tgS trivial
  · exact tgS trivial
theorem t_fX11_all {np nl nb na : Nat} {t_told : Nat → Int32} (hnp : np ≤ 10) (hnl : nl ≤ 24) (hnb : nb ≤ 12) (hna : na ≤ 12) (hT : hTold t_told np nl nb na) : tG tT (fX11_all t_told) := by
  unfold fX11_all
  try simp only [hT.1, hT.2.1, hT.2.2.1, hT.2.2.2]
  exact tgS trivial
theorem tl_fX11_knowersIn_b6 {N_p0 : Nat} {p0 : Nat → Int32} {x1 : Nat} {x2 : Nat} {x3 : Int32} (hb_x1 : x1 ≤ 24) (hb_x2 : x2 ≤ 10) (hN : x1 + x2 ≤ N_p0) (hN2 : N_p0 ≤ 6000) : ∀ (n : Nat) (y4 : Int32) (y5 : Nat), y5 ≤ x2 → x2 - y5 < n → tG tT (fX11_knowersIn_b6 N_p0 p0 (nI x1) (nI x2) x3 n y4 (nI y5)) := by
  intro n
  induction n with
  | zero =>
    intro y4 y5 hi0 hm
    omega
  | succ n ih =>
    intro y4 y5 hi0 hm
    rw [fX11_knowersIn_b6_s]
    refine tgI (fun h1 => ?_) (fun h1 => ?_)
    · have h1 := nll (a := x2) (b := y5) h1 (by omega) (by omega)
      exact tgS trivial
    · have h1 := nln (a := x2) (b := y5) h1 (by omega) (by omega)
      refine tgD (vne (nadd rfl rfl) (by omega) (by omega)) ?_
      refine tgI (fun h2 => ?_) (fun h2 => ?_)
      · unfold fX11_knowersIn_b35
        rw [show ((nI y5) + 1 : Int32) = nI (y5 + 1) from (nadd rfl (show (1 : Int32) = nI 1 from rfl))]
        exact ih _ (y5 + 1) (by first | omega | assumption | exact Or.inl rfl | exact Or.inr rfl) (by omega)
      · unfold fX11_knowersIn_b35
        rw [show ((nI y5) + 1 : Int32) = nI (y5 + 1) from (nadd rfl (show (1 : Int32) = nI 1 from rfl))]
        exact ih _ (y5 + 1) (by first | omega | assumption | exact Or.inl rfl | exact Or.inr rfl) (by omega)
theorem t_fX11_knowersIn {N_p0 : Nat} {p0 : Nat → Int32} {x1 : Nat} {x2 : Nat} {x3 : Int32} (hb_x1 : x1 ≤ 24) (hb_x2 : x2 ≤ 10) (hN : x1 + x2 ≤ N_p0) (hN2 : N_p0 ≤ 6000) : tG tT (fX11_knowersIn N_p0 p0 (nI x1) (nI x2) x3) := by
  unfold fX11_knowersIn
  exact (tl_fX11_knowersIn_b6 (x1 := x1) (x2 := x2) (by omega) (by omega) (by omega) (by omega) FU _ 0 (by first | omega | assumption | exact Or.inl rfl | exact Or.inr rfl) (by have := FUge; omega))
theorem t_fX11_many {x0 : Int32} : tG tT (fX11_many x0) := by
  exact t_many0 x0
theorem t_fX11_noLine {np nl nb na : Nat} {t_told : Nat → Int32} {x1 : Int32} (hnp : np ≤ 10) (hnl : nl ≤ 24) (hnb : nb ≤ 12) (hna : na ≤ 12) (hT : hTold t_told np nl nb na) : tG (fun r => r.1 = 0 → ∃ k, k < nl ∧ x1 = nI k) (fX11_noLine t_told x1) := by
  exact ⟨_, rfl, fun h => tno hT.2.1 (by omega) h⟩
theorem t_fX11_noPerson {np nl nb na : Nat} {t_told : Nat → Int32} {x1 : Int32} (hnp : np ≤ 10) (hnl : nl ≤ 24) (hnb : nb ≤ 12) (hna : na ≤ 12) (hT : hTold t_told np nl nb na) : tG (fun r => r.1 = 0 → ∃ k, k < np ∧ x1 = nI k) (fX11_noPerson t_told x1) := by
  exact ⟨_, rfl, fun h => tno hT.1 (by omega) h⟩
theorem t_fX11_size {np nl nb na : Nat} {t_now : Nat → Int32} {t_told : Nat → Int32} {x1 : Int32} (hnp : np ≤ 10) (hnl : nl ≤ 24) (hnb : nb ≤ 12) (hna : na ≤ 12) (hT : hTold t_told np nl nb na) : tG tT (fX11_size t_now t_told x1) := by
  unfold fX11_size
  try simp only [hT.1, hT.2.1, hT.2.2.1, hT.2.2.2]
  refine tgI (fun h1 => ?_) (fun h1 => ?_)
  · unfold fX11_size_b20
    try simp only [hT.1, hT.2.1, hT.2.2.1, hT.2.2.2]
    refine tgN (fun u5 eu5 => ?_)
    obtain rfl : u5 = (1, 1) := eu5
    refine tgI (fun h2 => absurd h2 (by decide)) (fun _ => ?_)
    exact tgS trivial
  · obtain ⟨x1n, hx1n, rfl⟩ := pwn (b := 5) (by decide) h1
    unfold fX11_size_b20
    try simp only [hT.1, hT.2.1, hT.2.2.1, hT.2.2.2]
    refine tgN (fun u5 eu5 => ?_)
    obtain rfl : u5 = (0, 0) := eu5
    refine tgI (fun _ => ?_) (fun h3 => absurd rfl h3)
    refine tgI (fun h4 => ?_) (fun h4 => ?_)
    · exact tgS trivial
    · refine tgI (fun h5 => ?_) (fun h5 => ?_)
      · exact tgS trivial
      · refine tgI (fun h6 => ?_) (fun h6 => ?_)
        · exact tgS trivial
        · refine tgI (fun h7 => ?_) (fun h7 => ?_)
          · exact tgS trivial
          · refine tgI (fun h8 => ?_) (fun h8 => ?_)
            · refine tgC (t_fX11_many ) (fun u14 hu14 => ?_)
              exact tgS trivial
            · refine tgC (t_fX11_many ) (fun u17 hu17 => ?_)
              exact tgS trivial
theorem tl_fX11_brokenOf_b4 {np nl nb na : Nat} {t_told : Nat → Int32} {t_broken : Nat → Int32} {x1 : Int32} (hnp : np ≤ 10) (hnl : nl ≤ 24) (hnb : nb ≤ 12) (hna : na ≤ 12) (hT : hTold t_told np nl nb na) : ∀ (n : Nat) (y2 : Int32) (y3 : Nat), y3 ≤ nb → nb - y3 < n → tG tT (fX11_brokenOf_b4 t_told t_broken x1 n y2 (nI y3)) := by
  intro n
  induction n with
  | zero =>
    intro y2 y3 hi0 hm
    omega
  | succ n ih =>
    intro y2 y3 hi0 hm
    rw [fX11_brokenOf_b4_s]
    try simp only [hT.1, hT.2.1, hT.2.2.1, hT.2.2.2]
    refine tgI (fun h1 => ?_) (fun h1 => ?_)
    · have h1 := nll (a := nb) (b := y3) h1 (by omega) (by omega)
      exact tgS trivial
    · have h1 := nln (a := nb) (b := y3) h1 (by omega) (by omega)
      refine tgD (vne (nmul (show (3 : Int32) = nI 3 from rfl) rfl) (by omega) (by omega)) ?_
      refine tgI (fun h2 => ?_) (fun h2 => ?_)
      · unfold fX11_brokenOf_b32
        try simp only [hT.1, hT.2.1, hT.2.2.1, hT.2.2.2]
        rw [show ((nI y3) + 1 : Int32) = nI (y3 + 1) from (nadd rfl (show (1 : Int32) = nI 1 from rfl))]
        exact ih _ (y3 + 1) (by first | omega | assumption | exact Or.inl rfl | exact Or.inr rfl) (by omega)
      · unfold fX11_brokenOf_b32
        try simp only [hT.1, hT.2.1, hT.2.2.1, hT.2.2.2]
        rw [show ((nI y3) + 1 : Int32) = nI (y3 + 1) from (nadd rfl (show (1 : Int32) = nI 1 from rfl))]
        exact ih _ (y3 + 1) (by first | omega | assumption | exact Or.inl rfl | exact Or.inr rfl) (by omega)
theorem t_fX11_brokenOf {np nl nb na : Nat} {t_told : Nat → Int32} {t_broken : Nat → Int32} {x1 : Int32} (hnp : np ≤ 10) (hnl : nl ≤ 24) (hnb : nb ≤ 12) (hna : na ≤ 12) (hT : hTold t_told np nl nb na) : tG tT (fX11_brokenOf t_told t_broken x1) := by
  unfold fX11_brokenOf
  try simp only [hT.1, hT.2.1, hT.2.2.1, hT.2.2.2]
  exact (tl_fX11_brokenOf_b4 (by omega) (by omega) (by omega) (by omega) hT FU _ 0 (by first | omega | assumption | exact Or.inl rfl | exact Or.inr rfl) (by have := FUge; omega))
theorem t_fX11_line {np nl nb na : Nat} {t_now : Nat → Int32} {t_told : Nat → Int32} {t_one : Nat → Int32} {t_other : Nat → Int32} {t_forth : Nat → Int32} {t_cost : Nat → Int32} {t_broken : Nat → Int32} {x1 : Int32} {x2 : Int32} (hnp : np ≤ 10) (hnl : nl ≤ 24) (hnb : nb ≤ 12) (hna : na ≤ 12) (hT : hTold t_told np nl nb na) (hL : hLN nl np t_one t_other) : tG tT (fX11_line t_now t_told t_one t_other t_forth t_cost t_broken x1 x2) := by
  unfold fX11_line
  try simp only [hT.1, hT.2.1, hT.2.2.1, hT.2.2.2]
  refine tgC (t_fX11_noLine (by omega) (by omega) (by omega) (by omega) hT) (fun u1 hu1 => ?_)
  refine tgI (fun h1 => ?_) (fun h1 => ?_)
  · obtain ⟨x1n, hx1n, rfl⟩ := hu1 h1
    refine tgI (fun h2 => ?_) (fun h2 => ?_)
    · unfold fX11_line_b24
      try simp only [hT.1, hT.2.1, hT.2.2.1, hT.2.2.2]
      refine tgN (fun u9 eu9 => ?_)
      refine tgI (fun h3 => ?_) (fun h3 => ?_)
      · refine tgI (fun h4 => ?_) (fun h4 => ?_)
        · refine tgD (vkn (by omega) (by omega)) ?_
          exact tgS trivial
        · refine tgI (fun h5 => ?_) (fun h5 => ?_)
          · refine tgD (vkn (by omega) (by omega)) ?_
            exact tgS trivial
          · refine tgI (fun h6 => ?_) (fun h6 => ?_)
            · refine tgD (vkn (by omega) (by omega)) ?_
              exact tgS trivial
            · refine tgI (fun h7 => ?_) (fun h7 => ?_)
              · refine tgD (vkn (by omega) (by omega)) ?_
                exact tgS trivial
              · refine tgI (fun h8 => ?_) (fun h8 => ?_)
                · exact tgS trivial
                · refine tgI (fun h9 => ?_) (fun h9 => ?_)
                  · exact tgS trivial
                  · refine tgC (t_fX11_brokenOf (by omega) (by omega) (by omega) (by omega) hT) (fun u23 hu23 => ?_)
                    exact tgS trivial
      · exact tgS trivial
    · obtain ⟨x2n, hx2n, rfl⟩ := pwn (b := 6) (by decide) h2
      unfold fX11_line_b24
      try simp only [hT.1, hT.2.1, hT.2.2.1, hT.2.2.2]
      refine tgN (fun u9 eu9 => ?_)
      refine tgI (fun h10 => ?_) (fun h10 => ?_)
      · refine tgI (fun h11 => ?_) (fun h11 => ?_)
        · refine tgD (vkn (by omega) (by omega)) ?_
          exact tgS trivial
        · refine tgI (fun h12 => ?_) (fun h12 => ?_)
          · refine tgD (vkn (by omega) (by omega)) ?_
            exact tgS trivial
          · refine tgI (fun h13 => ?_) (fun h13 => ?_)
            · refine tgD (vkn (by omega) (by omega)) ?_
              exact tgS trivial
            · refine tgI (fun h14 => ?_) (fun h14 => ?_)
              · refine tgD (vkn (by omega) (by omega)) ?_
                exact tgS trivial
              · refine tgI (fun h15 => ?_) (fun h15 => ?_)
                · exact tgS trivial
                · refine tgI (fun h16 => ?_) (fun h16 => ?_)
                  · exact tgS trivial
                  · refine tgC (t_fX11_brokenOf (by omega) (by omega) (by omega) (by omega) hT) (fun u23 hu23 => ?_)
                    exact tgS trivial
      · exact tgS trivial
  · exact tgS trivial
theorem t_fX11_isUsable {np nl nb na : Nat} {t_now : Nat → Int32} {t_told : Nat → Int32} {t_one : Nat → Int32} {t_other : Nat → Int32} {t_broken : Nat → Int32} {t_away : Nat → Int32} {x1 : Int32} {x2 : Int32} (hnp : np ≤ 10) (hnl : nl ≤ 24) (hnb : nb ≤ 12) (hna : na ≤ 12) (hT : hTold t_told np nl nb na) (hL : hLN nl np t_one t_other) : tG tT (fX11_isUsable t_now t_told t_one t_other t_broken t_away x1 x2) := by
  unfold fX11_isUsable
  try simp only [hT.1, hT.2.1, hT.2.2.1, hT.2.2.2]
  refine tgC (t_fX11_noLine (by omega) (by omega) (by omega) (by omega) hT) (fun u1 hu1 => ?_)
  refine tgI (fun h1 => ?_) (fun h1 => ?_)
  · obtain ⟨x1n, hx1n, rfl⟩ := hu1 h1
    refine tgI (fun h2 => ?_) (fun h2 => ?_)
    · unfold fX11_isUsable_b25
      try simp only [hT.1, hT.2.1, hT.2.2.1, hT.2.2.2]
      refine tgN (fun u9 eu9 => ?_)
      refine tgI (fun h3 => ?_) (fun h3 => ?_)
      · refine tgC (t_fX11_canCall (x1 := x1n) (by omega) (by omega) (by omega) (by omega) (by omega) (by omega) hT hL) (fun u13 hu13 => ?_)
        refine tgI (fun h4 => ?_) (fun h4 => ?_)
        · exact tgS trivial
        · exact tgS trivial
      · exact tgS trivial
    · unfold fX11_isUsable_b25
      try simp only [hT.1, hT.2.1, hT.2.2.1, hT.2.2.2]
      refine tgN (fun u9 eu9 => ?_)
      refine tgI (fun h5 => ?_) (fun h5 => ?_)
      · refine tgC (t_fX11_canCall (x1 := x1n) (by omega) (by omega) (by omega) (by omega) (by omega) (by omega) hT hL) (fun u13 hu13 => ?_)
        refine tgI (fun h6 => ?_) (fun h6 => ?_)
        · exact tgS trivial
        · exact tgS trivial
      · exact tgS trivial
  · exact tgS trivial
theorem tl_fX11_cheapestLine_b43 {Q : (Int32 × Int32) → Prop} {np nl nb na : Nat} {t_told : Nat → Int32} {t_cost : Nat → Int32} {x1 : Int32} {K27 : Int32 → Int32 → Int32 → Option (Int32 × Int32)} (hnp : np ≤ 10) (hnl : nl ≤ 24) (hnb : nb ≤ 12) (hna : na ≤ 12) (hT : hTold t_told np nl nb na) : ∀ (n : Nat) (y2 : Int32) (y3 : Nat) (y4 : Int32) (y5 : Nat) (t_thrown : Int32), y5 ≤ nl → y3 < nl → nl - y5 < n → (∀ (a0 : Int32) (a2 : Int32), tG Q (K27 a0 (nI (y3 + 1)) a2)) → tG Q (fX11_cheapestLine_b43 t_told t_cost x1 K27 n y2 (nI y3) y4 (nI y5) t_thrown) := by
  intro n
  induction n with
  | zero =>
    intro y2 y3 y4 y5 t_thrown hi0 hi1 hm hK
    omega
  | succ n ih =>
    intro y2 y3 y4 y5 t_thrown hi0 hi1 hm hK
    rw [fX11_cheapestLine_b43_s]
    try simp only [hT.1, hT.2.1, hT.2.2.1, hT.2.2.2]
    refine tgI (fun h1 => ?_) (fun h1 => ?_)
    · have h1 := nll (a := nl) (b := y5) h1 (by omega) (by omega)
      unfold fX11_cheapestLine_b108
      try simp only [hT.1, hT.2.1, hT.2.2.1, hT.2.2.2]
      refine tgI (fun h2 => ?_) (fun h2 => ?_)
      · rw [show ((nI y3) + 1 : Int32) = nI (y3 + 1) from (nadd rfl (show (1 : Int32) = nI 1 from rfl))]
        exact hK _ _
      · rw [show ((nI y3) + 1 : Int32) = nI (y3 + 1) from (nadd rfl (show (1 : Int32) = nI 1 from rfl))]
        exact hK _ _
    · have h1 := nln (a := nl) (b := y5) h1 (by omega) (by omega)
      refine tgD (vkn (by omega) (by omega)) ?_
      refine tgD (vkn (by omega) (by omega)) ?_
      refine tgI (fun h3 => ?_) (fun h3 => ?_)
      · unfold fX11_cheapestLine_b94
        try simp only [hT.1, hT.2.1, hT.2.2.1, hT.2.2.2]
        unfold fX11_cheapestLine_b99
        try simp only [hT.1, hT.2.1, hT.2.2.1, hT.2.2.2]
        rw [show ((nI y5) + 1 : Int32) = nI (y5 + 1) from (nadd rfl (show (1 : Int32) = nI 1 from rfl))]
        exact ih _ y3 _ (y5 + 1) _ (by first | omega | assumption | exact Or.inl rfl | exact Or.inr rfl) (by first | omega | assumption | exact Or.inl rfl | exact Or.inr rfl) (by omega) hK
      · refine tgI (fun h4 => ?_) (fun h4 => ?_)
        · refine tgI (fun h5 => ?_) (fun h5 => ?_)
          · have h5 := nll (a := y3) (b := y5) h5 (by omega) (by omega)
            unfold fX11_cheapestLine_b98
            try simp only [hT.1, hT.2.1, hT.2.2.1, hT.2.2.2]
            unfold fX11_cheapestLine_b99
            try simp only [hT.1, hT.2.1, hT.2.2.1, hT.2.2.2]
            rw [show ((nI y5) + 1 : Int32) = nI (y5 + 1) from (nadd rfl (show (1 : Int32) = nI 1 from rfl))]
            exact ih _ y3 _ (y5 + 1) _ (by first | omega | assumption | exact Or.inl rfl | exact Or.inr rfl) (by first | omega | assumption | exact Or.inl rfl | exact Or.inr rfl) (by omega) hK
          · have h5 := nln (a := y3) (b := y5) h5 (by omega) (by omega)
            unfold fX11_cheapestLine_b94
            try simp only [hT.1, hT.2.1, hT.2.2.1, hT.2.2.2]
            unfold fX11_cheapestLine_b99
            try simp only [hT.1, hT.2.1, hT.2.2.1, hT.2.2.2]
            rw [show ((nI y5) + 1 : Int32) = nI (y5 + 1) from (nadd rfl (show (1 : Int32) = nI 1 from rfl))]
            exact ih _ y3 _ (y5 + 1) _ (by first | omega | assumption | exact Or.inl rfl | exact Or.inr rfl) (by first | omega | assumption | exact Or.inl rfl | exact Or.inr rfl) (by omega) hK
        · unfold fX11_cheapestLine_b98
          try simp only [hT.1, hT.2.1, hT.2.2.1, hT.2.2.2]
          unfold fX11_cheapestLine_b99
          try simp only [hT.1, hT.2.1, hT.2.2.1, hT.2.2.2]
          rw [show ((nI y5) + 1 : Int32) = nI (y5 + 1) from (nadd rfl (show (1 : Int32) = nI 1 from rfl))]
          exact ih _ y3 _ (y5 + 1) _ (by first | omega | assumption | exact Or.inl rfl | exact Or.inr rfl) (by first | omega | assumption | exact Or.inl rfl | exact Or.inr rfl) (by omega) hK
theorem tl_fX11_cheapestLine_b27 {np nl nb na : Nat} {t_told : Nat → Int32} {t_cost : Nat → Int32} {x1 : Int32} (hnp : np ≤ 10) (hnl : nl ≤ 24) (hnb : nb ≤ 12) (hna : na ≤ 12) (hT : hTold t_told np nl nb na) : ∀ (n : Nat) (y2 : Int32) (y3 : Nat) (t_thrown : Int32), y3 ≤ nl → nl - y3 < n → tG tT (fX11_cheapestLine_b27 t_told t_cost x1 n y2 (nI y3) t_thrown) := by
  intro n
  induction n with
  | zero =>
    intro y2 y3 t_thrown hi0 hm
    omega
  | succ n ih =>
    intro y2 y3 t_thrown hi0 hm
    rw [fX11_cheapestLine_b27_s]
    try simp only [hT.1, hT.2.1, hT.2.2.1, hT.2.2.2]
    refine tgI (fun h1 => ?_) (fun h1 => ?_)
    · have h1 := nll (a := nl) (b := y3) h1 (by omega) (by omega)
      exact tgS trivial
    · have h1 := nln (a := nl) (b := y3) h1 (by omega) (by omega)
      exact (tl_fX11_cheapestLine_b43 (by omega) (by omega) (by omega) (by omega) hT FU _ y3 _ 0 _ (by first | omega | assumption | exact Or.inl rfl | exact Or.inr rfl) (by first | omega | assumption | exact Or.inl rfl | exact Or.inr rfl) (by have := FUge; omega) (fun b0 b2 => ih b0 (y3 + 1) b2 (by first | omega | assumption | exact Or.inl rfl | exact Or.inr rfl) (by omega)))
theorem t_fX11_cheapestLine {np nl nb na : Nat} {t_told : Nat → Int32} {t_cost : Nat → Int32} {x1 : Int32} (hnp : np ≤ 10) (hnl : nl ≤ 24) (hnb : nb ≤ 12) (hna : na ≤ 12) (hT : hTold t_told np nl nb na) : tG tT (fX11_cheapestLine t_told t_cost x1) := by
  unfold fX11_cheapestLine
  try simp only [hT.1, hT.2.1, hT.2.2.1, hT.2.2.2]
  refine tgI (fun h1 => ?_) (fun h1 => ?_)
  · exact tgS trivial
  · exact (tl_fX11_cheapestLine_b27 (by omega) (by omega) (by omega) (by omega) hT FU _ 0 _ (by first | omega | assumption | exact Or.inl rfl | exact Or.inr rfl) (by have := FUge; omega))
theorem t_fX11_known {np nl nb na : Nat} {t_now : Nat → Int32} {t_told : Nat → Int32} {x1 : Int32} (hnp : np ≤ 10) (hnl : nl ≤ 24) (hnb : nb ≤ 12) (hna : na ≤ 12) (hT : hTold t_told np nl nb na) : tG tT (fX11_known t_now t_told x1) := by
  unfold fX11_known
  try simp only [hT.1, hT.2.1, hT.2.2.1, hT.2.2.2]
  refine tgC (t_fX11_noPerson (by omega) (by omega) (by omega) (by omega) hT) (fun u1 hu1 => ?_)
  refine tgI (fun h1 => ?_) (fun h1 => ?_)
  · obtain ⟨x1n, hx1n, rfl⟩ := hu1 h1
    refine tgD (vne (nadd (show (4 : Int32) = nI 4 from rfl) rfl) (by omega) (by omega)) ?_
    exact tgS trivial
  · exact tgS trivial
theorem t_fX11_knowersOf {np nl nb na : Nat} {t_now : Nat → Int32} {t_told : Nat → Int32} {x1 : Int32} (hnp : np ≤ 10) (hnl : nl ≤ 24) (hnb : nb ≤ 12) (hna : na ≤ 12) (hT : hTold t_told np nl nb na) : tG tT (fX11_knowersOf t_now t_told x1) := by
  unfold fX11_knowersOf
  try simp only [hT.1, hT.2.1, hT.2.2.1, hT.2.2.2]
  refine tgC (t_fX11_knowersIn (x1 := 4) (x2 := np) (by omega) (by omega) (by omega) (by omega)) (fun u1 hu1 => ?_)
  exact tgS trivial
theorem t_fX11_knowers {np nl nb na : Nat} {t_now : Nat → Int32} {t_told : Nat → Int32} {x1 : Int32} (hnp : np ≤ 10) (hnl : nl ≤ 24) (hnb : nb ≤ 12) (hna : na ≤ 12) (hT : hTold t_told np nl nb na) : tG tT (fX11_knowers t_now t_told x1) := by
  unfold fX11_knowers
  try simp only [hT.1, hT.2.1, hT.2.2.1, hT.2.2.2]
  refine tgC (t_fX11_noPerson (by omega) (by omega) (by omega) (by omega) hT) (fun u1 hu1 => ?_)
  refine tgI (fun h1 => ?_) (fun h1 => ?_)
  · obtain ⟨x1n, hx1n, rfl⟩ := hu1 h1
    refine tgC (t_fX11_knowersOf (by omega) (by omega) (by omega) (by omega) hT) (fun u5 hu5 => ?_)
    exact tgS trivial
  · exact tgS trivial
theorem tl_fX11_missingIn_b5 {np nl nb na : Nat} {N_p1 : Nat} {t_told : Nat → Int32} {p1 : Nat → Int32} {x2 : Nat} (hb_x2 : x2 ≤ 4) (hnp : np ≤ 10) (hnl : nl ≤ 24) (hnb : nb ≤ 12) (hna : na ≤ 12) (hN : x2 + np ≤ N_p1) (hN2 : N_p1 ≤ 6000) (hT : hTold t_told np nl nb na) : ∀ (n : Nat) (y3 : Int32) (y4 : Nat), y4 ≤ np → np - y4 < n → tG tT (fX11_missingIn_b5 N_p1 t_told p1 (nI x2) n y3 (nI y4)) := by
  intro n
  induction n with
  | zero =>
    intro y3 y4 hi0 hm
    omega
  | succ n ih =>
    intro y3 y4 hi0 hm
    rw [fX11_missingIn_b5_s]
    try simp only [hT.1, hT.2.1, hT.2.2.1, hT.2.2.2]
    refine tgI (fun h1 => ?_) (fun h1 => ?_)
    · have h1 := nll (a := np) (b := y4) h1 (by omega) (by omega)
      exact tgS trivial
    · have h1 := nln (a := np) (b := y4) h1 (by omega) (by omega)
      refine tgD (vne (nadd rfl rfl) (by omega) (by omega)) ?_
      refine tgC (t_fX11_many ) (fun u3 hu3 => ?_)
      rw [show ((nI y4) + 1 : Int32) = nI (y4 + 1) from (nadd rfl (show (1 : Int32) = nI 1 from rfl))]
      exact ih _ (y4 + 1) (by first | omega | assumption | exact Or.inl rfl | exact Or.inr rfl) (by omega)
theorem t_fX11_missingIn {np nl nb na : Nat} {N_p1 : Nat} {t_told : Nat → Int32} {p1 : Nat → Int32} {x2 : Nat} (hb_x2 : x2 ≤ 4) (hnp : np ≤ 10) (hnl : nl ≤ 24) (hnb : nb ≤ 12) (hna : na ≤ 12) (hN : x2 + np ≤ N_p1) (hN2 : N_p1 ≤ 6000) (hT : hTold t_told np nl nb na) : tG tT (fX11_missingIn N_p1 t_told p1 (nI x2)) := by
  unfold fX11_missingIn
  try simp only [hT.1, hT.2.1, hT.2.2.1, hT.2.2.2]
  exact (tl_fX11_missingIn_b5 (x2 := x2) (by omega) (by omega) (by omega) (by omega) (by omega) (by omega) (by omega) hT FU _ 0 (by first | omega | assumption | exact Or.inl rfl | exact Or.inr rfl) (by have := FUge; omega))
theorem t_fX11_missing {np nl nb na : Nat} {t_now : Nat → Int32} {t_told : Nat → Int32} (hnp : np ≤ 10) (hnl : nl ≤ 24) (hnb : nb ≤ 12) (hna : na ≤ 12) (hT : hTold t_told np nl nb na) : tG tT (fX11_missing t_now t_told) := by
  unfold fX11_missing
  try simp only [hT.1, hT.2.1, hT.2.2.1, hT.2.2.2]
  refine tgC (t_fX11_missingIn (x2 := 4) (by omega) (by omega) (by omega) (by omega) (by omega) (by omega) (by omega) hT) (fun u1 hu1 => ?_)
  exact tgS trivial
theorem tl_fX11_partner_b12 {np nl nb na : Nat} {t_now : Nat → Int32} {t_told : Nat → Int32} {t_one : Nat → Int32} {t_other : Nat → Int32} {x1 : Int32} (hnp : np ≤ 10) (hnl : nl ≤ 24) (hnb : nb ≤ 12) (hna : na ≤ 12) (hT : hTold t_told np nl nb na) (hL : hLN nl np t_one t_other) : ∀ (n : Nat) (y2 : Nat) (t_thrown : Int32), y2 ≤ nl → nl - y2 < n → tG tT (fX11_partner_b12 t_now t_told t_one t_other x1 n (nI y2) t_thrown) := by
  intro n
  induction n with
  | zero =>
    intro y2 t_thrown hi0 hm
    omega
  | succ n ih =>
    intro y2 t_thrown hi0 hm
    rw [fX11_partner_b12_s]
    try simp only [hT.1, hT.2.1, hT.2.2.1, hT.2.2.2]
    refine tgI (fun h1 => ?_) (fun h1 => ?_)
    · have h1 := nll (a := nl) (b := y2) h1 (by omega) (by omega)
      exact tgS trivial
    · have h1 := nln (a := nl) (b := y2) h1 (by omega) (by omega)
      refine tgI (fun h2 => ?_) (fun h2 => ?_)
      · rw [show ((nI y2) + 1 : Int32) = nI (y2 + 1) from (nadd rfl (show (1 : Int32) = nI 1 from rfl))]
        exact ih (y2 + 1) _ (by first | omega | assumption | exact Or.inl rfl | exact Or.inr rfl) (by omega)
      · refine tgD (vkn (by omega) (by omega)) ?_
        refine tgI (fun h3 => ?_) (fun h3 => ?_)
        · unfold fX11_partner_b55
          try simp only [hT.1, hT.2.1, hT.2.2.1, hT.2.2.2]
          refine tgD (vkn (by omega) (by omega)) ?_
          exact tgS trivial
        · refine tgI (fun h4 => ?_) (fun h4 => ?_)
          · unfold fX11_partner_b55
            try simp only [hT.1, hT.2.1, hT.2.2.1, hT.2.2.2]
            refine tgD (vkn (by omega) (by omega)) ?_
            exact tgS trivial
          · rw [show ((nI y2) + 1 : Int32) = nI (y2 + 1) from (nadd rfl (show (1 : Int32) = nI 1 from rfl))]
            exact ih (y2 + 1) _ (by first | omega | assumption | exact Or.inl rfl | exact Or.inr rfl) (by omega)
theorem t_fX11_partner {np nl nb na : Nat} {t_now : Nat → Int32} {t_told : Nat → Int32} {t_one : Nat → Int32} {t_other : Nat → Int32} {x1 : Int32} (hnp : np ≤ 10) (hnl : nl ≤ 24) (hnb : nb ≤ 12) (hna : na ≤ 12) (hT : hTold t_told np nl nb na) (hL : hLN nl np t_one t_other) : tG tT (fX11_partner t_now t_told t_one t_other x1) := by
  unfold fX11_partner
  try simp only [hT.1, hT.2.1, hT.2.2.1, hT.2.2.2]
  refine tgC (t_fX11_noPerson (by omega) (by omega) (by omega) (by omega) hT) (fun u1 hu1 => ?_)
  refine tgI (fun h1 => ?_) (fun h1 => ?_)
  · obtain ⟨x1n, hx1n, rfl⟩ := hu1 h1
    exact (tl_fX11_partner_b12 (by omega) (by omega) (by omega) (by omega) hT hL FU 0 _ (by first | omega | assumption | exact Or.inl rfl | exact Or.inr rfl) (by have := FUge; omega))
  · exact tgS trivial
theorem t_fX11_arranged {t_now : Nat → Int32} : tG tT (fX11_arranged t_now) := by
  unfold fX11_arranged
  exact tgS trivial
theorem t_fX11_gainOf {L p : Nat} {N_p2 : Nat} {t_one : Nat → Int32} {t_other : Nat → Int32} {t_forth : Nat → Int32} {p2 : Nat → Int32} {x1 : Nat} {x3 : Nat} (hb_x1 : x1 ≤ 23) (hb_x3 : x3 ≤ 4) (hx : x1 < L) (hp : p ≤ 10) (hN : x3 + p ≤ N_p2) (hN2 : N_p2 ≤ 6000) (hL : hLN L p t_one t_other) : tG tT (fX11_gainOf N_p2 t_one t_other t_forth p2 (nI x1) (nI x3)) := by
  unfold fX11_gainOf
  refine tgD (vkn (by omega) (by omega)) ?_
  refine tgD (vsL1 (x := x3) (k := x1) hL (by omega) (by omega) (by omega)) ?_
  refine tgN (fun w3 ew3 => ?_)
  refine tgD (vsL2 (x := x3) (k := x1) hL (by omega) (by omega) (by omega)) ?_
  refine tgN (fun w5 ew5 => ?_)
  refine tgC (t_fX11_many ) (fun u6 hu6 => ?_)
  refine tgI (fun h1 => ?_) (fun h1 => ?_)
  · unfold fX11_gainOf_b58
    exact tgS trivial
  · refine tgC (t_fX11_many ) (fun u10 hu10 => ?_)
    unfold fX11_gainOf_b58
    exact tgS trivial
theorem tl_fX11_gainNow_b4 {np nl nb na : Nat} {t_now : Nat → Int32} {t_told : Nat → Int32} {t_one : Nat → Int32} {t_other : Nat → Int32} {t_forth : Nat → Int32} (hnp : np ≤ 10) (hnl : nl ≤ 24) (hnb : nb ≤ 12) (hna : na ≤ 12) (hT : hTold t_told np nl nb na) (hL : hLN nl np t_one t_other) : ∀ (n : Nat) (y1 : Int32) (y2 : Nat), y2 ≤ nl → nl - y2 < n → tG tT (fX11_gainNow_b4 t_now t_told t_one t_other t_forth n y1 (nI y2)) := by
  intro n
  induction n with
  | zero =>
    intro y1 y2 hi0 hm
    omega
  | succ n ih =>
    intro y1 y2 hi0 hm
    rw [fX11_gainNow_b4_s]
    try simp only [hT.1, hT.2.1, hT.2.2.1, hT.2.2.2]
    refine tgI (fun h1 => ?_) (fun h1 => ?_)
    · have h1 := nll (a := nl) (b := y2) h1 (by omega) (by omega)
      exact tgS trivial
    · have h1 := nln (a := nl) (b := y2) h1 (by omega) (by omega)
      refine tgI (fun h2 => ?_) (fun h2 => ?_)
      · unfold fX11_gainNow_b42
        try simp only [hT.1, hT.2.1, hT.2.2.1, hT.2.2.2]
        rw [show ((nI y2) + 1 : Int32) = nI (y2 + 1) from (nadd rfl (show (1 : Int32) = nI 1 from rfl))]
        exact ih _ (y2 + 1) (by first | omega | assumption | exact Or.inl rfl | exact Or.inr rfl) (by omega)
      · refine tgC (t_fX11_gainOf (x1 := y2) (x3 := 4) (L := nl) (p := np) (by omega) (by omega) (by omega) (by omega) (by omega) (by omega) hL) (fun u6 hu6 => ?_)
        unfold fX11_gainNow_b42
        try simp only [hT.1, hT.2.1, hT.2.2.1, hT.2.2.2]
        rw [show ((nI y2) + 1 : Int32) = nI (y2 + 1) from (nadd rfl (show (1 : Int32) = nI 1 from rfl))]
        exact ih _ (y2 + 1) (by first | omega | assumption | exact Or.inl rfl | exact Or.inr rfl) (by omega)
theorem t_fX11_gainNow {np nl nb na : Nat} {t_now : Nat → Int32} {t_told : Nat → Int32} {t_one : Nat → Int32} {t_other : Nat → Int32} {t_forth : Nat → Int32} (hnp : np ≤ 10) (hnl : nl ≤ 24) (hnb : nb ≤ 12) (hna : na ≤ 12) (hT : hTold t_told np nl nb na) (hL : hLN nl np t_one t_other) : tG tT (fX11_gainNow t_now t_told t_one t_other t_forth) := by
  unfold fX11_gainNow
  try simp only [hT.1, hT.2.1, hT.2.2.1, hT.2.2.2]
  exact (tl_fX11_gainNow_b4 (by omega) (by omega) (by omega) (by omega) hT hL FU _ 0 (by first | omega | assumption | exact Or.inl rfl | exact Or.inr rfl) (by have := FUge; omega))
theorem t_fX11_gain {np nl nb na : Nat} {t_now : Nat → Int32} {t_told : Nat → Int32} {t_one : Nat → Int32} {t_other : Nat → Int32} {t_forth : Nat → Int32} (hnp : np ≤ 10) (hnl : nl ≤ 24) (hnb : nb ≤ 12) (hna : na ≤ 12) (hT : hTold t_told np nl nb na) (hL : hLN nl np t_one t_other) : tG tT (fX11_gain t_now t_told t_one t_other t_forth) := by
  unfold fX11_gain
  try simp only [hT.1, hT.2.1, hT.2.2.1, hT.2.2.2]
  refine tgC (t_fX11_gainNow (by omega) (by omega) (by omega) (by omega) hT hL) (fun u1 hu1 => ?_)
  exact tgS trivial
theorem tl_fX11_costOf_b4 {np nl nb na : Nat} {t_told : Nat → Int32} {t_cost : Nat → Int32} {x1 : Int32} (hnp : np ≤ 10) (hnl : nl ≤ 24) (hnb : nb ≤ 12) (hna : na ≤ 12) (hT : hTold t_told np nl nb na) : ∀ (n : Nat) (y2 : Int32) (y3 : Nat), y3 ≤ nl → nl - y3 < n → tG tT (fX11_costOf_b4 t_told t_cost x1 n y2 (nI y3)) := by
  intro n
  induction n with
  | zero =>
    intro y2 y3 hi0 hm
    omega
  | succ n ih =>
    intro y2 y3 hi0 hm
    rw [fX11_costOf_b4_s]
    try simp only [hT.1, hT.2.1, hT.2.2.1, hT.2.2.2]
    refine tgI (fun h1 => ?_) (fun h1 => ?_)
    · have h1 := nll (a := nl) (b := y3) h1 (by omega) (by omega)
      exact tgS trivial
    · have h1 := nln (a := nl) (b := y3) h1 (by omega) (by omega)
      refine tgI (fun h2 => ?_) (fun h2 => ?_)
      · unfold fX11_costOf_b33
        try simp only [hT.1, hT.2.1, hT.2.2.1, hT.2.2.2]
        rw [show ((nI y3) + 1 : Int32) = nI (y3 + 1) from (nadd rfl (show (1 : Int32) = nI 1 from rfl))]
        exact ih _ (y3 + 1) (by first | omega | assumption | exact Or.inl rfl | exact Or.inr rfl) (by omega)
      · refine tgD (vkn (by omega) (by omega)) ?_
        unfold fX11_costOf_b33
        try simp only [hT.1, hT.2.1, hT.2.2.1, hT.2.2.2]
        rw [show ((nI y3) + 1 : Int32) = nI (y3 + 1) from (nadd rfl (show (1 : Int32) = nI 1 from rfl))]
        exact ih _ (y3 + 1) (by first | omega | assumption | exact Or.inl rfl | exact Or.inr rfl) (by omega)
theorem t_fX11_costOf {np nl nb na : Nat} {t_told : Nat → Int32} {t_cost : Nat → Int32} {x1 : Int32} (hnp : np ≤ 10) (hnl : nl ≤ 24) (hnb : nb ≤ 12) (hna : na ≤ 12) (hT : hTold t_told np nl nb na) : tG tT (fX11_costOf t_told t_cost x1) := by
  unfold fX11_costOf
  try simp only [hT.1, hT.2.1, hT.2.2.1, hT.2.2.2]
  exact (tl_fX11_costOf_b4 (by omega) (by omega) (by omega) (by omega) hT FU _ 0 (by first | omega | assumption | exact Or.inl rfl | exact Or.inr rfl) (by have := FUge; omega))
theorem tl_fX11_waysOf_b6 {np nl nb na : Nat} {t_now : Nat → Int32} {t_told : Nat → Int32} {t_one : Nat → Int32} {t_other : Nat → Int32} {t_forth : Nat → Int32} {t_broken : Nat → Int32} {t_away : Nat → Int32} {x1 : Int32} {x2 : Int32} {x3 : Int32} (hnp : np ≤ 10) (hnl : nl ≤ 24) (hnb : nb ≤ 12) (hna : na ≤ 12) (hT : hTold t_told np nl nb na) (hL : hLN nl np t_one t_other) : ∀ (n : Nat) (y4 : Int32) (y5 : Nat), y5 ≤ nl → nl - y5 < n → tG tT (fX11_waysOf_b6 t_now t_told t_one t_other t_forth t_broken t_away x1 x2 x3 n y4 (nI y5)) := by
  intro n
  induction n with
  | zero =>
    intro y4 y5 hi0 hm
    omega
  | succ n ih =>
    intro y4 y5 hi0 hm
    rw [fX11_waysOf_b6_s]
    try simp only [hT.1, hT.2.1, hT.2.2.1, hT.2.2.2]
    refine tgI (fun h1 => ?_) (fun h1 => ?_)
    · have h1 := nll (a := nl) (b := y5) h1 (by omega) (by omega)
      unfold fX11_waysOf_b140
      try simp only [hT.1, hT.2.1, hT.2.2.1, hT.2.2.2]
      refine tgI (fun h2 => ?_) (fun h2 => ?_)
      · exact tgS trivial
      · exact tgS trivial
    · have h1 := nln (a := nl) (b := y5) h1 (by omega) (by omega)
      refine tgD (vkn (by omega) (by omega)) ?_
      refine tgI (fun h3 => ?_) (fun h3 => ?_)
      · refine tgI (fun h4 => ?_) (fun h4 => ?_)
        · unfold fX11_waysOf_b44
          try simp only [hT.1, hT.2.1, hT.2.2.1, hT.2.2.2]
          refine tgD (vkn (by omega) (by omega)) ?_
          refine tgI (fun h5 => ?_) (fun h5 => ?_)
          · refine tgI (fun h6 => ?_) (fun h6 => ?_)
            · unfold fX11_waysOf_b73
              try simp only [hT.1, hT.2.1, hT.2.2.1, hT.2.2.2]
              refine tgI (fun h7 => ?_) (fun h7 => ?_)
              · refine tgI (fun h8 => ?_) (fun h8 => ?_)
                · rw [show ((nI y5) + 1 : Int32) = nI (y5 + 1) from (nadd rfl (show (1 : Int32) = nI 1 from rfl))]
                  exact ih _ (y5 + 1) (by first | omega | assumption | exact Or.inl rfl | exact Or.inr rfl) (by omega)
                · unfold fX11_waysOf_b85
                  try simp only [hT.1, hT.2.1, hT.2.2.1, hT.2.2.2]
                  refine tgC (t_fX11_canCall (x1 := y5) (by omega) (by omega) (by omega) (by omega) (by omega) (by omega) hT hL) (fun u11 hu11 => ?_)
                  refine tgI (fun h9 => ?_) (fun h9 => ?_)
                  · rw [show ((nI y5) + 1 : Int32) = nI (y5 + 1) from (nadd rfl (show (1 : Int32) = nI 1 from rfl))]
                    exact ih _ (y5 + 1) (by first | omega | assumption | exact Or.inl rfl | exact Or.inr rfl) (by omega)
                  · refine tgD (vkn (by omega) (by omega)) ?_
                    refine tgI (fun h10 => ?_) (fun h10 => ?_)
                    · unfold fX11_waysOf_b131
                      try simp only [hT.1, hT.2.1, hT.2.2.1, hT.2.2.2]
                      rw [show ((nI y5) + 1 : Int32) = nI (y5 + 1) from (nadd rfl (show (1 : Int32) = nI 1 from rfl))]
                      exact ih _ (y5 + 1) (by first | omega | assumption | exact Or.inl rfl | exact Or.inr rfl) (by omega)
                    · refine tgI (fun h11 => ?_) (fun h11 => ?_)
                      · unfold fX11_waysOf_b131
                        try simp only [hT.1, hT.2.1, hT.2.2.1, hT.2.2.2]
                        rw [show ((nI y5) + 1 : Int32) = nI (y5 + 1) from (nadd rfl (show (1 : Int32) = nI 1 from rfl))]
                        exact ih _ (y5 + 1) (by first | omega | assumption | exact Or.inl rfl | exact Or.inr rfl) (by omega)
                      · unfold fX11_waysOf_b131
                        try simp only [hT.1, hT.2.1, hT.2.2.1, hT.2.2.2]
                        rw [show ((nI y5) + 1 : Int32) = nI (y5 + 1) from (nadd rfl (show (1 : Int32) = nI 1 from rfl))]
                        exact ih _ (y5 + 1) (by first | omega | assumption | exact Or.inl rfl | exact Or.inr rfl) (by omega)
              · unfold fX11_waysOf_b85
                try simp only [hT.1, hT.2.1, hT.2.2.1, hT.2.2.2]
                refine tgC (t_fX11_canCall (x1 := y5) (by omega) (by omega) (by omega) (by omega) (by omega) (by omega) hT hL) (fun u11 hu11 => ?_)
                refine tgI (fun h12 => ?_) (fun h12 => ?_)
                · rw [show ((nI y5) + 1 : Int32) = nI (y5 + 1) from (nadd rfl (show (1 : Int32) = nI 1 from rfl))]
                  exact ih _ (y5 + 1) (by first | omega | assumption | exact Or.inl rfl | exact Or.inr rfl) (by omega)
                · refine tgD (vkn (by omega) (by omega)) ?_
                  refine tgI (fun h13 => ?_) (fun h13 => ?_)
                  · unfold fX11_waysOf_b131
                    try simp only [hT.1, hT.2.1, hT.2.2.1, hT.2.2.2]
                    rw [show ((nI y5) + 1 : Int32) = nI (y5 + 1) from (nadd rfl (show (1 : Int32) = nI 1 from rfl))]
                    exact ih _ (y5 + 1) (by first | omega | assumption | exact Or.inl rfl | exact Or.inr rfl) (by omega)
                  · refine tgI (fun h14 => ?_) (fun h14 => ?_)
                    · unfold fX11_waysOf_b131
                      try simp only [hT.1, hT.2.1, hT.2.2.1, hT.2.2.2]
                      rw [show ((nI y5) + 1 : Int32) = nI (y5 + 1) from (nadd rfl (show (1 : Int32) = nI 1 from rfl))]
                      exact ih _ (y5 + 1) (by first | omega | assumption | exact Or.inl rfl | exact Or.inr rfl) (by omega)
                    · unfold fX11_waysOf_b131
                      try simp only [hT.1, hT.2.1, hT.2.2.1, hT.2.2.2]
                      rw [show ((nI y5) + 1 : Int32) = nI (y5 + 1) from (nadd rfl (show (1 : Int32) = nI 1 from rfl))]
                      exact ih _ (y5 + 1) (by first | omega | assumption | exact Or.inl rfl | exact Or.inr rfl) (by omega)
            · unfold fX11_waysOf_b72
              try simp only [hT.1, hT.2.1, hT.2.2.1, hT.2.2.2]
              unfold fX11_waysOf_b73
              try simp only [hT.1, hT.2.1, hT.2.2.1, hT.2.2.2]
              refine tgI (fun h15 => ?_) (fun h15 => ?_)
              · refine tgI (fun h16 => ?_) (fun h16 => ?_)
                · rw [show ((nI y5) + 1 : Int32) = nI (y5 + 1) from (nadd rfl (show (1 : Int32) = nI 1 from rfl))]
                  exact ih _ (y5 + 1) (by first | omega | assumption | exact Or.inl rfl | exact Or.inr rfl) (by omega)
                · unfold fX11_waysOf_b85
                  try simp only [hT.1, hT.2.1, hT.2.2.1, hT.2.2.2]
                  refine tgC (t_fX11_canCall (x1 := y5) (by omega) (by omega) (by omega) (by omega) (by omega) (by omega) hT hL) (fun u11 hu11 => ?_)
                  refine tgI (fun h17 => ?_) (fun h17 => ?_)
                  · rw [show ((nI y5) + 1 : Int32) = nI (y5 + 1) from (nadd rfl (show (1 : Int32) = nI 1 from rfl))]
                    exact ih _ (y5 + 1) (by first | omega | assumption | exact Or.inl rfl | exact Or.inr rfl) (by omega)
                  · refine tgD (vkn (by omega) (by omega)) ?_
                    refine tgI (fun h18 => ?_) (fun h18 => ?_)
                    · unfold fX11_waysOf_b131
                      try simp only [hT.1, hT.2.1, hT.2.2.1, hT.2.2.2]
                      rw [show ((nI y5) + 1 : Int32) = nI (y5 + 1) from (nadd rfl (show (1 : Int32) = nI 1 from rfl))]
                      exact ih _ (y5 + 1) (by first | omega | assumption | exact Or.inl rfl | exact Or.inr rfl) (by omega)
                    · refine tgI (fun h19 => ?_) (fun h19 => ?_)
                      · unfold fX11_waysOf_b131
                        try simp only [hT.1, hT.2.1, hT.2.2.1, hT.2.2.2]
                        rw [show ((nI y5) + 1 : Int32) = nI (y5 + 1) from (nadd rfl (show (1 : Int32) = nI 1 from rfl))]
                        exact ih _ (y5 + 1) (by first | omega | assumption | exact Or.inl rfl | exact Or.inr rfl) (by omega)
                      · unfold fX11_waysOf_b131
                        try simp only [hT.1, hT.2.1, hT.2.2.1, hT.2.2.2]
                        rw [show ((nI y5) + 1 : Int32) = nI (y5 + 1) from (nadd rfl (show (1 : Int32) = nI 1 from rfl))]
                        exact ih _ (y5 + 1) (by first | omega | assumption | exact Or.inl rfl | exact Or.inr rfl) (by omega)
              · unfold fX11_waysOf_b85
                try simp only [hT.1, hT.2.1, hT.2.2.1, hT.2.2.2]
                refine tgC (t_fX11_canCall (x1 := y5) (by omega) (by omega) (by omega) (by omega) (by omega) (by omega) hT hL) (fun u11 hu11 => ?_)
                refine tgI (fun h20 => ?_) (fun h20 => ?_)
                · rw [show ((nI y5) + 1 : Int32) = nI (y5 + 1) from (nadd rfl (show (1 : Int32) = nI 1 from rfl))]
                  exact ih _ (y5 + 1) (by first | omega | assumption | exact Or.inl rfl | exact Or.inr rfl) (by omega)
                · refine tgD (vkn (by omega) (by omega)) ?_
                  refine tgI (fun h21 => ?_) (fun h21 => ?_)
                  · unfold fX11_waysOf_b131
                    try simp only [hT.1, hT.2.1, hT.2.2.1, hT.2.2.2]
                    rw [show ((nI y5) + 1 : Int32) = nI (y5 + 1) from (nadd rfl (show (1 : Int32) = nI 1 from rfl))]
                    exact ih _ (y5 + 1) (by first | omega | assumption | exact Or.inl rfl | exact Or.inr rfl) (by omega)
                  · refine tgI (fun h22 => ?_) (fun h22 => ?_)
                    · unfold fX11_waysOf_b131
                      try simp only [hT.1, hT.2.1, hT.2.2.1, hT.2.2.2]
                      rw [show ((nI y5) + 1 : Int32) = nI (y5 + 1) from (nadd rfl (show (1 : Int32) = nI 1 from rfl))]
                      exact ih _ (y5 + 1) (by first | omega | assumption | exact Or.inl rfl | exact Or.inr rfl) (by omega)
                    · unfold fX11_waysOf_b131
                      try simp only [hT.1, hT.2.1, hT.2.2.1, hT.2.2.2]
                      rw [show ((nI y5) + 1 : Int32) = nI (y5 + 1) from (nadd rfl (show (1 : Int32) = nI 1 from rfl))]
                      exact ih _ (y5 + 1) (by first | omega | assumption | exact Or.inl rfl | exact Or.inr rfl) (by omega)
          · unfold fX11_waysOf_b72
            try simp only [hT.1, hT.2.1, hT.2.2.1, hT.2.2.2]
            unfold fX11_waysOf_b73
            try simp only [hT.1, hT.2.1, hT.2.2.1, hT.2.2.2]
            refine tgI (fun h23 => ?_) (fun h23 => ?_)
            · refine tgI (fun h24 => ?_) (fun h24 => ?_)
              · rw [show ((nI y5) + 1 : Int32) = nI (y5 + 1) from (nadd rfl (show (1 : Int32) = nI 1 from rfl))]
                exact ih _ (y5 + 1) (by first | omega | assumption | exact Or.inl rfl | exact Or.inr rfl) (by omega)
              · unfold fX11_waysOf_b85
                try simp only [hT.1, hT.2.1, hT.2.2.1, hT.2.2.2]
                refine tgC (t_fX11_canCall (x1 := y5) (by omega) (by omega) (by omega) (by omega) (by omega) (by omega) hT hL) (fun u11 hu11 => ?_)
                refine tgI (fun h25 => ?_) (fun h25 => ?_)
                · rw [show ((nI y5) + 1 : Int32) = nI (y5 + 1) from (nadd rfl (show (1 : Int32) = nI 1 from rfl))]
                  exact ih _ (y5 + 1) (by first | omega | assumption | exact Or.inl rfl | exact Or.inr rfl) (by omega)
                · refine tgD (vkn (by omega) (by omega)) ?_
                  refine tgI (fun h26 => ?_) (fun h26 => ?_)
                  · unfold fX11_waysOf_b131
                    try simp only [hT.1, hT.2.1, hT.2.2.1, hT.2.2.2]
                    rw [show ((nI y5) + 1 : Int32) = nI (y5 + 1) from (nadd rfl (show (1 : Int32) = nI 1 from rfl))]
                    exact ih _ (y5 + 1) (by first | omega | assumption | exact Or.inl rfl | exact Or.inr rfl) (by omega)
                  · refine tgI (fun h27 => ?_) (fun h27 => ?_)
                    · unfold fX11_waysOf_b131
                      try simp only [hT.1, hT.2.1, hT.2.2.1, hT.2.2.2]
                      rw [show ((nI y5) + 1 : Int32) = nI (y5 + 1) from (nadd rfl (show (1 : Int32) = nI 1 from rfl))]
                      exact ih _ (y5 + 1) (by first | omega | assumption | exact Or.inl rfl | exact Or.inr rfl) (by omega)
                    · unfold fX11_waysOf_b131
                      try simp only [hT.1, hT.2.1, hT.2.2.1, hT.2.2.2]
                      rw [show ((nI y5) + 1 : Int32) = nI (y5 + 1) from (nadd rfl (show (1 : Int32) = nI 1 from rfl))]
                      exact ih _ (y5 + 1) (by first | omega | assumption | exact Or.inl rfl | exact Or.inr rfl) (by omega)
            · unfold fX11_waysOf_b85
              try simp only [hT.1, hT.2.1, hT.2.2.1, hT.2.2.2]
              refine tgC (t_fX11_canCall (x1 := y5) (by omega) (by omega) (by omega) (by omega) (by omega) (by omega) hT hL) (fun u11 hu11 => ?_)
              refine tgI (fun h28 => ?_) (fun h28 => ?_)
              · rw [show ((nI y5) + 1 : Int32) = nI (y5 + 1) from (nadd rfl (show (1 : Int32) = nI 1 from rfl))]
                exact ih _ (y5 + 1) (by first | omega | assumption | exact Or.inl rfl | exact Or.inr rfl) (by omega)
              · refine tgD (vkn (by omega) (by omega)) ?_
                refine tgI (fun h29 => ?_) (fun h29 => ?_)
                · unfold fX11_waysOf_b131
                  try simp only [hT.1, hT.2.1, hT.2.2.1, hT.2.2.2]
                  rw [show ((nI y5) + 1 : Int32) = nI (y5 + 1) from (nadd rfl (show (1 : Int32) = nI 1 from rfl))]
                  exact ih _ (y5 + 1) (by first | omega | assumption | exact Or.inl rfl | exact Or.inr rfl) (by omega)
                · refine tgI (fun h30 => ?_) (fun h30 => ?_)
                  · unfold fX11_waysOf_b131
                    try simp only [hT.1, hT.2.1, hT.2.2.1, hT.2.2.2]
                    rw [show ((nI y5) + 1 : Int32) = nI (y5 + 1) from (nadd rfl (show (1 : Int32) = nI 1 from rfl))]
                    exact ih _ (y5 + 1) (by first | omega | assumption | exact Or.inl rfl | exact Or.inr rfl) (by omega)
                  · unfold fX11_waysOf_b131
                    try simp only [hT.1, hT.2.1, hT.2.2.1, hT.2.2.2]
                    rw [show ((nI y5) + 1 : Int32) = nI (y5 + 1) from (nadd rfl (show (1 : Int32) = nI 1 from rfl))]
                    exact ih _ (y5 + 1) (by first | omega | assumption | exact Or.inl rfl | exact Or.inr rfl) (by omega)
        · unfold fX11_waysOf_b43
          try simp only [hT.1, hT.2.1, hT.2.2.1, hT.2.2.2]
          unfold fX11_waysOf_b44
          try simp only [hT.1, hT.2.1, hT.2.2.1, hT.2.2.2]
          refine tgD (vkn (by omega) (by omega)) ?_
          refine tgI (fun h31 => ?_) (fun h31 => ?_)
          · refine tgI (fun h32 => ?_) (fun h32 => ?_)
            · unfold fX11_waysOf_b73
              try simp only [hT.1, hT.2.1, hT.2.2.1, hT.2.2.2]
              refine tgI (fun h33 => ?_) (fun h33 => ?_)
              · refine tgI (fun h34 => ?_) (fun h34 => ?_)
                · rw [show ((nI y5) + 1 : Int32) = nI (y5 + 1) from (nadd rfl (show (1 : Int32) = nI 1 from rfl))]
                  exact ih _ (y5 + 1) (by first | omega | assumption | exact Or.inl rfl | exact Or.inr rfl) (by omega)
                · unfold fX11_waysOf_b85
                  try simp only [hT.1, hT.2.1, hT.2.2.1, hT.2.2.2]
                  refine tgC (t_fX11_canCall (x1 := y5) (by omega) (by omega) (by omega) (by omega) (by omega) (by omega) hT hL) (fun u11 hu11 => ?_)
                  refine tgI (fun h35 => ?_) (fun h35 => ?_)
                  · rw [show ((nI y5) + 1 : Int32) = nI (y5 + 1) from (nadd rfl (show (1 : Int32) = nI 1 from rfl))]
                    exact ih _ (y5 + 1) (by first | omega | assumption | exact Or.inl rfl | exact Or.inr rfl) (by omega)
                  · refine tgD (vkn (by omega) (by omega)) ?_
                    refine tgI (fun h36 => ?_) (fun h36 => ?_)
                    · unfold fX11_waysOf_b131
                      try simp only [hT.1, hT.2.1, hT.2.2.1, hT.2.2.2]
                      rw [show ((nI y5) + 1 : Int32) = nI (y5 + 1) from (nadd rfl (show (1 : Int32) = nI 1 from rfl))]
                      exact ih _ (y5 + 1) (by first | omega | assumption | exact Or.inl rfl | exact Or.inr rfl) (by omega)
                    · refine tgI (fun h37 => ?_) (fun h37 => ?_)
                      · unfold fX11_waysOf_b131
                        try simp only [hT.1, hT.2.1, hT.2.2.1, hT.2.2.2]
                        rw [show ((nI y5) + 1 : Int32) = nI (y5 + 1) from (nadd rfl (show (1 : Int32) = nI 1 from rfl))]
                        exact ih _ (y5 + 1) (by first | omega | assumption | exact Or.inl rfl | exact Or.inr rfl) (by omega)
                      · unfold fX11_waysOf_b131
                        try simp only [hT.1, hT.2.1, hT.2.2.1, hT.2.2.2]
                        rw [show ((nI y5) + 1 : Int32) = nI (y5 + 1) from (nadd rfl (show (1 : Int32) = nI 1 from rfl))]
                        exact ih _ (y5 + 1) (by first | omega | assumption | exact Or.inl rfl | exact Or.inr rfl) (by omega)
              · unfold fX11_waysOf_b85
                try simp only [hT.1, hT.2.1, hT.2.2.1, hT.2.2.2]
                refine tgC (t_fX11_canCall (x1 := y5) (by omega) (by omega) (by omega) (by omega) (by omega) (by omega) hT hL) (fun u11 hu11 => ?_)
                refine tgI (fun h38 => ?_) (fun h38 => ?_)
                · rw [show ((nI y5) + 1 : Int32) = nI (y5 + 1) from (nadd rfl (show (1 : Int32) = nI 1 from rfl))]
                  exact ih _ (y5 + 1) (by first | omega | assumption | exact Or.inl rfl | exact Or.inr rfl) (by omega)
                · refine tgD (vkn (by omega) (by omega)) ?_
                  refine tgI (fun h39 => ?_) (fun h39 => ?_)
                  · unfold fX11_waysOf_b131
                    try simp only [hT.1, hT.2.1, hT.2.2.1, hT.2.2.2]
                    rw [show ((nI y5) + 1 : Int32) = nI (y5 + 1) from (nadd rfl (show (1 : Int32) = nI 1 from rfl))]
                    exact ih _ (y5 + 1) (by first | omega | assumption | exact Or.inl rfl | exact Or.inr rfl) (by omega)
                  · refine tgI (fun h40 => ?_) (fun h40 => ?_)
                    · unfold fX11_waysOf_b131
                      try simp only [hT.1, hT.2.1, hT.2.2.1, hT.2.2.2]
                      rw [show ((nI y5) + 1 : Int32) = nI (y5 + 1) from (nadd rfl (show (1 : Int32) = nI 1 from rfl))]
                      exact ih _ (y5 + 1) (by first | omega | assumption | exact Or.inl rfl | exact Or.inr rfl) (by omega)
                    · unfold fX11_waysOf_b131
                      try simp only [hT.1, hT.2.1, hT.2.2.1, hT.2.2.2]
                      rw [show ((nI y5) + 1 : Int32) = nI (y5 + 1) from (nadd rfl (show (1 : Int32) = nI 1 from rfl))]
                      exact ih _ (y5 + 1) (by first | omega | assumption | exact Or.inl rfl | exact Or.inr rfl) (by omega)
            · unfold fX11_waysOf_b72
              try simp only [hT.1, hT.2.1, hT.2.2.1, hT.2.2.2]
              unfold fX11_waysOf_b73
              try simp only [hT.1, hT.2.1, hT.2.2.1, hT.2.2.2]
              refine tgI (fun h41 => ?_) (fun h41 => ?_)
              · refine tgI (fun h42 => ?_) (fun h42 => ?_)
                · rw [show ((nI y5) + 1 : Int32) = nI (y5 + 1) from (nadd rfl (show (1 : Int32) = nI 1 from rfl))]
                  exact ih _ (y5 + 1) (by first | omega | assumption | exact Or.inl rfl | exact Or.inr rfl) (by omega)
                · unfold fX11_waysOf_b85
                  try simp only [hT.1, hT.2.1, hT.2.2.1, hT.2.2.2]
                  refine tgC (t_fX11_canCall (x1 := y5) (by omega) (by omega) (by omega) (by omega) (by omega) (by omega) hT hL) (fun u11 hu11 => ?_)
                  refine tgI (fun h43 => ?_) (fun h43 => ?_)
                  · rw [show ((nI y5) + 1 : Int32) = nI (y5 + 1) from (nadd rfl (show (1 : Int32) = nI 1 from rfl))]
                    exact ih _ (y5 + 1) (by first | omega | assumption | exact Or.inl rfl | exact Or.inr rfl) (by omega)
                  · refine tgD (vkn (by omega) (by omega)) ?_
                    refine tgI (fun h44 => ?_) (fun h44 => ?_)
                    · unfold fX11_waysOf_b131
                      try simp only [hT.1, hT.2.1, hT.2.2.1, hT.2.2.2]
                      rw [show ((nI y5) + 1 : Int32) = nI (y5 + 1) from (nadd rfl (show (1 : Int32) = nI 1 from rfl))]
                      exact ih _ (y5 + 1) (by first | omega | assumption | exact Or.inl rfl | exact Or.inr rfl) (by omega)
                    · refine tgI (fun h45 => ?_) (fun h45 => ?_)
                      · unfold fX11_waysOf_b131
                        try simp only [hT.1, hT.2.1, hT.2.2.1, hT.2.2.2]
                        rw [show ((nI y5) + 1 : Int32) = nI (y5 + 1) from (nadd rfl (show (1 : Int32) = nI 1 from rfl))]
                        exact ih _ (y5 + 1) (by first | omega | assumption | exact Or.inl rfl | exact Or.inr rfl) (by omega)
                      · unfold fX11_waysOf_b131
                        try simp only [hT.1, hT.2.1, hT.2.2.1, hT.2.2.2]
                        rw [show ((nI y5) + 1 : Int32) = nI (y5 + 1) from (nadd rfl (show (1 : Int32) = nI 1 from rfl))]
                        exact ih _ (y5 + 1) (by first | omega | assumption | exact Or.inl rfl | exact Or.inr rfl) (by omega)
              · unfold fX11_waysOf_b85
                try simp only [hT.1, hT.2.1, hT.2.2.1, hT.2.2.2]
                refine tgC (t_fX11_canCall (x1 := y5) (by omega) (by omega) (by omega) (by omega) (by omega) (by omega) hT hL) (fun u11 hu11 => ?_)
                refine tgI (fun h46 => ?_) (fun h46 => ?_)
                · rw [show ((nI y5) + 1 : Int32) = nI (y5 + 1) from (nadd rfl (show (1 : Int32) = nI 1 from rfl))]
                  exact ih _ (y5 + 1) (by first | omega | assumption | exact Or.inl rfl | exact Or.inr rfl) (by omega)
                · refine tgD (vkn (by omega) (by omega)) ?_
                  refine tgI (fun h47 => ?_) (fun h47 => ?_)
                  · unfold fX11_waysOf_b131
                    try simp only [hT.1, hT.2.1, hT.2.2.1, hT.2.2.2]
                    rw [show ((nI y5) + 1 : Int32) = nI (y5 + 1) from (nadd rfl (show (1 : Int32) = nI 1 from rfl))]
                    exact ih _ (y5 + 1) (by first | omega | assumption | exact Or.inl rfl | exact Or.inr rfl) (by omega)
                  · refine tgI (fun h48 => ?_) (fun h48 => ?_)
                    · unfold fX11_waysOf_b131
                      try simp only [hT.1, hT.2.1, hT.2.2.1, hT.2.2.2]
                      rw [show ((nI y5) + 1 : Int32) = nI (y5 + 1) from (nadd rfl (show (1 : Int32) = nI 1 from rfl))]
                      exact ih _ (y5 + 1) (by first | omega | assumption | exact Or.inl rfl | exact Or.inr rfl) (by omega)
                    · unfold fX11_waysOf_b131
                      try simp only [hT.1, hT.2.1, hT.2.2.1, hT.2.2.2]
                      rw [show ((nI y5) + 1 : Int32) = nI (y5 + 1) from (nadd rfl (show (1 : Int32) = nI 1 from rfl))]
                      exact ih _ (y5 + 1) (by first | omega | assumption | exact Or.inl rfl | exact Or.inr rfl) (by omega)
          · unfold fX11_waysOf_b72
            try simp only [hT.1, hT.2.1, hT.2.2.1, hT.2.2.2]
            unfold fX11_waysOf_b73
            try simp only [hT.1, hT.2.1, hT.2.2.1, hT.2.2.2]
            refine tgI (fun h49 => ?_) (fun h49 => ?_)
            · refine tgI (fun h50 => ?_) (fun h50 => ?_)
              · rw [show ((nI y5) + 1 : Int32) = nI (y5 + 1) from (nadd rfl (show (1 : Int32) = nI 1 from rfl))]
                exact ih _ (y5 + 1) (by first | omega | assumption | exact Or.inl rfl | exact Or.inr rfl) (by omega)
              · unfold fX11_waysOf_b85
                try simp only [hT.1, hT.2.1, hT.2.2.1, hT.2.2.2]
                refine tgC (t_fX11_canCall (x1 := y5) (by omega) (by omega) (by omega) (by omega) (by omega) (by omega) hT hL) (fun u11 hu11 => ?_)
                refine tgI (fun h51 => ?_) (fun h51 => ?_)
                · rw [show ((nI y5) + 1 : Int32) = nI (y5 + 1) from (nadd rfl (show (1 : Int32) = nI 1 from rfl))]
                  exact ih _ (y5 + 1) (by first | omega | assumption | exact Or.inl rfl | exact Or.inr rfl) (by omega)
                · refine tgD (vkn (by omega) (by omega)) ?_
                  refine tgI (fun h52 => ?_) (fun h52 => ?_)
                  · unfold fX11_waysOf_b131
                    try simp only [hT.1, hT.2.1, hT.2.2.1, hT.2.2.2]
                    rw [show ((nI y5) + 1 : Int32) = nI (y5 + 1) from (nadd rfl (show (1 : Int32) = nI 1 from rfl))]
                    exact ih _ (y5 + 1) (by first | omega | assumption | exact Or.inl rfl | exact Or.inr rfl) (by omega)
                  · refine tgI (fun h53 => ?_) (fun h53 => ?_)
                    · unfold fX11_waysOf_b131
                      try simp only [hT.1, hT.2.1, hT.2.2.1, hT.2.2.2]
                      rw [show ((nI y5) + 1 : Int32) = nI (y5 + 1) from (nadd rfl (show (1 : Int32) = nI 1 from rfl))]
                      exact ih _ (y5 + 1) (by first | omega | assumption | exact Or.inl rfl | exact Or.inr rfl) (by omega)
                    · unfold fX11_waysOf_b131
                      try simp only [hT.1, hT.2.1, hT.2.2.1, hT.2.2.2]
                      rw [show ((nI y5) + 1 : Int32) = nI (y5 + 1) from (nadd rfl (show (1 : Int32) = nI 1 from rfl))]
                      exact ih _ (y5 + 1) (by first | omega | assumption | exact Or.inl rfl | exact Or.inr rfl) (by omega)
            · unfold fX11_waysOf_b85
              try simp only [hT.1, hT.2.1, hT.2.2.1, hT.2.2.2]
              refine tgC (t_fX11_canCall (x1 := y5) (by omega) (by omega) (by omega) (by omega) (by omega) (by omega) hT hL) (fun u11 hu11 => ?_)
              refine tgI (fun h54 => ?_) (fun h54 => ?_)
              · rw [show ((nI y5) + 1 : Int32) = nI (y5 + 1) from (nadd rfl (show (1 : Int32) = nI 1 from rfl))]
                exact ih _ (y5 + 1) (by first | omega | assumption | exact Or.inl rfl | exact Or.inr rfl) (by omega)
              · refine tgD (vkn (by omega) (by omega)) ?_
                refine tgI (fun h55 => ?_) (fun h55 => ?_)
                · unfold fX11_waysOf_b131
                  try simp only [hT.1, hT.2.1, hT.2.2.1, hT.2.2.2]
                  rw [show ((nI y5) + 1 : Int32) = nI (y5 + 1) from (nadd rfl (show (1 : Int32) = nI 1 from rfl))]
                  exact ih _ (y5 + 1) (by first | omega | assumption | exact Or.inl rfl | exact Or.inr rfl) (by omega)
                · refine tgI (fun h56 => ?_) (fun h56 => ?_)
                  · unfold fX11_waysOf_b131
                    try simp only [hT.1, hT.2.1, hT.2.2.1, hT.2.2.2]
                    rw [show ((nI y5) + 1 : Int32) = nI (y5 + 1) from (nadd rfl (show (1 : Int32) = nI 1 from rfl))]
                    exact ih _ (y5 + 1) (by first | omega | assumption | exact Or.inl rfl | exact Or.inr rfl) (by omega)
                  · unfold fX11_waysOf_b131
                    try simp only [hT.1, hT.2.1, hT.2.2.1, hT.2.2.2]
                    rw [show ((nI y5) + 1 : Int32) = nI (y5 + 1) from (nadd rfl (show (1 : Int32) = nI 1 from rfl))]
                    exact ih _ (y5 + 1) (by first | omega | assumption | exact Or.inl rfl | exact Or.inr rfl) (by omega)
      · unfold fX11_waysOf_b43
        try simp only [hT.1, hT.2.1, hT.2.2.1, hT.2.2.2]
        unfold fX11_waysOf_b44
        try simp only [hT.1, hT.2.1, hT.2.2.1, hT.2.2.2]
        refine tgD (vkn (by omega) (by omega)) ?_
        refine tgI (fun h57 => ?_) (fun h57 => ?_)
        · refine tgI (fun h58 => ?_) (fun h58 => ?_)
          · unfold fX11_waysOf_b73
            try simp only [hT.1, hT.2.1, hT.2.2.1, hT.2.2.2]
            refine tgI (fun h59 => ?_) (fun h59 => ?_)
            · refine tgI (fun h60 => ?_) (fun h60 => ?_)
              · rw [show ((nI y5) + 1 : Int32) = nI (y5 + 1) from (nadd rfl (show (1 : Int32) = nI 1 from rfl))]
                exact ih _ (y5 + 1) (by first | omega | assumption | exact Or.inl rfl | exact Or.inr rfl) (by omega)
              · unfold fX11_waysOf_b85
                try simp only [hT.1, hT.2.1, hT.2.2.1, hT.2.2.2]
                refine tgC (t_fX11_canCall (x1 := y5) (by omega) (by omega) (by omega) (by omega) (by omega) (by omega) hT hL) (fun u11 hu11 => ?_)
                refine tgI (fun h61 => ?_) (fun h61 => ?_)
                · rw [show ((nI y5) + 1 : Int32) = nI (y5 + 1) from (nadd rfl (show (1 : Int32) = nI 1 from rfl))]
                  exact ih _ (y5 + 1) (by first | omega | assumption | exact Or.inl rfl | exact Or.inr rfl) (by omega)
                · refine tgD (vkn (by omega) (by omega)) ?_
                  refine tgI (fun h62 => ?_) (fun h62 => ?_)
                  · unfold fX11_waysOf_b131
                    try simp only [hT.1, hT.2.1, hT.2.2.1, hT.2.2.2]
                    rw [show ((nI y5) + 1 : Int32) = nI (y5 + 1) from (nadd rfl (show (1 : Int32) = nI 1 from rfl))]
                    exact ih _ (y5 + 1) (by first | omega | assumption | exact Or.inl rfl | exact Or.inr rfl) (by omega)
                  · refine tgI (fun h63 => ?_) (fun h63 => ?_)
                    · unfold fX11_waysOf_b131
                      try simp only [hT.1, hT.2.1, hT.2.2.1, hT.2.2.2]
                      rw [show ((nI y5) + 1 : Int32) = nI (y5 + 1) from (nadd rfl (show (1 : Int32) = nI 1 from rfl))]
                      exact ih _ (y5 + 1) (by first | omega | assumption | exact Or.inl rfl | exact Or.inr rfl) (by omega)
                    · unfold fX11_waysOf_b131
                      try simp only [hT.1, hT.2.1, hT.2.2.1, hT.2.2.2]
                      rw [show ((nI y5) + 1 : Int32) = nI (y5 + 1) from (nadd rfl (show (1 : Int32) = nI 1 from rfl))]
                      exact ih _ (y5 + 1) (by first | omega | assumption | exact Or.inl rfl | exact Or.inr rfl) (by omega)
            · unfold fX11_waysOf_b85
              try simp only [hT.1, hT.2.1, hT.2.2.1, hT.2.2.2]
              refine tgC (t_fX11_canCall (x1 := y5) (by omega) (by omega) (by omega) (by omega) (by omega) (by omega) hT hL) (fun u11 hu11 => ?_)
              refine tgI (fun h64 => ?_) (fun h64 => ?_)
              · rw [show ((nI y5) + 1 : Int32) = nI (y5 + 1) from (nadd rfl (show (1 : Int32) = nI 1 from rfl))]
                exact ih _ (y5 + 1) (by first | omega | assumption | exact Or.inl rfl | exact Or.inr rfl) (by omega)
              · refine tgD (vkn (by omega) (by omega)) ?_
                refine tgI (fun h65 => ?_) (fun h65 => ?_)
                · unfold fX11_waysOf_b131
                  try simp only [hT.1, hT.2.1, hT.2.2.1, hT.2.2.2]
                  rw [show ((nI y5) + 1 : Int32) = nI (y5 + 1) from (nadd rfl (show (1 : Int32) = nI 1 from rfl))]
                  exact ih _ (y5 + 1) (by first | omega | assumption | exact Or.inl rfl | exact Or.inr rfl) (by omega)
                · refine tgI (fun h66 => ?_) (fun h66 => ?_)
                  · unfold fX11_waysOf_b131
                    try simp only [hT.1, hT.2.1, hT.2.2.1, hT.2.2.2]
                    rw [show ((nI y5) + 1 : Int32) = nI (y5 + 1) from (nadd rfl (show (1 : Int32) = nI 1 from rfl))]
                    exact ih _ (y5 + 1) (by first | omega | assumption | exact Or.inl rfl | exact Or.inr rfl) (by omega)
                  · unfold fX11_waysOf_b131
                    try simp only [hT.1, hT.2.1, hT.2.2.1, hT.2.2.2]
                    rw [show ((nI y5) + 1 : Int32) = nI (y5 + 1) from (nadd rfl (show (1 : Int32) = nI 1 from rfl))]
                    exact ih _ (y5 + 1) (by first | omega | assumption | exact Or.inl rfl | exact Or.inr rfl) (by omega)
          · unfold fX11_waysOf_b72
            try simp only [hT.1, hT.2.1, hT.2.2.1, hT.2.2.2]
            unfold fX11_waysOf_b73
            try simp only [hT.1, hT.2.1, hT.2.2.1, hT.2.2.2]
            refine tgI (fun h67 => ?_) (fun h67 => ?_)
            · refine tgI (fun h68 => ?_) (fun h68 => ?_)
              · rw [show ((nI y5) + 1 : Int32) = nI (y5 + 1) from (nadd rfl (show (1 : Int32) = nI 1 from rfl))]
                exact ih _ (y5 + 1) (by first | omega | assumption | exact Or.inl rfl | exact Or.inr rfl) (by omega)
              · unfold fX11_waysOf_b85
                try simp only [hT.1, hT.2.1, hT.2.2.1, hT.2.2.2]
                refine tgC (t_fX11_canCall (x1 := y5) (by omega) (by omega) (by omega) (by omega) (by omega) (by omega) hT hL) (fun u11 hu11 => ?_)
                refine tgI (fun h69 => ?_) (fun h69 => ?_)
                · rw [show ((nI y5) + 1 : Int32) = nI (y5 + 1) from (nadd rfl (show (1 : Int32) = nI 1 from rfl))]
                  exact ih _ (y5 + 1) (by first | omega | assumption | exact Or.inl rfl | exact Or.inr rfl) (by omega)
                · refine tgD (vkn (by omega) (by omega)) ?_
                  refine tgI (fun h70 => ?_) (fun h70 => ?_)
                  · unfold fX11_waysOf_b131
                    try simp only [hT.1, hT.2.1, hT.2.2.1, hT.2.2.2]
                    rw [show ((nI y5) + 1 : Int32) = nI (y5 + 1) from (nadd rfl (show (1 : Int32) = nI 1 from rfl))]
                    exact ih _ (y5 + 1) (by first | omega | assumption | exact Or.inl rfl | exact Or.inr rfl) (by omega)
                  · refine tgI (fun h71 => ?_) (fun h71 => ?_)
                    · unfold fX11_waysOf_b131
                      try simp only [hT.1, hT.2.1, hT.2.2.1, hT.2.2.2]
                      rw [show ((nI y5) + 1 : Int32) = nI (y5 + 1) from (nadd rfl (show (1 : Int32) = nI 1 from rfl))]
                      exact ih _ (y5 + 1) (by first | omega | assumption | exact Or.inl rfl | exact Or.inr rfl) (by omega)
                    · unfold fX11_waysOf_b131
                      try simp only [hT.1, hT.2.1, hT.2.2.1, hT.2.2.2]
                      rw [show ((nI y5) + 1 : Int32) = nI (y5 + 1) from (nadd rfl (show (1 : Int32) = nI 1 from rfl))]
                      exact ih _ (y5 + 1) (by first | omega | assumption | exact Or.inl rfl | exact Or.inr rfl) (by omega)
            · unfold fX11_waysOf_b85
              try simp only [hT.1, hT.2.1, hT.2.2.1, hT.2.2.2]
              refine tgC (t_fX11_canCall (x1 := y5) (by omega) (by omega) (by omega) (by omega) (by omega) (by omega) hT hL) (fun u11 hu11 => ?_)
              refine tgI (fun h72 => ?_) (fun h72 => ?_)
              · rw [show ((nI y5) + 1 : Int32) = nI (y5 + 1) from (nadd rfl (show (1 : Int32) = nI 1 from rfl))]
                exact ih _ (y5 + 1) (by first | omega | assumption | exact Or.inl rfl | exact Or.inr rfl) (by omega)
              · refine tgD (vkn (by omega) (by omega)) ?_
                refine tgI (fun h73 => ?_) (fun h73 => ?_)
                · unfold fX11_waysOf_b131
                  try simp only [hT.1, hT.2.1, hT.2.2.1, hT.2.2.2]
                  rw [show ((nI y5) + 1 : Int32) = nI (y5 + 1) from (nadd rfl (show (1 : Int32) = nI 1 from rfl))]
                  exact ih _ (y5 + 1) (by first | omega | assumption | exact Or.inl rfl | exact Or.inr rfl) (by omega)
                · refine tgI (fun h74 => ?_) (fun h74 => ?_)
                  · unfold fX11_waysOf_b131
                    try simp only [hT.1, hT.2.1, hT.2.2.1, hT.2.2.2]
                    rw [show ((nI y5) + 1 : Int32) = nI (y5 + 1) from (nadd rfl (show (1 : Int32) = nI 1 from rfl))]
                    exact ih _ (y5 + 1) (by first | omega | assumption | exact Or.inl rfl | exact Or.inr rfl) (by omega)
                  · unfold fX11_waysOf_b131
                    try simp only [hT.1, hT.2.1, hT.2.2.1, hT.2.2.2]
                    rw [show ((nI y5) + 1 : Int32) = nI (y5 + 1) from (nadd rfl (show (1 : Int32) = nI 1 from rfl))]
                    exact ih _ (y5 + 1) (by first | omega | assumption | exact Or.inl rfl | exact Or.inr rfl) (by omega)
        · unfold fX11_waysOf_b72
          try simp only [hT.1, hT.2.1, hT.2.2.1, hT.2.2.2]
          unfold fX11_waysOf_b73
          try simp only [hT.1, hT.2.1, hT.2.2.1, hT.2.2.2]
          refine tgI (fun h75 => ?_) (fun h75 => ?_)
          · refine tgI (fun h76 => ?_) (fun h76 => ?_)
            · rw [show ((nI y5) + 1 : Int32) = nI (y5 + 1) from (nadd rfl (show (1 : Int32) = nI 1 from rfl))]
              exact ih _ (y5 + 1) (by first | omega | assumption | exact Or.inl rfl | exact Or.inr rfl) (by omega)
            · unfold fX11_waysOf_b85
              try simp only [hT.1, hT.2.1, hT.2.2.1, hT.2.2.2]
              refine tgC (t_fX11_canCall (x1 := y5) (by omega) (by omega) (by omega) (by omega) (by omega) (by omega) hT hL) (fun u11 hu11 => ?_)
              refine tgI (fun h77 => ?_) (fun h77 => ?_)
              · rw [show ((nI y5) + 1 : Int32) = nI (y5 + 1) from (nadd rfl (show (1 : Int32) = nI 1 from rfl))]
                exact ih _ (y5 + 1) (by first | omega | assumption | exact Or.inl rfl | exact Or.inr rfl) (by omega)
              · refine tgD (vkn (by omega) (by omega)) ?_
                refine tgI (fun h78 => ?_) (fun h78 => ?_)
                · unfold fX11_waysOf_b131
                  try simp only [hT.1, hT.2.1, hT.2.2.1, hT.2.2.2]
                  rw [show ((nI y5) + 1 : Int32) = nI (y5 + 1) from (nadd rfl (show (1 : Int32) = nI 1 from rfl))]
                  exact ih _ (y5 + 1) (by first | omega | assumption | exact Or.inl rfl | exact Or.inr rfl) (by omega)
                · refine tgI (fun h79 => ?_) (fun h79 => ?_)
                  · unfold fX11_waysOf_b131
                    try simp only [hT.1, hT.2.1, hT.2.2.1, hT.2.2.2]
                    rw [show ((nI y5) + 1 : Int32) = nI (y5 + 1) from (nadd rfl (show (1 : Int32) = nI 1 from rfl))]
                    exact ih _ (y5 + 1) (by first | omega | assumption | exact Or.inl rfl | exact Or.inr rfl) (by omega)
                  · unfold fX11_waysOf_b131
                    try simp only [hT.1, hT.2.1, hT.2.2.1, hT.2.2.2]
                    rw [show ((nI y5) + 1 : Int32) = nI (y5 + 1) from (nadd rfl (show (1 : Int32) = nI 1 from rfl))]
                    exact ih _ (y5 + 1) (by first | omega | assumption | exact Or.inl rfl | exact Or.inr rfl) (by omega)
          · unfold fX11_waysOf_b85
            try simp only [hT.1, hT.2.1, hT.2.2.1, hT.2.2.2]
            refine tgC (t_fX11_canCall (x1 := y5) (by omega) (by omega) (by omega) (by omega) (by omega) (by omega) hT hL) (fun u11 hu11 => ?_)
            refine tgI (fun h80 => ?_) (fun h80 => ?_)
            · rw [show ((nI y5) + 1 : Int32) = nI (y5 + 1) from (nadd rfl (show (1 : Int32) = nI 1 from rfl))]
              exact ih _ (y5 + 1) (by first | omega | assumption | exact Or.inl rfl | exact Or.inr rfl) (by omega)
            · refine tgD (vkn (by omega) (by omega)) ?_
              refine tgI (fun h81 => ?_) (fun h81 => ?_)
              · unfold fX11_waysOf_b131
                try simp only [hT.1, hT.2.1, hT.2.2.1, hT.2.2.2]
                rw [show ((nI y5) + 1 : Int32) = nI (y5 + 1) from (nadd rfl (show (1 : Int32) = nI 1 from rfl))]
                exact ih _ (y5 + 1) (by first | omega | assumption | exact Or.inl rfl | exact Or.inr rfl) (by omega)
              · refine tgI (fun h82 => ?_) (fun h82 => ?_)
                · unfold fX11_waysOf_b131
                  try simp only [hT.1, hT.2.1, hT.2.2.1, hT.2.2.2]
                  rw [show ((nI y5) + 1 : Int32) = nI (y5 + 1) from (nadd rfl (show (1 : Int32) = nI 1 from rfl))]
                  exact ih _ (y5 + 1) (by first | omega | assumption | exact Or.inl rfl | exact Or.inr rfl) (by omega)
                · unfold fX11_waysOf_b131
                  try simp only [hT.1, hT.2.1, hT.2.2.1, hT.2.2.2]
                  rw [show ((nI y5) + 1 : Int32) = nI (y5 + 1) from (nadd rfl (show (1 : Int32) = nI 1 from rfl))]
                  exact ih _ (y5 + 1) (by first | omega | assumption | exact Or.inl rfl | exact Or.inr rfl) (by omega)
theorem t_fX11_waysOf {np nl nb na : Nat} {t_now : Nat → Int32} {t_told : Nat → Int32} {t_one : Nat → Int32} {t_other : Nat → Int32} {t_forth : Nat → Int32} {t_broken : Nat → Int32} {t_away : Nat → Int32} {x1 : Int32} {x2 : Int32} {x3 : Int32} (hnp : np ≤ 10) (hnl : nl ≤ 24) (hnb : nb ≤ 12) (hna : na ≤ 12) (hT : hTold t_told np nl nb na) (hL : hLN nl np t_one t_other) : tG tT (fX11_waysOf t_now t_told t_one t_other t_forth t_broken t_away x1 x2 x3) := by
  unfold fX11_waysOf
  try simp only [hT.1, hT.2.1, hT.2.2.1, hT.2.2.2]
  exact (tl_fX11_waysOf_b6 (by omega) (by omega) (by omega) (by omega) hT hL FU _ 0 (by first | omega | assumption | exact Or.inl rfl | exact Or.inr rfl) (by have := FUge; omega))
theorem tl_fX11_isIdle_b17 {np nl nb na : Nat} {t_now : Nat → Int32} {t_told : Nat → Int32} {t_one : Nat → Int32} {t_other : Nat → Int32} {t_forth : Nat → Int32} {t_broken : Nat → Int32} {t_away : Nat → Int32} {x1 : Int32} {x2 : Int32} {K2 : Int32 → Option Int32} (hnp : np ≤ 10) (hnl : nl ≤ 24) (hnb : nb ≤ 12) (hna : na ≤ 12) (hT : hTold t_told np nl nb na) (hL : hLN nl np t_one t_other) : ∀ (n : Nat) (y3 : Nat) (y4 : Nat), y4 ≤ np → y3 < np → np - y4 < n → (tG tT (K2 (nI (y3 + 1)))) → tG tT (fX11_isIdle_b17 t_now t_told t_one t_other t_forth t_broken t_away x1 x2 K2 n (nI y3) (nI y4)) := by
  intro n
  induction n with
  | zero =>
    intro y3 y4 hi0 hi1 hm hK
    omega
  | succ n ih =>
    intro y3 y4 hi0 hi1 hm hK
    rw [fX11_isIdle_b17_s]
    try simp only [hT.1, hT.2.1, hT.2.2.1, hT.2.2.2]
    refine tgI (fun h1 => ?_) (fun h1 => ?_)
    · have h1 := nll (a := np) (b := y4) h1 (by omega) (by omega)
      rw [show ((nI y3) + 1 : Int32) = nI (y3 + 1) from (nadd rfl (show (1 : Int32) = nI 1 from rfl))]
      exact hK 
    · have h1 := nln (a := np) (b := y4) h1 (by omega) (by omega)
      refine tgI (fun h2 => ?_) (fun h2 => ?_)
      · rw [show ((nI y3) + 1 : Int32) = nI (y3 + 1) from (nadd rfl (show (1 : Int32) = nI 1 from rfl))]
        exact hK 
      · refine tgI (fun h3 => ?_) (fun h3 => ?_)
        · rw [show ((nI y4) + 1 : Int32) = nI (y4 + 1) from (nadd rfl (show (1 : Int32) = nI 1 from rfl))]
          exact ih y3 (y4 + 1) (by first | omega | assumption | exact Or.inl rfl | exact Or.inr rfl) (by first | omega | assumption | exact Or.inl rfl | exact Or.inr rfl) (by omega) hK
        · refine tgC (t_fX11_waysOf (by omega) (by omega) (by omega) (by omega) hT hL) (fun u11 hu11 => ?_)
          refine tgI (fun h4 => ?_) (fun h4 => ?_)
          · rw [show ((nI y4) + 1 : Int32) = nI (y4 + 1) from (nadd rfl (show (1 : Int32) = nI 1 from rfl))]
            exact ih y3 (y4 + 1) (by first | omega | assumption | exact Or.inl rfl | exact Or.inr rfl) (by first | omega | assumption | exact Or.inl rfl | exact Or.inr rfl) (by omega) hK
          · exact tgS trivial
theorem tl_fX11_isIdle_b2 {np nl nb na : Nat} {t_now : Nat → Int32} {t_told : Nat → Int32} {t_one : Nat → Int32} {t_other : Nat → Int32} {t_forth : Nat → Int32} {t_broken : Nat → Int32} {t_away : Nat → Int32} {x1 : Int32} {x2 : Int32} (hnp : np ≤ 10) (hnl : nl ≤ 24) (hnb : nb ≤ 12) (hna : na ≤ 12) (hT : hTold t_told np nl nb na) (hL : hLN nl np t_one t_other) : ∀ (n : Nat) (y3 : Nat), y3 ≤ np → np - y3 < n → tG tT (fX11_isIdle_b2 t_now t_told t_one t_other t_forth t_broken t_away x1 x2 n (nI y3)) := by
  intro n
  induction n with
  | zero =>
    intro y3 hi0 hm
    omega
  | succ n ih =>
    intro y3 hi0 hm
    rw [fX11_isIdle_b2_s]
    try simp only [hT.1, hT.2.1, hT.2.2.1, hT.2.2.2]
    refine tgI (fun h1 => ?_) (fun h1 => ?_)
    · have h1 := nll (a := np) (b := y3) h1 (by omega) (by omega)
      exact tgS trivial
    · have h1 := nln (a := np) (b := y3) h1 (by omega) (by omega)
      rw [show ((nI y3) + 1 : Int32) = nI (y3 + 1) from (nadd rfl (show (1 : Int32) = nI 1 from rfl))]
      exact (tl_fX11_isIdle_b17 (by omega) (by omega) (by omega) (by omega) hT hL FU y3 (y3 + 1) (by first | omega | assumption | exact Or.inl rfl | exact Or.inr rfl) (by first | omega | assumption | exact Or.inl rfl | exact Or.inr rfl) (by have := FUge; omega) (ih (y3 + 1) (by first | omega | assumption | exact Or.inl rfl | exact Or.inr rfl) (by omega)))
theorem t_fX11_isIdle {np nl nb na : Nat} {t_now : Nat → Int32} {t_told : Nat → Int32} {t_one : Nat → Int32} {t_other : Nat → Int32} {t_forth : Nat → Int32} {t_broken : Nat → Int32} {t_away : Nat → Int32} {x1 : Int32} {x2 : Int32} (hnp : np ≤ 10) (hnl : nl ≤ 24) (hnb : nb ≤ 12) (hna : na ≤ 12) (hT : hTold t_told np nl nb na) (hL : hLN nl np t_one t_other) : tG tT (fX11_isIdle t_now t_told t_one t_other t_forth t_broken t_away x1 x2) := by
  unfold fX11_isIdle
  try simp only [hT.1, hT.2.1, hT.2.2.1, hT.2.2.2]
  exact (tl_fX11_isIdle_b2 (by omega) (by omega) (by omega) (by omega) hT hL FU 0 (by first | omega | assumption | exact Or.inl rfl | exact Or.inr rfl) (by have := FUge; omega))
theorem tl_fX11_isEnough_b2 {np nl nb na : Nat} {t_told : Nat → Int32} {t_deep : Nat → Int32} {x1 : Nat} (hb_x1 : x1 ≤ 4) (hnp : np ≤ 6) (hnl : nl ≤ 24) (hnb : nb ≤ 12) (hna : na ≤ 12) (hT : hTold t_told np nl nb na) : ∀ (n : Nat) (y2 : Nat), y2 ≤ np → np - y2 < n → tG tT (fX11_isEnough_b2 t_told t_deep (nI x1) n (nI y2)) := by
  intro n
  induction n with
  | zero =>
    intro y2 hi0 hm
    omega
  | succ n ih =>
    intro y2 hi0 hm
    rw [fX11_isEnough_b2_s]
    try simp only [hT.1, hT.2.1, hT.2.2.1, hT.2.2.2]
    refine tgI (fun h1 => ?_) (fun h1 => ?_)
    · have h1 := nll (a := np) (b := y2) h1 (by omega) (by omega)
      exact tgS trivial
    · have h1 := nln (a := np) (b := y2) h1 (by omega) (by omega)
      refine tgD (vne (nadd (nmul (show (6 : Int32) = nI 6 from rfl) rfl) rfl) (by omega) (by omega)) ?_
      refine tgC (t_fX11_all (by omega) (by omega) (by omega) (by omega) hT) (fun u3 hu3 => ?_)
      refine tgI (fun h2 => ?_) (fun h2 => ?_)
      · rw [show ((nI y2) + 1 : Int32) = nI (y2 + 1) from (nadd rfl (show (1 : Int32) = nI 1 from rfl))]
        exact ih (y2 + 1) (by first | omega | assumption | exact Or.inl rfl | exact Or.inr rfl) (by omega)
      · exact tgS trivial
theorem t_fX11_isEnough {np nl nb na : Nat} {t_told : Nat → Int32} {t_deep : Nat → Int32} {x1 : Nat} (hb_x1 : x1 ≤ 4) (hnp : np ≤ 6) (hnl : nl ≤ 24) (hnb : nb ≤ 12) (hna : na ≤ 12) (hT : hTold t_told np nl nb na) : tG tT (fX11_isEnough t_told t_deep (nI x1)) := by
  unfold fX11_isEnough
  try simp only [hT.1, hT.2.1, hT.2.2.1, hT.2.2.2]
  exact (tl_fX11_isEnough_b2 (x1 := x1) (by omega) (by omega) (by omega) (by omega) (by omega) hT FU 0 (by first | omega | assumption | exact Or.inl rfl | exact Or.inr rfl) (by have := FUge; omega))
theorem tl_fX11_canBe_b9 {np nl nb na : Nat} {t_told : Nat → Int32} {t_deep : Nat → Int32} {x1 : Nat} (hb_x1 : x1 ≤ 4) (hnp : np ≤ 6) (hnl : nl ≤ 24) (hnb : nb ≤ 12) (hna : na ≤ 12) (hT : hTold t_told np nl nb na) : ∀ (n : Nat) (y2 : Int32) (y3 : Nat), y3 ≤ np → np - y3 < n → tG tT (fX11_canBe_b9 t_told t_deep (nI x1) n y2 (nI y3)) := by
  intro n
  induction n with
  | zero =>
    intro y2 y3 hi0 hm
    omega
  | succ n ih =>
    intro y2 y3 hi0 hm
    rw [fX11_canBe_b9_s]
    try simp only [hT.1, hT.2.1, hT.2.2.1, hT.2.2.2]
    refine tgI (fun h1 => ?_) (fun h1 => ?_)
    · have h1 := nll (a := np) (b := y3) h1 (by omega) (by omega)
      exact tgS trivial
    · have h1 := nln (a := np) (b := y3) h1 (by omega) (by omega)
      rw [show (6 * (nI x1) : Int32) = nI (6 * x1) from (nmul (show (6 : Int32) = nI 6 from rfl) rfl)]
      refine tgC (t_fX11_knowersIn (x1 := (6 * x1)) (x2 := np) (by omega) (by omega) (by omega) (by omega)) (fun u2 hu2 => ?_)
      refine tgC (t_fX11_many ) (fun u5 hu5 => ?_)
      refine tgI (fun h2 => ?_) (fun h2 => ?_)
      · rw [show ((nI y3) + 1 : Int32) = nI (y3 + 1) from (nadd rfl (show (1 : Int32) = nI 1 from rfl))]
        exact ih _ (y3 + 1) (by first | omega | assumption | exact Or.inl rfl | exact Or.inr rfl) (by omega)
      · exact tgS trivial
theorem t_fX11_canBe {np nl nb na : Nat} {t_limitNow : Int32} {t_told : Nat → Int32} {t_deep : Nat → Int32} {x1 : Nat} (hb_x1 : x1 ≤ 4) (hnp : np ≤ 6) (hnl : nl ≤ 24) (hnb : nb ≤ 12) (hna : na ≤ 12) (hT : hTold t_told np nl nb na) : tG tT (fX11_canBe t_limitNow t_told t_deep (nI x1)) := by
  unfold fX11_canBe
  try simp only [hT.1, hT.2.1, hT.2.2.1, hT.2.2.2]
  exact (tl_fX11_canBe_b9 (x1 := x1) (by omega) (by omega) (by omega) (by omega) (by omega) hT FU _ 0 (by first | omega | assumption | exact Or.inl rfl | exact Or.inr rfl) (by have := FUge; omega))
theorem t_fX11_bestFor {np nl nb na : Nat} {N_p2 : Nat} {t_now : Nat → Int32} {t_told : Nat → Int32} {t_one : Nat → Int32} {t_other : Nat → Int32} {t_forth : Nat → Int32} {t_cost : Nat → Int32} {t_broken : Nat → Int32} {t_away : Nat → Int32} {t_worth : Nat → Int64} {t_choice : Nat → Int32} {p2 : Nat → Int32} {x1 : Int32} {x3 : Nat} (hb_x3 : x3 ≤ 4) (hnp : np ≤ 10) (hnl : nl ≤ 24) (hnb : nb ≤ 12) (hna : na ≤ 12) (hN : x3 + np ≤ N_p2) (hN2 : N_p2 ≤ 6000) (hT : hTold t_told np nl nb na) (hL : hLN nl np t_one t_other) : tG tT (fX11_bestFor N_p2 t_now t_told t_one t_other t_forth t_cost t_broken t_away t_worth t_choice p2 x1 (nI x3)) := by
  exact t_bestFor hnp hnl hT.1 hT.2.1 hL (fun l hl => t_fX11_canCall (by omega) hnp hnl hnb hna hl hT hL) (fun l hl => t_fX11_gainOf (by omega) (by omega) hl hnp (by omega) (by omega) hL)
theorem t_fX11_bestFor_p2istnow {np nl nb na : Nat} {t_now : Nat → Int32} {t_told : Nat → Int32} {t_one : Nat → Int32} {t_other : Nat → Int32} {t_forth : Nat → Int32} {t_cost : Nat → Int32} {t_broken : Nat → Int32} {t_away : Nat → Int32} {t_worth : Nat → Int64} {t_choice : Nat → Int32} {x1 : Int32} {x3 : Nat} (hb_x3 : x3 ≤ 4) (hnp : np ≤ 10) (hnl : nl ≤ 24) (hnb : nb ≤ 12) (hna : na ≤ 12) (hT : hTold t_told np nl nb na) (hL : hLN nl np t_one t_other) : tG tT (fX11_bestFor_p2istnow t_now t_told t_one t_other t_forth t_cost t_broken t_away t_worth t_choice x1 (nI x3)) := by
  exact t_bestFor_p2istnow hnp hnl hT.1 hT.2.1 hL (fun l hl => t_fX11_canCall (by omega) hnp hnl hnb hna hl hT hL) (fun l hl => t_fX11_gainOf (by omega) (by omega) hl hnp (by omega) (by omega) hL)
theorem t_fX11_bestNow {np nl nb na : Nat} {t_now : Nat → Int32} {t_told : Nat → Int32} {t_one : Nat → Int32} {t_other : Nat → Int32} {t_forth : Nat → Int32} {t_cost : Nat → Int32} {t_broken : Nat → Int32} {t_away : Nat → Int32} {t_worth : Nat → Int64} {t_choice : Nat → Int32} (hnp : np ≤ 10) (hnl : nl ≤ 24) (hnb : nb ≤ 12) (hna : na ≤ 12) (hT : hTold t_told np nl nb na) (hL : hLN nl np t_one t_other) : tG tT (fX11_bestNow t_now t_told t_one t_other t_forth t_cost t_broken t_away t_worth t_choice) := by
  unfold fX11_bestNow
  try simp only [hT.1, hT.2.1, hT.2.2.1, hT.2.2.2]
  refine tgC (t_fX11_bestFor_p2istnow (x3 := 4) (by omega) (by omega) (by omega) (by omega) (by omega) hT hL) (fun u1 hu1 => ?_)
  exact tgS trivial
theorem tl_fX11_best_b56 {np nl nb na : Nat} {t_now : Nat → Int32} {t_told : Nat → Int32} {t_one : Nat → Int32} {t_other : Nat → Int32} {t_forth : Nat → Int32} (hnp : np ≤ 10) (hnl : nl ≤ 24) (hnb : nb ≤ 12) (hna : na ≤ 12) (hT : hTold t_told np nl nb na) (hL : hLN nl np t_one t_other) : ∀ (n : Nat) (y2 : Int32) (y3 : Int32) (y4 : Nat) (t_thrown : Int32) (t_worth : (Nat → Int64)) (t_choice : (Nat → Int32)), y4 ≤ nl → nl - y4 < n → tG tT (fX11_best_b56 t_now t_told t_one t_other t_forth n y2 y3 (nI y4) t_thrown t_worth t_choice) := by
  intro n
  induction n with
  | zero =>
    intro y2 y3 y4 t_thrown t_worth t_choice hi0 hm
    omega
  | succ n ih =>
    intro y2 y3 y4 t_thrown t_worth t_choice hi0 hm
    rw [fX11_best_b56_s]
    try simp only [hT.1, hT.2.1, hT.2.2.1, hT.2.2.2]
    refine tgI (fun h1 => ?_) (fun h1 => ?_)
    · have h1 := nll (a := nl) (b := y4) h1 (by omega) (by omega)
      exact tgS trivial
    · have h1 := nln (a := nl) (b := y4) h1 (by omega) (by omega)
      refine tgI (fun h2 => ?_) (fun h2 => ?_)
      · unfold fX11_best_b92
        try simp only [hT.1, hT.2.1, hT.2.2.1, hT.2.2.2]
        rw [show ((nI y4) + 1 : Int32) = nI (y4 + 1) from (nadd rfl (show (1 : Int32) = nI 1 from rfl))]
        exact ih _ _ (y4 + 1) _ _ _ (by first | omega | assumption | exact Or.inl rfl | exact Or.inr rfl) (by omega)
      · refine tgC (t_fX11_gainOf (x1 := y4) (x3 := 4) (L := nl) (p := np) (by omega) (by omega) (by omega) (by omega) (by omega) (by omega) hL) (fun u19 hu19 => ?_)
        unfold fX11_best_b92
        try simp only [hT.1, hT.2.1, hT.2.2.1, hT.2.2.2]
        rw [show ((nI y4) + 1 : Int32) = nI (y4 + 1) from (nadd rfl (show (1 : Int32) = nI 1 from rfl))]
        exact ih _ _ (y4 + 1) _ _ _ (by first | omega | assumption | exact Or.inl rfl | exact Or.inr rfl) (by omega)
theorem t_fX11_best {np nl nb na : Nat} {t_now : Nat → Int32} {t_told : Nat → Int32} {t_one : Nat → Int32} {t_other : Nat → Int32} {t_forth : Nat → Int32} {t_cost : Nat → Int32} {t_broken : Nat → Int32} {t_away : Nat → Int32} {t_worth : Nat → Int64} {t_choice : Nat → Int32} {x1 : Int32} (hnp : np ≤ 10) (hnl : nl ≤ 24) (hnb : nb ≤ 12) (hna : na ≤ 12) (hT : hTold t_told np nl nb na) (hL : hLN nl np t_one t_other) : tG tT (fX11_best t_now t_told t_one t_other t_forth t_cost t_broken t_away t_worth t_choice x1) := by
  unfold fX11_best
  try simp only [hT.1, hT.2.1, hT.2.2.1, hT.2.2.2]
  refine tgI (fun h1 => ?_) (fun h1 => ?_)
  · unfold fX11_best_b20
    try simp only [hT.1, hT.2.1, hT.2.2.1, hT.2.2.2]
    refine tgN (fun u5 eu5 => ?_)
    obtain rfl : u5 = (1, 1) := eu5
    refine tgI (fun h2 => absurd h2 (by decide)) (fun _ => ?_)
    exact tgS trivial
  · obtain ⟨x1n, hx1n, rfl⟩ := pwn (b := 2) (by decide) h1
    unfold fX11_best_b20
    try simp only [hT.1, hT.2.1, hT.2.2.1, hT.2.2.2]
    refine tgN (fun u5 eu5 => ?_)
    obtain rfl : u5 = (0, 0) := eu5
    refine tgI (fun _ => ?_) (fun h3 => absurd rfl h3)
    refine tgC (t_fX11_bestNow (by omega) (by omega) (by omega) (by omega) hT hL) (fun u9 hu9 => ?_)
    refine tgI (fun h4 => ?_) (fun h4 => ?_)
    · exact tgS trivial
    · refine tgI (fun h5 => ?_) (fun h5 => ?_)
      · refine tgC (t_fX11_costOf (by omega) (by omega) (by omega) (by omega) hT) (fun u22 hu22 => ?_)
        exact tgS trivial
      · exact (tl_fX11_best_b56 (by omega) (by omega) (by omega) (by omega) hT hL FU _ _ 0 _ _ _ (by first | omega | assumption | exact Or.inl rfl | exact Or.inr rfl) (by have := FUge; omega))
theorem tl_fX11_thinks_b2 {np nl nb na : Nat} {t_now : Nat → Int32} {t_told : Nat → Int32} (hnp : np ≤ 10) (hnl : nl ≤ 24) (hnb : nb ≤ 12) (hna : na ≤ 12) (hT : hTold t_told np nl nb na) : ∀ (n : Nat) (y1 : Nat) (t_thought : (Nat → Int32)), y1 ≤ np → np - y1 < n → tG tT (fX11_thinks_b2 t_now t_told n (nI y1) t_thought) := by
  intro n
  induction n with
  | zero =>
    intro y1 t_thought hi0 hm
    omega
  | succ n ih =>
    intro y1 t_thought hi0 hm
    rw [fX11_thinks_b2_s]
    try simp only [hT.1, hT.2.1, hT.2.2.1, hT.2.2.2]
    refine tgI (fun h1 => ?_) (fun h1 => ?_)
    · have h1 := nll (a := np) (b := y1) h1 (by omega) (by omega)
      exact tgS trivial
    · have h1 := nln (a := np) (b := y1) h1 (by omega) (by omega)
      refine tgD (vne (nadd (show (4 : Int32) = nI 4 from rfl) rfl) (by omega) (by omega)) ?_
      refine tgD (vkn (by omega) (by omega)) ?_
      rw [show ((nI y1) + 1 : Int32) = nI (y1 + 1) from (nadd rfl (show (1 : Int32) = nI 1 from rfl))]
      exact ih (y1 + 1) _ (by first | omega | assumption | exact Or.inl rfl | exact Or.inr rfl) (by omega)
theorem t_fX11_thinks {np nl nb na : Nat} {t_now : Nat → Int32} {t_told : Nat → Int32} {t_thought : Nat → Int32} (hnp : np ≤ 10) (hnl : nl ≤ 24) (hnb : nb ≤ 12) (hna : na ≤ 12) (hT : hTold t_told np nl nb na) : tG tT (fX11_thinks t_now t_told t_thought) := by
  unfold fX11_thinks
  try simp only [hT.1, hT.2.1, hT.2.2.1, hT.2.2.2]
  exact (tl_fX11_thinks_b2 (by omega) (by omega) (by omega) (by omega) hT FU 0 _ (by first | omega | assumption | exact Or.inl rfl | exact Or.inr rfl) (by have := FUge; omega))
theorem tl_fX11_calls_b32 {np nl nb na : Nat} {t_told : Nat → Int32} {t_one : Nat → Int32} {t_other : Nat → Int32} {t_forth : Nat → Int32} {x1 : Int32} (hnp : np ≤ 10) (hnl : nl ≤ 24) (hnb : nb ≤ 12) (hna : na ≤ 12) (hT : hTold t_told np nl nb na) (hL : hLN nl np t_one t_other) : ∀ (n : Nat) (y2 : Nat) (t_thought : (Nat → Int32)) (t_before : (Nat → Int32)), y2 ≤ nl → nl - y2 < n → tG tT (fX11_calls_b32 t_told t_one t_other t_forth x1 n (nI y2) t_thought t_before) := by
  intro n
  induction n with
  | zero =>
    intro y2 t_thought t_before hi0 hm
    omega
  | succ n ih =>
    intro y2 t_thought t_before hi0 hm
    rw [fX11_calls_b32_s]
    try simp only [hT.1, hT.2.1, hT.2.2.1, hT.2.2.2]
    refine tgI (fun h1 => ?_) (fun h1 => ?_)
    · have h1 := nll (a := nl) (b := y2) h1 (by omega) (by omega)
      exact tgS trivial
    · have h1 := nln (a := nl) (b := y2) h1 (by omega) (by omega)
      refine tgI (fun h2 => ?_) (fun h2 => ?_)
      · rw [show ((nI y2) + 1 : Int32) = nI (y2 + 1) from (nadd rfl (show (1 : Int32) = nI 1 from rfl))]
        exact ih (y2 + 1) _ _ (by first | omega | assumption | exact Or.inl rfl | exact Or.inr rfl) (by omega)
      · refine tgD (vkn (by omega) (by omega)) ?_
        refine tgD (vpB (hLN2 hL (k := y2) (by omega) (by omega)) (by omega) (by omega)) ?_
        refine tgD (vpB (hLN1 hL (k := y2) (by omega) (by omega)) (by omega) (by omega)) ?_
        refine tgI (fun h3 => ?_) (fun h3 => ?_)
        · unfold fX11_calls_b112
          try simp only [hT.1, hT.2.1, hT.2.2.1, hT.2.2.2]
          refine tgD (vpB (hLN1 hL (k := y2) (by omega) (by omega)) (by omega) (by omega)) ?_
          rw [show ((nI y2) + 1 : Int32) = nI (y2 + 1) from (nadd rfl (show (1 : Int32) = nI 1 from rfl))]
          exact ih (y2 + 1) _ _ (by first | omega | assumption | exact Or.inl rfl | exact Or.inr rfl) (by omega)
        · unfold fX11_calls_b112
          try simp only [hT.1, hT.2.1, hT.2.2.1, hT.2.2.2]
          refine tgD (vpB (hLN1 hL (k := y2) (by omega) (by omega)) (by omega) (by omega)) ?_
          rw [show ((nI y2) + 1 : Int32) = nI (y2 + 1) from (nadd rfl (show (1 : Int32) = nI 1 from rfl))]
          exact ih (y2 + 1) _ _ (by first | omega | assumption | exact Or.inl rfl | exact Or.inr rfl) (by omega)
theorem tl_fX11_calls_b2 {np nl nb na : Nat} {t_told : Nat → Int32} {t_one : Nat → Int32} {t_other : Nat → Int32} {t_forth : Nat → Int32} {x1 : Int32} (hnp : np ≤ 10) (hnl : nl ≤ 24) (hnb : nb ≤ 12) (hna : na ≤ 12) (hT : hTold t_told np nl nb na) (hL : hLN nl np t_one t_other) : ∀ (n : Nat) (y2 : Nat) (t_thought : (Nat → Int32)) (t_before : (Nat → Int32)), y2 ≤ np → np - y2 < n → tG tT (fX11_calls_b2 t_told t_one t_other t_forth x1 n (nI y2) t_thought t_before) := by
  intro n
  induction n with
  | zero =>
    intro y2 t_thought t_before hi0 hm
    omega
  | succ n ih =>
    intro y2 t_thought t_before hi0 hm
    rw [fX11_calls_b2_s]
    try simp only [hT.1, hT.2.1, hT.2.2.1, hT.2.2.2]
    refine tgI (fun h1 => ?_) (fun h1 => ?_)
    · have h1 := nll (a := np) (b := y2) h1 (by omega) (by omega)
      exact (tl_fX11_calls_b32 (by omega) (by omega) (by omega) (by omega) hT hL FU 0 _ _ (by first | omega | assumption | exact Or.inl rfl | exact Or.inr rfl) (by have := FUge; omega))
    · have h1 := nln (a := np) (b := y2) h1 (by omega) (by omega)
      refine tgD (vkn (by omega) (by omega)) ?_
      rw [show ((nI y2) + 1 : Int32) = nI (y2 + 1) from (nadd rfl (show (1 : Int32) = nI 1 from rfl))]
      exact ih (y2 + 1) _ _ (by first | omega | assumption | exact Or.inl rfl | exact Or.inr rfl) (by omega)
theorem t_fX11_calls {np nl nb na : Nat} {t_told : Nat → Int32} {t_one : Nat → Int32} {t_other : Nat → Int32} {t_forth : Nat → Int32} {t_thought : Nat → Int32} {t_before : Nat → Int32} {x1 : Int32} (hnp : np ≤ 10) (hnl : nl ≤ 24) (hnb : nb ≤ 12) (hna : na ≤ 12) (hT : hTold t_told np nl nb na) (hL : hLN nl np t_one t_other) : tG tT (fX11_calls t_told t_one t_other t_forth t_thought t_before x1) := by
  unfold fX11_calls
  try simp only [hT.1, hT.2.1, hT.2.2.1, hT.2.2.2]
  exact (tl_fX11_calls_b2 (by omega) (by omega) (by omega) (by omega) hT hL FU 0 _ _ (by first | omega | assumption | exact Or.inl rfl | exact Or.inr rfl) (by have := FUge; omega))
theorem tl_fX11_plan_b40 {np nl nb na : Nat} {t_now : Nat → Int32} {t_told : Nat → Int32} {t_one : Nat → Int32} {t_other : Nat → Int32} {t_forth : Nat → Int32} {t_cost : Nat → Int32} {t_broken : Nat → Int32} {t_away : Nat → Int32} {x1 : Int32} (hnp : np ≤ 10) (hnl : nl ≤ 24) (hnb : nb ≤ 12) (hna : na ≤ 12) (hT : hTold t_told np nl nb na) (hL : hLN nl np t_one t_other) : ∀ (n : Nat) (y2 : Nat) (y3 : Int32) (y4 : Int32) (t_thrown : Int32) (t_worth : (Nat → Int64)) (t_choice : (Nat → Int32)) (t_thought : (Nat → Int32)) (t_before : (Nat → Int32)), y2 ≤ 40 → 40 - y2 < n → tG tT (fX11_plan_b40 t_now t_told t_one t_other t_forth t_cost t_broken t_away x1 n (nI y2) y3 y4 t_thrown t_worth t_choice t_thought t_before) := by
  intro n
  induction n with
  | zero =>
    intro y2 y3 y4 t_thrown t_worth t_choice t_thought t_before hi0 hm
    omega
  | succ n ih =>
    intro y2 y3 y4 t_thrown t_worth t_choice t_thought t_before hi0 hm
    rw [fX11_plan_b40_s]
    try simp only [hT.1, hT.2.1, hT.2.2.1, hT.2.2.2]
    refine tgI (fun h1 => ?_) (fun h1 => ?_)
    · have h1 := nll (a := 40) (b := y2) h1 (by omega) (by omega)
      unfold fX11_plan_b108
      try simp only [hT.1, hT.2.1, hT.2.2.1, hT.2.2.2]
      refine tgC (t_fX11_missingIn (x2 := 0) (by omega) (by omega) (by omega) (by omega) (by omega) (by omega) (by omega) hT) (fun u13 hu13 => ?_)
      refine tgI (fun h2 => ?_) (fun h2 => ?_)
      · refine tgI (fun h3 => ?_) (fun h3 => ?_)
        · exact tgS trivial
        · exact tgS trivial
      · refine tgI (fun h4 => ?_) (fun h4 => ?_)
        · exact tgS trivial
        · refine tgI (fun h5 => ?_) (fun h5 => ?_)
          · exact tgS trivial
          · exact tgS trivial
    · have h1 := nln (a := 40) (b := y2) h1 (by omega) (by omega)
      refine tgC (t_fX11_missingIn (x2 := 0) (by omega) (by omega) (by omega) (by omega) (by omega) (by omega) (by omega) hT) (fun u20 hu20 => ?_)
      refine tgI (fun h6 => ?_) (fun h6 => ?_)
      · unfold fX11_plan_b108
        try simp only [hT.1, hT.2.1, hT.2.2.1, hT.2.2.2]
        refine tgC (t_fX11_missingIn (x2 := 0) (by omega) (by omega) (by omega) (by omega) (by omega) (by omega) (by omega) hT) (fun u13 hu13 => ?_)
        refine tgI (fun h7 => ?_) (fun h7 => ?_)
        · refine tgI (fun h8 => ?_) (fun h8 => ?_)
          · exact tgS trivial
          · exact tgS trivial
        · refine tgI (fun h9 => ?_) (fun h9 => ?_)
          · exact tgS trivial
          · refine tgI (fun h10 => ?_) (fun h10 => ?_)
            · exact tgS trivial
            · exact tgS trivial
      · refine tgC (t_fX11_bestFor (x3 := 0) (by omega) (by omega) (by omega) (by omega) (by omega) (by omega) (by omega) hT hL) (fun u24 hu24 => ?_)
        refine tgC (t_fX11_many ) (fun u27 hu27 => ?_)
        refine tgC (t_fX11_costOf (by omega) (by omega) (by omega) (by omega) hT) (fun u30 hu30 => ?_)
        refine tgC (t_fX11_calls (by omega) (by omega) (by omega) (by omega) hT hL) (fun u33 hu33 => ?_)
        rw [show ((nI y2) + 1 : Int32) = nI (y2 + 1) from (nadd rfl (show (1 : Int32) = nI 1 from rfl))]
        exact ih (y2 + 1) _ _ _ _ _ _ _ (by first | omega | assumption | exact Or.inl rfl | exact Or.inr rfl) (by omega)
theorem t_fX11_plan {np nl nb na : Nat} {t_now : Nat → Int32} {t_told : Nat → Int32} {t_one : Nat → Int32} {t_other : Nat → Int32} {t_forth : Nat → Int32} {t_cost : Nat → Int32} {t_broken : Nat → Int32} {t_away : Nat → Int32} {t_worth : Nat → Int64} {t_choice : Nat → Int32} {t_thought : Nat → Int32} {t_before : Nat → Int32} {x1 : Int32} (hnp : np ≤ 10) (hnl : nl ≤ 24) (hnb : nb ≤ 12) (hna : na ≤ 12) (hT : hTold t_told np nl nb na) (hL : hLN nl np t_one t_other) : tG tT (fX11_plan t_now t_told t_one t_other t_forth t_cost t_broken t_away t_worth t_choice t_thought t_before x1) := by
  unfold fX11_plan
  try simp only [hT.1, hT.2.1, hT.2.2.1, hT.2.2.2]
  refine tgI (fun h1 => ?_) (fun h1 => ?_)
  · unfold fX11_plan_b20
    try simp only [hT.1, hT.2.1, hT.2.2.1, hT.2.2.2]
    refine tgN (fun u5 eu5 => ?_)
    obtain rfl : u5 = (1, 1) := eu5
    refine tgI (fun h2 => absurd h2 (by decide)) (fun _ => ?_)
    exact tgS trivial
  · obtain ⟨x1n, hx1n, rfl⟩ := pwn (b := 3) (by decide) h1
    unfold fX11_plan_b20
    try simp only [hT.1, hT.2.1, hT.2.2.1, hT.2.2.2]
    refine tgN (fun u5 eu5 => ?_)
    obtain rfl : u5 = (0, 0) := eu5
    refine tgI (fun _ => ?_) (fun h3 => absurd rfl h3)
    refine tgC (t_fX11_thinks (by omega) (by omega) (by omega) (by omega) hT) (fun u9 hu9 => ?_)
    exact (tl_fX11_plan_b40 (by omega) (by omega) (by omega) (by omega) hT hL FU 0 _ _ _ _ _ _ _ (by first | omega | assumption | exact Or.inl rfl | exact Or.inr rfl) (by have := FUge; omega))
theorem t_fX11_doublings {np nl nb na : Nat} {t_now : Nat → Int32} {t_told : Nat → Int32} (hnp : np ≤ 10) (hnl : nl ≤ 24) (hnb : nb ≤ 12) (hna : na ≤ 12) (hT : hTold t_told np nl nb na) (hO : gOwn np t_now 4) : tG tT (fX11_doublings t_now t_told) := by
  exact t_doublings hnp hT.1 hO
theorem tl_fX11_usableIn_b4 {np nl nb na : Nat} {t_now : Nat → Int32} {t_told : Nat → Int32} {t_one : Nat → Int32} {t_other : Nat → Int32} {t_broken : Nat → Int32} {t_away : Nat → Int32} {x1 : Int32} (hnp : np ≤ 10) (hnl : nl ≤ 24) (hnb : nb ≤ 12) (hna : na ≤ 12) (hT : hTold t_told np nl nb na) (hL : hLN nl np t_one t_other) : ∀ (n : Nat) (y2 : Int32) (y3 : Nat), y3 ≤ nl → nl - y3 < n → tG tT (fX11_usableIn_b4 t_now t_told t_one t_other t_broken t_away x1 n y2 (nI y3)) := by
  intro n
  induction n with
  | zero =>
    intro y2 y3 hi0 hm
    omega
  | succ n ih =>
    intro y2 y3 hi0 hm
    rw [fX11_usableIn_b4_s]
    try simp only [hT.1, hT.2.1, hT.2.2.1, hT.2.2.2]
    refine tgI (fun h1 => ?_) (fun h1 => ?_)
    · have h1 := nll (a := nl) (b := y3) h1 (by omega) (by omega)
      exact tgS trivial
    · have h1 := nln (a := nl) (b := y3) h1 (by omega) (by omega)
      refine tgC (t_fX11_canCall (x1 := y3) (by omega) (by omega) (by omega) (by omega) (by omega) (by omega) hT hL) (fun u2 hu2 => ?_)
      refine tgI (fun h2 => ?_) (fun h2 => ?_)
      · unfold fX11_usableIn_b31
        try simp only [hT.1, hT.2.1, hT.2.2.1, hT.2.2.2]
        rw [show ((nI y3) + 1 : Int32) = nI (y3 + 1) from (nadd rfl (show (1 : Int32) = nI 1 from rfl))]
        exact ih _ (y3 + 1) (by first | omega | assumption | exact Or.inl rfl | exact Or.inr rfl) (by omega)
      · unfold fX11_usableIn_b31
        try simp only [hT.1, hT.2.1, hT.2.2.1, hT.2.2.2]
        rw [show ((nI y3) + 1 : Int32) = nI (y3 + 1) from (nadd rfl (show (1 : Int32) = nI 1 from rfl))]
        exact ih _ (y3 + 1) (by first | omega | assumption | exact Or.inl rfl | exact Or.inr rfl) (by omega)
theorem t_fX11_usableIn {np nl nb na : Nat} {t_now : Nat → Int32} {t_told : Nat → Int32} {t_one : Nat → Int32} {t_other : Nat → Int32} {t_broken : Nat → Int32} {t_away : Nat → Int32} {x1 : Int32} (hnp : np ≤ 10) (hnl : nl ≤ 24) (hnb : nb ≤ 12) (hna : na ≤ 12) (hT : hTold t_told np nl nb na) (hL : hLN nl np t_one t_other) : tG tT (fX11_usableIn t_now t_told t_one t_other t_broken t_away x1) := by
  unfold fX11_usableIn
  try simp only [hT.1, hT.2.1, hT.2.2.1, hT.2.2.2]
  exact (tl_fX11_usableIn_b4 (by omega) (by omega) (by omega) (by omega) hT hL FU _ 0 (by first | omega | assumption | exact Or.inl rfl | exact Or.inr rfl) (by have := FUge; omega))
theorem tl_fX11_soonest_b24 {np nl nb na : Nat} {t_now : Nat → Int32} {t_told : Nat → Int32} {t_one : Nat → Int32} {t_other : Nat → Int32} {t_forth : Nat → Int32} {t_broken : Nat → Int32} {t_away : Nat → Int32} {x1 : Nat} {x2 : Int32} (hb_x1 : x1 ≤ 9) (hnp : np ≤ 10) (hnl : nl ≤ 24) (hnb : nb ≤ 12) (hna : na ≤ 12) (hT : hTold t_told np nl nb na) (hL : hLN nl np t_one t_other) : ∀ (n : Nat) (y3 : Nat) (t_thrown : Int32) (t_thought : (Nat → Int32)) (t_before : (Nat → Int32)), y3 ≤ 60 → 60 - y3 < n → tG tT (fX11_soonest_b24 t_now t_told t_one t_other t_forth t_broken t_away (nI x1) x2 n (nI y3) t_thrown t_thought t_before) := by
  intro n
  induction n with
  | zero =>
    intro y3 t_thrown t_thought t_before hi0 hm
    omega
  | succ n ih =>
    intro y3 t_thrown t_thought t_before hi0 hm
    rw [fX11_soonest_b24_s]
    try simp only [hT.1, hT.2.1, hT.2.2.1, hT.2.2.2]
    refine tgI (fun h1 => ?_) (fun h1 => ?_)
    · have h1 := nll (a := 60) (b := y3) h1 (by omega) (by omega)
      unfold fX11_soonest_b65
      try simp only [hT.1, hT.2.1, hT.2.2.1, hT.2.2.2]
      refine tgD (vkn (by omega) (by omega)) ?_
      refine tgI (fun h2 => ?_) (fun h2 => ?_)
      · exact tgS trivial
      · exact tgS trivial
    · have h1 := nln (a := 60) (b := y3) h1 (by omega) (by omega)
      refine tgD (vkn (by omega) (by omega)) ?_
      refine tgI (fun h3 => ?_) (fun h3 => ?_)
      · refine tgC (t_fX11_usableIn (by omega) (by omega) (by omega) (by omega) hT hL) (fun u23 hu23 => ?_)
        refine tgC (t_fX11_calls (by omega) (by omega) (by omega) (by omega) hT hL) (fun u26 hu26 => ?_)
        rw [show ((nI y3) + 1 : Int32) = nI (y3 + 1) from (nadd rfl (show (1 : Int32) = nI 1 from rfl))]
        exact ih (y3 + 1) _ _ _ (by first | omega | assumption | exact Or.inl rfl | exact Or.inr rfl) (by omega)
      · unfold fX11_soonest_b65
        try simp only [hT.1, hT.2.1, hT.2.2.1, hT.2.2.2]
        refine tgD (vkn (by omega) (by omega)) ?_
        refine tgI (fun h4 => ?_) (fun h4 => ?_)
        · exact tgS trivial
        · exact tgS trivial
theorem t_fX11_soonest {np nl nb na : Nat} {t_now : Nat → Int32} {t_told : Nat → Int32} {t_one : Nat → Int32} {t_other : Nat → Int32} {t_forth : Nat → Int32} {t_broken : Nat → Int32} {t_away : Nat → Int32} {t_thought : Nat → Int32} {t_before : Nat → Int32} {x1 : Int32} {x2 : Int32} (hnp : np ≤ 10) (hnl : nl ≤ 24) (hnb : nb ≤ 12) (hna : na ≤ 12) (hT : hTold t_told np nl nb na) (hL : hLN nl np t_one t_other) : tG tT (fX11_soonest t_now t_told t_one t_other t_forth t_broken t_away t_thought t_before x1 x2) := by
  unfold fX11_soonest
  try simp only [hT.1, hT.2.1, hT.2.2.1, hT.2.2.2]
  refine tgC (t_fX11_noPerson (by omega) (by omega) (by omega) (by omega) hT) (fun u1 hu1 => ?_)
  refine tgI (fun h1 => ?_) (fun h1 => ?_)
  · obtain ⟨x1n, hx1n, rfl⟩ := hu1 h1
    refine tgC (t_fX11_noPerson (by omega) (by omega) (by omega) (by omega) hT) (fun u5 hu5 => ?_)
    refine tgI (fun h2 => ?_) (fun h2 => ?_)
    · obtain ⟨x2n, hx2n, rfl⟩ := hu5 h2
      refine tgC (t_fX11_thinks (by omega) (by omega) (by omega) (by omega) hT) (fun u9 hu9 => ?_)
      exact (tl_fX11_soonest_b24 (x1 := x1n) (by omega) (by omega) (by omega) (by omega) (by omega) hT hL FU 0 _ _ _ (by first | omega | assumption | exact Or.inl rfl | exact Or.inr rfl) (by have := FUge; omega))
    · exact tgS trivial
  · exact tgS trivial
theorem t_fX11_prices {np nl nb na : Nat} {t_now : Nat → Int32} {t_told : Nat → Int32} {t_one : Nat → Int32} {t_other : Nat → Int32} {t_forth : Nat → Int32} {t_cost : Nat → Int32} {t_price : Nat → Int32} {x1 : Int32} {x2 : Int32} (hnp : np ≤ 10) (hnl : nl ≤ 24) (hnb : nb ≤ 12) (hna : na ≤ 12) (hT : hTold t_told np nl nb na) (hL : hLN nl np t_one t_other) (hC : hCost nl t_cost) : tG tT (fX11_prices t_now t_told t_one t_other t_forth t_cost t_price x1 x2) := by
  exact t_prices hnp hnl hT.1 hT.2.1 hL hC
theorem t_fX11_cheapest {np nl nb na : Nat} {t_now : Nat → Int32} {t_told : Nat → Int32} {t_one : Nat → Int32} {t_other : Nat → Int32} {t_forth : Nat → Int32} {t_cost : Nat → Int32} {t_price : Nat → Int32} {x1 : Int32} {x2 : Int32} (hnp : np ≤ 10) (hnl : nl ≤ 24) (hnb : nb ≤ 12) (hna : na ≤ 12) (hT : hTold t_told np nl nb na) (hL : hLN nl np t_one t_other) (hC : hCost nl t_cost) : tG tT (fX11_cheapest t_now t_told t_one t_other t_forth t_cost t_price x1 x2) := by
  unfold fX11_cheapest
  try simp only [hT.1, hT.2.1, hT.2.2.1, hT.2.2.2]
  refine tgC (t_fX11_noPerson (by omega) (by omega) (by omega) (by omega) hT) (fun u1 hu1 => ?_)
  refine tgI (fun h1 => ?_) (fun h1 => ?_)
  · obtain ⟨x1n, hx1n, rfl⟩ := hu1 h1
    refine tgC (t_fX11_noPerson (by omega) (by omega) (by omega) (by omega) hT) (fun u5 hu5 => ?_)
    refine tgI (fun h2 => ?_) (fun h2 => ?_)
    · obtain ⟨x2n, hx2n, rfl⟩ := hu5 h2
      refine tgC (t_fX11_prices (by omega) (by omega) (by omega) (by omega) hT hL hC) (fun u9 hu9 => ?_)
      refine tgD (vkn (by omega) (by omega)) ?_
      refine tgI (fun h3 => ?_) (fun h3 => ?_)
      · exact tgS trivial
      · exact tgS trivial
    · exact tgS trivial
  · exact tgS trivial
theorem tl_fX11_comeAbout_b23 {Q : (Int32 × (Nat → Int32)) → Prop} {np nl nb na : Nat} {t_told : Nat → Int32} {K4 : Int32 → Int32 → (Nat → Int32) → Option (Int32 × (Nat → Int32))} (hnp : np ≤ 10) (hnl : nl ≤ 24) (hnb : nb ≤ 12) (hna : na ≤ 12) (hT : hTold t_told np nl nb na) : ∀ (n : Nat) (y2 : Int32) (y3 : Nat) (y4 : Nat) (t_price : (Nat → Int32)), y4 ≤ np → y3 < np → np - y4 < n → (∀ (a0 : Int32) (a2 : (Nat → Int32)), tG Q (K4 a0 (nI (y3 + 1)) a2)) → tG Q (fX11_comeAbout_b23 t_told K4 n y2 (nI y3) (nI y4) t_price) := by
  intro n
  induction n with
  | zero =>
    intro y2 y3 y4 t_price hi0 hi1 hm hK
    omega
  | succ n ih =>
    intro y2 y3 y4 t_price hi0 hi1 hm hK
    rw [fX11_comeAbout_b23_s]
    try simp only [hT.1, hT.2.1, hT.2.2.1, hT.2.2.2]
    refine tgI (fun h1 => ?_) (fun h1 => ?_)
    · have h1 := nll (a := np) (b := y4) h1 (by omega) (by omega)
      rw [show ((nI y3) + 1 : Int32) = nI (y3 + 1) from (nadd rfl (show (1 : Int32) = nI 1 from rfl))]
      exact hK _ _
    · have h1 := nln (a := np) (b := y4) h1 (by omega) (by omega)
      refine tgD (vkn (by omega) (by omega)) ?_
      refine tgI (fun h2 => ?_) (fun h2 => ?_)
      · unfold fX11_comeAbout_b53
        try simp only [hT.1, hT.2.1, hT.2.2.1, hT.2.2.2]
        rw [show ((nI y4) + 1 : Int32) = nI (y4 + 1) from (nadd rfl (show (1 : Int32) = nI 1 from rfl))]
        exact ih _ y3 (y4 + 1) _ (by first | omega | assumption | exact Or.inl rfl | exact Or.inr rfl) (by first | omega | assumption | exact Or.inl rfl | exact Or.inr rfl) (by omega) hK
      · unfold fX11_comeAbout_b53
        try simp only [hT.1, hT.2.1, hT.2.2.1, hT.2.2.2]
        rw [show ((nI y4) + 1 : Int32) = nI (y4 + 1) from (nadd rfl (show (1 : Int32) = nI 1 from rfl))]
        exact ih _ y3 (y4 + 1) _ (by first | omega | assumption | exact Or.inl rfl | exact Or.inr rfl) (by first | omega | assumption | exact Or.inl rfl | exact Or.inr rfl) (by omega) hK
theorem tl_fX11_comeAbout_b4 {np nl nb na : Nat} {t_now : Nat → Int32} {t_told : Nat → Int32} {t_one : Nat → Int32} {t_other : Nat → Int32} {t_forth : Nat → Int32} {t_cost : Nat → Int32} {x1 : Int32} (hnp : np ≤ 10) (hnl : nl ≤ 24) (hnb : nb ≤ 12) (hna : na ≤ 12) (hT : hTold t_told np nl nb na) (hL : hLN nl np t_one t_other) (hC : hCost nl t_cost) : ∀ (n : Nat) (y2 : Int32) (y3 : Nat) (t_price : (Nat → Int32)), y3 ≤ np → np - y3 < n → tG tT (fX11_comeAbout_b4 t_now t_told t_one t_other t_forth t_cost x1 n y2 (nI y3) t_price) := by
  intro n
  induction n with
  | zero =>
    intro y2 y3 t_price hi0 hm
    omega
  | succ n ih =>
    intro y2 y3 t_price hi0 hm
    rw [fX11_comeAbout_b4_s]
    try simp only [hT.1, hT.2.1, hT.2.2.1, hT.2.2.2]
    refine tgI (fun h1 => ?_) (fun h1 => ?_)
    · have h1 := nll (a := np) (b := y3) h1 (by omega) (by omega)
      exact tgS trivial
    · have h1 := nln (a := np) (b := y3) h1 (by omega) (by omega)
      refine tgC (t_fX11_prices (by omega) (by omega) (by omega) (by omega) hT hL hC) (fun u2 hu2 => ?_)
      exact (tl_fX11_comeAbout_b23 (by omega) (by omega) (by omega) (by omega) hT FU _ y3 0 _ (by first | omega | assumption | exact Or.inl rfl | exact Or.inr rfl) (by first | omega | assumption | exact Or.inl rfl | exact Or.inr rfl) (by have := FUge; omega) (fun b0 b2 => ih b0 (y3 + 1) b2 (by first | omega | assumption | exact Or.inl rfl | exact Or.inr rfl) (by omega)))
theorem t_fX11_comeAbout {np nl nb na : Nat} {t_now : Nat → Int32} {t_told : Nat → Int32} {t_one : Nat → Int32} {t_other : Nat → Int32} {t_forth : Nat → Int32} {t_cost : Nat → Int32} {t_price : Nat → Int32} {x1 : Int32} (hnp : np ≤ 10) (hnl : nl ≤ 24) (hnb : nb ≤ 12) (hna : na ≤ 12) (hT : hTold t_told np nl nb na) (hL : hLN nl np t_one t_other) (hC : hCost nl t_cost) : tG tT (fX11_comeAbout t_now t_told t_one t_other t_forth t_cost t_price x1) := by
  unfold fX11_comeAbout
  try simp only [hT.1, hT.2.1, hT.2.2.1, hT.2.2.2]
  exact (tl_fX11_comeAbout_b4 (by omega) (by omega) (by omega) (by omega) hT hL hC FU _ 0 _ (by first | omega | assumption | exact Or.inl rfl | exact Or.inr rfl) (by have := FUge; omega))
theorem tl_fX11_vital_b20 {np nl nb na : Nat} {t_now : Nat → Int32} {t_told : Nat → Int32} {t_one : Nat → Int32} {t_other : Nat → Int32} {t_forth : Nat → Int32} {t_cost : Nat → Int32} (hnp : np ≤ 10) (hnl : nl ≤ 24) (hnb : nb ≤ 12) (hna : na ≤ 12) (hT : hTold t_told np nl nb na) (hL : hLN nl np t_one t_other) (hC : hCost nl t_cost) : ∀ (n : Nat) (y1 : Int32) (y2 : Int32) (y3 : Nat) (t_thrown : Int32) (t_price : (Nat → Int32)), y3 ≤ nl → nl - y3 < n → tG tT (fX11_vital_b20 t_now t_told t_one t_other t_forth t_cost n y1 y2 (nI y3) t_thrown t_price) := by
  intro n
  induction n with
  | zero =>
    intro y1 y2 y3 t_thrown t_price hi0 hm
    omega
  | succ n ih =>
    intro y1 y2 y3 t_thrown t_price hi0 hm
    rw [fX11_vital_b20_s]
    try simp only [hT.1, hT.2.1, hT.2.2.1, hT.2.2.2]
    refine tgI (fun h1 => ?_) (fun h1 => ?_)
    · have h1 := nll (a := nl) (b := y3) h1 (by omega) (by omega)
      exact tgS trivial
    · have h1 := nln (a := nl) (b := y3) h1 (by omega) (by omega)
      refine tgI (fun h2 => ?_) (fun h2 => ?_)
      · refine tgC (t_fX11_comeAbout (by omega) (by omega) (by omega) (by omega) hT hL hC) (fun u9 hu9 => ?_)
        refine tgI (fun h3 => ?_) (fun h3 => ?_)
        · unfold fX11_vital_b68
          try simp only [hT.1, hT.2.1, hT.2.2.1, hT.2.2.2]
          unfold fX11_vital_b69
          try simp only [hT.1, hT.2.1, hT.2.2.1, hT.2.2.2]
          rw [show ((nI y3) + 1 : Int32) = nI (y3 + 1) from (nadd rfl (show (1 : Int32) = nI 1 from rfl))]
          exact ih _ _ (y3 + 1) _ _ (by first | omega | assumption | exact Or.inl rfl | exact Or.inr rfl) (by omega)
        · unfold fX11_vital_b69
          try simp only [hT.1, hT.2.1, hT.2.2.1, hT.2.2.2]
          rw [show ((nI y3) + 1 : Int32) = nI (y3 + 1) from (nadd rfl (show (1 : Int32) = nI 1 from rfl))]
          exact ih _ _ (y3 + 1) _ _ (by first | omega | assumption | exact Or.inl rfl | exact Or.inr rfl) (by omega)
      · unfold fX11_vital_b68
        try simp only [hT.1, hT.2.1, hT.2.2.1, hT.2.2.2]
        unfold fX11_vital_b69
        try simp only [hT.1, hT.2.1, hT.2.2.1, hT.2.2.2]
        rw [show ((nI y3) + 1 : Int32) = nI (y3 + 1) from (nadd rfl (show (1 : Int32) = nI 1 from rfl))]
        exact ih _ _ (y3 + 1) _ _ (by first | omega | assumption | exact Or.inl rfl | exact Or.inr rfl) (by omega)
theorem t_fX11_vital {np nl nb na : Nat} {t_now : Nat → Int32} {t_told : Nat → Int32} {t_one : Nat → Int32} {t_other : Nat → Int32} {t_forth : Nat → Int32} {t_cost : Nat → Int32} {t_price : Nat → Int32} (hnp : np ≤ 10) (hnl : nl ≤ 24) (hnb : nb ≤ 12) (hna : na ≤ 12) (hT : hTold t_told np nl nb na) (hL : hLN nl np t_one t_other) (hC : hCost nl t_cost) : tG tT (fX11_vital t_now t_told t_one t_other t_forth t_cost t_price) := by
  unfold fX11_vital
  try simp only [hT.1, hT.2.1, hT.2.2.1, hT.2.2.2]
  refine tgC (t_fX11_comeAbout (by omega) (by omega) (by omega) (by omega) hT hL hC) (fun u1 hu1 => ?_)
  exact (tl_fX11_vital_b20 (by omega) (by omega) (by omega) (by omega) hT hL hC FU _ _ 0 _ _ (by first | omega | assumption | exact Or.inl rfl | exact Or.inr rfl) (by have := FUge; omega))
theorem tl_fX11_canArrange_b20 {np nl nb na : Nat} {t_now : Nat → Int32} {t_told : Nat → Int32} {t_one : Nat → Int32} {t_other : Nat → Int32} {x1 : Nat} (hb_x1 : x1 ≤ 23) (hnp : np ≤ 10) (hnl : nl ≤ 24) (hnb : nb ≤ 12) (hna : na ≤ 12) (hx : x1 < nl) (hT : hTold t_told np nl nb na) (hL : hLN nl np t_one t_other) : ∀ (n : Nat) (y2 : Nat), y2 ≤ nl → nl - y2 < n → tG tT (fX11_canArrange_b20 t_now t_told t_one t_other (nI x1) n (nI y2)) := by
  intro n
  induction n with
  | zero =>
    intro y2 hi0 hm
    omega
  | succ n ih =>
    intro y2 hi0 hm
    rw [fX11_canArrange_b20_s]
    try simp only [hT.1, hT.2.1, hT.2.2.1, hT.2.2.2]
    refine tgI (fun h1 => ?_) (fun h1 => ?_)
    · have h1 := nll (a := nl) (b := y2) h1 (by omega) (by omega)
      exact tgS trivial
    · have h1 := nln (a := nl) (b := y2) h1 (by omega) (by omega)
      refine tgI (fun h2 => ?_) (fun h2 => ?_)
      · rw [show ((nI y2) + 1 : Int32) = nI (y2 + 1) from (nadd rfl (show (1 : Int32) = nI 1 from rfl))]
        exact ih (y2 + 1) (by first | omega | assumption | exact Or.inl rfl | exact Or.inr rfl) (by omega)
      · refine tgD (vkn (by omega) (by omega)) ?_
        refine tgD (vkn (by omega) (by omega)) ?_
        refine tgI (fun h3 => ?_) (fun h3 => ?_)
        · exact tgS trivial
        · refine tgI (fun h4 => ?_) (fun h4 => ?_)
          · exact tgS trivial
          · refine tgI (fun h5 => ?_) (fun h5 => ?_)
            · exact tgS trivial
            · refine tgI (fun h6 => ?_) (fun h6 => ?_)
              · exact tgS trivial
              · rw [show ((nI y2) + 1 : Int32) = nI (y2 + 1) from (nadd rfl (show (1 : Int32) = nI 1 from rfl))]
                exact ih (y2 + 1) (by first | omega | assumption | exact Or.inl rfl | exact Or.inr rfl) (by omega)
theorem t_fX11_canArrange {np nl nb na : Nat} {t_now : Nat → Int32} {t_told : Nat → Int32} {t_one : Nat → Int32} {t_other : Nat → Int32} {t_broken : Nat → Int32} {t_away : Nat → Int32} {x1 : Nat} (hb_x1 : x1 ≤ 23) (hnp : np ≤ 10) (hnl : nl ≤ 24) (hnb : nb ≤ 12) (hna : na ≤ 12) (hx : x1 < nl) (hT : hTold t_told np nl nb na) (hL : hLN nl np t_one t_other) : tG tT (fX11_canArrange t_now t_told t_one t_other t_broken t_away (nI x1)) := by
  unfold fX11_canArrange
  try simp only [hT.1, hT.2.1, hT.2.2.1, hT.2.2.2]
  refine tgC (t_fX11_canCall (x1 := x1) (by omega) (by omega) (by omega) (by omega) (by omega) (by omega) hT hL) (fun u1 hu1 => ?_)
  refine tgI (fun h1 => ?_) (fun h1 => ?_)
  · exact tgS trivial
  · exact (tl_fX11_canArrange_b20 (x1 := x1) (by omega) (by omega) (by omega) (by omega) (by omega) (by omega) hT hL FU 0 (by first | omega | assumption | exact Or.inl rfl | exact Or.inr rfl) (by have := FUge; omega))
