/-! the line of a place when all are ordered by cost -/
def cnt (B : Nat → Bool) : Nat → Nat
  | 0 => 0
  | n + 1 => cnt B n + (if B n = true then 1 else 0)
theorem cnt_p {B : Nat → Bool} {n : Nat} (h : B n = true) : cnt B (n + 1) = cnt B n + 1 := by
  show cnt B n + (if B n = true then 1 else 0) = _
  rw [if_pos h]
theorem cnt_n {B : Nat → Bool} {n : Nat} (h : B n = false) : cnt B (n + 1) = cnt B n := by
  show cnt B n + (if B n = true then 1 else 0) = _
  rw [if_neg (by rw [h]; decide)]
  rfl
theorem cnt_le {B : Nat → Bool} : ∀ n : Nat, cnt B n ≤ n := by
  intro n
  induction n with
  | zero => exact Nat.le_refl _
  | succ n ih =>
    cases h : B n with
    | true => rw [cnt_p h]; omega
    | false => rw [cnt_n h]; omega
theorem cnt_lt {B : Nat → Bool} {m : Nat} (hm : B m = false) : ∀ n : Nat, m < n → cnt B n < n := by
  intro n
  induction n with
  | zero => intro h; omega
  | succ n ih =>
    intro h
    by_cases e : m = n
    · subst e
      rw [cnt_n hm]
      have := cnt_le (B := B) m
      omega
    · have := ih (by omega)
      cases h : B n with
      | true => rw [cnt_p h]; omega
      | false => rw [cnt_n h]; omega
theorem cnt_mono {B B' : Nat → Bool} : ∀ n : Nat, (∀ m, m < n → B m = true → B' m = true) → cnt B n ≤ cnt B' n := by
  intro n
  induction n with
  | zero => intro h; exact Nat.le_refl _
  | succ n ih =>
    intro h
    have := ih (fun m hm => h m (by omega))
    cases hb : B n with
    | true => rw [cnt_p hb, cnt_p (h n (by omega) hb)]; omega
    | false =>
      rw [cnt_n hb]
      cases hc : B' n with
      | true => rw [cnt_p hc]; omega
      | false => rw [cnt_n hc]; omega
theorem cnt_mlt {B B' : Nat → Bool} {m0 : Nat} (h1 : B' m0 = true) (h2 : B m0 = false) : ∀ n : Nat, m0 < n → (∀ m, m < n → B m = true → B' m = true) → cnt B n < cnt B' n := by
  intro n
  induction n with
  | zero => intro h; omega
  | succ n ih =>
    intro h hm
    by_cases e : m0 = n
    · subst e
      rw [cnt_n h2, cnt_p h1]
      have := cnt_mono (B := B) (B' := B') m0 (fun m q => hm m (by omega))
      omega
    · have := ih (by omega) (fun m q => hm m (by omega))
      cases hb : B n with
      | true => rw [cnt_p hb, cnt_p (hm n (by omega) hb)]; omega
      | false =>
        rw [cnt_n hb]
        cases hc : B' n with
        | true => rw [cnt_p hc]; omega
        | false => rw [cnt_n hc]; omega
def bef (c : Nat → Nat) (l m : Nat) : Bool := decide (c m < c l ∨ (c m = c l ∧ m < l))
theorem bef_t {c : Nat → Nat} {l m : Nat} (h : c m < c l ∨ (c m = c l ∧ m < l)) : bef c l m = true := decide_eq_true h
theorem bef_f {c : Nat → Nat} {l m : Nat} (h : ¬ (c m < c l ∨ (c m = c l ∧ m < l))) : bef c l m = false := decide_eq_false h
theorem bef_o {c : Nat → Nat} {l m : Nat} (h : bef c l m = true) : c m < c l ∨ (c m = c l ∧ m < l) := of_decide_eq_true h
def plc (c : Nat → Nat) (nl l : Nat) : Nat := cnt (bef c l) nl
theorem plc_lt {c : Nat → Nat} {nl l : Nat} (h : l < nl) : plc c nl l < nl := cnt_lt (m := l) (bef_f (by omega)) nl h
theorem plc_ne {c : Nat → Nat} {nl l m : Nat} (hl : l < nl) (hm : m < nl) (h : l ≠ m) : plc c nl l ≠ plc c nl m := by
  have key : ∀ a b : Nat, a < nl → (c a < c b ∨ (c a = c b ∧ a < b)) → plc c nl a < plc c nl b := fun a b ha hab =>
    cnt_mlt (m0 := a) (bef_t hab) (bef_f (by omega)) nl ha (fun q _ hq => bef_t (by have := bef_o hq; omega))
  rcases (show (c l < c m ∨ (c l = c m ∧ l < m)) ∨ (c m < c l ∨ (c m = c l ∧ m < l)) by omega) with h1 | h1
  · have := key l m hl h1
    omega
  · have := key m l hm h1
    omega
section
variable {nl : Nat} {c : Nat → Nat} {co : Nat → Int32}
theorem pl_cls (hn : nl ≤ 24) {l : Nat} (hl : l < nl) (hco : ∀ j, j < nl → c j ≤ 999 ∧ co j = nI (c j)) : ∀ f y : Nat, y ≤ nl → nl - y < f → fX1_placeByCost_b4 (nI nl) co (nI l) f (nI (cnt (bef c l) y)) (nI y) = some (nI (plc c nl l)) := by
  intro f
  induction f with
  | zero => intro y h1 h2; omega
  | succ f ih =>
    intro y h1 h2
    rw [fX1_placeByCost_b4_s]
    rcases Nat.lt_or_ge y nl with q | q
    · obtain ⟨a1, a2⟩ := hco y q
      obtain ⟨b1, b2⟩ := hco l hl
      rw [if_neg (nI_ge q (by omega)), gdI (vp_in_nI (by omega) (by decide)), gdI (vp_in_nI (by omega) (by decide)), nI_clamp (show y < 2 ^ 31 by omega), nI_clamp (show l < 2 ^ 31 by omega), a2, b2]
      by_cases d1 : c y < c l
      · rw [if_pos (nI_lt d1 (by omega)), nI_1, nI_1, ← cnt_p (bef_t (Or.inl d1))]
        exact ih (y + 1) (by omega) (by omega)
      · rw [if_neg (nI_nlt (by omega) (by omega))]
        by_cases d2 : c y = c l
        · rw [if_pos (by rw [d2])]
          by_cases d3 : l ≤ y
          · rw [if_pos (nI_le d3 (by omega)), nI_1, ← cnt_n (B := bef c l) (n := y) (bef_f (by omega))]
            exact ih (y + 1) (by omega) (by omega)
          · rw [if_neg (nI_ge (by omega) (by omega)), nI_1, nI_1, ← cnt_p (bef_t (Or.inr ⟨d2, by omega⟩))]
            exact ih (y + 1) (by omega) (by omega)
        · rw [if_neg (fun z => d2 (i_eq32 (by omega) (by omega) z)), nI_1, ← cnt_n (B := bef c l) (n := y) (bef_f (by omega))]
          exact ih (y + 1) (by omega) (by omega)
    · have e : y = nl := by omega
      subst e
      rw [if_pos (nI_le (Nat.le_refl _) (by omega))]
      rfl
theorem pl_ref (hn : nl ≤ 24) {l : Nat} (hl : l < nl) (hco : ∀ j, j < nl → c j ≤ 999 ∧ co j = nI (c j)) {told : Nat → Int32} (hT : told 1 = nI nl) {x1 y2 th : Int32} {K : Int32 → Int32 → Int32 → Option (Int32 × Int32)} : ∀ f y : Nat, y ≤ nl → nl - y < f → fX11_cheapestLine_b43 told co x1 K f y2 (nI l) (nI (cnt (bef c l) y)) (nI y) th = fX11_cheapestLine_b108 x1 K y2 (nI l) (nI (plc c nl l)) th := by
  intro f
  induction f with
  | zero => intro y h1 h2; omega
  | succ f ih =>
    intro y h1 h2
    rw [fX11_cheapestLine_b43_s, hT]
    have z0 : ∀ a : Nat, nI a + 0 = nI a := fun a => nI_add a 0
    rcases Nat.lt_or_ge y nl with q | q
    · obtain ⟨a1, a2⟩ := hco y q
      obtain ⟨b1, b2⟩ := hco l hl
      rw [if_neg (nI_ge q (by omega)), gdI (vp_in_nI (by omega) (by decide)), gdI (vp_in_nI (by omega) (by decide)), nI_clamp (show y < 2 ^ 31 by omega), nI_clamp (show l < 2 ^ 31 by omega), a2, b2]
      unfold fX11_cheapestLine_b94 fX11_cheapestLine_b98 fX11_cheapestLine_b99
      by_cases d1 : c y < c l
      · rw [if_pos (nI_lt d1 (by omega)), nI_1, nI_1, ← cnt_p (bef_t (Or.inl d1))]
        exact ih (y + 1) (by omega) (by omega)
      · rw [if_neg (nI_nlt (by omega) (by omega))]
        by_cases d2 : c y = c l
        · rw [if_pos (by rw [d2])]
          by_cases d3 : l ≤ y
          · rw [if_pos (nI_le d3 (by omega)), z0, nI_1, ← cnt_n (B := bef c l) (n := y) (bef_f (by omega))]
            exact ih (y + 1) (by omega) (by omega)
          · rw [if_neg (nI_ge (by omega) (by omega)), nI_1, nI_1, ← cnt_p (bef_t (Or.inr ⟨d2, by omega⟩))]
            exact ih (y + 1) (by omega) (by omega)
        · rw [if_neg (fun z => d2 (i_eq32 (by omega) (by omega) z)), z0, nI_1, ← cnt_n (B := bef c l) (n := y) (bef_f (by omega))]
          exact ih (y + 1) (by omega) (by omega)
    · have e : y = nl := by omega
      subst e
      rw [if_pos (nI_le (Nat.le_refl _) (by omega))]
      rfl
end
/-- the last of the lines ahead of one that has a place -/
def rs (p : Nat → Nat) (k : Nat) : Nat → Int32
  | 0 => -1
  | y + 1 => if p y = k then nI y else rs p k y
theorem rs_stay {p : Nat → Nat} {k y : Nat} : ∀ z : Nat, y ≤ z → (∀ l, y ≤ l → l < z → p l ≠ k) → rs p k z = rs p k y := by
  intro z
  induction z with
  | zero => intro h _; rw [show y = 0 by omega]
  | succ z ih =>
    intro h h2
    by_cases e : y = z + 1
    · rw [e]
    · show (if p z = k then nI z else rs p k z) = _
      rw [if_neg (h2 z (by omega) (by omega))]
      exact ih (by omega) (fun l a b => h2 l a (by omega))
section
variable {nl : Nat} {c : Nat → Nat} {co cost told : Nat → Int32}
theorem cl_ref (hn : nl ≤ 24) (hco : ∀ j, j < nl → c j ≤ 999 ∧ cost j = nI (c j)) (hT : told 1 = nI nl) {k : Nat} (hk : k < nl) {th : Int32} : ∀ f y : Nat, y ≤ nl → nl - y < f → fX11_cheapestLine_b27 told cost (nI k) f (rs (plc c nl) k y) (nI y) th = some (rs (plc c nl) k nl, th) := by
  intro f
  induction f with
  | zero => intro y h1 h2; omega
  | succ f ih =>
    intro y h1 h2
    rw [fX11_cheapestLine_b27_s, hT]
    rcases Nat.lt_or_ge y nl with q | q
    · rw [if_neg (nI_ge q (by omega))]
      refine (pl_ref hn q hco hT FU 0 (Nat.zero_le _) (by have := FUge; omega)).trans ?_
      unfold fX11_cheapestLine_b108
      have := plc_lt (c := c) q
      rw [nI_1]
      by_cases e : plc c nl y = k
      · rw [if_pos (by rw [e]), show nI y = rs (plc c nl) k (y + 1) from (if_pos e).symm]
        exact ih (y + 1) (by omega) (by omega)
      · rw [if_neg (fun z => e (i_eq32 (by omega) (by omega) z)), show rs (plc c nl) k y = rs (plc c nl) k (y + 1) from (if_neg e).symm]
        exact ih (y + 1) (by omega) (by omega)
    · have e : y = nl := by omega
      subst e
      rw [if_pos (nI_le (Nat.le_refl _) (by omega))]
theorem cl_pl (hn : nl ≤ 24) (hco : ∀ j, j < nl → c j ≤ 999 ∧ co j = nI (c j)) {l : Nat} (hl : l < nl) : fX1_placeByCost (nI nl) co (nI l) = some (nI (plc c nl l)) := by
  unfold fX1_placeByCost
  exact pl_cls hn hl hco FU 0 (Nat.zero_le _) (by have := FUge; omega)
theorem cl_cls (hn : nl ≤ 24) (hco : ∀ j, j < nl → c j ≤ 999 ∧ co j = nI (c j)) {k : Nat} (hk : k < nl) : ∀ f y : Nat, y ≤ nl → nl - y < f → (∀ l, l < y → plc c nl l ≠ k) → fX10_cheapestLine_b2 (nI nl) co (nI k) f (nI y) = some (rs (plc c nl) k nl) := by
  intro f
  induction f with
  | zero => intro y h1 h2; omega
  | succ f ih =>
    intro y h1 h2 h3
    rw [fX10_cheapestLine_b2_s]
    rcases Nat.lt_or_ge y nl with q | q
    · have := plc_lt (c := c) q
      rw [if_neg (nI_ge q (by omega)), cl_pl hn hco q, obs, nI_1]
      by_cases e : plc c nl y = k
      · rw [if_pos (by rw [e]), rs_stay (y := y + 1) nl (by omega) (fun l a b => by rw [← e]; exact plc_ne b q (by omega))]
        show some (nI y) = some (if plc c nl y = k then nI y else _)
        rw [if_pos e]
      · rw [if_neg (fun z => e (i_eq32 (by omega) (by omega) z))]
        exact ih (y + 1) (by omega) (by omega) (fun l hl => by
          by_cases e2 : l = y
          · rw [e2]; exact e
          · exact h3 l (by omega))
    · have e : y = nl := by omega
      subst e
      rw [if_pos (nI_le (Nat.le_refl _) (by omega)), rs_stay (y := 0) y (Nat.zero_le _) (fun l _ b => h3 l b)]
      rfl
theorem cl_out (hn : nl ≤ 24) (hco : ∀ j, j < nl → c j ≤ 999 ∧ co j = nI (c j)) {x1 : Int32} (hx : ∀ k, k < nl → ¬ nI k = x1) : ∀ f y : Nat, y ≤ nl → nl - y < f → fX10_cheapestLine_b2 (nI nl) co x1 f (nI y) = some (-1) := by
  intro f
  induction f with
  | zero => intro y h1 h2; omega
  | succ f ih =>
    intro y h1 h2
    rw [fX10_cheapestLine_b2_s]
    rcases Nat.lt_or_ge y nl with q | q
    · rw [if_neg (nI_ge q (by omega)), cl_pl hn hco q, obs, nI_1, if_neg (hx _ (plc_lt q))]
      exact ih (y + 1) (by omega) (by omega)
    · have e : y = nl := by omega
      subst e
      rw [if_pos (nI_le (Nat.le_refl _) (by omega))]
theorem cl_eq (hn : nl ≤ 24) (hT : told 1 = nI nl) (hco : ∀ j, j < nl → ∃ a : Nat, a ≤ 999 ∧ co j = nI a ∧ cost j = nI a) (x1 : Int32) : ∃ r, fX10_cheapestLine (nI nl) co x1 = some r ∧ fX11_cheapestLine told cost x1 = some (r, 0) := by
  have hF := FUge
  have h1 : ∀ j, j < nl → (co j).toInt.toNat ≤ 999 ∧ co j = nI (co j).toInt.toNat := fun j hj => by
    obtain ⟨a, a1, a2, a3⟩ := hco j hj
    rw [a2, nI_toInt (by omega)]
    exact ⟨a1, rfl⟩
  have h2 : ∀ j, j < nl → (co j).toInt.toNat ≤ 999 ∧ cost j = nI (co j).toInt.toNat := fun j hj => by
    obtain ⟨a, a1, a2, a3⟩ := hco j hj
    rw [a2, nI_toInt (by omega), a3]
    exact ⟨a1, rfl⟩
  have bad : ∀ z : x1 < 0 ∨ nI nl ≤ x1, ∃ r, fX10_cheapestLine (nI nl) co x1 = some r ∧ fX11_cheapestLine told cost x1 = some (r, 0) := fun z => by
    refine ⟨-1, ?_, ?_⟩
    · unfold fX10_cheapestLine
      refine cl_out (c := fun j => (co j).toInt.toNat) hn h1 (fun k hk e => ?_) FU 0 (Nat.zero_le _) (by omega)
      subst e
      rcases z with z | z
      · exact nI_pos (by omega) z
      · exact nI_ge hk (by omega) z
    · unfold fX11_cheapestLine
      rw [hT, if_pos ?_]
      unfold fX11_within
      by_cases d : x1 < 0
      · rw [if_pos d]
      · rcases z with z | z
        · exact absurd z d
        · have e : (nI nl - nI 1).toInt = (nl : Int) - (1 : Nat) := pk_sub_toInt (by omega) (by decide)
          rw [if_neg d, if_pos (show nI nl - 1 < x1 from by
            show nI nl - nI 1 < x1
            rw [Int32.lt_iff_toInt_lt, e]
            rw [Int32.le_iff_toInt_le, nI_toInt (by omega)] at z
            omega)]
  rcases pk_ix x1 (n := nl) (by omega) with z | z | ⟨k, hk, rfl⟩
  · exact bad (Or.inl z)
  · exact bad (Or.inr z)
  · refine ⟨rs (plc (fun j => (co j).toInt.toNat) nl) k nl, ?_, ?_⟩
    · unfold fX10_cheapestLine
      exact cl_cls hn h1 hk FU 0 (Nat.zero_le _) (by omega) (fun l hl => absurd hl (Nat.not_lt_zero l))
    · unfold fX11_cheapestLine
      have hw : ¬ fX11_within (nI k) 0 (nI nl - 1) = 0 := by
        rw [nsub1 (by omega)]
        unfold fX11_within
        rw [if_neg (nI_pos (by omega)), if_neg (nI_nlt (by omega) (by omega))]
        decide
      rw [hT, if_neg hw]
      exact cl_ref hn h2 hT hk FU 0 (Nat.zero_le _) (by omega)
end
