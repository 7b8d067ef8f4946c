/-! the class's best set: among all free sets the one of the greatest worth -/
theorem lsubT {x y : Int64} (h1 : -4611686018427387904 ≤ x.toInt - y.toInt) (h2 : x.toInt - y.toInt < 4611686018427387904) : (x - y).toInt = x.toInt - y.toInt := by
  rw [Int64.toInt_sub]
  unfold Int.bmod
  simp only []
  omega
theorem laddT {x y : Int64} (h1 : -4611686018427387904 ≤ x.toInt + y.toInt) (h2 : x.toInt + y.toInt < 4611686018427387904) : (x + y).toInt = x.toInt + y.toInt := by
  rw [Int64.toInt_add]
  unfold Int.bmod
  simp only []
  omega
theorem w40 : ∀ g : Nat, g < 20 → (nI g).toInt64 <<< ((40 : Int32).toInt64 &&& 63) = lN (g * 1099511627776) := by decide +kernel
theorem w24 : ∀ c : Nat, c < 1000 → (nI c).toInt64 <<< ((24 : Int32).toInt64 &&& 63) = lN (c * 16777216) := by decide +kernel
theorem w1l : ∀ l : Nat, l < 24 → (1 : Int64) <<< ((nI l).toInt64 &&& 63) = lN (2 ^ l) := by decide +kernel
def wth (g c l : Nat) : Int := (g : Int) * 1099511627776 - (c : Int) * 16777216 - ((2 ^ l : Nat) : Int)
theorem p2l : ∀ l : Nat, l < 8 → 2 ^ l ≤ 128 ∧ 1 ≤ 2 ^ l := by decide
theorem worthT {g c l : Nat} (hg : g < 20) (hc : c < 1000) (hl : l < 8) : (fX0_worth (nI g) (nI c) (nI l)).toInt = wth g c l := by
  have h1 : (lN (g * 1099511627776)).toInt = ((g * 1099511627776 : Nat) : Int) := pk_lT (by omega)
  have h2 : (lN (c * 16777216)).toInt = ((c * 16777216 : Nat) : Int) := pk_lT (by omega)
  obtain ⟨p1, p2⟩ := p2l l hl
  have h3 : (lN (2 ^ l)).toInt = ((2 ^ l : Nat) : Int) := pk_lT (by omega)
  have e1 : (lN (g * 1099511627776) - lN (c * 16777216)).toInt = ((g * 1099511627776 : Nat) : Int) - ((c * 16777216 : Nat) : Int) := by
    rw [lsubT (by rw [h1, h2]; omega) (by rw [h1, h2]; omega), h1, h2]
  unfold fX0_worth
  rw [w40 g hg, w24 c hc, w1l l (by omega), lsubT (by rw [e1, h3]; omega) (by rw [e1, h3]; omega), e1, h3]
  unfold wth
  omega
theorem wth_pos {g c l : Nat} (hg : 0 < g) (hc : c < 1000) (hl : l < 8) : 0 < wth g c l := by
  obtain ⟨p1, p2⟩ := p2l l hl
  unfold wth
  omega
theorem wth_neg {c l : Nat} (hl : l < 8) : wth 0 c l < 0 := by
  obtain ⟨p1, p2⟩ := p2l l hl
  unfold wth
  omega
theorem wth_lt {g c l : Nat} (hg : g < 20) : wth g c l ≤ 20 * 1099511627776 := by
  have hpos : (0 : Int) ≤ ((2 ^ l : Nat) : Int) := Int.natCast_nonneg _
  unfold wth
  omega
/-- bits of small groups -/
theorem tb_add : ∀ p : Nat, p < 7 → ∀ G : Nat, G < 2 ^ p → ∀ i : Nat, (2 ^ p + G).testBit i = (decide (i = p) || G.testBit i) := by
  intro p hp G hG i
  rw [show 2 ^ p + G = 2 ^ p ||| G by
    have := Nat.two_pow_add_eq_or_of_lt hG 1
    rw [Nat.mul_one] at this
    exact this]
  rw [Nat.testBit_or, Nat.testBit_two_pow]
  by_cases e : p = i
  · rw [decide_eq_true e, decide_eq_true e.symm]
  · rw [decide_eq_false e, decide_eq_false (fun z => e z.symm)]
theorem tb_sub : ∀ G : Nat, G < 128 → ∀ q : Nat, q < 7 → G.testBit q = true → 2 ^ q ≤ G ∧ (∀ i : Nat, i < 7 → (G - 2 ^ q).testBit i = (G.testBit i && !decide (i = q))) := by decide +kernel
theorem tb_hi {G p i : Nat} (hG : G < 2 ^ p) (hi : p ≤ i) : G.testBit i = false := Nat.testBit_lt_two_pow (Nat.lt_of_lt_of_le hG (Nat.pow_le_pow_right (by decide) hi))
theorem tb_sub2 {G q : Nat} (hG : G < 128) (hq : G.testBit q = true) : q < 7 ∧ 2 ^ q ≤ G ∧ ∀ i : Nat, (G - 2 ^ q).testBit i = (G.testBit i && !decide (i = q)) := by
  have hq7 : q < 7 := by
    rcases Nat.lt_or_ge q 7 with h | h
    · exact h
    · rw [tb_hi (p := 7) hG h] at hq
      exact absurd hq (by decide)
  obtain ⟨h1, h2⟩ := tb_sub G hG q hq7 hq
  refine ⟨hq7, h1, fun i => ?_⟩
  rcases Nat.lt_or_ge i 7 with h | h
  · exact h2 i h
  · rw [tb_hi (p := 7) hG h, tb_hi (G := G - 2 ^ q) (p := 7) (Nat.lt_of_le_of_lt (Nat.sub_le _ _) hG) h]
    rfl
theorem grp_is : ∀ G : Nat, G < 128 → ∀ q : Nat, q < 7 → fX10_isIn (nI G) (nI q) = if G.testBit q = true then 1 else 0 := by decide +kernel
theorem grp_off : ∀ G : Nat, G < 128 → ∀ q : Nat, q < 7 → G.testBit q = true → (nI G &&& (((1 : Int32) <<< (nI q &&& 31)) ^^^ (-1))) = nI (G - 2 ^ q) := by decide +kernel
def pkey (x y : Nat) : Nat := (if x < y then y else x) * 10 + (if y < x then y else x)
theorem pkey_of : ∀ x : Nat, x < 7 → ∀ y : Nat, y < 7 → fX0_pairOf (nI x) (nI y) = nI (pkey x y) ∧ pkey x y < 100 := by decide +kernel
theorem pkey_inj0 : ∀ x y p q : Fin 7, pkey x.val y.val = pkey p.val q.val → (x.val = p.val ∧ y.val = q.val) ∨ (x.val = q.val ∧ y.val = p.val) := by decide +kernel
theorem pkey_inj (x : Nat) (hx : x < 7) (y : Nat) (hy : y < 7) (p : Nat) (hp : p < 7) (q : Nat) (hq : q < 7) (h : pkey x y = pkey p q) : (x = p ∧ y = q) ∨ (x = q ∧ y = p) := pkey_inj0 ⟨x, hx⟩ ⟨y, hy⟩ ⟨p, hp⟩ ⟨q, hq⟩ h
theorem maxT {x y : Int64} : (if x < y then y else x).toInt = if y.toInt ≤ x.toInt then x.toInt else y.toInt := by
  by_cases d : x < y
  · rw [if_pos d]
    rw [Int64.lt_iff_toInt_lt] at d
    rw [if_neg (by omega)]
  · rw [if_neg d]
    rw [Int64.lt_iff_toInt_lt] at d
    rw [if_pos (by omega)]
theorem pkey_sym {x y p q : Nat} (h : (x = p ∧ y = q) ∨ (x = q ∧ y = p)) : pkey x y = pkey p q := by
  unfold pkey
  rcases h with ⟨rfl, rfl⟩ | ⟨rfl, rfl⟩
  · rfl
  · by_cases c : x < y
    · rw [if_pos c, if_neg (by omega), if_neg (by omega), if_pos c]
    · by_cases d : y < x
      · rw [if_neg c, if_pos d, if_pos d, if_neg c]
      · rw [if_neg c, if_neg d, if_neg d, if_neg c, show x = y by omega]
theorem swm_le {S : Nat → Bool} {w : Nat → Int} {M : Int} (hM : 0 ≤ M) : ∀ n : Nat, (∀ l, l < n → S l = true → w l ≤ M) → swm S w n ≤ M * n := by
  intro n
  induction n with
  | zero => intro _; show (0 : Int) ≤ M * 0; omega
  | succ n ih =>
    intro h
    have h1 := ih (fun l hl => h l (by omega))
    have e : M * ((n + 1 : Nat) : Int) = M * n + M := by rw [Int.natCast_succ, Int.mul_add, Int.mul_one]
    rw [e]
    show swm S w n + (if S n = true then w n else 0) ≤ M * n + M
    cases hs : S n with
    | true =>
      have := h n (by omega) hs
      rw [if_pos rfl]; omega
    | false => rw [if_neg (by decide)]; omega
section
variable {np nl : Nat} {a b c g : Nat → Nat} {us : Nat → Bool} {fi se co ow pcs : Nat → Int32} {U : Int32}
/-- the lines as class has them -/
def hEx (np nl : Nat) (a b c : Nat → Nat) (fi se co : Nat → Int32) : Prop := np ≤ 7 ∧ nl ≤ 8 ∧ ∀ l, l < nl → a l < np ∧ b l < np ∧ a l ≠ b l ∧ c l < 1000 ∧ fi l = nI (a l) ∧ se l = nI (b l) ∧ co l = nI (c l)
def hGn (nl : Nat) (g : Nat → Nat) (fi se ow pcs : Nat → Int32) : Prop := ∀ l, l < nl → g l < 20 ∧ fX1_gainOfLine fi se ow pcs (nI l) = some (nI (g l))
def hUs (nl : Nat) (us : Nat → Bool) (U : Int32) : Prop := ∀ l, l < nl → fX10_isIn U (nI l) = if us l = true then 1 else 0
def good (a b g : Nat → Nat) (us : Nat → Bool) (l p q : Nat) : Prop := us l = true ∧ 0 < g l ∧ ((a l = p ∧ b l = q) ∨ (a l = q ∧ b l = p))
def wln (g c : Nat → Nat) : Nat → Int := fun l => wth (g l) (c l) l
def PWI (a b c g : Nat → Nat) (us : Nat → Bool) (wp : Nat → Int64) (n : Nat) : Prop := ∀ p q, p < 7 → q < 7 → p ≠ q → 0 ≤ (wp (pkey p q)).toInt ∧ ((wp (pkey p q)).toInt = 0 ∨ ∃ l, l < n ∧ good a b g us l p q ∧ (wp (pkey p q)).toInt = wln g c l) ∧ ∀ l, l < n → good a b g us l p q → wln g c l ≤ (wp (pkey p q)).toInt
def PFI (g : Nat → Nat) (us : Nat → Bool) (y : Int32) (n : Nat) : Prop := (y = 0 ∧ ∀ l, l < n → us l = true → g l = 0) ∨ (y = 1 ∧ ∃ l, l < n ∧ us l = true ∧ 0 < g l)
theorem PWI_skip {wp : Nat → Int64} {n : Nat} (h : PWI a b c g us wp n) (hn : ¬ (us n = true ∧ 0 < g n)) : PWI a b c g us wp (n + 1) := by
  intro p q hp hq hne
  obtain ⟨h1, h2, h3⟩ := h p q hp hq hne
  refine ⟨h1, ?_, fun l hl hg => ?_⟩
  · rcases h2 with h2 | ⟨l, l1, l2⟩
    · exact Or.inl h2
    · exact Or.inr ⟨l, by omega, l2⟩
  · by_cases e : l = n
    · rw [e] at hg
      exact absurd ⟨hg.1, hg.2.1⟩ hn
    · exact h3 l (by omega) hg
theorem PFI_skip {y : Int32} {n : Nat} (h : PFI g us y n) (hn : us n = true → g n = 0) : PFI g us y (n + 1) := by
  rcases h with ⟨h1, h2⟩ | ⟨h1, l, l1, l2⟩
  · refine Or.inl ⟨h1, fun l hl hs => ?_⟩
    by_cases e : l = n
    · rw [e] at hs ⊢
      exact hn hs
    · exact h2 l (by omega) hs
  · exact Or.inr ⟨h1, l, by omega, l2⟩
theorem rank33 (hE : hEx np nl a b c fi se co) (hG : hGn nl g fi se ow pcs) (hU : hUs nl us U) : ∀ (f l : Nat) (y : Int32) (wp : Nat → Int64), l ≤ nl → nl - l < f → PWI a b c g us wp l → PFI g us y l → tG (fun r => PFI g us r.1 nl ∧ PWI a b c g us r.2 nl) (fX0_rankPairs_b33 (nI nl) fi se co ow pcs U f y (nI l) wp) := by
  obtain ⟨hnp, hnl, hE⟩ := hE
  intro f
  induction f with
  | zero => intro l y wp h1 h2; omega
  | succ f ih =>
    intro l y wp h1 h2 h3 h4
    rw [fX0_rankPairs_b33_s]
    rcases Nat.lt_or_ge l nl with q | q
    · obtain ⟨e1, e2, e3, e4, e5, e6, e7⟩ := hE l q
      obtain ⟨g1, g2⟩ := hG l q
      rw [if_neg (nI_ge q (by omega)), hU l q]
      unfold fX0_rankPairs_b62
      cases hs : us l with
      | false =>
        rw [ifF, if_pos rfl, if_pos (show (0 : Int32) ≤ 0 by decide), nI_1]
        exact ih (l + 1) y wp (by omega) (by omega) (PWI_skip h3 (fun z => by rw [hs] at z; exact absurd z.1 (by decide))) (PFI_skip h4 (fun z => by rw [hs] at z; exact absurd z (by decide)))
      | true =>
        rw [if_pos rfl, if_neg one0, g2, obs]
        rcases Nat.eq_zero_or_pos (g l) with z | z
        · rw [if_pos (by rw [z]; decide), nI_1]
          exact ih (l + 1) y wp (by omega) (by omega) (PWI_skip h3 (fun w => by omega)) (PFI_skip h4 (fun _ => z))
        · rw [if_neg (nI_nle z (by omega)), nI_clamp (by omega : l < 2 ^ 31), e5, e6, e7]
          obtain ⟨k1, k2⟩ := pkey_of (a l) (by omega) (b l) (by omega)
          have hw : (fX0_worth (nI (g l)) (nI (c l)) (nI l)).toInt = wln g c l := worthT g1 e4 (by omega)
          refine tgD (vkn (by omega) (by decide)) (tgN (fun w13 hw13 => ?_))
          rw [k1] at hw13
          subst hw13
          rw [nI_clamp (by omega : pkey (a l) (b l) < 2 ^ 31), nI_1]
          refine tgD (vkn k2 (by decide)) (tgN (fun w18 hw18 => ?_))
          have hwp : w18.toInt = if (wp (pkey (a l) (b l))).toInt ≤ wln g c l then wln g c l else (wp (pkey (a l) (b l))).toInt := by
            rw [hw18, maxT, hw]
          refine ih (l + 1) 1 _ (by omega) (by omega) (fun p r hp hr hne => ?_) (Or.inr ⟨rfl, l, by omega, hs, z⟩)
          obtain ⟨i1, i2, i3⟩ := h3 p r hp hr hne
          by_cases e : pkey p r = pkey (a l) (b l)
          · rw [e, pk_uLs, hwp]
            rw [e] at i1 i2 i3
            have hgd : good a b g us l p r := ⟨hs, z, by
              rcases pkey_inj p hp r hr (a l) (by omega) (b l) (by omega) e with ⟨x1, x2⟩ | ⟨x1, x2⟩
              · exact Or.inl ⟨x1.symm, x2.symm⟩
              · exact Or.inr ⟨x2.symm, x1.symm⟩⟩
            have hpos : 0 < wln g c l := wth_pos z e4 (by omega)
            by_cases d : (wp (pkey (a l) (b l))).toInt ≤ wln g c l
            · rw [if_pos d]
              refine ⟨Int.le_of_lt hpos, Or.inr ⟨l, by omega, hgd, rfl⟩, fun m hm hg => ?_⟩
              by_cases em : m = l
              · rw [em]; exact Int.le_refl _
              · exact Int.le_trans (i3 m (by omega) hg) d
            · rw [if_neg d]
              refine ⟨i1, ?_, fun m hm hg => ?_⟩
              · rcases i2 with i2 | ⟨m, m1, m2⟩
                · exact Or.inl i2
                · exact Or.inr ⟨m, by omega, m2⟩
              · by_cases em : m = l
                · rw [em]; exact Int.le_of_lt (Int.not_le.mp d)
                · exact i3 m (by omega) hg
          · rw [pk_uLn e]
            refine ⟨i1, ?_, fun m hm hg => ?_⟩
            · rcases i2 with i2 | ⟨m, m1, m2⟩
              · exact Or.inl i2
              · exact Or.inr ⟨m, by omega, m2⟩
            · by_cases em : m = l
              · rw [em] at hg
                exact absurd (pkey_sym (by
                  rcases hg.2.2 with ⟨x1, x2⟩ | ⟨x1, x2⟩
                  · exact Or.inl ⟨x1.symm, x2.symm⟩
                  · exact Or.inr ⟨x2.symm, x1.symm⟩)) e
              · exact i3 m (by omega) hg
    · have e : l = nl := by omega
      subst e
      rw [if_pos (nI_le (Nat.le_refl _) (by omega))]
      refine tgB ?_ (tgS ⟨h4, h3⟩)
      rcases h4 with h4 | h4
      · exact Or.inl h4.1
      · exact Or.inr h4.1
theorem rank6 (hE : hEx np nl a b c fi se co) (hG : hGn nl g fi se ow pcs) (hU : hUs nl us U) : ∀ (f y : Nat) (wp : Nat → Int64), y ≤ 100 → 100 - y < f → (∀ j, j < y → wp j = 0) → tG (fun r => PFI g us r.1 nl ∧ PWI a b c g us r.2 nl) (fX0_rankPairs_b6 (nI nl) fi se co ow pcs U f 0 (nI y) wp) := by
  intro f
  induction f with
  | zero => intro y wp h1 h2; omega
  | succ f ih =>
    intro y wp h1 h2 h3
    rw [fX0_rankPairs_b6_s]
    rcases Nat.lt_or_ge y 100 with q | q
    · rw [if_neg (show ¬ (100 : Int32) ≤ nI y from nI_ge (b := 100) q (by decide)), nI_1, nI_clamp (by omega)]
      refine tgD (vkn q (by decide)) (ih (y + 1) _ (by omega) (by omega) (fun j hj => ?_))
      by_cases e : j = y
      · rw [e, pk_uLs]
      · rw [pk_uLn e]
        exact h3 j (by omega)
    · rw [if_pos (show (100 : Int32) ≤ nI y from nI_le (a := 100) q (by omega))]
      refine rank33 hE hG hU FU 0 0 wp (Nat.zero_le _) (by have := FUge; have := hE.2.1; omega) (fun p r hp hr hne => ?_) (Or.inl ⟨rfl, fun l hl => absurd hl (Nat.not_lt_zero l)⟩)
      have e : wp (pkey p r) = 0 := h3 _ (by have := (pkey_of p hp r hr).2; omega)
      rw [e]
      exact ⟨by decide, Or.inl rfl, fun l hl => absurd hl (Nat.not_lt_zero l)⟩
end
