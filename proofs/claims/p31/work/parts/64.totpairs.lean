/-! the reference's fewest rounds -/
def pc (k : Nat) : Nat := k % 2 + k / 2 % 2 + k / 4 % 2 + k / 8 % 2 + k / 16 % 2 + k / 32 % 2
theorem pcLe (k : Nat) : pc k ≤ 6 := by unfold pc; omega
theorem pcSub : ∀ k : Nat, k < 64 → ∀ b : Nat, b < 6 → k.testBit b = false ∨ (2 ^ b ≤ k ∧ pc (k - 2 ^ b) + 1 = pc k) := by decide +kernel
theorem isInBit6 : ∀ m : Nat, m < 64 → ∀ a : Nat, a < 10 → fX11_isIn (nI m) (nI a) = 0 ∨ m.testBit a = true := by decide +kernel
theorem low6 : ∀ k : Nat, k < 64 → ∀ b : Nat, b < 10 → k.testBit b = true → b < 6 := by decide +kernel
section
variable {np nl nb na L : Nat} {now told one other forth broken away : Nat → Int32}
/-- what a call of pairs below does -/
def hRP (np L : Nat) (now told one other forth broken away : Nat → Int32) (m : Nat) (RP : Int32 → (Nat → Int32) → (Nat → Int32) → (Nat → Int32) → (Nat → Int32) → (Nat → Int32) → (Nat → Int32) → (Nat → Int32) → (Nat → Int32) → Int32 → Int32 → Int32 → Option (Int32 × (Nat → Int32))) : Prop := ∀ (deep : Nat → Int32) (x1 k : Nat) (x3 : Int32), x1 < L → k < 2 ^ np → 7 * (L - 1 - x1) + pc k < m → tG tT (RP (nI L) now told one other forth broken away deep (nI x1) (nI k) x3)
variable {m : Nat} {RP : Int32 → (Nat → Int32) → (Nat → Int32) → (Nat → Int32) → (Nat → Int32) → (Nat → Int32) → (Nat → Int32) → (Nat → Int32) → (Nat → Int32) → Int32 → Int32 → Int32 → Option (Int32 × (Nat → Int32))}
theorem tp6 (h : np ≤ 6) : 2 ^ np ≤ 64 ∧ 0 < 2 ^ np := ⟨Nat.pow_le_pow_right (n := 2) (by decide) h, Nat.two_pow_pos np⟩
theorem tl_comes30 {x1 : Nat} (hnp : np ≤ 6) (hT0 : told 0 = nI np) (hL4 : L ≤ 4) (hx : x1 < L) (hm : 7 * (L - 1 - x1) + 6 < m) (hR : hRP np L now told one other forth broken away m RP) : ∀ (n y : Nat) (deep : Nat → Int32), y ≤ np → np - y < n → tG tT (fX11_comes_b30 RP (nI L) now told one other forth broken away (nI x1) n (nI y) deep) := by
  intro n
  induction n with
  | zero => intro y deep h1 h2; omega
  | succ n ih =>
    intro y deep h1 h2
    rw [fX11_comes_b30_s, hT0]
    rcases Nat.lt_or_ge y np with c | c
    · rw [if_neg (nI_ge c (by omega)), show ((6 : Int32) * nI x1) = nI (6 * x1) from pk_mul 6 x1, show nI (6 * x1) + 6 = nI (6 * x1 + 6) from nI_add _ 6, nI_add, nI_add, nI_1]
      exact tgD (vkn (by omega) (by decide)) (tgD (vkn (by omega) (by decide)) (ih _ _ (by omega) (by omega)))
    · have e : y = np := by omega
      subst e
      rw [if_pos (nI_le (Nat.le_refl _) (by omega))]
      unfold fX11_comes_b71
      refine tgC (P := fun z => z = nI (2 ^ y - 1)) ⟨_, t_all (by omega) hT0, rfl⟩ (fun u z => ?_)
      subst z
      have p := tp6 hnp
      have p2 := pcLe (2 ^ y - 1)
      exact tgC (hR deep x1 (2 ^ y - 1) 0 hx (by omega) (by omega)) (fun u _ => tgS trivial)
theorem t_comes {x1 : Nat} {deep : Nat → Int32} (hnp : np ≤ 6) (hnl : nl ≤ 24) (hnb : nb ≤ 12) (hna : na ≤ 12) (hT : hTold told np nl nb na) (hL4 : L ≤ 4) (hx : x1 ≤ L) (hm : x1 < L → 7 * (L - 1 - x1) + 6 < m) (hR : hRP np L now told one other forth broken away m RP) : tG tT (fX11_comes RP (nI L) now told one other forth broken away deep (nI x1)) := by
  unfold fX11_comes
  refine tgC (t_fX11_isEnough (by omega) hnp hnl hnb hna hT) (fun u1 _ => tgI (fun _ => tgI (fun _ => tgS trivial) (fun c => ?_)) (fun _ => tgS trivial))
  have hx2 : x1 < L := by
    rcases Nat.lt_or_ge x1 L with q | q
    · exact q
    · have e : x1 = L := by omega
      exact absurd (by rw [e]) c
  refine tgC (t_fX11_canBe (by omega) hnp hnl hnb hna hT) (fun u6 _ => tgI (fun _ => tgS trivial) (fun _ => ?_))
  exact tl_comes30 hnp hT.1 hL4 hx2 (hm hx2) hR FU 0 deep (Nat.zero_le _) (by have := FUge; omega)
theorem t_pairs361 {x1 b j : Nat} {x3 : Int32} {deep : Nat → Int32} (hx : x1 < L) (hj : j < 2 ^ np) (hm : 7 * (L - 1 - x1) + pc j < m) (hR : hRP np L now told one other forth broken away m RP) : tG tT (fX11_pairs_b361 RP (nI L) now told one other forth broken away (nI x1) x3 (nI b) (nI j) deep) := by
  unfold fX11_pairs_b361
  exact tgC (hR deep x1 j _ hx hj hm) (fun u _ => tgI (fun _ => tgS trivial) (fun _ => tgS trivial))
theorem t_pairs337 {x1 b j : Nat} {x3 y6 : Int32} {deep : Nat → Int32} (hnp : np ≤ 6) (hT0 : told 0 = nI np) (hL4 : L ≤ 4) (hx : x1 < L) (hb : b < 6) (hj : j < 2 ^ np) (hm : 7 * (L - 1 - x1) + pc j < m) (hR : hRP np L now told one other forth broken away m RP) : tG tT (fX11_pairs_b337 RP (nI L) now told one other forth broken away (nI x1) x3 (nI b) (nI j) y6 deep) := by
  unfold fX11_pairs_b337
  refine tgI (fun _ => t_pairs361 hx hj hm hR) (fun _ => ?_)
  rw [show ((6 : Int32) * nI x1) = nI (6 * x1) from pk_mul 6 x1, nI_add]
  refine tgD (vkn (by omega) (by decide)) (tgC (P := fun z => z = nI (2 ^ np - 1)) ⟨_, t_all (by omega) hT0, rfl⟩ (fun u z => ?_))
  exact tgI (fun _ => t_pairs361 hx hj hm hR) (fun _ => tgS trivial)
theorem t_pairs291 {x1 b y7 : Nat} {y5 y6 y8 y9 y10 y11 : Int32} {deep : Nat → Int32} {K : Int32 → Int32 → Int32 → Int32 → Int32 → Int32 → (Nat → Int32) → Option (Int32 × (Nat → Int32))} (hx : x1 < 4) (hb : b < 6) (h7 : y7 < 6) (hK : ∀ d, tG tT (K (nI b) y5 y6 (nI y7) y8 (y9 + 1) d)) : tG tT (fX11_pairs_b291 RP (nI x1) K (nI b) y5 y6 (nI y7) y8 y9 y10 y11 deep) := by
  unfold fX11_pairs_b291
  rw [show ((6 : Int32) * nI x1) = nI (6 * x1) from pk_mul 6 x1, show nI (6 * x1) + 6 = nI (6 * x1 + 6) from nI_add _ 6, nI_add, nI_add]
  exact tgD (vkn (by omega) (by decide)) (tgD (vkn (by omega) (by decide)) (hK _))
theorem t_pairs266 {x1 b y7 j : Nat} {x3 y6 y8 y9 y10 y11 s0 : Int32} {deep : Nat → Int32} {K : Int32 → Int32 → Int32 → Int32 → Int32 → Int32 → (Nat → Int32) → Option (Int32 × (Nat → Int32))} (hnp : np ≤ 6) (hL4 : L ≤ 4) (hx : x1 < L) (hb : b < 6) (h7 : y7 < 6) (hj : j < 2 ^ np) (hjb : j.testBit y7 = true) (hm : 7 * (L - 1 - x1) + pc j < m) (hR : hRP np L now told one other forth broken away m RP) (hK : ∀ d, tG tT (K (nI b) (nI j) y6 (nI y7) y8 (y9 + 1) d)) : tG tT (fX11_pairs_b266 RP (nI L) now told one other forth broken away (nI x1) x3 K (nI b) (nI j) y6 (nI y7) y8 y9 y10 y11 s0 deep) := by
  unfold fX11_pairs_b266
  refine tgI (fun _ => t_pairs291 (by omega) hb h7 hK) (fun _ => ?_)
  have p := tp6 hnp
  rcases pcSub j (by omega) y7 h7 with q | ⟨q1, q2⟩
  · rw [hjb] at q; exact absurd q (by decide)
  · rw [tshlN (by omega : y7 < 10), nsub (a := j) (b := 2 ^ y7) rfl rfl q1]
    have pq := Nat.two_pow_pos y7
    refine tgC (hR deep x1 (j - 2 ^ y7) x3 hx (by omega) (by omega)) (fun u _ => tgI (fun _ => ?_) (fun _ => tgS trivial))
    exact t_pairs291 (by omega) hb h7 hK
theorem t_pairs211 {x1 b y7 j s1 : Nat} {x3 y6 y8 y9 y10 y11 s0 : Int32} {deep : Nat → Int32} {K : Int32 → Int32 → Int32 → Int32 → Int32 → Int32 → (Nat → Int32) → Option (Int32 × (Nat → Int32))} (hnp : np ≤ 6) (hT0 : told 0 = nI np) (hL4 : L ≤ 4) (hx : x1 < L) (hb : b < 6) (h7 : y7 < 6) (hs1 : s1 < 36) (hj : j < 2 ^ np) (hjb : j.testBit y7 = true) (hm : 7 * (L - 1 - x1) + pc j < m) (hR : hRP np L now told one other forth broken away m RP) (hK : ∀ d, tG tT (K (nI b) (nI j) y6 (nI y7) y8 (y9 + 1) d)) : tG tT (fX11_pairs_b211 RP (nI L) now told one other forth broken away (nI x1) x3 K (nI b) (nI j) y6 (nI y7) y8 y9 y10 y11 s0 (nI s1) deep) := by
  unfold fX11_pairs_b211 fX11_pairs_b261 fX11_pairs_b265
  have e6 : (6 : Int32) * nI x1 = nI (6 * x1) := pk_mul 6 x1
  have e7 : nI (6 * x1) + 6 = nI (6 * x1 + 6) := nI_add _ 6
  rw [e6, e7, nI_add (6 * x1 + 6) b, nI_add (6 * x1 + 6) y7]
  refine tgD (vkn hs1 (by decide)) (tgI (fun _ => ?_) (fun _ => ?_))
  · exact t_pairs266 hnp hL4 hx hb h7 hj hjb hm hR hK
  · refine tgD (vkn (by omega) (by decide)) (tgC (P := fun z => z = nI (2 ^ np - 1)) ⟨_, t_all (by omega) hT0, rfl⟩ (fun u _ => tgI (fun _ => ?_) (fun _ => ?_)))
    · refine tgD (vkn (by omega) (by decide)) (tgC (P := fun z => z = nI (2 ^ np - 1)) ⟨_, t_all (by omega) hT0, rfl⟩ (fun u _ => tgI (fun _ => ?_) (fun _ => ?_))) <;> exact t_pairs266 hnp hL4 hx hb h7 hj hjb hm hR hK
    · exact t_pairs266 hnp hL4 hx hb h7 hj hjb hm hR hK
theorem t_pairs179 {x1 b y7 j s1 : Nat} {x3 y6 y8 y9 y10 y11 s0 : Int32} {deep : Nat → Int32} {K : Int32 → Int32 → Int32 → Int32 → Int32 → Int32 → (Nat → Int32) → Option (Int32 × (Nat → Int32))} (hnp : np ≤ 6) (hT0 : told 0 = nI np) (hL4 : L ≤ 4) (hx : x1 < L) (hb : b < 6) (h7 : y7 < 6) (hs1 : s1 < 36) (hj : j < 2 ^ np) (hjb : j.testBit y7 = true) (hm : 7 * (L - 1 - x1) + pc j < m) (hR : hRP np L now told one other forth broken away m RP) (hK : ∀ d, tG tT (K (nI b) (nI j) y6 (nI y7) y8 (y9 + 1) d)) : tG tT (fX11_pairs_b179 RP (nI L) now told one other forth broken away (nI x1) x3 K (nI b) (nI j) y6 (nI y7) y8 y9 y10 y11 s0 (nI s1) deep) := by
  unfold fX11_pairs_b179
  rw [show ((6 : Int32) * nI x1) = nI (6 * x1) from pk_mul 6 x1, show nI (6 * x1) + 6 = nI (6 * x1 + 6) from nI_add _ 6, nI_add (6 * x1 + 6) y7]
  exact tgD (vkn hs1 (by decide)) (tgI (fun _ => t_pairs211 hnp hT0 hL4 hx hb h7 (by omega) hj hjb hm hR hK) (fun _ => t_pairs211 hnp hT0 hL4 hx hb h7 (by omega) hj hjb hm hR hK))
theorem tl_pairs101 {x1 b y7 j : Nat} {x3 y6 y8 : Int32} {K : Int32 → Int32 → Int32 → Int32 → (Nat → Int32) → Option (Int32 × (Nat → Int32))} (hnp : np ≤ 6) (hT0 : told 0 = nI np) (hL4 : L ≤ 4) (hx : x1 < L) (hb : b < 6) (h7 : y7 < 6) (hj : j < 2 ^ np) (hjb : j.testBit y7 = true) (hm : 7 * (L - 1 - x1) + pc j < m) (hR : hRP np L now told one other forth broken away m RP) (hK : ∀ d, tG tT (K (nI b) (nI j) y6 (nI (y7 + 1)) d)) : ∀ (n y : Nat) (deep : Nat → Int32), y ≤ 4 → 4 - y < n → tG tT (fX11_pairs_b101 RP (nI L) now told one other forth broken away (nI x1) x3 K n (nI b) (nI j) y6 (nI y7) y8 (nI y) deep) := by
  intro n
  induction n with
  | zero => intro y deep h1 h2; omega
  | succ n ih =>
    intro y deep h1 h2
    rw [fX11_pairs_b101_s]
    rcases Nat.lt_or_ge y 4 with c | c
    · rw [if_neg (show ¬ (4 : Int32) ≤ nI y from nI_ge (b := 4) c (by omega))]
      have hK2 : ∀ d, tG tT (fX11_pairs_b101 RP (nI L) now told one other forth broken away (nI x1) x3 K n (nI b) (nI j) y6 (nI y7) y8 (nI y + 1) d) := fun d => by
        rw [nI_1]
        exact ih _ _ (by omega) (by omega)
      refine tgI (fun _ => hK2 _) (fun _ => ?_)
      rw [show ((6 : Int32) * nI x1) = nI (6 * x1) from pk_mul 6 x1, show nI (6 * x1) + 6 = nI (6 * x1 + 6) from nI_add _ 6, nI_add (6 * x1) b, nI_add (6 * x1) y7, nI_add (6 * x1 + 6) b]
      refine tgD (vkn (by omega) (by decide)) (tgD (vkn (by omega) (by decide)) (tgI (fun _ => ?_) (fun _ => ?_))) <;> exact t_pairs179 hnp hT0 hL4 hx hb h7 (by omega) hj hjb hm hR hK2
    · have e : y = 4 := by omega
      subst e
      rw [if_pos (show (4 : Int32) ≤ nI 4 from nI_le (Nat.le_refl _) (by omega)), nI_1]
      exact hK _
theorem tl_pairs63 {x1 b j : Nat} {x3 y6 : Int32} (hnp : np ≤ 6) (hnl : nl ≤ 24) (hnb : nb ≤ 12) (hna : na ≤ 12) (hT : hTold told np nl nb na) (hL : hLN nl np one other) (hL4 : L ≤ 4) (hx : x1 < L) (hb : b < 6) (hbn : b < np) (hj : j < 2 ^ np) (hm : 7 * (L - 1 - x1) + pc j < m) (hR : hRP np L now told one other forth broken away m RP) : ∀ (n y : Nat) (deep : Nat → Int32), y ≤ np → np - y < n → tG tT (fX11_pairs_b63 RP (nI L) now told one other forth broken away (nI x1) x3 n (nI b) (nI j) y6 (nI y) deep) := by
  intro n
  induction n with
  | zero => intro y deep h1 h2; omega
  | succ n ih =>
    intro y deep h1 h2
    rw [fX11_pairs_b63_s, hT.1]
    rcases Nat.lt_or_ge y np with c | c
    · rw [if_neg (nI_ge c (by omega))]
      have p := tp6 hnp
      refine tgI (fun _ => ?_) (fun hi => ?_)
      · rw [nI_1]
        exact ih _ _ (by omega) (by omega)
      · have hjb : j.testBit y = true := by
          rcases isInBit6 j (by omega) y (by omega) with z | z
          · exact absurd z hi
          · exact z
        refine tgC (t_fX11_waysOf (by omega) hnl hnb hna hT hL) (fun u21 _ => ?_)
        exact tl_pairs101 hnp hT.1 hL4 hx hb (by omega) hj hjb hm hR (fun d => ih _ _ (by omega) (by omega)) FU 1 deep (by decide) (by have := FUge; omega)
    · have e : y = np := by omega
      subst e
      rw [if_pos (nI_le (Nat.le_refl _) (by omega))]
      exact t_pairs337 hnp hT.1 hL4 hx hb hj hm hR
theorem t_pairs (hnp : np ≤ 6) (hnl : nl ≤ 24) (hnb : nb ≤ 12) (hna : na ≤ 12) (hT : hTold told np nl nb na) (hL : hLN nl np one other) (hL4 : L ≤ 4) : ∀ n : Nat, hRP np L now told one other forth broken away n (fX11_pairs n) := by
  intro n
  induction n with
  | zero => intro deep x1 k x3 h1 h2 h3; omega
  | succ n ih =>
    intro deep x1 k x3 h1 h2 h3
    show tG tT (fX11_pairs_g (fX11_pairs n) (nI L) now told one other forth broken away deep (nI x1) (nI k) x3)
    unfold fX11_pairs_g
    have p := tp6 hnp
    rcases Nat.eq_zero_or_pos k with rfl | h0
    · rw [if_pos (show nI 0 = 0 from rfl)]
      refine tgC (t_fX11_isIdle (by omega) hnl hnb hna hT hL) (fun u53 _ => tgI (fun _ => ?_) (fun _ => tgS trivial))
      rw [nI_1]
      have z : pc 0 = 0 := rfl
      exact tgC (t_comes hnp hnl hnb hna hT hL4 (by omega) (fun q => by omega) ih) (fun u _ => tgI (fun _ => tgS trivial) (fun _ => tgS trivial))
    · rw [if_neg (nI_ne0 h0 (by omega))]
      obtain ⟨b, b1, b2, b3, b4, b5⟩ := t_lowest (k := k) (by omega) h0
      have b6 := low6 k (by omega) b b1 b3
      refine tgC (P := fun z => z = nI b) ⟨_, b5, rfl⟩ (fun u z => ?_)
      subst z
      rw [tshlN b1, nsub (a := k) (b := 2 ^ b) rfl rfl b2]
      rcases pcSub k (by omega) b b6 with q | ⟨q1, q2⟩
      · rw [b3] at q; exact absurd q (by decide)
      · have pq := Nat.two_pow_pos b
        have hbn : b < np := by
          have : 2 ^ b < 2 ^ np := by omega
          exact (Nat.pow_lt_pow_iff_right (by decide)).mp this
        refine tgI (fun _ => ?_) (fun _ => ?_) <;> exact tl_pairs63 hnp hnl hnb hna hT hL hL4 h1 b6 hbn (by omega) (by omega) ih FU 0 deep (Nat.zero_le _) (by have := FUge; omega)
theorem tl_fewest67 {L : Nat} {th : Int32} {K : Int32 → Int32 → Int32 → (Nat → Int32) → Option (Int32 × Int32 × Int32 × (Nat → Int32))} (hnp : np ≤ 6) (hnl : nl ≤ 24) (hnb : nb ≤ 12) (hna : na ≤ 12) (hT : hTold told np nl nb na) (hL : hLN nl np one other) (hL4 : L ≤ 4) (hK : ∀ d, tG tT (K (nI L + 1) th (nI L) d)) : ∀ (n y : Nat) (deep : Nat → Int32), y ≤ np → np - y < n → tG tT (fX11_fewest_b67 now told one other forth broken away K n (nI L) (nI y) th (nI L) deep) := by
  intro n
  induction n with
  | zero => intro y deep h1 h2; omega
  | succ n ih =>
    intro y deep h1 h2
    rw [fX11_fewest_b67_s, hT.1]
    rcases Nat.lt_or_ge y np with c | c
    · rw [if_neg (nI_ge c (by omega)), show (4 : Int32) + nI y = nI (4 + y) from nI_add 4 y, nI_1]
      exact tgD (vkn (by omega) (by decide)) (tgD (vkn (by omega) (by decide)) (ih _ _ (by omega) (by omega)))
    · have e : y = np := by omega
      subst e
      rw [if_pos (nI_le (Nat.le_refl _) (by omega))]
      unfold fX11_fewest_b97
      refine tgC (t_comes (x1 := 0) (m := FR) hnp hnl hnb hna hT hL4 (Nat.zero_le _) (fun q => ?_) (t_pairs hnp hnl hnb hna hT hL hL4 FR)) (fun u _ => tgI (fun _ => hK _) (fun _ => tgS trivial))
      unfold FR
      omega
theorem tl_fewest55 {x1 : Nat} {th : Int32} (hx : x1 ≤ 4) (hnp : np ≤ 6) (hnl : nl ≤ 24) (hnb : nb ≤ 12) (hna : na ≤ 12) (hT : hTold told np nl nb na) (hL : hLN nl np one other) : ∀ (n y : Nat) (lim : Int32) (deep : Nat → Int32), y ≤ x1 + 1 → x1 + 1 - y < n → tG tT (fX11_fewest_b55 now told one other forth broken away (nI x1) n (nI y) th lim deep) := by
  intro n
  induction n with
  | zero => intro y lim deep h1 h2; omega
  | succ n ih =>
    intro y lim deep h1 h2
    rw [fX11_fewest_b55_s]
    refine tgI (fun _ => tgS trivial) (fun c => ?_)
    have := nltn (a := x1) (b := y) c (by omega) (by omega)
    refine tl_fewest67 hnp hnl hnb hna hT hL (by omega) (fun d => ?_) FU 0 deep (Nat.zero_le _) (by have := FUge; omega)
    rw [nI_1]
    exact ih _ _ _ (by omega) (by omega)
theorem t_fewest {x1 lim : Int32} {deep : Nat → Int32} (hnp : np ≤ 10) (hnl : nl ≤ 24) (hnb : nb ≤ 12) (hna : na ≤ 12) (hT : hTold told np nl nb na) (hL : hLN nl np one other) : tG tT (fX11_fewest lim now told one other forth broken away deep x1) := by
  unfold fX11_fewest
  refine tgI (fun _ => ?_) (fun c => ?_)
  · unfold fX11_fewest_b20
    refine tgN (fun w hw => ?_)
    obtain rfl : w = (1, 1) := hw
    exact tgI (fun c => absurd c (by decide)) (fun _ => tgS trivial)
  · obtain ⟨k, k1, rfl⟩ := pwn (b := 4) (by decide) c
    unfold fX11_fewest_b20
    refine tgN (fun w hw => ?_)
    obtain rfl : w = (0, 0) := hw
    refine tgI (fun _ => ?_) (fun c => absurd rfl c)
    rw [hT.1]
    refine tgI (fun q => ?_) (fun _ => ?_)
    · have := nll (a := np) (b := 6) q (by omega) (by decide)
      unfold fX11_fewest_b44
      refine tgN (fun w hw => ?_)
      obtain rfl : w = (0, 0) := hw
      refine tgI (fun _ => ?_) (fun c => absurd rfl c)
      exact tl_fewest55 k1 this hnl hnb hna hT hL FU 0 _ _ (by omega) (by have := FUge; omega)
    · unfold fX11_fewest_b44
      refine tgN (fun w hw => ?_)
      obtain rfl : w = (1, 2) := hw
      exact tgI (fun c => absurd c (by decide)) (fun _ => tgS trivial)
end
