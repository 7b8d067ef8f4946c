/-! rows on small numbers, and pieces of the reference by hand -/
theorem i_nat (x : Int32) : ∃ k : Nat, k < 2 ^ 32 ∧ x = nI k := by
  refine ⟨x.toBitVec.toNat, x.toBitVec.isLt, ?_⟩
  apply Int32.toBitVec_inj.mp
  apply BitVec.eq_of_toNat_eq
  have h2 : (nI x.toBitVec.toNat).toBitVec.toNat = x.toBitVec.toNat % 2 ^ 32 := rfl
  rw [h2, Nat.mod_eq_of_lt x.toBitVec.isLt]
theorem nI_bv {k : Nat} (h : k < 2 ^ 32) : (nI k).toBitVec.toNat = k := by
  have h2 : (nI k).toBitVec.toNat = k % 2 ^ 32 := rfl
  rw [h2, Nat.mod_eq_of_lt h]
theorem nI_ofbv {x : Int32} {k : Nat} (h : k < 2 ^ 32) (e : x.toBitVec.toNat = k) : x = nI k := by
  apply Int32.toBitVec_inj.mp
  apply BitVec.eq_of_toNat_eq
  rw [nI_bv h, e]
theorem i_andN {a b : Nat} (ha : a < 2 ^ 32) (hb : b < 2 ^ 32) : nI a &&& nI b = nI (a &&& b) := by
  have h3 : a &&& b ≤ a := Nat.and_le_left
  refine nI_ofbv (by omega) ?_
  have h1 : (nI a &&& nI b).toBitVec.toNat = (nI a).toBitVec.toNat &&& (nI b).toBitVec.toNat := by
    show ((nI a).toBitVec &&& (nI b).toBitVec).toNat = _
    rw [BitVec.toNat_and]
  rw [h1, nI_bv ha, nI_bv hb]
theorem i_orN {a b : Nat} (ha : a < 2 ^ 32) (hb : b < 2 ^ 32) : nI a ||| nI b = nI (a ||| b) := by
  refine nI_ofbv (Nat.or_lt_two_pow ha hb) ?_
  have h1 : (nI a ||| nI b).toBitVec.toNat = (nI a).toBitVec.toNat ||| (nI b).toBitVec.toNat := by
    show ((nI a).toBitVec ||| (nI b).toBitVec).toNat = _
    rw [BitVec.toNat_or]
  rw [h1, nI_bv ha, nI_bv hb]
theorem i_eq32 {a b : Nat} (ha : a < 2 ^ 32) (hb : b < 2 ^ 32) (h : nI a = nI b) : a = b := by
  rw [← nI_bv ha, ← nI_bv hb, h]
/-- how many bits: an answer, one at least where there is one, no more than the number -/
theorem tl_many : ∀ (n k c : Nat), k < 2 ^ 32 → k < n → ∃ d, d ≤ k ∧ (0 < k → 1 ≤ d) ∧ fX11_many_b4 n (nI c) (nI k) = some (nI (c + d)) := by
  intro n
  induction n with
  | zero => intro k c h1 h2; omega
  | succ n ih =>
    intro k c h1 h2
    rw [fX11_many_b4_s]
    rcases Nat.eq_zero_or_pos k with rfl | hk
    · rw [if_pos (show nI 0 = 0 from rfl)]
      exact ⟨0, Nat.le_refl 0, fun q => absurd q (by omega), rfl⟩
    · rw [if_neg (fun (q : nI k = 0) => absurd (i_eq32 h1 (by decide) (show nI k = nI 0 from q)) (by omega))]
      have e1 : nI k - 1 = nI (k - 1) := nsub (a := k) (b := 1) rfl rfl hk
      have e2 : nI c + 1 = nI (c + 1) := nadd (a := c) (b := 1) rfl rfl
      have l1 : k &&& (k - 1) ≤ k - 1 := Nat.and_le_right
      rw [e1, e2, i_andN h1 (by omega)]
      obtain ⟨d, q1, q2, q3⟩ := ih (k &&& (k - 1)) (c + 1) (by omega) (by omega)
      refine ⟨d + 1, by omega, fun _ => by omega, ?_⟩
      rw [q3, Nat.add_assoc, Nat.add_comm 1 d]
theorem t_many {k : Nat} (h : k < 2 ^ 32) : ∃ d, d ≤ k ∧ (0 < k → 1 ≤ d) ∧ fX11_many (nI k) = some (nI d) := by
  obtain ⟨d, h1, h2, h3⟩ := tl_many FU k 0 h (by unfold FU; omega)
  refine ⟨d, h1, h2, ?_⟩
  unfold fX11_many
  rw [Nat.zero_add] at h3
  exact h3
theorem t_many0 (x0 : Int32) : tG tT (fX11_many x0) := by
  obtain ⟨k, h1, rfl⟩ := i_nat x0
  obtain ⟨d, _, _, h⟩ := t_many h1
  exact ⟨_, h, trivial⟩
/-- the lowest bit of a set of at most ten -/
theorem low10 : ∀ k : Nat, k < 1024 → 0 < k → ∃ b : Nat, b < 10 ∧ 2 ^ b ≤ k ∧ k.testBit b = true ∧ fX11_isIn (nI k) (nI b) = 1 ∧ ∀ j : Nat, j < b → fX11_isIn (nI k) (nI j) = 0 := by decide +kernel
theorem tl_lowest {x0 : Int32} {b : Nat} (h1 : fX11_isIn x0 (nI b) = 1) (h0 : ∀ j : Nat, j < b → fX11_isIn x0 (nI j) = 0) : ∀ (n j : Nat), j ≤ b → b - j < n → fX11_lowest_b2 x0 n (nI j) = some (nI b) := by
  intro n
  induction n with
  | zero => intro j q1 q2; omega
  | succ n ih =>
    intro j q1 q2
    rw [fX11_lowest_b2_s]
    rcases Nat.lt_or_ge j b with q | q
    · rw [if_pos (h0 j q), show nI j + 1 = nI (j + 1) from nadd (a := j) (b := 1) rfl rfl]
      exact ih (j + 1) (by omega) (by omega)
    · have e : j = b := by omega
      subst e
      rw [if_neg (by rw [h1]; decide)]
theorem t_lowest {k : Nat} (h : k < 1024) (h0 : 0 < k) : ∃ b : Nat, b < 10 ∧ 2 ^ b ≤ k ∧ k.testBit b = true ∧ (∀ j : Nat, j < b → fX11_isIn (nI k) (nI j) = 0) ∧ fX11_lowest (nI k) = some (nI b) := by
  obtain ⟨b, h1, h2, h3, h4, h5⟩ := low10 k h h0
  refine ⟨b, h1, h2, h3, h5, ?_⟩
  unfold fX11_lowest
  exact tl_lowest h4 h5 FU 0 (Nat.zero_le b) (by have := FUge; omega)
theorem nhalf (N : Nat) (h : N < 2 ^ 31) : nI N / 2 = nI (N / 2) := pk_div (a := N) (d := 2) h (by decide) (by decide)
theorem tl_lifts {N : Nat} (hN : N < 2 ^ 31) (p0 : Nat → Int32) : ∀ (n y : Nat) (p : Nat → Int32), y ≤ N / 2 → N / 2 - y < n → (∀ i, p i = if i < y then p0 (N / 2 + i) else p0 i) → ∃ r, fX11_lifts_b2 N n (nI y) p = some r ∧ ∀ i, r i = if i < N / 2 then p0 (N / 2 + i) else p0 i := by
  intro n
  induction n with
  | zero => intro y p h1 h2; omega
  | succ n ih =>
    intro y p h1 h2 h3
    rw [fX11_lifts_b2_s, nhalf N hN]
    rcases Nat.lt_or_ge y (N / 2) with c | c
    · rw [if_neg (nI_ge c (by omega)), nI_add]
      rw [gdI (vp_in_nI (by omega) hN), gdI (vp_in_nI (by omega) hN), nI_1, nI_clamp (by omega), nI_clamp (by omega)]
      refine ih (y + 1) _ (by omega) (by omega) (fun j => ?_)
      by_cases e : j = y
      · subst e
        rw [pk_us, if_pos (Nat.lt_succ_self _), h3, if_neg (by omega)]
      · rw [pk_un e, h3 j]
        by_cases d : j < y
        · rw [if_pos d, if_pos (by omega)]
        · rw [if_neg d, if_neg (by omega)]
    · have e : y = N / 2 := by omega
      subst e
      rw [if_pos (nI_le (Nat.le_refl _) (by omega))]
      exact ⟨p, rfl, h3⟩
theorem t_lifts {N : Nat} (hN : N < 2 ^ 14) (p0 : Nat → Int32) : ∃ r, fX11_lifts N p0 = some r ∧ ∀ i, r i = if i < N / 2 then p0 (N / 2 + i) else p0 i := by
  unfold fX11_lifts
  exact tl_lifts (by omega) p0 FU 0 p0 (Nat.zero_le _) (by have := FUge; omega) (fun i => (if_neg (Nat.not_lt_zero i)).symm)
theorem tl_copies {N2 N0 : Nat} {p0 : Nat → Int32} {a b m : Nat} (h0 : a + m ≤ N0) (h2 : b + m ≤ N2) (hN : N0 < 2 ^ 31 ∧ N2 < 2 ^ 31) (q : Nat → Int32) : ∀ (n y : Nat) (p : Nat → Int32), y ≤ m → m - y < n → (∀ j, p j = if b ≤ j ∧ j < b + y then p0 (a + (j - b)) else q j) → ∃ r, fX11_copies_b3 N2 N0 p0 (nI a) (nI b) (nI m) n (nI y) p = some r ∧ ∀ j, r j = if b ≤ j ∧ j < b + m then p0 (a + (j - b)) else q j := by
  intro n
  induction n with
  | zero => intro y p h1 h2; omega
  | succ n ih =>
    intro y p h1 h2 h3
    rw [fX11_copies_b3_s]
    rcases Nat.lt_or_ge y m with c | c
    · rw [if_neg (nI_ge c (by omega)), nI_add, nI_add]
      rw [gdI (vp_in_nI (by omega) hN.1), gdI (vp_in_nI (by omega) hN.2), nI_1, nI_clamp (by omega), nI_clamp (by omega)]
      refine ih (y + 1) _ (by omega) (by omega) (fun j => ?_)
      by_cases e : j = b + y
      · subst e
        rw [pk_us, if_pos ⟨by omega, by omega⟩, show a + (b + y - b) = a + y by omega]
      · rw [pk_un e, h3 j]
        by_cases d : b ≤ j ∧ j < b + y
        · rw [if_pos d, if_pos ⟨d.1, by omega⟩]
        · rw [if_neg d, if_neg (fun w => d ⟨w.1, by omega⟩)]
    · have e : y = m := by omega
      subst e
      rw [if_pos (nI_le (Nat.le_refl _) (by omega))]
      exact ⟨p, rfl, h3⟩
theorem t_copies {N2 N0 : Nat} {p0 p2 : Nat → Int32} {a b m : Nat} (h0 : a + m ≤ N0) (h2 : b + m ≤ N2) (hN : N0 < 2 ^ 14 ∧ N2 < 2 ^ 14) : ∃ r, fX11_copies N2 N0 p2 p0 (nI a) (nI b) (nI m) = some r ∧ ∀ j, r j = if b ≤ j ∧ j < b + m then p0 (a + (j - b)) else p2 j := by
  unfold fX11_copies
  exact tl_copies h0 h2 (by omega) p2 FU 0 p2 (Nat.zero_le _) (by have := FUge; omega) (fun j => (if_neg (fun w => by omega)).symm)
theorem tl_shift {N0 : Nat} {a m : Nat} (h0 : a + m ≤ N0) (hN : N0 < 2 ^ 31) (q : Nat → Int32) : ∀ (n y : Nat) (p : Nat → Int32), y ≤ m → m - y < n → (∀ j, p j = if j < y then q (a + j) else q j) → ∃ r, fX11_copies_p2isp0_b3 N0 (nI a) (nI 0) (nI m) n (nI y) p = some r ∧ ∀ j, r j = if j < m then q (a + j) else q j := by
  intro n
  induction n with
  | zero => intro y p h1 h2; omega
  | succ n ih =>
    intro y p h1 h2 h3
    rw [fX11_copies_p2isp0_b3_s]
    rcases Nat.lt_or_ge y m with c | c
    · rw [if_neg (nI_ge c (by omega)), nI_add, nI_add]
      rw [gdI (vp_in_nI (by omega) hN), gdI (vp_in_nI (by omega) hN), nI_1, nI_clamp (by omega), nI_clamp (by omega)]
      refine ih (y + 1) _ (by omega) (by omega) (fun j => ?_)
      by_cases e : j = 0 + y
      · subst e
        rw [pk_us, if_pos (by omega), h3, if_neg (by omega), Nat.zero_add]
      · rw [pk_un e, h3 j]
        by_cases d : j < y
        · rw [if_pos d, if_pos (by omega)]
        · rw [if_neg d, if_neg (by omega)]
    · have e : y = m := by omega
      subst e
      rw [if_pos (nI_le (Nat.le_refl _) (by omega))]
      exact ⟨p, rfl, h3⟩
theorem t_shift {N0 : Nat} {q : Nat → Int32} {a m : Nat} (h0 : a + m ≤ N0) (hN : N0 < 2 ^ 14) : ∃ r, fX11_copies_p2isp0 N0 q (nI a) (nI 0) (nI m) = some r ∧ ∀ j, r j = if j < m then q (a + j) else q j := by
  unfold fX11_copies_p2isp0
  exact tl_shift h0 (by omega) q FU 0 q (Nat.zero_le _) (by have := FUge; omega) (fun j => (if_neg (Nat.not_lt_zero j)).symm)
/-- a state: its rounds, and that each knows his own piece -/
def gOwn (np : Nat) (f : Nat → Int32) (o : Nat) : Prop := ∀ i : Nat, i < np → fX11_isIn (f (o + i)) (nI i) = 1
def gNow (np : Nat) (f : Nat → Int32) (o : Nat) : Prop := (∃ r : Nat, r ≤ 499 ∧ f o = nI r) ∧ gOwn np f (o + 4)
theorem isInN {x i : Int32} (h : fX11_isIn x i = 1) : ((x >>> (i &&& 31)) &&& 1) = 1 := by
  unfold fX11_isIn at h
  by_cases c : ((x >>> (i &&& 31)) &&& 1) = 1
  · exact c
  · rw [if_neg c] at h
    exact absurd h (by decide)
theorem isInOr {x y i : Int32} (h : fX11_isIn x i = 1) : fX11_isIn (x ||| y) i = 1 := by
  have h1 := isInN h
  unfold fX11_isIn
  have e : ∀ z : Int32, z &&& 1 = nI (z.toBitVec.toNat % 2) := fun z => pk_and z (m := 1) 1 rfl
  rw [Int32.shiftRight_or, e]
  rw [e] at h1
  have h2 : (x >>> (i &&& 31)).toBitVec.toNat % 2 = 1 := i_eq32 (by omega) (by decide) (h1 : _ = nI 1)
  have h3 : ((x >>> (i &&& 31)) ||| (y >>> (i &&& 31))).toBitVec.toNat % 2 = 1 := by
    rw [Int32.toBitVec_or, BitVec.toNat_or]
    exact Nat.or_mod_two_eq_one.mpr (Or.inl h2)
  rw [h3, if_pos (show nI 1 = 1 from rfl)]
theorem isInOr' {x y i : Int32} (h : fX11_isIn x i = 1) : fX11_isIn (y ||| x) i = 1 := by
  rw [Int32.or_comm]
  exact isInOr h
theorem isIn01 (x i : Int32) : fX11_isIn x i = 0 ∨ fX11_isIn x i = 1 := by
  unfold fX11_isIn
  by_cases h : ((x >>> (i &&& 31)) &&& 1) = 1
  · rw [if_pos h]; exact Or.inr rfl
  · rw [if_neg h]; exact Or.inl rfl
theorem own1 : ∀ p : Nat, p < 10 → fX11_isIn (1 <<< (nI p &&& 31)) (nI p) = 1 := by decide +kernel
theorem gOwnU {np o k : Nat} {f : Nat → Int32} {x : Int32} (h : gOwn np f o) (hk : ∀ i, i < np → k = o + i → fX11_isIn x (nI i) = 1) : gOwn np (upd f k x) o := by
  intro i hi
  by_cases c : o + i = k
  · rw [c, pk_us]
    exact hk i hi c.symm
  · rw [pk_un c]
    exact h i hi
theorem gNowC {np o k : Nat} {f r : Nat → Int32} (h : gNow np f o) (hn : np ≤ 10) (e : ∀ j, j < 514 → r (k + j) = f (o + j)) : gNow np r k := by
  obtain ⟨⟨x, h1, h2⟩, h3⟩ := h
  refine ⟨⟨x, h1, ?_⟩, fun i hi => ?_⟩
  · have := e 0 (by omega)
    rw [Nat.add_zero, Nat.add_zero] at this
    rw [this, h2]
  · have := e (4 + i) (by omega)
    rw [show k + 4 + i = k + (4 + i) by omega, this, show o + (4 + i) = o + 4 + i by omega]
    exact h3 i hi
theorem t_keeps42 {np u : Nat} {now undo : Nat → Int32} (hnp : np ≤ 10) (hu : u ≤ 9) (h : ∀ k, k < u → gNow np undo (514 * k)) (hn : gNow np now 0) : ∃ un, fX11_keeps_b42 now (nI u) undo = some (nI (u + 1), un) ∧ ∀ k, k < u + 1 → gNow np un (514 * k) := by
  obtain ⟨r, h1, h2⟩ := t_copies (N2 := 5140) (N0 := 514) (p0 := now) (p2 := undo) (a := 0) (b := 514 * u) (m := 514) (by omega) (by omega) (by omega)
  refine ⟨r, ?_, fun k hk => ?_⟩
  · unfold fX11_keeps_b42
    rw [show (514 : Int32) * nI u = nI (514 * u) from pk_mul 514 u]
    have h3 : fX11_copies 5140 514 undo now 0 (nI (514 * u)) 514 = some r := h1
    rw [h3]
    show some (nI u + 1, r) = _
    rw [nI_1]
  · rcases Nat.lt_or_ge k u with c | c
    · exact gNowC (h k c) hnp (fun j hj => by rw [h2, if_neg (by omega)])
    · have e : k = u := by omega
      subst e
      exact gNowC hn hnp (fun j hj => by rw [h2, if_pos (by omega), show 0 + (514 * k + j - 514 * k) = 0 + j by omega])
theorem t_keeps {np u : Nat} {now undo : Nat → Int32} (hnp : np ≤ 10) (hu : u ≤ 10) (h : ∀ k, k < u → gNow np undo (514 * k)) (hn : gNow np now 0) : ∃ v un, v ≤ 10 ∧ fX11_keeps (nI u) now undo = some (nI v, un) ∧ ∀ k, k < v → gNow np un (514 * k) := by
  unfold fX11_keeps
  by_cases c : u = 10
  · subst c
    obtain ⟨r, h1, h2⟩ := t_shift (N0 := 5140) (q := undo) (a := 514) (m := 4626) (by omega) (by omega)
    have h3 : fX11_copies_p2isp0 5140 undo 514 0 (nI 4626) = some r := h1
    rw [if_pos (show nI 10 = 10 from rfl), show (514 : Int32) * (nI 10 - 1) = nI 4626 from by decide, h3]
    rw [obs, show nI 10 - 1 = nI 9 from by decide]
    obtain ⟨un, q1, q2⟩ := t_keeps42 (u := 9) (undo := r) hnp (by omega) (fun k hk => gNowC (h (k + 1) (by omega)) hnp (fun j hj => by rw [h2, if_pos (by omega), show 514 + (514 * k + j) = 514 * (k + 1) + j by omega])) hn
    exact ⟨10, un, by omega, q1, q2⟩
  · rw [if_neg (fun (e : nI u = 10) => c (i_eq32 (by omega) (by decide) (show nI u = nI 10 from e)))]
    obtain ⟨un, q1, q2⟩ := t_keeps42 (u := u) hnp (by omega) h hn
    exact ⟨u + 1, un, by omega, q1, q2⟩
theorem t_undo {np u : Nat} {now undo : Nat → Int32} (hnp : np ≤ 10) (hu : u ≤ 10) (h : ∀ k, k < u → gNow np undo (514 * k)) (hn : gNow np now 0) : ∃ (x : Int32) (v : Nat) (nw : Nat → Int32), v ≤ u ∧ fX11_undo (nI u) now undo = some (x, 0, nI v, nw) ∧ gNow np nw 0 := by
  unfold fX11_undo
  rcases Nat.eq_zero_or_pos u with rfl | c
  · rw [if_pos (show nI 0 = 0 from rfl)]
    exact ⟨_, 0, now, Nat.le_refl _, rfl, hn⟩
  · rw [if_neg (nI_ne0 c (by omega)), show nI u - 1 = nI (u - 1) from nsub (a := u) (b := 1) rfl rfl c, show (514 : Int32) * nI (u - 1) = nI (514 * (u - 1)) from pk_mul 514 (u - 1)]
    obtain ⟨r, h1, h2⟩ := t_copies (N2 := 514) (N0 := 5140) (p0 := undo) (p2 := now) (a := 514 * (u - 1)) (b := 0) (m := 514) (by omega) (by omega) (by omega)
    have h3 : fX11_copies 514 5140 now undo (nI (514 * (u - 1))) 0 514 = some r := h1
    rw [h3]
    refine ⟨_, u - 1, r, by omega, rfl, ?_⟩
    exact gNowC (h (u - 1) (by omega)) hnp (fun j hj => by rw [h2, if_pos (by omega), show 514 * (u - 1) + (0 + j - 0) = 514 * (u - 1) + j by omega])
/-- what is thought of before the calls -/
theorem tl_thinks {np : Nat} {now told : Nat → Int32} (hnp : np ≤ 10) (hT : told 0 = nI np) : ∀ (n y : Nat) (p : Nat → Int32), y ≤ np → np - y < n → (∀ i, i < y → p i = now (4 + i)) → ∃ r, fX11_thinks_b2 now told n (nI y) p = some r ∧ ∀ i, i < np → r i = now (4 + i) := by
  intro n
  induction n with
  | zero => intro y p h1 h2; omega
  | succ n ih =>
    intro y p h1 h2 h3
    rw [fX11_thinks_b2_s, hT]
    rcases Nat.lt_or_ge y np with c | c
    · rw [if_neg (nI_ge c (by omega)), show (4 : Int32) + nI y = nI (4 + y) from nI_add 4 y]
      rw [gdI (vp_in_nI (by omega) (by omega)), gdI (vp_in_nI (by omega) (by omega)), nI_1, nI_clamp (by omega), nI_clamp (by omega)]
      refine ih (y + 1) _ (by omega) (by omega) (fun j hj => ?_)
      by_cases e : j = y
      · subst e
        rw [pk_us]
      · rw [pk_un e, h3 j (by omega)]
    · have e : y = np := by omega
      subst e
      rw [if_pos (nI_le (Nat.le_refl _) (by omega))]
      exact ⟨p, rfl, h3⟩
theorem t_thinks {np : Nat} {now told th : Nat → Int32} (hnp : np ≤ 10) (hT : told 0 = nI np) : ∃ r, fX11_thinks now told th = some r ∧ ∀ i, i < np → r i = now (4 + i) := by
  unfold fX11_thinks
  exact tl_thinks hnp hT FU 0 th (Nat.zero_le _) (by have := FUge; omega) (fun i hi => absurd hi (Nat.not_lt_zero i))
theorem tl_calls32 {np nl : Nat} {told one other forth : Nat → Int32} {x1 : Int32} (hnp : np ≤ 10) (hnl : nl ≤ 24) (hT : told 1 = nI nl) (hL : hLN nl np one other) : ∀ (n y : Nat) (p b : Nat → Int32), y ≤ nl → nl - y < n → gOwn np p 0 → tG (fun r => gOwn np r.1 0) (fX11_calls_b32 told one other forth x1 n (nI y) p b) := by
  intro n
  induction n with
  | zero => intro y p b h1 h2; omega
  | succ n ih =>
    intro y p b h1 h2 h3
    rw [fX11_calls_b32_s, hT]
    rcases Nat.lt_or_ge y nl with c | c
    · rw [if_neg (nI_ge c (by omega)), nI_1]
      refine tgI (fun _ => ih _ p b (by omega) (by omega) h3) (fun _ => ?_)
      obtain ⟨a1, b1, e1, e2, e3, e4, e5⟩ := hL y c
      have w1 : ∀ z, gOwn np (upd p (nI b1).toNatClampNeg (p (nI b1).toNatClampNeg ||| z)) 0 := fun z => gOwnU h3 (fun i hi q => by
        rw [Nat.zero_add] at q
        rw [q]
        have := h3 i hi
        rw [Nat.zero_add] at this
        exact isInOr this)
      have w2 : ∀ (p : Nat → Int32) (z : Int32), gOwn np p 0 → gOwn np (upd p (nI a1).toNatClampNeg (p (nI a1).toNatClampNeg ||| z)) 0 := fun p z h => gOwnU h (fun i hi q => by
        rw [Nat.zero_add] at q
        rw [q]
        have := h i hi
        rw [Nat.zero_add] at this
        exact isInOr this)
      refine tgD (vkn (by omega) (by omega)) ?_
      rw [e4, e5]
      refine tgD (vkn (by omega) (by omega)) (tgD (vkn (by omega) (by omega)) ?_)
      refine tgI (fun _ => ?_) (fun _ => ?_) <;>
        · unfold fX11_calls_b112
          refine tgD (vkn (by omega) (by omega)) ?_
          rw [nI_1]
          exact ih _ _ b (by omega) (by omega) (w2 _ _ (w1 _))
    · have e : y = nl := by omega
      subst e
      rw [if_pos (nI_le (Nat.le_refl _) (by omega))]
      exact tgS h3
theorem tl_calls2 {np nl : Nat} {told one other forth : Nat → Int32} {x1 : Int32} (hnp : np ≤ 10) (hnl : nl ≤ 24) (hT0 : told 0 = nI np) (hT : told 1 = nI nl) (hL : hLN nl np one other) {p : Nat → Int32} (hp : gOwn np p 0) : ∀ (n y : Nat) (b : Nat → Int32), y ≤ np → np - y < n → tG (fun r => gOwn np r.1 0) (fX11_calls_b2 told one other forth x1 n (nI y) p b) := by
  intro n
  induction n with
  | zero => intro y b h1 h2; omega
  | succ n ih =>
    intro y b h1 h2
    rw [fX11_calls_b2_s, hT0]
    rcases Nat.lt_or_ge y np with c | c
    · rw [if_neg (nI_ge c (by omega)), nI_1]
      exact tgD (vkn (by omega) (by omega)) (ih _ _ (by omega) (by omega))
    · have e : y = np := by omega
      subst e
      rw [if_pos (nI_le (Nat.le_refl _) (by omega))]
      exact tl_calls32 hnp hnl hT hL FU 0 p b (Nat.zero_le _) (by have := FUge; omega) hp
theorem t_calls {np nl : Nat} {told one other forth p b : Nat → Int32} {x1 : Int32} (hnp : np ≤ 10) (hnl : nl ≤ 24) (hT0 : told 0 = nI np) (hT : told 1 = nI nl) (hL : hLN nl np one other) (hp : gOwn np p 0) : tG (fun r => gOwn np r.1 0) (fX11_calls told one other forth p b x1) := by
  unfold fX11_calls
  exact tl_calls2 hnp hnl hT0 hT hL hp FU 0 b (Nat.zero_le _) (by have := FUge; omega)
/-- who knows a piece -/
theorem tshlN {p : Nat} (hp : p < 10) : (1 : Int32) <<< (nI p &&& 31) = nI (2 ^ p) := tshl (by omega)
theorem tl_knowers {np : Nat} {p0 : Nat → Int32} {N a x : Nat} (hnp : np ≤ 10) (hN : a + np ≤ N) (hN2 : N < 2 ^ 14) (hx : x < np) (ho : fX11_isIn (p0 (a + x)) (nI x) = 1) : ∀ (n y k : Nat), y ≤ np → np - y < n → k < 2 ^ y → (x < y → 0 < k) → ∃ r, r < 1024 ∧ 0 < r ∧ fX11_knowersIn_b6 N p0 (nI a) (nI np) (nI x) n (nI k) (nI y) = some (nI r) := by
  intro n
  induction n with
  | zero => intro y k h1 h2; omega
  | succ n ih =>
    intro y k h1 h2 h3 h4
    rw [fX11_knowersIn_b6_s]
    rcases Nat.lt_or_ge y np with c | c
    · have hp1 : 2 ^ (y + 1) = 2 ^ y * 2 := Nat.pow_succ 2 y
      have hp2 : 2 ^ y < 2 ^ 32 := Nat.pow_lt_pow_right (by decide) (by omega)
      rw [if_neg (nI_ge c (by omega)), nI_add]
      rw [gdI (vp_in_nI (by omega) (by omega)), nI_clamp (by omega)]
      unfold fX11_knowersIn_b35
      rw [nI_1]
      by_cases e : fX11_isIn (p0 (a + y)) (nI x) = 0
      · rw [if_pos e, show nI k ||| 0 = nI (k ||| 0) from i_orN (by omega) (by decide), Nat.or_zero]
        refine ih (y + 1) k (by omega) (by omega) (by omega) (fun q => h4 ?_)
        rcases Nat.lt_or_ge x y with d | d
        · exact d
        · have : x = y := by omega
          subst this
          rw [ho] at e
          exact absurd e (by decide)
      · rw [if_neg e, tshlN (by omega), i_orN (by omega) hp2]
        refine ih (y + 1) (k ||| 2 ^ y) (by omega) (by omega) ?_ (fun _ => ?_)
        · exact Nat.or_lt_two_pow (by omega) (by omega)
        · exact Nat.lt_of_lt_of_le (Nat.two_pow_pos y) Nat.right_le_or
    · have e : y = np := by omega
      subst e
      rw [if_pos (nI_le (Nat.le_refl _) (by omega))]
      have : 2 ^ y ≤ 2 ^ 10 := Nat.pow_le_pow_right (by decide) (by omega)
      exact ⟨k, by omega, h4 hx, rfl⟩
theorem t_knowersOf {np : Nat} {now told : Nat → Int32} (hnp : np ≤ 10) (hT : told 0 = nI np) (ho : gOwn np now 4) {x : Nat} (hx : x < np) : ∃ r, r < 1024 ∧ 0 < r ∧ fX11_knowersOf now told (nI x) = some (nI r) := by
  unfold fX11_knowersOf fX11_knowersIn
  rw [hT]
  obtain ⟨r, h1, h2, h3⟩ := tl_knowers (p0 := now) (N := 514) (a := 4) hnp (by omega) (by omega) hx (ho x hx) FU 0 0 (Nat.zero_le _) (by have := FUge; omega) (by decide) (fun q => absurd q (by omega))
  have h4 : fX11_knowersIn_b6 514 now 4 (nI np) (nI x) FU 0 0 = some (nI r) := h3
  rw [h4]
  exact ⟨r, h1, h2, rfl⟩
theorem tshl4 : ∀ y : Nat, y < 5 → ((nI y &&& 31).toBitVec.smod 32).toNat = y := by decide +kernel
theorem tl_doub21 {np : Nat} {now told : Nat → Int32} {K : Int32 → Int32 → Int32 → Option (Int32 × Int32)} (hnp : np ≤ 10) (hT : told 0 = nI np) (ho : gOwn np now 4) {x : Nat} (hx : x < np) (hK : ∀ a c, tG tT (K a (nI (x + 1)) c)) (y1 th : Int32) : ∀ (n y : Nat), y ≤ 4 → 4 - y < n → tG tT (fX11_doublings_b21 now told K n y1 (nI x) (nI y) th) := by
  intro n
  induction n with
  | zero => intro y h1 h2; omega
  | succ n ih =>
    intro y h1 h2
    rw [fX11_doublings_b21_s, hT]
    obtain ⟨r, r1, r2, r3⟩ := t_knowersOf hnp hT ho hx
    obtain ⟨d, d1, d2, d3⟩ := t_many (k := r) (by omega)
    have d4 := d2 r2
    refine tgC (P := fun q => q = nI r) ⟨_, r3, rfl⟩ (fun u e => ?_)
    subst e
    refine tgC (P := fun q => q = nI d) ⟨_, d3, rfl⟩ (fun u e => ?_)
    subst e
    have hp : 2 ^ y ≤ 2 ^ 4 := Nat.pow_le_pow_right (by decide) h1
    have hm : d * 2 ^ y ≤ 1024 * 16 := Nat.mul_le_mul (by omega) hp
    rw [pk_shlN (nI y &&& 31) y (tshl4 y (by omega)) (by omega)]
    refine tgI (fun _ => ?_) (fun c => ?_)
    · unfold fX11_doublings_b46
      rw [nI_1]
      exact tgI (fun _ => hK _ _) (fun _ => hK _ _)
    · have q : y < 4 := by
        rcases Nat.lt_or_ge y 4 with q | q
        · exact q
        · have e : y = 4 := by omega
          subst e
          exact absurd (nI_le (a := np) (b := d * 2 ^ 4) (by omega) (by omega)) c
      rw [nI_1]
      exact ih (y + 1) (by omega) (by omega)
theorem tl_doub9 {np : Nat} {now told : Nat → Int32} (hnp : np ≤ 10) (hT : told 0 = nI np) (ho : gOwn np now 4) : ∀ (n y : Nat) (a c : Int32), y ≤ np → np - y < n → tG tT (fX11_doublings_b9 now told n a (nI y) c) := by
  intro n
  induction n with
  | zero => intro y a b h1 h2; omega
  | succ n ih =>
    intro y a b h1 h2
    rw [fX11_doublings_b9_s, hT]
    rcases Nat.lt_or_ge y np with c | c
    · rw [if_neg (nI_ge c (by omega))]
      exact tl_doub21 hnp hT ho c (fun a c => ih (y + 1) a c (by omega) (by omega)) _ _ FU 0 (by omega) (by have := FUge; omega)
    · have e : y = np := by omega
      subst e
      rw [if_pos (nI_le (Nat.le_refl _) (by omega))]
      exact tgS trivial
theorem t_doublings {np : Nat} {now told : Nat → Int32} (hnp : np ≤ 10) (hT : told 0 = nI np) (ho : gOwn np now 4) : tG tT (fX11_doublings now told) := by
  unfold fX11_doublings
  exact tl_doub9 hnp hT ho FU 0 0 0 (Nat.zero_le _) (by have := FUge; omega)
/-- prices: what all together come to falls with each that falls -/
def pSum (v : Nat → Nat) : Nat → Nat
  | 0 => 0
  | n + 1 => pSum v n + v n
theorem pSumLe {v : Nat → Nat} {c : Nat} : ∀ n : Nat, (∀ i, i < n → v i ≤ c) → pSum v n ≤ n * c
  | 0, _ => Nat.zero_le _
  | n + 1, h => by
    have h1 := pSumLe n (fun i hi => h i (by omega))
    have h2 := h n (by omega)
    rw [Nat.succ_mul]
    show pSum v n + v n ≤ _
    omega
theorem pSumUp {v : Nat → Nat} {i x : Nat} : ∀ n : Nat, (i < n → pSum (fun k => if k = i then x else v k) n + v i = pSum v n + x) ∧ (n ≤ i → pSum (fun k => if k = i then x else v k) n = pSum v n)
  | 0 => ⟨fun h => absurd h (Nat.not_lt_zero i), fun _ => rfl⟩
  | n + 1 => by
    obtain ⟨h1, h2⟩ := pSumUp (v := v) (i := i) (x := x) n
    have e : pSum (fun k => if k = i then x else v k) (n + 1) = pSum (fun k => if k = i then x else v k) n + (if n = i then x else v n) := rfl
    have e2 : pSum v (n + 1) = pSum v n + v n := rfl
    rw [e, e2]
    refine ⟨fun h => ?_, fun h => ?_⟩
    · by_cases c : n = i
      · subst c
        rw [if_pos rfl, h2 (Nat.le_refl _)]
        omega
      · rw [if_neg c]
        have := h1 (by omega)
        omega
    · rw [if_neg (by omega), h2 (by omega)]
def pP (np : Nat) (p : Nat → Int32) (s : Nat) : Prop := ∃ v : Nat → Nat, (∀ i, i < np → p i = nI (v i) ∧ v i ≤ 1000000) ∧ pSum v np ≤ s
theorem t_cheaper {np s a b c : Nat} {p : Nat → Int32} (hp : pP np p s) (hn : np ≤ 10) (ha : a < np) (hb : b < np) (hc : c ≤ 999) : ∃ (g : Nat) (q : Nat → Int32), fX11_cheaper p (nI a) (nI b) (nI c) = some (nI g, q) ∧ ((g = 0 ∧ pP np q s) ∨ (g = 1 ∧ 0 < s ∧ pP np q (s - 1))) := by
  obtain ⟨v, h1, h2⟩ := hp
  obtain ⟨a1, a2⟩ := h1 a ha
  obtain ⟨b1, b2⟩ := h1 b hb
  unfold fX11_cheaper
  rw [gdI (vp_in_nI (by omega) (by omega)), gdI (vp_in_nI (by omega) (by omega)), nI_clamp (by omega), nI_clamp (by omega), a1, b1]
  by_cases e : nI (v a) = 1000000
  · rw [if_pos e]
    exact ⟨0, p, rfl, Or.inl ⟨rfl, v, h1, h2⟩⟩
  · rw [if_neg e, nI_add]
    by_cases d : nI (v a + c) < nI (v b)
    · rw [if_pos d]
      have d1 : v a + c < v b := nlt d (by omega) (by omega)
      have d2 := (pSumUp (v := v) (i := b) (x := v a + c) np).1 hb
      refine ⟨1, _, rfl, Or.inr ⟨rfl, ?_, fun k => if k = b then v a + c else v k, fun i hi => ?_, ?_⟩⟩
      · omega
      · by_cases w : i = b
        · subst w
          rw [pk_us]
          show nI (v a + c) = nI (if i = i then v a + c else v i) ∧ (if i = i then v a + c else v i) ≤ 1000000
          rw [if_pos rfl]
          exact ⟨rfl, by omega⟩
        · rw [pk_un w]
          show p i = nI (if i = b then v a + c else v i) ∧ (if i = b then v a + c else v i) ≤ 1000000
          rw [if_neg w]
          exact h1 i hi
      · omega
    · rw [if_neg d]
      exact ⟨0, p, rfl, Or.inl ⟨rfl, v, h1, h2⟩⟩
def pJ (np S f : Nat) (p : Nat → Int32) : Prop := (f = 0 ∧ pP np p S) ∨ (f = 1 ∧ 0 < S ∧ pP np p (S - 1))
theorem pPm {np s t : Nat} {p : Nat → Int32} (h : pP np p s) (l : s ≤ t) : pP np p t := by
  obtain ⟨v, h1, h2⟩ := h
  exact ⟨v, h1, by omega⟩
theorem or01 {a b : Nat} (ha : a = 0 ∨ a = 1) (hb : b = 0 ∨ b = 1) : nI a ||| nI b = nI (if a = 1 then 1 else b) := by
  rcases ha with rfl | rfl <;> rcases hb with rfl | rfl <;> decide
theorem pJ01 {np S f : Nat} {p : Nat → Int32} (h : pJ np S f p) : f = 0 ∨ f = 1 := by
  rcases h with h | h
  · exact Or.inl h.1
  · exact Or.inr h.1
/-- one call's price more -/
theorem pJstep {np S f a b c : Nat} {p : Nat → Int32} (h : pJ np S f p) (hn : np ≤ 10) (ha : a < np) (hb : b < np) (hc : c ≤ 999) : ∃ (g : Nat) (q : Nat → Int32), fX11_cheaper p (nI a) (nI b) (nI c) = some (nI g, q) ∧ (g = 0 ∨ g = 1) ∧ pJ np S (if f = 1 then 1 else g) q := by
  rcases h with ⟨rfl, h⟩ | ⟨rfl, h0, h⟩
  · obtain ⟨g, q, q1, q2⟩ := t_cheaper h hn ha hb hc
    rcases q2 with ⟨rfl, q2⟩ | ⟨rfl, q2, q3⟩
    · exact ⟨0, q, q1, Or.inl rfl, Or.inl ⟨rfl, q2⟩⟩
    · exact ⟨1, q, q1, Or.inr rfl, Or.inr ⟨rfl, q2, q3⟩⟩
  · obtain ⟨g, q, q1, q2⟩ := t_cheaper h hn ha hb hc
    rcases q2 with ⟨rfl, q2⟩ | ⟨rfl, q2, q3⟩
    · exact ⟨0, q, q1, Or.inl rfl, Or.inr ⟨rfl, h0, q2⟩⟩
    · exact ⟨1, q, q1, Or.inr rfl, Or.inr ⟨rfl, h0, pPm q3 (by omega)⟩⟩
def hCost (nl : Nat) (f : Nat → Int32) : Prop := ∀ k : Nat, k < nl → ∃ c : Nat, c ≤ 999 ∧ f k = nI c
theorem tl_prices57 {np nl S : Nat} {told one other forth cost : Nat → Int32} {x2 : Int32} {K : Int32 → (Nat → Int32) → Option (Nat → Int32)} (hnp : np ≤ 10) (hnl : nl ≤ 24) (hT : told 1 = nI nl) (hL : hLN nl np one other) (hC : hCost nl cost) (hK : ∀ f p, pJ np S f p → tG tT (K (nI f) p)) : ∀ (n y f : Nat) (p : Nat → Int32), y ≤ nl → nl - y < n → pJ np S f p → tG tT (fX11_prices_b57 told one other forth cost x2 K n (nI f) (nI y) p) := by
  intro n
  induction n with
  | zero => intro y f p h1 h2; omega
  | succ n ih =>
    intro y f p h1 h2 h3
    rw [fX11_prices_b57_s, hT]
    rcases Nat.lt_or_ge y nl with c | c
    · obtain ⟨a, b, l1, l2, l3, l4, l5⟩ := hL y c
      obtain ⟨co, c1, c2⟩ := hC y c
      rw [if_neg (nI_ge c (by omega)), nI_1]
      refine tgI (fun _ => ?_) (fun _ => ih _ f p (by omega) (by omega) h3)
      refine tgD (vkn (by omega) (by omega)) ?_
      rw [l4, l5, nI_clamp (by omega : y < 2 ^ 31), c2]
      obtain ⟨g, q, q1, q2, q3⟩ := pJstep h3 hnp l1 l2 c1
      refine tgC (P := fun r => r = (nI g, q)) ⟨_, q1, rfl⟩ (fun u e => ?_)
      subst e
      show tG tT (if forth y = 0 then _ else _)
      have o1 := pJ01 h3
      refine tgI (fun _ => ?_) (fun _ => ?_)
      · obtain ⟨g2, r, r1, r2, r3⟩ := pJstep q3 hnp l2 l1 c1
        refine tgC (P := fun z => z = (nI g2, r)) ⟨_, r1, rfl⟩ (fun u e => ?_)
        subst e
        refine tgI (fun w => ?_) (fun w => ?_)
        · have w0 : g2 = 0 := by
            rcases r2 with r2 | r2
            · exact r2
            · rw [r2] at w; exact absurd (show nI 1 = 0 from w) (by decide)
          subst w0
          unfold fX11_prices_b151 fX11_prices_b152
          show tG tT (fX11_prices_b57 told one other forth cost x2 K n ((nI f ||| nI g) ||| nI 0) (nI y + 1) r)
          rw [or01 o1 q2, or01 (pJ01 q3) (Or.inl rfl), nI_1]
          exact ih _ _ r (by omega) (by omega) r3
        · have w0 : g2 = 1 := by
            rcases r2 with r2 | r2
            · rw [r2] at w; exact absurd rfl w
            · exact r2
          subst w0
          unfold fX11_prices_b152
          show tG tT (fX11_prices_b57 told one other forth cost x2 K n ((nI f ||| nI g) ||| nI 1) (nI y + 1) r)
          rw [or01 o1 q2, or01 (pJ01 q3) (Or.inr rfl), nI_1]
          exact ih _ _ r (by omega) (by omega) r3
      · unfold fX11_prices_b151 fX11_prices_b152
        show tG tT (fX11_prices_b57 told one other forth cost x2 K n ((nI f ||| nI g) ||| nI 0) (nI y + 1) q)
        rw [or01 o1 q2, or01 (pJ01 q3) (Or.inl rfl), nI_1]
        refine ih _ _ q (by omega) (by omega) ?_
        rcases pJ01 q3 with z | z
        · rw [z] at q3 ⊢
          exact q3
        · rw [z] at q3 ⊢
          exact q3
    · have e : y = nl := by omega
      subst e
      rw [if_pos (nI_le (Nat.le_refl _) (by omega))]
      exact hK f p h3
theorem tl_prices48 {np nl : Nat} {told one other forth cost : Nat → Int32} {x2 : Int32} (hnp : np ≤ 10) (hnl : nl ≤ 24) (hT : told 1 = nI nl) (hL : hLN nl np one other) (hC : hCost nl cost) : ∀ (n s f : Nat) (p : Nat → Int32), f ≤ 1 → f + s < n → pP np p s → tG tT (fX11_prices_b48 told one other forth cost x2 n (nI f) p) := by
  intro n
  induction n with
  | zero => intro s f p h1 h2; omega
  | succ n ih =>
    intro s f p h1 h2 h3
    rw [fX11_prices_b48_s]
    refine tgI (fun _ => tgS trivial) (fun c => ?_)
    have e : f = 1 := by
      rcases Nat.eq_zero_or_pos f with e | e
      · rw [e] at c; exact absurd rfl c
      · omega
    subst e
    refine tl_prices57 (S := s) hnp hnl hT hL hC (fun g q h => ?_) FU 0 0 p (Nat.zero_le _) (by have := FUge; omega) (Or.inl ⟨rfl, h3⟩)
    rcases h with ⟨rfl, h⟩ | ⟨rfl, h0, h⟩
    · exact ih s 0 q (by omega) (by omega) h
    · exact ih (s - 1) 1 q (by omega) (by omega) h
theorem FUbig : 2 ^ 32 < FU := by unfold FU; decide
theorem tl_prices2 {np nl : Nat} {now told one other forth cost : Nat → Int32} {x1 x2 : Int32} (hnp : np ≤ 10) (hnl : nl ≤ 24) (hT0 : told 0 = nI np) (hT : told 1 = nI nl) (hL : hLN nl np one other) (hC : hCost nl cost) : ∀ (n y : Nat) (p : Nat → Int32), y ≤ np → np - y < n → (∀ i, i < y → ∃ v, v ≤ 1000000 ∧ p i = nI v) → tG tT (fX11_prices_b2 now told one other forth cost x1 x2 n (nI y) p) := by
  intro n
  induction n with
  | zero => intro y p h1 h2; omega
  | succ n ih =>
    intro y p h1 h2 h3
    rw [fX11_prices_b2_s, hT0]
    rcases Nat.lt_or_ge y np with c | c
    · rw [if_neg (nI_ge c (by omega)), show (4 : Int32) + nI y = nI (4 + y) from nI_add 4 y]
      refine tgD (vkn (by omega) (by omega)) ?_
      have st : ∀ v : Nat, v ≤ 1000000 → tG tT (fX11_prices_b2 now told one other forth cost x1 x2 n (nI y + 1) (upd p (nI y).toNatClampNeg (nI v))) := fun v hv => by
        rw [nI_1, nI_clamp (by omega)]
        refine ih (y + 1) _ (by omega) (by omega) (fun j hj => ?_)
        by_cases e : j = y
        · subst e
          exact ⟨v, hv, pk_us⟩
        · rw [pk_un e]
          exact h3 j (by omega)
      refine tgI (fun _ => ?_) (fun _ => ?_)
      · unfold fX11_prices_b39
        exact tgD (vkn (by omega) (by omega)) (st 1000000 (by decide))
      · unfold fX11_prices_b39
        exact tgD (vkn (by omega) (by omega)) (st 0 (by decide))
    · have e : y = np := by omega
      subst e
      rw [if_pos (nI_le (Nat.le_refl _) (by omega))]
      have h4 : ∀ i, ∃ v, i < y → v ≤ 1000000 ∧ p i = nI v := fun i => by
        by_cases q : i < y
        · obtain ⟨v, w⟩ := h3 i q
          exact ⟨v, fun _ => w⟩
        · exact ⟨0, fun w => absurd w q⟩
      have hv := fun i => (h4 i).choose_spec
      have hs := pSumLe (v := fun i => (h4 i).choose) (c := 1000000) y (fun i hi => (hv i hi).1)
      have hm : y * 1000000 ≤ 10 * 1000000 := Nat.mul_le_mul_right _ hnp
      exact tl_prices48 hnp hnl hT hL hC FU (y * 1000000) 1 p (by omega) (by have := FUbig; omega) ⟨fun i => (h4 i).choose, fun i hi => ⟨(hv i hi).2, (hv i hi).1⟩, hs⟩
theorem t_prices {np nl : Nat} {now told one other forth cost p : Nat → Int32} {x1 x2 : Int32} (hnp : np ≤ 10) (hnl : nl ≤ 24) (hT0 : told 0 = nI np) (hT : told 1 = nI nl) (hL : hLN nl np one other) (hC : hCost nl cost) : tG tT (fX11_prices now told one other forth cost p x1 x2) := by
  unfold fX11_prices
  exact tl_prices2 hnp hnl hT0 hT hL hC FU 0 p (Nat.zero_le _) (by have := FUge; omega) (fun i hi => absurd hi (Nat.not_lt_zero i))
/-- the best set: what is remembered of each set of people -/
def bGood (nl np : Nat) (one other : Nat → Int32) (m : Nat) (x : Int32) : Prop := x = -1 ∨ ∃ l a b : Nat, l < nl ∧ a < np ∧ b < np ∧ a ≠ b ∧ x = nI l ∧ one (nI l).toNatClampNeg = nI a ∧ other (nI l).toNatClampNeg = nI b ∧ m.testBit a = true ∧ m.testBit b = true
def bCI (nl np : Nat) (one other : Nat → Int32) (k : Nat) (c : Nat → Int32) : Prop := ∀ m : Nat, 0 < m → m ≤ k → bGood nl np one other m (c m)
theorem bCIu {nl np k : Nat} {one other c : Nat → Int32} {x : Int32} (h : ∀ m : Nat, 0 < m → m < k → bGood nl np one other m (c m)) (hx : bGood nl np one other k x) : bCI nl np one other k (upd c k x) := by
  intro m h0 h1
  by_cases e : m = k
  · subst e
    rw [pk_us]
    exact hx
  · rw [pk_un e]
    exact h m h0 (by omega)
theorem two_in : ∀ m : Nat, m < 1024 → ∀ a : Nat, a < 10 → ∀ b : Nat, b < 10 → a = b ∨ m.testBit a = false ∨ m.testBit b = false ∨ 2 ^ a + 2 ^ b ≤ m := by decide +kernel
theorem isInBit : ∀ m : Nat, m < 1024 → ∀ a : Nat, a < 10 → fX11_isIn (nI m) (nI a) = 0 ∨ m.testBit a = true := by decide +kernel
theorem two_le {m a b : Nat} (hm : m < 1024) (ha : a < 10) (hb : b < 10) (n : a ≠ b) (h1 : m.testBit a = true) (h2 : m.testBit b = true) : 2 ^ a + 2 ^ b ≤ m := by
  rcases two_in m hm a ha b hb with h | h | h | h
  · exact absurd h n
  · rw [h1] at h; exact absurd h (by decide)
  · rw [h2] at h; exact absurd h (by decide)
  · exact h
theorem t_all {np : Nat} {told : Nat → Int32} (hnp : np ≤ 10) (hT0 : told 0 = nI np) : fX11_all told = some (nI (2 ^ np - 1)) := by
  unfold fX11_all
  rw [hT0, tshr np hnp]
theorem tp10 {np : Nat} (h : np ≤ 10) : 2 ^ np ≤ 1024 ∧ 0 < 2 ^ np := ⟨Nat.pow_le_pow_right (n := 2) (by decide) h, Nat.two_pow_pos np⟩
theorem t_fX11_bestFor_b105 {nl np k b l a c2 o : Nat} {N : Nat} {now told one other forth cost broken away p2 : Nat → Int32} {x1 x3 : Int32} {K : Int32 → Int32 → Int32 → (Nat → Int64) → (Nat → Int32) → Option (Int32 × (Nat → Int64) × (Nat → Int32))} (hnp : np ≤ 10) (hnl : nl ≤ 24) (hCan : ∀ l, l < nl → tG tT (fX11_canCall now told one other broken away (nI l) x1)) (hGain : ∀ l, l < nl → tG tT (fX11_gainOf N one other forth p2 (nI l) x3)) (hk : k < 1024) (hk0 : 0 < k) (hb : b < 10) (hkb : k.testBit b = true) (hl : l < nl) (ha : a < np) (hc : c2 < np) (hac : a ≠ c2) (e4 : one (nI l).toNatClampNeg = nI a) (e5 : other (nI l).toNatClampNeg = nI c2) (ho : o < np) (hob : o ≠ b) (he : (a = b ∧ c2 = o) ∨ (c2 = b ∧ a = o)) (hK : ∀ w c, bCI nl np one other k c → tG tT (K (nI k) (nI b) (nI l + 1) w c)) {w : Nat → Int64} {c : Nat → Int32} (hc0 : bCI nl np one other k c) : tG tT (fX11_bestFor_b105 N now told one other forth cost broken away p2 x1 x3 K (nI k) (nI b) (nI l) (nI o) w c) := by
  unfold fX11_bestFor_b105
  have pb := Nat.two_pow_pos b
  have po := Nat.two_pow_pos o
  refine tgI (fun _ => hK w c hc0) (fun _ => tgI (fun _ => hK w c hc0) (fun hi => ?_))
  have hbit : k.testBit o = true := by
    rcases isInBit k hk o (by omega) with z | z
    · exact absurd z hi
    · exact z
  have h2 := two_le hk hb (by omega : o < 10) (fun z => hob z.symm) hkb hbit
  refine tgC (hCan l hl) (fun u _ => tgI (fun _ => hK w c hc0) (fun _ => ?_))
  refine tgC (hGain l hl) (fun u34 _ => ?_)
  have s1 : (nI k - (1 <<< (nI b &&& 31))) - (1 <<< (nI o &&& 31)) = nI (k - 2 ^ b - 2 ^ o) := by
    rw [tshlN hb, tshlN (by omega : o < 10), nsub (a := k) (b := 2 ^ b) rfl rfl (by omega), nsub (a := k - 2 ^ b) (b := 2 ^ o) rfl rfl (by omega)]
  have g1 : bGood nl np one other k (nI l) := by
    refine Or.inr ⟨l, a, c2, hl, ha, hc, hac, rfl, e4, e5, ?_⟩
    rcases he with ⟨rfl, rfl⟩ | ⟨rfl, rfl⟩
    · exact ⟨hkb, hbit⟩
    · exact ⟨hbit, hkb⟩
  have fin : ∀ (w2 : Nat → Int64) (x : Int32), bGood nl np one other k x → tG tT (K (nI k) (nI b) (nI l + 1) w2 (upd c (nI k).toNatClampNeg x)) := fun w2 x hx => hK w2 _ (by
    rw [nI_clamp (by omega)]
    exact bCIu (fun m q1 q2 => hc0 m q1 (by omega)) hx)
  refine tgD (vkn (by omega) (by omega)) (tgD (vne s1 (by omega) (by omega)) (tgD (vkn (by omega) (by omega)) ?_))
  refine tgI (fun _ => ?_) (fun _ => ?_)
  · unfold fX11_bestFor_b216
    refine tgD (vkn (by omega) (by omega)) (tgD (vkn (by omega) (by omega)) (tgI (fun _ => ?_) (fun _ => ?_))) <;>
      · unfold fX11_bestFor_b248
        exact tgD (vkn (by omega) (by omega)) (fin _ _ (by rw [nI_clamp (by omega)]; exact hc0 k hk0 (Nat.le_refl _)))
  · unfold fX11_bestFor_b216
    refine tgD (vkn (by omega) (by omega)) (tgD (vkn (by omega) (by omega)) (tgI (fun _ => ?_) (fun _ => ?_))) <;>
      · unfold fX11_bestFor_b248
        exact tgD (vkn (by omega) (by omega)) (fin _ _ g1)
theorem tl_fX11_bestFor_b49 {nl np k b : Nat} {N : Nat} {now told one other forth cost broken away p2 : Nat → Int32} {x1 x3 : Int32} {K : Int32 → (Nat → Int64) → (Nat → Int32) → Option (Int32 × (Nat → Int64) × (Nat → Int32))} (hnp : np ≤ 10) (hnl : nl ≤ 24) (hT : told 1 = nI nl) (hL : hLN nl np one other) (hCan : ∀ l, l < nl → tG tT (fX11_canCall now told one other broken away (nI l) x1)) (hGain : ∀ l, l < nl → tG tT (fX11_gainOf N one other forth p2 (nI l) x3)) (hk : k < 1024) (hk0 : 0 < k) (hb : b < 10) (hkb : k.testBit b = true) (hK : ∀ w c, bCI nl np one other k c → tG tT (K (nI k + 1) w c)) : ∀ (n l : Nat) (w : Nat → Int64) (c : Nat → Int32), l ≤ nl → nl - l < n → bCI nl np one other k c → tG tT (fX11_bestFor_b49 N now told one other forth cost broken away p2 x1 x3 K n (nI k) (nI b) (nI l) w c) := by
  intro n
  induction n with
  | zero => intro l w c h1 h2; omega
  | succ n ih =>
    intro l w c h1 h2 h3
    rw [fX11_bestFor_b49_s, hT]
    rcases Nat.lt_or_ge l nl with q | q
    · obtain ⟨a, c2, l1, l2, l3, l4, l5⟩ := hL l q
      rw [if_neg (nI_ge q (by omega)), l4, l5]
      refine tgD (vkn (by omega) (by omega)) ?_
      have hK2 : ∀ w c, bCI nl np one other k c → tG tT (fX11_bestFor_b49 N now told one other forth cost broken away p2 x1 x3 K n (nI k) (nI b) (nI l + 1) w c) := fun w c h => by
        rw [nI_1]
        exact ih (l + 1) w c (by omega) (by omega) h
      refine tgI (fun e => ?_) (fun _ => tgI (fun e => ?_) (fun _ => ?_))
      · have e1 : a = b := i_eq32 (by omega) (by omega) e
        exact t_fX11_bestFor_b105 hnp hnl hCan hGain hk hk0 hb hkb q l1 l2 l3 l4 l5 l2 (by omega) (Or.inl ⟨e1, rfl⟩) hK2 h3
      · have e1 : c2 = b := i_eq32 (by omega) (by omega) e
        exact t_fX11_bestFor_b105 hnp hnl hCan hGain hk hk0 hb hkb q l1 l2 l3 l4 l5 l1 (by omega) (Or.inr ⟨e1, rfl⟩) hK2 h3
      · unfold fX11_bestFor_b105
        exact tgI (fun _ => hK2 w c h3) (fun z => absurd rfl z)
    · have e : l = nl := by omega
      subst e
      rw [if_pos (nI_le (Nat.le_refl _) (by omega))]
      exact hK w c h3
theorem tl_fX11_bestFor_b270 {nl np k : Nat} {one other : Nat → Int32} (hnp : np ≤ 10) (hnl : nl ≤ 24) (hk : k < 1024) {w : Nat → Int64} {c : Nat → Int32} (hc : bCI nl np one other k c) : ∀ (n m : Nat) (y : Int32), m ≤ k → m < n → tG tT (fX11_bestFor_b270 one other n y (nI m) w c) := by
  intro n
  induction n with
  | zero => intro m y h1 h2; omega
  | succ n ih =>
    intro m y h1 h2
    rw [fX11_bestFor_b270_s]
    rcases Nat.eq_zero_or_pos m with rfl | h0
    · rw [if_pos (show nI 0 = 0 from rfl)]
      exact tgS trivial
    · rw [if_neg (nI_ne0 h0 (by omega)), nI_clamp (by omega)]
      refine tgD (vkn (by omega) (by omega)) (tgI (fun e => ?_) (fun e => ?_))
      · unfold fX11_bestFor_b300
        rw [if_pos e]
        obtain ⟨b, b1, b2, b3, b4, b5⟩ := t_lowest (k := m) (by omega) h0
        refine tgC (P := fun z => z = nI b) ⟨_, b5, rfl⟩ (fun u z => ?_)
        subst z
        unfold fX11_bestFor_b340
        rw [tshlN b1, nsub (a := m) (b := 2 ^ b) rfl rfl b2]
        have := Nat.two_pow_pos b
        exact ih _ _ (by omega) (by omega)
      · unfold fX11_bestFor_b300
        rw [if_neg e]
        rcases hc m h0 h1 with z | ⟨l, a, b, z1, z2, z3, z4, z5, z6, z7, z8, z9⟩
        · exact absurd z e
        · rw [z5, z6, z7]
          have h3 := two_le (by omega : m < 1024) (by omega : a < 10) (by omega : b < 10) z4 z8 z9
          have pa := Nat.two_pow_pos a
          have pb := Nat.two_pow_pos b
          refine tgD (vkn (by omega) (by omega)) ?_
          unfold fX11_bestFor_b340
          rw [tshlN (by omega : a < 10), tshlN (by omega : b < 10), nI_add, nsub (a := m) (b := 2 ^ a + 2 ^ b) rfl rfl h3]
          have := Nat.two_pow_pos b
          exact ih _ _ (by omega) (by omega)
theorem tl_fX11_bestFor_b3 {nl np : Nat} {N : Nat} {now told one other forth cost broken away p2 : Nat → Int32} {x1 x3 : Int32} (hnp : np ≤ 10) (hnl : nl ≤ 24) (hT0 : told 0 = nI np) (hT : told 1 = nI nl) (hL : hLN nl np one other) (hCan : ∀ l, l < nl → tG tT (fX11_canCall now told one other broken away (nI l) x1)) (hGain : ∀ l, l < nl → tG tT (fX11_gainOf N one other forth p2 (nI l) x3)) : ∀ (n k : Nat) (w : Nat → Int64) (c : Nat → Int32), 0 < k → k ≤ 2 ^ np → 2 ^ np - k < n → bCI nl np one other (k - 1) c → tG tT (fX11_bestFor_b3 N now told one other forth cost broken away p2 x1 x3 n (nI k) w c) := by
  intro n
  induction n with
  | zero => intro k w c h0 h1 h2; omega
  | succ n ih =>
    intro k w c h0 h1 h2 h3
    obtain ⟨p1, p2⟩ := tp10 hnp
    rw [fX11_bestFor_b3_s]
    refine tgC (P := fun z => z = nI (2 ^ np - 1)) ⟨_, t_all hnp hT0, rfl⟩ (fun u z => ?_)
    subst z
    rcases Nat.lt_or_ge (2 ^ np - 1) k with q | q
    · rw [if_pos (nI_lt q (by omega))]
      have e : k = 2 ^ np := by omega
      unfold fX11_bestFor_b261
      refine tgC (P := fun z => z = nI (2 ^ np - 1)) ⟨_, t_all hnp hT0, rfl⟩ (fun u z => ?_)
      subst z
      exact tl_fX11_bestFor_b270 hnp hnl (by omega) (by rw [e] at h3; exact h3) FU (2 ^ np - 1) 0 (Nat.le_refl _) (by have := FUge; omega)
    · rw [if_neg (nI_nlt q (by omega))]
      obtain ⟨b, b1, b2, b3, b4, b5⟩ := t_lowest (k := k) (by omega) h0
      refine tgC (P := fun z => z = nI b) ⟨_, b5, rfl⟩ (fun u z => ?_)
      subst z
      rw [tshlN b1, nsub (a := k) (b := 2 ^ b) rfl rfl b2]
      have pb := Nat.two_pow_pos b
      refine tgD (vkn (by omega) (by omega)) (tgD (vkn (by omega) (by omega)) ?_)
      refine tl_fX11_bestFor_b49 hnp hnl hT hL hCan hGain (by omega) h0 b1 b3 (fun w c h => ?_) FU 0 _ _ (Nat.zero_le _) (by have := FUge; omega) ?_
      · rw [nI_1]
        exact ih (k + 1) w c (by omega) (by omega) (by omega) h
      · rw [nI_clamp (by omega)]
        exact bCIu (fun m q1 q2 => h3 m q1 (by omega)) (Or.inl rfl)
theorem t_bestFor {nl np : Nat} {N : Nat} {now told one other forth cost broken away p2 : Nat → Int32} {x1 x3 : Int32} {w : Nat → Int64} {c : Nat → Int32} (hnp : np ≤ 10) (hnl : nl ≤ 24) (hT0 : told 0 = nI np) (hT : told 1 = nI nl) (hL : hLN nl np one other) (hCan : ∀ l, l < nl → tG tT (fX11_canCall now told one other broken away (nI l) x1)) (hGain : ∀ l, l < nl → tG tT (fX11_gainOf N one other forth p2 (nI l) x3)) : tG tT (fX11_bestFor N now told one other forth cost broken away w c p2 x1 x3) := by
  unfold fX11_bestFor
  have p1 := tp10 hnp
  exact tl_fX11_bestFor_b3 hnp hnl hT0 hT hL hCan hGain FU 1 w c (by decide) (by omega) (by have := FUge; omega) (fun m q1 q2 => absurd q1 (by omega))
theorem t_fX11_bestFor_p2istnow_b105 {nl np k b l a c2 o : Nat} {now told one other forth cost broken away : Nat → Int32} {x1 x3 : Int32} {K : Int32 → Int32 → Int32 → (Nat → Int64) → (Nat → Int32) → Option (Int32 × (Nat → Int64) × (Nat → Int32))} (hnp : np ≤ 10) (hnl : nl ≤ 24) (hCan : ∀ l, l < nl → tG tT (fX11_canCall now told one other broken away (nI l) x1)) (hGain : ∀ l, l < nl → tG tT (fX11_gainOf 514 one other forth now (nI l) x3)) (hk : k < 1024) (hk0 : 0 < k) (hb : b < 10) (hkb : k.testBit b = true) (hl : l < nl) (ha : a < np) (hc : c2 < np) (hac : a ≠ c2) (e4 : one (nI l).toNatClampNeg = nI a) (e5 : other (nI l).toNatClampNeg = nI c2) (ho : o < np) (hob : o ≠ b) (he : (a = b ∧ c2 = o) ∨ (c2 = b ∧ a = o)) (hK : ∀ w c, bCI nl np one other k c → tG tT (K (nI k) (nI b) (nI l + 1) w c)) {w : Nat → Int64} {c : Nat → Int32} (hc0 : bCI nl np one other k c) : tG tT (fX11_bestFor_p2istnow_b105 now told one other forth cost broken away x1 x3 K (nI k) (nI b) (nI l) (nI o) w c) := by
  unfold fX11_bestFor_p2istnow_b105
  have pb := Nat.two_pow_pos b
  have po := Nat.two_pow_pos o
  refine tgI (fun _ => hK w c hc0) (fun _ => tgI (fun _ => hK w c hc0) (fun hi => ?_))
  have hbit : k.testBit o = true := by
    rcases isInBit k hk o (by omega) with z | z
    · exact absurd z hi
    · exact z
  have h2 := two_le hk hb (by omega : o < 10) (fun z => hob z.symm) hkb hbit
  refine tgC (hCan l hl) (fun u _ => tgI (fun _ => hK w c hc0) (fun _ => ?_))
  refine tgC (hGain l hl) (fun u34 _ => ?_)
  have s1 : (nI k - (1 <<< (nI b &&& 31))) - (1 <<< (nI o &&& 31)) = nI (k - 2 ^ b - 2 ^ o) := by
    rw [tshlN hb, tshlN (by omega : o < 10), nsub (a := k) (b := 2 ^ b) rfl rfl (by omega), nsub (a := k - 2 ^ b) (b := 2 ^ o) rfl rfl (by omega)]
  have g1 : bGood nl np one other k (nI l) := by
    refine Or.inr ⟨l, a, c2, hl, ha, hc, hac, rfl, e4, e5, ?_⟩
    rcases he with ⟨rfl, rfl⟩ | ⟨rfl, rfl⟩
    · exact ⟨hkb, hbit⟩
    · exact ⟨hbit, hkb⟩
  have fin : ∀ (w2 : Nat → Int64) (x : Int32), bGood nl np one other k x → tG tT (K (nI k) (nI b) (nI l + 1) w2 (upd c (nI k).toNatClampNeg x)) := fun w2 x hx => hK w2 _ (by
    rw [nI_clamp (by omega)]
    exact bCIu (fun m q1 q2 => hc0 m q1 (by omega)) hx)
  refine tgD (vkn (by omega) (by omega)) (tgD (vne s1 (by omega) (by omega)) (tgD (vkn (by omega) (by omega)) ?_))
  refine tgI (fun _ => ?_) (fun _ => ?_)
  · unfold fX11_bestFor_p2istnow_b216
    refine tgD (vkn (by omega) (by omega)) (tgD (vkn (by omega) (by omega)) (tgI (fun _ => ?_) (fun _ => ?_))) <;>
      · unfold fX11_bestFor_p2istnow_b248
        exact tgD (vkn (by omega) (by omega)) (fin _ _ (by rw [nI_clamp (by omega)]; exact hc0 k hk0 (Nat.le_refl _)))
  · unfold fX11_bestFor_p2istnow_b216
    refine tgD (vkn (by omega) (by omega)) (tgD (vkn (by omega) (by omega)) (tgI (fun _ => ?_) (fun _ => ?_))) <;>
      · unfold fX11_bestFor_p2istnow_b248
        exact tgD (vkn (by omega) (by omega)) (fin _ _ g1)
theorem tl_fX11_bestFor_p2istnow_b49 {nl np k b : Nat} {now told one other forth cost broken away : Nat → Int32} {x1 x3 : Int32} {K : Int32 → (Nat → Int64) → (Nat → Int32) → Option (Int32 × (Nat → Int64) × (Nat → Int32))} (hnp : np ≤ 10) (hnl : nl ≤ 24) (hT : told 1 = nI nl) (hL : hLN nl np one other) (hCan : ∀ l, l < nl → tG tT (fX11_canCall now told one other broken away (nI l) x1)) (hGain : ∀ l, l < nl → tG tT (fX11_gainOf 514 one other forth now (nI l) x3)) (hk : k < 1024) (hk0 : 0 < k) (hb : b < 10) (hkb : k.testBit b = true) (hK : ∀ w c, bCI nl np one other k c → tG tT (K (nI k + 1) w c)) : ∀ (n l : Nat) (w : Nat → Int64) (c : Nat → Int32), l ≤ nl → nl - l < n → bCI nl np one other k c → tG tT (fX11_bestFor_p2istnow_b49 now told one other forth cost broken away x1 x3 K n (nI k) (nI b) (nI l) w c) := by
  intro n
  induction n with
  | zero => intro l w c h1 h2; omega
  | succ n ih =>
    intro l w c h1 h2 h3
    rw [fX11_bestFor_p2istnow_b49_s, hT]
    rcases Nat.lt_or_ge l nl with q | q
    · obtain ⟨a, c2, l1, l2, l3, l4, l5⟩ := hL l q
      rw [if_neg (nI_ge q (by omega)), l4, l5]
      refine tgD (vkn (by omega) (by omega)) ?_
      have hK2 : ∀ w c, bCI nl np one other k c → tG tT (fX11_bestFor_p2istnow_b49 now told one other forth cost broken away x1 x3 K n (nI k) (nI b) (nI l + 1) w c) := fun w c h => by
        rw [nI_1]
        exact ih (l + 1) w c (by omega) (by omega) h
      refine tgI (fun e => ?_) (fun _ => tgI (fun e => ?_) (fun _ => ?_))
      · have e1 : a = b := i_eq32 (by omega) (by omega) e
        exact t_fX11_bestFor_p2istnow_b105 hnp hnl hCan hGain hk hk0 hb hkb q l1 l2 l3 l4 l5 l2 (by omega) (Or.inl ⟨e1, rfl⟩) hK2 h3
      · have e1 : c2 = b := i_eq32 (by omega) (by omega) e
        exact t_fX11_bestFor_p2istnow_b105 hnp hnl hCan hGain hk hk0 hb hkb q l1 l2 l3 l4 l5 l1 (by omega) (Or.inr ⟨e1, rfl⟩) hK2 h3
      · unfold fX11_bestFor_p2istnow_b105
        exact tgI (fun _ => hK2 w c h3) (fun z => absurd rfl z)
    · have e : l = nl := by omega
      subst e
      rw [if_pos (nI_le (Nat.le_refl _) (by omega))]
      exact hK w c h3
theorem tl_fX11_bestFor_p2istnow_b270 {nl np k : Nat} {one other : Nat → Int32} (hnp : np ≤ 10) (hnl : nl ≤ 24) (hk : k < 1024) {w : Nat → Int64} {c : Nat → Int32} (hc : bCI nl np one other k c) : ∀ (n m : Nat) (y : Int32), m ≤ k → m < n → tG tT (fX11_bestFor_p2istnow_b270 one other n y (nI m) w c) := by
  intro n
  induction n with
  | zero => intro m y h1 h2; omega
  | succ n ih =>
    intro m y h1 h2
    rw [fX11_bestFor_p2istnow_b270_s]
    rcases Nat.eq_zero_or_pos m with rfl | h0
    · rw [if_pos (show nI 0 = 0 from rfl)]
      exact tgS trivial
    · rw [if_neg (nI_ne0 h0 (by omega)), nI_clamp (by omega)]
      refine tgD (vkn (by omega) (by omega)) (tgI (fun e => ?_) (fun e => ?_))
      · unfold fX11_bestFor_p2istnow_b300
        rw [if_pos e]
        obtain ⟨b, b1, b2, b3, b4, b5⟩ := t_lowest (k := m) (by omega) h0
        refine tgC (P := fun z => z = nI b) ⟨_, b5, rfl⟩ (fun u z => ?_)
        subst z
        unfold fX11_bestFor_p2istnow_b340
        rw [tshlN b1, nsub (a := m) (b := 2 ^ b) rfl rfl b2]
        have := Nat.two_pow_pos b
        exact ih _ _ (by omega) (by omega)
      · unfold fX11_bestFor_p2istnow_b300
        rw [if_neg e]
        rcases hc m h0 h1 with z | ⟨l, a, b, z1, z2, z3, z4, z5, z6, z7, z8, z9⟩
        · exact absurd z e
        · rw [z5, z6, z7]
          have h3 := two_le (by omega : m < 1024) (by omega : a < 10) (by omega : b < 10) z4 z8 z9
          have pa := Nat.two_pow_pos a
          have pb := Nat.two_pow_pos b
          refine tgD (vkn (by omega) (by omega)) ?_
          unfold fX11_bestFor_p2istnow_b340
          rw [tshlN (by omega : a < 10), tshlN (by omega : b < 10), nI_add, nsub (a := m) (b := 2 ^ a + 2 ^ b) rfl rfl h3]
          have := Nat.two_pow_pos b
          exact ih _ _ (by omega) (by omega)
theorem tl_fX11_bestFor_p2istnow_b3 {nl np : Nat} {now told one other forth cost broken away : Nat → Int32} {x1 x3 : Int32} (hnp : np ≤ 10) (hnl : nl ≤ 24) (hT0 : told 0 = nI np) (hT : told 1 = nI nl) (hL : hLN nl np one other) (hCan : ∀ l, l < nl → tG tT (fX11_canCall now told one other broken away (nI l) x1)) (hGain : ∀ l, l < nl → tG tT (fX11_gainOf 514 one other forth now (nI l) x3)) : ∀ (n k : Nat) (w : Nat → Int64) (c : Nat → Int32), 0 < k → k ≤ 2 ^ np → 2 ^ np - k < n → bCI nl np one other (k - 1) c → tG tT (fX11_bestFor_p2istnow_b3 now told one other forth cost broken away x1 x3 n (nI k) w c) := by
  intro n
  induction n with
  | zero => intro k w c h0 h1 h2; omega
  | succ n ih =>
    intro k w c h0 h1 h2 h3
    obtain ⟨p1, p2⟩ := tp10 hnp
    rw [fX11_bestFor_p2istnow_b3_s]
    refine tgC (P := fun z => z = nI (2 ^ np - 1)) ⟨_, t_all hnp hT0, rfl⟩ (fun u z => ?_)
    subst z
    rcases Nat.lt_or_ge (2 ^ np - 1) k with q | q
    · rw [if_pos (nI_lt q (by omega))]
      have e : k = 2 ^ np := by omega
      unfold fX11_bestFor_p2istnow_b261
      refine tgC (P := fun z => z = nI (2 ^ np - 1)) ⟨_, t_all hnp hT0, rfl⟩ (fun u z => ?_)
      subst z
      exact tl_fX11_bestFor_p2istnow_b270 hnp hnl (by omega) (by rw [e] at h3; exact h3) FU (2 ^ np - 1) 0 (Nat.le_refl _) (by have := FUge; omega)
    · rw [if_neg (nI_nlt q (by omega))]
      obtain ⟨b, b1, b2, b3, b4, b5⟩ := t_lowest (k := k) (by omega) h0
      refine tgC (P := fun z => z = nI b) ⟨_, b5, rfl⟩ (fun u z => ?_)
      subst z
      rw [tshlN b1, nsub (a := k) (b := 2 ^ b) rfl rfl b2]
      have pb := Nat.two_pow_pos b
      refine tgD (vkn (by omega) (by omega)) (tgD (vkn (by omega) (by omega)) ?_)
      refine tl_fX11_bestFor_p2istnow_b49 hnp hnl hT hL hCan hGain (by omega) h0 b1 b3 (fun w c h => ?_) FU 0 _ _ (Nat.zero_le _) (by have := FUge; omega) ?_
      · rw [nI_1]
        exact ih (k + 1) w c (by omega) (by omega) (by omega) h
      · rw [nI_clamp (by omega)]
        exact bCIu (fun m q1 q2 => h3 m q1 (by omega)) (Or.inl rfl)
theorem t_bestFor_p2istnow {nl np : Nat} {now told one other forth cost broken away : Nat → Int32} {x1 x3 : Int32} {w : Nat → Int64} {c : Nat → Int32} (hnp : np ≤ 10) (hnl : nl ≤ 24) (hT0 : told 0 = nI np) (hT : told 1 = nI nl) (hL : hLN nl np one other) (hCan : ∀ l, l < nl → tG tT (fX11_canCall now told one other broken away (nI l) x1)) (hGain : ∀ l, l < nl → tG tT (fX11_gainOf 514 one other forth now (nI l) x3)) : tG tT (fX11_bestFor_p2istnow now told one other forth cost broken away w c x1 x3) := by
  unfold fX11_bestFor_p2istnow
  have p1 := tp10 hnp
  exact tl_fX11_bestFor_p2istnow_b3 hnp hnl hT0 hT hL hCan hGain FU 1 w c (by decide) (by omega) (by have := FUge; omega) (fun m q1 q2 => absurd q1 (by omega))
