/-! letters, four in an int, put behind a text -/
theorem byt {x : Nat} (h : x % 256 < 128) : (nI x).toInt8.toInt32 = nI (x % 256) := by
  have e : (nI x).toInt8 = (nI (x % 256)).toInt8 := by
    apply Int8.toBitVec_inj.mp
    show (BitVec.ofNat 32 x).signExtend 8 = (BitVec.ofNat 32 (x % 256)).signExtend 8
    apply BitVec.eq_of_toNat_eq
    rw [BitVec.signExtend_eq_setWidth_of_le _ (by decide), BitVec.signExtend_eq_setWidth_of_le _ (by decide), BitVec.toNat_setWidth, BitVec.toNat_setWidth, BitVec.toNat_ofNat, BitVec.toNat_ofNat]
    omega
  rw [e]
  exact (by decide +kernel : ∀ y, y < 128 → (nI y).toInt8.toInt32 = nI y) _ h
theorem shl8 {x y : Nat} (hx : x < 2 ^ 23) (hy : y < 256) : (nI x <<< ((8 : Int32) &&& 31)) ||| nI y = nI (x * 256 + y) := by
  have e1 : nI x <<< ((8 : Int32) &&& 31) = nI (x * 256) := by
    apply Int32.toBitVec_inj.mp
    show BitVec.ofNat 32 x <<< (8 : Nat) = BitVec.ofNat 32 (x * 256)
    apply BitVec.eq_of_toNat_eq
    rw [BitVec.toNat_shiftLeft, BitVec.toNat_ofNat, BitVec.toNat_ofNat, Nat.shiftLeft_eq, Nat.mod_eq_of_lt (show x < 2 ^ 32 by omega)]
  rw [e1, nIor (by omega) (by omega)]
  have e2 := Nat.shiftLeft_add_eq_or_of_lt (i := 8) (b := y) (by omega) x
  rw [Nat.shiftLeft_eq] at e2
  rw [← e2]
/-- an int of m letters, and the letters' place -/
def accN (ch : Nat → Nat) (w : Nat) : Nat → Nat
  | 0 => 0
  | m + 1 => accN ch w m * 256 + ch (w + m)
theorem accN_lt {ch : Nat → Nat} (h : ∀ i, ch i < 128) (w : Nat) : accN ch w 0 = 0 ∧ accN ch w 1 < 128 ∧ accN ch w 2 < 2 ^ 15 ∧ accN ch w 3 < 2 ^ 23 ∧ accN ch w 4 < 2 ^ 31 := by
  have h0 := h (w + 0)
  have h1 := h (w + 1)
  have h2 := h (w + 2)
  have h3 := h (w + 3)
  unfold accN accN accN accN accN
  refine ⟨rfl, ?_, ?_, ?_, ?_⟩ <;> omega
theorem put4 {bh w : Nat} {t : Nat → Int32} {ch : Nat → Nat} (hch : ∀ i, ch i < 128) (hb : bh + 4 ≤ 500) : ∃ t2 : Nat → Int32, fX9_putFourBytes (nI bh) t (nI (accN ch w 4)) = some (nI (bh + 4), t2) ∧ (∀ i, i < bh → t2 i = t i) ∧ ∀ i, i < 4 → t2 (bh + i) = nI (ch (w + i)) := by
  have hl := accN_lt hch w
  have h0 := hch (w + 0)
  have h1 := hch (w + 1)
  have h2 := hch (w + 2)
  have h3 := hch (w + 3)
  have ex : accN ch w 4 = ((ch (w + 0) * 256 + ch (w + 1)) * 256 + ch (w + 2)) * 256 + ch (w + 3) := by
    unfold accN accN accN accN accN
    omega
  have s24 : ∀ x, x < 2 ^ 31 → nI x >>> ((24 : Int32) &&& 31) = nI (x / 2 ^ 24) := fun x hx => pk_shrN hx _ 24 rfl
  have s16 : ∀ x, x < 2 ^ 31 → nI x >>> ((16 : Int32) &&& 31) = nI (x / 2 ^ 16) := fun x hx => pk_shrN hx _ 16 rfl
  have s8 : ∀ x, x < 2 ^ 31 → nI x >>> ((8 : Int32) &&& 31) = nI (x / 2 ^ 8) := fun x hx => pk_shrN hx _ 8 rfl
  have s0 : ∀ x, x < 2 ^ 31 → nI x >>> ((0 : Int32) &&& 31) = nI (x / 2 ^ 0) := fun x hx => pk_shrN hx _ 0 rfl
  obtain ⟨g, hg⟩ : ∃ g, FU = g + 1 + 1 + 1 + 1 + 1 := ⟨FU - 5, by have := FUge; omega⟩
  refine ⟨upd (upd (upd (upd t bh (nI (ch (w + 0)))) (bh + 1) (nI (ch (w + 1)))) (bh + 2) (nI (ch (w + 2)))) (bh + 3) (nI (ch (w + 3))), ?_, fun i hi => ?_, fun i hi => ?_⟩
  · generalize accN ch w 4 = x at hl ex ⊢
    have b0 : vp_nar .byte ((nI x >>> ((24 : Int32) &&& 31)).toInt8.toInt32) = nI (ch (w + 0)) := by rw [pk_vb, s24 x hl.2.2.2.2, byt (by omega), show x / 2 ^ 24 % 256 = ch (w + 0) by omega]
    have b1 : vp_nar .byte ((nI x >>> ((16 : Int32) &&& 31)).toInt8.toInt32) = nI (ch (w + 1)) := by rw [pk_vb, s16 x hl.2.2.2.2, byt (by omega), show x / 2 ^ 16 % 256 = ch (w + 1) by omega]
    have b2 : vp_nar .byte ((nI x >>> ((8 : Int32) &&& 31)).toInt8.toInt32) = nI (ch (w + 2)) := by rw [pk_vb, s8 x hl.2.2.2.2, byt (by omega), show x / 2 ^ 8 % 256 = ch (w + 2) by omega]
    have b3 : vp_nar .byte ((nI x >>> ((0 : Int32) &&& 31)).toInt8.toInt32) = nI (ch (w + 3)) := by rw [pk_vb, s0 x hl.2.2.2.2, byt (by omega), show x / 2 ^ 0 % 256 = ch (w + 3) by omega]
    have hlt : ∀ j, j < 500 → ¬ (500 : Int32) ≤ nI j := fun j hj => nI_ge (b := 500) hj (by decide)
    unfold fX9_putFourBytes
    rw [hg]
    rw [fX9_putFourBytes_b3_s, if_neg (show ¬ (24 : Int32) < 0 by decide), if_neg (hlt bh (by omega)), gdI (vkn (by omega) (by decide)), b0, nI_clamp (by omega), nI_1, show (24 : Int32) + -8 = 16 by decide]
    rw [fX9_putFourBytes_b3_s, if_neg (show ¬ (16 : Int32) < 0 by decide), if_neg (hlt (bh + 1) (by omega)), gdI (vkn (by omega) (by decide)), b1, nI_clamp (by omega), nI_1, show (16 : Int32) + -8 = 8 by decide]
    rw [fX9_putFourBytes_b3_s, if_neg (show ¬ (8 : Int32) < 0 by decide), if_neg (hlt (bh + 1 + 1) (by omega)), gdI (vkn (by omega) (by decide)), b2, nI_clamp (by omega), nI_1, show (8 : Int32) + -8 = 0 by decide]
    rw [fX9_putFourBytes_b3_s, if_neg (show ¬ (0 : Int32) < 0 by decide), if_neg (hlt (bh + 1 + 1 + 1) (by omega)), gdI (vkn (by omega) (by decide)), b3, nI_clamp (by omega), nI_1]
    rw [fX9_putFourBytes_b3_s, if_pos (show (0 : Int32) + -8 < 0 by decide)]
  · rw [pk_un (by omega), pk_un (by omega), pk_un (by omega), pk_un (by omega)]
  · rcases (show i = 0 ∨ i = 1 ∨ i = 2 ∨ i = 3 by omega) with rfl | rfl | rfl | rfl
    · rw [pk_un (by omega), pk_un (by omega), pk_un (by omega)]; exact pk_us
    · rw [pk_un (by omega), pk_un (by omega), pk_us]
    · rw [pk_un (by omega), pk_us]
    · rw [pk_us]
theorem appendV {bh : Nat} {t : Nat → Int32} {ch : Nat → Nat} (hch : ∀ i, ch i < 128) (hb : bh ≤ 480) : ∃ t2 : Nat → Int32, fX10_append (nI bh) t (nI (accN ch 0 4)) (nI (accN ch 4 4)) (nI (accN ch 8 4)) (nI (accN ch 12 4)) (nI (accN ch 16 4)) = some (nI (bh + 20), nI (bh + 20), t2) ∧ (∀ i, i < bh → t2 i = t i) ∧ ∀ i, i < 20 → t2 (bh + i) = nI (ch i) := by
  obtain ⟨t1, p1, q1, r1⟩ := put4 (bh := bh) (w := 0) (t := t) hch (by omega)
  obtain ⟨t2, p2, q2, r2⟩ := put4 (bh := bh + 4) (w := 4) (t := t1) hch (by omega)
  obtain ⟨t3, p3, q3, r3⟩ := put4 (bh := bh + 4 + 4) (w := 8) (t := t2) hch (by omega)
  obtain ⟨t4, p4, q4, r4⟩ := put4 (bh := bh + 4 + 4 + 4) (w := 12) (t := t3) hch (by omega)
  obtain ⟨t5, p5, q5, r5⟩ := put4 (bh := bh + 4 + 4 + 4 + 4) (w := 16) (t := t4) hch (by omega)
  refine ⟨t5, ?_, fun i hi => by rw [q5 i (by omega), q4 i (by omega), q3 i (by omega), q2 i (by omega), q1 i hi], fun i hi => ?_⟩
  · unfold fX10_append
    rw [if_pos (show nI bh ≤ 480 from nI_le (b := 480) hb (by decide)), p1, obs]
    dsimp only
    rw [p2, obs]
    dsimp only
    rw [p3, obs]
    dsimp only
    rw [p4, obs]
    dsimp only
    rw [p5, obs]
  · rcases (show i < 4 ∨ (∃ j, j < 4 ∧ i = 4 + j) ∨ (∃ j, j < 4 ∧ i = 8 + j) ∨ (∃ j, j < 4 ∧ i = 12 + j) ∨ (∃ j, j < 4 ∧ i = 16 + j) from by
      rcases (show i < 4 ∨ (4 ≤ i ∧ i < 8) ∨ (8 ≤ i ∧ i < 12) ∨ (12 ≤ i ∧ i < 16) ∨ (16 ≤ i ∧ i < 20) by omega) with h | h | h | h | h
      · exact Or.inl h
      · exact Or.inr (Or.inl ⟨i - 4, by omega, by omega⟩)
      · exact Or.inr (Or.inr (Or.inl ⟨i - 8, by omega, by omega⟩))
      · exact Or.inr (Or.inr (Or.inr (Or.inl ⟨i - 12, by omega, by omega⟩)))
      · exact Or.inr (Or.inr (Or.inr (Or.inr ⟨i - 16, by omega, by omega⟩)))) with h | ⟨j, h, rfl⟩ | ⟨j, h, rfl⟩ | ⟨j, h, rfl⟩ | ⟨j, h, rfl⟩
    · rw [q5 _ (by omega), q4 _ (by omega), q3 _ (by omega), q2 _ (by omega), r1 i h, Nat.zero_add]
    · rw [q5 _ (by omega), q4 _ (by omega), q3 _ (by omega), show bh + (4 + j) = bh + 4 + j by omega, r2 j h]
    · rw [q5 _ (by omega), q4 _ (by omega), show bh + (8 + j) = bh + 4 + 4 + j by omega, r3 j h]
    · rw [q5 _ (by omega), show bh + (12 + j) = bh + 4 + 4 + 4 + j by omega, r4 j h]
    · rw [show bh + (16 + j) = bh + 4 + 4 + 4 + 4 + j by omega, r5 j h]
