/-! a set as the bits of an int -/
def xb (x : Int32) (i : Nat) : Bool := x.toBitVec.getLsbD i
theorem sh31 : ∀ i : Nat, i < 32 → ((nI i &&& 31).toBitVec.smod 32).toNat = i := by decide +kernel
theorem isIn_ib {x : Int32} {i : Nat} (hi : i < 32) : fX10_isIn x (nI i) = if xb x i = true then 1 else 0 := by
  have h1 := pk_shr x (nI i &&& 31) i (sh31 i hi)
  have h2 : (x >>> (nI i &&& 31)) &&& 1 = nI ((x >>> (nI i &&& 31)).toBitVec.toNat % 2 ^ 1) := pk_and _ 1 rfl
  have h3 : xb x i = decide (x.toBitVec.toNat / 2 ^ i % 2 = 1) := by
    unfold xb
    rw [BitVec.getLsbD, Nat.testBit_eq_decide_div_mod_eq]
  have h4 : (x >>> (nI i &&& 31)).toBitVec.toNat % 2 = x.toBitVec.toNat / 2 ^ i % 2 := by
    have e1 : (x >>> (nI i &&& 31)).toInt = (x >>> (nI i &&& 31)).toBitVec.toInt := rfl
    have e2 : x.toInt = x.toBitVec.toInt := rfl
    rw [e1, e2, Int.shiftRight_eq_div_pow, BitVec.toInt_eq_toNat_cond, BitVec.toInt_eq_toNat_cond] at h1
    have b1 := (x >>> (nI i &&& 31)).toBitVec.isLt
    have b2 := x.toBitVec.isLt
    generalize (x >>> (nI i &&& 31)).toBitVec.toNat = m at h1 b1 ⊢
    generalize x.toBitVec.toNat = n at h1 b2 ⊢
    rcases (show i = 0 ∨ i = 1 ∨ i = 2 ∨ i = 3 ∨ i = 4 ∨ i = 5 ∨ i = 6 ∨ i = 7 ∨ i = 8 ∨ i = 9 ∨ i = 10 ∨ i = 11 ∨ i = 12 ∨ i = 13 ∨ i = 14 ∨ i = 15 ∨ i = 16 ∨ i = 17 ∨ i = 18 ∨ i = 19 ∨ i = 20 ∨ i = 21 ∨ i = 22 ∨ i = 23 ∨ i = 24 ∨ i = 25 ∨ i = 26 ∨ i = 27 ∨ i = 28 ∨ i = 29 ∨ i = 30 ∨ i = 31 by omega) with rfl | rfl | rfl | rfl | rfl | rfl | rfl | rfl | rfl | rfl | rfl | rfl | rfl | rfl | rfl | rfl | rfl | rfl | rfl | rfl | rfl | rfl | rfl | rfl | rfl | rfl | rfl | rfl | rfl | rfl | rfl | rfl <;> (simp only [Nat.reducePow] at h1 ⊢; split at h1 <;> split at h1 <;> omega)
  unfold fX10_isIn
  rw [h2, show (2 : Nat) ^ 1 = 2 from rfl, h4, h3]
  by_cases c : x.toBitVec.toNat / 2 ^ i % 2 = 1
  · rw [c, if_pos (show nI 1 = 1 from rfl), if_pos (by rw [decide_eq_true rfl])]
  · have c0 : x.toBitVec.toNat / 2 ^ i % 2 = 0 := by omega
    rw [c0, if_neg (by decide), if_neg (by decide)]
theorem ib_and {x y : Int32} {i : Nat} : xb (x &&& y) i = (xb x i && xb y i) := by
  unfold xb
  show (x.toBitVec &&& y.toBitVec).getLsbD i = _
  rw [BitVec.getLsbD_and]
theorem ib_or {x y : Int32} {i : Nat} : xb (x ||| y) i = (xb x i || xb y i) := by
  unfold xb
  show (x.toBitVec ||| y.toBitVec).getLsbD i = _
  rw [BitVec.getLsbD_or]
theorem ib_m1 : ∀ i : Nat, i < 32 → xb (-1) i = true := by decide
theorem ib_not {x : Int32} {i : Nat} (hi : i < 32) : xb (x ^^^ (-1)) i = !xb x i := by
  have h : xb (x ^^^ (-1)) i = (xb x i ^^ xb (-1) i) := by
    unfold xb
    show (x.toBitVec ^^^ (-1 : Int32).toBitVec).getLsbD i = _
    rw [BitVec.getLsbD_xor]
  rw [h, ib_m1 i hi]
  cases xb x i <;> rfl
theorem ib_one : ∀ k : Nat, k < 32 → ∀ i : Nat, i < 32 → xb ((1 : Int32) <<< (nI k &&& 31)) i = decide (i = k) := by decide +kernel
theorem ib_0 {i : Nat} : xb 0 i = false := by
  unfold xb
  show (0#32).getLsbD i = false
  exact BitVec.getLsbD_zero
theorem ib_ext {x y : Int32} (h : ∀ i, i < 32 → xb x i = xb y i) : x = y := by
  apply Int32.toBitVec_inj.mp
  exact BitVec.eq_of_getLsbD_eq h
theorem ib_N {n i : Nat} (h : n < 2 ^ 32) : xb (nI n) i = n.testBit i := by
  unfold xb
  rw [BitVec.getLsbD, show (nI n).toBitVec.toNat = n % 2 ^ 32 from rfl, Nat.mod_eq_of_lt h]
theorem isIn_eq0 {x : Int32} {i : Nat} (hi : i < 32) : fX10_isIn x (nI i) = 0 ↔ xb x i = false := by
  rw [isIn_ib hi]
  cases xb x i with
  | true => exact ⟨fun h => absurd h one0, fun h => absurd h (by decide)⟩
  | false => exact ⟨fun _ => rfl, fun _ => rfl⟩
/-- rounds in which something is kept out -/
def spIn (n : Nat) (wh fr un : Nat → Nat) (round i : Nat) : Bool :=
  match n with
  | 0 => false
  | n + 1 => spIn n wh fr un round i || (decide (wh n = i) && decide (fr n ≤ round) && decide (round ≤ un n))
theorem kept_eq {n : Nat} {wh fr un : Nat → Nat} {tw tf tu : Nat → Int32} {round : Nat} (hn : n ≤ 12) (hr : round < 20000) (h : ∀ j, j < n → wh j < 32 ∧ fr j < 20000 ∧ un j < 20000 ∧ tw j = nI (wh j) ∧ tf j = nI (fr j) ∧ tu j = nI (un j)) : ∀ (f j : Nat) (y : Int32), j ≤ n → n - j < f → (∀ i, i < 32 → xb y i = spIn j wh fr un round i) → tG (fun r => ∀ i, i < 32 → xb r i = spIn n wh fr un round i) (fX8_keptOut_b4 (nI n) tw tf tu (nI round) f y (nI j)) := by
  intro f
  induction f with
  | zero => intro j y h1 h2; omega
  | succ f ih =>
    intro j y h1 h2 h3
    rw [fX8_keptOut_b4_s]
    rcases Nat.lt_or_ge j n with c | c
    · obtain ⟨w1, w2, w3, w4, w5, w6⟩ := h j c
      rw [if_neg (nI_ge c (by omega)), nI_clamp (by omega), w4, w5, w6, nI_1]
      refine tgD (vkn (by omega) (by decide)) ?_
      have no : ¬ (fr j ≤ round ∧ round ≤ un j) → ∀ i, i < 32 → xb y i = spIn (j + 1) wh fr un round i := fun z i hi => by
        show _ = (spIn j wh fr un round i || (decide (wh j = i) && decide (fr j ≤ round) && decide (round ≤ un j)))
        rw [h3 i hi]
        by_cases z1 : fr j ≤ round
        · rw [decide_eq_false (fun z2 => z ⟨z1, z2⟩), Bool.and_false, Bool.or_false]
        · rw [decide_eq_false z1, Bool.and_false, Bool.false_and, Bool.or_false]
      refine tgI (fun z => ?_) (fun z => tgI (fun z2 => ?_) (fun z2 => ?_))
      · have := nlt z (by omega) (by omega)
        exact ih (j + 1) y (by omega) (by omega) (no (by omega))
      · have := nlt z2 (by omega) (by omega)
        exact ih (j + 1) y (by omega) (by omega) (no (by omega))
      · have z3 := nltn z (by omega) (by omega)
        have z4 := nltn z2 (by omega) (by omega)
        refine tgN (fun w hw => ih (j + 1) w (by omega) (by omega) (fun i hi => ?_))
        rw [hw, ib_or, ib_one _ w1 i hi, h3 i hi]
        show _ = (spIn j wh fr un round i || (decide (wh j = i) && decide (fr j ≤ round) && decide (round ≤ un j)))
        rw [decide_eq_true z3, decide_eq_true z4, Bool.and_true, Bool.and_true]
        by_cases e : i = wh j
        · rw [decide_eq_true e, decide_eq_true e.symm]
        · rw [decide_eq_false e, decide_eq_false (fun q => e q.symm)]
    · have e : j = n := by omega
      subst e
      rw [if_pos (nI_le (Nat.le_refl _) (by omega))]
      exact tgS h3
theorem all_ib : ∀ n : Nat, n ≤ 24 → ∀ i : Nat, i < 32 → xb (((1 : Int32) <<< (nI n &&& 31)) - 1) i = decide (i < n) := by decide +kernel
