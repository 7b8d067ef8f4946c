/-! the class's best set: its end -/
section
variable {np nl : Nat} {a b c g : Nat → Nat} {us : Nat → Bool} {fi se co ow pcs : Nat → Int32} {U : Int32}
theorem mask24 {x : Int64} {Gq Cq : Int} {B : Nat} (h : x.toInt = 1099511627776 * Gq - 16777216 * Cq - B) (hG : 0 ≤ Gq ∧ Gq < 1000) (hC : 0 ≤ Cq ∧ Cq < 65536) (hB : B < 16777216) : ((-x) &&& 16777215).toInt32 = nI B := by
  have h1 : (-x).toInt = -x.toInt := by
    rw [Int64.toInt_neg]
    unfold Int.bmod
    simp only []
    omega
  have h2 : (-x).toInt = (-x).toBitVec.toInt := rfl
  have h3 : (-x).toBitVec.toNat % 16777216 = B := by
    have h4 := BitVec.toInt_eq_toNat_cond (-x).toBitVec
    have h5 := (-x).toBitVec.isLt
    rw [← h2, h1, h] at h4
    by_cases c : 2 * (-x).toBitVec.toNat < 2 ^ 64
    · rw [if_pos c] at h4
      omega
    · rw [if_neg c] at h4
      omega
  have h6 : ((-x) &&& 16777215) = lN B := by
    apply Int64.toBitVec_inj.mp
    apply BitVec.eq_of_toNat_eq
    have e1 : ((-x) &&& 16777215).toBitVec.toNat = (-x).toBitVec.toNat &&& 16777215 := by
      show ((-x).toBitVec &&& (16777215 : Int64).toBitVec).toNat = _
      rw [BitVec.toNat_and]
      rfl
    have e2 : (lN B).toBitVec.toNat = B % 2 ^ 64 := rfl
    rw [e1, e2, show (16777215 : Nat) = 2 ^ 24 - 1 from rfl, Nat.and_two_pow_sub_one_eq_mod, Nat.mod_eq_of_lt (show B < 2 ^ 64 by omega)]
    exact h3
  rw [h6, lN_i]
theorem swm_neg {S : Nat → Bool} {w : Nat → Int} : ∀ n : Nat, (∀ l, l < n → S l = true → w l ≤ 0) → swm S w n ≤ 0 := by
  intro n h
  have := swm_le (M := 0) (Int.le_refl _) n h
  omega
theorem find15 (hE : hEx np nl a b c fi se co) (hg : ∀ l, l < nl → g l < 20) {wp : Nat → Int64} (hW : PWI a b c g us wp nl) : ∀ (f y : Nat) (wg : Nat → Int64), y ≤ np → np - y < f → (∀ G, G < 2 ^ y → sMax nl a b us (wln g c) G (wg G).toInt) → wg 0 = 0 → tG (fun r => (∃ S, sfree nl a b us S ∧ (∀ T, sfree nl a b us T → swm T (wln g c) nl ≤ swm S (wln g c) nl) ∧ r.1 = nI (sbit S nl)) ∧ r.2.2 0 = 0) (fX0_find_b15 (nI np) f (nI y) wp wg) := by
  intro f
  induction f with
  | zero => intro y wg z1 z2; omega
  | succ f ih =>
    intro y wg z1 z2 hM h0
    have hnp := hE.1
    rw [fX0_find_b15_s]
    rcases Nat.lt_or_ge y np with d | d
    · rw [if_neg (nI_ge d (by omega))]
      refine tgC (adm hE hg (by omega) hM hW) (fun u hu => ?_)
      rw [nI_1]
      refine ih (y + 1) u (by omega) (by omega) hu ?_
      have := hu 0 (Nat.two_pow_pos _)
      have h1 := this.2 (fun _ => false) ⟨fun l _ h => nofalse h, fun l m _ _ _ h => nofalse h⟩ (fun l _ h => nofalse h)
      have h2 := sMax_0 (n := nl) (a := a) (b := b) (us := us) (w := wln g c)
      obtain ⟨S, s1, s2, s3⟩ := this.1
      have h3 := h2.2 S s1 s2
      rw [swm_none] at h1
      apply Int64.toInt_inj.mp
      have : (0 : Int64).toInt = 0 := rfl
      omega
    · have e : y = np := by omega
      subst e
      rw [if_pos (nI_le d (by omega))]
      unfold fX0_find_b36
      rw [tshr y (by omega)]
      have hP : 2 ^ y ≤ 128 := Nat.le_trans (Nat.pow_le_pow_right (by decide) hnp) (by decide)
      have pp := Nat.two_pow_pos y
      rw [nI_clamp (by omega)]
      refine tgD (vkn (by omega) (by decide)) (tgS ⟨?_, h0⟩)
      have hF := hM (2 ^ y - 1) (by omega)
      obtain ⟨S, s1, s2, s3⟩ := hF.1
      have hall : ∀ T, swith nl a b (2 ^ y - 1) T := fun T l hl _ => by
        obtain ⟨e1, e2, -⟩ := hE.2.2 l hl
        rw [Nat.testBit_two_pow_sub_one, Nat.testBit_two_pow_sub_one, decide_eq_true e1, decide_eq_true e2]
        exact ⟨rfl, rfl⟩
      refine ⟨S, s1, fun T hT => ?_, ?_⟩
      · rw [s3]
        exact hF.2 T hT (hall T)
      · have hl := swm_lin (S := S) (g := fun l => ((g l : Nat) : Int)) (c := fun l => ((c l : Nat) : Int)) (v := fun l => ((2 ^ l : Nat) : Int)) (w := wln g c) (A := 1099511627776) (B := 16777216) nl (fun l _ => by
          show (g l : Int) * 1099511627776 - (c l : Int) * 16777216 - ((2 ^ l : Nat) : Int) = 1099511627776 * (g l : Int) - 16777216 * (c l : Int) - ((2 ^ l : Nat) : Int)
          omega)
        have b1 := swm_bd (S := S) (w := fun l => ((g l : Nat) : Int)) (M := 20) (by decide) nl (fun l hl => by have := hg l hl; omega)
        have b2 := swm_bd (S := S) (w := fun l => ((c l : Nat) : Int)) (M := 1000) (by decide) nl (fun l hl => by have := (hE.2.2 l hl).2.2.2.1; omega)
        have b3 := sbit_lt (S := S) nl
        have hnl := hE.2.1
        have b4 : 2 ^ nl ≤ 256 := Nat.le_trans (Nat.pow_le_pow_right (by decide) hnl) (by decide)
        rw [sbit_swm, s3] at hl
        exact mask24 hl ⟨b1.1, by omega⟩ ⟨b2.1, by omega⟩ (by omega)
theorem find_best (hE : hEx np nl a b c fi se co) (hG : hGn nl g fi se ow pcs) (hU : hUs nl us U) {wp wg : Nat → Int64} (h0 : wg 0 = 0) : tG (fun r => (∃ S, sfree nl a b us S ∧ (∀ T, sfree nl a b us T → swm T (wln g c) nl ≤ swm S (wln g c) nl) ∧ r.1 = nI (sbit S nl)) ∧ r.2.2 0 = 0) (fX0_find wp wg (nI np) (nI nl) fi se co ow pcs U) := by
  unfold fX0_find fX0_rankPairs
  refine tgC (rank6 hE hG hU FU 0 wp (by decide) (by have := FUge; omega) (fun j hj => absurd hj (Nat.not_lt_zero j))) (fun u hu => ?_)
  obtain ⟨h1, h2⟩ := hu
  have hg : ∀ l, l < nl → g l < 20 := fun l hl => (hG l hl).1
  refine tgI (fun e => ?_) (fun e => ?_)
  · refine tgS ⟨⟨fun _ => false, ⟨fun l _ h => nofalse h, fun l m _ _ _ h => nofalse h⟩, fun T hT => ?_, ?_⟩, h0⟩
    · rw [swm_none]
      refine swm_neg nl (fun l hl hs => ?_)
      rcases h1 with ⟨_, z⟩ | ⟨z, _⟩
      · have := z l hl (hT.1 l hl hs)
        have h3 : wln g c l < 0 := by
          unfold wln
          rw [this]
          exact wth_neg (by have := hE.2.1; omega)
        omega
      · rw [z] at e
        exact absurd e one0
    · have e : sbit (fun _ => false) nl = 0 := by
        have := sbit_swm (S := fun _ => false) nl
        rw [swm_none] at this
        omega
      rw [e]
      rfl
  · refine find15 hE hg h2 FU 0 wg (Nat.zero_le _) (by have := FUge; have := hE.1; omega) (fun G hG => ?_) h0
    have e0 : G = 0 := by
      rw [Nat.pow_zero] at hG
      omega
    rw [e0, h0]
    exact sMax_0
end
