/-! the class's best set: the groups, person by person -/
section
variable {np nl : Nat} {a b c g : Nat → Nat} {us : Nat → Bool} {fi se co ow pcs : Nat → Int32} {U : Int32}
def WB : Int := 21990232555520
theorem wln_le (hg : ∀ l, l < nl → g l < 20) {l : Nat} (hl : l < nl) : wln g c l ≤ WB := wth_lt (hg l hl)
theorem sMax_bd (hnl : nl ≤ 8) (hg : ∀ l, l < nl → g l < 20) {G : Nat} {v : Int} (h : sMax nl a b us (wln g c) G v) : 0 ≤ v ∧ v ≤ 175921860444160 := by
  refine ⟨?_, ?_⟩
  · have := h.2 (fun _ => false) ⟨fun l _ h => nofalse h, fun l m _ _ _ h => nofalse h⟩ (fun l _ h => nofalse h)
    rw [swm_none] at this
    exact this
  · obtain ⟨S, s1, s2, s3⟩ := h.1
    have := swm_le (S := S) (w := wln g c) (M := WB) (by decide) nl (fun l hl _ => wln_le hg hl)
    have e : WB * (nl : Int) ≤ 175921860444160 := by
      unfold WB
      omega
    omega
/-- the state of the new groups when the partners below one are looked at -/
def AI (a b c g : Nat → Nat) (us : Nat → Bool) (nl p : Nat) (wg wg2 : Nat → Int64) (q : Nat) : Prop := (∀ G, G < 2 ^ p → wg2 G = wg G) ∧ ∀ G, G < 2 ^ p → ((wg2 (2 ^ p + G)).toInt = (wg G).toInt ∨ ∃ r l, r < q ∧ G.testBit r = true ∧ l < nl ∧ good a b g us l p r ∧ (wg2 (2 ^ p + G)).toInt = wln g c l + (wg (G - 2 ^ r)).toInt) ∧ (wg G).toInt ≤ (wg2 (2 ^ p + G)).toInt ∧ ∀ r l, r < q → G.testBit r = true → l < nl → good a b g us l p r → wln g c l + (wg (G - 2 ^ r)).toInt ≤ (wg2 (2 ^ p + G)).toInt
theorem adm3 (hnl : nl ≤ 8) (hg : ∀ l, l < nl → g l < 20) {p q l0 : Nat} {wg : Nat → Int64} {wv : Int64} (hp : p < 7) (hq : q < p) (hM : ∀ G, G < 2 ^ p → sMax nl a b us (wln g c) G (wg G).toInt) (hl0 : l0 < nl) (hpos : 0 < wln g c l0) (hgd : good a b g us l0 p q) (hwv : wv.toInt = wln g c l0) (hmx : ∀ l, l < nl → good a b g us l p q → wln g c l ≤ wv.toInt) {wg1 : Nat → Int64} (h1 : AI a b c g us nl p wg wg1 q) : ∀ (f y : Nat) (wg2 : Nat → Int64), y ≤ 2 ^ p → 2 ^ p - y < f → (∀ G, G < 2 ^ p → wg2 G = wg G) → (∀ G, y ≤ G → G < 2 ^ p → wg2 (2 ^ p + G) = wg1 (2 ^ p + G)) → (∀ G, G < y → G.testBit q = false → wg2 (2 ^ p + G) = wg1 (2 ^ p + G)) → (∀ G, G < y → G.testBit q = true → (wg2 (2 ^ p + G)).toInt = if (wg1 (2 ^ p + G)).toInt ≤ wln g c l0 + (wg (G - 2 ^ q)).toInt then wln g c l0 + (wg (G - 2 ^ q)).toInt else (wg1 (2 ^ p + G)).toInt) → tG (fun r => AI a b c g us nl p wg r (q + 1)) (fX0_admitWith_b3 (nI (2 ^ p)) (nI q) wv f (nI y) wg2) := by
  have hP : 2 ^ p ≤ 64 := Nat.le_trans (Nat.pow_le_pow_right (by decide) (show p ≤ 6 by omega)) (by decide)
  intro f
  induction f with
  | zero => intro y wg2 z1 z2; omega
  | succ f ih =>
    intro y wg2 z1 z2 k1 k2 k3 k4
    rw [fX0_admitWith_b3_s]
    rcases Nat.lt_or_ge y (2 ^ p) with d | d
    · rw [if_neg (nI_ge d (by omega)), grp_is y (by omega) q (by omega)]
      cases hb : y.testBit q with
      | false =>
        rw [ifF, if_pos rfl, nI_1]
        refine ih (y + 1) wg2 (by omega) (by omega) k1 (fun G e1 e2 => k2 G (by omega) e2) (fun G e1 e2 => ?_) (fun G e1 e2 => ?_)
        · by_cases e : G = y
          · rw [e]; exact k2 y (Nat.le_refl _) d
          · exact k3 G (by omega) e2
        · by_cases e : G = y
          · rw [e, hb] at e2
            exact absurd e2 (by decide)
          · exact k4 G (by omega) e2
      | true =>
        obtain ⟨b1, b2, b3⟩ := tb_sub2 (G := y) (by omega) hb
        have b4 := Nat.two_pow_pos q
        rw [if_pos rfl, if_neg one0, grp_off y (by omega) q (by omega) hb, nI_add, nI_1, nI_clamp (by omega), nI_clamp (by omega), k1 (y - 2 ^ q) (by omega), k2 y (Nat.le_refl _) d]
        have m1 := sMax_bd hnl hg (hM (y - 2 ^ q) (by omega))
        have m2 := wln_le (c := c) hg hl0
        have ea : (wv + wg (y - 2 ^ q)).toInt = wln g c l0 + (wg (y - 2 ^ q)).toInt := by
          have q1 : 0 ≤ wv.toInt + (wg (y - 2 ^ q)).toInt := Int.add_nonneg (by rw [hwv]; exact Int.le_of_lt hpos) m1.1
          have q2 : wv.toInt + (wg (y - 2 ^ q)).toInt ≤ 21990232555520 + 175921860444160 := Int.add_le_add (by rw [hwv]; exact m2) m1.2
          rw [laddT (Int.le_trans (by decide) q1) (Int.lt_of_le_of_lt q2 (by decide)), hwv]
        refine tgD (vkn (by omega) (by decide)) (tgD (vkn (by omega) (by decide)) (tgN (fun w8 hw8 => ?_)))
        have e8 : w8.toInt = if (wg1 (2 ^ p + y)).toInt ≤ wln g c l0 + (wg (y - 2 ^ q)).toInt then wln g c l0 + (wg (y - 2 ^ q)).toInt else (wg1 (2 ^ p + y)).toInt := by
          rw [hw8, maxT, ea]
        refine ih (y + 1) _ (by omega) (by omega) (fun G e1 => ?_) (fun G e1 e2 => ?_) (fun G e1 e2 => ?_) (fun G e1 e2 => ?_)
        · rw [pk_uLn (by omega)]; exact k1 G e1
        · rw [pk_uLn (by omega)]; exact k2 G (by omega) e2
        · by_cases e : G = y
          · rw [e, hb] at e2
            exact absurd e2 (by decide)
          · rw [pk_uLn (by omega)]; exact k3 G (by omega) e2
        · by_cases e : G = y
          · rw [e, pk_uLs]; exact e8
          · rw [pk_uLn (by omega)]; exact k4 G (by omega) e2
    · have e : y = 2 ^ p := by omega
      rw [if_pos (nI_le d (by omega))]
      refine tgS ⟨k1, fun G hG => ?_⟩
      obtain ⟨i1, i2, i3⟩ := h1.2 G hG
      cases hb : G.testBit q with
      | false =>
        rw [k3 G (by omega) hb]
        refine ⟨?_, i2, fun r l hr ht hl hgl => ?_⟩
        · rcases i1 with i1 | ⟨r, l, r1, r2⟩
          · exact Or.inl i1
          · exact Or.inr ⟨r, l, by omega, r2⟩
        · by_cases e : r = q
          · rw [e, hb] at ht
            exact absurd ht (by decide)
          · exact i3 r l (by omega) ht hl hgl
      | true =>
        rw [k4 G (by omega) hb]
        by_cases cc : (wg1 (2 ^ p + G)).toInt ≤ wln g c l0 + (wg (G - 2 ^ q)).toInt
        · rw [if_pos cc]
          refine ⟨Or.inr ⟨q, l0, by omega, hb, hl0, hgd, rfl⟩, Int.le_trans i2 cc, fun r l hr ht hl hgl => ?_⟩
          by_cases e : r = q
          · subst e
            exact Int.add_le_add_right (by rw [← hwv]; exact hmx l hl hgl) _
          · exact Int.le_trans (i3 r l (by omega) ht hl hgl) cc
        · rw [if_neg cc]
          refine ⟨?_, i2, fun r l hr ht hl hgl => ?_⟩
          · rcases i1 with i1 | ⟨r, l, r1, r2⟩
            · exact Or.inl i1
            · exact Or.inr ⟨r, l, by omega, r2⟩
          · by_cases e : r = q
            · subst e
              exact Int.le_trans (Int.add_le_add_right (by rw [← hwv]; exact hmx l hl hgl) _) (Int.le_of_lt (Int.not_le.mp cc))
            · exact i3 r l (by omega) ht hl hgl
theorem adm33 (hnl : nl ≤ 8) (hg : ∀ l, l < nl → g l < 20) (hc : ∀ l, l < nl → c l < 1000) {p : Nat} {wg wp : Nat → Int64} (hp : p < 7) (hM : ∀ G, G < 2 ^ p → sMax nl a b us (wln g c) G (wg G).toInt) (hW : PWI a b c g us wp nl) : ∀ (f q : Nat) (wg2 : Nat → Int64), q ≤ p → p - q < f → AI a b c g us nl p wg wg2 q → tG (fun r => AI a b c g us nl p wg r p) (fX0_admit_b33 wp (nI p) f (nI (2 ^ p)) (nI q) wg2) := by
  have hP : 2 ^ p ≤ 64 := Nat.le_trans (Nat.pow_le_pow_right (by decide) (show p ≤ 6 by omega)) (by decide)
  intro f
  induction f with
  | zero => intro q wg2 z1 z2; omega
  | succ f ih =>
    intro q wg2 z1 z2 hA
    rw [fX0_admit_b33_s]
    rcases Nat.lt_or_ge q p with d | d
    · obtain ⟨k1, k2⟩ := pkey_of p (by omega) q (by omega)
      obtain ⟨w1, w2, w3⟩ := hW p q (by omega) (by omega) (by omega)
      rw [if_neg (nI_ge d (by omega)), k1, nI_clamp (by omega), nI_1]
      refine tgD (vkn k2 (by decide)) (tgI (fun z => ?_) (fun z => ?_))
      · have z0 : (wp (pkey p q)).toInt ≤ 0 := by
          unfold lg_cmp at z
          by_cases x1 : wp (pkey p q) < 0
          · rw [Int64.lt_iff_toInt_lt] at x1
            have : (0 : Int64).toInt = 0 := rfl
            omega
          · by_cases x2 : wp (pkey p q) = 0
            · rw [x2]
              decide
            · exfalso
              revert z
              simp [x1, x2]
        refine ih (q + 1) wg2 (by omega) (by omega) ⟨hA.1, fun G hG => ?_⟩
        obtain ⟨i1, i2, i3⟩ := hA.2 G hG
        refine ⟨?_, i2, fun r l hr ht hl hgl => ?_⟩
        · rcases i1 with i1 | ⟨r, l, r1, r2⟩
          · exact Or.inl i1
          · exact Or.inr ⟨r, l, by omega, r2⟩
        · by_cases e : r = q
          · rw [e] at hgl
            have h1 := w3 l hl hgl
            have h2 : 0 < wln g c l := wth_pos hgl.2.1 (hc l hl) (by omega)
            exact absurd (Int.lt_of_lt_of_le h2 (Int.le_trans h1 z0)) (Int.lt_irrefl _)
          · exact i3 r l (by omega) ht hl hgl
      · have z0 : 0 < (wp (pkey p q)).toInt := by
          rcases w2 with w2 | w2
          · exfalso
            apply z
            have : wp (pkey p q) = 0 := Int64.toInt_inj.mp (by rw [w2]; rfl)
            rw [this]
            decide
          · obtain ⟨l, l1, l2, l3⟩ := w2
            have h2 : 0 < wln g c l := wth_pos l2.2.1 (hc l l1) (by omega)
            rw [l3]
            exact h2
        rcases w2 with w2 | ⟨l0, l1, l2, l3⟩
        · rw [w2] at z0
          exact absurd z0 (Int.lt_irrefl _)
        · unfold fX0_admitWith
          refine tgC (adm3 hnl hg hp d hM l1 (wth_pos l2.2.1 (hc l0 l1) (by omega)) l2 l3 w3 hA FU 0 wg2 (Nat.zero_le _) (by have := FUge; omega) hA.1 (fun G _ _ => rfl) (fun G e1 => absurd e1 (Nat.not_lt_zero _)) (fun G e1 => absurd e1 (Nat.not_lt_zero _))) (fun u hu => ?_)
          exact ih (q + 1) u (by omega) (by omega) hu
    · have e : q = p := by omega
      subst e
      rw [if_pos (nI_le d (by omega))]
      exact tgS hA
theorem adm6 (hnl : nl ≤ 8) (hg : ∀ l, l < nl → g l < 20) (hc : ∀ l, l < nl → c l < 1000) {p : Nat} {wg wp : Nat → Int64} (hp : p < 7) (hM : ∀ G, G < 2 ^ p → sMax nl a b us (wln g c) G (wg G).toInt) (hW : PWI a b c g us wp nl) : ∀ (f y : Nat) (wg2 : Nat → Int64), y ≤ 2 ^ p → 2 ^ p - y < f → (∀ G, G < 2 ^ p → wg2 G = wg G) → (∀ G, G < y → wg2 (2 ^ p + G) = wg G) → tG (fun r => AI a b c g us nl p wg r p) (fX0_admit_b6 wp (nI p) f (nI (2 ^ p)) (nI y) wg2) := by
  have hP : 2 ^ p ≤ 64 := Nat.le_trans (Nat.pow_le_pow_right (by decide) (show p ≤ 6 by omega)) (by decide)
  intro f
  induction f with
  | zero => intro y wg2 z1 z2; omega
  | succ f ih =>
    intro y wg2 z1 z2 k1 k2
    rw [fX0_admit_b6_s]
    rcases Nat.lt_or_ge y (2 ^ p) with d | d
    · rw [if_neg (nI_ge d (by omega)), nI_add, nI_1, nI_clamp (by omega), nI_clamp (by omega)]
      refine tgD (vkn (by omega) (by decide)) (tgD (vkn (by omega) (by decide)) (ih (y + 1) _ (by omega) (by omega) (fun G hG => ?_) (fun G hG => ?_)))
      · rw [pk_uLn (by omega)]; exact k1 G hG
      · by_cases e : G = y
        · rw [e, pk_uLs]; exact k1 y d
        · rw [pk_uLn (by omega)]; exact k2 G (by omega)
    · rw [if_pos (nI_le d (by omega))]
      refine adm33 hnl hg hc hp hM hW FU 0 wg2 (Nat.zero_le _) (by have := FUge; omega) ⟨k1, fun G hG => ?_⟩
      rw [k2 G (by omega)]
      exact ⟨Or.inl rfl, Int.le_refl _, fun r l hr => absurd hr (Nat.not_lt_zero r)⟩
theorem adm (hE : hEx np nl a b c fi se co) (hg : ∀ l, l < nl → g l < 20) {p : Nat} {wg wp : Nat → Int64} (hp : p < 7) (hM : ∀ G, G < 2 ^ p → sMax nl a b us (wln g c) G (wg G).toInt) (hW : PWI a b c g us wp nl) : tG (fun r => ∀ G, G < 2 ^ (p + 1) → sMax nl a b us (wln g c) G (r G).toInt) (fX0_admit wp wg (nI p)) := by
  obtain ⟨hnp, hnl, hE⟩ := hE
  have hc : ∀ l, l < nl → c l < 1000 := fun l hl => (hE l hl).2.2.2.1
  have hab : ∀ l, l < nl → a l ≠ b l := fun l hl => (hE l hl).2.2.1
  have hP : 2 ^ p ≤ 64 := Nat.le_trans (Nat.pow_le_pow_right (by decide) (show p ≤ 6 by omega)) (by decide)
  unfold fX0_admit
  rw [tshl (by omega : p ≤ 9)]
  refine tgW (adm6 hnl hg hc hp hM hW FU 0 wg (Nat.zero_le _) (by have := FUge; omega) (fun G _ => rfl) (fun G hG => absurd hG (Nat.not_lt_zero G))) (fun r hr G hG => ?_)
  rw [Nat.pow_succ] at hG
  rcases Nat.lt_or_ge G (2 ^ p) with d | d
  · rw [hr.1 G d]
    exact hM G d
  · obtain ⟨H, rfl⟩ : ∃ H, G = 2 ^ p + H := ⟨G - 2 ^ p, by omega⟩
    have hH : H < 2 ^ p := by omega
    obtain ⟨i1, i2, i3⟩ := hr.2 H hH
    have hsub : ∀ q, H.testBit q = true → H - 2 ^ q < 2 ^ p := fun q _ => by omega
    refine sMax_step (MX := fun G => (wg G).toInt) hab (tb_add p hp H hH) (fun q hq i => (tb_sub2 (by omega) hq).2.2 i) (tb_hi hH (Nat.le_refl _)) (hM H hH) (fun q hq => hM _ (hsub q hq)) ?_ i2 (fun q l hq hl hs hpq => ?_)
    · rcases i1 with i1 | ⟨q, l, q1, q2, q3, q4, q5⟩
      · exact Or.inl i1
      · exact Or.inr ⟨q, l, q2, q3, q4.1, q4.2.2, q5⟩
    · have hqp : q < p := by
        rcases Nat.lt_or_ge q p with z | z
        · exact z
        · rw [tb_hi hH z] at hq
          exact absurd hq (by decide)
      rcases Nat.eq_zero_or_pos (g l) with z | z
      · have h1 : wln g c l < 0 := by
          unfold wln
          rw [z]
          exact wth_neg (by omega)
        have h2 := sMax_mono (fun i hi => by
          rw [(tb_sub2 (by omega) hq).2.2 i, Bool.and_eq_true] at hi
          exact hi.1) (hM _ (hsub q hq)) (hM H hH)
        show wln g c l + (wg (H - 2 ^ q)).toInt ≤ _
        omega
      · exact i3 q l hqp hq hl ⟨hs, z, hpq⟩
end
theorem mask24 {x : Int64} {Gq Cq : Int} {B : Nat} (h : x.toInt = 1099511627776 * Gq - 16777216 * Cq - B) (hG : 0 ≤ Gq ∧ Gq < 1000) (hC : 0 ≤ Cq ∧ Cq < 65536) (hB : B < 16777216) : ((-x) &&& 16777215).toInt32 = nI B := by
  have h1 : (-x).toInt = -x.toInt := by
    rw [Int64.toInt_neg]
    unfold Int.bmod
    simp only []
    omega
  have h2 : (-x).toInt = (-x).toBitVec.toInt := rfl
  have h3 : (-x).toBitVec.toNat % 16777216 = B := by
    have h4 := BitVec.toInt_eq_toNat_cond (-x).toBitVec
    have h5 := (-x).toBitVec.isLt
    rw [← h2, h1, h] at h4
    by_cases c : 2 * (-x).toBitVec.toNat < 2 ^ 64
    · rw [if_pos c] at h4
      omega
    · rw [if_neg c] at h4
      omega
  have h6 : ((-x) &&& 16777215) = lN B := by
    apply Int64.toBitVec_inj.mp
    apply BitVec.eq_of_toNat_eq
    have e1 : ((-x) &&& 16777215).toBitVec.toNat = (-x).toBitVec.toNat &&& 16777215 := by
      show ((-x).toBitVec &&& (16777215 : Int64).toBitVec).toNat = _
      rw [BitVec.toNat_and]
      rfl
    have e2 : (lN B).toBitVec.toNat = B % 2 ^ 64 := rfl
    rw [e1, e2, show (16777215 : Nat) = 2 ^ 24 - 1 from rfl, Nat.and_two_pow_sub_one_eq_mod, Nat.mod_eq_of_lt (by omega)]
    exact h3
  rw [h6, lN_i]
theorem swm_neg {S : Nat → Bool} {w : Nat → Int} : ∀ n : Nat, (∀ l, l < n → S l = true → w l ≤ 0) → swm S w n ≤ 0 := by
  intro n h
  have := swm_le (M := 0) (Int.le_refl _) n h
  omega
theorem find15 (hE : hEx np nl a b c fi se co) (hg : ∀ l, l < nl → g l < 20) {wp : Nat → Int64} (hW : PWI a b c g us wp nl) : ∀ (f y : Nat) (wg : Nat → Int64), y ≤ np → np - y < f → (∀ G, G < 2 ^ y → sMax nl a b us (wln g c) G (wg G).toInt) → wg 0 = 0 → tG (fun r => (∃ S, sfree nl a b us S ∧ (∀ T, sfree nl a b us T → swm T (wln g c) nl ≤ swm S (wln g c) nl) ∧ r.1 = nI (sbit S nl)) ∧ r.2.2 0 = 0) (fX0_find_b15 (nI np) f (nI y) wp wg) := by
  intro f
  induction f with
  | zero => intro y wg z1 z2; omega
  | succ f ih =>
    intro y wg z1 z2 hM h0
    have hnp := hE.1
    rw [fX0_find_b15_s]
    rcases Nat.lt_or_ge y np with d | d
    · rw [if_neg (nI_ge d (by omega))]
      refine tgC (adm hE hg (by omega) hM hW) (fun u hu => ?_)
      rw [nI_1]
      refine ih (y + 1) u (by omega) (by omega) hu ?_
      have := hu 0 (Nat.two_pow_pos _)
      have h1 := this.2 (fun _ => false) ⟨fun l _ h => nofalse h, fun l m _ _ _ h => nofalse h⟩ (fun l _ h => nofalse h)
      have h2 := sMax_0 (n := nl) (a := a) (b := b) (us := us) (w := wln g c)
      obtain ⟨S, s1, s2, s3⟩ := this.1
      have h3 := h2.2 S s1 s2
      rw [swm_none] at h1
      apply Int64.toInt_inj.mp
      have : (0 : Int64).toInt = 0 := rfl
      omega
    · have e : y = np := by omega
      subst e
      rw [if_pos (nI_le d (by omega))]
      unfold fX0_find_b36
      rw [tshr y (by omega)]
      have hP : 2 ^ y ≤ 128 := Nat.le_trans (Nat.pow_le_pow_right (by decide) hnp) (by decide)
      have pp := Nat.two_pow_pos y
      rw [nI_clamp (by omega)]
      refine tgD (vkn (by omega) (by decide)) (tgS ⟨?_, h0⟩)
      have hF := hM (2 ^ y - 1) (by omega)
      obtain ⟨S, s1, s2, s3⟩ := hF.1
      have hall : ∀ T, swith nl a b (2 ^ y - 1) T := fun T l hl _ => by
        obtain ⟨e1, e2, -⟩ := hE.2.2 l hl
        rw [Nat.testBit_two_pow_sub_one, Nat.testBit_two_pow_sub_one, decide_eq_true e1, decide_eq_true e2]
        exact ⟨rfl, rfl⟩
      refine ⟨S, s1, fun T hT => ?_, ?_⟩
      · rw [s3]
        exact hF.2 T hT (hall T)
      · have hl := swm_lin (S := S) (g := fun l => ((g l : Nat) : Int)) (c := fun l => ((c l : Nat) : Int)) (v := fun l => ((2 ^ l : Nat) : Int)) (w := wln g c) (A := 1099511627776) (B := 16777216) nl (fun l _ => by
          show (g l : Int) * 1099511627776 - (c l : Int) * 16777216 - ((2 ^ l : Nat) : Int) = 1099511627776 * (g l : Int) - 16777216 * (c l : Int) - ((2 ^ l : Nat) : Int)
          omega)
        have b1 := swm_bd (S := S) (w := fun l => ((g l : Nat) : Int)) (M := 20) (by decide) nl (fun l hl => by have := hg l hl; omega)
        have b2 := swm_bd (S := S) (w := fun l => ((c l : Nat) : Int)) (M := 1000) (by decide) nl (fun l hl => by have := (hE.2.2 l hl).2.2.2.1; omega)
        have b3 := sbit_lt (S := S) nl
        have hnl := hE.2.1
        have b4 : 2 ^ nl ≤ 256 := Nat.le_trans (Nat.pow_le_pow_right (by decide) hnl) (by decide)
        rw [sbit_swm, s3] at hl
        exact mask24 hl ⟨b1.1, by omega⟩ ⟨b2.1, by omega⟩ (by omega)
theorem find_best (hE : hEx np nl a b c fi se co) (hG : hGn nl g fi se ow pcs) (hU : hUs nl us U) {wp wg : Nat → Int64} (h0 : wg 0 = 0) : tG (fun r => (∃ S, sfree nl a b us S ∧ (∀ T, sfree nl a b us T → swm T (wln g c) nl ≤ swm S (wln g c) nl) ∧ r.1 = nI (sbit S nl)) ∧ r.2.2 0 = 0) (fX0_find wp wg (nI np) (nI nl) fi se co ow pcs U) := by
  unfold fX0_find fX0_rankPairs
  refine tgC (rank6 hE hG hU FU 0 wp (by decide) (by have := FUge; omega) (fun j hj => absurd hj (Nat.not_lt_zero j))) (fun u hu => ?_)
  obtain ⟨h1, h2⟩ := hu
  have hg : ∀ l, l < nl → g l < 20 := fun l hl => (hG l hl).1
  refine tgI (fun e => ?_) (fun e => ?_)
  · refine tgS ⟨⟨fun _ => false, ⟨fun l _ h => nofalse h, fun l m _ _ _ h => nofalse h⟩, fun T hT => ?_, ?_⟩, h0⟩
    · rw [swm_none]
      refine swm_neg nl (fun l hl hs => ?_)
      rcases h1 with ⟨_, z⟩ | ⟨z, _⟩
      · have := z l hl (hT.1 l hl hs)
        have h3 : wln g c l < 0 := by
          unfold wln
          rw [this]
          exact wth_neg (by have := hE.2.1; omega)
        omega
      · rw [z] at e
        exact absurd e one0
    · have e : sbit (fun _ => false) nl = 0 := by
        have := sbit_swm (S := fun _ => false) nl
        rw [swm_none] at this
        omega
      rw [e]
      rfl
  · refine find15 hE hg h2 FU 0 wg (Nat.zero_le _) (by have := FUge; have := hE.1; omega) (fun G hG => ?_) h0
    have e0 : G = 0 := by
      rw [Nat.pow_zero] at hG
      omega
    rw [e0, h0]
    exact sMax_0
end
