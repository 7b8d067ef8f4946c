/-! the class's best set: the groups, person by person -/
section
variable {np nl : Nat} {a b c g : Nat → Nat} {us : Nat → Bool} {fi se co ow pcs : Nat → Int32} {U : Int32}
def WB : Int := 21990232555520
/-- a fact that omega is not to look at -/
def Hd (p : Prop) : Prop := p
theorem wln_le (hg : ∀ l, l < nl → g l < 20) {l : Nat} (hl : l < nl) : wln g c l ≤ WB := wth_lt (hg l hl)
theorem sMax_bd (hnl : nl ≤ 8) (hg : ∀ l, l < nl → g l < 20) {G : Nat} {v : Int} (h : sMax nl a b us (wln g c) G v) : 0 ≤ v ∧ v ≤ 175921860444160 := by
  refine ⟨?_, ?_⟩
  · have := h.2 (fun _ => false) ⟨fun l _ h => nofalse h, fun l m _ _ _ h => nofalse h⟩ (fun l _ h => nofalse h)
    rw [swm_none] at this
    exact this
  · obtain ⟨S, s1, s2, s3⟩ := h.1
    have := swm_le (S := S) (w := wln g c) (M := WB) (by decide) nl (fun l hl _ => wln_le hg hl)
    have e : WB * (nl : Int) ≤ 175921860444160 := by
      unfold WB
      omega
    omega
/-- the state of the new groups when the partners below one are looked at -/
def AI (a b c g : Nat → Nat) (us : Nat → Bool) (nl p : Nat) (wg wg2 : Nat → Int64) (q : Nat) : Prop := (∀ G, G < 2 ^ p → wg2 G = wg G) ∧ ∀ G, G < 2 ^ p → ((wg2 (2 ^ p + G)).toInt = (wg G).toInt ∨ ∃ r l, r < q ∧ G.testBit r = true ∧ l < nl ∧ good a b g us l p r ∧ (wg2 (2 ^ p + G)).toInt = wln g c l + (wg (G - 2 ^ r)).toInt) ∧ (wg G).toInt ≤ (wg2 (2 ^ p + G)).toInt ∧ ∀ r l, r < q → G.testBit r = true → l < nl → good a b g us l p r → wln g c l + (wg (G - 2 ^ r)).toInt ≤ (wg2 (2 ^ p + G)).toInt
theorem adm3 (hnl : nl ≤ 8) (hg : ∀ l, l < nl → g l < 20) {p q l0 : Nat} {wg : Nat → Int64} {wv : Int64} (hp : p < 7) (hq : q < p) (hM : ∀ G, G < 2 ^ p → sMax nl a b us (wln g c) G (wg G).toInt) (hl0 : l0 < nl) (hpos : Hd (0 < wln g c l0)) (hgd : good a b g us l0 p q) (hwv : Hd (wv.toInt = wln g c l0)) (hmx : ∀ l, l < nl → good a b g us l p q → wln g c l ≤ wv.toInt) {wg1 : Nat → Int64} (h1 : AI a b c g us nl p wg wg1 q) : ∀ (f y : Nat) (wg2 : Nat → Int64), y ≤ 2 ^ p → 2 ^ p - y < f → (∀ G, G < 2 ^ p → wg2 G = wg G) → (∀ G, y ≤ G → G < 2 ^ p → wg2 (2 ^ p + G) = wg1 (2 ^ p + G)) → (∀ G, G < y → G.testBit q = false → wg2 (2 ^ p + G) = wg1 (2 ^ p + G)) → (∀ G, G < y → G.testBit q = true → (wg2 (2 ^ p + G)).toInt = if (wg1 (2 ^ p + G)).toInt ≤ wln g c l0 + (wg (G - 2 ^ q)).toInt then wln g c l0 + (wg (G - 2 ^ q)).toInt else (wg1 (2 ^ p + G)).toInt) → tG (fun r => AI a b c g us nl p wg r (q + 1)) (fX0_admitWith_b3 (nI (2 ^ p)) (nI q) wv f (nI y) wg2) := by
  have hP : 2 ^ p ≤ 64 := Nat.le_trans (Nat.pow_le_pow_right (by decide) (show p ≤ 6 by omega)) (by decide)
  intro f
  induction f with
  | zero => intro y wg2 z1 z2; omega
  | succ f ih =>
    intro y wg2 z1 z2 k1 k2 k3 k4
    rw [fX0_admitWith_b3_s]
    rcases Nat.lt_or_ge y (2 ^ p) with d | d
    · rw [if_neg (nI_ge d (by omega)), grp_is y (by omega) q (by omega)]
      cases hb : y.testBit q with
      | false =>
        rw [ifF, if_pos rfl, nI_1]
        refine ih (y + 1) wg2 (by omega) (by omega) k1 (fun G e1 e2 => k2 G (by omega) e2) (fun G e1 e2 => ?_) (fun G e1 e2 => ?_)
        · by_cases e : G = y
          · rw [e]; exact k2 y (Nat.le_refl _) d
          · exact k3 G (by omega) e2
        · by_cases e : G = y
          · rw [e, hb] at e2
            exact absurd e2 (by decide)
          · exact k4 G (by omega) e2
      | true =>
        obtain ⟨b1, b2, b3⟩ := tb_sub2 (G := y) (by omega) hb
        have b4 := Nat.two_pow_pos q
        rw [if_pos rfl, if_neg one0, grp_off y (by omega) q (by omega) hb, nI_add, nI_1, nI_clamp (by omega), nI_clamp (by omega), k1 (y - 2 ^ q) (by omega), k2 y (Nat.le_refl _) d]
        have y1 : y - 2 ^ q < 2 ^ p := by omega
        have ea : Hd ((wv + wg (y - 2 ^ q)).toInt = wln g c l0 + (wg (y - 2 ^ q)).toInt) := by
          have m1 := sMax_bd hnl hg (hM (y - 2 ^ q) y1)
          have m2 := wln_le (c := c) hg hl0
          have w2 : wv.toInt = wln g c l0 := hwv
          have q1 : 0 ≤ wv.toInt + (wg (y - 2 ^ q)).toInt := Int.add_nonneg (by rw [w2]; exact Int.le_of_lt hpos) m1.1
          have q2 : wv.toInt + (wg (y - 2 ^ q)).toInt ≤ 21990232555520 + 175921860444160 := Int.add_le_add (by rw [w2]; exact m2) m1.2
          show (wv + wg (y - 2 ^ q)).toInt = wln g c l0 + (wg (y - 2 ^ q)).toInt
          rw [laddT (Int.le_trans (by decide) q1) (Int.lt_of_le_of_lt q2 (by decide)), w2]
        refine tgD (vkn (by omega) (by decide)) (tgD (vkn (by omega) (by decide)) (tgN (fun w8 hw8 => ?_)))
        have e8 : Hd (w8.toInt = if (wg1 (2 ^ p + y)).toInt ≤ wln g c l0 + (wg (y - 2 ^ q)).toInt then wln g c l0 + (wg (y - 2 ^ q)).toInt else (wg1 (2 ^ p + y)).toInt) := by
          show w8.toInt = _
          rw [hw8, maxT, (show (wv + wg (y - 2 ^ q)).toInt = wln g c l0 + (wg (y - 2 ^ q)).toInt from ea)]
        refine ih (y + 1) _ (by omega) (by omega) (fun G e1 => ?_) (fun G e1 e2 => ?_) (fun G e1 e2 => ?_) (fun G e1 e2 => ?_)
        · rw [pk_uLn (by omega)]; exact k1 G e1
        · rw [pk_uLn (by omega)]; exact k2 G (by omega) e2
        · by_cases e : G = y
          · rw [e, hb] at e2
            exact absurd e2 (by decide)
          · rw [pk_uLn (by omega)]; exact k3 G (by omega) e2
        · by_cases e : G = y
          · rw [e, pk_uLs]; exact e8
          · rw [pk_uLn (by omega)]; exact k4 G (by omega) e2
    · have e : y = 2 ^ p := by omega
      rw [if_pos (nI_le d (by omega))]
      refine tgS ⟨k1, fun G hG => ?_⟩
      obtain ⟨i1, i2, i3⟩ := h1.2 G hG
      cases hb : G.testBit q with
      | false =>
        rw [k3 G (Nat.lt_of_lt_of_le hG d) hb]
        refine ⟨?_, i2, fun r l hr ht hl hgl => ?_⟩
        · rcases i1 with i1 | ⟨r, l, r1, r2⟩
          · exact Or.inl i1
          · exact Or.inr ⟨r, l, Nat.lt_succ_of_lt r1, r2⟩
        · by_cases e : r = q
          · rw [e, hb] at ht
            exact absurd ht (by decide)
          · exact i3 r l (Nat.lt_of_le_of_ne (Nat.le_of_lt_succ hr) e) ht hl hgl
      | true =>
        rw [k4 G (Nat.lt_of_lt_of_le hG d) hb]
        by_cases cc : (wg1 (2 ^ p + G)).toInt ≤ wln g c l0 + (wg (G - 2 ^ q)).toInt
        · rw [if_pos cc]
          refine ⟨Or.inr ⟨q, l0, Nat.lt_succ_self q, hb, hl0, hgd, rfl⟩, Int.le_trans i2 cc, fun r l hr ht hl hgl => ?_⟩
          by_cases e : r = q
          · subst e
            exact Int.add_le_add_right (by rw [← (show wv.toInt = wln g c l0 from hwv)]; exact hmx l hl hgl) _
          · exact Int.le_trans (i3 r l (Nat.lt_of_le_of_ne (Nat.le_of_lt_succ hr) e) ht hl hgl) cc
        · rw [if_neg cc]
          refine ⟨?_, i2, fun r l hr ht hl hgl => ?_⟩
          · rcases i1 with i1 | ⟨r, l, r1, r2⟩
            · exact Or.inl i1
            · exact Or.inr ⟨r, l, Nat.lt_succ_of_lt r1, r2⟩
          · by_cases e : r = q
            · subst e
              exact Int.le_trans (Int.add_le_add_right (by rw [← (show wv.toInt = wln g c l0 from hwv)]; exact hmx l hl hgl) _) (Int.le_of_lt (Int.not_le.mp cc))
            · exact i3 r l (Nat.lt_of_le_of_ne (Nat.le_of_lt_succ hr) e) ht hl hgl
theorem adm33 (hnl : nl ≤ 8) (hg : ∀ l, l < nl → g l < 20) (hc : ∀ l, l < nl → c l < 1000) {p : Nat} {wg wp : Nat → Int64} (hp : p < 7) (hM : ∀ G, G < 2 ^ p → sMax nl a b us (wln g c) G (wg G).toInt) (hW : PWI a b c g us wp nl) : ∀ (f q : Nat) (wg2 : Nat → Int64), q ≤ p → p - q < f → AI a b c g us nl p wg wg2 q → tG (fun r => AI a b c g us nl p wg r p) (fX0_admit_b33 wp (nI p) f (nI (2 ^ p)) (nI q) wg2) := by
  have hP : 2 ^ p ≤ 64 := Nat.le_trans (Nat.pow_le_pow_right (by decide) (show p ≤ 6 by omega)) (by decide)
  intro f
  induction f with
  | zero => intro q wg2 z1 z2; omega
  | succ f ih =>
    intro q wg2 z1 z2 hA
    rw [fX0_admit_b33_s]
    rcases Nat.lt_or_ge q p with d | d
    · obtain ⟨k1, k2⟩ := pkey_of p (by omega) q (by omega)
      rw [if_neg (nI_ge d (by omega)), k1, nI_clamp (by omega), nI_1]
      have u1 : q + 1 ≤ p := by omega
      have u2 : p - (q + 1) < f := by omega
      have u3 : 2 ^ p - 0 < FU := by have := FUge; omega
      obtain ⟨w1, w2, w3⟩ := hW p q (by omega) (by omega) (by omega)
      refine tgD (vkn k2 (by decide)) (tgI (fun z => ?_) (fun z => ?_))
      · have z0 : (wp (pkey p q)).toInt ≤ 0 := by
          unfold lg_cmp at z
          by_cases x1 : wp (pkey p q) < 0
          · rw [Int64.lt_iff_toInt_lt] at x1
            have : (0 : Int64).toInt = 0 := rfl
            omega
          · by_cases x2 : wp (pkey p q) = 0
            · rw [x2]
              decide
            · exfalso
              have x3 : (0 : Int64) < wp (pkey p q) := by
                rw [Int64.lt_iff_toInt_lt]
                have q0 : (0 : Int64).toInt = 0 := rfl
                have q1 : ¬ (wp (pkey p q)).toInt = 0 := fun h => x2 (Int64.toInt_inj.mp (h.trans q0.symm))
                rw [q0]
                exact Int.lt_iff_le_and_ne.mpr ⟨w1, fun h => q1 h.symm⟩
              revert z
              simp [x1, x2, x3]
        refine ih (q + 1) wg2 u1 u2 ⟨hA.1, fun G hG => ?_⟩
        obtain ⟨i1, i2, i3⟩ := hA.2 G hG
        refine ⟨?_, i2, fun r l hr ht hl hgl => ?_⟩
        · rcases i1 with i1 | ⟨r, l, r1, r2⟩
          · exact Or.inl i1
          · exact Or.inr ⟨r, l, Nat.lt_succ_of_lt r1, r2⟩
        · by_cases e : r = q
          · rw [e] at hgl
            have h1 := w3 l hl hgl
            have h2 : 0 < wln g c l := wth_pos hgl.2.1 (hc l hl) (Nat.lt_of_lt_of_le hl hnl)
            exact absurd (Int.lt_of_lt_of_le h2 (Int.le_trans h1 z0)) (Int.lt_irrefl _)
          · exact i3 r l (Nat.lt_of_le_of_ne (Nat.le_of_lt_succ hr) e) ht hl hgl
      · have z0 : 0 < (wp (pkey p q)).toInt := by
          rcases w2 with w2 | w2
          · exfalso
            apply z
            have : wp (pkey p q) = 0 := Int64.toInt_inj.mp (by rw [w2]; rfl)
            rw [this]
            decide
          · obtain ⟨l, l1, l2, l3⟩ := w2
            have h2 : 0 < wln g c l := wth_pos l2.2.1 (hc l l1) (Nat.lt_of_lt_of_le l1 hnl)
            rw [l3]
            exact h2
        rcases w2 with w2 | ⟨l0, l1, l2, l3⟩
        · rw [w2] at z0
          exact absurd z0 (Int.lt_irrefl _)
        · unfold fX0_admitWith
          refine tgC (adm3 hnl hg hp d hM l1 (wth_pos l2.2.1 (hc l0 l1) (Nat.lt_of_lt_of_le l1 hnl)) l2 l3 w3 hA FU 0 wg2 (Nat.zero_le _) u3 hA.1 (fun G _ _ => rfl) (fun G e1 => absurd e1 (Nat.not_lt_zero _)) (fun G e1 => absurd e1 (Nat.not_lt_zero _))) (fun u hu => ?_)
          exact ih (q + 1) u u1 u2 hu
    · have e : q = p := by omega
      subst e
      rw [if_pos (nI_le d (by omega))]
      exact tgS hA
theorem adm6 (hnl : nl ≤ 8) (hg : ∀ l, l < nl → g l < 20) (hc : ∀ l, l < nl → c l < 1000) {p : Nat} {wg wp : Nat → Int64} (hp : p < 7) (hM : ∀ G, G < 2 ^ p → sMax nl a b us (wln g c) G (wg G).toInt) (hW : PWI a b c g us wp nl) : ∀ (f y : Nat) (wg2 : Nat → Int64), y ≤ 2 ^ p → 2 ^ p - y < f → (∀ G, G < 2 ^ p → wg2 G = wg G) → (∀ G, G < y → wg2 (2 ^ p + G) = wg G) → tG (fun r => AI a b c g us nl p wg r p) (fX0_admit_b6 wp (nI p) f (nI (2 ^ p)) (nI y) wg2) := by
  have hP : 2 ^ p ≤ 64 := Nat.le_trans (Nat.pow_le_pow_right (by decide) (show p ≤ 6 by omega)) (by decide)
  intro f
  induction f with
  | zero => intro y wg2 z1 z2; omega
  | succ f ih =>
    intro y wg2 z1 z2 k1 k2
    rw [fX0_admit_b6_s]
    rcases Nat.lt_or_ge y (2 ^ p) with d | d
    · rw [if_neg (nI_ge d (by omega)), nI_add, nI_1, nI_clamp (by omega), nI_clamp (by omega)]
      refine tgD (vkn (by omega) (by decide)) (tgD (vkn (by omega) (by decide)) (ih (y + 1) _ (by omega) (by omega) (fun G hG => ?_) (fun G hG => ?_)))
      · rw [pk_uLn (by omega)]; exact k1 G hG
      · by_cases e : G = y
        · rw [e, pk_uLs]; exact k1 y d
        · rw [pk_uLn (by omega)]; exact k2 G (by omega)
    · rw [if_pos (nI_le d (by omega))]
      refine adm33 hnl hg hc hp hM hW FU 0 wg2 (Nat.zero_le _) (by have := FUge; omega) ⟨k1, fun G hG => ?_⟩
      rw [k2 G (by omega)]
      exact ⟨Or.inl rfl, Int.le_refl _, fun r l hr => absurd hr (Nat.not_lt_zero r)⟩
theorem adm (hE : hEx np nl a b c fi se co) (hg : ∀ l, l < nl → g l < 20) {p : Nat} {wg wp : Nat → Int64} (hp : p < 7) (hM : ∀ G, G < 2 ^ p → sMax nl a b us (wln g c) G (wg G).toInt) (hW : PWI a b c g us wp nl) : tG (fun r => ∀ G, G < 2 ^ (p + 1) → sMax nl a b us (wln g c) G (r G).toInt) (fX0_admit wp wg (nI p)) := by
  obtain ⟨hnp, hnl, hE⟩ := hE
  have hc : ∀ l, l < nl → c l < 1000 := fun l hl => (hE l hl).2.2.2.1
  have hab : ∀ l, l < nl → a l ≠ b l := fun l hl => (hE l hl).2.2.1
  have hP : 2 ^ p ≤ 64 := Nat.le_trans (Nat.pow_le_pow_right (by decide) (show p ≤ 6 by omega)) (by decide)
  unfold fX0_admit
  rw [tshl (by omega : p ≤ 9)]
  refine tgW (adm6 hnl hg hc hp hM hW FU 0 wg (Nat.zero_le _) (by have := FUge; omega) (fun G _ => rfl) (fun G hG => absurd hG (Nat.not_lt_zero G))) (fun r hr G hG => ?_)
  rw [Nat.pow_succ] at hG
  rcases Nat.lt_or_ge G (2 ^ p) with d | d
  · rw [hr.1 G d]
    exact hM G d
  · obtain ⟨H, rfl⟩ : ∃ H, G = 2 ^ p + H := ⟨G - 2 ^ p, by omega⟩
    have hH : H < 2 ^ p := by omega
    have hH7 : H < 128 := by omega
    obtain ⟨i1, i2, i3⟩ := hr.2 H hH
    have hsub : ∀ q, H.testBit q = true → H - 2 ^ q < 2 ^ p := fun q _ => Nat.lt_of_le_of_lt (Nat.sub_le _ _) hH
    refine sMax_step (MX := fun G => (wg G).toInt) hab (tb_add p hp H hH) (fun q hq i => (tb_sub2 hH7 hq).2.2 i) (tb_hi hH (Nat.le_refl _)) (hM H hH) (fun q hq => hM _ (hsub q hq)) ?_ i2 (fun q l hq hl hs hpq => ?_)
    · rcases i1 with i1 | ⟨q, l, q1, q2, q3, q4, q5⟩
      · exact Or.inl i1
      · exact Or.inr ⟨q, l, q2, q3, q4.1, q4.2.2, q5⟩
    · have hqp : q < p := by
        rcases Nat.lt_or_ge q p with z | z
        · exact z
        · rw [tb_hi hH z] at hq
          exact absurd hq (by decide)
      rcases Nat.eq_zero_or_pos (g l) with z | z
      · have h1 : wln g c l < 0 := by
          unfold wln
          rw [z]
          exact wth_neg (Nat.lt_of_lt_of_le hl hnl)
        have h2 := sMax_mono (fun i hi => by
          rw [(tb_sub2 hH7 hq).2.2 i, Bool.and_eq_true] at hi
          exact hi.1) (hM _ (hsub q hq)) (hM H hH)
        exact Int.le_trans (Int.add_le_add_right (Int.le_of_lt h1) _) (by rw [Int.zero_add]; exact Int.le_trans h2 i2)
      · exact i3 q l hqp hq hl ⟨hs, z, hpq⟩
end
