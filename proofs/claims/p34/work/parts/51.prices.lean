/-! the law's prices -/
section
variable {np nl : Nat} {a b c : Nat → Nat} {fw cut wo : Nat → Bool} {f0 f1 f2 f3 f4 : Nat → Int32}
def TOP : Int32 := 99999
theorem wmin {x y : Option Nat} {n B : Nat} (hx : ∀ v, x = some v → v ≤ B) (hy : ∀ v, y = some v → v ≤ B) (hB : B < 20000) (hn : n ≤ 4) : (if enc TOP x + nI n < enc TOP y then enc TOP x + nI n else enc TOP y) = enc TOP (omin y (oadd x n)) := by
  have ht : TOP = nI 99999 := rfl
  cases x with
  | none =>
    cases y with
    | none =>
      show (if TOP + nI n < TOP then TOP + nI n else TOP) = TOP
      rw [ht, nI_add, if_neg (nI_nlt (by omega) (by omega))]
    | some w =>
      have := hy w rfl
      show (if TOP + nI n < nI w then TOP + nI n else nI w) = nI w
      rw [ht, nI_add, if_neg (nI_nlt (by omega) (by omega))]
  | some v =>
    have := hx v rfl
    cases y with
    | none =>
      show (if nI v + nI n < TOP then nI v + nI n else TOP) = nI (v + n)
      rw [ht, nI_add, if_pos (nI_lt (by omega) (by omega))]
    | some w =>
      have := hy w rfl
      show (if nI v + nI n < nI w then nI v + nI n else nI w) = nI (if v + n < w then v + n else w)
      rw [nI_add]
      by_cases z : v + n < w
      · rw [if_pos z, if_pos (nI_lt z (by omega))]
      · rw [if_neg z, if_neg (nI_nlt (by omega) (by omega))]
theorem obd {x y : Option Nat} {n M : Nat} (hx : ∀ v, x = some v → v ≤ M) (hy : ∀ v, y = some v → v ≤ M) : ∀ v, omin y (oadd x n) = some v → v ≤ M + n := by
  intro v h
  rcases omin_one y (oadd x n) with q | q
  · have := hy v (q.symm.trans h)
    omega
  · have h2 := q.symm.trans h
    cases x with
    | none => cases h2
    | some u =>
      have h3 : some (u + n) = some v := h2
      cases h3
      have := hx u rfl
      omega
theorem wp65 {x2 : Int32} {P : Nat → Option Nat} {B y : Nat} {Q : (Nat → Int32) → Prop} {K53 : Int32 → (Nat → Int32) → Option (Nat → Int32)} (hB : B < 9000) (hc4 : ∀ l, l < nl → c l ≤ 4) (hE : hLn np nl a b c fw f0 f1 f2 f3) (hc : hFl nl cut f4) (hw : ∀ l, l < nl → (nI l = x2 ↔ wo l = true)) (hPb : ∀ p v, P p = some v → v ≤ B) (hK : ∀ n1 : Nat → Int32, (∀ p, p < np → n1 p = enc TOP (rx a b c fw (fun l => !cut l && !wo l) nl P p)) → tG Q (K53 (nI (y + 1)) n1)) : ∀ (f l : Nat) (n0 : Nat → Int32), l ≤ nl → nl - l < f → (∀ p, p < np → n0 p = enc TOP (rx a b c fw (fun l => !cut l && !wo l) l P p)) → tG Q (fX12_prices_b65 nl (nI np) (nI nl) f0 f1 f2 f3 f4 x2 K53 f (nI y) (nI l) n0) := by
  have hbd := rx_bd (a := a) (b := b) (fw := fw) (U := fun l => !cut l && !wo l) hc4 hPb
  obtain ⟨hnp, hnl, hE⟩ := hE
  intro f
  induction f with
  | zero => intro l n0 h1 h2; omega
  | succ f ih =>
    intro l n0 h1 h2 h3
    rw [fX12_prices_b65_s]
    rcases Nat.lt_or_ge l nl with d | d
    · obtain ⟨e1, e2, e3, e4, e5, e6, e7, e8⟩ := hE l d
      have hcl := hc4 l d
      have nx : ∀ p, rx a b c fw (fun l => !cut l && !wo l) (l + 1) P p = rx1 a b c fw (fun l => !cut l && !wo l) l (rx a b c fw (fun l => !cut l && !wo l) l P) p := fun p => rfl
      have b1 : ∀ p v, rx a b c fw (fun l => !cut l && !wo l) l P p = some v → v ≤ B + 4 * l := hbd l h1
      have b2 : ∀ p v, rx a b c fw (fun l => !cut l && !wo l) l P p = some v → v ≤ B + 4 * l + 4 := fun p v h => by
        have := b1 p v h
        omega
      have skip : (!cut l && !wo l) = false → tG Q (fX12_prices_b65 nl (nI np) (nI nl) f0 f1 f2 f3 f4 x2 K53 f (nI y) (nI (l + 1)) n0) := fun z => ih (l + 1) n0 (by omega) (by omega) (fun p hp => by
        rw [nx p]
        unfold rx1
        rw [if_neg (fun w => by
          have w2 : (!cut l && !wo l) = true := w
          rw [z] at w2
          exact nofalse w2)]
        exact h3 p hp)
      rw [if_neg (nI_ge d (by omega)), nI_clamp (by omega), e5, e6, e7, hc l d, nI_clamp (by omega), nI_clamp (by omega), nI_clamp (by omega), nI_1]
      refine tgD (vkn d (by omega)) ?_
      cases hcu : cut l with
      | true =>
        rw [if_pos rfl, if_neg one0]
        exact skip (by rw [hcu]; rfl)
      | false =>
        rw [ifF, if_pos rfl]
        refine tgI (fun z => ?_) (fun z => ?_)
        · exact skip (by rw [(hw l d).mp z]; simp)
        · have hwo : wo l = false := by
            cases q : wo l with
            | false => rfl
            | true => exact absurd ((hw l d).mpr q) z
          have hu : (!cut l && !wo l) = true := by rw [hcu, hwo]; rfl
          refine tgD (vkn e2 (by omega)) (tgD (vkn e1 (by omega)) (tgN (fun w10 hw10 => tgN (fun g11 hg11 => ?_))))
          rw [h3 _ e1, h3 _ e2, wmin (b1 (a l)) (b1 (b l)) (by omega) hcl] at hw10
          refine tgI (fun z2 => tgN (fun w13 hw13 => tgN (fun g14 hg14 => ?_))) (fun z2 => ?_)
          · have hf := (ow0 e8).mp z2
            have ga : g11 (a l) = enc TOP (rx a b c fw (fun l => !cut l && !wo l) l P (a l)) := by rw [hg11, pk_un e3]; exact h3 _ e1
            have gb0 : g11 (b l) = enc TOP (omin (rx a b c fw (fun l => !cut l && !wo l) l P (b l)) (oadd (rx a b c fw (fun l => !cut l && !wo l) l P (a l)) (c l))) := by rw [hg11, pk_us, hw10]
            rw [ga, gb0, wmin (B := B + 4 * l + 4) (fun v h => by have := obd (b1 (a l)) (b1 (b l)) v h; omega) (b2 (a l)) (by omega) hcl, omin_back] at hw13
            refine ih (l + 1) g14 (by omega) (by omega) (fun p hp => ?_)
            rw [nx p]
            unfold rx1
            rw [if_pos hu, hf, if_neg (by decide), hg14]
            show _ = enc TOP (if p = a l then _ else if p = b l then _ else rx a b c fw (fun l => !cut l && !wo l) l P p)
            by_cases q : p = a l
            · rw [q, pk_us, if_pos rfl, hw13]
            · rw [pk_un q, if_neg q, hg11]
              by_cases q2 : p = b l
              · rw [q2, pk_us, if_pos rfl, hw10]
              · rw [pk_un q2, if_neg q2]
                exact h3 p hp
          · have hf : fw l = true := by
              cases hq : fw l with
              | true => rfl
              | false => exact absurd ((ow0 e8).mpr hq) z2
            refine ih (l + 1) g11 (by omega) (by omega) (fun p hp => ?_)
            rw [nx p]
            unfold rx1
            rw [if_pos hu, hf, if_pos rfl, hg11]
            show _ = enc TOP (if p = b l then _ else rx a b c fw (fun l => !cut l && !wo l) l P p)
            by_cases q2 : p = b l
            · rw [q2, pk_us, if_pos rfl, hw10]
            · rw [pk_un q2, if_neg q2]
              exact h3 p hp
    · have e : l = nl := by omega
      subst e
      rw [if_pos (nI_le (Nat.le_refl _) (by omega)), nI_1]
      exact hK n0 h3
theorem wp53 {x2 : Int32} {K : Nat → Bool} (hc4 : ∀ l, l < nl → c l ≤ 4) (hE : hLn np nl a b c fw f0 f1 f2 f3) (hc : hFl nl cut f4) (hw : ∀ l, l < nl → (nI l = x2 ↔ wo l = true)) : ∀ (f y : Nat) (n0 : Nat → Int32), y ≤ np → np - y < f → (∀ p, p < np → n0 p = enc TOP (prc nl a b c fw (fun l => !cut l && !wo l) K y p)) → tG (fun r => ∀ p, p < np → r p = enc TOP (prc nl a b c fw (fun l => !cut l && !wo l) K np p)) (fX12_prices_b53 nl (nI np) (nI nl) f0 f1 f2 f3 f4 x2 f (nI y) n0) := by
  have hbd := prc_bd (a := a) (b := b) (fw := fw) (U := fun l => !cut l && !wo l) (K := K) hc4
  have hnp := hE.1
  have hnl := hE.2.1
  have small : ∀ m, m ≤ 7 → 4 * nl * m ≤ 224 := fun m hm => by
    have : 4 * nl * m ≤ 32 * 7 := Nat.mul_le_mul (by omega) hm
    omega
  intro f
  induction f with
  | zero => intro y n0 h1 h2; omega
  | succ f ih =>
    intro y n0 h1 h2 h3
    rw [fX12_prices_b53_s]
    rcases Nat.lt_or_ge y np with d | d
    · rw [if_neg (nI_ge d (by omega))]
      refine wp65 (P := prc nl a b c fw (fun l => !cut l && !wo l) K y) (B := 224) (by decide) hc4 hE hc hw (fun p v h => by have := hbd y p v h; have := small y (by omega); omega) (fun n1 h => ?_) FU 0 n0 (Nat.zero_le _) (by have := FUge; omega) h3
      exact ih (y + 1) n1 (by omega) (by omega) h
    · have e : y = np := by omega
      subst e
      rw [if_pos (nI_le (Nat.le_refl _) (by omega))]
      exact tgS h3
theorem wp10 {x2 : Int32} {k : Nat → Nat} {kn : Nat → Int32} {q : Nat} (hq : q < 31) (hk : hK np k kn) (hc4 : ∀ l, l < nl → c l ≤ 4) (hE : hLn np nl a b c fw f0 f1 f2 f3) (hc : hFl nl cut f4) (hw : ∀ l, l < nl → (nI l = x2 ↔ wo l = true)) : ∀ (f y : Nat) (n0 : Nat → Int32), y ≤ np → np - y < f → (∀ p, p < np → p < y → n0 p = enc TOP (prc nl a b c fw (fun l => !cut l && !wo l) (fun p => decide (p < np) && (k p).testBit q) 0 p)) → tG (fun r => ∀ p, p < np → r p = enc TOP (prc nl a b c fw (fun l => !cut l && !wo l) (fun p => decide (p < np) && (k p).testBit q) np p)) (fX12_prices_b10 nl np (nI np) (nI nl) f0 f1 f2 f3 f4 kn (nI q) x2 f (nI y) n0) := by
  have hnp := hE.1
  intro f
  induction f with
  | zero => intro y n0 h1 h2; omega
  | succ f ih =>
    intro y n0 h1 h2 h3
    rw [fX12_prices_b10_s]
    rcases Nat.lt_or_ge y np with d | d
    · have hl := hK_lt hnp hk d
      have hb1 : ((kn y >>> (nI q &&& 31)) &&& 1) = if (k y).testBit q = true then 1 else 0 := by
        have := bit1 (n := 31) (S := fun i => (k y).testBit i) (x := kn y) (fun i hi => by
          rw [(hk y d).2, ib_N (by omega)]
          show _ = (decide (i < 31) && (k y).testBit i)
          by_cases z : i < 31
          · rw [decide_eq_true z, Bool.true_and]
          · rw [tb_hi (p := 7) hl (by omega), Bool.and_false]) (l := q) hq
        exact this (by decide)
      rw [if_neg (nI_ge d (by omega)), nI_clamp (by omega), hb1]
      unfold fX12_prices_b43
      rw [nI_clamp (by omega), nI_clamp (by omega), nI_1]
      have key : ∀ v : Int32, v = enc TOP (prc nl a b c fw (fun l => !cut l && !wo l) (fun p => decide (p < np) && (k p).testBit q) 0 y) → tG (fun r => ∀ p, p < np → r p = enc TOP (prc nl a b c fw (fun l => !cut l && !wo l) (fun p => decide (p < np) && (k p).testBit q) np p)) (gd (nI y) np (nm (upd n0 y v) (fun g18 => fX12_prices_b10 nl np (nI np) (nI nl) f0 f1 f2 f3 f4 kn (nI q) x2 f (nI (y + 1)) g18))) := fun v hv => by
        refine tgD (vkn d (by omega)) (tgN (fun g18 hg => ih (y + 1) g18 (by omega) (by omega) (fun p hp z => ?_)))
        rw [hg]
        by_cases e : p = y
        · rw [e, pk_us]; exact hv
        · rw [pk_un e]; exact h3 p hp (by omega)
      refine tgD (vkn d (by omega)) (tgI (fun z => key _ ?_) (fun z => key _ ?_))
      · show (0 : Int32) = enc TOP (if (decide (y < np) && (k y).testBit q) = true then some 0 else none)
        rw [b1eq.mp z, decide_eq_true d]
        rfl
      · show (99999 : Int32) = enc TOP (if (decide (y < np) && (k y).testBit q) = true then some 0 else none)
        cases hk2 : (k y).testBit q with
        | true => exact absurd (b1eq.mpr hk2) z
        | false => rw [Bool.and_false, if_neg (by decide)]; rfl
    · have e : y = np := by omega
      subst e
      rw [if_pos (nI_le (Nat.le_refl _) (by omega))]
      exact wp53 hc4 hE hc hw FU 0 n0 (Nat.zero_le _) (by have := FUge; omega) (fun p hp => h3 p hp hp)
theorem wPrices {x2 : Int32} {k : Nat → Nat} {kn : Nat → Int32} {q : Nat} (hq : q < 31) (hk : hK np k kn) (hc4 : ∀ l, l < nl → c l ≤ 4) (hE : hLn np nl a b c fw f0 f1 f2 f3) (hc : hFl nl cut f4) (hw : ∀ l, l < nl → (nI l = x2 ↔ wo l = true)) : tG (fun r => ∀ p, p < np → r p = enc TOP (prc nl a b c fw (fun l => !cut l && !wo l) (fun p => decide (p < np) && (k p).testBit q) np p)) (fX12_prices nl np (nI np) (nI nl) f0 f1 f2 f3 f4 kn (nI q) x2) := by
  have hnp := hE.1
  unfold fX12_prices
  refine tgD (vkn (by omega) (by decide)) (wp10 hq hk hc4 hE hc hw FU 0 _ (Nat.zero_le _) (by have := FUge; omega) (fun p _ z => absurd z (Nat.not_lt_zero p)))
end
