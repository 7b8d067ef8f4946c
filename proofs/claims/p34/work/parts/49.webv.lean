/-! values of the law's web's own functions -/
theorem spIn_mono {wh fr un : Nat → Nat} {round i : Nat} : ∀ d j, spIn j wh fr un round i = true → spIn (j + d) wh fr un round i = true := by
  intro d
  induction d with
  | zero => intro j h; exact h
  | succ d ih =>
    intro j h
    show (spIn (j + d) wh fr un round i || _) = true
    rw [ih j h, Bool.true_or]
theorem spIn_in {n j : Nat} {wh fr un : Nat → Nat} {round i : Nat} (hj : j < n) (h1 : wh j = i) (h2 : fr j ≤ round) (h3 : round ≤ un j) : spIn n wh fr un round i = true := by
  have h : spIn (j + 1) wh fr un round i = true := by
    show (spIn j wh fr un round i || (decide (wh j = i) && decide (fr j ≤ round) && decide (round ≤ un j))) = true
    rw [decide_eq_true h1, decide_eq_true h2, decide_eq_true h3, Bool.and_true, Bool.and_true, Bool.or_true]
  have := spIn_mono (n - (j + 1)) (j + 1) h
  rw [show j + 1 + (n - (j + 1)) = n by omega] at this
  exact this
theorem spIn_off {j : Nat} {wh fr un : Nat → Nat} {round i : Nat} (h0 : spIn j wh fr un round i = false) (h : ¬ (wh j = i ∧ fr j ≤ round ∧ round ≤ un j)) : spIn (j + 1) wh fr un round i = false := by
  show (spIn j wh fr un round i || (decide (wh j = i) && decide (fr j ≤ round) && decide (round ≤ un j))) = false
  rw [h0, Bool.false_or]
  by_cases c1 : wh j = i
  · by_cases c2 : fr j ≤ round
    · rw [decide_eq_false (fun c3 => h ⟨c1, c2, c3⟩), Bool.and_false]
    · rw [decide_eq_false c2, Bool.and_false, Bool.false_and]
  · rw [decide_eq_false c1, Bool.false_and, Bool.false_and]
section
variable {np nl nb na : Nat} {a b c : Nat → Nat} {fw cut : Nat → Bool} {f0 f1 f2 f3 f4 f5 : Nat → Int32} {wb fb ub wa fa ua : Nat → Nat} {vb vw : Nat → Nat → Int32}
def hFl (nl : Nat) (S : Nat → Bool) (f : Nat → Int32) : Prop := ∀ l, l < nl → f l = if S l = true then 1 else 0
def hRw (n m : Nat) (wh fr un : Nat → Nat) (v : Nat → Nat → Int32) : Prop := n ≤ 12 ∧ ∀ j, j < n → wh j < m ∧ fr j < 20000 ∧ un j < 20000 ∧ v j 0 = nI (wh j) ∧ v j 1 = nI (fr j) ∧ v j 2 = nI (un j)
theorem us83 {l round : Nat} (hE : hLn np nl a b c fw f0 f1 f2 f3) (hl : l < nl) (hr : round < 20000) (ha : hRw na np wa fa ua vw) : ∀ (f j : Nat), j ≤ na → na - j < f → spIn j wa fa ua round (a l) = false → spIn j wa fa ua round (b l) = false → tG (fun r => r = if (spIn na wa fa ua round (a l) || spIn na wa fa ua round (b l)) = true then 0 else 1) (fX12_usable_b83 nl na f0 f1 vw (nI l) (nI round) f (nI na) (nI j)) := by
  obtain ⟨hnp, hnl, hE⟩ := hE
  obtain ⟨e1, e2, e3, e4, e5, e6, e7, e8⟩ := hE l hl
  have hna := ha.1
  intro f
  induction f with
  | zero => intro j h1 h2; omega
  | succ f ih =>
    intro j h1 h2 h3 h4
    rw [fX12_usable_b83_s]
    rcases Nat.lt_or_ge j na with d | d
    · obtain ⟨w1, w2, w3, w4, w5, w6⟩ := ha.2 j d
      rw [if_neg (nI_ge d (by omega)), nI_clamp (by omega), nI_clamp (by omega : l < 2 ^ 31), e5, e6, w4, nI_1]
      refine tgD (vkn d (by omega)) (tgD (vkn hl (by omega)) ?_)
      -- the spans of j
      have hit : (wa j = a l ∨ wa j = b l) → tG (fun r => r = if (spIn na wa fa ua round (a l) || spIn na wa fa ua round (b l)) = true then 0 else 1) (fX12_usable_b128 na vw (nI round) (fX12_usable_b83 nl na f0 f1 vw (nI l) (nI round) f) (nI na) (nI j)) := fun hw => by
        unfold fX12_usable_b128
        rw [nI_clamp (by omega), w5, w6, nI_1]
        refine tgD (vkn d (by omega)) (tgI (fun z => ?_) (fun z => tgI (fun z2 => ?_) (fun z2 => tgS ?_)))
        · have := nlt z (by omega) (by omega)
          exact ih (j + 1) (by omega) (by omega) (spIn_off h3 (by omega)) (spIn_off h4 (by omega))
        · have := nlt z2 (by omega) (by omega)
          exact ih (j + 1) (by omega) (by omega) (spIn_off h3 (by omega)) (spIn_off h4 (by omega))
        · have z3 := nltn z (by omega) (by omega)
          have z4 := nltn z2 (by omega) (by omega)
          rw [if_pos]
          rcases hw with hw | hw
          · rw [spIn_in d hw z3 z4, Bool.true_or]
          · rw [spIn_in (i := b l) d hw z3 z4, Bool.or_true]
      refine tgI (fun z => ?_) (fun z => tgI (fun z2 => ?_) (fun z2 => ?_))
      · exact hit (Or.inl ((nI_eq (by omega) (by omega)).mp z))
      · exact hit (Or.inr ((nI_eq (by omega) (by omega)).mp z2))
      · exact ih (j + 1) (by omega) (by omega) (spIn_off h3 (fun q => z (by rw [q.1]))) (spIn_off h4 (fun q => z2 (by rw [q.1])))
    · have e : j = na := by omega
      subst e
      rw [if_pos (nI_le (Nat.le_refl _) (by omega)), h3, h4]
      exact tgS rfl
theorem us26 {l round : Nat} (hE : hLn np nl a b c fw f0 f1 f2 f3) (hl : l < nl) (hr : round < 20000) (hb : hRw nb nl wb fb ub vb) (ha : hRw na np wa fa ua vw) : ∀ (f j : Nat), j ≤ nb → nb - j < f → spIn j wb fb ub round l = false → tG (fun r => r = if (!spIn nb wb fb ub round l && !(spIn na wa fa ua round (a l) || spIn na wa fa ua round (b l))) = true then 1 else 0) (fX12_usable_b26 nl nb na f0 f1 vb vw (nI l) (nI round) f (nI nb) (nI j)) := by
  have hnl := hE.2.1
  have hnb := hb.1
  intro f
  induction f with
  | zero => intro j h1 h2; omega
  | succ f ih =>
    intro j h1 h2 h3
    rw [fX12_usable_b26_s]
    rcases Nat.lt_or_ge j nb with d | d
    · obtain ⟨w1, w2, w3, w4, w5, w6⟩ := hb.2 j d
      rw [if_neg (nI_ge d (by omega)), nI_clamp (by omega), w4, w5, w6, nI_1]
      refine tgD (vkn d (by omega)) (tgI (fun z => tgI (fun z1 => ?_) (fun z1 => tgI (fun z2 => ?_) (fun z2 => tgS ?_))) (fun z => ?_))
      · have := nlt z1 (by omega) (by omega)
        exact ih (j + 1) (by omega) (by omega) (spIn_off h3 (by omega))
      · have := nlt z2 (by omega) (by omega)
        exact ih (j + 1) (by omega) (by omega) (spIn_off h3 (by omega))
      · have z3 := nltn z1 (by omega) (by omega)
        have z4 := nltn z2 (by omega) (by omega)
        rw [spIn_in d ((nI_eq (by omega) (by omega)).mp z) z3 z4]
        rfl
      · exact ih (j + 1) (by omega) (by omega) (spIn_off h3 (fun q => z (by rw [q.1])))
    · have e : j = nb := by omega
      subst e
      rw [if_pos (nI_le (Nat.le_refl _) (by omega)), h3]
      unfold fX12_usable_b71
      refine tgW (us83 hE hl hr ha FU 0 (Nat.zero_le _) (by have := FUge; have := ha.1; omega) rfl rfl) (fun r hr => ?_)
      rw [hr]
      cases (spIn na wa fa ua round (a l) || spIn na wa fa ua round (b l)) <;> rfl
theorem wUsable {l round : Nat} (hE : hLn np nl a b c fw f0 f1 f2 f3) (hl : l < nl) (hr : round < 20000) (hc : hFl nl cut f4) (hb : hRw nb nl wb fb ub vb) (ha : hRw na np wa fa ua vw) : fX12_usable nl nb na f0 f1 f4 vb vw (nI l) (nI round) = some (if usb nb na wb fb ub wa fa ua a b cut round l = true then 1 else 0) := by
  have hnl := hE.2.1
  unfold fX12_usable
  rw [gdI (vkn hl (by omega)), nI_clamp (by omega), hc l hl]
  unfold usb
  cases hcl : cut l with
  | true =>
    rw [if_pos rfl, if_neg one0]
    rfl
  | false =>
    rw [ifF, if_pos rfl]
    obtain ⟨r, q1, q2⟩ := us26 hE hl hr hb ha FU 0 (Nat.zero_le _) (by have := FUge; have := hb.1; omega) rfl
    refine q1.trans ?_
    rw [q2]
    rfl
theorem wGain {k pcs : Nat → Nat} {row : Nat → Int32} {l : Nat} (hE : hLn np nl a b c fw f0 f1 f2 f3) (hk : hK np k row) (hl : l < nl) : fX12_gain nl np f0 f1 f3 row (nI l) = some (nI (gn a b fw k l)) := by
  obtain ⟨hnp, hnl, hE⟩ := hE
  obtain ⟨e1, e2, e3, e4, e5, e6, e7, e8⟩ := hE l hl
  have ka := hK_lt hnp hk e1
  have kb := hK_lt hnp hk e2
  unfold fX12_gain nm
  dsimp only
  rw [gdI (vkn hl (by omega)), nI_clamp (by omega), e5, e6, gdI (vkn e1 (by omega)), gdI (vkn e2 (by omega)), nI_clamp (by omega), nI_clamp (by omega), (hk _ e1).2, (hk _ e2).2]
  rw [bcd ka kb, bcd kb ka]
  unfold gn
  cases hf : fw l with
  | true =>
    rw [hf, if_pos rfl] at e8
    rw [if_neg (by rw [e8]; exact one0), if_pos rfl, Nat.add_zero]
  | false =>
    rw [hf, if_neg (by decide)] at e8
    rw [if_pos e8, if_neg (by decide), nI_add]
/-- the law's way to look at a bit -/
theorem bit1 {n : Nat} {S : Nat → Bool} {x : Int32} (h : hB n S x) {l : Nat} (hl : l < n) (hn : n ≤ 31) : ((x >>> (nI l &&& 31)) &&& 1) = if S l = true then 1 else 0 := by
  have h1 := hB_in h hl hn
  unfold fX10_isIn at h1
  by_cases c : ((x >>> (nI l &&& 31)) &&& 1) = 1
  · rw [if_pos c] at h1
    rw [c]
    exact h1
  · have c0 : ((x >>> (nI l &&& 31)) &&& 1) = 0 := by
      have h2 : (x >>> (nI l &&& 31)) &&& 1 = nI ((x >>> (nI l &&& 31)).toBitVec.toNat % 2 ^ 1) := pk_and _ 1 rfl
      rw [h2] at c ⊢
      rcases (show (x >>> (nI l &&& 31)).toBitVec.toNat % 2 ^ 1 = 0 ∨ (x >>> (nI l &&& 31)).toBitVec.toNat % 2 ^ 1 = 1 by omega) with q | q
      · rw [q]; rfl
      · rw [q] at c; exact absurd rfl c
    rw [if_neg c] at h1
    rw [c0]
    exact h1
theorem b1eq {S : Bool} : ((if S = true then 1 else 0 : Int32) = 1) ↔ S = true := by
  cases S with
  | true => exact ⟨fun _ => rfl, fun _ => rfl⟩
  | false => exact ⟨fun h => absurd h (by decide), fun h => absurd h (by decide)⟩
theorem wg5 {k : Nat → Nat} {row : Nat → Int32} {S : Nat → Bool} {x : Int32} (hE : hLn np nl a b c fw f0 f1 f2 f3) (hk : hK np k row) (hS : hB nl S x) : ∀ (f l : Nat), l ≤ nl → nl - l < f → tG (fun r => r = nI (nsum S (gn a b fw k) nl)) (fX12_gainOf_b5 nl np (nI nl) f0 f1 f3 row x f (nI (nsum S (gn a b fw k) l)) (nI l)) := by
  have hnl := hE.2.1
  intro f
  induction f with
  | zero => intro l h1 h2; omega
  | succ f ih =>
    intro l h1 h2
    rw [fX12_gainOf_b5_s]
    rcases Nat.lt_or_ge l nl with d | d
    · rw [if_neg (nI_ge d (by omega)), bit1 hS d (by omega), nI_1]
      have nx : nsum S (gn a b fw k) (l + 1) = nsum S (gn a b fw k) l + (if S l = true then gn a b fw k l else 0) := rfl
      cases hs : S l with
      | true =>
        rw [hs, if_pos rfl] at nx
        rw [if_pos rfl, if_pos rfl, wGain (pcs := k) hE hk d, obs, nI_add, ← nx]
        exact ih (l + 1) (by omega) (by omega)
      | false =>
        rw [hs, ifF] at nx
        replace nx := nx.trans (Nat.add_zero _)
        rw [ifF, if_neg (show ¬ (0 : Int32) = 1 by decide), ← nx]
        exact ih (l + 1) (by omega) (by omega)
    · have e : l = nl := by omega
      subst e
      rw [if_pos (nI_le (Nat.le_refl _) (by omega))]
      exact tgS rfl
theorem wGainOf {k : Nat → Nat} {row : Nat → Int32} {S : Nat → Bool} {x : Int32} (hE : hLn np nl a b c fw f0 f1 f2 f3) (hk : hK np k row) (hS : hB nl S x) : fX12_gainOf nl np (nI nl) f0 f1 f3 row x = some (nI (nsum S (gn a b fw k) nl)) := by
  obtain ⟨r, h1, h2⟩ := wg5 hE hk hS FU 0 (Nat.zero_le _) (by have := FUge; have := hE.2.1; omega)
  unfold fX12_gainOf
  rw [← h2]
  exact h1
theorem wc4 {S : Nat → Bool} {x : Int32} (hE : hLn np nl a b c fw f0 f1 f2 f3) (hS : hB nl S x) : ∀ (f l : Nat), l ≤ nl → nl - l < f → tG (fun r => r = nI (nsum S c nl)) (fX12_cost_b4 nl (nI nl) f2 x f (nI (nsum S c l)) (nI l)) := by
  obtain ⟨hnp, hnl, hE⟩ := hE
  intro f
  induction f with
  | zero => intro l h1 h2; omega
  | succ f ih =>
    intro l h1 h2
    rw [fX12_cost_b4_s]
    rcases Nat.lt_or_ge l nl with d | d
    · obtain ⟨e1, e2, e3, e4, e5, e6, e7, e8⟩ := hE l d
      rw [if_neg (nI_ge d (by omega)), bit1 hS d (by omega), nI_1]
      have nx : nsum S c (l + 1) = nsum S c l + (if S l = true then c l else 0) := rfl
      cases hs : S l with
      | true =>
        rw [hs, if_pos rfl] at nx
        rw [if_pos rfl, if_pos rfl]
        refine tgD (vkn d (by omega)) ?_
        rw [nI_clamp (by omega), e7, nI_add, ← nx]
        exact ih (l + 1) (by omega) (by omega)
      | false =>
        rw [hs, ifF] at nx
        replace nx := nx.trans (Nat.add_zero _)
        rw [ifF, if_neg (show ¬ (0 : Int32) = 1 by decide), ← nx]
        exact ih (l + 1) (by omega) (by omega)
    · have e : l = nl := by omega
      subst e
      rw [if_pos (nI_le (Nat.le_refl _) (by omega))]
      exact tgS rfl
theorem wCost {S : Nat → Bool} {x : Int32} (hE : hLn np nl a b c fw f0 f1 f2 f3) (hS : hB nl S x) : fX12_cost nl (nI nl) f2 x = some (nI (nsum S c nl)) := by
  obtain ⟨r, h1, h2⟩ := wc4 hE hS FU 0 (Nat.zero_le _) (by have := FUge; have := hE.2.1; omega)
  unfold fX12_cost
  rw [← h2]
  exact h1
theorem wa4 {S : Nat → Bool} (hnl : nl ≤ 8) (hS : hFl nl S f5) : ∀ (f l : Nat) (y : Int32), l ≤ nl → nl - l < f → hB nl (fun i => decide (i < l) && S i) y → tG (hB nl S) (fX12_arranged_b4 nl (nI nl) f5 f y (nI l)) := by
  intro f
  induction f with
  | zero => intro l y h1 h2; omega
  | succ f ih =>
    intro l y h1 h2 h3
    rw [fX12_arranged_b4_s]
    rcases Nat.lt_or_ge l nl with d | d
    · rw [if_neg (nI_ge d (by omega)), nI_clamp (by omega), hS l d, nI_1]
      refine tgD (vkn d (by omega)) ?_
      cases hs : S l with
      | false =>
        rw [ifF, if_pos rfl]
        refine ih (l + 1) y (by omega) (by omega) (hB_congr h3 (fun i _ => ?_))
        by_cases e : i = l
        · subst e; rw [hs, Bool.and_false, Bool.and_false]
        · rw [decs e]
      | true =>
        rw [if_pos rfl, if_neg one0]
        refine ih (l + 1) _ (by omega) (by omega) (hB_congr (hB_or1 h3 d (by omega)) (fun i _ => ?_))
        by_cases e : i = l
        · subst e; rw [hs, decide_eq_true (rfl : i = i), Bool.or_true, decide_eq_true (Nat.lt_succ_self i)]; rfl
        · rw [decs e, decide_eq_false e, Bool.or_false]
    · have e : l = nl := by omega
      subst e
      rw [if_pos (nI_le (Nat.le_refl _) (by omega))]
      exact tgS (hB_congr h3 (fun i hi => by rw [decide_eq_true hi, Bool.true_and]))
theorem wArranged {S : Nat → Bool} (hnl : nl ≤ 8) (hS : hFl nl S f5) : tG (hB nl S) (fX12_arranged nl (nI nl) f5) := by
  unfold fX12_arranged
  exact wa4 hnl hS FU 0 0 (Nat.zero_le _) (by have := FUge; omega) (fun i _ => by
    rw [ib_0]
    show false = (decide (i < nl) && (decide (i < 0) && S i))
    rw [decide_eq_false (Nat.not_lt_zero i), Bool.false_and, Bool.and_false])
theorem wm4 {k : Nat → Nat} {row : Nat → Int32} (hnp : np ≤ 7) (h : hK np k row) : ∀ (f p : Nat), p ≤ np → np - p < f → tG (fun r => r = nI (msm np k np)) (fX12_missing_b4 np (nI np) row f (nI (msm np k p)) (nI p)) := by
  intro f
  induction f with
  | zero => intro p h1 h2; omega
  | succ f ih =>
    intro p h1 h2
    rw [fX12_missing_b4_s]
    rcases Nat.lt_or_ge p np with d | d
    · have hl := hK_lt hnp h d
      have hp := pc_le np hnp _ (h p d).1
      rw [if_neg (nI_ge d (by omega)), nI_clamp (by omega), (h p d).2, bc128 _ hl, nI_1, nsub (a := np) (b := pc (k p)) rfl rfl hp, nI_add]
      exact tgD (vkn d (by omega)) (tgN (fun w hw => by
        rw [hw]
        exact ih (p + 1) (by omega) (by omega)))
    · have e : p = np := by omega
      subst e
      rw [if_pos (nI_le (Nat.le_refl _) (by omega))]
      exact tgS rfl
theorem wMissing {k : Nat → Nat} {row : Nat → Int32} (hnp : np ≤ 7) (h : hK np k row) : fX12_missing np (nI np) row = some (nI (msm np k np)) := by
  obtain ⟨r, h1, h2⟩ := wm4 hnp h FU 0 (Nat.zero_le _) (by have := FUge; omega)
  unfold fX12_missing
  rw [← h2]
  exact h1
theorem waf11 {k : Nat → Nat} {row : Nat → Int32} {S : Nat → Bool} {x : Int32} (hE : hLn np nl a b c fw f0 f1 f2 f3) (hk : hK np k row) (hS : hB nl S x) : ∀ (f l : Nat) (n0 : Nat → Int32), l ≤ nl → nl - l < f → (∀ p, p < np → n0 p = nI (aft a b fw S k l p)) → tG (fun r => hK np (aft a b fw S k nl) r) (fX12_after_b11 nl np (nI nl) f0 f1 f3 row x f (nI l) n0) := by
  obtain ⟨hnp, hnl, hE⟩ := hE
  have pw : 2 ^ np ≤ 128 := Nat.le_trans (Nat.pow_le_pow_right (by decide) hnp) (by decide)
  have hlt := aft_lt (a := a) (b := b) (fw := fw) (S := S) (k := k) (np := np) (nl := nl) (m := np) (fun p hp => (hk p hp).1) (fun l hl => ⟨(hE l hl).1, (hE l hl).2.1⟩)
  intro f
  induction f with
  | zero => intro l n0 h1 h2; omega
  | succ f ih =>
    intro l n0 h1 h2 h3
    rw [fX12_after_b11_s]
    rcases Nat.lt_or_ge l nl with d | d
    · obtain ⟨e1, e2, e3, e4, e5, e6, e7, e8⟩ := hE l d
      have nx : ∀ p, aft a b fw S k (l + 1) p = (aft a b fw S k l p ||| (if S l = true ∧ b l = p then k (a l) else 0)) ||| (if S l = true ∧ fw l = false ∧ a l = p then k (b l) else 0) := fun p => rfl
      rw [if_neg (nI_ge d (by omega)), bit1 hS d (by omega), nI_1]
      cases hs : S l with
      | false =>
        rw [ifF, if_pos rfl]
        refine ih (l + 1) n0 (by omega) (by omega) (fun p hp => ?_)
        rw [nx p, hs, if_neg (fun z => absurd z.1 (by decide)), if_neg (fun z => absurd z.1 (by decide)), Nat.or_zero, Nat.or_zero]
        exact h3 p hp
      | true =>
        have ka := (hk _ e1).1
        have kb := (hk _ e2).1
        have la := hlt l h1 _ e1
        have lb := hlt l h1 _ e2
        rw [if_pos rfl, if_neg one0, nI_clamp (by omega), e5, e6]
        refine tgD (vkn d (by omega)) (tgD (vkn e2 (by omega)) (tgD (vkn e1 (by omega)) (tgN (fun g6 hg6 => ?_))))
        rw [nI_clamp (by omega), nI_clamp (by omega), h3 _ e2, (hk _ e1).2, nIor (by omega) (by omega)] at hg6
        rw [nI_clamp (by omega), nI_clamp (by omega)]
        refine tgI (fun z => tgN (fun g8 hg8 => ?_)) (fun z => ?_)
        · have hf := (ow0 e8).mp z
          have ga : g6 (a l) = nI (aft a b fw S k l (a l)) := by rw [hg6, pk_un e3]; exact h3 _ e1
          rw [ga, (hk _ e2).2, nIor (by omega) (by omega)] at hg8
          refine ih (l + 1) g8 (by omega) (by omega) (fun p hp => ?_)
          rw [hg8, nx p, hs, hf]
          by_cases q : p = a l
          · subst q
            rw [pk_us, if_neg (fun z => e3 z.2.symm), if_pos ⟨rfl, rfl, rfl⟩, Nat.or_zero]
          · rw [pk_un q, hg6]
            by_cases q2 : p = b l
            · subst q2
              rw [pk_us, if_pos ⟨rfl, rfl⟩, if_neg (fun z => q z.2.2.symm), Nat.or_zero]
            · rw [pk_un q2, if_neg (fun z => q2 z.2.symm), if_neg (fun z => q z.2.2.symm), Nat.or_zero, Nat.or_zero]
              exact h3 p hp
        · have hf : fw l = true := by
            cases hq : fw l with
            | true => rfl
            | false => exact absurd ((ow0 e8).mpr hq) z
          refine ih (l + 1) g6 (by omega) (by omega) (fun p hp => ?_)
          rw [hg6, nx p, hs, hf, if_neg (c := true = true ∧ true = false ∧ a l = p) (fun z => absurd z.2.1 (by decide)), Nat.or_zero]
          by_cases q2 : p = b l
          · subst q2
            rw [pk_us, if_pos ⟨rfl, rfl⟩]
          · rw [pk_un q2, if_neg (fun z => q2 z.2.symm), Nat.or_zero]
            exact h3 p hp
    · have e : l = nl := by omega
      subst e
      rw [if_pos (nI_le (Nat.le_refl _) (by omega))]
      exact tgS (fun p hp => ⟨hlt l (Nat.le_refl _) p hp, h3 p hp⟩)
theorem wAfter {k : Nat → Nat} {row : Nat → Int32} {S : Nat → Bool} {x : Int32} (hE : hLn np nl a b c fw f0 f1 f2 f3) (hk : hK np k row) (hS : hB nl S x) : tG (fun r => hK np (aft a b fw S k nl) r) (fX12_after nl np (nI nl) f0 f1 f3 row x) := by
  unfold fX12_after
  exact waf11 hE hk hS FU 0 row (Nat.zero_le _) (by have := FUge; have := hE.2.1; omega) (fun p hp => (hk p hp).2)
end
