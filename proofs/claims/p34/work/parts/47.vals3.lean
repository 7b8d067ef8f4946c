/-! values: prices, needed lines, knowers, missing pieces, waiting -/
section
variable {np nl : Nat} {a b c : Nat → Nat} {fw : Nat → Bool} {fi se co ow : Nat → Int32}
theorem hB_eq {n : Nat} {S T : Nat → Bool} {x y : Int32} (hn : n ≤ 32) (h1 : hB n S x) (h2 : hB n T y) : x = y ↔ ∀ l, l < n → S l = T l := by
  constructor
  · intro e l hl
    have q1 := h1 l (by omega)
    have q2 := h2 l (by omega)
    rw [e, q2, decide_eq_true hl, Bool.true_and, Bool.true_and] at q1
    exact q1.symm
  · intro h
    refine ib_ext (fun i hi => ?_)
    rw [h1 i hi, h2 i hi]
    by_cases z : i < n
    · rw [h i z]
    · rw [decide_eq_false z, Bool.false_and, Bool.false_and]
/-- without this line somebody isn't reached -/
def ndl (np nl : Nat) (a b : Nat → Nat) (fw U K : Nat → Bool) (l : Nat) : Bool := U l && !decide (∀ p, p < np → rch nl a b fw (fun i => U i && !decide (i = l)) K (np - 1) p = rch nl a b fw U K (np - 1) p)
theorem need13 {U K : Nat → Bool} {x kx y3 : Int32} (h2 : 2 ≤ np) (hE : hLn np nl a b c fw fi se co ow) (hU : hB nl U x) (hK : hB np K kx) (hR : hB np (rch nl a b fw U K (np - 1)) y3) : ∀ (f l : Nat) (y : Int32), l ≤ nl → nl - l < f → hB nl (fun i => decide (i < l) && ndl np nl a b fw U K i) y → tG (hB nl (ndl np nl a b fw U K)) (fX1_neededLines_b13 (nI np) (nI nl) fi se ow kx x f y3 y (nI l)) := by
  have hnl := hE.2.1
  have hnp := hE.1
  intro f
  induction f with
  | zero => intro l y h1 h2; omega
  | succ f ih =>
    intro l y q1 q2 h3
    rw [fX1_neededLines_b13_s]
    rcases Nat.lt_or_ge l nl with d | d
    · rw [if_neg (nI_ge d (by omega)), hB_in hU d (by omega), nI_1]
      have off : ndl np nl a b fw U K l = false → tG (hB nl (ndl np nl a b fw U K)) (fX1_neededLines_b13 (nI np) (nI nl) fi se ow kx x f y3 y (nI (l + 1))) := fun z => ih (l + 1) y (by omega) (by omega) (hB_congr h3 (fun i _ => by
        by_cases e : i = l
        · subst e; rw [z, Bool.and_false, Bool.and_false]
        · rw [decs e]))
      cases hu : U l with
      | false =>
        rw [ifF, if_pos rfl]
        exact off (by unfold ndl; rw [hu, Bool.false_and])
      | true =>
        rw [if_pos rfl, if_neg one0]
        refine tgC (reachV h2 hE (hB_del hU (by omega)) hK) (fun u hu9 => ?_)
        have he := hB_eq (by omega) hu9 hR
        refine tgI (fun z => ?_) (fun z => ?_)
        · exact off (by unfold ndl; rw [decide_eq_true (he.mp z), Bool.not_true, Bool.and_false])
        · refine ih (l + 1) _ (by omega) (by omega) (hB_congr (hB_or1 h3 d (by omega)) (fun i _ => ?_))
          by_cases e : i = l
          · subst e
            rw [decide_eq_true (rfl : i = i), Bool.or_true, decide_eq_true (Nat.lt_succ_self i), Bool.true_and]
            unfold ndl
            rw [hu, decide_eq_false (fun w => z (he.mpr w))]
            rfl
          · rw [decide_eq_false e, Bool.or_false, decs e]
    · have e : l = nl := by omega
      subst e
      rw [if_pos (nI_le (Nat.le_refl _) (by omega))]
      exact tgS (hB_congr h3 (fun i hi => by rw [decide_eq_true hi, Bool.true_and]))
theorem needV {U K : Nat → Bool} {x kx : Int32} (h2 : 2 ≤ np) (hE : hLn np nl a b c fw fi se co ow) (hU : hB nl U x) (hK : hB np K kx) : tG (hB nl (ndl np nl a b fw U K)) (fX1_neededLines (nI np) (nI nl) fi se ow kx x) := by
  unfold fX1_neededLines
  refine tgC (reachV h2 hE hU hK) (fun u hu => need13 h2 hE hU hK hu FU 0 0 (Nat.zero_le _) (by have := FUge; have := hE.2.1; omega) (fun i _ => ?_))
  rw [ib_0]
  show false = (decide (i < nl) && (decide (i < 0) && ndl np nl a b fw U K i))
  rw [decide_eq_false (Nat.not_lt_zero i), Bool.false_and, Bool.and_false]
/-- a price as the class has it -/
def enc (t : Int32) (x : Option Nat) : Int32 := match x with
  | none => t
  | some v => nI v
def hP (np B : Nat) (P : Nat → Option Nat) (p3 : Nat → Int32) : Prop := ∀ p, p < np → p3 p = enc 1000000 (P p) ∧ ∀ v, P p = some v → v ≤ B
theorem added_eq {x : Option Nat} {n B : Nat} (hx : ∀ v, x = some v → v ≤ B) (hBd : B < 10000) : fX1_added (enc 1000000 x) (nI n) = enc 1000000 (oadd x n) := by
  unfold fX1_added
  cases x with
  | none => exact if_pos rfl
  | some v =>
    have := hx v rfl
    show (if nI v = 1000000 then 1000000 else nI v + nI n) = nI (v + n)
    rw [if_neg (fun z => by have := (nI_eq (a := v) (b := 1000000) (by omega) (by decide)).mp z; omega)]
    exact nI_add v n
theorem min_eq {x y : Option Nat} {B : Nat} (hx : ∀ v, x = some v → v ≤ B) (hy : ∀ v, y = some v → v ≤ B) (hBd : B < 20000) : (if enc 1000000 y < enc 1000000 x then enc 1000000 y else enc 1000000 x) = enc 1000000 (omin x y) := by
  cases x with
  | none =>
    cases y with
    | none => rw [if_neg (by decide)]; rfl
    | some w =>
      have := hy w rfl
      exact if_pos (show nI w < nI 1000000 from nI_lt (by omega) (by decide))
  | some v =>
    have := hx v rfl
    cases y with
    | none => exact if_neg (show ¬ nI 1000000 < nI v from nI_nlt (by omega) (by decide))
    | some w =>
      have := hy w rfl
      show (if nI w < nI v then nI w else nI v) = nI (if w < v then w else v)
      by_cases z : w < v
      · rw [if_pos z, if_pos (nI_lt z (by omega))]
      · rw [if_neg z, if_neg (nI_nlt (by omega) (by omega))]
theorem low2 {U : Nat → Bool} {x : Int32} {P : Nat → Option Nat} {B : Nat} (hBd : B < 9000) (hc : ∀ l, l < nl → c l ≤ 4) (hE : hLn np nl a b c fw fi se co ow) (hU : hB nl U x) (hPb : ∀ p v, P p = some v → v ≤ B) : ∀ (f l : Nat) (p2 : Nat → Int32), l ≤ nl → nl - l < f → (∀ p, p < np → p2 p = enc 1000000 (rx a b c fw U l P p)) → tG (fun r => ∀ p, p < np → r p = enc 1000000 (rx a b c fw U nl P p)) (fX1_lowerCosts_b2 10 (nI nl) fi se co ow x f (nI l) p2) := by
  have hbd := rx_bd (a := a) (b := b) (fw := fw) (U := U) hc hPb
  obtain ⟨hnp, hnl, hE⟩ := hE
  intro f
  induction f with
  | zero => intro l p2 h1 h2; omega
  | succ f ih =>
    intro l p2 h1 h2 h3
    rw [fX1_lowerCosts_b2_s]
    rcases Nat.lt_or_ge l nl with d | d
    · obtain ⟨e1, e2, e3, e4, e5, e6, e7, e8⟩ := hE l d
      have hcl := hc l d
      rw [if_neg (nI_ge d (by omega)), hB_in hU d (by omega), nI_1]
      have nx : ∀ p, rx a b c fw U (l + 1) P p = rx1 a b c fw U l (rx a b c fw U l P) p := fun p => rfl
      have b1 : ∀ p v, rx a b c fw U l P p = some v → v ≤ B + 4 * l := hbd l h1
      have b2 : ∀ p v, oadd (rx a b c fw U l P p) (c l) = some v → v ≤ B + 4 * l + 4 := fun p v h => by
        cases hp : rx a b c fw U l P p with
        | none => rw [hp] at h; cases h
        | some u =>
          rw [hp] at h
          have h' : some (u + c l) = some v := h
          cases h'
          have := b1 p u hp
          omega
      cases hu : U l with
      | false =>
        rw [ifF, if_pos rfl]
        refine ih (l + 1) p2 (by omega) (by omega) (fun p hp => ?_)
        rw [nx p]
        unfold rx1
        rw [hu, if_neg (by decide)]
        exact h3 p hp
      | true =>
        rw [if_pos rfl, if_neg one0]
        refine tgD (vkn (by omega) (by decide)) ?_
        rw [nI_clamp (by omega), e5, e6, e7]
        refine tgD (vkn (by omega) (by decide)) (tgN (fun w8 hw8 => tgD (vkn (by omega) (by decide)) (tgN (fun w10 hw10 => tgN (fun w14 hw14 => ?_)))))
        rw [nI_clamp (by omega), h3 _ e1] at hw8
        rw [nI_clamp (by omega), h3 _ e2] at hw10
        rw [nI_clamp (by omega), nI_clamp (by omega)]
        rw [hw8, hw10, added_eq (b1 (a l)) (by omega), min_eq (x := rx a b c fw U l P (b l)) (y := oadd (rx a b c fw U l P (a l)) (c l)) (B := B + 4 * l + 4) (fun v h => by have := b1 (b l) v h; omega) (b2 (a l)) (by omega)] at hw14
        refine tgI (fun z => tgN (fun w19 hw19 => ?_)) (fun z => ?_)
        · have hf := (ow0 e8).mp z
          rw [hw8, hw10, added_eq (b1 (b l)) (by omega), min_eq (x := rx a b c fw U l P (a l)) (y := oadd (rx a b c fw U l P (b l)) (c l)) (B := B + 4 * l + 4) (fun v h => by have := b1 (a l) v h; omega) (b2 (b l)) (by omega)] at hw19
          refine ih (l + 1) _ (by omega) (by omega) (fun p hp => ?_)
          rw [nx p]
          unfold rx1
          rw [hu, if_pos rfl, hf, if_neg (by decide)]
          show _ = enc 1000000 (if p = a l then _ else if p = b l then _ else rx a b c fw U l P p)
          by_cases q : p = a l
          · rw [q, pk_us, if_pos rfl, hw19]
          · rw [pk_un q, if_neg q]
            by_cases q2 : p = b l
            · rw [q2, pk_us, if_pos rfl, hw14]
            · rw [pk_un q2, if_neg q2]
              exact h3 p hp
        · have hf : fw l = true := by
            cases hq : fw l with
            | true => rfl
            | false => exact absurd ((ow0 e8).mpr hq) z
          refine ih (l + 1) _ (by omega) (by omega) (fun p hp => ?_)
          rw [nx p]
          unfold rx1
          rw [hu, if_pos rfl, hf, if_pos rfl]
          show _ = enc 1000000 (if p = b l then _ else rx a b c fw U l P p)
          by_cases q2 : p = b l
          · rw [q2, pk_us, if_pos rfl, hw14]
          · rw [pk_un q2, if_neg q2]
            exact h3 p hp
    · have e : l = nl := by omega
      subst e
      rw [if_pos (nI_le (Nat.le_refl _) (by omega))]
      exact tgS h3
theorem fill62 {P : Nat → Option Nat} {B : Nat} (hBd : B < 9000) (hPb : ∀ p v, P p = some v → v ≤ B) (hnp : np ≤ 7) : ∀ (f y : Nat) (p3 : Nat → Int32), y ≤ 10 → 10 - y < f → (∀ p, p < np → p3 p = enc (if p < y then (-1) else 1000000) (P p)) → tG (fun r => ∀ p, p < np → r p = enc (-1) (P p)) (fX1_fillLeastCosts_b62 10 f (nI y) p3) := by
  intro f
  induction f with
  | zero => intro y p3 h1 h2; omega
  | succ f ih =>
    intro y p3 h1 h2 h3
    rw [fX1_fillLeastCosts_b62_s]
    rcases Nat.lt_or_ge y 10 with d | d
    · rw [if_neg (show ¬ (10 : Int32) ≤ nI y from nI_ge (b := 10) d (by decide)), nI_clamp (by omega), nI_1]
      have ot : ∀ p, p ≠ y → (if p < y then (-1 : Int32) else 1000000) = if p < y + 1 then (-1) else 1000000 := fun p hp => by
        by_cases z : p < y
        · rw [if_pos z, if_pos (by omega)]
        · rw [if_neg z, if_neg (by omega)]
      refine tgD (vkn (by omega) (by decide)) (tgI (fun z => ?_) (fun z => ?_))
      · refine ih (y + 1) _ (by omega) (by omega) (fun p hp => ?_)
        by_cases e : p = y
        · subst e
          rw [pk_us, if_pos (by omega)]
          rw [h3 p hp, if_neg (Nat.lt_irrefl p)] at z
          cases hq : P p with
          | none => rfl
          | some v =>
            rw [hq] at z
            have := hPb p v hq
            have := (nI_eq (a := v) (b := 1000000) (by omega) (by decide)).mp z
            omega
        · rw [pk_un e, h3 p hp, ot p e]
      · refine ih (y + 1) _ (by omega) (by omega) (fun p hp => ?_)
        by_cases e : p = y
        · subst e
          rw [h3 p hp, if_neg (Nat.lt_irrefl p), if_pos (by omega)]
          rw [h3 p hp, if_neg (Nat.lt_irrefl p)] at z
          cases hq : P p with
          | none =>
            rw [hq] at z
            exact absurd rfl z
          | some v => rfl
        · rw [h3 p hp, ot p e]
    · rw [if_pos (show (10 : Int32) ≤ nI y from nI_le (a := 10) d (by omega))]
      exact tgS (fun p hp => by
        have := h3 p hp
        rw [if_pos (by omega)] at this
        exact this)
theorem fill38 {U K : Nat → Bool} {x : Int32} (hc : ∀ l, l < nl → c l ≤ 4) (hE : hLn np nl a b c fw fi se co ow) (hU : hB nl U x) : ∀ (f m : Nat) (p3 : Nat → Int32), 1 ≤ m → m ≤ np → np - m < f → (∀ p, p < np → p3 p = enc 1000000 (prc nl a b c fw U K (m - 1) p)) → tG (fun r => ∀ p, p < np → r p = enc (-1) (prc nl a b c fw U K (np - 1) p)) (fX1_fillLeastCosts_b38 10 (nI np) (nI nl) fi se co ow x f (nI m) p3) := by
  have hbd := prc_bd (a := a) (b := b) (fw := fw) (U := U) (K := K) hc
  have hnp := hE.1
  have hnl := hE.2.1
  have small : ∀ m, m ≤ 7 → 4 * nl * m ≤ 224 := fun m hm => by
    have : 4 * nl * m ≤ 32 * 7 := Nat.mul_le_mul (by omega) hm
    omega
  intro f
  induction f with
  | zero => intro m p3 h0 h1 h2; omega
  | succ f ih =>
    intro m p3 h0 h1 h2 h3
    rw [fX1_fillLeastCosts_b38_s]
    rcases Nat.lt_or_ge m np with d | d
    · rw [if_neg (nI_ge d (by omega)), nI_1]
      unfold fX1_lowerCosts
      refine tgC (low2 (P := prc nl a b c fw U K (m - 1)) (B := 224) (by decide) hc hE hU (fun p v h => by have := hbd (m - 1) p v h; have := small (m - 1) (by omega); omega) FU 0 p3 (Nat.zero_le _) (by have := FUge; omega) h3) (fun u hu => ?_)
      refine ih (m + 1) u (by omega) (by omega) (by omega) (fun p hp => ?_)
      rw [show m + 1 - 1 = (m - 1) + 1 by omega]
      exact hu p hp
    · have e : m = np := by omega
      subst e
      rw [if_pos (nI_le (Nat.le_refl _) (by omega))]
      refine fill62 (B := 224) (by decide) (fun p v h => by have := hbd (m - 1) p v h; have := small (m - 1) (by omega); omega) hnp FU 0 p3 (by decide) (by have := FUge; omega) (fun p hp => ?_)
      rw [if_neg (Nat.not_lt_zero p)]
      exact h3 p hp
theorem fill3 {U K : Nat → Bool} {x kx : Int32} (h2 : 2 ≤ np) (hc : ∀ l, l < nl → c l ≤ 4) (hE : hLn np nl a b c fw fi se co ow) (hU : hB nl U x) (hK : hB np K kx) : ∀ (f y : Nat) (p3 : Nat → Int32), y ≤ 10 → 10 - y < f → (∀ p, p < np → p < y → p3 p = enc 1000000 (prc nl a b c fw U K 0 p)) → tG (fun r => ∀ p, p < np → r p = enc (-1) (prc nl a b c fw U K (np - 1) p)) (fX1_fillLeastCosts_b3 10 (nI np) (nI nl) fi se co ow kx x f (nI y) p3) := by
  have hnp := hE.1
  intro f
  induction f with
  | zero => intro y p3 h1 h2; omega
  | succ f ih =>
    intro y p3 h1 h2 h3
    rw [fX1_fillLeastCosts_b3_s]
    rcases Nat.lt_or_ge y 10 with d | d
    · rw [if_neg (show ¬ (10 : Int32) ≤ nI y from nI_ge (b := 10) d (by decide))]
      unfold fX1_fillLeastCosts_b28
      rw [nI_clamp (by omega), nI_1, isIn_ib (by omega), hK y (by omega)]
      have key : ∀ v : Int32, (y < np → v = enc 1000000 (prc nl a b c fw U K 0 y)) → tG (fun r => ∀ p, p < np → r p = enc (-1) (prc nl a b c fw U K (np - 1) p)) (gd (nI y) 10 (fX1_fillLeastCosts_b3 10 (nI np) (nI nl) fi se co ow kx x f (nI (y + 1)) (upd p3 y v))) := fun v hv => by
        refine tgD (vkn (by omega) (by decide)) (ih (y + 1) _ (by omega) (by omega) (fun p hp q => ?_))
        by_cases e : p = y
        · subst e
          rw [pk_us]
          exact hv hp
        · rw [pk_un e]
          exact h3 p hp (by omega)
      refine tgI (fun z => key _ (fun q => ?_)) (fun z => key _ (fun q => ?_))
      · show (1000000 : Int32) = enc 1000000 (if K y = true then some 0 else none)
        cases hk : K y with
        | false => rw [if_neg (by decide)]; rfl
        | true =>
          rw [hk, decide_eq_true q] at z
          exact absurd z one0
      · show (0 : Int32) = enc 1000000 (if K y = true then some 0 else none)
        cases hk : K y with
        | true => rw [if_pos rfl]; rfl
        | false =>
          rw [hk, Bool.and_false, if_neg (by decide)] at z
          exact absurd rfl z
    · rw [if_pos (show (10 : Int32) ≤ nI y from nI_le (a := 10) d (by omega))]
      refine fill38 hc hE hU FU 1 p3 (Nat.le_refl _) (by omega) (by have := FUge; omega) (fun p hp => h3 p hp (by omega))
theorem fillV {U K : Nat → Bool} {x kx : Int32} {p3 : Nat → Int32} (h2 : 2 ≤ np) (hc : ∀ l, l < nl → c l ≤ 4) (hE : hLn np nl a b c fw fi se co ow) (hU : hB nl U x) (hK : hB np K kx) : tG (fun r => ∀ p, p < np → r p = enc (-1) (prc nl a b c fw U K (np - 1) p)) (fX1_fillLeastCosts 10 (nI np) (nI nl) fi se co ow p3 kx x) := by
  unfold fX1_fillLeastCosts
  exact fill3 h2 hc hE hU hK FU 0 p3 (by decide) (by have := FUge; omega) (fun p _ q => absurd q (Nat.not_lt_zero p))
theorem know4 {k : Nat → Nat} {pcs : Nat → Int32} {q : Nat} (hnp : np ≤ 7) (hq : q < 32) (h : hK np k pcs) : ∀ (f p : Nat) (y : Int32), p ≤ np → np - p < f → hB np (fun i => decide (i < p) && (k i).testBit q) y → tG (hB np (fun p => (k p).testBit q)) (fX3_knowersOf_b4 (nI np) pcs (nI q) f y (nI p)) := by
  intro f
  induction f with
  | zero => intro p y h1 h2; omega
  | succ f ih =>
    intro p y h1 h2 h3
    rw [fX3_knowersOf_b4_s]
    rcases Nat.lt_or_ge p np with d | d
    · have hl := hK_lt hnp h d
      rw [if_neg (nI_ge d (by omega)), nI_clamp (by omega), (h p d).2, isIn_ib hq, ib_N (by omega), nI_1]
      refine tgD (vkn (by omega) (by decide)) ?_
      cases hb : (k p).testBit q with
      | false =>
        rw [ifF, if_pos rfl]
        refine ih (p + 1) y (by omega) (by omega) (hB_congr h3 (fun i _ => ?_))
        by_cases e : i = p
        · subst e; rw [hb, Bool.and_false, Bool.and_false]
        · rw [decs e]
      | true =>
        rw [if_pos rfl, if_neg one0]
        refine ih (p + 1) _ (by omega) (by omega) (hB_congr (hB_or1 h3 d (by omega)) (fun i _ => ?_))
        by_cases e : i = p
        · subst e; rw [hb, decide_eq_true (rfl : i = i), Bool.or_true, decide_eq_true (Nat.lt_succ_self i)]; rfl
        · rw [decs e, decide_eq_false e, Bool.or_false]
    · have e : p = np := by omega
      subst e
      rw [if_pos (nI_le (Nat.le_refl _) (by omega))]
      exact tgS (hB_congr h3 (fun i hi => by rw [decide_eq_true hi, Bool.true_and]))
theorem knowV {k : Nat → Nat} {pcs : Nat → Int32} {q : Nat} (hnp : np ≤ 7) (hq : q < 32) (h : hK np k pcs) : tG (hB np (fun p => (k p).testBit q)) (fX3_knowersOf (nI np) pcs (nI q)) := by
  unfold fX3_knowersOf
  exact know4 hnp hq h FU 0 0 (Nat.zero_le _) (by have := FUge; omega) (fun i _ => by
    rw [ib_0]
    show false = (decide (i < np) && (decide (i < 0) && (k i).testBit q))
    rw [decide_eq_false (Nat.not_lt_zero i), Bool.false_and, Bool.and_false])
/-- the pieces that are missing -/
def msm (np : Nat) (k : Nat → Nat) : Nat → Nat
  | 0 => 0
  | n + 1 => msm np k n + (np - pc (k n))
theorem miss12 {k : Nat → Nat} {pcs : Nat → Int32} (hnp : np ≤ 7) (h : hK np k pcs) : ∀ (f p : Nat), p ≤ np → np - p < f → tG (fun r => r = nI (msm np k np)) (fX3_missingPieces_b12 (nI np) pcs f (nI (msm np k p + np * (np - p))) (nI p)) := by
  intro f
  induction f with
  | zero => intro p h1 h2; omega
  | succ f ih =>
    intro p h1 h2
    rw [fX3_missingPieces_b12_s]
    rcases Nat.lt_or_ge p np with d | d
    · have hl := hK_lt hnp h d
      have hp := pc_le np hnp _ (h p d).1
      rw [if_neg (nI_ge d (by omega)), nI_clamp (by omega), (h p d).2, bc128 _ hl, nI_1]
      refine tgD (vkn (by omega) (by decide)) (tgN (fun w hw => ?_))
      have e1 : np * (np - p) = np * (np - (p + 1)) + np := by
        rw [show np - p = (np - (p + 1)) + 1 by omega, Nat.mul_succ]
      rw [hw, nsub (a := msm np k p + np * (np - p)) (b := pc (k p)) rfl rfl (by omega)]
      have e2 : msm np k p + np * (np - p) - pc (k p) = msm np k (p + 1) + np * (np - (p + 1)) := by
        show _ = (msm np k p + (np - pc (k p))) + np * (np - (p + 1))
        omega
      rw [e2]
      exact ih (p + 1) (by omega) (by omega)
    · have e : p = np := by omega
      rw [if_pos (nI_le d (by omega)), e, Nat.sub_self, Nat.mul_zero, Nat.add_zero]
      exact tgS rfl
theorem missV {k : Nat → Nat} {pcs : Nat → Int32} (hnp : np ≤ 7) (h : hK np k pcs) : fX3_missingPieces (nI np) pcs = some (nI (msm np k np)) := by
  obtain ⟨r, h1, h2⟩ := miss12 hnp h FU 0 (Nat.zero_le _) (by have := FUge; omega)
  unfold fX3_missingPieces
  rw [nmul (a := np) (b := np) rfl rfl]
  have e : msm np k 0 + np * (np - 0) = np * np := by
    show 0 + np * (np - 0) = _
    rw [Nat.zero_add, Nat.sub_zero]
  rw [e] at h1
  rw [← h2]
  exact h1
/-- the first round from one on in which it is so -/
def fst1 (X : Nat → Bool) : Nat → Nat → Int32
  | 0, _ => -1
  | d + 1, w => if X w = true then nI w else fst1 X d (w + 1)
/-- who knows a piece, waiting -/
def kws (nl : Nat) (a b : Nat → Nat) (fw : Nat → Bool) (us : Nat → Nat → Bool) (K : Nat → Bool) : Nat → Nat → Bool
  | 0, p => K p
  | w + 1, p => spr a b fw (us w) (kws nl a b fw us K w) nl p
variable {nb na : Nat} {wb fb ub wa fa ua : Nat → Nat} {twb tfb tub twa tfa tua : Nat → Int32} {cut : Nat → Bool} {cu : Int32}
theorem soon25 {K : Nat → Bool} {rounds p : Nat} (hE : hLn np nl a b c fw fi se co ow) (hb : hSp nb nl wb fb ub twb tfb tub) (ha : hSp na np wa fa ua twa tfa tua) (hr : rounds < 10000) (hc : hB nl cut cu) (hp : p < np) : ∀ (f w : Nat) (y : Int32), w ≤ 61 → 61 - w < f → hB np (kws nl a b fw (fun w => usb nb na wb fb ub wa fa ua a b cut (rounds + w + 1)) K w) y → tG (fun r => r = fst1 (fun w => kws nl a b fw (fun w => usb nb na wb fb ub wa fa ua a b cut (rounds + w + 1)) K w p) (61 - w) w) (fX10_soonest_b25 (nI nl) fi se ow (nI nb) twb tfb tub (nI na) twa tfa tua cu (nI rounds) (nI p) f y (nI w)) := by
  have hnp := hE.1
  intro f
  induction f with
  | zero => intro w y h1 h2; omega
  | succ f ih =>
    intro w y h1 h2 h3
    rw [fX10_soonest_b25_s]
    rcases Nat.lt_or_ge 60 w with d | d
    · rw [if_pos (show (60 : Int32) < nI w from nI_lt (a := 60) d (by omega)), show 61 - w = 0 by omega]
      exact tgS rfl
    · rw [if_neg (show ¬ (60 : Int32) < nI w from nI_nlt (a := 60) d (by decide)), hB_in h3 hp (by omega)]
      obtain ⟨q, hq⟩ : ∃ q, 61 - w = q + 1 := ⟨60 - w, by omega⟩
      rw [hq]
      show tG (fun r => r = if kws nl a b fw _ K w p = true then nI w else fst1 _ q (w + 1)) _
      cases hk : kws nl a b fw (fun w => usb nb na wb fb ub wa fa ua a b cut (rounds + w + 1)) K w p with
      | true =>
        rw [ifT, ifT, if_neg one0]
        exact tgS rfl
      | false =>
        rw [ifF, ifF, if_pos rfl, nI_1, nI_add, nI_1]
        refine tgC (usableV hE hb ha (by omega) hc) (fun u hu => ?_)
        rw [show rounds + 1 + w = rounds + w + 1 by omega] at hu
        refine tgC (spreadV hE hu h3) (fun u2 hu2 => ?_)
        have := ih (w + 1) u2 (by omega) (by omega) hu2
        rw [show 61 - (w + 1) = q by omega] at this
        exact this
end
