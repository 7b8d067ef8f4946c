/-! values: who is open, the other person, calls, who hears -/
section
variable {np nl : Nat} {a b c : Nat → Nat} {fw : Nat → Bool} {fi se co ow : Nat → Int32}
theorem open28 {aw : Int32} {AW O : Nat → Bool} (hE : hLn np nl a b c fw fi se co ow) (hA : ∀ p, p < 32 → xb aw p = AW p) : ∀ (f l : Nat) (y : Int32), l ≤ nl → nl - l < f → (∀ i, i < 32 → xb y i = (O i && !(decide (i < l) && (AW (a i) || AW (b i))))) → tG (fun r => ∀ i, i < 32 → xb r i = (O i && !(decide (i < nl) && (AW (a i) || AW (b i))))) (fX1_openLines_b28 (nI nl) fi se f aw y (nI l)) := by
  obtain ⟨hnp, hnl, hE⟩ := hE
  intro f
  induction f with
  | zero => intro l y h1 h2; omega
  | succ f ih =>
    intro l y h1 h2 h3
    rw [fX1_openLines_b28_s]
    rcases Nat.lt_or_ge l nl with d | d
    · obtain ⟨e1, e2, e3, e4, e5, e6, e7, e8⟩ := hE l d
      rw [if_neg (nI_ge d (by omega)), nI_clamp (by omega), e5, e6, isIn_ib (by omega), isIn_ib (by omega), hA _ (by omega), hA _ (by omega), nI_1]
      refine tgD (vkn (by omega) (by decide)) ?_
      have yes : (AW (a l) || AW (b l)) = true → tG (fun r => ∀ i, i < 32 → xb r i = (O i && !(decide (i < nl) && (AW (a i) || AW (b i))))) (fX1_openLines_b65 (fX1_openLines_b28 (nI nl) fi se f) aw y (nI l)) := fun hy => by
        unfold fX1_openLines_b65
        rw [nI_1]
        refine ih (l + 1) _ (by omega) (by omega) (fun i hi => ?_)
        rw [ib_and, ib_not hi, ib_one l (by omega) i hi, h3 i hi]
        by_cases e : i = l
        · subst e
          rw [hy, decide_eq_true (rfl : i = i), decide_eq_true (Nat.lt_succ_self i)]
          cases O i <;> simp
        · rw [decs e, decide_eq_false e, Bool.not_false, Bool.and_true]
      have no : (AW (a l) || AW (b l)) = false → tG (fun r => ∀ i, i < 32 → xb r i = (O i && !(decide (i < nl) && (AW (a i) || AW (b i))))) (fX1_openLines_b28 (nI nl) fi se f aw y (nI (l + 1))) := fun hy => by
        refine ih (l + 1) y (by omega) (by omega) (fun i hi => ?_)
        rw [h3 i hi]
        by_cases e : i = l
        · subst e
          rw [hy, Bool.and_false, Bool.and_false]
        · rw [decs e]
      cases h4 : AW (a l) with
      | true =>
        rw [if_pos rfl, if_neg one0]
        exact yes (by rw [h4, Bool.true_or])
      | false =>
        rw [ifF, if_pos rfl]
        cases h5 : AW (b l) with
        | true =>
          rw [if_pos rfl, if_neg one0]
          exact yes (by rw [h5, Bool.or_true])
        | false =>
          rw [ifF, if_pos rfl]
          exact no (by rw [h4, h5]; rfl)
    · have e : l = nl := by omega
      subst e
      rw [if_pos (nI_le (Nat.le_refl _) (by omega))]
      exact tgS h3
/-- spans -/
def hSp (n m : Nat) (wh fr un : Nat → Nat) (tw tf tu : Nat → Int32) : Prop := n ≤ 12 ∧ ∀ j, j < n → wh j < m ∧ fr j < 20000 ∧ un j < 20000 ∧ tw j = nI (wh j) ∧ tf j = nI (fr j) ∧ tu j = nI (un j)
theorem keptV {n m : Nat} {wh fr un : Nat → Nat} {tw tf tu : Nat → Int32} {round : Nat} (h : hSp n m wh fr un tw tf tu) (hm : m ≤ 32) (hr : round < 20000) : tG (fun r => ∀ i, i < 32 → xb r i = spIn n wh fr un round i) (fX8_keptOut (nI n) tw tf tu (nI round)) := by
  unfold fX8_keptOut
  exact kept_eq h.1 hr (fun j hj => by
    obtain ⟨w1, w2, w3, w4⟩ := h.2 j hj
    exact ⟨by omega, w2, w3, w4⟩) FU 0 0 (Nat.zero_le _) (by have := FUge; have := h.1; omega) (fun i _ => by rw [ib_0]; rfl)
/-- a line that is usable in a round -/
def usb (nb na : Nat) (wb fb ub wa fa ua : Nat → Nat) (a b : Nat → Nat) (cut : Nat → Bool) (round l : Nat) : Bool := !cut l && (!spIn nb wb fb ub round l && !(spIn na wa fa ua round (a l) || spIn na wa fa ua round (b l)))
variable {nb na : Nat} {wb fb ub wa fa ua : Nat → Nat} {twb tfb tub twa tfa tua : Nat → Int32} {cut : Nat → Bool} {cu : Int32} {round : Nat}
theorem openV (hE : hLn np nl a b c fw fi se co ow) (hb : hSp nb nl wb fb ub twb tfb tub) (ha : hSp na np wa fa ua twa tfa tua) (hr : round < 20000) : tG (hB nl (fun l => !spIn nb wb fb ub round l && !(spIn na wa fa ua round (a l) || spIn na wa fa ua round (b l)))) (fX1_openLines (nI nl) fi se (nI nb) twb tfb tub (nI na) twa tfa tua (nI round)) := by
  have hnp := hE.1
  have hnl := hE.2.1
  unfold fX1_openLines
  refine tgC (keptV ha (by omega) hr) (fun u1 hu1 => tgC (keptV hb (by omega) hr) (fun u7 hu7 => tgN (fun w10 hw10 => ?_)))
  refine tgW (open28 (O := fun i => decide (i < nl) && !spIn nb wb fb ub round i) hE hu1 FU 0 w10 (Nat.zero_le _) (by have := FUge; omega) (fun i hi => ?_)) (fun r hr i hi => ?_)
  · rw [hw10]
    unfold fX1_allLines
    rw [ib_and, ib_not hi, hu7 i hi, all_ib nl (by omega) i hi, decide_eq_false (Nat.not_lt_zero i), Bool.false_and, Bool.not_false, Bool.and_true]
  · rw [hr i hi]
    cases decide (i < nl) <;> simp
theorem usableV (hE : hLn np nl a b c fw fi se co ow) (hb : hSp nb nl wb fb ub twb tfb tub) (ha : hSp na np wa fa ua twa tfa tua) (hr : round < 20000) (hc : hB nl cut cu) : tG (hB nl (usb nb na wb fb ub wa fa ua a b cut round)) (fX10_usableLines (nI nl) fi se (nI nb) twb tfb tub (nI na) twa tfa tua cu (nI round)) := by
  unfold fX10_usableLines
  refine tgC (openV hE hb ha hr) (fun u hu => tgS (fun i hi => ?_))
  rw [ib_and, ib_not hi, hu i hi, hc i hi]
  unfold usb
  cases decide (i < nl) <;> simp [Bool.and_comm]
theorem uncutV (hnl : nl ≤ 8) (hc : hB nl cut cu) : hB nl (fun l => !cut l) (fX10_uncutLines (nI nl) cu) := by
  intro i hi
  unfold fX10_uncutLines fX1_allLines
  rw [ib_and, ib_not hi, all_ib nl (by omega) i hi, hc i hi]
  cases decide (i < nl) <;> simp
/-- with whom a person talks -/
def ptn (nl : Nat) (a b : Nat → Nat) (S : Nat → Bool) (p : Nat) (r : Int32) : Prop := (r = -1 ∧ ∀ l, l < nl → S l = true → a l ≠ p ∧ b l ≠ p) ∨ ∃ l, l < nl ∧ S l = true ∧ ((a l = p ∧ r = nI (b l)) ∨ (b l = p ∧ r = nI (a l)))
theorem other2 {S : Nat → Bool} {x : Int32} {p : Nat} (hE : hLn np nl a b c fw fi se co ow) (hS : hB nl S x) (hp : p < np) : ∀ (f l : Nat), l ≤ nl → nl - l < f → (∀ m, m < l → S m = true → a m ≠ p ∧ b m ≠ p) → tG (ptn nl a b S p) (fX1_otherPerson_b2 (nI nl) fi se x (nI p) f (nI l)) := by
  obtain ⟨hnp, hnl, hE⟩ := hE
  intro f
  induction f with
  | zero => intro l h1 h2; omega
  | succ f ih =>
    intro l h1 h2 h3
    rw [fX1_otherPerson_b2_s]
    rcases Nat.lt_or_ge l nl with d | d
    · obtain ⟨e1, e2, e3, e4, e5, e6, e7, e8⟩ := hE l d
      rw [if_neg (nI_ge d (by omega)), hB_in hS d (by omega)]
      unfold fX1_otherPerson_b35 fX1_otherPerson_b28 fX1_otherPerson_b53
      rw [hB_in hS d (by omega), nI_1, nI_clamp (by omega), e5, e6]
      have on : (S l = true → a l ≠ p ∧ b l ≠ p) → tG (ptn nl a b S p) (fX1_otherPerson_b2 (nI nl) fi se x (nI p) f (nI (l + 1))) := fun z => ih (l + 1) (by omega) (by omega) (fun m hm hs => by
        by_cases e : m = l
        · rw [e] at hs ⊢
          exact z hs
        · exact h3 m (by omega) hs)
      cases hs : S l with
      | false =>
        rw [ifF, if_pos rfl, if_pos rfl]
        exact on (fun z => by rw [hs] at z; exact absurd z (by decide))
      | true =>
        rw [if_pos rfl, if_neg one0, if_neg one0]
        refine tgD (vkn (by omega) (by decide)) (tgI (fun z => tgD (vkn (by omega) (by decide)) (tgS ?_)) (fun z => tgD (vkn (by omega) (by decide)) (tgI (fun z2 => tgD (vkn (by omega) (by decide)) (tgS ?_)) (fun z2 => ?_))))
        · exact Or.inr ⟨l, d, hs, Or.inl ⟨(nI_eq (by omega) (by omega)).mp z, rfl⟩⟩
        · exact Or.inr ⟨l, d, hs, Or.inr ⟨(nI_eq (by omega) (by omega)).mp z2, rfl⟩⟩
        · exact on (fun _ => ⟨fun q => z (by rw [q]), fun q => z2 (by rw [q])⟩)
    · have e : l = nl := by omega
      subst e
      rw [if_pos (nI_le (Nat.le_refl _) (by omega))]
      exact tgS (Or.inl ⟨rfl, h3⟩)
theorem otherV {S : Nat → Bool} {x : Int32} {p : Nat} (hE : hLn np nl a b c fw fi se co ow) (hS : hB nl S x) (hp : p < np) : tG (ptn nl a b S p) (fX1_otherPerson (nI nl) fi se x (nI p)) := by
  unfold fX1_otherPerson
  exact other2 hE hS hp FU 0 (Nat.zero_le _) (by have := FUge; have := hE.2.1; omega) (fun m hm => absurd hm (Nat.not_lt_zero m))
/-- one answer alone, where the set is free -/
theorem ptn_one {S : Nat → Bool} {p : Nat} {r s : Int32} (hF : ∀ l m, l < nl → m < nl → l ≠ m → S l = true → S m = true → a l ≠ a m ∧ a l ≠ b m ∧ b l ≠ a m ∧ b l ≠ b m) (hab : ∀ l, l < nl → a l ≠ b l) (h1 : ptn nl a b S p r) (h2 : ptn nl a b S p s) : r = s := by
  rcases h1 with ⟨r1, n1⟩ | ⟨l, l1, l2, l3⟩
  · rcases h2 with ⟨r2, _⟩ | ⟨m, m1, m2, m3⟩
    · rw [r1, r2]
    · have := n1 m m1 m2
      rcases m3 with ⟨z, _⟩ | ⟨z, _⟩
      · exact absurd z this.1
      · exact absurd z this.2
  · rcases h2 with ⟨_, n2⟩ | ⟨m, m1, m2, m3⟩
    · have := n2 l l1 l2
      rcases l3 with ⟨z, _⟩ | ⟨z, _⟩
      · exact absurd z this.1
      · exact absurd z this.2
    · by_cases e : l = m
      · subst e
        rcases l3 with ⟨z, z1⟩ | ⟨z, z1⟩ <;> rcases m3 with ⟨w, w1⟩ | ⟨w, w1⟩
        · rw [z1, w1]
        · exact absurd (z.trans w.symm) (hab l l1)
        · exact absurd (w.trans z.symm) (hab l l1)
        · rw [z1, w1]
      · obtain ⟨d1, d2, d3, d4⟩ := hF l m l1 m1 e l2 m2
        rcases l3 with ⟨z, z1⟩ | ⟨z, z1⟩ <;> rcases m3 with ⟨w, w1⟩ | ⟨w, w1⟩
        · exact absurd (z.trans w.symm) d1
        · exact absurd (z.trans w.symm) d2
        · exact absurd (z.trans w.symm) d3
        · exact absurd (z.trans w.symm) d4
/-- what a person knows after calls that are all made at once -/
def aft (a b : Nat → Nat) (fw S : Nat → Bool) (k : Nat → Nat) : Nat → Nat → Nat
  | 0, p => k p
  | n + 1, p => (aft a b fw S k n p ||| (if S n = true ∧ b n = p then k (a n) else 0)) ||| (if S n = true ∧ fw n = false ∧ a n = p then k (b n) else 0)
theorem aft_ne {S : Nat → Bool} {k : Nat → Nat} {p : Nat} : ∀ n : Nat, (∀ l, l < n → S l = true → a l ≠ p ∧ b l ≠ p) → aft a b fw S k n p = k p := by
  intro n
  induction n with
  | zero => intro _; rfl
  | succ n ih =>
    intro h
    show (aft a b fw S k n p ||| _) ||| _ = _
    rw [ih (fun l hl => h l (by omega)), if_neg (fun z => (h n (by omega) z.1).2 z.2), if_neg (fun z => (h n (by omega) z.1).1 z.2.2), Nat.or_zero, Nat.or_zero]
theorem aft_lt {S : Nat → Bool} {k : Nat → Nat} {m : Nat} (hk : ∀ p, p < np → k p < 2 ^ m) (hE : ∀ l, l < nl → a l < np ∧ b l < np) : ∀ n : Nat, n ≤ nl → ∀ p, p < np → aft a b fw S k n p < 2 ^ m := by
  intro n
  induction n with
  | zero => intro _ p hp; exact hk p hp
  | succ n ih =>
    intro hn p hp
    obtain ⟨e1, e2⟩ := hE n (by omega)
    have h0 : 0 < 2 ^ m := Nat.two_pow_pos m
    refine Nat.or_lt_two_pow (Nat.or_lt_two_pow (ih (by omega) p hp) ?_) ?_
    · by_cases z : S n = true ∧ b n = p
      · rw [if_pos z]; exact hk _ e1
      · rw [if_neg z]; exact h0
    · by_cases z : S n = true ∧ fw n = false ∧ a n = p
      · rw [if_pos z]; exact hk _ e2
      · rw [if_neg z]; exact h0
theorem nIor {x y : Nat} (hx : x < 2 ^ 31) (hy : y < 2 ^ 31) : nI x ||| nI y = nI (x ||| y) := by
  have := Nat.or_lt_two_pow hx hy
  refine ib_ext (fun i hi => ?_)
  rw [ib_or, ib_N (by omega), ib_N (by omega), ib_N (by omega), Nat.testBit_or]
theorem calls2 {S : Nat → Bool} {x : Int32} {k : Nat → Nat} (hE : hLn np nl a b c fw fi se co ow) (hS : hB nl S x) (hF : ∀ l m, l < nl → m < nl → l ≠ m → S l = true → S m = true → a l ≠ a m ∧ a l ≠ b m ∧ b l ≠ a m ∧ b l ≠ b m) (hk : ∀ p, p < np → k p < 2 ^ np) : ∀ (f l : Nat) (pcs : Nat → Int32), l ≤ nl → nl - l < f → (∀ p, p < np → pcs p = nI (aft a b fw S k l p)) → tG (hK np (aft a b fw S k nl)) (fX1_makeCalls_b2 (nI nl) fi se ow x f (nI l) pcs) := by
  obtain ⟨hnp, hnl, hE⟩ := hE
  have pw : 2 ^ np ≤ 128 := Nat.le_trans (Nat.pow_le_pow_right (by decide) hnp) (by decide)
  have hlt := aft_lt (a := a) (b := b) (fw := fw) (S := S) (k := k) (np := np) (nl := nl) (m := np) hk (fun l hl => ⟨(hE l hl).1, (hE l hl).2.1⟩)
  intro f
  induction f with
  | zero => intro l y h1 h2; omega
  | succ f ih =>
    intro l pcs h1 h2 h3
    rw [fX1_makeCalls_b2_s]
    rcases Nat.lt_or_ge l nl with d | d
    · obtain ⟨e1, e2, e3, e4, e5, e6, e7, e8⟩ := hE l d
      rw [if_neg (nI_ge d (by omega)), hB_in hS d (by omega), nI_1]
      have nx : ∀ p, aft a b fw S k (l + 1) p = (aft a b fw S k l p ||| (if S l = true ∧ b l = p then k (a l) else 0)) ||| (if S l = true ∧ fw l = false ∧ a l = p then k (b l) else 0) := fun p => rfl
      cases hs : S l with
      | false =>
        rw [ifF, if_pos rfl]
        refine ih (l + 1) pcs (by omega) (by omega) (fun p hp => ?_)
        rw [nx p, hs, if_neg (fun z => absurd z.1 (by decide)), if_neg (fun z => absurd z.1 (by decide)), Nat.or_zero, Nat.or_zero]
        exact h3 p hp
      | true =>
        have fa : aft a b fw S k l (a l) = k (a l) := aft_ne l (fun m hm hsm => by
          have := hF m l (by omega) d (by omega) hsm hs
          exact ⟨this.1, this.2.2.1⟩)
        have fb : aft a b fw S k l (b l) = k (b l) := aft_ne l (fun m hm hsm => by
          have := hF m l (by omega) d (by omega) hsm hs
          exact ⟨this.2.1, this.2.2.2⟩)
        have ka := hk _ e1
        have kb := hk _ e2
        rw [if_pos rfl, if_neg one0]
        refine tgD (vkn (by omega) (by decide)) ?_
        rw [nI_clamp (by omega), e5, e6]
        refine tgD (vkn (by omega) (by decide)) (tgD (vkn (by omega) (by decide)) (tgN (fun w9 hw9 => ?_)))
        rw [nI_clamp (by omega), nI_clamp (by omega), h3 _ e1, h3 _ e2, fa, fb, nIor (by omega) (by omega)] at hw9
        rw [nI_clamp (by omega), nI_clamp (by omega)]
        refine tgI (fun z => ?_) (fun z => ?_)
        · have hf := (ow0 e8).mp z
          refine ih (l + 1) _ (by omega) (by omega) (fun p hp => ?_)
          rw [nx p, hs, hf]
          by_cases q : p = a l
          · subst q
            rw [pk_us, hw9, if_neg (fun z => e3 z.2.symm), if_pos ⟨rfl, rfl, rfl⟩, Nat.or_zero, fa]
          · rw [pk_un q]
            by_cases q2 : p = b l
            · subst q2
              rw [pk_us, hw9, if_pos ⟨rfl, rfl⟩, if_neg (fun z => q z.2.2.symm), Nat.or_zero, fb, Nat.or_comm]
            · rw [pk_un q2, if_neg (fun z => q2 z.2.symm), if_neg (fun z => q z.2.2.symm), Nat.or_zero, Nat.or_zero]
              exact h3 p hp
        · have hf : fw l = true := by
            cases hq : fw l with
            | true => rfl
            | false => exact absurd ((ow0 e8).mpr hq) z
          refine ih (l + 1) _ (by omega) (by omega) (fun p hp => ?_)
          rw [nx p, hs, hf, if_neg (c := true = true ∧ true = false ∧ a l = p) (fun z => absurd z.2.1 (by decide)), Nat.or_zero]
          by_cases q2 : p = b l
          · subst q2
            rw [pk_us, hw9, if_pos ⟨rfl, rfl⟩, fb, Nat.or_comm]
          · rw [pk_un q2, if_neg (fun z => q2 z.2.symm), Nat.or_zero]
            exact h3 p hp
    · have e : l = nl := by omega
      subst e
      rw [if_pos (nI_le (Nat.le_refl _) (by omega))]
      exact tgS (fun p hp => ⟨hlt l (Nat.le_refl _) p hp, h3 p hp⟩)
theorem callsV {S : Nat → Bool} {x : Int32} {k : Nat → Nat} {pcs : Nat → Int32} (hE : hLn np nl a b c fw fi se co ow) (hS : hB nl S x) (hF : ∀ l m, l < nl → m < nl → l ≠ m → S l = true → S m = true → a l ≠ a m ∧ a l ≠ b m ∧ b l ≠ a m ∧ b l ≠ b m) (hk : hK np k pcs) : tG (hK np (aft a b fw S k nl)) (fX1_makeCalls (nI nl) fi se ow pcs x) := by
  unfold fX1_makeCalls
  exact calls2 hE hS hF (fun p hp => (hk p hp).1) FU 0 pcs (Nat.zero_le _) (by have := FUge; have := hE.2.1; omega) (fun p hp => (hk p hp).2)
/-- who knows a piece after the calls of these lines, all made at once -/
def spr (a b : Nat → Nat) (fw U K : Nat → Bool) : Nat → Nat → Bool
  | 0, p => K p
  | n + 1, p => spr a b fw U K n p || (U n && ((K (a n) && decide (p = b n)) || (K (b n) && !fw n && decide (p = a n))))
theorem spread5 {U K : Nat → Bool} {x kx : Int32} (hE : hLn np nl a b c fw fi se co ow) (hU : hB nl U x) (hK : hB np K kx) : ∀ (f l : Nat) (y : Int32), l ≤ nl → nl - l < f → hB np (spr a b fw U K l) y → tG (hB np (spr a b fw U K nl)) (fX1_spread_b5 (nI nl) fi se ow kx x f y (nI l)) := by
  obtain ⟨hnp, hnl, hE⟩ := hE
  intro f
  induction f with
  | zero => intro l y h1 h2; omega
  | succ f ih =>
    intro l y h1 h2 h3
    rw [fX1_spread_b5_s]
    rcases Nat.lt_or_ge l nl with d | d
    · obtain ⟨e1, e2, e3, e4, e5, e6, e7, e8⟩ := hE l d
      rw [if_neg (nI_ge d (by omega)), hB_in hU d (by omega), nI_clamp (by omega), e5, e6, hB_in hK e1 (by omega)]
      -- the other way
      have two : ∀ y : Int32, hB np (fun p => spr a b fw U K l p || (U l && (K (a l) && decide (p = b l)))) y → tG (hB np (spr a b fw U K nl)) (fX1_spread_b49 fi se ow kx x (fX1_spread_b5 (nI nl) fi se ow kx x f) y (nI l)) := fun y hy => by
        unfold fX1_spread_b49
        rw [hB_in hU d (by omega), nI_clamp (by omega), e5, e6, hB_in hK e2 (by omega), nI_1]
        have same : (U l && (K (b l) && !fw l)) = false → tG (hB np (spr a b fw U K nl)) (fX1_spread_b5 (nI nl) fi se ow kx x f y (nI (l + 1))) := fun z => ih (l + 1) y (by omega) (by omega) (hB_congr hy (fun p _ => by
          show _ = (spr a b fw U K l p || (U l && ((K (a l) && decide (p = b l)) || (K (b l) && !fw l && decide (p = a l)))))
          revert z
          cases U l <;> cases K (b l) <;> cases fw l <;> simp))
        cases hu : U l with
        | false =>
          rw [ifF, if_pos rfl]
          exact same (by rw [hu]; rfl)
        | true =>
          rw [if_pos rfl, if_neg one0]
          refine tgD (vkn (by omega) (by decide)) ?_
          cases hkb : K (b l) with
          | false =>
            rw [ifF, if_pos rfl]
            exact same (by rw [hkb, Bool.false_and, Bool.and_false])
          | true =>
            rw [if_pos rfl, if_neg one0]
            refine tgI (fun z => tgN (fun w hw => ?_)) (fun z => ?_)
            · have hf := (ow0 e8).mp z
              rw [hw]
              refine ih (l + 1) _ (by omega) (by omega) (hB_congr (hB_or1 hy e1 (by omega)) (fun p _ => ?_))
              show _ = (spr a b fw U K l p || (U l && ((K (a l) && decide (p = b l)) || (K (b l) && !fw l && decide (p = a l)))))
              rw [hu, hkb, hf]
              simp [Bool.or_assoc]
            · have hf : fw l = true := by
                cases hq : fw l with
                | true => rfl
                | false => exact absurd ((ow0 e8).mpr hq) z
              exact same (by rw [hf]; simp)
      cases hu : U l with
      | false =>
        rw [ifF, if_pos rfl]
        exact two y (hB_congr h3 (fun p _ => by rw [hu, Bool.false_and, Bool.or_false]))
      | true =>
        rw [if_pos rfl, if_neg one0]
        refine tgD (vkn (by omega) (by decide)) ?_
        cases hka : K (a l) with
        | false =>
          rw [ifF, if_pos rfl]
          exact two y (hB_congr h3 (fun p _ => by rw [hka, Bool.false_and, Bool.and_false, Bool.or_false]))
        | true =>
          rw [if_pos rfl, if_neg one0]
          refine tgN (fun w hw => ?_)
          rw [hw]
          exact two _ (hB_congr (hB_or1 h3 e2 (by omega)) (fun p _ => by rw [hu, hka, Bool.true_and, Bool.true_and]))
    · have e : l = nl := by omega
      subst e
      rw [if_pos (nI_le (Nat.le_refl _) (by omega))]
      exact tgS h3
theorem spreadV {U K : Nat → Bool} {x kx : Int32} (hE : hLn np nl a b c fw fi se co ow) (hU : hB nl U x) (hK : hB np K kx) : tG (hB np (spr a b fw U K nl)) (fX1_spread (nI nl) fi se ow kx x) := by
  unfold fX1_spread
  exact spread5 hE hU hK FU 0 kx (Nat.zero_le _) (by have := FUge; have := hE.2.1; omega) hK
/-- who is reached by so many rows of calls -/
def rch (nl : Nat) (a b : Nat → Nat) (fw U K : Nat → Bool) : Nat → Nat → Bool
  | 0, p => K p
  | m + 1, p => spr a b fw U (rch nl a b fw U K m) nl p
theorem spr_congr {U K L : Nat → Bool} (hE : ∀ l, l < nl → a l < np ∧ b l < np) (h : ∀ p, p < np → K p = L p) : ∀ n : Nat, n ≤ nl → ∀ p, p < np → spr a b fw U K n p = spr a b fw U L n p := by
  intro n
  induction n with
  | zero => intro _ p hp; exact h p hp
  | succ n ih =>
    intro hn p hp
    obtain ⟨e1, e2⟩ := hE n (by omega)
    show (spr a b fw U K n p || _) = (spr a b fw U L n p || _)
    rw [ih (by omega) p hp, h _ e1, h _ e2]
theorem rch_fix {U K : Nat → Bool} {m : Nat} (hE : ∀ l, l < nl → a l < np ∧ b l < np) (h : ∀ p, p < np → rch nl a b fw U K (m + 1) p = rch nl a b fw U K m p) : ∀ d p, p < np → rch nl a b fw U K (m + d) p = rch nl a b fw U K m p := by
  intro d
  induction d with
  | zero => intro p _; rfl
  | succ d ih =>
    intro p hp
    show spr a b fw U (rch nl a b fw U K (m + d)) nl p = _
    rw [spr_congr (np := np) hE (fun q hq => ih q hq) nl (Nat.le_refl _) p hp]
    exact h p hp
theorem reach5 {U K : Nat → Bool} {x : Int32} (hE : hLn np nl a b c fw fi se co ow) (hU : hB nl U x) : ∀ (f m : Nat) (y : Int32), 1 ≤ m → m ≤ np → np - m < f → hB np (rch nl a b fw U K (m - 1)) y → tG (hB np (rch nl a b fw U K (np - 1))) (fX1_reached_b5 (nI np) (nI nl) fi se ow x f y (nI m)) := by
  have hE2 : ∀ l, l < nl → a l < np ∧ b l < np := fun l hl => ⟨(hE.2.2 l hl).1, (hE.2.2 l hl).2.1⟩
  have hnp := hE.1
  intro f
  induction f with
  | zero => intro m y h0 h1 h2; omega
  | succ f ih =>
    intro m y h0 h1 h2 h3
    rw [fX1_reached_b5_s]
    rcases Nat.lt_or_ge m np with d | d
    · rw [if_neg (nI_ge d (by omega)), nI_1]
      refine tgC (spreadV hE hU h3) (fun u hu => ?_)
      have hm : m = (m - 1) + 1 := by omega
      refine tgI (fun z => tgS ?_) (fun z => ?_)
      · have key : ∀ p, p < np → rch nl a b fw U K (m - 1 + 1) p = rch nl a b fw U K (m - 1) p := fun p hp => by
          have q1 := hu p (by omega)
          have q2 := h3 p (by omega)
          rw [z, q2, decide_eq_true hp, Bool.true_and, Bool.true_and] at q1
          exact q1.symm
        have := rch_fix (np := np) hE2 key (np - 1 - (m - 1))
        rw [show m - 1 + (np - 1 - (m - 1)) = np - 1 by omega] at this
        exact hB_congr h3 (fun p hp => (this p hp).symm)
      · refine ih (m + 1) u (by omega) (by omega) (by omega) ?_
        rw [show m + 1 - 1 = (m - 1) + 1 by omega]
        exact hu
    · have e : m = np := by omega
      subst e
      rw [if_pos (nI_le (Nat.le_refl _) (by omega))]
      exact tgS h3
theorem reachV {U K : Nat → Bool} {x kx : Int32} (h2 : 2 ≤ np) (hE : hLn np nl a b c fw fi se co ow) (hU : hB nl U x) (hK : hB np K kx) : tG (hB np (rch nl a b fw U K (np - 1))) (fX1_reached (nI np) (nI nl) fi se ow kx x) := by
  unfold fX1_reached
  exact reach5 hE hU FU 1 kx (Nat.le_refl _) (by omega) (by have := FUge; have := hE.1; omega) hK
end
