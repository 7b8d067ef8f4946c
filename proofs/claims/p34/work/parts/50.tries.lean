/-! the law's best set: the worthiest of all free sets, found by trying each -/
section
variable {np nl nb na : Nat} {a b c g : Nat → Nat} {fw cut us : Nat → Bool} {f0 f1 f2 f3 f4 f5 : Nat → Int32} {wb fb ub wa fa ua : Nat → Nat} {vb vw : Nat → Nat → Int32}
/-- the best set until now -/
def isSt (nl : Nat) (c g : Nat → Nat) (o : Option (Nat → Bool)) (bs bg bc : Int32) : Prop := match o with
  | none => bg = -1
  | some T => bs = nI (sbit T nl) ∧ bg = nI (nsum T g nl) ∧ bc = nI (nsum T c nl)
theorem key3 {S : Nat → Bool} : swm S (wln g c) nl = 1099511627776 * (nsum S g nl : Int) - 16777216 * (nsum S c nl : Int) - (sbit S nl : Int) := by
  have := swm_lin (S := S) (g := fun l => ((g l : Nat) : Int)) (c := fun l => ((c l : Nat) : Int)) (v := fun l => ((2 ^ l : Nat) : Int)) (w := wln g c) (A := 1099511627776) (B := 16777216) nl (fun l _ => by
    show (g l : Int) * 1099511627776 - (c l : Int) * 16777216 - ((2 ^ l : Nat) : Int) = 1099511627776 * (g l : Int) - 16777216 * (c l : Int) - ((2 ^ l : Nat) : Int)
    omega)
  rw [this, ← nsum_swm, ← nsum_swm, sbit_swm]
theorem key3b (hnl : nl ≤ 8) (hg : ∀ l, l < nl → g l < 20) (hc : ∀ l, l < nl → c l < 1000) (S : Nat → Bool) : nsum S g nl ≤ 160 ∧ nsum S c nl ≤ 8000 ∧ sbit S nl < 256 := by
  have b1 := swm_bd (S := S) (w := fun l => ((g l : Nat) : Int)) (M := 20) (by decide) nl (fun l hl => by have := hg l hl; omega)
  have b2 := swm_bd (S := S) (w := fun l => ((c l : Nat) : Int)) (M := 1000) (by decide) nl (fun l hl => by have := hc l hl; omega)
  rw [← nsum_swm] at b1 b2
  have b3 := sbit_lt (S := S) nl
  have b4 : 2 ^ nl ≤ 256 := Nat.le_trans (Nat.pow_le_pow_right (by decide) hnl) (by decide)
  omega
theorem and2 {B : Nat → Bool} {x : Int32} {p q : Nat} (hB : hB np B x) (hp : p < np) (hq : q < np) (hn : np ≤ 31) : (x &&& (((1 : Int32) <<< (nI p &&& 31)) ||| ((1 : Int32) <<< (nI q &&& 31)))) = 0 ↔ (B p = false ∧ B q = false) := by
  have key : ∀ i, i < 32 → xb (x &&& (((1 : Int32) <<< (nI p &&& 31)) ||| ((1 : Int32) <<< (nI q &&& 31)))) i = ((decide (i < np) && B i) && (decide (i = p) || decide (i = q))) := fun i hi => by
    rw [ib_and, ib_or, ib_one p (by omega) i hi, ib_one q (by omega) i hi, hB i hi]
  constructor
  · intro h
    have h1 := key p (by omega)
    have h2 := key q (by omega)
    rw [h, ib_0, decide_eq_true hp, decide_eq_true (rfl : p = p), Bool.true_or, Bool.and_true, Bool.true_and] at h1
    rw [h, ib_0, decide_eq_true hq, decide_eq_true (rfl : q = q), Bool.or_true, Bool.and_true, Bool.true_and] at h2
    exact ⟨h1.symm, h2.symm⟩
  · intro h
    refine ib_ext (fun i hi => ?_)
    rw [key i hi, ib_0]
    by_cases e1 : i = p
    · subst e1
      rw [h.1, Bool.and_false, Bool.false_and]
    · by_cases e2 : i = q
      · subst e2
        rw [h.2, Bool.and_false, Bool.false_and]
      · rw [decide_eq_false e1, decide_eq_false e2, Bool.or_false, Bool.and_false]
theorem psn_add {S : Nat → Bool} {l p : Nat} (hl : l < nl) (hs : S l = false) : psn a b (sadd S l) nl p = (psn a b S nl p || (decide (p = a l) || decide (p = b l))) := by
  rw [Bool.eq_iff_iff, psn_iff, Bool.or_eq_true, Bool.or_eq_true, decide_eq_true_iff, decide_eq_true_iff, psn_iff]
  constructor
  · rintro ⟨m, m1, m2, m3⟩
    by_cases e : m = l
    · rw [e] at m3
      exact Or.inr m3
    · rw [sadd_ne e] at m2
      exact Or.inl ⟨m, m1, m2, m3⟩
  · rintro (⟨m, m1, m2, m3⟩ | h)
    · refine ⟨m, m1, ?_, m3⟩
      by_cases e : m = l
      · rw [e] at m2
        rw [hs] at m2
        exact absurd m2 (by decide)
      · rw [sadd_ne e]; exact m2
    · exact ⟨l, hl, sadd_eq, h⟩
/-- what a part of the trying leaves -/
def triesQ (nl : Nat) (a b c g : Nat → Nat) (us S0 : Nat → Bool) (l : Nat) (o o' : Option (Nat → Bool)) : Prop := (o' = o ∨ ∃ T, o' = some T ∧ sfree nl a b us T) ∧ (∀ T0, o = some T0 → ∃ T', o' = some T' ∧ swm T0 (wln g c) nl ≤ swm T' (wln g c) nl) ∧ ∀ T, sfree nl a b us T → (∀ m, m < l → T m = S0 m) → ∃ T', o' = some T' ∧ swm T (wln g c) nl ≤ swm T' (wln g c) nl
theorem tries_ok {k : Nat → Nat} {row : Nat → Int32} {pe ro ca : Int32} {round : Nat} (hg : g = gn a b fw k) (hu : ∀ l, l < nl → us l = usb nb na wb fb ub wa fa ua a b cut round l) (hE : hLn np nl a b c fw f0 f1 f2 f3) (hk : hK np k row) (hr : round < 20000) (hc : hFl nl cut f4) (hb : hRw nb nl wb fb ub vb) (ha : hRw na np wa fa ua vw) : ∀ (n l : Nat) (S0 : Nat → Bool) (x2 x3 bs bg bc : Int32) (o : Option (Nat → Bool)), l ≤ nl → nl - l < n → (∀ m, S0 m = true → m < l) → sfree nl a b us S0 → hB nl S0 x2 → hB np (psn a b S0 nl) x3 → isSt nl c g o bs bg bc → tG (fun r => ∃ o', isSt nl c g o' r.1 r.2.1 r.2.2 ∧ triesQ nl a b c g us S0 l o o') (fX12_tries nl nb na np pe (nI nl) ro ca f0 f1 f2 f3 f4 f5 vb vw row n (nI l) x2 x3 (nI round) bs bg bc) := by
  have hnl := hE.2.1
  have hnp := hE.1
  have hGl := gainLine hE hk
  have hgb : ∀ l, l < nl → g l < 20 := fun l hl => by rw [hg]; exact (hGl l hl).1
  have hcb : ∀ l, l < nl → c l < 1000 := fun l hl => (hE.2.2 l hl).2.2.2.1
  intro n
  induction n with
  | zero => intro l S0 x2 x3 bs bg bc o h1 h2; omega
  | succ n ih =>
    intro l S0 x2 x3 bs bg bc o h1 h2 h3 h4 h5 h6 h7
    rw [fX12_tries_s]
    rcases Nat.lt_or_ge l nl with d | d
    · obtain ⟨e1, e2, e3, e4, e5, e6, e7, e8⟩ := hE.2.2 l d
      have hs0 : S0 l = false := by
        cases q : S0 l with
        | false => rfl
        | true => have := h3 l q; omega
      rw [if_neg (fun z => by have := (nI_eq (by omega) (by omega)).mp z; omega), nI_1]
      refine tgC (ih (l + 1) S0 x2 x3 bs bg bc o (by omega) (by omega) (fun m hm => by have := h3 m hm; omega) h4 h5 h6 h7) (fun u2 hu2 => ?_)
      obtain ⟨o1, p1, p2, p3, p4⟩ := hu2
      refine tgD (vkn d (by omega)) (tgN (fun w6 hw6 => ?_))
      rw [nI_clamp (by omega), e5, e6] at hw6
      -- nothing more is tried: no free set has this line
      have stop : (∀ T, sfree nl a b us T → (∀ m, m < l → T m = S0 m) → T l = false) → tG (fun r => ∃ o', isSt nl c g o' r.1 r.2.1 r.2.2 ∧ triesQ nl a b c g us S0 l o o') (some (u2.1, u2.2.1, u2.2.2)) := fun hno => by
        refine tgS ⟨o1, p1, p2, p3, fun T hT hm => p4 T hT (fun m hm2 => ?_)⟩
        by_cases e : m = l
        · rw [e, hno T hT hm, hs0]
        · exact hm m (by omega)
      rw [hw6]
      refine tgI (fun z => ?_) (fun z => ?_)
      · have hbz := (and2 h6 e1 e2 (by omega)).mp z
        rw [wUsable hE d hr hc hb ha, obs]
        cases hul : usb nb na wb fb ub wa fa ua a b cut round l with
        | false =>
          rw [ifF, if_pos rfl]
          refine stop (fun T hT _ => ?_)
          cases q : T l with
          | false => rfl
          | true =>
            have := hT.1 l d q
            rw [hu l d, hul] at this
            exact absurd this (by decide)
        | true =>
          rw [if_pos rfl, if_neg one0]
          have ha0 : ∀ m, m < nl → S0 m = true → a m ≠ a l ∧ b m ≠ a l ∧ a m ≠ b l ∧ b m ≠ b l := fun m hm hs => by
            refine ⟨fun q => ?_, fun q => ?_, fun q => ?_, fun q => ?_⟩
            · have := (psn_iff (a := a) (b := b) (S := S0) (p := a l) nl).mpr ⟨m, hm, hs, Or.inl q.symm⟩
              rw [hbz.1] at this
              exact absurd this (by decide)
            · have := (psn_iff (a := a) (b := b) (S := S0) (p := a l) nl).mpr ⟨m, hm, hs, Or.inr q.symm⟩
              rw [hbz.1] at this
              exact absurd this (by decide)
            · have := (psn_iff (a := a) (b := b) (S := S0) (p := b l) nl).mpr ⟨m, hm, hs, Or.inl q.symm⟩
              rw [hbz.2] at this
              exact absurd this (by decide)
            · have := (psn_iff (a := a) (b := b) (S := S0) (p := b l) nl).mpr ⟨m, hm, hs, Or.inr q.symm⟩
              rw [hbz.2] at this
              exact absurd this (by decide)
          have hf : sfree nl a b us (sadd S0 l) := by
            refine ⟨fun m hm hs => ?_, fun m q hm hq hne q1 q2 => ?_⟩
            · by_cases e : m = l
              · rw [e, hu l d]; exact hul
              · rw [sadd_ne e] at hs
                exact h4.1 m hm hs
            · by_cases em : m = l
              · have eq : q ≠ l := fun z => hne (em.trans z.symm)
                rw [sadd_ne eq] at q2
                obtain ⟨r1, r2, r3, r4⟩ := ha0 q hq q2
                rw [em]
                exact ⟨fun z => r1 z.symm, fun z => r2 z.symm, fun z => r3 z.symm, fun z => r4 z.symm⟩
              · rw [sadd_ne em] at q1
                by_cases eq : q = l
                · obtain ⟨r1, r2, r3, r4⟩ := ha0 m hm q1
                  rw [eq]
                  exact ⟨r1, r3, r2, r4⟩
                · rw [sadd_ne eq] at q2
                  exact h4.2 m q hm hq hne q1 q2
          refine tgC (ih (l + 1) (sadd S0 l) _ _ u2.1 u2.2.1 u2.2.2 o1 (by omega) (by omega) (fun m hm => ?_) hf (hB_congr (hB_or1 h5 d (by omega)) (fun m _ => ?_)) (fun i hi => ?_) p1) (fun u12 hu12 => ?_)
          · by_cases e : m = l
            · omega
            · rw [sadd_ne e] at hm
              have := h3 m hm
              omega
          · by_cases e : m = l
            · rw [e, sadd_eq, decide_eq_true (rfl : l = l), Bool.or_true]
            · rw [sadd_ne e, decide_eq_false e, Bool.or_false]
          · rw [ib_or, ib_or, ib_one _ (by omega) i hi, ib_one _ (by omega) i hi, h6 i hi, psn_add d hs0]
            by_cases q : i < np
            · rw [decide_eq_true q, Bool.true_and, Bool.true_and]
            · rw [decide_eq_false q, decide_eq_false (show ¬ i = a l by omega), decide_eq_false (show ¬ i = b l by omega)]
              rfl
          · obtain ⟨o2, t1, t2, t3, t4⟩ := hu12
            refine tgS ⟨o2, t1, ?_, fun T0 hT0 => ?_, fun T hT hm => ?_⟩
            · rcases t2 with t2 | t2
              · rw [t2]; exact p2
              · exact Or.inr t2
            · obtain ⟨T', q1, q2⟩ := p3 T0 hT0
              obtain ⟨T2, q3, q4⟩ := t3 T' q1
              exact ⟨T2, q3, by omega⟩
            · cases q : T l with
              | false =>
                obtain ⟨T', q1, q2⟩ := p4 T hT (fun m hm2 => by
                  by_cases e : m = l
                  · rw [e, q, hs0]
                  · exact hm m (by omega))
                obtain ⟨T2, q3, q4⟩ := t3 T' q1
                exact ⟨T2, q3, by omega⟩
              | true =>
                exact t4 T hT (fun m hm2 => by
                  by_cases e : m = l
                  · rw [e, q, sadd_eq]
                  · rw [sadd_ne e]; exact hm m (by omega))
      · refine stop (fun T hT hm => ?_)
        cases q : T l with
        | false => rfl
        | true =>
          exfalso
          apply z
          refine (and2 h6 e1 e2 (by omega)).mpr ⟨?_, ?_⟩
          · cases q2 : psn a b S0 nl (a l) with
            | false => rfl
            | true =>
              obtain ⟨m, m1, m2, m3⟩ := (psn_iff nl).mp q2
              have ml := h3 m m2
              have tm : T m = true := by rw [hm m ml]; exact m2
              obtain ⟨r1, r2, r3, r4⟩ := hT.2 m l m1 d (by omega) tm q
              rcases m3 with m3 | m3
              · exact absurd m3.symm r1
              · exact absurd m3.symm r3
          · cases q2 : psn a b S0 nl (b l) with
            | false => rfl
            | true =>
              obtain ⟨m, m1, m2, m3⟩ := (psn_iff nl).mp q2
              have ml := h3 m m2
              have tm : T m = true := by rw [hm m ml]; exact m2
              obtain ⟨r1, r2, r3, r4⟩ := hT.2 m l m1 d (by omega) tm q
              rcases m3 with m3 | m3
              · exact absurd m3.symm r2
              · exact absurd m3.symm r4
    · have e : l = nl := by omega
      subst e
      have hx2 := hB_is (by omega) h5
      rw [if_pos rfl, wGainOf hE hk h5, obs, wCost hE h5, obs, ← hg]
      obtain ⟨k1, k2, k3⟩ := key3b (g := g) (c := c) hnl hgb hcb S0
      have kS := key3 (nl := l) (c := c) (g := g) (S := S0)
      have same : ∀ T, (∀ m, m < l → T m = S0 m) → swm T (wln g c) l = swm S0 (wln g c) l := fun T hm => swm_congr l hm
      -- it's taken
      have take : (∀ T0, o = some T0 → swm T0 (wln g c) l ≤ swm S0 (wln g c) l) → tG (fun r => ∃ o', isSt l c g o' r.1 r.2.1 r.2.2 ∧ triesQ l a b c g us S0 l o o') (fX12_tries_b69 x2 (nI (nsum S0 g l)) (nI (nsum S0 c l))) := fun ht => by
        unfold fX12_tries_b69
        refine tgS ⟨some S0, ⟨hx2, rfl, rfl⟩, Or.inr ⟨S0, rfl, h4⟩, fun T0 hT0 => ⟨S0, rfl, ht T0 hT0⟩, fun T hT hm => ⟨S0, rfl, by rw [same T hm]; omega⟩⟩
      -- it isn't
      have keep : ∀ T0, o = some T0 → swm S0 (wln g c) l ≤ swm T0 (wln g c) l → tG (fun r => ∃ o', isSt l c g o' r.1 r.2.1 r.2.2 ∧ triesQ l a b c g us S0 l o o') (some (bs, bg, bc)) := fun T0 h0 ht => by
        refine tgS ⟨o, h7, Or.inl rfl, fun T1 hT1 => ⟨T1, hT1, Int.le_refl _⟩, fun T hT hm => ⟨T0, h0, by rw [same T hm]; exact ht⟩⟩
      cases o with
      | none =>
        have h7' : bg = -1 := h7
        rw [h7', if_neg (fun z => by
          rw [Int32.lt_iff_toInt_lt] at z
          have e1 : (nI (nsum S0 g l)).toInt = (nsum S0 g l : Nat) := Int32.toInt_ofNat_of_lt (by omega)
          have e2 : (-1 : Int32).toInt = -1 := rfl
          omega), if_neg (fun z => by
          have e1 : (nI (nsum S0 g l)).toInt = (nsum S0 g l : Nat) := Int32.toInt_ofNat_of_lt (by omega)
          rw [z] at e1
          have e2 : (-1 : Int32).toInt = -1 := rfl
          omega)]
        have := take (fun T0 hT0 => by cases hT0)
        exact this
      | some T0 =>
        obtain ⟨q1, q2, q3⟩ := h7
        obtain ⟨j1, j2, j3⟩ := key3b (g := g) (c := c) hnl hgb hcb T0
        have kT := key3 (nl := l) (c := c) (g := g) (S := T0)
        have tk : swm T0 (wln g c) l ≤ swm S0 (wln g c) l → tG (fun r => ∃ o', isSt l c g o' r.1 r.2.1 r.2.2 ∧ triesQ l a b c g us S0 l (some T0) o') (fX12_tries_b69 x2 (nI (nsum S0 g l)) (nI (nsum S0 c l))) := fun h => take (fun T1 hT1 => by cases hT1; exact h)
        have kp := keep T0 rfl
        rw [q1, q2, q3] at kp ⊢
        rw [hx2] at tk ⊢
        refine tgI (fun z => ?_) (fun z => tgI (fun z1 => tgI (fun z2 => ?_) (fun z2 => tgI (fun z3 => tgI (fun z4 => ?_) (fun z4 => ?_)) (fun z3 => ?_))) (fun z1 => ?_))
        · have := nlt z (by omega) (by omega)
          exact kp (by omega)
        · have y1 := (nI_eq (by omega) (by omega)).mp z1
          have := nlt z2 (by omega) (by omega)
          exact kp (by omega)
        · have y1 := (nI_eq (by omega) (by omega)).mp z1
          have y3 := (nI_eq (by omega) (by omega)).mp z3
          have := nlt z4 (by omega) (by omega)
          exact tk (by omega)
        · have y1 := (nI_eq (by omega) (by omega)).mp z1
          have y3 := (nI_eq (by omega) (by omega)).mp z3
          have := nltn z4 (by omega) (by omega)
          exact kp (by omega)
        · have y1 := (nI_eq (by omega) (by omega)).mp z1
          have y2 := nltn z2 (by omega) (by omega)
          have y3 : ¬ nsum S0 c l = nsum T0 c l := fun q => z3 (by rw [q])
          exact tk (by omega)
        · have y0 := nltn z (by omega) (by omega)
          have y1 : ¬ nsum S0 g l = nsum T0 g l := fun q => z1 (by rw [q])
          exact tk (by omega)
theorem wBest {k : Nat → Nat} {row : Nat → Int32} {pe ro ca bs bc : Int32} {round : Nat} (hE : hLn np nl a b c fw f0 f1 f2 f3) (hk : hK np k row) (hr : round < 20000) (hc : hFl nl cut f4) (hb : hRw nb nl wb fb ub vb) (ha : hRw na np wa fa ua vw) : ∃ r, fX12_best nl nb na np pe (nI nl) ro ca bs bc f0 f1 f2 f3 f4 f5 vb vw row (nI round) = some r ∧ isBest nl a b c (gn a b fw k) (usb nb na wb fb ub wa fa ua a b cut round) (bset nl a b c (gn a b fw k) (usb nb na wb fb ub wa fa ua a b cut round)) ∧ r.1 = nI (sbit (bset nl a b c (gn a b fw k) (usb nb na wb fb ub wa fa ua a b cut round)) nl) ∧ r.2.1 = r.1 ∧ r.2.2.1 = nI (nsum (bset nl a b c (gn a b fw k) (usb nb na wb fb ub wa fa ua a b cut round)) (gn a b fw k) nl) ∧ r.2.2.2 = nI (nsum (bset nl a b c (gn a b fw k) (usb nb na wb fb ub wa fa ua a b cut round)) c nl) := by
  have hnl := hE.2.1
  have hGl := gainLine hE hk
  obtain ⟨u, h1, o, h2, h3, h4, h5⟩ := tries_ok (a := a) (b := b) (c := c) (f5 := f5) (pe := pe) (ro := ro) (ca := ca) (us := usb nb na wb fb ub wa fa ua a b cut round) rfl (fun _ _ => rfl) hE hk hr hc hb ha FT 0 (fun _ => false) 0 0 bs (-1) bc none (Nat.zero_le _) (by unfold FT; omega) (fun m hm => nofalse hm) ⟨fun l _ h => nofalse h, fun l m _ _ _ h => nofalse h⟩ (fun i _ => by rw [ib_0, Bool.and_false]) (fun i _ => by
    rw [ib_0]
    cases q : psn a b (fun _ => false) nl i with
    | false => rw [Bool.and_false]
    | true =>
      obtain ⟨m, _, m2, _⟩ := (psn_iff nl).mp q
      exact absurd m2 (by decide)) rfl
  unfold fX12_best
  obtain ⟨T1, t1, t2⟩ := h5 (fun _ => false) ⟨fun l _ h => nofalse h, fun l m _ _ _ h => nofalse h⟩ (fun m hm => absurd hm (Nat.not_lt_zero m))
  have hT1 : sfree nl a b (usb nb na wb fb ub wa fa ua a b cut round) T1 := by
    rcases h3 with h3 | ⟨T, e1, e2⟩
    · rw [h3] at t1; cases t1
    · rw [e1] at t1; cases t1; exact e2
  have hbT : isBest nl a b c (gn a b fw k) (usb nb na wb fb ub wa fa ua a b cut round) T1 := ⟨hT1, fun T hT => by
    obtain ⟨T2, q1, q2⟩ := h5 T hT (fun m hm => absurd hm (Nat.not_lt_zero m))
    rw [t1] at q1
    cases q1
    exact q2⟩
  have hb2 := bset_of hbT
  obtain ⟨y1, y2, y3⟩ := best_one hnl (fun l hl => (hGl l hl).1) (fun l hl => (hE.2.2 l hl).2.2.2.1) hbT hb2
  rw [t1] at h2
  obtain ⟨z1, z2, z3⟩ := h2
  refine ⟨(u.1, u.1, u.2.1, u.2.2), by rw [(show fX12_tries nl nb na np pe (nI nl) ro ca f0 f1 f2 f3 f4 f5 vb vw row FT 0 0 0 (nI round) bs (-1) bc = some u from h1)]; rfl, hb2, ?_, rfl, ?_, ?_⟩
  · show u.1 = _
    rw [z1, y3]
  · show u.2.1 = _
    rw [z2, y1]
  · show u.2.2 = _
    rw [z3, y2]
end
