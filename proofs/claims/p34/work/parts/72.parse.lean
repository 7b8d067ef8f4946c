/-! a text of statements, taken in -/
def txtL (np nl : Nat) (a b c : Nat → Nat) (fw : Nat → Bool) (nb : Nat) (wb fb ub : Nat → Nat) (na : Nat) (wa fa ua : Nat → Nat) : List Nat := tPeople np ++ (catL (fun l => tLine (a l) (b l) (c l) (fw l)) nl ++ (catL (fun l => tBroken (wb l) (fb l) (ub l)) nb ++ catL (fun l => tAway (wa l) (fa l) (ua l)) na))
/-- what the drawn exchange keeps to -/
def okW (np nl : Nat) (a b c : Nat → Nat) (nb : Nat) (wb fb ub : Nat → Nat) (na : Nat) (wa fa ua : Nat → Nat) : Prop := 2 ≤ np ∧ np ≤ 7 ∧ nl ≤ 8 ∧ nb ≤ 12 ∧ na ≤ 12 ∧ (∀ l, l < nl → a l < np ∧ b l < np ∧ a l ≠ b l ∧ c l ≤ 4) ∧ (∀ l, l < nb → wb l < nl ∧ 1 ≤ fb l ∧ fb l ≤ ub l ∧ ub l ≤ 9) ∧ (∀ l, l < na → wa l < np ∧ 1 ≤ fa l ∧ fa l ≤ ua l ∧ ua l ≤ 9)
section
variable {np nl nb na : Nat} {a b c wb fb ub wa fa ua : Nat → Nat} {fw : Nat → Bool}
theorem readV {n bh : Nat} {T : Nat → Nat} {t : Nat → Int32} {k0 s0 nu0 : Int32} {fi0 se0 cs0 ow0 bw0 bf0 bu0 aw0 af0 au0 : Nat → Int32} (hT : hTx n T t) (hbh : bh ≤ 500) (hnb : n ≤ bh) (hL : tAt T 0 (txtL np nl a b c fw nb wb fb ub na wa fa ua)) (hn : n = (txtL np nl a b c fw nb wb fb ub na wa fa ua).length) (hE : okW np nl a b c nb wb fb ub na wa fa ua) :
    ∃ (k s nu : Int32) (fi se cs ow bw bf bu aw af au : Nat → Int32), fX9_readExchange (nI bh) k0 s0 nu0 t fi0 se0 cs0 ow0 bw0 bf0 bu0 aw0 af0 au0 (nI n) = some (0, 0, 0, -1, nI n, k, s, nI n, nu, nI np, nI nl, fi, se, cs, ow, nI nb, bw, bf, bu, nI na, aw, af, au) ∧ (∀ i, i < nl → fi i = nI (a i) ∧ se i = nI (b i) ∧ cs i = nI (c i) ∧ ow i = if fw i = true then 1 else 0) ∧ (∀ i, i < nb → bw i = nI (wb i) ∧ bf i = nI (fb i) ∧ bu i = nI (ub i)) ∧ (∀ i, i < na → aw i = nI (wa i) ∧ af i = nI (fa i) ∧ au i = nI (ua i)) := by
  obtain ⟨h1, h2, h3, h4, h5, h6, h7, h8⟩ := hE
  obtain ⟨q1, qr⟩ := tAt_app hL
  obtain ⟨q2, qr⟩ := tAt_app qr
  obtain ⟨q3, q4⟩ := tAt_app qr
  have hlen : n = 9 + ((catL (fun l => tLine (a l) (b l) (c l) (fw l)) nl).length + ((catL (fun l => tBroken (wb l) (fb l) (ub l)) nb).length + (catL (fun l => tAway (wa l) (fa l) (ua l)) na).length)) := by
    rw [hn]
    show (tPeople np ++ (_ ++ (_ ++ _))).length = _
    rw [List.length_append, List.length_append, List.length_append]
    rfl
  have e9 : 0 + (tPeople np).length = 9 := rfl
  rw [e9] at q2 q3 q4
  generalize hA : (catL (fun l => tLine (a l) (b l) (c l) (fw l)) nl).length = A1 at hlen q3 q4
  generalize hB : (catL (fun l => tBroken (wb l) (fb l) (ub l)) nb).length = B1 at hlen q4
  generalize hC : (catL (fun l => tAway (wa l) (fa l) (ua l)) na).length = C1 at hlen
  obtain ⟨k1, s1, r1⟩ := rsPeople (co := 0) (wr := -1) (nu := nu0) (pe := 4) (lc := 0) (fi := fi0) (se := se0) (cs := cs0) (ow := ow0) (bc := 0) (bw := bw0) (bf := bf0) (bu := bu0) (ac := 0) (aw := aw0) (af := af0) (au := au0) (e := 0) q1 hT (by omega) h1 (by omega)
  obtain ⟨g, hg⟩ : ∃ g, FU = g + 1 + na + nb + nl + 1 := ⟨FU - (1 + na + nb + nl + 1), by have := FUge; omega⟩
  obtain ⟨k2, s2, nu2, fi, se, cs, ow, p2, r2⟩ := rdLines (bh := 0) (co := 0) (wr := -1) (bc := 0) (bw := bw0) (bf := bf0) (bu := bu0) (ac := 0) (aw := aw0) (af := af0) (au := au0) (nl := nl) hT q2 (by rw [hA]; omega) h2 h3 (fun l hl => ⟨(h6 l hl).1, (h6 l hl).2.1, (h6 l hl).2.2.1, by have := (h6 l hl).2.2.2; omega⟩) nl 0 (by omega) (g + 1 + na + nb) k1 s1 (nI np) fi0 se0 cs0 ow0 (fun i hi => absurd hi (Nat.not_lt_zero _))
  obtain ⟨k3, s3, nu3, bw, bf, bu, p3, r3⟩ := rdBreaks (np := np) (bh := 0) (co := 0) (wr := -1) (fi := fi) (se := se) (cs := cs) (ow := ow) (ac := 0) (aw := aw0) (af := af0) (au := au0) (y0 := 1 + nl) (nb := nb) hT q3 (by rw [hB]; omega) h3 h4 (by omega) (by omega) h7 nb 0 (by omega) (g + 1 + na) k2 s2 nu2 bw0 bf0 bu0 (fun i hi => absurd hi (Nat.not_lt_zero _))
  obtain ⟨k4, s4, nu4, aw, af, au, p4, r4⟩ := rdAways (lc := nI nl) (bh := 0) (co := 0) (wr := -1) (fi := fi) (se := se) (cs := cs) (ow := ow) (bc := nI nb) (bw := bw) (bf := bf) (bu := bu) (y0 := 1 + nl + nb) (na := na) hT q4 (by rw [hC]; omega) h2 h5 (by omega) (by omega) h8 na 0 (by omega) (g + 1) k3 s3 nu3 aw0 af0 au0 (fun i hi => absurd hi (Nat.not_lt_zero _))
  have z0 : ∀ f : Nat → List Nat, (catL f 0).length = 0 := fun _ => rfl
  rw [z0, hA, Nat.add_zero, Nat.add_zero] at r2
  rw [z0, hB, Nat.add_zero, Nat.add_zero] at r3
  rw [z0, hC, Nat.add_zero, Nat.add_zero] at r4
  refine ⟨0, nI n, nu4, fi, se, cs, ow, bw, bf, bu, aw, af, au, ?_, p2, p3, p4⟩
  unfold fX9_readExchange
  show fX9_readExchange_b41 t FU 0 0 0 (-1) (if nI bh < nI n then nI bh else nI n) k0 s0 0 nu0 4 0 fi0 se0 cs0 ow0 0 bw0 bf0 bu0 0 aw0 af0 au0 = _
  rw [if_neg (nI_nlt hnb (by omega)), hg]
  refine (ex41 (y := 0) (e := 0) (by decide) (ws0 (e := 0) q1 hT (by omega)).1 (by rw [if_pos rfl]; exact r1)).trans ?_
  refine r2.trans ?_
  refine r3.trans ?_
  refine r4.trans ?_
  have en : 9 + A1 + B1 + C1 = n := by omega
  rw [en, fX9_readExchange_b41_s, if_neg (show ¬ (500 : Int32) ≤ nI (1 + nl + nb + na) from nI_ge (b := 500) (by omega) (by decide)), tokE hT.1, obs]
  rfl
theorem begin7 (hnp : np ≤ 7) : ∀ d y, y + d = 10 → ∀ (f : Nat) (pcs : Nat → Int32), (∀ p, p < y → p < np → pcs p = nI (2 ^ p)) → ∃ u : Nat → Int32, fX3_begin_b7 (nI np) (f + 1 + d) (nI y) (nI np) pcs = some (nI np, u) ∧ ∀ p, p < np → u p = nI (2 ^ p) := by
  intro d
  induction d with
  | zero =>
    intro y h f pcs hp
    have e : y = 10 := by omega
    subst e
    refine ⟨pcs, ?_, fun p hpn => hp p (by omega) hpn⟩
    rw [Nat.add_zero, fX3_begin_b7_s, if_pos (show (10 : Int32) ≤ nI 10 by decide)]
  | succ d ih =>
    intro y h f pcs hp
    rw [← Nat.add_assoc, fX3_begin_b7_s, if_neg (show ¬ (10 : Int32) ≤ nI y from nI_ge (b := 10) (by omega) (by decide))]
    by_cases c1 : np ≤ y
    · rw [if_pos (nI_le c1 (by omega))]
      unfold fX3_begin_b30
      rw [gdI (vkn (by omega) (by decide)), nI_clamp (by omega), nI_1]
      exact ih (y + 1) (by omega) f _ (fun p hy hpn => by rw [pk_un (by omega)]; exact hp p (by omega) hpn)
    · rw [if_neg (nI_ge (by omega) (by omega))]
      unfold fX3_begin_b30
      rw [gdI (vkn (by omega) (by decide)), nI_clamp (by omega), nI_1, tshl (by omega)]
      exact ih (y + 1) (by omega) f _ (fun p hy hpn => by
        by_cases c2 : p = y
        · rw [c2, pk_us]
        · rw [pk_un c2]
          exact hp p (by omega) hpn)
theorem anewV {pcs fl : Nat → Int32} (hnp : np ≤ 7) : ∃ (u fl2 : Nat → Int32), fX10_startAnew (nI np) pcs fl = some (0, 0, 0, 0, none, nI np, u, 0, fl2) ∧ ∀ p, p < np → u p = nI (2 ^ p) := by
  obtain ⟨g, hg⟩ : ∃ g, FU = g + 1 + 10 := ⟨FU - 11, by have := FUge; omega⟩
  obtain ⟨u, hu, hp⟩ := begin7 hnp 10 0 rfl g pcs (fun p h => absurd h (Nat.not_lt_zero _))
  refine ⟨u, upd (upd fl 0 (vp_nar .boolean 0)) 1 (vp_nar .boolean 0), ?_, hp⟩
  unfold fX10_startAnew fX7_begin fX3_begin
  rw [hg, show (0 : Int32) = nI 0 from rfl, hu, obs, obs]
  show fX10_startAnew_b23 (g + 8 + 1 + 1 + 1) 0 0 0 0 0 none (nI np) u 0 fl = _
  rw [fX10_startAnew_b23_s, if_neg (show ¬ (2 : Int32) ≤ 0 by decide), gdI (show vp_in 0 2 by unfold vp_in; decide), fX10_startAnew_b23_s, if_neg (show ¬ (2 : Int32) ≤ 0 + 1 by decide), gdI (show vp_in (0 + 1) 2 by unfold vp_in; decide), fX10_startAnew_b23_s, if_pos (show (2 : Int32) ≤ 0 + 1 + 1 by decide)]
  rfl
theorem parseV {n bh : Nat} {T : Nat → Nat} {t pcs fl : Nat → Int32} {k0 s0 nu0 : Int32} {fi0 se0 cs0 ow0 bw0 bf0 bu0 aw0 af0 au0 : Nat → Int32} (hT : hTx n T t) (hbh : bh ≤ 500) (hnb : n ≤ bh) (hL : tAt T 0 (txtL np nl a b c fw nb wb fb ub na wa fa ua)) (hn : n = (txtL np nl a b c fw nb wb fb ub na wa fa ua).length) (hE : okW np nl a b c nb wb fb ub na wa fa ua) :
    ∃ (k s nu : Int32) (fi se cs ow bw bf bu aw af au u fl2 : Nat → Int32), fX10_parse_ok (nI bh) k0 s0 nu0 t fi0 se0 cs0 ow0 bw0 bf0 bu0 aw0 af0 au0 pcs fl (nI n) = some (0, 0, 0, -1, nI n, k, s, nI n, nu, nI np, nI nl, fi, se, cs, ow, nI nb, bw, bf, bu, nI na, aw, af, au, 0, 0, 0, 0, none, nI np, u, 0, fl2) ∧ hLn np nl a b c fw fi se cs ow ∧ hSp nb nl wb fb ub bw bf bu ∧ hSp na np wa fa ua aw af au ∧ hK np (fun p => 2 ^ p) u := by
  obtain ⟨k, s, nu, fi, se, cs, ow, bw, bf, bu, aw, af, au, r, p1, p2, p3⟩ := readV (k0 := k0) (s0 := s0) (nu0 := nu0) (fi0 := fi0) (se0 := se0) (cs0 := cs0) (ow0 := ow0) (bw0 := bw0) (bf0 := bf0) (bu0 := bu0) (aw0 := aw0) (af0 := af0) (au0 := au0) hT hbh hnb hL hn hE
  obtain ⟨h1, h2, h3, h4, h5, h6, h7, h8⟩ := hE
  obtain ⟨u, fl2, r2, p4⟩ := anewV (pcs := pcs) (fl := fl) h2
  refine ⟨k, s, nu, fi, se, cs, ow, bw, bf, bu, aw, af, au, u, fl2, ?_, ⟨h2, h3, fun l hl => ?_⟩, ⟨h4, fun j hj => ?_⟩, ⟨h5, fun j hj => ?_⟩, fun p hp => ⟨Nat.pow_lt_pow_right (by decide) hp, p4 p hp⟩⟩
  · unfold fX10_parse_ok
    rw [if_neg (show ¬ nI n < 0 from nI_pos (by omega)), if_pos (nI_le hnb (by omega)), r, obs, if_pos rfl]
    dsimp only
    rw [r2, obs]
  · obtain ⟨g1, g2, g3, g4⟩ := h6 l hl
    obtain ⟨e1, e2, e3, e4⟩ := p1 l hl
    exact ⟨g1, g2, g3, by omega, e1, e2, e3, e4⟩
  · obtain ⟨g1, g2, g3, g4⟩ := h7 j hj
    obtain ⟨e1, e2, e3⟩ := p2 j hj
    exact ⟨g1, by omega, by omega, e1, e2, e3⟩
  · obtain ⟨g1, g2, g3, g4⟩ := h8 j hj
    obtain ⟨e1, e2, e3⟩ := p3 j hj
    exact ⟨g1, by omega, by omega, e1, e2, e3⟩
end
