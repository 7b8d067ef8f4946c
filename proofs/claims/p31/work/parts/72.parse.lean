/-! append, parse as the class has it, snapshots, the start -/
theorem byv (z : Int32) : ∃ b : Nat, b < 256 ∧ vp_nar .byte (z.toInt8.toInt32) = vC b := by
  rw [pk_vb]
  have h1 := Int8.toInt_lt z.toInt8
  have h2 := Int8.le_toInt z.toInt8
  refine ⟨(z.toInt8.toInt + 128).toNat, by omega, ?_⟩
  apply Int32.toInt_inj.mp
  unfold vC
  have h3 : (nI (z.toInt8.toInt + 128).toNat - nI 128).toInt = ((z.toInt8.toInt + 128).toNat : Int) - (128 : Nat) := pk_sub_toInt (b := 128) (by omega) (by decide)
  show _ = (nI (z.toInt8.toInt + 128).toNat - nI 128).toInt
  rw [h3, Int8.toInt_toInt32]
  omega
theorem hBy_u {t : Nat → Int32} {k : Nat} {z : Int32} (h : hBy t) : hBy (upd t k (vp_nar .byte (z.toInt8.toInt32))) := fun j => by
  by_cases e : j = k
  · subst e
    rw [pk_us]
    exact byv z
  · rw [pk_un e]
    exact h j
def bB (x y : Int32) : Int32 := vp_nar .byte ((x >>> (y &&& 31)).toInt8.toInt32)
theorem hBy0 : hBy (fun _ => 0) := fun _ => ⟨128, by decide, (show (0 : Int32) = vC 128 from by decide)⟩
theorem ap4 {L : Nat} (hL : L + 4 ≤ 500) {t : Nat → Int32} (hB : hBy t) (x : Int32) : ∃ t' : Nat → Int32, hBy t' ∧ fX9_putFourBytes (nI L) t x = some (nI (L + 4), t') ∧ fX11_bytesOf (nI L) t x = some (nI (L + 4), t') := by
  obtain ⟨m, hm⟩ : ∃ m, FU = m + 5 := ⟨FU - 5, by have := FUge; omega⟩
  refine ⟨upd (upd (upd (upd t L (bB x 24)) (L + 1) (bB x (24 + (-8)))) (L + 1 + 1) (bB x (24 + (-8) + (-8)))) (L + 1 + 1 + 1) (bB x (24 + (-8) + (-8) + (-8))), hBy_u (hBy_u (hBy_u (hBy_u hB))), ?_, ?_⟩
  · unfold fX9_putFourBytes
    rw [hm, fX9_putFourBytes_b3_s, if_neg (by decide), if_neg (show ¬ (500 : Int32) ≤ nI L from nI_ge (b := 500) (by omega) (by decide)), gdI (vp_in_nI (by omega) (by decide)), nI_1, nI_clamp (by omega)]
    rw [fX9_putFourBytes_b3_s, if_neg (by decide), if_neg (show ¬ (500 : Int32) ≤ nI (L + 1) from nI_ge (b := 500) (by omega) (by decide)), gdI (vp_in_nI (by omega) (by decide)), nI_1, nI_clamp (by omega)]
    rw [fX9_putFourBytes_b3_s, if_neg (by decide), if_neg (show ¬ (500 : Int32) ≤ nI (L + 1 + 1) from nI_ge (b := 500) (by omega) (by decide)), gdI (vp_in_nI (by omega) (by decide)), nI_1, nI_clamp (by omega)]
    rw [fX9_putFourBytes_b3_s, if_neg (by decide), if_neg (show ¬ (500 : Int32) ≤ nI (L + 1 + 1 + 1) from nI_ge (b := 500) (by omega) (by decide)), gdI (vp_in_nI (by omega) (by decide)), nI_1, nI_clamp (by omega)]
    rw [fX9_putFourBytes_b3_s, if_pos (by decide)]
    rfl
  · unfold fX11_bytesOf
    rw [hm, fX11_bytesOf_b3_s, if_neg (by decide), gdI (vp_in_nI (by omega) (by decide)), nI_1, nI_clamp (by omega)]
    rw [fX11_bytesOf_b3_s, if_neg (by decide), gdI (vp_in_nI (by omega) (by decide)), nI_1, nI_clamp (by omega)]
    rw [fX11_bytesOf_b3_s, if_neg (by decide), gdI (vp_in_nI (by omega) (by decide)), nI_1, nI_clamp (by omega)]
    rw [fX11_bytesOf_b3_s, if_neg (by decide), gdI (vp_in_nI (by omega) (by decide)), nI_1, nI_clamp (by omega)]
    rw [fX11_bytesOf_b3_s, if_pos (by decide)]
    rfl
theorem ap_eq {L : Nat} (hL : L ≤ 500) {t : Nat → Int32} (hB : hBy t) (x1 x2 x3 x4 x5 : Int32) : (∃ (L' : Nat) (t' : Nat → Int32) (a : Int32), L' ≤ 500 ∧ hBy t' ∧ fX10_append (nI L) t x1 x2 x3 x4 x5 = some (a, nI L', t') ∧ fX11_append (nI L) t x1 x2 x3 x4 x5 = some (a, 0, nI L', t')) := by
  unfold fX10_append fX11_append
  rw [show nI L + 20 = nI (L + 20) from nI_add L 20]
  rcases Nat.lt_or_ge 480 L with c | c
  · rw [if_neg (show ¬ nI L ≤ 480 from nI_ge (a := 480) c (by omega)), if_neg (show ¬ nI (L + 20) ≤ 500 from nI_ge (a := 500) (by omega) (by omega))]
    exact ⟨L, t, -1, hL, hB, rfl, rfl⟩
  · rw [if_pos (show nI L ≤ 480 from nI_le (b := 480) c (by decide)), if_pos (show nI (L + 20) ≤ 500 from nI_le (b := 500) (by omega) (by decide))]
    obtain ⟨t1, b1, c1, d1⟩ := ap4 (L := L) (by omega) hB x1
    obtain ⟨t2, b2, c2, d2⟩ := ap4 (L := L + 4) (by omega) b1 x2
    obtain ⟨t3, b3, c3, d3⟩ := ap4 (L := L + 4 + 4) (by omega) b2 x3
    obtain ⟨t4, b4, c4, d4⟩ := ap4 (L := L + 4 + 4 + 4) (by omega) b3 x4
    obtain ⟨t5, b5, c5, d5⟩ := ap4 (L := L + 4 + 4 + 4 + 4) (by omega) b4 x5
    refine ⟨L + 4 + 4 + 4 + 4 + 4, t5, nI (L + 4 + 4 + 4 + 4 + 4), by omega, b5, ?_, ?_⟩
    · rw [c1, obs, c2, obs, c3, obs, c4, obs, c5, obs]
    · rw [d1, obs, d2, obs, d3, obs, d4, obs, d5, obs]
theorem tl_beg7 {x : Int32} : ∀ (f y : Nat) (q : Int32) (p : Nat → Int32), y ≤ 10 → 10 - y < f → tG (fun r => r.1 = q) (fX3_begin_b7 x f (nI y) q p) := by
  intro f
  induction f with
  | zero => intro y q p h1 h2; omega
  | succ f ih =>
    intro y q p h1 h2
    rw [fX3_begin_b7_s]
    rcases Nat.lt_or_ge y 10 with c | c
    · rw [if_neg (show ¬ (10 : Int32) ≤ nI y from nI_ge (b := 10) c (by decide))]
      refine tgI (fun _ => ?_) (fun _ => ?_) <;>
        · unfold fX3_begin_b30
          rw [nI_1]
          exact tgD (vkn (by omega) (by omega)) (ih (y + 1) _ _ (by omega) (by omega))
    · have e : y = 10 := by omega
      subst e
      rw [if_pos (show (10 : Int32) ≤ nI 10 from nI_le (a := 10) (Nat.le_refl _) (by decide))]
      exact tgS rfl
theorem t_beg7 {p : Nat → Int32} {x : Int32} : tG (fun r => r.1 = 0 ∧ r.2.1 = 0 ∧ r.2.2.1 = 0 ∧ r.2.2.2.1 = 0 ∧ r.2.2.2.2.1 = none ∧ r.2.2.2.2.2.1 = x) (fX7_begin p x) := by
  unfold fX7_begin fX3_begin
  exact tgC (tl_beg7 FU 0 x p (by decide) (by have := FUge; omega)) (fun u hu => tgS ⟨rfl, rfl, rfl, rfl, rfl, hu⟩)
theorem tl_anew {a1 a2 a3 a4 ppl hc : Int32} {lat : Option Nat} {pcs : Nat → Int32} : ∀ (f y : Nat) (fl : Nat → Int32), y ≤ 2 → 2 - y < f → (∀ s, s < y → fl s = 0) → tG (fun r => r.2.2.2.2.1 = lat ∧ r.2.2.2.2.2.1 = ppl ∧ r.2.2.2.2.2.2.2.1 = hc ∧ ∀ s, s < 2 → (r.2.2.2.2.2.2.2.2) s = 0) (fX10_startAnew_b23 f (nI y) a1 a2 a3 a4 lat ppl pcs hc fl) := by
  intro f
  induction f with
  | zero => intro y fl h1 h2; omega
  | succ f ih =>
    intro y fl h1 h2 h3
    rw [fX10_startAnew_b23_s]
    rcases Nat.lt_or_ge y 2 with c | c
    · rw [if_neg (show ¬ (2 : Int32) ≤ nI y from nI_ge (b := 2) c (by decide)), nI_1, nI_clamp (by omega)]
      refine tgD (vkn (by omega) (by decide)) (ih (y + 1) _ (by omega) (by omega) (fun s hs => ?_))
      by_cases e : s = y
      · subst e
        rw [pk_us]
        rfl
      · rw [pk_un e]
        exact h3 s (by omega)
    · have e : y = 2 := by omega
      subst e
      rw [if_pos (show (2 : Int32) ≤ nI 2 from nI_le (a := 2) (Nat.le_refl _) (by decide))]
      exact tgS ⟨rfl, rfl, rfl, h3⟩
theorem t_anew {x : Int32} {p fl : Nat → Int32} : tG (fun r => r.2.2.2.2.1 = none ∧ r.2.2.2.2.2.1 = x ∧ r.2.2.2.2.2.2.2.1 = 0 ∧ ∀ s, s < 2 → (r.2.2.2.2.2.2.2.2) s = 0) (fX10_startAnew x p fl) := by
  unfold fX10_startAnew
  refine tgC t_beg7 (fun u hu => tgN (fun w hw => ?_))
  obtain ⟨-, -, -, -, u5, u6⟩ := hu
  have hw0 : w = 0 := hw
  refine tgW (tl_anew FU 0 fl (by decide) (by have := FUge; omega) (fun s hs => absurd hs (Nat.not_lt_zero s))) (fun r hr => ?_)
  exact ⟨hr.1.trans u5, hr.2.1.trans u6, hr.2.2.1.trans hw0, hr.2.2.2⟩
/-- how a text is read, by class and reference -/
def PQ (rc : Int32 × Int32 × Int32 × Int32 × Int32 × Int32 × Int32 × Int32 × Int32 × Int32 × Int32 × (Nat → Int32) × (Nat → Int32) × (Nat → Int32) × (Nat → Int32) × Int32 × (Nat → Int32) × (Nat → Int32) × (Nat → Int32) × Int32 × (Nat → Int32) × (Nat → Int32) × (Nat → Int32)) (r : Int32 × Int32 × Int32 × Int32 × Int32 × Int32 × Int32 × Int32 × Int32 × Int32 × Int32 × (Nat → Int32) × (Nat → Int32) × (Nat → Int32) × (Nat → Int32) × Int32 × (Nat → Int32) × (Nat → Int32) × (Nat → Int32) × Int32 × (Nat → Int32) × (Nat → Int32) × (Nat → Int32) × Int32 × Int32 × Int32 × Int32 × (Option Nat) × Int32 × (Nat → Int32) × Int32 × (Nat → Int32)) : Prop := (r.1) = (rc.1) ∧ (r.2.1) = (rc.2.1) ∧ (r.2.2.2.1) = (rc.2.2.2.1) ∧ (r.2.2.2.2.2.2.2.2.2.1) = (rc.2.2.2.2.2.2.2.2.2.1) ∧ (r.2.2.2.2.2.2.2.2.2.2.1) = (rc.2.2.2.2.2.2.2.2.2.2.1) ∧ (r.2.2.2.2.2.2.2.2.2.2.2.1) = (rc.2.2.2.2.2.2.2.2.2.2.2.1) ∧ (r.2.2.2.2.2.2.2.2.2.2.2.2.1) = (rc.2.2.2.2.2.2.2.2.2.2.2.2.1) ∧ (r.2.2.2.2.2.2.2.2.2.2.2.2.2.1) = (rc.2.2.2.2.2.2.2.2.2.2.2.2.2.1) ∧ (r.2.2.2.2.2.2.2.2.2.2.2.2.2.2.2.1) = (rc.2.2.2.2.2.2.2.2.2.2.2.2.2.2.2.1) ∧ (r.2.2.2.2.2.2.2.2.2.2.2.2.2.2.2.2.2.2.2.1) = (rc.2.2.2.2.2.2.2.2.2.2.2.2.2.2.2.2.2.2.2.1) ∧ (r.2.2.2.2.2.2.2.2.2.2.2.2.2.2.2.2.2.2.2.2.2.2.2.2.2.2.2.1) = none ∧ (r.2.2.2.2.2.2.2.2.2.2.2.2.2.2.2.2.2.2.2.2.2.2.2.2.2.2.2.2.1) = (rc.2.2.2.2.2.2.2.2.2.1) ∧ (r.2.2.2.2.2.2.2.2.2.2.2.2.2.2.2.2.2.2.2.2.2.2.2.2.2.2.2.2.2.2.1) = 0 ∧ ∀ s, s < 2 → (r.2.2.2.2.2.2.2.2.2.2.2.2.2.2.2.2.2.2.2.2.2.2.2.2.2.2.2.2.2.2.2) s = 0
theorem ps_eq {L : Nat} (hL : L ≤ 500) {t : Nat → Int32} (hB : hBy t) (x1 : Int32) {kd st num ts st2 nx tk va er eA nu isF un : Int32} {fi se co ow bw bf bu aw af au npcs fl now isv told one other forth cost broken away : Nat → Int32} :
    (tX10_parse_A (nI L) x1 = some () ∧ ∃ rm, fX11_parse (nI L) ts st2 nx tk va er eA nu isF un now told one other forth cost broken away t isv x1 = some rm ∧ (rm.2.1) = 1 ∧ (rm.2.2.1) = nI L ∧ (rm.2.2.2.2.2.2.2.2.2.1) = eA ∧ (rm.2.2.2.2.2.2.2.2.2.2.2.2.1) = un ∧ (rm.2.2.2.2.2.2.2.2.2.2.2.2.2.1) = now ∧ (rm.2.2.2.2.2.2.2.2.2.2.2.2.2.2.1) = told ∧ (rm.2.2.2.2.2.2.2.2.2.2.2.2.2.2.2.1) = one ∧ (rm.2.2.2.2.2.2.2.2.2.2.2.2.2.2.2.2.1) = other ∧ (rm.2.2.2.2.2.2.2.2.2.2.2.2.2.2.2.2.2.2.1) = cost ∧ (rm.2.2.2.2.2.2.2.2.2.2.2.2.2.2.2.2.2.2.2.2.2) = isv) ∨
    (∃ rc rm, fX11_parse (nI L) ts st2 nx tk va er eA nu isF un now told one other forth cost broken away t isv x1 = some rm ∧ PO un now isv told one other forth cost broken away rc rm ∧ (((rc.1) = 0 ∧ tG (PQ rc) (fX10_parse_ok (nI L) kd st num t fi se co ow bw bf bu aw af au npcs fl x1)) ∨ (¬ (rc.1) = 0 ∧ fX10_parse_err (nI L) kd st num t fi se co ow bw bf bu aw af au x1 = some rc))) := by
  have bad : ∀ z : x1 < 0 ∨ nI L < x1, ∃ rm, fX11_parse (nI L) ts st2 nx tk va er eA nu isF un now told one other forth cost broken away t isv x1 = some rm ∧ (rm.2.1) = 1 ∧ (rm.2.2.1) = nI L ∧ (rm.2.2.2.2.2.2.2.2.2.1) = eA ∧ (rm.2.2.2.2.2.2.2.2.2.2.2.2.1) = un ∧ (rm.2.2.2.2.2.2.2.2.2.2.2.2.2.1) = now ∧ (rm.2.2.2.2.2.2.2.2.2.2.2.2.2.2.1) = told ∧ (rm.2.2.2.2.2.2.2.2.2.2.2.2.2.2.2.1) = one ∧ (rm.2.2.2.2.2.2.2.2.2.2.2.2.2.2.2.2.1) = other ∧ (rm.2.2.2.2.2.2.2.2.2.2.2.2.2.2.2.2.2.2.1) = cost ∧ (rm.2.2.2.2.2.2.2.2.2.2.2.2.2.2.2.2.2.2.2.2.2) = isv := fun z => by
    have hw : fX11_within x1 0 (nI L) = 0 := by
      unfold fX11_within
      by_cases c : x1 < 0
      · rw [if_pos c]
      · rcases z with z | z
        · exact absurd z c
        · rw [if_neg c, if_pos z]
    refine ⟨(0, 1, nI L, ts, st2, nx, tk, va, er, eA, nu, isF, un, now, told, one, other, forth, cost, broken, away, isv), ?_, rfl, rfl, rfl, rfl, rfl, rfl, rfl, rfl, rfl, rfl⟩
    unfold fX11_parse
    rw [if_pos hw]
    rfl
  rcases pk_ix x1 (n := L + 1) (by omega) with h | h | ⟨x, hx, rfl⟩
  · refine Or.inl ⟨?_, bad (Or.inl h)⟩
    unfold tX10_parse_A
    rw [if_pos h]
    rfl
  · have hh : nI L < x1 := by
      rw [Int32.lt_iff_toInt_lt, nI_toInt (by omega)]
      rw [Int32.le_iff_toInt_le, nI_toInt (by omega)] at h
      omega
    refine Or.inl ⟨?_, bad (Or.inr hh)⟩
    unfold tX10_parse_A
    by_cases c : x1 < 0
    · rw [if_pos c]
      rfl
    · rw [if_neg c, if_neg (fun q => le_nlt q hh)]
      rfl
  · obtain ⟨rc, rm, h1, h2, h3⟩ := px_eq (L := L) (x := x) (t := t) (by omega) hL hB (kd := kd) (st := st) (num := num) (th2 := 0) (ts := ts) (st2 := st2) (nx := nx) (tk := tk) (va := va) (er := er) (eA := eA) (nu := nu) (isF := isF) (un := un) (fi := fi) (se := se) (co := co) (ow := ow) (bw := bw) (bf := bf) (bu := bu) (aw := aw) (af := af) (au := au) (now := now) (isv := isv) (told := told) (one := one) (other := other) (forth := forth) (cost := cost) (broken := broken) (away := away)
    refine Or.inr ⟨rc, rm, h2, h3, ?_⟩
    by_cases c : (rc.1) = 0
    · refine Or.inl ⟨c, ?_⟩
      unfold fX10_parse_ok
      rw [if_neg (nI_pos (by omega)), if_pos (nI_le (by omega) (by omega)), h1, obs, if_pos c]
      exact tgC t_anew (fun u hu => tgS ⟨rfl, rfl, rfl, rfl, rfl, rfl, rfl, rfl, rfl, rfl, hu.1, hu.2.1, hu.2.2.1, hu.2.2.2⟩)
    · refine Or.inr ⟨c, ?_⟩
      unfold fX10_parse_err
      rw [if_neg (nI_pos (by omega)), if_pos (nI_le (by omega) (by omega)), h1, obs, if_neg c]
theorem nsl_bad {x : Int32} (h : x < 0 ∨ nI 2 ≤ x) : fX11_noSlot x = (1, 1) := by
  have hw : fX11_within x 0 (2 - 1) = 0 := by
    unfold fX11_within
    by_cases c : x < 0
    · rw [if_pos c]
    · rcases h with h | h
      · exact absurd h c
      · rw [if_neg c, if_pos (show ((2 : Int32) - 1) < x from by
          rw [Int32.lt_iff_toInt_lt]
          rw [Int32.le_iff_toInt_le] at h
          have e1 : ((2 : Int32) - 1).toInt = 1 := rfl
          have e2 : (nI 2).toInt = 2 := rfl
          omega)]
  unfold fX11_noSlot nm fX11_no
  rw [if_pos hw]
  rfl
theorem t_save_bad {now slots isSaved : Nat → Int32} {x1 : Int32} (h : x1 < 0 ∨ nI 2 ≤ x1) : fX11_saveSnapshot now slots isSaved x1 = some (0, 1, slots, isSaved) := by
  unfold fX11_saveSnapshot
  rw [nsl_bad h]
  rfl
theorem t_save2 {np k : Nat} (hnp : np ≤ 10) (hk : k < 2) {now slots isSaved : Nat → Int32} (hn : gNow np now 0) (h : gS np isSaved slots) : tG (fun r => r.1 = isSaved k ∧ r.2.1 = 0 ∧ r.2.2.2 = upd isSaved k (vp_nar .boolean 1) ∧ gS np r.2.2.2 r.2.2.1) (fX11_saveSnapshot now slots isSaved (nI k)) := by
  unfold fX11_saveSnapshot
  refine tgN (fun w hw => ?_)
  have w0 : w = (0, 0) := by
    rw [hw]
    rcases (show k = 0 ∨ k = 1 by omega) with rfl | rfl <;> rfl
  subst w0
  refine tgI (fun e => ?_) (fun c => absurd rfl c)
  refine tgD (vkn hk (by decide)) ?_
  rw [show (514 : Int32) * nI k = nI (514 * k) from pk_mul 514 k, nI_clamp (by omega : k < 2 ^ 31)]
  obtain ⟨r, r1, r2⟩ := t_copies (N2 := 1028) (N0 := 514) (p0 := now) (p2 := slots) (a := 0) (b := 514 * k) (m := 514) (by omega) (by omega) (by omega)
  refine tgC (P := fun z => z = r) ⟨_, r1, rfl⟩ (fun u z => ?_)
  subst z
  refine tgB (h k hk).1 (tgS ⟨rfl, rfl, rfl, fun t ht => ?_⟩)
  show (upd isSaved k (vp_nar .boolean 1) t = 0 ∨ upd isSaved k (vp_nar .boolean 1) t = 1) ∧ (upd isSaved k (vp_nar .boolean 1) t = 0 ∨ gNow np u (514 * t))
  by_cases c : t = k
  · subst c
    rw [pk_us]
    exact ⟨Or.inr rfl, Or.inr (gNowC hn hnp (fun j hj => by rw [r2, if_pos (by omega), show 0 + (514 * t + j - 514 * t) = 0 + j by omega]))⟩
  · rw [pk_un c]
    refine ⟨(h t ht).1, ?_⟩
    rcases (h t ht).2 with q | q
    · exact Or.inl q
    · refine Or.inr (gNowC q hnp (fun j hj => by rw [r2, if_neg (by omega)]))
theorem c_save_bad {x1 : Int32} (h : x1 < 0 ∨ nI 2 ≤ x1) : tX10_saveSnapshot_I x1 = some () := by
  rcases c_reqS x1 with q | ⟨k, hk, rfl, h1, h2⟩
  · unfold tX10_saveSnapshot_I
    rw [q]
    rfl
  · rcases h with h | h
    · exact absurd h (nI_pos (by omega))
    · exact absurd h (nI_ge hk (by omega))
theorem c_save2 {t_now_arrangedLines : Int32} {t_now_cutLines : Int32} {t_now_rounds : Int32} {t_now_calls : Int32} {t_now_latest : Option Nat} {t_now_news_people : Int32} {t_now_news_pieces : Nat → Int32} {t_slots_e_arrangedLines : Nat → Int32} {t_slots_e_cutLines : Nat → Int32} {t_slots_e_rounds : Nat → Int32} {t_slots_e_calls : Nat → Int32} {t_slots_e_latest : Nat → Option Nat} {t_slots_e_news_people : Nat → Int32} {t_slots_e_news_pieces : Nat → Nat → Int32} {t_filled : Nat → Int32} {k : Nat} (hk : k < 2) {d : Nat} {rl : zRL} (hs : ∀ s : Nat, s < 2 → (pB 10 (t_slots_e_news_people s) ∧ zV rl d (t_slots_e_latest s)) ∧ (t_filled s = 0 ∨ t_filled s = 1)) (hl : zV rl d t_now_latest) (hp : pB 10 t_now_news_people) : tG (fun r => (r.1) = t_filled k ∧ (r.2.2.2.2.2.2.2.2) = upd t_filled k (vp_nar .boolean 1) ∧ ∀ s : Nat, s < 2 → pB 10 ((r.2.2.2.2.2.2.1) s) ∧ zV rl d ((r.2.2.2.2.2.1) s)) (fX10_saveSnapshot t_now_arrangedLines t_now_cutLines t_now_rounds t_now_calls t_now_latest t_now_news_people t_now_news_pieces t_slots_e_arrangedLines t_slots_e_cutLines t_slots_e_rounds t_slots_e_calls t_slots_e_latest t_slots_e_news_people t_slots_e_news_pieces t_filled (nI k)) := by
  rcases c_reqS (nI k) with q | ⟨k2, hk2, e, h1, h2⟩
  · exfalso
    rcases (show k = 0 ∨ k = 1 by omega) with rfl | rfl
    · exact absurd (show tX10_requireSlot_I (nI 0) = none from by decide) (by rw [q]; decide)
    · exact absurd (show tX10_requireSlot_I (nI 1) = none from by decide) (by rw [q]; decide)
  · unfold fX10_saveSnapshot
    refine tGb h1 (tgD (vkn hk (by decide)) (tgN (fun J hJ => ?_)))
    rw [nI_clamp (by omega)] at hJ ⊢
    subst hJ
    obtain ⟨pc, hpc⟩ := t_copy7 (t_news_pieces := t_slots_e_news_pieces J) (p1_arrangedLines := t_now_arrangedLines) (p1_cutLines := t_now_cutLines) (p1_rounds := t_now_rounds) (p1_calls := t_now_calls) (p1_latest := t_now_latest) (p1_news_people := t_now_news_people) (p1_news_pieces := t_now_news_pieces)
    refine tGb hpc (tgB (hs J hk).2 (tgS ⟨rfl, rfl, fun s hs1 => ?_⟩))
    show pB 10 (va_up t_slots_e_news_people J t_now_news_people s) ∧ zV rl d (va_up t_slots_e_latest J t_now_latest s)
    by_cases c : s = J
    · subst c
      rw [upS, upS]
      exact ⟨hp, hl⟩
    · rw [upN c, upN c]
      exact (hs s hs1).1
