/-! the best set alone, plans -/
section
variable {np nl : Nat} {a b c g : Nat → Nat} {fw : Nat → Bool} {us : Nat → Bool} {fi se co ow : Nat → Int32}
def isBest (nl : Nat) (a b c g : Nat → Nat) (us S : Nat → Bool) : Prop := sfree nl a b us S ∧ ∀ T, sfree nl a b us T → swm T (wln g c) nl ≤ swm S (wln g c) nl
theorem worth3 {S T : Nat → Bool} (hnl : nl ≤ 8) (hg : ∀ l, l < nl → g l < 20) (hc : ∀ l, l < nl → c l < 1000) (h : swm S (wln g c) nl = swm T (wln g c) nl) : nsum S g nl = nsum T g nl ∧ nsum S c nl = nsum T c nl ∧ sbit S nl = sbit T nl := by
  have lin : ∀ S : Nat → Bool, swm S (wln g c) nl = 1099511627776 * (nsum S g nl : Int) - 16777216 * (nsum S c nl : Int) - (sbit S nl : Int) := fun S => by
    have := swm_lin (S := S) (g := fun l => ((g l : Nat) : Int)) (c := fun l => ((c l : Nat) : Int)) (v := fun l => ((2 ^ l : Nat) : Int)) (w := wln g c) (A := 1099511627776) (B := 16777216) nl (fun l _ => by
      show (g l : Int) * 1099511627776 - (c l : Int) * 16777216 - ((2 ^ l : Nat) : Int) = 1099511627776 * (g l : Int) - 16777216 * (c l : Int) - ((2 ^ l : Nat) : Int)
      omega)
    rw [this, ← nsum_swm, ← nsum_swm, sbit_swm]
  have bd : ∀ S : Nat → Bool, nsum S g nl ≤ 160 ∧ nsum S c nl ≤ 8000 ∧ sbit S nl < 256 := fun S => by
    have b1 := swm_bd (S := S) (w := fun l => ((g l : Nat) : Int)) (M := 20) (by decide) nl (fun l hl => by have := hg l hl; omega)
    have b2 := swm_bd (S := S) (w := fun l => ((c l : Nat) : Int)) (M := 1000) (by decide) nl (fun l hl => by have := hc l hl; omega)
    rw [← nsum_swm] at b1 b2
    have b3 := sbit_lt (S := S) nl
    have b4 : 2 ^ nl ≤ 256 := Nat.le_trans (Nat.pow_le_pow_right (by decide) hnl) (by decide)
    omega
  rw [lin S, lin T] at h
  have := bd S
  have := bd T
  omega
theorem best_one {S T : Nat → Bool} (hnl : nl ≤ 8) (hg : ∀ l, l < nl → g l < 20) (hc : ∀ l, l < nl → c l < 1000) (h1 : isBest nl a b c g us S) (h2 : isBest nl a b c g us T) : nsum S g nl = nsum T g nl ∧ nsum S c nl = nsum T c nl ∧ sbit S nl = sbit T nl := by
  refine worth3 hnl hg hc ?_
  exact Int.le_antisymm (h2.2 S h1.1) (h1.2 T h2.1)
noncomputable def bset (nl : Nat) (a b c g : Nat → Nat) (us : Nat → Bool) : Nat → Bool := Classical.epsilon (fun S => isBest nl a b c g us S)
theorem bset_of {S : Nat → Bool} (h : isBest nl a b c g us S) : isBest nl a b c g us (bset nl a b c g us) := Classical.epsilon_spec (p := fun S => isBest nl a b c g us S) ⟨S, h⟩
theorem findV {pcs : Nat → Int32} {U : Int32} {wp wg : Nat → Int64} (hE : hLn np nl a b c fw fi se co ow) (hG : hGn nl g fi se ow pcs) (hU : hB nl us U) (h0 : wg 0 = 0) : tG (fun r => isBest nl a b c g us (bset nl a b c g us) ∧ hB nl (bset nl a b c g us) r.1 ∧ r.2.2 0 = 0) (fX0_find wp wg (nI np) (nI nl) fi se co ow pcs U) := by
  have hnl := hE.2.1
  refine tgW (find_best (hLn_Ex hE) hG (fun l hl => hB_in hU hl (by omega)) h0) (fun r hr => ?_)
  obtain ⟨⟨S, s1, s2, s3⟩, r0⟩ := hr
  have hb : isBest nl a b c g us S := ⟨s1, s2⟩
  have hb2 := bset_of hb
  have := (best_one hnl (fun l hl => (hG l hl).1) (fun l hl => (hE.2.2 l hl).2.2.2.1) hb hb2).2.2
  refine ⟨hb2, ?_, r0⟩
  rw [s3, this]
  exact hB_of (by omega)
theorem copy10 {pe : Int32} {pcs : Nat → Int32} : ∀ (f y : Nat) (t : Nat → Int32), y ≤ 10 → 10 - y < f → (∀ p, p < y → t p = pcs p) → tG (fun r => r.1 = pe ∧ ∀ p, p < 10 → r.2 p = pcs p) (fX3_copyFrom_b10 pcs f (nI y) pe t) := by
  intro f
  induction f with
  | zero => intro y t h1 h2; omega
  | succ f ih =>
    intro y t h1 h2 h3
    rw [fX3_copyFrom_b10_s]
    rcases Nat.lt_or_ge y 10 with d | d
    · rw [if_neg (show ¬ (10 : Int32) ≤ nI y from nI_ge (b := 10) d (by decide)), nI_clamp (by omega), nI_1]
      refine tgD (vkn d (by decide)) (ih (y + 1) _ (by omega) (by omega) (fun p hp => ?_))
      by_cases e : p = y
      · rw [e, pk_us]
      · rw [pk_un e]
        exact h3 p (by omega)
    · rw [if_pos (show (10 : Int32) ≤ nI y from nI_le (a := 10) d (by omega))]
      exact tgS ⟨rfl, fun p hp => h3 p (by omega)⟩
theorem copyV {pe : Int32} {pcs t : Nat → Int32} : tG (fun r => r.1 = pe ∧ ∀ p, p < 10 → r.2 p = pcs p) (fX3_copyFrom t pe pcs) := by
  unfold fX3_copyFrom
  exact copy10 FU 0 t (Nat.zero_le _) (by have := FUge; omega) (fun p hp => absurd hp (Nat.not_lt_zero p))
/-- how many lines a set has -/
def cnt (nl : Nat) (S : Nat → Bool) : Nat := pc (sbit S nl) + ((sbit S nl).testBit 7).toNat
theorem cntV {S : Nat → Bool} {x : Int32} (hnl : nl ≤ 8) (hS : hB nl S x) : fJ6_bitCount_0f7a4 x = nI (cnt nl S) := by
  have b3 := sbit_lt (S := S) nl
  have b4 : 2 ^ nl ≤ 256 := Nat.le_trans (Nat.pow_le_pow_right (by decide) hnl) (by decide)
  rw [hB_is (by omega) hS, bc256 _ (by omega)]
  rfl
/-- the plan's rounds -/
noncomputable def pln (np nl : Nat) (a b c : Nat → Nat) (fw : Nat → Bool) (us : Nat → Nat → Bool) : Nat → Nat → (Nat → Nat) → Nat → Nat → Nat × (Nat → Nat) × Nat × Nat
  | 0, n, k, m, s => (n, k, m, s)
  | d + 1, n, k, m, s => if msm np k np = 0 then (n, k, m, s) else pln np nl a b c fw us d (n + 1) (aft a b fw (bset nl a b c (gn a b fw k) (us n)) k nl) (m + cnt nl (bset nl a b c (gn a b fw k) (us n))) (s + nsum (bset nl a b c (gn a b fw k) (us n)) c nl)
theorem msm_le {k : Nat → Nat} : ∀ n : Nat, msm np k n ≤ np * n := by
  intro n
  induction n with
  | zero => exact Nat.zero_le _
  | succ n ih =>
    rw [Nat.mul_succ]
    show msm np k n + (np - pc (k n)) ≤ _
    omega
theorem msm_sm {k : Nat → Nat} (hnp : np ≤ 7) : msm np k np ≤ 49 := by
  have h1 := msm_le (np := np) (k := k) np
  have h2 : np * np ≤ 7 * 7 := Nat.mul_le_mul hnp hnp
  omega
variable {nb na : Nat} {wb fb ub wa fa ua : Nat → Nat} {twb tfb tub twa tfa tua : Nat → Int32} {cut : Nat → Bool} {cu : Int32}
theorem make26 {rounds : Nat} (h2 : 2 ≤ np) (hE : hLn np nl a b c fw fi se co ow) (hb : hSp nb nl wb fb ub twb tfb tub) (ha : hSp na np wa fa ua twa tfa tua) (hr : rounds < 10000) (hc : hB nl cut cu) : ∀ (f n : Nat) (k : Nat → Nat) (m s : Nat) (pcs : Nat → Int32) (wp wg : Nat → Int64), n ≤ 40 → 40 - n < f → hK np k pcs → wg 0 = 0 → tG (fun r => hK np (pln np nl a b c fw (fun n => usb nb na wb fb ub wa fa ua a b cut (rounds + n + 1)) (40 - n) n k m s).2.1 r.2.2.2.2.1 ∧ r.1 = nI (pln np nl a b c fw (fun n => usb nb na wb fb ub wa fa ua a b cut (rounds + n + 1)) (40 - n) n k m s).1 ∧ r.2.1 = nI (pln np nl a b c fw (fun n => usb nb na wb fb ub wa fa ua a b cut (rounds + n + 1)) (40 - n) n k m s).2.2.1 ∧ r.2.2.1 = nI (pln np nl a b c fw (fun n => usb nb na wb fb ub wa fa ua a b cut (rounds + n + 1)) (40 - n) n k m s).2.2.2 ∧ r.2.2.2.1 = nI np ∧ r.2.2.2.2.2.2 0 = 0) (fX4_make_b26 (nI np) (nI nl) fi se co ow (nI nb) twb tfb tub (nI na) twa tfa tua cu (nI rounds) f (nI n) (nI m) (nI s) (nI np) pcs wp wg) := by
  have hnp := hE.1
  have hnl := hE.2.1
  intro f
  induction f with
  | zero => intro n k m s pcs wp wg h1 h2; omega
  | succ f ih =>
    intro n k m s pcs wp wg q1 q2 hk h0
    rw [fX4_make_b26_s]
    rcases Nat.lt_or_ge n 40 with d | d
    · have hms := msm_sm (k := k) hnp
      obtain ⟨j, hj⟩ : ∃ j, 40 - n = j + 1 := ⟨39 - n, by omega⟩
      rw [if_neg (show ¬ (40 : Int32) ≤ nI n from nI_ge (b := 40) d (by decide)), missV hnp hk, obs, hj]
      unfold pln
      rcases Nat.eq_zero_or_pos (msm np k np) with z | z
      · rw [if_pos z, if_pos (show nI (msm np k np) ≤ 0 by rw [z]; decide)]
        exact tgS ⟨hk, rfl, rfl, rfl, rfl, h0⟩
      · rw [if_neg (nI_nle z (by omega)), if_neg (by omega), nI_1, nI_add]
        refine tgC (openV hE hb ha (by omega)) (fun u9 hu9 => ?_)
        have hu : hB nl (usb nb na wb fb ub wa fa ua a b cut (rounds + n + 1)) (u9 &&& (cu ^^^ (-1))) := fun i hi => by
          rw [ib_and, ib_not hi, hu9 i hi, hc i hi, show rounds + (n + 1) = rounds + n + 1 by omega]
          unfold usb
          cases decide (i < nl) <;> simp [Bool.and_comm]
        have hG := gainLine hE hk
        refine tgC (findV hE hG hu h0) (fun u12 hu12 => ?_)
        obtain ⟨b1, b2, b3⟩ := hu12
        refine tgC (callsV hE b2 b1.1.2 hk) (fun u15 hu15 => ?_)
        rw [costV hE b2, obs, cntV hnl b2, nI_add, nI_add]
        have := ih (n + 1) _ (m + cnt nl (bset nl a b c (gn a b fw k) (usb nb na wb fb ub wa fa ua a b cut (rounds + n + 1)))) (s + nsum (bset nl a b c (gn a b fw k) (usb nb na wb fb ub wa fa ua a b cut (rounds + n + 1))) c nl) u15 u12.2.1 u12.2.2 (by omega) (by omega) hu15 b3
        rw [show 40 - (n + 1) = j by omega] at this
        exact this
    · rw [if_pos (show (40 : Int32) ≤ nI n from nI_le (a := 40) d (by omega)), show 40 - n = 0 by omega]
      exact tgS ⟨hk, rfl, rfl, rfl, rfl, h0⟩
theorem makeV {rounds : Nat} {k : Nat → Nat} {pcs t : Nat → Int32} {wp wg : Nat → Int64} (h2 : 2 ≤ np) (hE : hLn np nl a b c fw fi se co ow) (hb : hSp nb nl wb fb ub twb tfb tub) (ha : hSp na np wa fa ua twa tfa tua) (hr : rounds < 10000) (hc : hB nl cut cu) (hk : hK np k pcs) (h0 : wg 0 = 0) : tG (fun r => hK np (pln np nl a b c fw (fun n => usb nb na wb fb ub wa fa ua a b cut (rounds + n + 1)) 40 0 k 0 0).2.1 r.2.2.2.2.1 ∧ r.1 = nI (pln np nl a b c fw (fun n => usb nb na wb fb ub wa fa ua a b cut (rounds + n + 1)) 40 0 k 0 0).1 ∧ r.2.1 = nI (pln np nl a b c fw (fun n => usb nb na wb fb ub wa fa ua a b cut (rounds + n + 1)) 40 0 k 0 0).2.2.1 ∧ r.2.2.1 = nI (pln np nl a b c fw (fun n => usb nb na wb fb ub wa fa ua a b cut (rounds + n + 1)) 40 0 k 0 0).2.2.2 ∧ r.2.2.2.1 = nI np ∧ r.2.2.2.2.2.2 0 = 0) (fX4_make t (nI np) (nI nl) fi se co ow (nI nb) twb tfb tub (nI na) twa tfa tua cu (nI rounds) (nI np) pcs wp wg) := by
  have hnp := hE.1
  unfold fX4_make
  refine tgC copyV (fun u hu => ?_)
  rw [hu.1]
  exact make26 h2 hE hb ha hr hc FU 0 k 0 0 u.2 wp wg (by decide) (by have := FUge; omega) (fun p hp => ⟨(hk p hp).1, by rw [hu.2 p (by omega)]; exact (hk p hp).2⟩) h0
end
