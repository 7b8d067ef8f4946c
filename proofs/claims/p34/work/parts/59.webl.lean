/-! the web's loops that make rows -/
theorem spr_aft {a b : Nat → Nat} {fw U : Nat → Bool} {k : Nat → Nat} {q : Nat} : ∀ n p, (aft a b fw U k n p).testBit q = spr a b fw U (fun p => (k p).testBit q) n p := by
  intro n
  induction n with
  | zero => intro p; rfl
  | succ n ih =>
    intro p
    show ((aft a b fw U k n p ||| (if U n = true ∧ b n = p then k (a n) else 0)) ||| (if U n = true ∧ fw n = false ∧ a n = p then k (b n) else 0)).testBit q = (spr a b fw U (fun p => (k p).testBit q) n p || (U n && (((k (a n)).testBit q && decide (p = b n)) || ((k (b n)).testBit q && !fw n && decide (p = a n)))))
    rw [Nat.testBit_or, Nat.testBit_or, ih]
    have e1 : (if U n = true ∧ b n = p then k (a n) else 0).testBit q = (U n && ((k (a n)).testBit q && decide (p = b n))) := by
      by_cases h : U n = true
      · by_cases h2 : b n = p
        · rw [if_pos ⟨h, h2⟩, h, decide_eq_true h2.symm, Bool.true_and, Bool.and_true]
        · rw [if_neg (fun z => h2 z.2), decide_eq_false (fun z => h2 z.symm), Bool.and_false, Bool.and_false, Nat.zero_testBit]
      · rw [if_neg (fun z => h z.1), Bool.eq_false_iff.mpr h, Bool.false_and, Nat.zero_testBit]
    have e2 : (if U n = true ∧ fw n = false ∧ a n = p then k (b n) else 0).testBit q = (U n && ((k (b n)).testBit q && !fw n && decide (p = a n))) := by
      by_cases h : U n = true
      · by_cases h3 : fw n = false
        · by_cases h2 : a n = p
          · rw [if_pos ⟨h, h3, h2⟩, h, h3, decide_eq_true h2.symm, Bool.true_and, Bool.and_true, Bool.not_false, Bool.and_true]
          · rw [if_neg (fun z => h2 z.2.2), decide_eq_false (fun z => h2 z.symm), Bool.and_false, Bool.and_false, Nat.zero_testBit]
        · have h4 : fw n = true := by
            cases z : fw n with
            | true => rfl
            | false => exact absurd z h3
          rw [if_neg (fun z => h3 z.2.1), h4, Bool.not_true, Bool.and_false, Bool.false_and, Bool.and_false, Nat.zero_testBit]
      · rw [if_neg (fun z => h z.1), Bool.eq_false_iff.mpr h, Bool.false_and, Nat.zero_testBit]
    rw [e1, e2, Bool.or_assoc, ← Bool.and_or_distrib_left]

theorem bitN {x q : Nat} (hx : x < 128) (hq : q < 31) : ((nI x >>> (nI q &&& 31)) &&& 1) = if x.testBit q = true then 1 else 0 := by
  have h : hB 31 (fun i => x.testBit i) (nI x) := fun i hi => by
    rw [ib_N (by omega)]
    rcases Nat.lt_or_ge i 31 with z | z
    · rw [decide_eq_true z, Bool.true_and]
    · rw [decide_eq_false (by omega), Bool.false_and]
      exact Nat.testBit_lt_two_pow (Nat.lt_of_lt_of_le hx (Nat.le_trans (by decide : 128 ≤ 2 ^ 31) (Nat.pow_le_pow_right (by decide) z)))
  exact bit1 h hq (by omega)
theorem rch_congr {np nl : Nat} {a b : Nat → Nat} {fw U K L : Nat → Bool} (hE : ∀ l, l < nl → a l < np ∧ b l < np) (h : ∀ p, p < np → K p = L p) : ∀ m p, p < np → rch nl a b fw U K m p = rch nl a b fw U L m p := by
  intro m
  induction m with
  | zero => intro p hp; exact h p hp
  | succ m ih => intro p hp; exact spr_congr hE ih nl (Nat.le_refl _) p hp
theorem prc_congr {nl : Nat} {a b c : Nat → Nat} {fw U V K : Nat → Bool} (h : ∀ l, l < nl → U l = V l) : ∀ m, prc nl a b c fw U K m = prc nl a b c fw V K m := by
  have h1 : ∀ n, n ≤ nl → ∀ P, rx a b c fw U n P = rx a b c fw V n P := by
    intro n
    induction n with
    | zero => intro _ P; rfl
    | succ n ih =>
      intro hn P
      show rx1 a b c fw U n (rx a b c fw U n P) = rx1 a b c fw V n (rx a b c fw V n P)
      rw [ih (by omega)]
      unfold rx1
      rw [h n (by omega)]
  intro m
  induction m with
  | zero => rfl
  | succ m ih =>
    show rx a b c fw U nl (prc nl a b c fw U K m) = rx a b c fw V nl (prc nl a b c fw V K m)
    rw [ih, h1 nl (Nat.le_refl _)]
/-- somebody is reached with a line alone -/
def wvp (P Q : Nat → Option Nat) : Nat → Bool
  | 0 => false
  | n + 1 => wvp P Q n || ((P n).isSome && (Q n).isNone)
theorem wvp_iff {P Q : Nat → Option Nat} : ∀ n, wvp P Q n = true ↔ ∃ p, p < n ∧ (P p).isSome = true ∧ (Q p).isNone = true := by
  intro n
  induction n with
  | zero => exact ⟨fun h => nofalse h, fun ⟨p, h, _⟩ => absurd h (Nat.not_lt_zero p)⟩
  | succ n ih =>
    show (wvp P Q n || ((P n).isSome && (Q n).isNone)) = true ↔ _
    rw [Bool.or_eq_true, ih, Bool.and_eq_true]
    constructor
    · rintro (⟨p, h1, h2⟩ | h)
      · exact ⟨p, by omega, h2⟩
      · exact ⟨n, by omega, h⟩
    · rintro ⟨p, h1, h2⟩
      by_cases e : p = n
      · rw [e] at h2
        exact Or.inr h2
      · exact Or.inl ⟨p, by omega, h2⟩
theorem vtl_cut {np nl : Nat} {a b : Nat → Nat} {fw cut : Nat → Bool} {k : Nat → Nat} {l : Nat} (h : cut l = true) : ∀ n, vtl np nl a b fw cut k n l = false := by
  intro n
  induction n with
  | zero => rfl
  | succ n ih =>
    show (vtl np nl a b fw cut k n l || ndl np nl a b fw (fun l => !cut l) (fun p => (k p).testBit n) l) = false
    rw [ih, Bool.false_or]
    unfold ndl
    show ((!cut l) && _) = false
    rw [h]
    rfl
theorem ndl_wvp {np nl : Nat} {a b c : Nat → Nat} {fw cut : Nat → Bool} {k : Nat → Nat} {l q : Nat} (hn : 1 ≤ np) (hE : ∀ l, l < nl → a l < np ∧ b l < np) (hab : ∀ l, l < nl → a l ≠ b l) (h : cut l = false) : ndl np nl a b fw (fun l => !cut l) (fun p => (k p).testBit q) l = wvp (prc nl a b c fw (fun i => !cut i && !false) (fun p => decide (p < np) && (k p).testBit q) np) (prc nl a b c fw (fun i => !cut i && !decide (i = l)) (fun p => decide (p < np) && (k p).testBit q) np) np := by
  have hK : ∀ p, (fun p => decide (p < np) && (k p).testBit q) p = true → p < np := fun p z => by
    have z2 : (decide (p < np) && (k p).testBit q) = true := z
    rw [Bool.and_eq_true] at z2
    exact of_decide_eq_true z2.1
  have cg : ∀ U m p, p < np → rch nl a b fw U (fun p => (k p).testBit q) m p = rch nl a b fw U (fun p => decide (p < np) && (k p).testBit q) m p := fun U m p hp => rch_congr hE (fun p hp => by rw [decide_eq_true hp, Bool.true_and]) m p hp
  have e1 : ∀ p, p < np → rch nl a b fw (fun l => !cut l) (fun p => (k p).testBit q) (np - 1) p = (prc nl a b c fw (fun i => !cut i && !false) (fun p => decide (p < np) && (k p).testBit q) np p).isSome := fun p hp => by
    rw [cg _ _ p hp, rch_prc hE hab hK hn p, prc_congr (V := fun i => !cut i && !false) (fun i _ => by rw [Bool.not_false, Bool.and_true])]
  have e2 : ∀ p, p < np → rch nl a b fw (fun i => !cut i && !decide (i = l)) (fun p => (k p).testBit q) (np - 1) p = (prc nl a b c fw (fun i => !cut i && !decide (i = l)) (fun p => decide (p < np) && (k p).testBit q) np p).isSome := fun p hp => by
    rw [cg _ _ p hp, rch_prc hE hab hK hn p]
  rw [Bool.eq_iff_iff, wvp_iff]
  unfold ndl
  dsimp only
  rw [show (!cut l) = true by rw [h]; rfl, Bool.true_and, Bool.not_eq_true', decide_eq_false_iff_not]
  constructor
  · intro z
    apply Classical.byContradiction
    intro y
    apply z
    intro p hp
    show rch nl a b fw (fun i => !cut i && !decide (i = l)) _ (np - 1) p = rch nl a b fw (fun l => !cut l) _ (np - 1) p
    rw [e1 p hp, e2 p hp]
    cases hA : (prc nl a b c fw (fun i => !cut i && !false) (fun p => decide (p < np) && (k p).testBit q) np p).isSome with
    | true =>
      cases hB : (prc nl a b c fw (fun i => !cut i && !decide (i = l)) (fun p => decide (p < np) && (k p).testBit q) np p).isSome with
      | true => rfl
      | false => exact absurd ⟨p, hp, hA, by rw [Option.isSome_eq_false_iff] at hB; exact hB⟩ y
    | false =>
      have := e1 p hp
      rw [hA] at this
      cases hB : (prc nl a b c fw (fun i => !cut i && !decide (i = l)) (fun p => decide (p < np) && (k p).testBit q) np p).isSome with
      | false => rfl
      | true =>
        have h2 := e2 p hp
        rw [hB] at h2
        have h3 := rch_del (nl := nl) (a := a) (b := b) (fw := fw) (K := fun p => (k p).testBit q) (V := fun i => !cut i && !decide (i = l)) (U := fun i => !cut i) (fun i z => (Bool.and_eq_true _ _ ▸ z).1) (np - 1) p h2
        rw [this] at h3
        exact absurd h3 (by decide)
  · rintro ⟨p, hp, h1, h2⟩ z
    have h3 := z p hp
    have h4 : rch nl a b fw (fun i => !cut i && !decide (i = l)) (fun p => (k p).testBit q) (np - 1) p = rch nl a b fw (fun l => !cut l) (fun p => (k p).testBit q) (np - 1) p := h3
    rw [e1 p hp, e2 p hp, h1] at h4
    rw [Option.isNone_iff_eq_none.mp h2] at h4
    exact absurd h4 (by decide)
set_option maxRecDepth 100000 in
set_option maxHeartbeats 4000000 in
theorem kW_soonest (l : Launch) (D : va_G) (cT : Nat → ClassId) {np nl : Nat} {a b c : Nat → Nat} {fw : Nat → Bool} {nb : Nat} {wb fb ub : Nat → Nat} {na : Nat} {wa fa ua : Nat → Nat} {cut S : Nat → Bool} {k : Nat → Nat} {rounds calls : Nat} {qw q_l q_b q_a q_k q_s : Nat} {A_l A_b A_a : Nat → Nat} {bs bg bc : Int32} {f0 f1 f2 f3 f4 f5 : Nat → Int32} {vb vw : Nat → Nat → Int32} {kn : Nat → Int32} (hE : hLn np nl a b c fw f0 f1 f2 f3) (hc : hFl nl cut f4) (hS : hFl nl S f5) (hb : hRw nb nl wb fb ub vb) (ha : hRw na np wa fa ua vw) (hk : hK np k kn) {p q : Nat} (hp : p < np) (hq : q < np) (hr : rounds ≤ 100) : sE l yX12_soonest (zw yX12_soonest cX12_soonest 7 (some .int)) (zRA 8 61 610) 61 610 (some .int) D cT [.ref qw, .int (nI p), .int (nI q)] ((q_k, .inl (cT 0, np, .inl kn)) :: zWb cT qw q_l q_b q_a q_k q_s (nI np) (nI nl) (nI rounds) (nI calls) bs bg bc nl nb na A_l A_b A_a f0 f1 f2 f3 f4 f5 vb vw) (fun r W => r = some (.int (fst1 (fun w => kws nl a b fw (fun w => usb nb na wb fb ub wa fa ua a b cut (rounds + w + 1)) (fun p => (k p).testBit q) w p) 61 0)) ∧ W = (q_k, .inl (cT 0, np, .inl kn)) :: zWb cT qw q_l q_b q_a q_k q_s (nI np) (nI nl) (nI rounds) (nI calls) bs bg bc nl nb na A_l A_b A_a f0 f1 f2 f3 f4 f5 vb vw) := by
  have hnp := hE.1
  have hnl := hE.2.1
  refine sE_int rfl (Nat.le_of_ble_eq_true rfl) ?_
  intro X C hR
  have L35 : ∀ (k9 n9 ar w : Nat) (F : va_W) (rw : Nat → Int32), k9 ≤ 61 → n9 ≤ 610 → w ≤ 60 → (∀ y : Int32, hB nl (usb nb na wb fb ub wa fa ua a b cut (rounds + w + 1)) y → sW X l (zRA 8 61 610) D 7 k9 n9 77 [(0, .ref qw), (1, .int (nI p)), (2, .int (nI q)), (3, .ref ar), (4, .int (nI w)), (5, .int y)] [] (([(ar, .inl (cT 0, np, .inl rw))] : va_W) ++ (F ++ (zWb cT qw q_l q_b q_a q_k q_s (nI np) (nI nl) (nI rounds) (nI calls) bs bg bc nl nb na A_l A_b A_a f0 f1 f2 f3 f4 f5 vb vw ++ ([]))))) → ∀ (d l0 : Nat) (x : Int32), l0 ≤ nl → nl - l0 < d → hB nl (fun i => decide (i < l0) && (usb nb na wb fb ub wa fa ua a b cut (rounds + w + 1)) i) x → sW X l (zRA 8 61 610) D 7 k9 n9 35 [(0, .ref qw), (1, .int (nI p)), (2, .int (nI q)), (3, .ref ar), (4, .int (nI w)), (5, .int x), (6, .int (nI l0))] [] (([(ar, .inl (cT 0, np, .inl rw))] : va_W) ++ (F ++ (zWb cT qw q_l q_b q_a q_k q_s (nI np) (nI nl) (nI rounds) (nI calls) bs bg bc nl nb na A_l A_b A_a f0 f1 f2 f3 f4 f5 vb vw ++ ([])))) := by
    intro k9 n9 ar w F rw hk9 hn9 hw kk d
    induction d with
    | zero => intro l0 x h1 h2; omega
    | succ d ih =>
      intro l0 x h1 h2 h3
      refine xi_iload C 6 dX12_soonest_35 rfl ?_
      refine xi_aload_n C 0 dX12_soonest_37 rfl ?_
      refine xi_get C zkX12 1 _ zlX12_46 (by decide) (zap2 rfl (zap2 rfl (zap1 (zWb_w)))) rfl dX12_soonest_38 ?_
      refine xi_icmp_ge C (tgt := 77) dX12_soonest_41 rfl (fun c1 => ?_) (fun c1 => ?_)
      · have e := nll c1 (by omega) (by omega)
        have e2 : l0 = nl := by omega
        subst e2
        refine xi_drop (L2 := [(0, .ref qw), (1, .int (nI p)), (2, .int (nI q)), (3, .ref ar), (4, .int (nI w)), (5, .int x)]) [0, 1, 2, 3, 4, 5] rfl ?_
        exact kk x (hB_congr h3 (fun i hi => by rw [decide_eq_true hi, Bool.true_and]))
      · have hl := nln c1 (by omega) (by omega)
        refine xi_aload_n C 0 dX12_soonest_44 rfl ?_
        refine xi_iload C 6 dX12_soonest_45 rfl ?_
        refine xi_aload_n C 0 dX12_soonest_47 rfl ?_
        refine xi_get C zkX12 2 _ zlX12_96 (by decide) (zap2 rfl (zap2 rfl (zap1 (zWb_w)))) rfl dX12_soonest_48 ?_
        refine xi_iload C 4 dX12_soonest_51 rfl ?_
        refine xi_iadd C dX12_soonest_53 ?_
        refine xi_rwi (y := nI (rounds + w)) (nI_add rounds w) ?_
        refine xi_iconst C (v := 1) dX12_soonest_54 rfl ?_
        refine xi_iadd C dX12_soonest_55 ?_
        refine xi_rwi (y := nI (rounds + w + 1)) (nI_1 (rounds + w)) ?_
        refine xi_callEV C (sE_of_sM (kX12_usable l D cT qw q_l q_b q_a q_k q_s A_l A_b A_a nl nb na (nI np) (nI nl) (nI rounds) (nI calls) bs bg bc f0 f1 f2 f3 f4 f5 vb vw (nI l0) (nI (rounds + w + 1)) (by omega) _ (wUsable hE hl (by omega) hc hb ha))) (([(ar, .inl (cT 0, np, .inl rw))] : va_W) ++ (F ++ ([]))) (by have h := permX (bs := [([(ar, .inl (cT 0, np, .inl rw))] : va_W), F, zWb cT qw q_l q_b q_a q_k q_s (nI np) (nI nl) (nI rounds) (nI calls) bs bg bc nl nb na A_l A_b A_a f0 f1 f2 f3 f4 f5 vb vw]) (A := [zWb cT qw q_l q_b q_a q_k q_s (nI np) (nI nl) (nI rounds) (nI calls) bs bg bc nl nb na A_l A_b A_a f0 f1 f2 f3 f4 f5 vb vw]) (B := [([(ar, .inl (cT 0, np, .inl rw))] : va_W), F]) (n := 3) rfl [2, 0, 1] rfl (by decide) flat1; simp only [List.flatten_cons, List.flatten_nil] at h; exact h) zcX12_usable zmX12_77 ziX12_usable (zrE rfl rfl) ⟨(by show k9 + 0 ≤ 61; omega), (by show n9 + 0 ≤ 610; omega)⟩ rfl zkX12.1 (qr := 0) rfl rfl (Nat.le_of_ble_eq_true rfl) dX12_soonest_56 (fun v2 W3 hv4 _ => ?_)
        obtain ⟨rfl, rfl⟩ := hv4
        refine xi_eqw (ws2 := zWb cT qw q_l q_b q_a q_k q_s (nI np) (nI nl) (nI rounds) (nI calls) bs bg bc nl nb na A_l A_b A_a f0 f1 f2 f3 f4 f5 vb vw ++ (([(ar, .inl (cT 0, np, .inl rw))] : va_W) ++ (F ++ ([])))) rfl ?_
        refine xi_permL (ws2 := ([(ar, .inl (cT 0, np, .inl rw))] : va_W) ++ (F ++ (zWb cT qw q_l q_b q_a q_k q_s (nI np) (nI nl) (nI rounds) (nI calls) bs bg bc nl nb na A_l A_b A_a f0 f1 f2 f3 f4 f5 vb vw ++ ([])))) (by have h := permR (bs := [zWb cT qw q_l q_b q_a q_k q_s (nI np) (nI nl) (nI rounds) (nI calls) bs bg bc nl nb na A_l A_b A_a f0 f1 f2 f3 f4 f5 vb vw, ([(ar, .inl (cT 0, np, .inl rw))] : va_W), F]) (bs2 := [([(ar, .inl (cT 0, np, .inl rw))] : va_W), F, zWb cT qw q_l q_b q_a q_k q_s (nI np) (nI nl) (nI rounds) (nI calls) bs bg bc nl nb na A_l A_b A_a f0 f1 f2 f3 f4 f5 vb vw]) (n := 3) rfl [1, 2, 0] rfl (by decide); simp only [List.flatten_cons, List.flatten_nil] at h; exact h) ?_
        cases hu : (usb nb na wb fb ub wa fa ua a b cut (rounds + w + 1)) l0 with
        | false =>
          refine xi_rwi (y := 0) ifF ?_
          refine xi_if_eq C (tgt := 71) dX12_soonest_59 rfl (fun c5 => ?_) (fun c5 => False.elim ((fun z : ¬ ((0 : Int32) = 0) => z rfl) c5))
          refine xi_iinc C (v := nI (l0 + 1)) 6 [1, 2, 3, 4, 5, 6, 0] (L2 := [(0, .ref qw), (1, .int (nI p)), (2, .int (nI q)), (3, .ref ar), (4, .int (nI w)), (5, .int x), (6, .int (nI (l0 + 1)))]) dX12_soonest_71 rfl (nI_1 l0) (Nat.le_of_ble_eq_true rfl) rfl ?_
          refine xi_goto C (tgt := 35) dX12_soonest_74 rfl ?_
          exact ih (l0 + 1) x (by omega) (by omega) (hB_congr h3 (fun i _ => by
            by_cases z : i = l0
            · rw [z, hu, Bool.and_false, Bool.and_false]
            · rw [decs z]))
        | true =>
          refine xi_rwi (y := 1) ifT ?_
          refine xi_if_eq C (tgt := 71) dX12_soonest_59 rfl (fun c6 => False.elim ((fun z : ((1 : Int32) = 0) => one0 z) c6)) (fun c6 => ?_)
          refine xi_iload C 5 dX12_soonest_62 rfl ?_
          refine xi_iconst C (v := 1) dX12_soonest_64 rfl ?_
          refine xi_iload C 6 dX12_soonest_65 rfl ?_
          refine xi_ishl C dX12_soonest_67 ?_
          refine xi_ior C dX12_soonest_68 ?_
          refine xi_istore C [1, 2, 3, 4, 5, 0, 6] (L2 := [(0, .ref qw), (1, .int (nI p)), (2, .int (nI q)), (3, .ref ar), (4, .int (nI w)), (5, .int (x ||| ((1 : Int32) <<< ((nI l0) &&& 31)))), (6, .int (nI l0))]) dX12_soonest_69 (Nat.le_of_ble_eq_true rfl) rfl ?_
          refine xi_iinc C (v := nI (l0 + 1)) 6 [1, 2, 3, 4, 5, 6, 0] (L2 := [(0, .ref qw), (1, .int (nI p)), (2, .int (nI q)), (3, .ref ar), (4, .int (nI w)), (5, .int (x ||| ((1 : Int32) <<< ((nI l0) &&& 31)))), (6, .int (nI (l0 + 1)))]) dX12_soonest_71 rfl (nI_1 l0) (Nat.le_of_ble_eq_true rfl) rfl ?_
          refine xi_goto C (tgt := 35) dX12_soonest_74 rfl ?_
          exact ih (l0 + 1) _ (by omega) (by omega) (hB_congr (hB_or1 h3 hl (by omega)) (fun i hi => by
            by_cases z : i = l0
            · rw [z, hu, decide_eq_true (rfl : l0 = l0), decide_eq_true (show l0 < l0 + 1 by omega), Bool.or_true, Bool.true_and]
            · rw [decs z, decide_eq_false z, Bool.or_false]))
  have L8 : ∀ (d w ar : Nat) (k0 : Nat → Nat) (F : va_W) (rw : Nat → Int32), w ≤ 61 → 61 - w = d → hK np k0 rw → (∀ p, p < np → (k0 p).testBit q = kws nl a b fw (fun w => usb nb na wb fb ub wa fa ua a b cut (rounds + w + 1)) (fun p => (k p).testBit q) w p) → ((q_k, .inl (cT 0, np, .inl kn)) :: zWb cT qw q_l q_b q_a q_k q_s (nI np) (nI nl) (nI rounds) (nI calls) bs bg bc nl nb na A_l A_b A_a f0 f1 f2 f3 f4 f5 vb vw).Sublist ([(ar, .inl (cT 0, np, .inl rw))] ++ (F ++ (zWb cT qw q_l q_b q_a q_k q_s (nI np) (nI nl) (nI rounds) (nI calls) bs bg bc nl nb na A_l A_b A_a f0 f1 f2 f3 f4 f5 vb vw ++ []))) → (∀ x : Int32, x = fst1 (fun w => kws nl a b fw (fun w => usb nb na wb fb ub wa fa ua a b cut (rounds + w + 1)) (fun p => (k p).testBit q) w p) d w → x = fst1 (fun w => kws nl a b fw (fun w => usb nb na wb fb ub wa fa ua a b cut (rounds + w + 1)) (fun p => (k p).testBit q) w p) 61 0) → sW X l (zRA 8 61 610) D 7 w (10 * w) 8 [(0, .ref qw), (1, .int (nI p)), (2, .int (nI q)), (3, .ref ar), (4, .int (nI w))] [] (([(ar, .inl (cT 0, np, .inl rw))] : va_W) ++ (F ++ (zWb cT qw q_l q_b q_a q_k q_s (nI np) (nI nl) (nI rounds) (nI calls) bs bg bc nl nb na A_l A_b A_a f0 f1 f2 f3 f4 f5 vb vw ++ ([])))) := by
    intro d
    induction d with
    | zero =>
      intro w ar k0 F rw h1 h2 h3 h4 h5 h6
      refine xi_iload C 4 dX12_soonest_8 rfl ?_
      refine xi_bipush C (v := 60) dX12_soonest_10 rfl ?_
      refine xi_rwi (y := nI 60) rfl ?_
      refine xi_icmp_gt C (tgt := 91) dX12_soonest_12 rfl (fun c7 => ?_) (fun c7 => False.elim ((fun z => z (nI_lt (a := 60) (b := w) (by omega) (by omega))) c7))
      refine xi_iconst C (v := (-1)) dX12_soonest_91 rfl ?_
      refine xi_wide (k2 := 61) (n2 := 610) (by omega) (by omega) ?_
      refine xi_less h5 ?_
      exact hR _ _ _ _ dX12_soonest_92 ⟨by rw [← h6 (-1) rfl], rfl⟩
    | succ d ih =>
      intro w ar k0 F rw h1 h2 h3 h4 h5 h6
      refine xi_iload C 4 dX12_soonest_8 rfl ?_
      refine xi_bipush C (v := 60) dX12_soonest_10 rfl ?_
      refine xi_rwi (y := nI 60) rfl ?_
      refine xi_icmp_gt C (tgt := 91) dX12_soonest_12 rfl (fun c8 => False.elim ((fun z => nI_nlt (a := 60) (b := w) (by omega) (by decide) z) c8)) (fun c8 => ?_)
      refine xi_aload_n C 3 dX12_soonest_15 rfl ?_
      refine xi_iload_n C 1 dX12_soonest_16 rfl ?_
      refine xw_iald C _ (zap1 ((rfl : (([(ar, .inl (cT 0, np, .inl rw))] : va_W) : va_W)[0]? = some _))) hp (by omega) dX12_soonest_17 ?_
      refine xi_iload_n C 2 dX12_soonest_18 rfl ?_
      refine xi_ishr C dX12_soonest_19 ?_
      refine xi_iconst C (v := 1) dX12_soonest_20 rfl ?_
      refine xi_iand C dX12_soonest_21 ?_
      refine xi_rwi (y := (if (k0 p).testBit q = true then 1 else 0)) (by rw [(h3 p hp).2]; exact bitN (Nat.lt_of_lt_of_le (hK_lt hnp h3 hp) (by decide)) (by omega)) ?_
      refine xi_iconst C (v := 1) dX12_soonest_22 rfl ?_
      cases hu : (k0 p).testBit q with
      | true =>
        refine xi_rwi2 (y := 1) ifT ?_
        refine xi_icmp_ne C (tgt := 29) dX12_soonest_23 rfl (fun c9 => False.elim ((fun z : ¬ ((1 : Int32) = 1) => z rfl) c9)) (fun c9 => ?_)
        refine xi_iload C 4 dX12_soonest_26 rfl ?_
        refine xi_wide (k2 := 61) (n2 := 610) (by omega) (by omega) ?_
        refine xi_less h5 ?_
        exact hR _ _ _ _ dX12_soonest_28 ⟨by rw [← h6 (nI w) (by show nI w = if kws nl a b fw (fun w => usb nb na wb fb ub wa fa ua a b cut (rounds + w + 1)) (fun p => (k p).testBit q) w p = true then nI w else _; rw [← h4 p hp, hu, if_pos rfl])], rfl⟩
      | false =>
        refine xi_rwi2 (y := 0) ifF ?_
        refine xi_icmp_ne C (tgt := 29) dX12_soonest_23 rfl (fun c10 => ?_) (fun c10 => False.elim ((fun z : ((0 : Int32) = 1) => absurd z (by decide)) c10))
        refine xi_iconst C (v := 0) dX12_soonest_29 rfl ?_
        refine xi_istore C [1, 2, 3, 4, 5, 0] (L2 := [(0, .ref qw), (1, .int (nI p)), (2, .int (nI q)), (3, .ref ar), (4, .int (nI w)), (5, .int 0)]) dX12_soonest_30 (Nat.le_of_ble_eq_true rfl) rfl ?_
        refine xi_iconst C (v := 0) dX12_soonest_32 rfl ?_
        refine xi_istore C [1, 2, 3, 4, 5, 6, 0] (L2 := [(0, .ref qw), (1, .int (nI p)), (2, .int (nI q)), (3, .ref ar), (4, .int (nI w)), (5, .int 0), (6, .int 0)]) dX12_soonest_33 (Nat.le_of_ble_eq_true rfl) rfl ?_
        refine L35 w (10 * w) ar w F rw (by omega) (by omega) (by omega) (fun y hy => ?_) (nl + 1) 0 0 (Nat.zero_le _) (by omega) (fun i hi => by rw [ib_0]; cases decide (i < nl) <;> rfl)
        refine xi_aload_n C 0 dX12_soonest_77 rfl ?_
        refine xi_iload C 5 dX12_soonest_78 rfl ?_
        refine xi_aload_n C 3 dX12_soonest_80 rfl ?_
        obtain ⟨r2, hr2, hk2⟩ := wAfter hE h3 hy
        refine xi_callEV C (kX12_after l D cT qw q_l q_b q_a q_k q_s ar A_l A_b A_a nl nb na np (nI np) (nI nl) (nI rounds) (nI calls) bs bg bc f0 f1 f2 f3 f4 f5 vb vw rw y (by omega) (by omega) _ hr2) (F ++ ([])) (by have h := permX (bs := [([(ar, .inl (cT 0, np, .inl rw))] : va_W), F, zWb cT qw q_l q_b q_a q_k q_s (nI np) (nI nl) (nI rounds) (nI calls) bs bg bc nl nb na A_l A_b A_a f0 f1 f2 f3 f4 f5 vb vw]) (A := [([(ar, .inl (cT 0, np, .inl rw))] : va_W), zWb cT qw q_l q_b q_a q_k q_s (nI np) (nI nl) (nI rounds) (nI calls) bs bg bc nl nb na A_l A_b A_a f0 f1 f2 f3 f4 f5 vb vw]) (B := [F]) (n := 3) rfl [0, 2, 1] rfl (by decide) flatXA; simp only [List.flatten_cons, List.flatten_nil] at h; exact h) zcX12_after zmX12_102 ziX12_after (zrA rfl rfl) ⟨(by show w + 1 ≤ 61; omega), (by show 10 * w + 10 ≤ 610; omega)⟩ rfl zkX12.1 (qr := 1) rfl rfl (Nat.le_of_ble_eq_true rfl) dX12_soonest_81 (fun v11 W12 hv13 _ => ?_)
        obtain ⟨an, rfl, rfl⟩ := hv13
        refine xi_eqw (ws2 := ([(an, .inl (cT 0, np, .inl r2))] : va_W) ++ (([(ar, .inl (cT 0, np, .inl rw))] : va_W) ++ (zWb cT qw q_l q_b q_a q_k q_s (nI np) (nI nl) (nI rounds) (nI calls) bs bg bc nl nb na A_l A_b A_a f0 f1 f2 f3 f4 f5 vb vw ++ (F ++ ([]))))) rfl ?_
        refine xi_permL (ws2 := ([(an, .inl (cT 0, np, .inl r2))] : va_W) ++ (([(ar, .inl (cT 0, np, .inl rw))] : va_W) ++ (F ++ (zWb cT qw q_l q_b q_a q_k q_s (nI np) (nI nl) (nI rounds) (nI calls) bs bg bc nl nb na A_l A_b A_a f0 f1 f2 f3 f4 f5 vb vw ++ ([]))))) (by have h := permR (bs := [([(an, .inl (cT 0, np, .inl r2))] : va_W), ([(ar, .inl (cT 0, np, .inl rw))] : va_W), zWb cT qw q_l q_b q_a q_k q_s (nI np) (nI nl) (nI rounds) (nI calls) bs bg bc nl nb na A_l A_b A_a f0 f1 f2 f3 f4 f5 vb vw, F]) (bs2 := [([(an, .inl (cT 0, np, .inl r2))] : va_W), ([(ar, .inl (cT 0, np, .inl rw))] : va_W), F, zWb cT qw q_l q_b q_a q_k q_s (nI np) (nI nl) (nI rounds) (nI calls) bs bg bc nl nb na A_l A_b A_a f0 f1 f2 f3 f4 f5 vb vw]) (n := 4) rfl [0, 1, 3, 2] rfl (by decide); simp only [List.flatten_cons, List.flatten_nil] at h; exact h) ?_
        refine xi_astore_n C [1, 2, 3, 0, 4, 5] (L2 := [(0, .ref qw), (1, .int (nI p)), (2, .int (nI q)), (3, .ref an), (4, .int (nI w)), (5, .int y)]) dX12_soonest_84 (Nat.le_of_ble_eq_true rfl) rfl ?_
        refine xi_iinc C (v := nI (w + 1)) 4 [1, 2, 3, 4, 0, 5] (L2 := [(0, .ref qw), (1, .int (nI p)), (2, .int (nI q)), (3, .ref an), (4, .int (nI (w + 1))), (5, .int y)]) dX12_soonest_85 rfl (nI_1 w) (Nat.le_of_ble_eq_true rfl) rfl ?_
        refine xi_goto C (tgt := 8) dX12_soonest_88 rfl ?_
        refine xi_drop (L2 := [(0, .ref qw), (1, .int (nI p)), (2, .int (nI q)), (3, .ref an), (4, .int (nI (w + 1)))]) [0, 1, 2, 3, 4] rfl ?_
        refine ih (w + 1) an (aft a b fw (usb nb na wb fb ub wa fa ua a b cut (rounds + w + 1)) k0 nl) ([(ar, .inl (cT 0, np, .inl rw))] ++ F) r2 (by omega) (by omega) hk2 (fun p hp => ?_) ?_ (fun x hx => h6 x ?_)
        · rw [spr_aft]
          exact spr_congr (np := np) (fun l hl => ⟨(hE.2.2 l hl).1, (hE.2.2 l hl).2.1⟩) (fun p hp => h4 p hp) nl (Nat.le_refl _) p hp
        · exact h5.trans (List.sublist_append_right [_] _)
        · show x = if kws nl a b fw (fun w => usb nb na wb fb ub wa fa ua a b cut (rounds + w + 1)) (fun p => (k p).testBit q) w p = true then nI w else _
          rw [← h4 p hp, hu, ifF]
          exact hx
  refine xi_eqw (ws2 := ([(q_k, .inl (cT 0, np, .inl kn))] : va_W) ++ (([] : va_W) ++ (zWb cT qw q_l q_b q_a q_k q_s (nI np) (nI nl) (nI rounds) (nI calls) bs bg bc nl nb na A_l A_b A_a f0 f1 f2 f3 f4 f5 vb vw ++ ([])))) (by rw [List.append_nil]; rfl) ?_
  refine xi_drop (L2 := [(0, .ref qw), (1, .int (nI p)), (2, .int (nI q))]) [0, 1, 2] rfl ?_
  refine xi_aload_n C 0 dX12_soonest_0 rfl ?_
  refine xi_get C zkX12 7 _ zlX12_89 (by decide) (zap2 rfl (zap2 rfl (zap1 (zWb_w)))) rfl dX12_soonest_1 ?_
  refine xi_astore_n C [1, 2, 3, 0] (L2 := [(0, .ref qw), (1, .int (nI p)), (2, .int (nI q)), (3, .ref q_k)]) dX12_soonest_4 (Nat.le_of_ble_eq_true rfl) rfl ?_
  refine xi_iconst C (v := 0) dX12_soonest_5 rfl ?_
  refine xi_istore C [1, 2, 3, 4, 0] (L2 := [(0, .ref qw), (1, .int (nI p)), (2, .int (nI q)), (3, .ref q_k), (4, .int 0)]) dX12_soonest_6 (Nat.le_of_ble_eq_true rfl) rfl ?_
  exact L8 61 0 q_k k [] kn (by decide) rfl hk (fun p _ => rfl) (by rw [List.append_nil]; exact List.Sublist.refl _) (fun x hx => hx)
theorem nI_m1 {l : Nat} (h : l < 2 ^ 31) : ¬ nI l = -1 := fun z => by
  have e1 : (nI l).toInt = (l : Int) := nI_toInt h
  rw [z] at e1
  have e2 : (-1 : Int32).toInt = -1 := rfl
  omega
set_option maxRecDepth 100000 in
set_option maxHeartbeats 4000000 in
theorem kW_vital (l : Launch) (D : va_G) (cT : Nat → ClassId) {np nl : Nat} {a b c : Nat → Nat} {fw : Nat → Bool} {nb : Nat} {wb fb ub : Nat → Nat} {na : Nat} {wa fa ua : Nat → Nat} {cut S : Nat → Bool} {k : Nat → Nat} {rounds calls : Nat} {qw q_l q_b q_a q_k q_s : Nat} {A_l A_b A_a : Nat → Nat} {bs bg bc : Int32} {f0 f1 f2 f3 f4 f5 : Nat → Int32} {vb vw : Nat → Nat → Int32} {kn : Nat → Int32} (hE : hLn np nl a b c fw f0 f1 f2 f3) (hc : hFl nl cut f4) (hS : hFl nl S f5) (hb : hRw nb nl wb fb ub vb) (ha : hRw na np wa fa ua vw) (hk : hK np k kn) (h2 : 2 ≤ np) (hc4 : ∀ l, l < nl → c l ≤ 4) : sE l yX12_vital (zw yX12_vital cX12_vital 7 (some .int)) (zRA 5 112 1120) 112 1120 (some .int) D cT [.ref qw] ((q_k, .inl (cT 0, np, .inl kn)) :: zWb cT qw q_l q_b q_a q_k q_s (nI np) (nI nl) (nI rounds) (nI calls) bs bg bc nl nb na A_l A_b A_a f0 f1 f2 f3 f4 f5 vb vw) (fun r W => (∃ x, r = some (.int x) ∧ hB nl (fun l => vtl np nl a b fw cut k np l) x) ∧ W = (q_k, .inl (cT 0, np, .inl kn)) :: zWb cT qw q_l q_b q_a q_k q_s (nI np) (nI nl) (nI rounds) (nI calls) bs bg bc nl nb na A_l A_b A_a f0 f1 f2 f3 f4 f5 vb vw) := by
  have hnp := hE.1
  have hnl := hE.2.1
  have hE2 : ∀ l, l < nl → a l < np ∧ b l < np := fun l hl => ⟨(hE.2.2 l hl).1, (hE.2.2 l hl).2.1⟩
  have hab : ∀ l, l < nl → a l ≠ b l := fun l hl => (hE.2.2 l hl).2.2.1
  refine sE_int rfl (Nat.le_of_ble_eq_true rfl) ?_
  intro X C hR
  have L56 : ∀ (k9 n9 an bn l0 q0 : Nat) (F : va_W) (P Q : Nat → Option Nat) (ra rb : Nat → Int32) (Wf : Nat → Bool), l0 < nl → (∀ p, p < np → ra p = enc TOP (P p) ∧ rb p = enc TOP (Q p)) → (∀ p v, P p = some v → v < 99999) → (∀ p v, Q p = some v → v < 99999) → (∀ y : Int32, hB nl (fun i => Wf i || (decide (i = l0) && wvp P Q np)) y → sW X l (zRA 5 112 1120) D 7 k9 n9 97 [(0, .ref qw), (1, .int y), (2, .int (nI l0)), (3, .int (nI q0)), (4, .ref an), (5, .ref bn)] [] (([(bn, .inl (cT 0, np, .inl rb))] : va_W) ++ (([(an, .inl (cT 0, np, .inl ra))] : va_W) ++ (([(q_k, .inl (cT 0, np, .inl kn))] : va_W) ++ (F ++ (zWb cT qw q_l q_b q_a q_k q_s (nI np) (nI nl) (nI rounds) (nI calls) bs bg bc nl nb na A_l A_b A_a f0 f1 f2 f3 f4 f5 vb vw ++ ([]))))))) → ∀ (d p0 : Nat) (x : Int32), p0 ≤ np → np - p0 < d → hB nl (fun i => Wf i || (decide (i = l0) && wvp P Q p0)) x → sW X l (zRA 5 112 1120) D 7 k9 n9 56 [(0, .ref qw), (1, .int x), (2, .int (nI l0)), (3, .int (nI q0)), (4, .ref an), (5, .ref bn), (6, .int (nI p0))] [] (([(bn, .inl (cT 0, np, .inl rb))] : va_W) ++ (([(an, .inl (cT 0, np, .inl ra))] : va_W) ++ (([(q_k, .inl (cT 0, np, .inl kn))] : va_W) ++ (F ++ (zWb cT qw q_l q_b q_a q_k q_s (nI np) (nI nl) (nI rounds) (nI calls) bs bg bc nl nb na A_l A_b A_a f0 f1 f2 f3 f4 f5 vb vw ++ ([])))))) := by
    intro k9 n9 an bn l0 q0 F P Q ra rb Wf hl hab2 hP hQ kk d
    induction d with
    | zero => intro p0 x h1 h2; omega
    | succ d ih =>
      intro p0 x h1 h2 h3
      refine xi_iload C 6 dX12_vital_56 rfl ?_
      refine xi_aload_n C 0 dX12_vital_58 rfl ?_
      refine xi_get C zkX12 0 _ zlX12_86 (by decide) (zap2 rfl (zap2 rfl (zap2 rfl (zap2 rfl (zap1 (zWb_w)))))) rfl dX12_vital_59 ?_
      refine xi_icmp_ge C (tgt := 97) dX12_vital_62 rfl (fun c14 => ?_) (fun c14 => ?_)
      · have e := nll c14 (by omega) (by omega)
        have e2 : p0 = np := by omega
        subst e2
        refine xi_drop (L2 := [(0, .ref qw), (1, .int x), (2, .int (nI l0)), (3, .int (nI q0)), (4, .ref an), (5, .ref bn)]) [0, 1, 2, 3, 4, 5] rfl ?_
        exact kk x h3
      · have hp := nln c14 (by omega) (by omega)
        refine xi_aload C 4 dX12_vital_65 rfl ?_
        refine xi_iload C 6 dX12_vital_67 rfl ?_
        refine xw_iald C _ (zap2 rfl (zap1 ((rfl : (([(an, .inl (cT 0, np, .inl ra))] : va_W) : va_W)[0]? = some _)))) hp (by omega) dX12_vital_69 ?_
        refine xi_rwi (y := enc TOP (P p0)) (hab2 p0 hp).1 ?_
        refine xi_ldc C (v := 99999) zcoX12_106 dX12_vital_70 ?_
        cases hPp : P p0 with
        | none =>
          refine xi_rwi2 (y := 99999) rfl ?_
          refine xi_icmp_ge C (tgt := 91) dX12_vital_72 rfl (fun c15 => ?_) (fun c15 => False.elim ((fun z : ¬ ((99999 : Int32) ≤ 99999) => z (by decide)) c15))
          refine xi_iinc C (v := nI (p0 + 1)) 6 [1, 2, 3, 4, 5, 6, 0] (L2 := [(0, .ref qw), (1, .int x), (2, .int (nI l0)), (3, .int (nI q0)), (4, .ref an), (5, .ref bn), (6, .int (nI (p0 + 1)))]) dX12_vital_91 rfl (nI_1 p0) (Nat.le_of_ble_eq_true rfl) rfl ?_
          refine xi_goto C (tgt := 56) dX12_vital_94 rfl ?_
          exact ih (p0 + 1) _ (by omega) (by omega) (hB_congr h3 (fun i _ => by
            show _ = (Wf i || (decide (i = l0) && (wvp P Q p0 || ((P p0).isSome && (Q p0).isNone))))
            rw [hPp]; simp))
        | some v =>
          have hv := hP p0 v hPp
          refine xi_rwi2 (y := nI v) rfl ?_
          refine xi_rwi (y := nI 99999) rfl ?_
          refine xi_icmp_ge C (tgt := 91) dX12_vital_72 rfl (fun c16 => False.elim ((fun z => absurd (nll z (by decide) (by omega)) (by omega)) c16)) (fun c16 => ?_)
          refine xi_aload C 5 dX12_vital_75 rfl ?_
          refine xi_iload C 6 dX12_vital_77 rfl ?_
          refine xw_iald C _ (zap1 ((rfl : (([(bn, .inl (cT 0, np, .inl rb))] : va_W) : va_W)[0]? = some _))) hp (by omega) dX12_vital_79 ?_
          refine xi_rwi (y := enc TOP (Q p0)) (hab2 p0 hp).2 ?_
          refine xi_ldc C (v := 99999) zcoX12_106 dX12_vital_80 ?_
          cases hQp : Q p0 with
          | none =>
            refine xi_rwi2 (y := 99999) rfl ?_
            refine xi_icmp_lt C (tgt := 91) dX12_vital_82 rfl (fun c17 => False.elim ((fun z : ((99999 : Int32) < 99999) => absurd z (by decide)) c17)) (fun c17 => ?_)
            refine xi_iload_n C 1 dX12_vital_85 rfl ?_
            refine xi_iconst C (v := 1) dX12_vital_86 rfl ?_
            refine xi_iload_n C 2 dX12_vital_87 rfl ?_
            refine xi_ishl C dX12_vital_88 ?_
            refine xi_ior C dX12_vital_89 ?_
            refine xi_istore_n C [1, 0, 2, 3, 4, 5, 6] (L2 := [(0, .ref qw), (1, .int (x ||| ((1 : Int32) <<< ((nI l0) &&& 31)))), (2, .int (nI l0)), (3, .int (nI q0)), (4, .ref an), (5, .ref bn), (6, .int (nI p0))]) dX12_vital_90 (Nat.le_of_ble_eq_true rfl) rfl ?_
            refine xi_iinc C (v := nI (p0 + 1)) 6 [1, 2, 3, 4, 5, 6, 0] (L2 := [(0, .ref qw), (1, .int (x ||| ((1 : Int32) <<< ((nI l0) &&& 31)))), (2, .int (nI l0)), (3, .int (nI q0)), (4, .ref an), (5, .ref bn), (6, .int (nI (p0 + 1)))]) dX12_vital_91 rfl (nI_1 p0) (Nat.le_of_ble_eq_true rfl) rfl ?_
            refine xi_goto C (tgt := 56) dX12_vital_94 rfl ?_
            exact ih (p0 + 1) _ (by omega) (by omega) (hB_congr (hB_or1 h3 hl (by omega)) (fun i _ => by
              show _ = (Wf i || (decide (i = l0) && (wvp P Q p0 || ((P p0).isSome && (Q p0).isNone))))
              rw [hPp, hQp]
              by_cases z : i = l0 <;> simp [z]))
          | some u =>
            have hu := hQ p0 u hQp
            refine xi_rwi2 (y := nI u) rfl ?_
            refine xi_rwi (y := nI 99999) rfl ?_
            refine xi_icmp_lt C (tgt := 91) dX12_vital_82 rfl (fun c18 => ?_) (fun c18 => False.elim ((fun z => z (nI_lt (by omega) (by decide))) c18))
            refine xi_iinc C (v := nI (p0 + 1)) 6 [1, 2, 3, 4, 5, 6, 0] (L2 := [(0, .ref qw), (1, .int x), (2, .int (nI l0)), (3, .int (nI q0)), (4, .ref an), (5, .ref bn), (6, .int (nI (p0 + 1)))]) dX12_vital_91 rfl (nI_1 p0) (Nat.le_of_ble_eq_true rfl) rfl ?_
            refine xi_goto C (tgt := 56) dX12_vital_94 rfl ?_
            exact ih (p0 + 1) _ (by omega) (by omega) (hB_congr h3 (fun i _ => by
              show _ = (Wf i || (decide (i = l0) && (wvp P Q p0 || ((P p0).isSome && (Q p0).isNone))))
              rw [hQp]; simp))
  have L29 : ∀ (k9 n9 l0 : Nat) (Wf : Nat → Bool), k9 + 14 ≤ 112 → n9 + 140 ≤ 1120 → l0 < nl → cut l0 = false → (∀ (y : Int32) (F : va_W), hB nl (fun i => Wf i || (decide (i = l0) && vtl np nl a b fw cut k np l0)) y → sW X l (zRA 5 112 1120) D 7 (k9 + 14) (n9 + 140) 103 [(0, .ref qw), (1, .int y), (2, .int (nI l0))] [] (([(q_k, .inl (cT 0, np, .inl kn))] : va_W) ++ (F ++ (zWb cT qw q_l q_b q_a q_k q_s (nI np) (nI nl) (nI rounds) (nI calls) bs bg bc nl nb na A_l A_b A_a f0 f1 f2 f3 f4 f5 vb vw ++ ([]))))) → ∀ (d q0 : Nat) (x : Int32) (F : va_W), q0 ≤ np → np - q0 < d → hB nl (fun i => Wf i || (decide (i = l0) && vtl np nl a b fw cut k q0 l0)) x → sW X l (zRA 5 112 1120) D 7 (k9 + 2 * q0) (n9 + 20 * q0) 29 [(0, .ref qw), (1, .int x), (2, .int (nI l0)), (3, .int (nI q0))] [] (([(q_k, .inl (cT 0, np, .inl kn))] : va_W) ++ (F ++ (zWb cT qw q_l q_b q_a q_k q_s (nI np) (nI nl) (nI rounds) (nI calls) bs bg bc nl nb na A_l A_b A_a f0 f1 f2 f3 f4 f5 vb vw ++ ([])))) := by
    intro k9 n9 l0 Wf hk9 hn9 hl hcl kk d
    induction d with
    | zero => intro q0 x F h1 h2; omega
    | succ d ih =>
      intro q0 x F h1 h2 h3
      refine xi_iload_n C 3 dX12_vital_29 rfl ?_
      refine xi_aload_n C 0 dX12_vital_30 rfl ?_
      refine xi_get C zkX12 0 _ zlX12_86 (by decide) (zap2 rfl (zap2 rfl (zap1 (zWb_w)))) rfl dX12_vital_31 ?_
      refine xi_icmp_ge C (tgt := 103) dX12_vital_34 rfl (fun c19 => ?_) (fun c19 => ?_)
      · have e := nll c19 (by omega) (by omega)
        have e2 : q0 = np := by omega
        subst e2
        refine xi_drop (L2 := [(0, .ref qw), (1, .int x), (2, .int (nI l0))]) [0, 1, 2] rfl ?_
        refine xi_wide (k2 := (k9 + 14)) (n2 := (n9 + 140)) (by omega) (by omega) ?_
        exact kk x F h3
      · have hq := nln c19 (by omega) (by omega)
        obtain ⟨ra, hra, hra2⟩ := wPrices (x2 := -1) (wo := fun _ => false) (q := q0) (by omega) hk hc4 hE hc (fun l hl => ⟨fun z => absurd z (nI_m1 (by omega)), fun z => nofalse z⟩)
        obtain ⟨rb, hrb, hrb2⟩ := wPrices (x2 := nI l0) (wo := fun i => decide (i = l0)) (q := q0) (by omega) hk hc4 hE hc (fun l hl => by rw [nI_eq (by omega) (by omega), decide_eq_true_iff])
        refine xi_aload_n C 0 dX12_vital_37 rfl ?_
        refine xi_iload_n C 3 dX12_vital_38 rfl ?_
        refine xi_iconst C (v := (-1)) dX12_vital_39 rfl ?_
        refine xi_callEV C (kX12_prices l D cT qw q_l q_b q_a q_k q_s A_l A_b A_a nl nb na np (nI np) (nI nl) (nI rounds) (nI calls) bs bg bc f0 f1 f2 f3 f4 f5 vb vw kn (nI q0) (-1) (by omega) _ hra) (F ++ ([])) (by have h := permX (bs := [([(q_k, .inl (cT 0, np, .inl kn))] : va_W), F, zWb cT qw q_l q_b q_a q_k q_s (nI np) (nI nl) (nI rounds) (nI calls) bs bg bc nl nb na A_l A_b A_a f0 f1 f2 f3 f4 f5 vb vw]) (A := [([(q_k, .inl (cT 0, np, .inl kn))] : va_W), zWb cT qw q_l q_b q_a q_k q_s (nI np) (nI nl) (nI rounds) (nI calls) bs bg bc nl nb na A_l A_b A_a f0 f1 f2 f3 f4 f5 vb vw]) (B := [F]) (n := 3) rfl [0, 2, 1] rfl (by decide) flatXA; simp only [List.flatten_cons, List.flatten_nil] at h; exact h) zcX12_prices zmX12_113 ziX12_prices (zrA rfl rfl) ⟨(by show k9 + 2 * q0 + 1 ≤ 112; omega), (by show n9 + 20 * q0 + 10 ≤ 1120; omega)⟩ rfl zkX12.1 (qr := 1) rfl rfl (Nat.le_of_ble_eq_true rfl) dX12_vital_40 (fun v20 W21 hv22 _ => ?_)
        obtain ⟨an, rfl, rfl⟩ := hv22
        refine xi_eqw (ws2 := ([(an, .inl (cT 0, ((nI np).toNatClampNeg), .inl ra))] : va_W) ++ (([(q_k, .inl (cT 0, np, .inl kn))] : va_W) ++ (zWb cT qw q_l q_b q_a q_k q_s (nI np) (nI nl) (nI rounds) (nI calls) bs bg bc nl nb na A_l A_b A_a f0 f1 f2 f3 f4 f5 vb vw ++ (F ++ ([]))))) rfl ?_
        rw [nI_clamp (show np < 2 ^ 31 by omega)]
        refine xi_astore C [1, 2, 3, 4, 0] (L2 := [(0, .ref qw), (1, .int x), (2, .int (nI l0)), (3, .int (nI q0)), (4, .ref an)]) dX12_vital_43 (Nat.le_of_ble_eq_true rfl) rfl ?_
        refine xi_aload_n C 0 dX12_vital_45 rfl ?_
        refine xi_iload_n C 3 dX12_vital_46 rfl ?_
        refine xi_iload_n C 2 dX12_vital_47 rfl ?_
        refine xi_callEV C (kX12_prices l D cT qw q_l q_b q_a q_k q_s A_l A_b A_a nl nb na np (nI np) (nI nl) (nI rounds) (nI calls) bs bg bc f0 f1 f2 f3 f4 f5 vb vw kn (nI q0) (nI l0) (by omega) _ hrb) (([(an, .inl (cT 0, np, .inl ra))] : va_W) ++ (F ++ ([]))) (by have h := permX (bs := [([(an, .inl (cT 0, np, .inl ra))] : va_W), ([(q_k, .inl (cT 0, np, .inl kn))] : va_W), zWb cT qw q_l q_b q_a q_k q_s (nI np) (nI nl) (nI rounds) (nI calls) bs bg bc nl nb na A_l A_b A_a f0 f1 f2 f3 f4 f5 vb vw, F]) (A := [([(q_k, .inl (cT 0, np, .inl kn))] : va_W), zWb cT qw q_l q_b q_a q_k q_s (nI np) (nI nl) (nI rounds) (nI calls) bs bg bc nl nb na A_l A_b A_a f0 f1 f2 f3 f4 f5 vb vw]) (B := [([(an, .inl (cT 0, np, .inl ra))] : va_W), F]) (n := 4) rfl [1, 2, 0, 3] rfl (by decide) flatXA; simp only [List.flatten_cons, List.flatten_nil] at h; exact h) zcX12_prices zmX12_113 ziX12_prices (zrA rfl rfl) ⟨(by show k9 + 2 * q0 + 1 + 1 ≤ 112; omega), (by show n9 + 20 * q0 + 10 + 10 ≤ 1120; omega)⟩ rfl zkX12.1 (qr := 1) rfl rfl (Nat.le_of_ble_eq_true rfl) dX12_vital_48 (fun v23 W24 hv25 _ => ?_)
        obtain ⟨bn, rfl, rfl⟩ := hv25
        refine xi_eqw (ws2 := ([(bn, .inl (cT 0, ((nI np).toNatClampNeg), .inl rb))] : va_W) ++ (([(q_k, .inl (cT 0, np, .inl kn))] : va_W) ++ (zWb cT qw q_l q_b q_a q_k q_s (nI np) (nI nl) (nI rounds) (nI calls) bs bg bc nl nb na A_l A_b A_a f0 f1 f2 f3 f4 f5 vb vw ++ (([(an, .inl (cT 0, np, .inl ra))] : va_W) ++ (F ++ ([])))))) rfl ?_
        rw [nI_clamp (show np < 2 ^ 31 by omega)]
        refine xi_permL (ws2 := ([(bn, .inl (cT 0, np, .inl rb))] : va_W) ++ (([(an, .inl (cT 0, np, .inl ra))] : va_W) ++ (([(q_k, .inl (cT 0, np, .inl kn))] : va_W) ++ (F ++ (zWb cT qw q_l q_b q_a q_k q_s (nI np) (nI nl) (nI rounds) (nI calls) bs bg bc nl nb na A_l A_b A_a f0 f1 f2 f3 f4 f5 vb vw ++ ([])))))) (by have h := permR (bs := [([(bn, .inl (cT 0, np, .inl rb))] : va_W), ([(q_k, .inl (cT 0, np, .inl kn))] : va_W), zWb cT qw q_l q_b q_a q_k q_s (nI np) (nI nl) (nI rounds) (nI calls) bs bg bc nl nb na A_l A_b A_a f0 f1 f2 f3 f4 f5 vb vw, ([(an, .inl (cT 0, np, .inl ra))] : va_W), F]) (bs2 := [([(bn, .inl (cT 0, np, .inl rb))] : va_W), ([(an, .inl (cT 0, np, .inl ra))] : va_W), ([(q_k, .inl (cT 0, np, .inl kn))] : va_W), F, zWb cT qw q_l q_b q_a q_k q_s (nI np) (nI nl) (nI rounds) (nI calls) bs bg bc nl nb na A_l A_b A_a f0 f1 f2 f3 f4 f5 vb vw]) (n := 5) rfl [0, 3, 1, 4, 2] rfl (by decide); simp only [List.flatten_cons, List.flatten_nil] at h; exact h) ?_
        refine xi_astore C [1, 2, 3, 4, 5, 0] (L2 := [(0, .ref qw), (1, .int x), (2, .int (nI l0)), (3, .int (nI q0)), (4, .ref an), (5, .ref bn)]) dX12_vital_51 (Nat.le_of_ble_eq_true rfl) rfl ?_
        refine xi_iconst C (v := 0) dX12_vital_53 rfl ?_
        refine xi_istore C [1, 2, 3, 4, 5, 6, 0] (L2 := [(0, .ref qw), (1, .int x), (2, .int (nI l0)), (3, .int (nI q0)), (4, .ref an), (5, .ref bn), (6, .int 0)]) dX12_vital_54 (Nat.le_of_ble_eq_true rfl) rfl ?_
        refine L56 (k9 + 2 * q0 + 1 + 1) (n9 + 20 * q0 + 10 + 10) an bn l0 q0 F (prc nl a b c fw (fun i => !cut i && !false) (fun p => decide (p < np) && (k p).testBit q0) np) (prc nl a b c fw (fun i => !cut i && !decide (i = l0)) (fun p => decide (p < np) && (k p).testBit q0) np) ra rb (fun i => Wf i || (decide (i = l0) && vtl np nl a b fw cut k q0 l0)) hl (fun p hp => ⟨hra2 p hp, hrb2 p hp⟩) (fun p v z => Nat.lt_of_le_of_lt (prc_bd hc4 np p v z) (Nat.lt_of_le_of_lt (Nat.mul_le_mul (Nat.mul_le_mul_left 4 hnl) hnp) (by decide))) (fun p v z => Nat.lt_of_le_of_lt (prc_bd hc4 np p v z) (Nat.lt_of_le_of_lt (Nat.mul_le_mul (Nat.mul_le_mul_left 4 hnl) hnp) (by decide))) (fun y hy => ?_) (np + 1) 0 x (Nat.zero_le _) (by omega) (hB_congr h3 (fun i _ => by show _ = (_ || (decide (i = l0) && false)); rw [Bool.and_false, Bool.or_false]))
        refine xi_iinc C (v := nI (q0 + 1)) 3 [1, 2, 3, 0, 4, 5] (L2 := [(0, .ref qw), (1, .int y), (2, .int (nI l0)), (3, .int (nI (q0 + 1))), (4, .ref an), (5, .ref bn)]) dX12_vital_97 rfl (nI_1 q0) (Nat.le_of_ble_eq_true rfl) rfl ?_
        refine xi_goto C (tgt := 29) dX12_vital_100 rfl ?_
        refine xi_drop (L2 := [(0, .ref qw), (1, .int y), (2, .int (nI l0)), (3, .int (nI (q0 + 1)))]) [0, 1, 2, 3] rfl ?_
        refine xi_permL (ws2 := ([(q_k, .inl (cT 0, np, .inl kn))] : va_W) ++ (([(bn, .inl (cT 0, np, .inl rb))] : va_W) ++ (([(an, .inl (cT 0, np, .inl ra))] : va_W) ++ (F ++ (zWb cT qw q_l q_b q_a q_k q_s (nI np) (nI nl) (nI rounds) (nI calls) bs bg bc nl nb na A_l A_b A_a f0 f1 f2 f3 f4 f5 vb vw ++ ([])))))) (by have h := permR (bs := [([(bn, .inl (cT 0, np, .inl rb))] : va_W), ([(an, .inl (cT 0, np, .inl ra))] : va_W), ([(q_k, .inl (cT 0, np, .inl kn))] : va_W), F, zWb cT qw q_l q_b q_a q_k q_s (nI np) (nI nl) (nI rounds) (nI calls) bs bg bc nl nb na A_l A_b A_a f0 f1 f2 f3 f4 f5 vb vw]) (bs2 := [([(q_k, .inl (cT 0, np, .inl kn))] : va_W), ([(bn, .inl (cT 0, np, .inl rb))] : va_W), ([(an, .inl (cT 0, np, .inl ra))] : va_W), F, zWb cT qw q_l q_b q_a q_k q_s (nI np) (nI nl) (nI rounds) (nI calls) bs bg bc nl nb na A_l A_b A_a f0 f1 f2 f3 f4 f5 vb vw]) (n := 5) rfl [2, 0, 1, 3, 4] rfl (by decide); simp only [List.flatten_cons, List.flatten_nil] at h; exact h) ?_
        refine xi_wide (k2 := (k9 + 2 * (q0 + 1))) (n2 := (n9 + 20 * (q0 + 1))) (by omega) (by omega) ?_
        refine ih (q0 + 1) y (([(bn, .inl (cT 0, np, .inl rb))] : va_W) ++ (([(an, .inl (cT 0, np, .inl ra))] : va_W) ++ F)) (by omega) (by omega) (hB_congr hy (fun i _ => ?_))
        show _ = (Wf i || (decide (i = l0) && (vtl np nl a b fw cut k q0 l0 || ndl np nl a b fw (fun l => !cut l) (fun p => (k p).testBit q0) l0)))
        rw [ndl_wvp (c := c) (by omega) hE2 hab hcl, Bool.and_or_distrib_left, Bool.or_assoc]
  have L4 : ∀ (d l0 : Nat) (x : Int32) (F : va_W), l0 ≤ nl → nl - l0 < d → hB nl (fun i => decide (i < l0) && vtl np nl a b fw cut k np i) x → sW X l (zRA 5 112 1120) D 7 (14 * l0) (140 * l0) 4 [(0, .ref qw), (1, .int x), (2, .int (nI l0))] [] (([(q_k, .inl (cT 0, np, .inl kn))] : va_W) ++ (F ++ (zWb cT qw q_l q_b q_a q_k q_s (nI np) (nI nl) (nI rounds) (nI calls) bs bg bc nl nb na A_l A_b A_a f0 f1 f2 f3 f4 f5 vb vw ++ ([])))) := by
    intro d
    induction d with
    | zero => intro l0 x F h1 h2; omega
    | succ d ih =>
      intro l0 x F h1 h2 h3
      refine xi_iload_n C 2 dX12_vital_4 rfl ?_
      refine xi_aload_n C 0 dX12_vital_5 rfl ?_
      refine xi_get C zkX12 1 _ zlX12_46 (by decide) (zap2 rfl (zap2 rfl (zap1 (zWb_w)))) rfl dX12_vital_6 ?_
      refine xi_icmp_ge C (tgt := 109) dX12_vital_9 rfl (fun c26 => ?_) (fun c26 => ?_)
      · have e := nll c26 (by omega) (by omega)
        have e2 : nl = l0 := by omega
        subst e2
        refine xi_iload_n C 1 dX12_vital_109 rfl ?_
        refine xi_permL (ws2 := ([(q_k, .inl (cT 0, np, .inl kn))] : va_W) ++ (zWb cT qw q_l q_b q_a q_k q_s (nI np) (nI nl) (nI rounds) (nI calls) bs bg bc nl nb na A_l A_b A_a f0 f1 f2 f3 f4 f5 vb vw ++ (F ++ ([])))) (by have h := permR (bs := [([(q_k, .inl (cT 0, np, .inl kn))] : va_W), F, zWb cT qw q_l q_b q_a q_k q_s (nI np) (nI nl) (nI rounds) (nI calls) bs bg bc nl nb na A_l A_b A_a f0 f1 f2 f3 f4 f5 vb vw]) (bs2 := [([(q_k, .inl (cT 0, np, .inl kn))] : va_W), zWb cT qw q_l q_b q_a q_k q_s (nI np) (nI nl) (nI rounds) (nI calls) bs bg bc nl nb na A_l A_b A_a f0 f1 f2 f3 f4 f5 vb vw, F]) (n := 3) rfl [0, 2, 1] rfl (by decide); simp only [List.flatten_cons, List.flatten_nil] at h; exact h) ?_
        refine xi_wide (k2 := 112) (n2 := 1120) (by omega) (by omega) ?_
        refine xi_less (ws2 := (q_k, .inl (cT 0, np, .inl kn)) :: zWb cT qw q_l q_b q_a q_k q_s (nI np) (nI nl) (nI rounds) (nI calls) bs bg bc nl nb na A_l A_b A_a f0 f1 f2 f3 f4 f5 vb vw) (List.Sublist.cons_cons _ (List.sublist_append_left _ _)) ?_
        exact hR _ _ _ _ dX12_vital_110 ⟨⟨_, rfl, hB_congr h3 (fun i hi => by rw [decide_eq_true hi, Bool.true_and])⟩, rfl⟩
      · have hl := nln c26 (by omega) (by omega)
        refine xi_aload_n C 0 dX12_vital_12 rfl ?_
        refine xi_get C zkX12 4 _ zlX12_9 (by decide) (zap2 rfl (zap2 rfl (zap1 (zWb_w)))) rfl dX12_vital_13 ?_
        refine xi_iload_n C 2 dX12_vital_16 rfl ?_
        refine xw_aald C _ 7 (zap2 rfl (zap2 rfl (zap1 (zWb_ar)))) rfl (by omega) (by decide) (if_pos hl) dX12_vital_17 ?_
        refine xi_get C zkX11 4 _ zlX12_19 (by decide) (zap2 rfl (zap2 rfl (zap1 (zWb_l hl)))) rfl dX12_vital_18 ?_
        refine xi_rwi (y := (if cut l0 = true then 1 else 0)) (hc l0 hl) ?_
        cases hcl : cut l0 with
        | true =>
          refine xi_rwi (y := 1) ifT ?_
          refine xi_if_eq C (tgt := 27) dX12_vital_21 rfl (fun c27 => False.elim ((fun z : ((1 : Int32) = 0) => one0 z) c27)) (fun c27 => ?_)
          refine xi_goto C (tgt := 103) dX12_vital_24 rfl ?_
          refine xi_iinc C (v := nI (l0 + 1)) 2 [1, 2, 0] (L2 := [(0, .ref qw), (1, .int x), (2, .int (nI (l0 + 1)))]) dX12_vital_103 rfl (nI_1 l0) (Nat.le_of_ble_eq_true rfl) rfl ?_
          refine xi_goto C (tgt := 4) dX12_vital_106 rfl ?_
          refine xi_wide (k2 := (14 * (l0 + 1))) (n2 := (140 * (l0 + 1))) (by omega) (by omega) ?_
          exact ih (l0 + 1) x F (by omega) (by omega) (hB_congr h3 (fun i _ => by
            by_cases z : i = l0
            · rw [z, vtl_cut hcl, Bool.and_false, Bool.and_false]
            · rw [decs z]))
        | false =>
          refine xi_rwi (y := 0) ifF ?_
          refine xi_if_eq C (tgt := 27) dX12_vital_21 rfl (fun c28 => ?_) (fun c28 => False.elim ((fun z : ¬ ((0 : Int32) = 0) => z rfl) c28))
          refine xi_iconst C (v := 0) dX12_vital_27 rfl ?_
          refine xi_istore_n C [1, 2, 3, 0] (L2 := [(0, .ref qw), (1, .int x), (2, .int (nI l0)), (3, .int 0)]) dX12_vital_28 (Nat.le_of_ble_eq_true rfl) rfl ?_
          refine L29 (14 * l0) (140 * l0) l0 (fun i => decide (i < l0) && vtl np nl a b fw cut k np i) (by omega) (by omega) hl hcl (fun y F hy => ?_) (np + 1) 0 x F (Nat.zero_le _) (by omega) (hB_congr h3 (fun i _ => by show _ = (_ || (decide (i = l0) && false)); rw [Bool.and_false, Bool.or_false]))
          refine xi_iinc C (v := nI (l0 + 1)) 2 [1, 2, 0] (L2 := [(0, .ref qw), (1, .int y), (2, .int (nI (l0 + 1)))]) dX12_vital_103 rfl (nI_1 l0) (Nat.le_of_ble_eq_true rfl) rfl ?_
          refine xi_goto C (tgt := 4) dX12_vital_106 rfl ?_
          refine xi_wide (k2 := (14 * (l0 + 1))) (n2 := (140 * (l0 + 1))) (by omega) (by omega) ?_
          exact ih (l0 + 1) y F (by omega) (by omega) (hB_congr hy (fun i _ => by
            by_cases z : i = l0
            · rw [z, decide_eq_true (rfl : l0 = l0), decide_eq_true (show l0 < l0 + 1 by omega), decide_eq_false (show ¬ l0 < l0 by omega), Bool.false_and, Bool.false_or, Bool.true_and]
            · rw [decs z, decide_eq_false z, Bool.false_and, Bool.or_false]))
  refine xi_eqw (ws2 := ([(q_k, .inl (cT 0, np, .inl kn))] : va_W) ++ (([] : va_W) ++ (zWb cT qw q_l q_b q_a q_k q_s (nI np) (nI nl) (nI rounds) (nI calls) bs bg bc nl nb na A_l A_b A_a f0 f1 f2 f3 f4 f5 vb vw ++ ([])))) (by rw [List.append_nil]; rfl) ?_
  refine xi_drop (L2 := [(0, .ref qw)]) [0] rfl ?_
  refine xi_iconst C (v := 0) dX12_vital_0 rfl ?_
  refine xi_istore_n C [1, 0] (L2 := [(0, .ref qw), (1, .int 0)]) dX12_vital_1 (Nat.le_of_ble_eq_true rfl) rfl ?_
  refine xi_iconst C (v := 0) dX12_vital_2 rfl ?_
  refine xi_istore_n C [1, 2, 0] (L2 := [(0, .ref qw), (1, .int 0), (2, .int 0)]) dX12_vital_3 (Nat.le_of_ble_eq_true rfl) rfl ?_
  exact L4 (nl + 1) 0 0 [] (Nat.zero_le _) (by omega) (fun i hi => by rw [ib_0]; cases decide (i < nl) <;> rfl)
