/-! the web's loops that make rows -/
theorem spr_aft {a b : Nat → Nat} {fw U : Nat → Bool} {k : Nat → Nat} {q : Nat} : ∀ n p, (aft a b fw U k n p).testBit q = spr a b fw U (fun p => (k p).testBit q) n p := by
  intro n
  induction n with
  | zero => intro p; rfl
  | succ n ih =>
    intro p
    show ((aft a b fw U k n p ||| (if U n = true ∧ b n = p then k (a n) else 0)) ||| (if U n = true ∧ fw n = false ∧ a n = p then k (b n) else 0)).testBit q = (spr a b fw U (fun p => (k p).testBit q) n p || (U n && (((k (a n)).testBit q && decide (p = b n)) || ((k (b n)).testBit q && !fw n && decide (p = a n)))))
    rw [Nat.testBit_or, Nat.testBit_or, ih]
    have e1 : (if U n = true ∧ b n = p then k (a n) else 0).testBit q = (U n && ((k (a n)).testBit q && decide (p = b n))) := by
      by_cases h : U n = true
      · by_cases h2 : b n = p
        · rw [if_pos ⟨h, h2⟩, h, decide_eq_true h2.symm, Bool.true_and, Bool.and_true]
        · rw [if_neg (fun z => h2 z.2), decide_eq_false (fun z => h2 z.symm), Bool.and_false, Bool.and_false, Nat.zero_testBit]
      · rw [if_neg (fun z => h z.1), Bool.eq_false_iff.mpr h, Bool.false_and, Nat.zero_testBit]
    have e2 : (if U n = true ∧ fw n = false ∧ a n = p then k (b n) else 0).testBit q = (U n && ((k (b n)).testBit q && !fw n && decide (p = a n))) := by
      by_cases h : U n = true
      · by_cases h3 : fw n = false
        · by_cases h2 : a n = p
          · rw [if_pos ⟨h, h3, h2⟩, h, h3, decide_eq_true h2.symm, Bool.true_and, Bool.and_true, Bool.not_false, Bool.and_true]
          · rw [if_neg (fun z => h2 z.2.2), decide_eq_false (fun z => h2 z.symm), Bool.and_false, Bool.and_false, Nat.zero_testBit]
        · have h4 : fw n = true := by
            cases z : fw n with
            | true => rfl
            | false => exact absurd z h3
          rw [if_neg (fun z => h3 z.2.1), h4, Bool.not_true, Bool.and_false, Bool.false_and, Bool.and_false, Nat.zero_testBit]
      · rw [if_neg (fun z => h z.1), Bool.eq_false_iff.mpr h, Bool.false_and, Nat.zero_testBit]
    rw [e1, e2, Bool.or_assoc, ← Bool.and_or_distrib_left]

theorem bitN {x q : Nat} (hx : x < 128) (hq : q < 31) : ((nI x >>> (nI q &&& 31)) &&& 1) = if x.testBit q = true then 1 else 0 := by
  have h : hB 31 (fun i => x.testBit i) (nI x) := fun i hi => by
    rw [ib_N (by omega)]
    rcases Nat.lt_or_ge i 31 with z | z
    · rw [decide_eq_true z, Bool.true_and]
    · rw [decide_eq_false (by omega), Bool.false_and]
      exact Nat.testBit_lt_two_pow (Nat.lt_of_lt_of_le hx (Nat.le_trans (by decide : 128 ≤ 2 ^ 31) (Nat.pow_le_pow_right (by decide) z)))
  exact bit1 h hq (by omega)
set_option maxRecDepth 100000 in
set_option maxHeartbeats 4000000 in
theorem kW_soonest (l : Launch) (D : va_G) (cT : Nat → ClassId) {np nl : Nat} {a b c : Nat → Nat} {fw : Nat → Bool} {nb : Nat} {wb fb ub : Nat → Nat} {na : Nat} {wa fa ua : Nat → Nat} {cut S : Nat → Bool} {k : Nat → Nat} {rounds calls : Nat} {qw q_l q_b q_a q_k q_s : Nat} {A_l A_b A_a : Nat → Nat} {bs bg bc : Int32} {f0 f1 f2 f3 f4 f5 : Nat → Int32} {vb vw : Nat → Nat → Int32} {kn : Nat → Int32} (hE : hLn np nl a b c fw f0 f1 f2 f3) (hc : hFl nl cut f4) (hS : hFl nl S f5) (hb : hRw nb nl wb fb ub vb) (ha : hRw na np wa fa ua vw) (hk : hK np k kn) {p q : Nat} (hp : p < np) (hq : q < np) (hr : rounds ≤ 100) : sE l yX12_soonest (zw yX12_soonest cX12_soonest 7 (some .int)) (zRA 8 61 610) 61 610 (some .int) D cT [.ref qw, .int (nI p), .int (nI q)] ((q_k, .inl (cT 0, np, .inl kn)) :: zWb cT qw q_l q_b q_a q_k q_s (nI np) (nI nl) (nI rounds) (nI calls) bs bg bc nl nb na A_l A_b A_a f0 f1 f2 f3 f4 f5 vb vw) (fun r W => r = some (.int (fst1 (fun w => kws nl a b fw (fun w => usb nb na wb fb ub wa fa ua a b cut (rounds + w + 1)) (fun p => (k p).testBit q) w p) 61 0)) ∧ W = (q_k, .inl (cT 0, np, .inl kn)) :: zWb cT qw q_l q_b q_a q_k q_s (nI np) (nI nl) (nI rounds) (nI calls) bs bg bc nl nb na A_l A_b A_a f0 f1 f2 f3 f4 f5 vb vw) := by
  have hnp := hE.1
  have hnl := hE.2.1
  refine sE_int rfl (Nat.le_of_ble_eq_true rfl) ?_
  intro X C hR
  have L35 : ∀ (k9 n9 ar w : Nat) (F : va_W) (rw : Nat → Int32), k9 ≤ 61 → n9 ≤ 610 → w ≤ 60 → (∀ y : Int32, hB nl (usb nb na wb fb ub wa fa ua a b cut (rounds + w + 1)) y → sW X l (zRA 8 61 610) D 7 k9 n9 77 [(0, .ref qw), (1, .int (nI p)), (2, .int (nI q)), (3, .ref ar), (4, .int (nI w)), (5, .int y)] [] (([(ar, .inl (cT 0, np, .inl rw))] : va_W) ++ (F ++ (zWb cT qw q_l q_b q_a q_k q_s (nI np) (nI nl) (nI rounds) (nI calls) bs bg bc nl nb na A_l A_b A_a f0 f1 f2 f3 f4 f5 vb vw ++ ([]))))) → ∀ (d l0 : Nat) (x : Int32), l0 ≤ nl → nl - l0 < d → hB nl (fun i => decide (i < l0) && (usb nb na wb fb ub wa fa ua a b cut (rounds + w + 1)) i) x → sW X l (zRA 8 61 610) D 7 k9 n9 35 [(0, .ref qw), (1, .int (nI p)), (2, .int (nI q)), (3, .ref ar), (4, .int (nI w)), (5, .int x), (6, .int (nI l0))] [] (([(ar, .inl (cT 0, np, .inl rw))] : va_W) ++ (F ++ (zWb cT qw q_l q_b q_a q_k q_s (nI np) (nI nl) (nI rounds) (nI calls) bs bg bc nl nb na A_l A_b A_a f0 f1 f2 f3 f4 f5 vb vw ++ ([])))) := by
    intro k9 n9 ar w F rw hk9 hn9 hw kk d
    induction d with
    | zero => intro l0 x h1 h2; omega
    | succ d ih =>
      intro l0 x h1 h2 h3
      refine xi_iload C 6 dX12_soonest_35 rfl ?_
      refine xi_aload_n C 0 dX12_soonest_37 rfl ?_
      refine xi_get C zkX12 1 _ zlX12_46 (by decide) (zap2 rfl (zap2 rfl (zap1 (zWb_w)))) rfl dX12_soonest_38 ?_
      refine xi_icmp_ge C (tgt := 77) dX12_soonest_41 rfl (fun c1 => ?_) (fun c1 => ?_)
      · have e := nll c1 (by omega) (by omega)
        have e2 : l0 = nl := by omega
        subst e2
        refine xi_drop (L2 := [(0, .ref qw), (1, .int (nI p)), (2, .int (nI q)), (3, .ref ar), (4, .int (nI w)), (5, .int x)]) [0, 1, 2, 3, 4, 5] rfl ?_
        exact kk x (hB_congr h3 (fun i hi => by rw [decide_eq_true hi, Bool.true_and]))
      · have hl := nln c1 (by omega) (by omega)
        refine xi_aload_n C 0 dX12_soonest_44 rfl ?_
        refine xi_iload C 6 dX12_soonest_45 rfl ?_
        refine xi_aload_n C 0 dX12_soonest_47 rfl ?_
        refine xi_get C zkX12 2 _ zlX12_96 (by decide) (zap2 rfl (zap2 rfl (zap1 (zWb_w)))) rfl dX12_soonest_48 ?_
        refine xi_iload C 4 dX12_soonest_51 rfl ?_
        refine xi_iadd C dX12_soonest_53 ?_
        refine xi_rwi (y := nI (rounds + w)) (nI_add rounds w) ?_
        refine xi_iconst C (v := 1) dX12_soonest_54 rfl ?_
        refine xi_iadd C dX12_soonest_55 ?_
        refine xi_rwi (y := nI (rounds + w + 1)) (nI_1 (rounds + w)) ?_
        refine xi_callEV C (sE_of_sM (kX12_usable l D cT qw q_l q_b q_a q_k q_s A_l A_b A_a nl nb na (nI np) (nI nl) (nI rounds) (nI calls) bs bg bc f0 f1 f2 f3 f4 f5 vb vw (nI l0) (nI (rounds + w + 1)) (by omega) _ (wUsable hE hl (by omega) hc hb ha))) (([(ar, .inl (cT 0, np, .inl rw))] : va_W) ++ (F ++ ([]))) (by have h := permX (bs := [([(ar, .inl (cT 0, np, .inl rw))] : va_W), F, zWb cT qw q_l q_b q_a q_k q_s (nI np) (nI nl) (nI rounds) (nI calls) bs bg bc nl nb na A_l A_b A_a f0 f1 f2 f3 f4 f5 vb vw]) (A := [zWb cT qw q_l q_b q_a q_k q_s (nI np) (nI nl) (nI rounds) (nI calls) bs bg bc nl nb na A_l A_b A_a f0 f1 f2 f3 f4 f5 vb vw]) (B := [([(ar, .inl (cT 0, np, .inl rw))] : va_W), F]) (n := 3) rfl [2, 0, 1] rfl (by decide) flat1; simp only [List.flatten_cons, List.flatten_nil] at h; exact h) zcX12_usable zmX12_77 ziX12_usable (zrE rfl rfl) ⟨(by show k9 + 0 ≤ 61; omega), (by show n9 + 0 ≤ 610; omega)⟩ rfl zkX12.1 (qr := 0) rfl rfl (Nat.le_of_ble_eq_true rfl) dX12_soonest_56 (fun v2 W3 hv4 _ => ?_)
        obtain ⟨rfl, rfl⟩ := hv4
        refine xi_eqw (ws2 := zWb cT qw q_l q_b q_a q_k q_s (nI np) (nI nl) (nI rounds) (nI calls) bs bg bc nl nb na A_l A_b A_a f0 f1 f2 f3 f4 f5 vb vw ++ (([(ar, .inl (cT 0, np, .inl rw))] : va_W) ++ (F ++ ([])))) rfl ?_
        refine xi_permL (ws2 := ([(ar, .inl (cT 0, np, .inl rw))] : va_W) ++ (F ++ (zWb cT qw q_l q_b q_a q_k q_s (nI np) (nI nl) (nI rounds) (nI calls) bs bg bc nl nb na A_l A_b A_a f0 f1 f2 f3 f4 f5 vb vw ++ ([])))) (by have h := permR (bs := [zWb cT qw q_l q_b q_a q_k q_s (nI np) (nI nl) (nI rounds) (nI calls) bs bg bc nl nb na A_l A_b A_a f0 f1 f2 f3 f4 f5 vb vw, ([(ar, .inl (cT 0, np, .inl rw))] : va_W), F]) (bs2 := [([(ar, .inl (cT 0, np, .inl rw))] : va_W), F, zWb cT qw q_l q_b q_a q_k q_s (nI np) (nI nl) (nI rounds) (nI calls) bs bg bc nl nb na A_l A_b A_a f0 f1 f2 f3 f4 f5 vb vw]) (n := 3) rfl [1, 2, 0] rfl (by decide); simp only [List.flatten_cons, List.flatten_nil] at h; exact h) ?_
        cases hu : (usb nb na wb fb ub wa fa ua a b cut (rounds + w + 1)) l0 with
        | false =>
          refine xi_rwi (y := 0) ifF ?_
          refine xi_if_eq C (tgt := 71) dX12_soonest_59 rfl (fun c5 => ?_) (fun c5 => False.elim ((fun z : ¬ ((0 : Int32) = 0) => z rfl) c5))
          refine xi_iinc C (v := nI (l0 + 1)) 6 [1, 2, 3, 4, 5, 6, 0] (L2 := [(0, .ref qw), (1, .int (nI p)), (2, .int (nI q)), (3, .ref ar), (4, .int (nI w)), (5, .int x), (6, .int (nI (l0 + 1)))]) dX12_soonest_71 rfl (nI_1 l0) (Nat.le_of_ble_eq_true rfl) rfl ?_
          refine xi_goto C (tgt := 35) dX12_soonest_74 rfl ?_
          exact ih (l0 + 1) x (by omega) (by omega) (hB_congr h3 (fun i _ => by
            by_cases z : i = l0
            · rw [z, hu, Bool.and_false, Bool.and_false]
            · rw [decs z]))
        | true =>
          refine xi_rwi (y := 1) ifT ?_
          refine xi_if_eq C (tgt := 71) dX12_soonest_59 rfl (fun c6 => False.elim ((fun z : ((1 : Int32) = 0) => one0 z) c6)) (fun c6 => ?_)
          refine xi_iload C 5 dX12_soonest_62 rfl ?_
          refine xi_iconst C (v := 1) dX12_soonest_64 rfl ?_
          refine xi_iload C 6 dX12_soonest_65 rfl ?_
          refine xi_ishl C dX12_soonest_67 ?_
          refine xi_ior C dX12_soonest_68 ?_
          refine xi_istore C [1, 2, 3, 4, 5, 0, 6] (L2 := [(0, .ref qw), (1, .int (nI p)), (2, .int (nI q)), (3, .ref ar), (4, .int (nI w)), (5, .int (x ||| ((1 : Int32) <<< ((nI l0) &&& 31)))), (6, .int (nI l0))]) dX12_soonest_69 (Nat.le_of_ble_eq_true rfl) rfl ?_
          refine xi_iinc C (v := nI (l0 + 1)) 6 [1, 2, 3, 4, 5, 6, 0] (L2 := [(0, .ref qw), (1, .int (nI p)), (2, .int (nI q)), (3, .ref ar), (4, .int (nI w)), (5, .int (x ||| ((1 : Int32) <<< ((nI l0) &&& 31)))), (6, .int (nI (l0 + 1)))]) dX12_soonest_71 rfl (nI_1 l0) (Nat.le_of_ble_eq_true rfl) rfl ?_
          refine xi_goto C (tgt := 35) dX12_soonest_74 rfl ?_
          exact ih (l0 + 1) _ (by omega) (by omega) (hB_congr (hB_or1 h3 hl (by omega)) (fun i hi => by
            by_cases z : i = l0
            · rw [z, hu, decide_eq_true (rfl : l0 = l0), decide_eq_true (show l0 < l0 + 1 by omega), Bool.or_true, Bool.true_and]
            · rw [decs z, decide_eq_false z, Bool.or_false]))
  have L8 : ∀ (d w ar : Nat) (k0 : Nat → Nat) (F : va_W) (rw : Nat → Int32), w ≤ 61 → 61 - w = d → hK np k0 rw → (∀ p, p < np → (k0 p).testBit q = kws nl a b fw (fun w => usb nb na wb fb ub wa fa ua a b cut (rounds + w + 1)) (fun p => (k p).testBit q) w p) → ((q_k, .inl (cT 0, np, .inl kn)) :: zWb cT qw q_l q_b q_a q_k q_s (nI np) (nI nl) (nI rounds) (nI calls) bs bg bc nl nb na A_l A_b A_a f0 f1 f2 f3 f4 f5 vb vw).Sublist ([(ar, .inl (cT 0, np, .inl rw))] ++ (F ++ (zWb cT qw q_l q_b q_a q_k q_s (nI np) (nI nl) (nI rounds) (nI calls) bs bg bc nl nb na A_l A_b A_a f0 f1 f2 f3 f4 f5 vb vw ++ []))) → (∀ x : Int32, x = fst1 (fun w => kws nl a b fw (fun w => usb nb na wb fb ub wa fa ua a b cut (rounds + w + 1)) (fun p => (k p).testBit q) w p) d w → x = fst1 (fun w => kws nl a b fw (fun w => usb nb na wb fb ub wa fa ua a b cut (rounds + w + 1)) (fun p => (k p).testBit q) w p) 61 0) → sW X l (zRA 8 61 610) D 7 w (10 * w) 8 [(0, .ref qw), (1, .int (nI p)), (2, .int (nI q)), (3, .ref ar), (4, .int (nI w))] [] (([(ar, .inl (cT 0, np, .inl rw))] : va_W) ++ (F ++ (zWb cT qw q_l q_b q_a q_k q_s (nI np) (nI nl) (nI rounds) (nI calls) bs bg bc nl nb na A_l A_b A_a f0 f1 f2 f3 f4 f5 vb vw ++ ([])))) := by
    intro d
    induction d with
    | zero =>
      intro w ar k0 F rw h1 h2 h3 h4 h5 h6
      refine xi_iload C 4 dX12_soonest_8 rfl ?_
      refine xi_bipush C (v := 60) dX12_soonest_10 rfl ?_
      refine xi_rwi (y := nI 60) rfl ?_
      refine xi_icmp_gt C (tgt := 91) dX12_soonest_12 rfl (fun c7 => ?_) (fun c7 => False.elim ((fun z => z (nI_lt (a := 60) (b := w) (by omega) (by omega))) c7))
      refine xi_iconst C (v := (-1)) dX12_soonest_91 rfl ?_
      refine xi_wide (k2 := 61) (n2 := 610) (by omega) (by omega) ?_
      refine xi_less h5 ?_
      exact hR _ _ _ _ dX12_soonest_92 ⟨by rw [← h6 (-1) rfl], rfl⟩
    | succ d ih =>
      intro w ar k0 F rw h1 h2 h3 h4 h5 h6
      refine xi_iload C 4 dX12_soonest_8 rfl ?_
      refine xi_bipush C (v := 60) dX12_soonest_10 rfl ?_
      refine xi_rwi (y := nI 60) rfl ?_
      refine xi_icmp_gt C (tgt := 91) dX12_soonest_12 rfl (fun c8 => False.elim ((fun z => nI_nlt (a := 60) (b := w) (by omega) (by decide) z) c8)) (fun c8 => ?_)
      refine xi_aload_n C 3 dX12_soonest_15 rfl ?_
      refine xi_iload_n C 1 dX12_soonest_16 rfl ?_
      refine xw_iald C _ (zap1 ((rfl : (([(ar, .inl (cT 0, np, .inl rw))] : va_W) : va_W)[0]? = some _))) hp (by omega) dX12_soonest_17 ?_
      refine xi_iload_n C 2 dX12_soonest_18 rfl ?_
      refine xi_ishr C dX12_soonest_19 ?_
      refine xi_iconst C (v := 1) dX12_soonest_20 rfl ?_
      refine xi_iand C dX12_soonest_21 ?_
      refine xi_rwi (y := (if (k0 p).testBit q = true then 1 else 0)) (by rw [(h3 p hp).2]; exact bitN (Nat.lt_of_lt_of_le (hK_lt hnp h3 hp) (by decide)) (by omega)) ?_
      refine xi_iconst C (v := 1) dX12_soonest_22 rfl ?_
      cases hu : (k0 p).testBit q with
      | true =>
        refine xi_rwi2 (y := 1) ifT ?_
        refine xi_icmp_ne C (tgt := 29) dX12_soonest_23 rfl (fun c9 => False.elim ((fun z : ¬ ((1 : Int32) = 1) => z rfl) c9)) (fun c9 => ?_)
        refine xi_iload C 4 dX12_soonest_26 rfl ?_
        refine xi_wide (k2 := 61) (n2 := 610) (by omega) (by omega) ?_
        refine xi_less h5 ?_
        exact hR _ _ _ _ dX12_soonest_28 ⟨by rw [← h6 (nI w) (by show nI w = if kws nl a b fw (fun w => usb nb na wb fb ub wa fa ua a b cut (rounds + w + 1)) (fun p => (k p).testBit q) w p = true then nI w else _; rw [← h4 p hp, hu, if_pos rfl])], rfl⟩
      | false =>
        refine xi_rwi2 (y := 0) ifF ?_
        refine xi_icmp_ne C (tgt := 29) dX12_soonest_23 rfl (fun c10 => ?_) (fun c10 => False.elim ((fun z : ((0 : Int32) = 1) => absurd z (by decide)) c10))
        refine xi_iconst C (v := 0) dX12_soonest_29 rfl ?_
        refine xi_istore C [1, 2, 3, 4, 5, 0] (L2 := [(0, .ref qw), (1, .int (nI p)), (2, .int (nI q)), (3, .ref ar), (4, .int (nI w)), (5, .int 0)]) dX12_soonest_30 (Nat.le_of_ble_eq_true rfl) rfl ?_
        refine xi_iconst C (v := 0) dX12_soonest_32 rfl ?_
        refine xi_istore C [1, 2, 3, 4, 5, 6, 0] (L2 := [(0, .ref qw), (1, .int (nI p)), (2, .int (nI q)), (3, .ref ar), (4, .int (nI w)), (5, .int 0), (6, .int 0)]) dX12_soonest_33 (Nat.le_of_ble_eq_true rfl) rfl ?_
        refine L35 w (10 * w) ar w F rw (by omega) (by omega) (by omega) (fun y hy => ?_) (nl + 1) 0 0 (Nat.zero_le _) (by omega) (fun i hi => by rw [ib_0]; cases decide (i < nl) <;> rfl)
        refine xi_aload_n C 0 dX12_soonest_77 rfl ?_
        refine xi_iload C 5 dX12_soonest_78 rfl ?_
        refine xi_aload_n C 3 dX12_soonest_80 rfl ?_
        obtain ⟨r2, hr2, hk2⟩ := wAfter hE h3 hy
        refine xi_callEV C (kX12_after l D cT qw q_l q_b q_a q_k q_s ar A_l A_b A_a nl nb na np (nI np) (nI nl) (nI rounds) (nI calls) bs bg bc f0 f1 f2 f3 f4 f5 vb vw rw y (by omega) (by omega) _ hr2) (F ++ ([])) (by have h := permX (bs := [([(ar, .inl (cT 0, np, .inl rw))] : va_W), F, zWb cT qw q_l q_b q_a q_k q_s (nI np) (nI nl) (nI rounds) (nI calls) bs bg bc nl nb na A_l A_b A_a f0 f1 f2 f3 f4 f5 vb vw]) (A := [([(ar, .inl (cT 0, np, .inl rw))] : va_W), zWb cT qw q_l q_b q_a q_k q_s (nI np) (nI nl) (nI rounds) (nI calls) bs bg bc nl nb na A_l A_b A_a f0 f1 f2 f3 f4 f5 vb vw]) (B := [F]) (n := 3) rfl [0, 2, 1] rfl (by decide) flatXA; simp only [List.flatten_cons, List.flatten_nil] at h; exact h) zcX12_after zmX12_102 ziX12_after (zrA rfl rfl) ⟨(by show w + 1 ≤ 61; omega), (by show 10 * w + 10 ≤ 610; omega)⟩ rfl zkX12.1 (qr := 1) rfl rfl (Nat.le_of_ble_eq_true rfl) dX12_soonest_81 (fun v11 W12 hv13 _ => ?_)
        obtain ⟨an, rfl, rfl⟩ := hv13
        refine xi_eqw (ws2 := ([(an, .inl (cT 0, np, .inl r2))] : va_W) ++ (([(ar, .inl (cT 0, np, .inl rw))] : va_W) ++ (zWb cT qw q_l q_b q_a q_k q_s (nI np) (nI nl) (nI rounds) (nI calls) bs bg bc nl nb na A_l A_b A_a f0 f1 f2 f3 f4 f5 vb vw ++ (F ++ ([]))))) rfl ?_
        refine xi_permL (ws2 := ([(an, .inl (cT 0, np, .inl r2))] : va_W) ++ (([(ar, .inl (cT 0, np, .inl rw))] : va_W) ++ (F ++ (zWb cT qw q_l q_b q_a q_k q_s (nI np) (nI nl) (nI rounds) (nI calls) bs bg bc nl nb na A_l A_b A_a f0 f1 f2 f3 f4 f5 vb vw ++ ([]))))) (by have h := permR (bs := [([(an, .inl (cT 0, np, .inl r2))] : va_W), ([(ar, .inl (cT 0, np, .inl rw))] : va_W), zWb cT qw q_l q_b q_a q_k q_s (nI np) (nI nl) (nI rounds) (nI calls) bs bg bc nl nb na A_l A_b A_a f0 f1 f2 f3 f4 f5 vb vw, F]) (bs2 := [([(an, .inl (cT 0, np, .inl r2))] : va_W), ([(ar, .inl (cT 0, np, .inl rw))] : va_W), F, zWb cT qw q_l q_b q_a q_k q_s (nI np) (nI nl) (nI rounds) (nI calls) bs bg bc nl nb na A_l A_b A_a f0 f1 f2 f3 f4 f5 vb vw]) (n := 4) rfl [0, 1, 3, 2] rfl (by decide); simp only [List.flatten_cons, List.flatten_nil] at h; exact h) ?_
        refine xi_astore_n C [1, 2, 3, 0, 4, 5] (L2 := [(0, .ref qw), (1, .int (nI p)), (2, .int (nI q)), (3, .ref an), (4, .int (nI w)), (5, .int y)]) dX12_soonest_84 (Nat.le_of_ble_eq_true rfl) rfl ?_
        refine xi_iinc C (v := nI (w + 1)) 4 [1, 2, 3, 4, 0, 5] (L2 := [(0, .ref qw), (1, .int (nI p)), (2, .int (nI q)), (3, .ref an), (4, .int (nI (w + 1))), (5, .int y)]) dX12_soonest_85 rfl (nI_1 w) (Nat.le_of_ble_eq_true rfl) rfl ?_
        refine xi_goto C (tgt := 8) dX12_soonest_88 rfl ?_
        refine xi_drop (L2 := [(0, .ref qw), (1, .int (nI p)), (2, .int (nI q)), (3, .ref an), (4, .int (nI (w + 1)))]) [0, 1, 2, 3, 4] rfl ?_
        refine ih (w + 1) an (aft a b fw (usb nb na wb fb ub wa fa ua a b cut (rounds + w + 1)) k0 nl) ([(ar, .inl (cT 0, np, .inl rw))] ++ F) r2 (by omega) (by omega) hk2 (fun p hp => ?_) ?_ (fun x hx => h6 x ?_)
        · rw [spr_aft]
          exact spr_congr (np := np) (fun l hl => ⟨(hE.2.2 l hl).1, (hE.2.2 l hl).2.1⟩) (fun p hp => h4 p hp) nl (Nat.le_refl _) p hp
        · exact h5.trans (List.sublist_append_right [_] _)
        · show x = if kws nl a b fw (fun w => usb nb na wb fb ub wa fa ua a b cut (rounds + w + 1)) (fun p => (k p).testBit q) w p = true then nI w else _
          rw [← h4 p hp, hu, ifF]
          exact hx
  refine xi_eqw (ws2 := ([(q_k, .inl (cT 0, np, .inl kn))] : va_W) ++ (([] : va_W) ++ (zWb cT qw q_l q_b q_a q_k q_s (nI np) (nI nl) (nI rounds) (nI calls) bs bg bc nl nb na A_l A_b A_a f0 f1 f2 f3 f4 f5 vb vw ++ ([])))) (by rw [List.append_nil]; rfl) ?_
  refine xi_drop (L2 := [(0, .ref qw), (1, .int (nI p)), (2, .int (nI q))]) [0, 1, 2] rfl ?_
  refine xi_aload_n C 0 dX12_soonest_0 rfl ?_
  refine xi_get C zkX12 7 _ zlX12_89 (by decide) (zap2 rfl (zap2 rfl (zap1 (zWb_w)))) rfl dX12_soonest_1 ?_
  refine xi_astore_n C [1, 2, 3, 0] (L2 := [(0, .ref qw), (1, .int (nI p)), (2, .int (nI q)), (3, .ref q_k)]) dX12_soonest_4 (Nat.le_of_ble_eq_true rfl) rfl ?_
  refine xi_iconst C (v := 0) dX12_soonest_5 rfl ?_
  refine xi_istore C [1, 2, 3, 4, 0] (L2 := [(0, .ref qw), (1, .int (nI p)), (2, .int (nI q)), (3, .ref q_k), (4, .int 0)]) dX12_soonest_6 (Nat.le_of_ble_eq_true rfl) rfl ?_
  exact L8 61 0 q_k k [] kn (by decide) rfl hk (fun p _ => rfl) (by rw [List.append_nil]; exact List.Sublist.refl _) (fun x hx => hx)
