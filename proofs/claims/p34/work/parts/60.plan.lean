set_option maxRecDepth 100000 in
set_option maxHeartbeats 4000000 in
theorem kW_plan (l : Launch) (D : va_G) (cT : Nat → ClassId) {np nl : Nat} {a b c : Nat → Nat} {fw : Nat → Bool} {nb : Nat} {wb fb ub : Nat → Nat} {na : Nat} {wa fa ua : Nat → Nat} {cut S : Nat → Bool} {k : Nat → Nat} {rounds calls : Nat} {qw q_l q_b q_a q_k q_s : Nat} {A_l A_b A_a : Nat → Nat} {bs bg bc : Int32} {f0 f1 f2 f3 f4 f5 : Nat → Int32} {vb vw : Nat → Nat → Int32} {kn : Nat → Int32} (hE : hLn np nl a b c fw f0 f1 f2 f3) (hc : hFl nl cut f4) (hS : hFl nl S f5) (hb : hRw nb nl wb fb ub vb) (ha : hRw na np wa fa ua vw) (hk : hK np k kn) (hr : rounds ≤ 100) : sE l yX12_plan (zw yX12_plan cX12_plan 6 (some (.array .int))) (zRA 62 41 404) 41 404 (some (.array .int)) D cT [.ref qw] ((q_k, .inl (cT 0, np, .inl kn)) :: zWb cT qw q_l q_b q_a q_k q_s (nI np) (nI nl) (nI rounds) (nI calls) bs bg bc nl nb na A_l A_b A_a f0 f1 f2 f3 f4 f5 vb vw) (fun r W => ∃ (an : Nat) (rr : Nat → Int32) (bs2 bg2 bc2 : Int32), r = some (.ref an) ∧ rr 0 = (if msm np (pln np nl a b c fw (fun n => usb nb na wb fb ub wa fa ua a b cut (rounds + n + 1)) 40 0 k 0 0).2.1 np = 0 then nI (pln np nl a b c fw (fun n => usb nb na wb fb ub wa fa ua a b cut (rounds + n + 1)) 40 0 k 0 0).1 else -1) ∧ rr 1 = nI (pln np nl a b c fw (fun n => usb nb na wb fb ub wa fa ua a b cut (rounds + n + 1)) 40 0 k 0 0).2.2.1 ∧ rr 2 = nI (pln np nl a b c fw (fun n => usb nb na wb fb ub wa fa ua a b cut (rounds + n + 1)) 40 0 k 0 0).2.2.2 ∧ rr 3 = nI (msm np (pln np nl a b c fw (fun n => usb nb na wb fb ub wa fa ua a b cut (rounds + n + 1)) 40 0 k 0 0).2.1 np) ∧ W = (an, .inl (cT 0, 4, .inl rr)) :: (q_k, .inl (cT 0, np, .inl kn)) :: zWb cT qw q_l q_b q_a q_k q_s (nI np) (nI nl) (nI rounds) (nI calls) bs2 bg2 bc2 nl nb na A_l A_b A_a f0 f1 f2 f3 f4 f5 vb vw) := by
  have hnp := hE.1
  have hnl := hE.2.1
  refine sE_arr rfl (Nat.le_of_ble_eq_true rfl) ?_
  intro X C hR
  have L12 : (∀ (n0 : Nat) (k0 : Nat → Nat) (m s ar : Nat) (F : va_W) (rw : Nat → Int32) (x1 x2 x3 : Int32), n0 ≤ 40 → (pln np nl a b c fw (fun n => usb nb na wb fb ub wa fa ua a b cut (rounds + n + 1)) 40 0 k 0 0) = (n0, k0, m, s) → hK np k0 rw → (∀ Z : va_W, ((q_k, .inl (cT 0, np, .inl kn)) :: Z).Sublist (([(ar, .inl (cT 0, np, .inl rw))] : va_W) ++ (F ++ (Z ++ [])))) → sW X l (zRA 62 41 404) D 6 40 400 74 [(0, .ref qw), (1, .ref ar), (2, .int (nI n0)), (3, .int (nI m)), (4, .int (nI s))] [] (([(ar, .inl (cT 0, np, .inl rw))] : va_W) ++ (F ++ (zWb cT qw q_l q_b q_a q_k q_s (nI np) (nI nl) (nI rounds) (nI calls) x1 x2 x3 nl nb na A_l A_b A_a f0 f1 f2 f3 f4 f5 vb vw ++ ([]))))) → ∀ (d n0 : Nat) (k0 : Nat → Nat) (m s ar : Nat) (F : va_W) (rw : Nat → Int32) (x1 x2 x3 : Int32), n0 ≤ 40 → 40 - n0 = d → pln np nl a b c fw (fun n => usb nb na wb fb ub wa fa ua a b cut (rounds + n + 1)) d n0 k0 m s = (pln np nl a b c fw (fun n => usb nb na wb fb ub wa fa ua a b cut (rounds + n + 1)) 40 0 k 0 0) → hK np k0 rw → (∀ Z : va_W, ((q_k, .inl (cT 0, np, .inl kn)) :: Z).Sublist (([(ar, .inl (cT 0, np, .inl rw))] : va_W) ++ (F ++ (Z ++ [])))) → sW X l (zRA 62 41 404) D 6 n0 (10 * n0) 12 [(0, .ref qw), (1, .ref ar), (2, .int (nI n0)), (3, .int (nI m)), (4, .int (nI s))] [] (([(ar, .inl (cT 0, np, .inl rw))] : va_W) ++ (F ++ (zWb cT qw q_l q_b q_a q_k q_s (nI np) (nI nl) (nI rounds) (nI calls) x1 x2 x3 nl nb na A_l A_b A_a f0 f1 f2 f3 f4 f5 vb vw ++ ([])))) := by
    intro kk d
    induction d with
    | zero =>
      intro n0 k0 m s ar F rw x1 x2 x3 h1 h2 h3 h4 h5
      refine xi_iload_n C 2 dX12_plan_12 rfl ?_
      refine xi_bipush C (v := 40) dX12_plan_13 rfl ?_
      refine xi_rwi (y := nI 40) rfl ?_
      refine xi_icmp_ge C (tgt := 74) dX12_plan_15 rfl (fun c29 => ?_) (fun c29 => False.elim ((fun z => z (nI_le (by omega) (by omega))) c29))
      refine xi_wide (k2 := 40) (n2 := 400) (by omega) (by omega) ?_
      exact kk n0 k0 m s ar F rw x1 x2 x3 h1 h3.symm h4 h5
    | succ d ih =>
      intro n0 k0 m s ar F rw x1 x2 x3 h1 h2 h3 h4 h5
      refine xi_iload_n C 2 dX12_plan_12 rfl ?_
      refine xi_bipush C (v := 40) dX12_plan_13 rfl ?_
      refine xi_rwi (y := nI 40) rfl ?_
      refine xi_icmp_ge C (tgt := 74) dX12_plan_15 rfl (fun c30 => False.elim ((fun z => nI_ge (a := n0) (b := 40) (by omega) (by decide) z) c30)) (fun c30 => ?_)
      refine xi_aload_n C 0 dX12_plan_18 rfl ?_
      refine xi_aload_n C 1 dX12_plan_19 rfl ?_
      refine xi_callEV C (sE_of_sM (kX12_missing l D cT qw q_l q_b q_a q_k q_s ar A_l A_b A_a nl nb na np (nI np) (nI nl) (nI rounds) (nI calls) x1 x2 x3 f0 f1 f2 f3 f4 f5 vb vw rw (by omega) _ (wMissing hnp h4))) (F ++ ([])) (by have h := permX (bs := [([(ar, .inl (cT 0, np, .inl rw))] : va_W), F, zWb cT qw q_l q_b q_a q_k q_s (nI np) (nI nl) (nI rounds) (nI calls) x1 x2 x3 nl nb na A_l A_b A_a f0 f1 f2 f3 f4 f5 vb vw]) (A := [([(ar, .inl (cT 0, np, .inl rw))] : va_W), zWb cT qw q_l q_b q_a q_k q_s (nI np) (nI nl) (nI rounds) (nI calls) x1 x2 x3 nl nb na A_l A_b A_a f0 f1 f2 f3 f4 f5 vb vw]) (B := [F]) (n := 3) rfl [0, 2, 1] rfl (by decide) flatXA; simp only [List.flatten_cons, List.flatten_nil] at h; exact h) zcX12_missing zmX12_92 ziX12_missing (zrE rfl rfl) ⟨(by show n0 + 0 ≤ 41; omega), (by show 10 * n0 + 0 ≤ 404; omega)⟩ rfl zkX12.1 (qr := 1) rfl rfl (Nat.le_of_ble_eq_true rfl) dX12_plan_20 (fun v31 W32 hv33 _ => ?_)
      obtain ⟨rfl, rfl⟩ := hv33
      refine xi_eqw (ws2 := ([(ar, .inl (cT 0, np, .inl rw))] : va_W) ++ (zWb cT qw q_l q_b q_a q_k q_s (nI np) (nI nl) (nI rounds) (nI calls) x1 x2 x3 nl nb na A_l A_b A_a f0 f1 f2 f3 f4 f5 vb vw ++ (F ++ ([])))) rfl ?_
      refine xi_permL (ws2 := ([(ar, .inl (cT 0, np, .inl rw))] : va_W) ++ (F ++ (zWb cT qw q_l q_b q_a q_k q_s (nI np) (nI nl) (nI rounds) (nI calls) x1 x2 x3 nl nb na A_l A_b A_a f0 f1 f2 f3 f4 f5 vb vw ++ ([])))) (by have h := permR (bs := [([(ar, .inl (cT 0, np, .inl rw))] : va_W), zWb cT qw q_l q_b q_a q_k q_s (nI np) (nI nl) (nI rounds) (nI calls) x1 x2 x3 nl nb na A_l A_b A_a f0 f1 f2 f3 f4 f5 vb vw, F]) (bs2 := [([(ar, .inl (cT 0, np, .inl rw))] : va_W), F, zWb cT qw q_l q_b q_a q_k q_s (nI np) (nI nl) (nI rounds) (nI calls) x1 x2 x3 nl nb na A_l A_b A_a f0 f1 f2 f3 f4 f5 vb vw]) (n := 3) rfl [0, 2, 1] rfl (by decide); simp only [List.flatten_cons, List.flatten_nil] at h; exact h) ?_
      have hms := msm_sm (k := k0) hnp
      rcases Nat.eq_zero_or_pos (msm np k0 np) with z | z
      · refine xi_rwi (y := 0) (by rw [z]; rfl) ?_
        refine xi_if_le C (tgt := 74) dX12_plan_23 rfl (fun c34 => ?_) (fun c34 => False.elim ((fun z : ¬ ((0 : Int32) ≤ 0) => z (by decide)) c34))
        refine xi_wide (k2 := 40) (n2 := 400) (by omega) (by omega) ?_
        refine kk n0 k0 m s ar F rw x1 x2 x3 h1 ?_ h4 h5
        rw [← h3]
        unfold pln
        rw [if_pos z]
      · refine xi_if_le C (tgt := 74) dX12_plan_23 rfl (fun c35 => False.elim ((fun z2 => nI_nle z (by omega) z2) c35)) (fun c35 => ?_)
        refine xi_aload_n C 0 dX12_plan_26 rfl ?_
        refine xi_aload_n C 0 dX12_plan_27 rfl ?_
        refine xi_get C zkX12 2 _ zlX12_96 (by decide) (zap2 rfl (zap2 rfl (zap1 (zWb_w)))) rfl dX12_plan_28 ?_
        refine xi_iload_n C 2 dX12_plan_31 rfl ?_
        refine xi_iadd C dX12_plan_32 ?_
        refine xi_rwi (y := nI (rounds + n0)) (nI_add rounds n0) ?_
        refine xi_iconst C (v := 1) dX12_plan_33 rfl ?_
        refine xi_iadd C dX12_plan_34 ?_
        refine xi_rwi (y := nI (rounds + n0 + 1)) (nI_1 (rounds + n0)) ?_
        refine xi_aload_n C 1 dX12_plan_35 rfl ?_
        obtain ⟨u, hu, hbest, hu1, hu2, hu3, hu4⟩ := wBest (f5 := f5) (pe := nI np) (ro := nI rounds) (ca := nI calls) (bs := x1) (bc := x3) (round := rounds + n0 + 1) hE h4 (by omega) hc hb ha
        refine xi_callEV C (sE_of_sM (kX12_best l D cT qw q_l q_b q_a q_k q_s ar A_l A_b A_a nl nb na np (nI np) (nI nl) (nI rounds) (nI calls) x1 x2 x3 f0 f1 f2 f3 f4 f5 vb vw rw (nI (rounds + n0 + 1)) (by omega) _ hu)) (F ++ ([])) (by have h := permX (bs := [([(ar, .inl (cT 0, np, .inl rw))] : va_W), F, zWb cT qw q_l q_b q_a q_k q_s (nI np) (nI nl) (nI rounds) (nI calls) x1 x2 x3 nl nb na A_l A_b A_a f0 f1 f2 f3 f4 f5 vb vw]) (A := [([(ar, .inl (cT 0, np, .inl rw))] : va_W), zWb cT qw q_l q_b q_a q_k q_s (nI np) (nI nl) (nI rounds) (nI calls) x1 x2 x3 nl nb na A_l A_b A_a f0 f1 f2 f3 f4 f5 vb vw]) (B := [F]) (n := 3) rfl [0, 2, 1] rfl (by decide) flatXA; simp only [List.flatten_cons, List.flatten_nil] at h; exact h) zcX12_best zmX12_99 ziX12_best (zrE rfl rfl) ⟨(by show n0 + 0 ≤ 41; omega), (by show 10 * n0 + 0 ≤ 404; omega)⟩ rfl zkX12.1 (qr := 1) rfl rfl (Nat.le_of_ble_eq_true rfl) dX12_plan_36 (fun v36 W37 hv38 _ => ?_)
        obtain ⟨rfl, rfl⟩ := hv38
        refine xi_eqw (ws2 := ([(ar, .inl (cT 0, np, .inl rw))] : va_W) ++ (zWb cT qw q_l q_b q_a q_k q_s (nI np) (nI nl) (nI rounds) (nI calls) u.2.1 u.2.2.1 u.2.2.2 nl nb na A_l A_b A_a f0 f1 f2 f3 f4 f5 vb vw ++ (F ++ ([])))) rfl ?_
        refine xi_permL (ws2 := ([(ar, .inl (cT 0, np, .inl rw))] : va_W) ++ (F ++ (zWb cT qw q_l q_b q_a q_k q_s (nI np) (nI nl) (nI rounds) (nI calls) u.2.1 u.2.2.1 u.2.2.2 nl nb na A_l A_b A_a f0 f1 f2 f3 f4 f5 vb vw ++ ([])))) (by have h := permR (bs := [([(ar, .inl (cT 0, np, .inl rw))] : va_W), zWb cT qw q_l q_b q_a q_k q_s (nI np) (nI nl) (nI rounds) (nI calls) u.2.1 u.2.2.1 u.2.2.2 nl nb na A_l A_b A_a f0 f1 f2 f3 f4 f5 vb vw, F]) (bs2 := [([(ar, .inl (cT 0, np, .inl rw))] : va_W), F, zWb cT qw q_l q_b q_a q_k q_s (nI np) (nI nl) (nI rounds) (nI calls) u.2.1 u.2.2.1 u.2.2.2 nl nb na A_l A_b A_a f0 f1 f2 f3 f4 f5 vb vw]) (n := 3) rfl [0, 2, 1] rfl (by decide); simp only [List.flatten_cons, List.flatten_nil] at h; exact h) ?_
        have hx : hB nl (bset nl a b c (gn a b fw k0) (usb nb na wb fb ub wa fa ua a b cut (rounds + n0 + 1))) u.1 := by rw [hu1]; exact hB_of (by omega)
        refine xi_topi (fun ux39 eux39 => ?_)
        rw [← eux39] at hx
        refine xi_istore C [1, 2, 3, 4, 5, 0] (L2 := [(0, .ref qw), (1, .ref ar), (2, .int (nI n0)), (3, .int (nI m)), (4, .int (nI s)), (5, .int ux39)]) dX12_plan_39 (Nat.le_of_ble_eq_true rfl) rfl ?_
        refine xi_iinc C (v := nI (n0 + 1)) 2 [1, 2, 0, 3, 4, 5] (L2 := [(0, .ref qw), (1, .ref ar), (2, .int (nI (n0 + 1))), (3, .int (nI m)), (4, .int (nI s)), (5, .int ux39)]) dX12_plan_41 rfl (nI_1 n0) (Nat.le_of_ble_eq_true rfl) rfl ?_
        refine xi_iload_n C 3 dX12_plan_44 rfl ?_
        refine xi_iload C 5 dX12_plan_45 rfl ?_
        refine xi_callES C (sE_of_sM (kJ6_bitCount_0f7a4 l D cT ux39 (nI (cnt nl (bset nl a b c (gn a b fw k0) (usb nb na wb fb ub wa fa ua a b cut (rounds + n0 + 1))))) (cntV hnl hx))) (([(ar, .inl (cT 0, np, .inl rw))] : va_W) ++ (F ++ (zWb cT qw q_l q_b q_a q_k q_s (nI np) (nI nl) (nI rounds) (nI calls) u.2.1 u.2.2.1 u.2.2.2 nl nb na A_l A_b A_a f0 f1 f2 f3 f4 f5 vb vw ++ ([])))) (by have h := permX (bs := [([(ar, .inl (cT 0, np, .inl rw))] : va_W), F, zWb cT qw q_l q_b q_a q_k q_s (nI np) (nI nl) (nI rounds) (nI calls) u.2.1 u.2.2.1 u.2.2.2 nl nb na A_l A_b A_a f0 f1 f2 f3 f4 f5 vb vw]) (A := []) (B := [([(ar, .inl (cT 0, np, .inl rw))] : va_W), F, zWb cT qw q_l q_b q_a q_k q_s (nI np) (nI nl) (nI rounds) (nI calls) u.2.1 u.2.2.1 u.2.2.2 nl nb na A_l A_b A_a f0 f1 f2 f3 f4 f5 vb vw]) (n := 3) rfl [0, 1, 2] rfl (by decide) rfl; simp only [List.flatten_cons, List.flatten_nil] at h; exact h) zcJ6_bitCount_0f7a4 zmX12_37 zsJ6_bitCount_0f7a4 (zrE rfl rfl) ⟨(by show n0 + 0 ≤ 41; omega), (by show 10 * n0 + 0 ≤ 404; omega)⟩ rfl rfl (Nat.le_of_ble_eq_true rfl) dX12_plan_47 (fun v40 W41 hv42 _ => ?_)
        obtain ⟨rfl, rfl⟩ := hv42
        refine xi_eqw (ws2 := ([] : va_W) ++ (([(ar, .inl (cT 0, np, .inl rw))] : va_W) ++ (F ++ (zWb cT qw q_l q_b q_a q_k q_s (nI np) (nI nl) (nI rounds) (nI calls) u.2.1 u.2.2.1 u.2.2.2 nl nb na A_l A_b A_a f0 f1 f2 f3 f4 f5 vb vw ++ ([]))))) rfl ?_
        refine xi_permL (ws2 := ([(ar, .inl (cT 0, np, .inl rw))] : va_W) ++ (F ++ (zWb cT qw q_l q_b q_a q_k q_s (nI np) (nI nl) (nI rounds) (nI calls) u.2.1 u.2.2.1 u.2.2.2 nl nb na A_l A_b A_a f0 f1 f2 f3 f4 f5 vb vw ++ (([] : va_W) ++ ([]))))) (by have h := permR (bs := [([] : va_W), ([(ar, .inl (cT 0, np, .inl rw))] : va_W), F, zWb cT qw q_l q_b q_a q_k q_s (nI np) (nI nl) (nI rounds) (nI calls) u.2.1 u.2.2.1 u.2.2.2 nl nb na A_l A_b A_a f0 f1 f2 f3 f4 f5 vb vw]) (bs2 := [([(ar, .inl (cT 0, np, .inl rw))] : va_W), F, zWb cT qw q_l q_b q_a q_k q_s (nI np) (nI nl) (nI rounds) (nI calls) u.2.1 u.2.2.1 u.2.2.2 nl nb na A_l A_b A_a f0 f1 f2 f3 f4 f5 vb vw, ([] : va_W)]) (n := 4) rfl [1, 2, 3, 0] rfl (by decide); simp only [List.flatten_cons, List.flatten_nil] at h; exact h) ?_
        refine xi_eqw (ws2 := ([(ar, .inl (cT 0, np, .inl rw))] : va_W) ++ (F ++ (zWb cT qw q_l q_b q_a q_k q_s (nI np) (nI nl) (nI rounds) (nI calls) u.2.1 u.2.2.1 u.2.2.2 nl nb na A_l A_b A_a f0 f1 f2 f3 f4 f5 vb vw ++ ([])))) rfl ?_
        refine xi_iadd C dX12_plan_50 ?_
        refine xi_rwi (y := nI (m + cnt nl (bset nl a b c (gn a b fw k0) (usb nb na wb fb ub wa fa ua a b cut (rounds + n0 + 1))))) (nI_add m (cnt nl (bset nl a b c (gn a b fw k0) (usb nb na wb fb ub wa fa ua a b cut (rounds + n0 + 1))))) ?_
        refine xi_istore_n C [1, 2, 3, 0, 4, 5] (L2 := [(0, .ref qw), (1, .ref ar), (2, .int (nI (n0 + 1))), (3, .int (nI (m + cnt nl (bset nl a b c (gn a b fw k0) (usb nb na wb fb ub wa fa ua a b cut (rounds + n0 + 1)))))), (4, .int (nI s)), (5, .int ux39)]) dX12_plan_51 (Nat.le_of_ble_eq_true rfl) rfl ?_
        refine xi_iload C 4 dX12_plan_52 rfl ?_
        refine xi_aload_n C 0 dX12_plan_54 rfl ?_
        refine xi_iload C 5 dX12_plan_55 rfl ?_
        refine xi_callEV C (sE_of_sM (kX12_cost l D cT qw q_l q_b q_a q_k q_s A_l A_b A_a nl nb na (nI np) (nI nl) (nI rounds) (nI calls) u.2.1 u.2.2.1 u.2.2.2 f0 f1 f2 f3 f4 f5 vb vw ux39 (by omega) _ (wCost hE hx))) (([(ar, .inl (cT 0, np, .inl rw))] : va_W) ++ (F ++ ([]))) (by have h := permX (bs := [([(ar, .inl (cT 0, np, .inl rw))] : va_W), F, zWb cT qw q_l q_b q_a q_k q_s (nI np) (nI nl) (nI rounds) (nI calls) u.2.1 u.2.2.1 u.2.2.2 nl nb na A_l A_b A_a f0 f1 f2 f3 f4 f5 vb vw]) (A := [zWb cT qw q_l q_b q_a q_k q_s (nI np) (nI nl) (nI rounds) (nI calls) u.2.1 u.2.2.1 u.2.2.2 nl nb na A_l A_b A_a f0 f1 f2 f3 f4 f5 vb vw]) (B := [([(ar, .inl (cT 0, np, .inl rw))] : va_W), F]) (n := 3) rfl [2, 0, 1] rfl (by decide) flat1; simp only [List.flatten_cons, List.flatten_nil] at h; exact h) zcX12_cost zmX12_72 ziX12_cost (zrE rfl rfl) ⟨(by show n0 + 0 ≤ 41; omega), (by show 10 * n0 + 0 ≤ 404; omega)⟩ rfl zkX12.1 (qr := 0) rfl rfl (Nat.le_of_ble_eq_true rfl) dX12_plan_57 (fun v43 W44 hv45 _ => ?_)
        obtain ⟨rfl, rfl⟩ := hv45
        refine xi_eqw (ws2 := zWb cT qw q_l q_b q_a q_k q_s (nI np) (nI nl) (nI rounds) (nI calls) u.2.1 u.2.2.1 u.2.2.2 nl nb na A_l A_b A_a f0 f1 f2 f3 f4 f5 vb vw ++ (([(ar, .inl (cT 0, np, .inl rw))] : va_W) ++ (F ++ ([])))) rfl ?_
        refine xi_permL (ws2 := ([(ar, .inl (cT 0, np, .inl rw))] : va_W) ++ (F ++ (zWb cT qw q_l q_b q_a q_k q_s (nI np) (nI nl) (nI rounds) (nI calls) u.2.1 u.2.2.1 u.2.2.2 nl nb na A_l A_b A_a f0 f1 f2 f3 f4 f5 vb vw ++ ([])))) (by have h := permR (bs := [zWb cT qw q_l q_b q_a q_k q_s (nI np) (nI nl) (nI rounds) (nI calls) u.2.1 u.2.2.1 u.2.2.2 nl nb na A_l A_b A_a f0 f1 f2 f3 f4 f5 vb vw, ([(ar, .inl (cT 0, np, .inl rw))] : va_W), F]) (bs2 := [([(ar, .inl (cT 0, np, .inl rw))] : va_W), F, zWb cT qw q_l q_b q_a q_k q_s (nI np) (nI nl) (nI rounds) (nI calls) u.2.1 u.2.2.1 u.2.2.2 nl nb na A_l A_b A_a f0 f1 f2 f3 f4 f5 vb vw]) (n := 3) rfl [1, 2, 0] rfl (by decide); simp only [List.flatten_cons, List.flatten_nil] at h; exact h) ?_
        refine xi_iadd C dX12_plan_60 ?_
        refine xi_rwi (y := nI (s + nsum (bset nl a b c (gn a b fw k0) (usb nb na wb fb ub wa fa ua a b cut (rounds + n0 + 1))) c nl)) (nI_add s (nsum (bset nl a b c (gn a b fw k0) (usb nb na wb fb ub wa fa ua a b cut (rounds + n0 + 1))) c nl)) ?_
        refine xi_istore C [1, 2, 3, 4, 0, 5] (L2 := [(0, .ref qw), (1, .ref ar), (2, .int (nI (n0 + 1))), (3, .int (nI (m + cnt nl (bset nl a b c (gn a b fw k0) (usb nb na wb fb ub wa fa ua a b cut (rounds + n0 + 1)))))), (4, .int (nI (s + nsum (bset nl a b c (gn a b fw k0) (usb nb na wb fb ub wa fa ua a b cut (rounds + n0 + 1))) c nl))), (5, .int ux39)]) dX12_plan_61 (Nat.le_of_ble_eq_true rfl) rfl ?_
        refine xi_aload_n C 0 dX12_plan_63 rfl ?_
        refine xi_iload C 5 dX12_plan_64 rfl ?_
        refine xi_aload_n C 1 dX12_plan_66 rfl ?_
        obtain ⟨r2, hr2, hk2⟩ := wAfter hE h4 hx
        refine xi_callEV C (kX12_after l D cT qw q_l q_b q_a q_k q_s ar A_l A_b A_a nl nb na np (nI np) (nI nl) (nI rounds) (nI calls) u.2.1 u.2.2.1 u.2.2.2 f0 f1 f2 f3 f4 f5 vb vw rw ux39 (by omega) (by omega) _ hr2) (F ++ ([])) (by have h := permX (bs := [([(ar, .inl (cT 0, np, .inl rw))] : va_W), F, zWb cT qw q_l q_b q_a q_k q_s (nI np) (nI nl) (nI rounds) (nI calls) u.2.1 u.2.2.1 u.2.2.2 nl nb na A_l A_b A_a f0 f1 f2 f3 f4 f5 vb vw]) (A := [([(ar, .inl (cT 0, np, .inl rw))] : va_W), zWb cT qw q_l q_b q_a q_k q_s (nI np) (nI nl) (nI rounds) (nI calls) u.2.1 u.2.2.1 u.2.2.2 nl nb na A_l A_b A_a f0 f1 f2 f3 f4 f5 vb vw]) (B := [F]) (n := 3) rfl [0, 2, 1] rfl (by decide) flatXA; simp only [List.flatten_cons, List.flatten_nil] at h; exact h) zcX12_after zmX12_102 ziX12_after (zrA rfl rfl) ⟨(by show n0 + 0 + 0 + 0 + 0 + 1 ≤ 41; omega), (by show 10 * n0 + 0 + 0 + 0 + 0 + 10 ≤ 404; omega)⟩ rfl zkX12.1 (qr := 1) rfl rfl (Nat.le_of_ble_eq_true rfl) dX12_plan_67 (fun v46 W47 hv48 _ => ?_)
        obtain ⟨an, rfl, rfl⟩ := hv48
        refine xi_eqw (ws2 := ([(an, .inl (cT 0, np, .inl r2))] : va_W) ++ (([(ar, .inl (cT 0, np, .inl rw))] : va_W) ++ (zWb cT qw q_l q_b q_a q_k q_s (nI np) (nI nl) (nI rounds) (nI calls) u.2.1 u.2.2.1 u.2.2.2 nl nb na A_l A_b A_a f0 f1 f2 f3 f4 f5 vb vw ++ (F ++ ([]))))) rfl ?_
        refine xi_permL (ws2 := ([(an, .inl (cT 0, np, .inl r2))] : va_W) ++ (([(ar, .inl (cT 0, np, .inl rw))] : va_W) ++ (F ++ (zWb cT qw q_l q_b q_a q_k q_s (nI np) (nI nl) (nI rounds) (nI calls) u.2.1 u.2.2.1 u.2.2.2 nl nb na A_l A_b A_a f0 f1 f2 f3 f4 f5 vb vw ++ ([]))))) (by have h := permR (bs := [([(an, .inl (cT 0, np, .inl r2))] : va_W), ([(ar, .inl (cT 0, np, .inl rw))] : va_W), zWb cT qw q_l q_b q_a q_k q_s (nI np) (nI nl) (nI rounds) (nI calls) u.2.1 u.2.2.1 u.2.2.2 nl nb na A_l A_b A_a f0 f1 f2 f3 f4 f5 vb vw, F]) (bs2 := [([(an, .inl (cT 0, np, .inl r2))] : va_W), ([(ar, .inl (cT 0, np, .inl rw))] : va_W), F, zWb cT qw q_l q_b q_a q_k q_s (nI np) (nI nl) (nI rounds) (nI calls) u.2.1 u.2.2.1 u.2.2.2 nl nb na A_l A_b A_a f0 f1 f2 f3 f4 f5 vb vw]) (n := 4) rfl [0, 1, 3, 2] rfl (by decide); simp only [List.flatten_cons, List.flatten_nil] at h; exact h) ?_
        refine xi_astore_n C [1, 0, 2, 3, 4, 5] (L2 := [(0, .ref qw), (1, .ref an), (2, .int (nI (n0 + 1))), (3, .int (nI (m + cnt nl (bset nl a b c (gn a b fw k0) (usb nb na wb fb ub wa fa ua a b cut (rounds + n0 + 1)))))), (4, .int (nI (s + nsum (bset nl a b c (gn a b fw k0) (usb nb na wb fb ub wa fa ua a b cut (rounds + n0 + 1))) c nl))), (5, .int ux39)]) dX12_plan_70 (Nat.le_of_ble_eq_true rfl) rfl ?_
        refine xi_goto C (tgt := 12) dX12_plan_71 rfl ?_
        refine xi_drop (L2 := [(0, .ref qw), (1, .ref an), (2, .int (nI (n0 + 1))), (3, .int (nI (m + cnt nl (bset nl a b c (gn a b fw k0) (usb nb na wb fb ub wa fa ua a b cut (rounds + n0 + 1)))))), (4, .int (nI (s + nsum (bset nl a b c (gn a b fw k0) (usb nb na wb fb ub wa fa ua a b cut (rounds + n0 + 1))) c nl)))]) [0, 1, 2, 3, 4] rfl ?_
        refine xi_wide (k2 := (n0 + 1)) (n2 := (10 * (n0 + 1))) (by show n0 + 0 + 0 + 0 + 0 + 1 ≤ n0 + 1; omega) (by show 10 * n0 + 0 + 0 + 0 + 0 + 10 ≤ 10 * (n0 + 1); omega) ?_
        refine ih (n0 + 1) (aft a b fw (bset nl a b c (gn a b fw k0) (usb nb na wb fb ub wa fa ua a b cut (rounds + n0 + 1))) k0 nl) (m + cnt nl (bset nl a b c (gn a b fw k0) (usb nb na wb fb ub wa fa ua a b cut (rounds + n0 + 1)))) (s + nsum (bset nl a b c (gn a b fw k0) (usb nb na wb fb ub wa fa ua a b cut (rounds + n0 + 1))) c nl) an (([(ar, .inl (cT 0, np, .inl rw))] : va_W) ++ F) r2 _ _ _ (by omega) (by omega) ?_ hk2 (fun Z => (h5 Z).trans (List.sublist_append_right [_] _))
        rw [← h3]
        conv => rhs; unfold pln
        rw [if_neg (by omega)]
  refine xi_eqw (ws2 := ([(q_k, .inl (cT 0, np, .inl kn))] : va_W) ++ (([] : va_W) ++ (zWb cT qw q_l q_b q_a q_k q_s (nI np) (nI nl) (nI rounds) (nI calls) bs bg bc nl nb na A_l A_b A_a f0 f1 f2 f3 f4 f5 vb vw ++ ([])))) (by rw [List.append_nil]; rfl) ?_
  refine xi_drop (L2 := [(0, .ref qw)]) [0] rfl ?_
  refine xi_aload_n C 0 dX12_plan_0 rfl ?_
  refine xi_get C zkX12 7 _ zlX12_89 (by decide) (zap2 rfl (zap2 rfl (zap1 (zWb_w)))) rfl dX12_plan_1 ?_
  refine xi_astore_n C [1, 0] (L2 := [(0, .ref qw), (1, .ref q_k)]) dX12_plan_4 (Nat.le_of_ble_eq_true rfl) rfl ?_
  refine xi_iconst C (v := 0) dX12_plan_5 rfl ?_
  refine xi_istore_n C [1, 2, 0] (L2 := [(0, .ref qw), (1, .ref q_k), (2, .int 0)]) dX12_plan_6 (Nat.le_of_ble_eq_true rfl) rfl ?_
  refine xi_iconst C (v := 0) dX12_plan_7 rfl ?_
  refine xi_istore_n C [1, 2, 3, 0] (L2 := [(0, .ref qw), (1, .ref q_k), (2, .int 0), (3, .int 0)]) dX12_plan_8 (Nat.le_of_ble_eq_true rfl) rfl ?_
  refine xi_iconst C (v := 0) dX12_plan_9 rfl ?_
  refine xi_istore C [1, 2, 3, 4, 0] (L2 := [(0, .ref qw), (1, .ref q_k), (2, .int 0), (3, .int 0), (4, .int 0)]) dX12_plan_10 (Nat.le_of_ble_eq_true rfl) rfl ?_
  refine L12 (fun n0 k0 m s ar F rw x1 x2 x3 h1 h3 h4 h5 => ?_) 40 0 k 0 0 q_k [] kn _ _ _ (by decide) rfl rfl hk (fun Z => by rw [List.append_nil]; exact List.Sublist.refl _)
  rw [h3] at hR
  refine xi_iconst C (v := 4) dX12_plan_74 rfl ?_
  refine xi_newaI C (zm1 (i := 71) rfl rfl) (by decide) rfl (by decide) (Nat.le_of_ble_eq_true rfl) (Nat.le_of_ble_eq_true rfl) dX12_plan_75 (fun an => ?_)
  refine xi_eqw (ws2 := ([(ar, .inl (cT 0, np, .inl rw))] : va_W) ++ (F ++ (zWb cT qw q_l q_b q_a q_k q_s (nI np) (nI nl) (nI rounds) (nI calls) x1 x2 x3 nl nb na A_l A_b A_a f0 f1 f2 f3 f4 f5 vb vw ++ (([(an, .inl (cT 0, 4, .inl (fun _ => 0)))] : va_W) ++ ([]))))) (by rw [List.append_assoc, List.append_assoc, List.append_assoc]; rfl) ?_
  have hms := msm_sm (k := k0) hnp
  refine xi_dup C dX12_plan_77 rfl ?_
  refine xi_iconst C (v := 0) dX12_plan_78 rfl ?_
  refine xi_aload_n C 0 dX12_plan_79 rfl ?_
  refine xi_aload_n C 1 dX12_plan_80 rfl ?_
  refine xi_callEV C (sE_of_sM (kX12_missing l D cT qw q_l q_b q_a q_k q_s ar A_l A_b A_a nl nb na np (nI np) (nI nl) (nI rounds) (nI calls) x1 x2 x3 f0 f1 f2 f3 f4 f5 vb vw rw (by omega) _ (wMissing hnp h4))) (F ++ (([(an, .inl (cT 0, 4, .inl (fun _ => 0)))] : va_W) ++ ([]))) (by have h := permX (bs := [([(ar, .inl (cT 0, np, .inl rw))] : va_W), F, zWb cT qw q_l q_b q_a q_k q_s (nI np) (nI nl) (nI rounds) (nI calls) x1 x2 x3 nl nb na A_l A_b A_a f0 f1 f2 f3 f4 f5 vb vw, ([(an, .inl (cT 0, 4, .inl (fun _ => 0)))] : va_W)]) (A := [([(ar, .inl (cT 0, np, .inl rw))] : va_W), zWb cT qw q_l q_b q_a q_k q_s (nI np) (nI nl) (nI rounds) (nI calls) x1 x2 x3 nl nb na A_l A_b A_a f0 f1 f2 f3 f4 f5 vb vw]) (B := [F, ([(an, .inl (cT 0, 4, .inl (fun _ => 0)))] : va_W)]) (n := 4) rfl [0, 2, 1, 3] rfl (by decide) flatXA; simp only [List.flatten_cons, List.flatten_nil] at h; exact h) zcX12_missing zmX12_92 ziX12_missing (zrE rfl rfl) ⟨Nat.le_of_ble_eq_true rfl, Nat.le_of_ble_eq_true rfl⟩ rfl zkX12.1 (qr := 1) rfl rfl (Nat.le_of_ble_eq_true rfl) dX12_plan_81 (fun v49 W50 hv51 _ => ?_)
  obtain ⟨rfl, rfl⟩ := hv51
  refine xi_eqw (ws2 := ([(ar, .inl (cT 0, np, .inl rw))] : va_W) ++ (zWb cT qw q_l q_b q_a q_k q_s (nI np) (nI nl) (nI rounds) (nI calls) x1 x2 x3 nl nb na A_l A_b A_a f0 f1 f2 f3 f4 f5 vb vw ++ (F ++ (([(an, .inl (cT 0, 4, .inl (fun _ => 0)))] : va_W) ++ ([]))))) rfl ?_
  have K92 : ∀ v0 : Int32, v0 = (if msm np k0 np = 0 then nI n0 else -1) → sW X l (zRA 62 41 404) D 6 41 404 92 [(0, .ref qw), (1, .ref ar), (2, .int (nI n0)), (3, .int (nI m)), (4, .int (nI s))] [.int v0, .int 0, .ref an, .ref an] (([(ar, .inl (cT 0, np, .inl rw))] : va_W) ++ (zWb cT qw q_l q_b q_a q_k q_s (nI np) (nI nl) (nI rounds) (nI calls) x1 x2 x3 nl nb na A_l A_b A_a f0 f1 f2 f3 f4 f5 vb vw ++ (F ++ (([(an, .inl (cT 0, 4, .inl (fun _ => 0)))] : va_W) ++ ([]))))) := by
    intro v0 hv0
    refine xi_rwi2 (show (0 : Int32) = nI 0 from rfl) ?_
    refine xw_iast C _ (zap2 rfl (zap2 rfl (zap2 rfl (zap1 ((rfl : (([(an, .inl (cT 0, 4, .inl (fun _ => 0)))] : va_W) : va_W)[0]? = some _)))))) (by decide) (by decide) dX12_plan_92 (ws2 := ([(ar, .inl (cT 0, np, .inl rw))] : va_W) ++ (zWb cT qw q_l q_b q_a q_k q_s (nI np) (nI nl) (nI rounds) (nI calls) x1 x2 x3 nl nb na A_l A_b A_a f0 f1 f2 f3 f4 f5 vb vw ++ (F ++ (([(an, .inl (cT 0, 4, .inl (upd (fun _ => 0) 0 v0)))] : va_W) ++ ([]))))) (zse2 rfl (zse2 rfl (zse2 rfl (zse1 (Nat.zero_lt_succ _) rfl)))) ?_
    refine xi_dup C dX12_plan_93 rfl ?_
    refine xi_iconst C (v := 1) dX12_plan_94 rfl ?_
    refine xi_iload_n C 3 dX12_plan_95 rfl ?_
    refine xi_rwi2 (show (1 : Int32) = nI 1 from rfl) ?_
    refine xw_iast C _ (zap2 rfl (zap2 rfl (zap2 rfl (zap1 ((rfl : (([(an, .inl (cT 0, 4, .inl (upd (fun _ => 0) 0 v0)))] : va_W) : va_W)[0]? = some _)))))) (by decide) (by decide) dX12_plan_96 (ws2 := ([(ar, .inl (cT 0, np, .inl rw))] : va_W) ++ (zWb cT qw q_l q_b q_a q_k q_s (nI np) (nI nl) (nI rounds) (nI calls) x1 x2 x3 nl nb na A_l A_b A_a f0 f1 f2 f3 f4 f5 vb vw ++ (F ++ (([(an, .inl (cT 0, 4, .inl (upd (upd (fun _ => 0) 0 v0) 1 (nI m))))] : va_W) ++ ([]))))) (zse2 rfl (zse2 rfl (zse2 rfl (zse1 (Nat.zero_lt_succ _) rfl)))) ?_
    refine xi_dup C dX12_plan_97 rfl ?_
    refine xi_iconst C (v := 2) dX12_plan_98 rfl ?_
    refine xi_iload C 4 dX12_plan_99 rfl ?_
    refine xi_rwi2 (show (2 : Int32) = nI 2 from rfl) ?_
    refine xw_iast C _ (zap2 rfl (zap2 rfl (zap2 rfl (zap1 ((rfl : (([(an, .inl (cT 0, 4, .inl (upd (upd (fun _ => 0) 0 v0) 1 (nI m))))] : va_W) : va_W)[0]? = some _)))))) (by decide) (by decide) dX12_plan_101 (ws2 := ([(ar, .inl (cT 0, np, .inl rw))] : va_W) ++ (zWb cT qw q_l q_b q_a q_k q_s (nI np) (nI nl) (nI rounds) (nI calls) x1 x2 x3 nl nb na A_l A_b A_a f0 f1 f2 f3 f4 f5 vb vw ++ (F ++ (([(an, .inl (cT 0, 4, .inl (upd (upd (upd (fun _ => 0) 0 v0) 1 (nI m)) 2 (nI s))))] : va_W) ++ ([]))))) (zse2 rfl (zse2 rfl (zse2 rfl (zse1 (Nat.zero_lt_succ _) rfl)))) ?_
    refine xi_dup C dX12_plan_102 rfl ?_
    refine xi_iconst C (v := 3) dX12_plan_103 rfl ?_
    refine xi_aload_n C 0 dX12_plan_104 rfl ?_
    refine xi_aload_n C 1 dX12_plan_105 rfl ?_
    refine xi_callEV C (sE_of_sM (kX12_missing l D cT qw q_l q_b q_a q_k q_s ar A_l A_b A_a nl nb na np (nI np) (nI nl) (nI rounds) (nI calls) x1 x2 x3 f0 f1 f2 f3 f4 f5 vb vw rw (by omega) _ (wMissing hnp h4))) (F ++ (([(an, .inl (cT 0, 4, .inl (upd (upd (upd (fun _ => 0) 0 v0) 1 (nI m)) 2 (nI s))))] : va_W) ++ ([]))) (by have h := permX (bs := [([(ar, .inl (cT 0, np, .inl rw))] : va_W), zWb cT qw q_l q_b q_a q_k q_s (nI np) (nI nl) (nI rounds) (nI calls) x1 x2 x3 nl nb na A_l A_b A_a f0 f1 f2 f3 f4 f5 vb vw, F, ([(an, .inl (cT 0, 4, .inl (upd (upd (upd (fun _ => 0) 0 v0) 1 (nI m)) 2 (nI s))))] : va_W)]) (A := [([(ar, .inl (cT 0, np, .inl rw))] : va_W), zWb cT qw q_l q_b q_a q_k q_s (nI np) (nI nl) (nI rounds) (nI calls) x1 x2 x3 nl nb na A_l A_b A_a f0 f1 f2 f3 f4 f5 vb vw]) (B := [F, ([(an, .inl (cT 0, 4, .inl (upd (upd (upd (fun _ => 0) 0 v0) 1 (nI m)) 2 (nI s))))] : va_W)]) (n := 4) rfl [0, 1, 2, 3] rfl (by decide) flatXA; simp only [List.flatten_cons, List.flatten_nil] at h; exact h) zcX12_missing zmX12_92 ziX12_missing (zrE rfl rfl) ⟨Nat.le_of_ble_eq_true rfl, Nat.le_of_ble_eq_true rfl⟩ rfl zkX12.1 (qr := 1) rfl rfl (Nat.le_of_ble_eq_true rfl) dX12_plan_106 (fun v52 W53 hv54 _ => ?_)
    obtain ⟨rfl, rfl⟩ := hv54
    refine xi_eqw (ws2 := ([(ar, .inl (cT 0, np, .inl rw))] : va_W) ++ (zWb cT qw q_l q_b q_a q_k q_s (nI np) (nI nl) (nI rounds) (nI calls) x1 x2 x3 nl nb na A_l A_b A_a f0 f1 f2 f3 f4 f5 vb vw ++ (F ++ (([(an, .inl (cT 0, 4, .inl (upd (upd (upd (fun _ => 0) 0 v0) 1 (nI m)) 2 (nI s))))] : va_W) ++ ([]))))) rfl ?_
    refine xi_rwi2 (show (3 : Int32) = nI 3 from rfl) ?_
    refine xw_iast C _ (zap2 rfl (zap2 rfl (zap2 rfl (zap1 ((rfl : (([(an, .inl (cT 0, 4, .inl (upd (upd (upd (fun _ => 0) 0 v0) 1 (nI m)) 2 (nI s))))] : va_W) : va_W)[0]? = some _)))))) (by decide) (by decide) dX12_plan_109 (ws2 := ([(ar, .inl (cT 0, np, .inl rw))] : va_W) ++ (zWb cT qw q_l q_b q_a q_k q_s (nI np) (nI nl) (nI rounds) (nI calls) x1 x2 x3 nl nb na A_l A_b A_a f0 f1 f2 f3 f4 f5 vb vw ++ (F ++ (([(an, .inl (cT 0, 4, .inl (upd (upd (upd (upd (fun _ => 0) 0 v0) 1 (nI m)) 2 (nI s)) 3 (nI (msm np k0 np)))))] : va_W) ++ ([]))))) (zse2 rfl (zse2 rfl (zse2 rfl (zse1 (Nat.zero_lt_succ _) rfl)))) ?_
    refine xi_permL (ws2 := ([(an, .inl (cT 0, 4, .inl (upd (upd (upd (upd (fun _ => 0) 0 v0) 1 (nI m)) 2 (nI s)) 3 (nI (msm np k0 np)))))] : va_W) ++ (([(ar, .inl (cT 0, np, .inl rw))] : va_W) ++ (F ++ (zWb cT qw q_l q_b q_a q_k q_s (nI np) (nI nl) (nI rounds) (nI calls) x1 x2 x3 nl nb na A_l A_b A_a f0 f1 f2 f3 f4 f5 vb vw ++ ([]))))) (by have h := permR (bs := [([(ar, .inl (cT 0, np, .inl rw))] : va_W), zWb cT qw q_l q_b q_a q_k q_s (nI np) (nI nl) (nI rounds) (nI calls) x1 x2 x3 nl nb na A_l A_b A_a f0 f1 f2 f3 f4 f5 vb vw, F, ([(an, .inl (cT 0, 4, .inl (upd (upd (upd (upd (fun _ => 0) 0 v0) 1 (nI m)) 2 (nI s)) 3 (nI (msm np k0 np)))))] : va_W)]) (bs2 := [([(an, .inl (cT 0, 4, .inl (upd (upd (upd (upd (fun _ => 0) 0 v0) 1 (nI m)) 2 (nI s)) 3 (nI (msm np k0 np)))))] : va_W), ([(ar, .inl (cT 0, np, .inl rw))] : va_W), F, zWb cT qw q_l q_b q_a q_k q_s (nI np) (nI nl) (nI rounds) (nI calls) x1 x2 x3 nl nb na A_l A_b A_a f0 f1 f2 f3 f4 f5 vb vw]) (n := 4) rfl [3, 0, 2, 1] rfl (by decide); simp only [List.flatten_cons, List.flatten_nil] at h; exact h) ?_
    refine xi_less (List.Sublist.cons_cons _ (h5 _)) ?_
    refine hR _ _ _ _ dX12_plan_110 ⟨an, _, x1, x2, x3, rfl, ?_, ?_, ?_, ?_, rfl⟩
    · show upd (upd (upd (upd (fun _ => 0) 0 v0) 1 (nI m)) 2 (nI s)) 3 (nI (msm np k0 np)) 0 = _
      unfold upd
      simp [hv0]
    · show upd (upd (upd (upd (fun _ => 0) 0 v0) 1 (nI m)) 2 (nI s)) 3 (nI (msm np k0 np)) 1 = _
      unfold upd
      simp
    · show upd (upd (upd (upd (fun _ => 0) 0 v0) 1 (nI m)) 2 (nI s)) 3 (nI (msm np k0 np)) 2 = _
      unfold upd
      simp
    · show upd (upd (upd (upd (fun _ => 0) 0 v0) 1 (nI m)) 2 (nI s)) 3 (nI (msm np k0 np)) 3 = _
      unfold upd
      simp
  rcases Nat.eq_zero_or_pos (msm np k0 np) with z | z
  · refine xi_rwi (y := 0) (by rw [z]; rfl) ?_
    refine xi_if_le C (tgt := 91) dX12_plan_84 rfl (fun c55 => ?_) (fun c55 => False.elim ((fun z : ¬ ((0 : Int32) ≤ 0) => z (by decide)) c55))
    refine xi_iload_n C 2 dX12_plan_91 rfl ?_
    exact K92 _ (if_pos z).symm
  · refine xi_if_le C (tgt := 91) dX12_plan_84 rfl (fun c56 => False.elim ((fun z2 => nI_nle z (by omega) z2) c56)) (fun c56 => ?_)
    refine xi_iconst C (v := (-1)) dX12_plan_87 rfl ?_
    refine xi_goto C (tgt := 92) dX12_plan_88 rfl ?_
    exact K92 _ (if_neg (by omega)).symm
