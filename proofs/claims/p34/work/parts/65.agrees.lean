set_option maxRecDepth 100000 in
set_option maxHeartbeats 4000000 in
theorem agrees_419 {X : sX} {l : Launch} {D : va_G} {cT : Nat → ClassId} {a_o qw a_g : Nat} {np nl : Nat} {a b c : Nat → Nat} {fw : Nat → Bool} {nb : Nat} {wb fb ub : Nat → Nat} {na : Nat} {wa fa ua : Nat → Nat} {cut S : Nat → Bool} {k : Nat → Nat} {rounds calls : Nat} {sp : Nat → Nat} {q_l q_b q_a q_k q_s : Nat} {A_l A_b A_a : Nat → Nat} {bs bg bc : Int32} {f0 f1 f2 f3 f4 f5 : Nat → Int32} {vb vw : Nat → Nat → Int32} {kn spv gv : Nat → Int32} {Wo : va_W} (C : sC X (zRA 75 220 2200) D cT 8 cL_agrees yL_agrees.cls) (hr : rounds < 95) (hR : ∀ (pc : Nat) (L : List (Nat × Value)) (W1 : va_W), decode cL_agrees pc = .ok (.ireturn, 1) → SW cT a_o qw a_g np nl a b c fw nb wb fb ub na wa fa ua cut S k rounds calls sp W1 → sW X l (zRA 75 220 2200) D 8 220 2200 pc L [.int 1] W1) (hO : OW cT a_o np nl a b c fw nb wb fb ub na wa fa ua cut S k rounds calls sp 0 Wo) (hE : hLn np nl a b c fw f0 f1 f2 f3) (hc : hFl nl cut f4) (hS : hFl nl S f5) (hb : hRw nb nl wb fb ub vb) (ha : hRw na np wa fa ua vw) (hk : hK np k kn) (hsp : ∀ i, i ≤ rounds → spv i = nI (sp i)) (hcS : ∀ l, l < nl → cut l = true → S l = false)  : sW X l (zRA 75 220 2200) D 8 41 404 419 [(0, .ref a_o), (1, .ref qw), (2, .ref a_g)] [] (Wo ++ (([(q_k, .inl (cT 0, np, .inl kn))] : va_W) ++ (([(q_s, .inl (cT 0, 100, .inl spv))] : va_W) ++ (zWb cT qw q_l q_b q_a q_k q_s (nI np) (nI nl) (nI rounds) (nI calls) bs bg bc nl nb na A_l A_b A_a f0 f1 f2 f3 f4 f5 vb vw ++ (([(a_g, .inl (cT 0, 1, .inl gv))] : va_W) ++ ([])))))) := by
  have hnp := hE.1
  have hnl := hE.2.1
  have hOf := OW_facts hO
  have hab : ∀ l, l < nl → a l ≠ b l := fun l hl => (hE.2.2 l hl).2.2.1
  have hE2 : ∀ l, l < nl → a l < np ∧ b l < np := fun l hl => ⟨(hE.2.2 l hl).1, (hE.2.2 l hl).2.1⟩
  refine xi_aload_n C 2 dL_agrees_419 rfl ?_
  refine xi_aload_n C 1 dL_agrees_420 rfl ?_
  refine xi_get C zkX12 0 _ zlL_39 (by decide) (zap2 rfl (zap2 rfl (zap2 rfl (zap1 (zWb_w))))) rfl dL_agrees_421 ?_
  refine xi_callES C (kL_draw l D cT a_g gv (m := np) (by omega) (by omega)) (Wo ++ (([(q_k, .inl (cT 0, np, .inl kn))] : va_W) ++ (([(q_s, .inl (cT 0, 100, .inl spv))] : va_W) ++ (zWb cT qw q_l q_b q_a q_k q_s (nI np) (nI nl) (nI rounds) (nI calls) bs bg bc nl nb na A_l A_b A_a f0 f1 f2 f3 f4 f5 vb vw ++ ([]))))) (by have h := permX (bs := [Wo, ([(q_k, .inl (cT 0, np, .inl kn))] : va_W), ([(q_s, .inl (cT 0, 100, .inl spv))] : va_W), zWb cT qw q_l q_b q_a q_k q_s (nI np) (nI nl) (nI rounds) (nI calls) bs bg bc nl nb na A_l A_b A_a f0 f1 f2 f3 f4 f5 vb vw, ([(a_g, .inl (cT 0, 1, .inl gv))] : va_W)]) (A := [([(a_g, .inl (cT 0, 1, .inl gv))] : va_W)]) (B := [Wo, ([(q_k, .inl (cT 0, np, .inl kn))] : va_W), ([(q_s, .inl (cT 0, 100, .inl spv))] : va_W), zWb cT qw q_l q_b q_a q_k q_s (nI np) (nI nl) (nI rounds) (nI calls) bs bg bc nl nb na A_l A_b A_a f0 f1 f2 f3 f4 f5 vb vw]) (n := 5) rfl [4, 0, 1, 2, 3] rfl (by decide) flat1; simp only [List.flatten_cons, List.flatten_nil] at h; exact h) zcL_draw zmL_35 zsL_draw (zrE rfl rfl) ⟨Nat.le_of_ble_eq_true rfl, Nat.le_of_ble_eq_true rfl⟩ rfl rfl (Nat.le_of_ble_eq_true rfl) dL_agrees_424 (fun v93 W94 hv95 _ => ?_)
  obtain ⟨d90, gv91, hd92, rfl, rfl⟩ := hv95
  refine xi_eqw (ws2 := ([(a_g, .inl (cT 0, 1, .inl gv91))] : va_W) ++ (Wo ++ (([(q_k, .inl (cT 0, np, .inl kn))] : va_W) ++ (([(q_s, .inl (cT 0, 100, .inl spv))] : va_W) ++ (zWb cT qw q_l q_b q_a q_k q_s (nI np) (nI nl) (nI rounds) (nI calls) bs bg bc nl nb na A_l A_b A_a f0 f1 f2 f3 f4 f5 vb vw ++ ([])))))) rfl ?_
  obtain ⟨p, ep⟩ : ∃ p, p = d90 := ⟨_, rfl⟩
  rw [← ep] at hd92 ⊢
  have hp : p < np := hd92
  refine xi_istore C [1, 2, 3, 0] (L2 := [(0, .ref a_o), (1, .ref qw), (2, .ref a_g), (4, .int (nI p))]) dL_agrees_427 (Nat.le_of_ble_eq_true rfl) rfl ?_
  refine xi_aload_n C 2 dL_agrees_429 rfl ?_
  refine xi_aload_n C 1 dL_agrees_430 rfl ?_
  refine xi_get C zkX12 0 _ zlL_39 (by decide) (zap2 rfl (zap2 rfl (zap2 rfl (zap2 rfl (zap1 (zWb_w)))))) rfl dL_agrees_431 ?_
  refine xi_callES C (kL_draw l D cT a_g gv91 (m := np) (by omega) (by omega)) (Wo ++ (([(q_k, .inl (cT 0, np, .inl kn))] : va_W) ++ (([(q_s, .inl (cT 0, 100, .inl spv))] : va_W) ++ (zWb cT qw q_l q_b q_a q_k q_s (nI np) (nI nl) (nI rounds) (nI calls) bs bg bc nl nb na A_l A_b A_a f0 f1 f2 f3 f4 f5 vb vw ++ ([]))))) (by have h := permX (bs := [([(a_g, .inl (cT 0, 1, .inl gv91))] : va_W), Wo, ([(q_k, .inl (cT 0, np, .inl kn))] : va_W), ([(q_s, .inl (cT 0, 100, .inl spv))] : va_W), zWb cT qw q_l q_b q_a q_k q_s (nI np) (nI nl) (nI rounds) (nI calls) bs bg bc nl nb na A_l A_b A_a f0 f1 f2 f3 f4 f5 vb vw]) (A := [([(a_g, .inl (cT 0, 1, .inl gv91))] : va_W)]) (B := [Wo, ([(q_k, .inl (cT 0, np, .inl kn))] : va_W), ([(q_s, .inl (cT 0, 100, .inl spv))] : va_W), zWb cT qw q_l q_b q_a q_k q_s (nI np) (nI nl) (nI rounds) (nI calls) bs bg bc nl nb na A_l A_b A_a f0 f1 f2 f3 f4 f5 vb vw]) (n := 5) rfl [0, 1, 2, 3, 4] rfl (by decide) flat1; simp only [List.flatten_cons, List.flatten_nil] at h; exact h) zcL_draw zmL_35 zsL_draw (zrE rfl rfl) ⟨Nat.le_of_ble_eq_true rfl, Nat.le_of_ble_eq_true rfl⟩ rfl rfl (Nat.le_of_ble_eq_true rfl) dL_agrees_434 (fun v99 W100 hv101 _ => ?_)
  obtain ⟨d96, gv97, hd98, rfl, rfl⟩ := hv101
  refine xi_eqw (ws2 := ([(a_g, .inl (cT 0, 1, .inl gv97))] : va_W) ++ (Wo ++ (([(q_k, .inl (cT 0, np, .inl kn))] : va_W) ++ (([(q_s, .inl (cT 0, 100, .inl spv))] : va_W) ++ (zWb cT qw q_l q_b q_a q_k q_s (nI np) (nI nl) (nI rounds) (nI calls) bs bg bc nl nb na A_l A_b A_a f0 f1 f2 f3 f4 f5 vb vw ++ ([])))))) rfl ?_
  obtain ⟨q, eq⟩ : ∃ q, q = d96 := ⟨_, rfl⟩
  rw [← eq] at hd98 ⊢
  have hq : q < np := hd98
  refine xi_istore C [1, 2, 3, 4, 0] (L2 := [(0, .ref a_o), (1, .ref qw), (2, .ref a_g), (4, .int (nI p)), (5, .int (nI q))]) dL_agrees_437 (Nat.le_of_ble_eq_true rfl) rfl ?_
  refine xi_aload_n C 1 dL_agrees_439 rfl ?_
  refine xi_iload C 4 dL_agrees_440 rfl ?_
  refine xi_iconst C (v := (-1)) dL_agrees_442 rfl ?_
  obtain ⟨rb, hrb, hrb2⟩ := wPrices (x2 := -1) (wo := fun _ => false) (q := q) (by omega) hk hOf.2.1 hE hc (fun l hl => ⟨fun z => absurd z (nI_m1 (by omega)), fun z => nofalse z⟩)
  refine xi_callEV C (kX12_prices l D cT qw q_l q_b q_a q_k q_s A_l A_b A_a nl nb na np (nI np) (nI nl) (nI rounds) (nI calls) bs bg bc f0 f1 f2 f3 f4 f5 vb vw kn (nI q) (-1) (by omega) _ hrb) (([(a_g, .inl (cT 0, 1, .inl gv97))] : va_W) ++ (Wo ++ (([(q_s, .inl (cT 0, 100, .inl spv))] : va_W) ++ ([])))) (by have h := permX (bs := [([(a_g, .inl (cT 0, 1, .inl gv97))] : va_W), Wo, ([(q_k, .inl (cT 0, np, .inl kn))] : va_W), ([(q_s, .inl (cT 0, 100, .inl spv))] : va_W), zWb cT qw q_l q_b q_a q_k q_s (nI np) (nI nl) (nI rounds) (nI calls) bs bg bc nl nb na A_l A_b A_a f0 f1 f2 f3 f4 f5 vb vw]) (A := [([(q_k, .inl (cT 0, np, .inl kn))] : va_W), zWb cT qw q_l q_b q_a q_k q_s (nI np) (nI nl) (nI rounds) (nI calls) bs bg bc nl nb na A_l A_b A_a f0 f1 f2 f3 f4 f5 vb vw]) (B := [([(a_g, .inl (cT 0, 1, .inl gv97))] : va_W), Wo, ([(q_s, .inl (cT 0, 100, .inl spv))] : va_W)]) (n := 5) rfl [2, 4, 0, 1, 3] rfl (by decide) flatXA; simp only [List.flatten_cons, List.flatten_nil] at h; exact h) zcX12_prices zmL_246 ziX12_prices (zrA rfl rfl) ⟨Nat.le_of_ble_eq_true rfl, Nat.le_of_ble_eq_true rfl⟩ rfl zkX12.1 (qr := 1) rfl rfl (Nat.le_of_ble_eq_true rfl) dL_agrees_443 (fun v102 W103 hv104 _ => ?_)
  obtain ⟨bn, rfl, rfl⟩ := hv104
  refine xi_eqw (ws2 := ([(bn, .inl (cT 0, ((nI np).toNatClampNeg), .inl rb))] : va_W) ++ (([(q_k, .inl (cT 0, np, .inl kn))] : va_W) ++ (zWb cT qw q_l q_b q_a q_k q_s (nI np) (nI nl) (nI rounds) (nI calls) bs bg bc nl nb na A_l A_b A_a f0 f1 f2 f3 f4 f5 vb vw ++ (([(a_g, .inl (cT 0, 1, .inl gv97))] : va_W) ++ (Wo ++ (([(q_s, .inl (cT 0, 100, .inl spv))] : va_W) ++ ([]))))))) rfl ?_
  rw [nI_clamp (show np < 2 ^ 31 by omega)]
  refine xi_iload C 3 dL_agrees_446 rfl ?_
  refine xw_iald C _ (zap1 ((rfl : (([(bn, .inl (cT 0, np, .inl rb))] : va_W) : va_W)[0]? = some _))) hp (by omega) dL_agrees_448 ?_
  refine xi_rwi (y := enc TOP (prc nl a b c fw (fun l => !cut l && !false) (fun p => decide (p < np) && (k p).testBit q) np p)) (hrb2 p hp) ?_
  refine xi_permL (ws2 := ([(bn, .inl (cT 0, np, .inl rb))] : va_W) ++ (Wo ++ (([(q_k, .inl (cT 0, np, .inl kn))] : va_W) ++ (([(q_s, .inl (cT 0, 100, .inl spv))] : va_W) ++ (zWb cT qw q_l q_b q_a q_k q_s (nI np) (nI nl) (nI rounds) (nI calls) bs bg bc nl nb na A_l A_b A_a f0 f1 f2 f3 f4 f5 vb vw ++ (([(a_g, .inl (cT 0, 1, .inl gv97))] : va_W) ++ ([]))))))) (by have h := permR (bs := [([(bn, .inl (cT 0, np, .inl rb))] : va_W), ([(q_k, .inl (cT 0, np, .inl kn))] : va_W), zWb cT qw q_l q_b q_a q_k q_s (nI np) (nI nl) (nI rounds) (nI calls) bs bg bc nl nb na A_l A_b A_a f0 f1 f2 f3 f4 f5 vb vw, ([(a_g, .inl (cT 0, 1, .inl gv97))] : va_W), Wo, ([(q_s, .inl (cT 0, 100, .inl spv))] : va_W)]) (bs2 := [([(bn, .inl (cT 0, np, .inl rb))] : va_W), Wo, ([(q_k, .inl (cT 0, np, .inl kn))] : va_W), ([(q_s, .inl (cT 0, 100, .inl spv))] : va_W), zWb cT qw q_l q_b q_a q_k q_s (nI np) (nI nl) (nI rounds) (nI calls) bs bg bc nl nb na A_l A_b A_a f0 f1 f2 f3 f4 f5 vb vw, ([(a_g, .inl (cT 0, 1, .inl gv97))] : va_W)]) (n := 6) rfl [0, 4, 1, 5, 2, 3] rfl (by decide); simp only [List.flatten_cons, List.flatten_nil] at h; exact h) ?_
  refine xi_less (ws2 := Wo ++ (([(q_k, .inl (cT 0, np, .inl kn))] : va_W) ++ (([(q_s, .inl (cT 0, 100, .inl spv))] : va_W) ++ (zWb cT qw q_l q_b q_a q_k q_s (nI np) (nI nl) (nI rounds) (nI calls) bs bg bc nl nb na A_l A_b A_a f0 f1 f2 f3 f4 f5 vb vw ++ (([(a_g, .inl (cT 0, 1, .inl gv97))] : va_W) ++ ([])))))) (List.Sublist.trans (List.Sublist.refl _) (List.sublist_append_right _ _)) ?_
  have hP : prc nl a b c fw (fun l => !cut l && !false) (fun p => decide (p < np) && (k p).testBit q) np p = prc nl a b c fw (fun l => !cut l) (fun p => decide (p < np) && (k p).testBit q) (np - 1) p := by
    rw [prc_congr (V := fun l => !cut l) (fun i _ => by rw [Bool.not_false, Bool.and_true]), prc_fix hE2 hab (fun p z => of_decide_eq_true (Bool.and_eq_true _ _ ▸ z).1) (by omega) p]
  have hPb := prc_bd (fw := fw) (U := fun l => !cut l) (K := (fun p => decide (p < np) && (k p).testBit q)) (nl := nl) (a := a) (b := b) hOf.2.1 (np - 1) p
  have hB9 : 4 * nl * (np - 1) < 99999 := Nat.lt_of_le_of_lt (Nat.mul_le_mul (Nat.mul_le_mul_left 4 hnl) (show np - 1 ≤ 7 by omega)) (by decide)
  rw [hP]
  obtain ⟨pr, epr⟩ : ∃ pr, pr = prc nl a b c fw (fun l => !cut l) (fun p => decide (p < np) && (k p).testBit q) (np - 1) p := ⟨_, rfl⟩
  rw [← epr] at hPb ⊢
  refine xi_istore C [1, 2, 3, 4, 5, 0] (L2 := [(0, .ref a_o), (1, .ref qw), (2, .ref a_g), (4, .int (nI p)), (5, .int (nI q)), (6, .int (enc TOP pr))]) dL_agrees_449 (Nat.le_of_ble_eq_true rfl) rfl ?_
  refine xi_aload_n C 2 dL_agrees_451 rfl ?_
  refine xi_bipush C (v := 30) dL_agrees_452 rfl ?_
  refine xi_rwi (y := nI 30) rfl ?_
  refine xi_callES C (kL_draw l D cT a_g gv97 (m := 30) (by decide) (by decide)) (Wo ++ (([(q_k, .inl (cT 0, np, .inl kn))] : va_W) ++ (([(q_s, .inl (cT 0, 100, .inl spv))] : va_W) ++ (zWb cT qw q_l q_b q_a q_k q_s (nI np) (nI nl) (nI rounds) (nI calls) bs bg bc nl nb na A_l A_b A_a f0 f1 f2 f3 f4 f5 vb vw ++ ([]))))) (by have h := permX (bs := [Wo, ([(q_k, .inl (cT 0, np, .inl kn))] : va_W), ([(q_s, .inl (cT 0, 100, .inl spv))] : va_W), zWb cT qw q_l q_b q_a q_k q_s (nI np) (nI nl) (nI rounds) (nI calls) bs bg bc nl nb na A_l A_b A_a f0 f1 f2 f3 f4 f5 vb vw, ([(a_g, .inl (cT 0, 1, .inl gv97))] : va_W)]) (A := [([(a_g, .inl (cT 0, 1, .inl gv97))] : va_W)]) (B := [Wo, ([(q_k, .inl (cT 0, np, .inl kn))] : va_W), ([(q_s, .inl (cT 0, 100, .inl spv))] : va_W), zWb cT qw q_l q_b q_a q_k q_s (nI np) (nI nl) (nI rounds) (nI calls) bs bg bc nl nb na A_l A_b A_a f0 f1 f2 f3 f4 f5 vb vw]) (n := 5) rfl [4, 0, 1, 2, 3] rfl (by decide) flat1; simp only [List.flatten_cons, List.flatten_nil] at h; exact h) zcL_draw zmL_35 zsL_draw (zrE rfl rfl) ⟨Nat.le_of_ble_eq_true rfl, Nat.le_of_ble_eq_true rfl⟩ rfl rfl (Nat.le_of_ble_eq_true rfl) dL_agrees_454 (fun v108 W109 hv110 _ => ?_)
  obtain ⟨d105, gv106, hd107, rfl, rfl⟩ := hv110
  refine xi_eqw (ws2 := ([(a_g, .inl (cT 0, 1, .inl gv106))] : va_W) ++ (Wo ++ (([(q_k, .inl (cT 0, np, .inl kn))] : va_W) ++ (([(q_s, .inl (cT 0, 100, .inl spv))] : va_W) ++ (zWb cT qw q_l q_b q_a q_k q_s (nI np) (nI nl) (nI rounds) (nI calls) bs bg bc nl nb na A_l A_b A_a f0 f1 f2 f3 f4 f5 vb vw ++ ([])))))) rfl ?_
  refine xi_istore C [1, 2, 3, 4, 5, 6, 0] (L2 := [(0, .ref a_o), (1, .ref qw), (2, .ref a_g), (4, .int (nI p)), (5, .int (nI q)), (6, .int (enc TOP pr)), (7, .int (nI d105))]) dL_agrees_457 (Nat.le_of_ble_eq_true rfl) rfl ?_
  obtain ⟨up, eup⟩ : ∃ up, up = d105 := ⟨_, rfl⟩
  rw [← eup] at hd107 ⊢
  have hup : up < 30 := hd107
  refine xi_aload_n C 0 dL_agrees_459 rfl ?_
  refine xi_iload C 3 dL_agrees_460 rfl ?_
  refine xi_iload C 4 dL_agrees_462 rfl ?_
  obtain ⟨qr111, fs112, hq113⟩ := OW_at hO
  refine xi_callEV C (kO_soonest l D cT hO hp hq) (([(a_g, .inl (cT 0, 1, .inl gv106))] : va_W) ++ (([(q_k, .inl (cT 0, np, .inl kn))] : va_W) ++ (([(q_s, .inl (cT 0, 100, .inl spv))] : va_W) ++ (zWb cT qw q_l q_b q_a q_k q_s (nI np) (nI nl) (nI rounds) (nI calls) bs bg bc nl nb na A_l A_b A_a f0 f1 f2 f3 f4 f5 vb vw ++ ([]))))) (by have h := permX (bs := [([(a_g, .inl (cT 0, 1, .inl gv106))] : va_W), Wo, ([(q_k, .inl (cT 0, np, .inl kn))] : va_W), ([(q_s, .inl (cT 0, 100, .inl spv))] : va_W), zWb cT qw q_l q_b q_a q_k q_s (nI np) (nI nl) (nI rounds) (nI calls) bs bg bc nl nb na A_l A_b A_a f0 f1 f2 f3 f4 f5 vb vw]) (A := [Wo]) (B := [([(a_g, .inl (cT 0, 1, .inl gv106))] : va_W), ([(q_k, .inl (cT 0, np, .inl kn))] : va_W), ([(q_s, .inl (cT 0, 100, .inl spv))] : va_W), zWb cT qw q_l q_b q_a q_k q_s (nI np) (nI nl) (nI rounds) (nI calls) bs bg bc nl nb na A_l A_b A_a f0 f1 f2 f3 f4 f5 vb vw]) (n := 5) rfl [1, 0, 2, 3, 4] rfl (by decide) flat1; simp only [List.flatten_cons, List.flatten_nil] at h; exact h) zcX10_soonest zmL_250 ziX10_soonest (zrE rfl rfl) ⟨Nat.le_of_ble_eq_true rfl, Nat.le_of_ble_eq_true rfl⟩ rfl zkX10.1 (qr := qr111) hq113 rfl (Nat.le_of_ble_eq_true rfl) dL_agrees_464 (fun v114 W115 hv116 _ => ?_)
  obtain ⟨rfl, hO117⟩ := hv116
  refine xi_eqw (ws2 := W115 ++ (([(a_g, .inl (cT 0, 1, .inl gv106))] : va_W) ++ (([(q_k, .inl (cT 0, np, .inl kn))] : va_W) ++ (([(q_s, .inl (cT 0, 100, .inl spv))] : va_W) ++ (zWb cT qw q_l q_b q_a q_k q_s (nI np) (nI nl) (nI rounds) (nI calls) bs bg bc nl nb na A_l A_b A_a f0 f1 f2 f3 f4 f5 vb vw ++ ([])))))) rfl ?_
  refine xi_aload_n C 1 dL_agrees_467 rfl ?_
  refine xi_iload C 3 dL_agrees_468 rfl ?_
  refine xi_iload C 4 dL_agrees_470 rfl ?_
  refine xi_callEV C (kW_soonest l D cT (rounds := rounds) (calls := calls) hE hc hS hb ha hk hp hq (by omega)) (W115 ++ (([(a_g, .inl (cT 0, 1, .inl gv106))] : va_W) ++ (([(q_s, .inl (cT 0, 100, .inl spv))] : va_W) ++ ([])))) (by have h := permX (bs := [W115, ([(a_g, .inl (cT 0, 1, .inl gv106))] : va_W), ([(q_k, .inl (cT 0, np, .inl kn))] : va_W), ([(q_s, .inl (cT 0, 100, .inl spv))] : va_W), zWb cT qw q_l q_b q_a q_k q_s (nI np) (nI nl) (nI rounds) (nI calls) bs bg bc nl nb na A_l A_b A_a f0 f1 f2 f3 f4 f5 vb vw]) (A := [([(q_k, .inl (cT 0, np, .inl kn))] : va_W), zWb cT qw q_l q_b q_a q_k q_s (nI np) (nI nl) (nI rounds) (nI calls) bs bg bc nl nb na A_l A_b A_a f0 f1 f2 f3 f4 f5 vb vw]) (B := [W115, ([(a_g, .inl (cT 0, 1, .inl gv106))] : va_W), ([(q_s, .inl (cT 0, 100, .inl spv))] : va_W)]) (n := 5) rfl [2, 4, 0, 1, 3] rfl (by decide) flatXA; simp only [List.flatten_cons, List.flatten_nil] at h; exact h) zcX12_soonest zmL_253 ziX12_soonest (zrA rfl rfl) ⟨Nat.le_of_ble_eq_true rfl, Nat.le_of_ble_eq_true rfl⟩ rfl zkX12.1 (qr := 1) rfl rfl (Nat.le_of_ble_eq_true rfl) dL_agrees_472 (fun v118 W119 hv120 _ => ?_)
  obtain ⟨rfl, rfl⟩ := hv120
  refine xi_eqw (ws2 := ([(q_k, .inl (cT 0, np, .inl kn))] : va_W) ++ (zWb cT qw q_l q_b q_a q_k q_s (nI np) (nI nl) (nI rounds) (nI calls) bs bg bc nl nb na A_l A_b A_a f0 f1 f2 f3 f4 f5 vb vw ++ (W115 ++ (([(a_g, .inl (cT 0, 1, .inl gv106))] : va_W) ++ (([(q_s, .inl (cT 0, 100, .inl spv))] : va_W) ++ ([])))))) rfl ?_
  refine xi_icmp_ne C (tgt := 541) dL_agrees_475 rfl (fun c121 => False.elim ((fun z => z rfl) c121)) (fun c121 => ?_)
  refine xi_aload_n C 0 dL_agrees_478 rfl ?_
  refine xi_iload C 3 dL_agrees_479 rfl ?_
  refine xi_iload C 4 dL_agrees_481 rfl ?_
  obtain ⟨qr122, fs123, hq124⟩ := OW_at hO117
  refine xi_callEV C (kO_cheapest l D cT hO117 hp hq) (([(q_k, .inl (cT 0, np, .inl kn))] : va_W) ++ (zWb cT qw q_l q_b q_a q_k q_s (nI np) (nI nl) (nI rounds) (nI calls) bs bg bc nl nb na A_l A_b A_a f0 f1 f2 f3 f4 f5 vb vw ++ (([(a_g, .inl (cT 0, 1, .inl gv106))] : va_W) ++ (([(q_s, .inl (cT 0, 100, .inl spv))] : va_W) ++ ([]))))) (by have h := permX (bs := [([(q_k, .inl (cT 0, np, .inl kn))] : va_W), zWb cT qw q_l q_b q_a q_k q_s (nI np) (nI nl) (nI rounds) (nI calls) bs bg bc nl nb na A_l A_b A_a f0 f1 f2 f3 f4 f5 vb vw, W115, ([(a_g, .inl (cT 0, 1, .inl gv106))] : va_W), ([(q_s, .inl (cT 0, 100, .inl spv))] : va_W)]) (A := [W115]) (B := [([(q_k, .inl (cT 0, np, .inl kn))] : va_W), zWb cT qw q_l q_b q_a q_k q_s (nI np) (nI nl) (nI rounds) (nI calls) bs bg bc nl nb na A_l A_b A_a f0 f1 f2 f3 f4 f5 vb vw, ([(a_g, .inl (cT 0, 1, .inl gv106))] : va_W), ([(q_s, .inl (cT 0, 100, .inl spv))] : va_W)]) (n := 5) rfl [2, 0, 1, 3, 4] rfl (by decide) flat1; simp only [List.flatten_cons, List.flatten_nil] at h; exact h) zcX10_cheapest zmL_254 ziX10_cheapest (zrE rfl rfl) ⟨Nat.le_of_ble_eq_true rfl, Nat.le_of_ble_eq_true rfl⟩ rfl zkX10.1 (qr := qr122) hq124 rfl (Nat.le_of_ble_eq_true rfl) dL_agrees_483 (fun v125 W126 hv127 _ => ?_)
  obtain ⟨rfl, hO128⟩ := hv127
  refine xi_eqw (ws2 := W126 ++ (([(q_k, .inl (cT 0, np, .inl kn))] : va_W) ++ (zWb cT qw q_l q_b q_a q_k q_s (nI np) (nI nl) (nI rounds) (nI calls) bs bg bc nl nb na A_l A_b A_a f0 f1 f2 f3 f4 f5 vb vw ++ (([(a_g, .inl (cT 0, 1, .inl gv106))] : va_W) ++ (([(q_s, .inl (cT 0, 100, .inl spv))] : va_W) ++ ([])))))) rfl ?_
  rw [← epr]
  refine xi_iload C 5 dL_agrees_486 rfl ?_
  refine xi_ldcw C (v := 99999) zcoL_257 dL_agrees_488 ?_
  have K : sW X l (zRA 75 220 2200) D 8 103 1024 500 [(0, .ref a_o), (1, .ref qw), (2, .ref a_g), (4, .int (nI p)), (5, .int (nI q)), (6, .int (enc TOP pr)), (7, .int (nI up))] [.int (enc (-1) pr), .int (enc (-1) pr)] (W126 ++ (([(q_k, .inl (cT 0, np, .inl kn))] : va_W) ++ (zWb cT qw q_l q_b q_a q_k q_s (nI np) (nI nl) (nI rounds) (nI calls) bs bg bc nl nb na A_l A_b A_a f0 f1 f2 f3 f4 f5 vb vw ++ (([(a_g, .inl (cT 0, 1, .inl gv106))] : va_W) ++ (([(q_s, .inl (cT 0, 100, .inl spv))] : va_W) ++ ([])))))) := by
    refine xi_icmp_ne C (tgt := 541) dL_agrees_500 rfl (fun c129 => False.elim ((fun z => z rfl) c129)) (fun c129 => ?_)
    refine xi_aload_n C 0 dL_agrees_503 rfl ?_
    obtain ⟨qr130, fs131, hq132⟩ := OW_at hO128
    refine xi_callEV C (kO_vital l D cT hO128) (([(q_k, .inl (cT 0, np, .inl kn))] : va_W) ++ (zWb cT qw q_l q_b q_a q_k q_s (nI np) (nI nl) (nI rounds) (nI calls) bs bg bc nl nb na A_l A_b A_a f0 f1 f2 f3 f4 f5 vb vw ++ (([(a_g, .inl (cT 0, 1, .inl gv106))] : va_W) ++ (([(q_s, .inl (cT 0, 100, .inl spv))] : va_W) ++ ([]))))) (by have h := permX (bs := [W126, ([(q_k, .inl (cT 0, np, .inl kn))] : va_W), zWb cT qw q_l q_b q_a q_k q_s (nI np) (nI nl) (nI rounds) (nI calls) bs bg bc nl nb na A_l A_b A_a f0 f1 f2 f3 f4 f5 vb vw, ([(a_g, .inl (cT 0, 1, .inl gv106))] : va_W), ([(q_s, .inl (cT 0, 100, .inl spv))] : va_W)]) (A := [W126]) (B := [([(q_k, .inl (cT 0, np, .inl kn))] : va_W), zWb cT qw q_l q_b q_a q_k q_s (nI np) (nI nl) (nI rounds) (nI calls) bs bg bc nl nb na A_l A_b A_a f0 f1 f2 f3 f4 f5 vb vw, ([(a_g, .inl (cT 0, 1, .inl gv106))] : va_W), ([(q_s, .inl (cT 0, 100, .inl spv))] : va_W)]) (n := 5) rfl [0, 1, 2, 3, 4] rfl (by decide) flat1; simp only [List.flatten_cons, List.flatten_nil] at h; exact h) zcX10_vital zmL_258 ziX10_vital (zrE rfl rfl) ⟨Nat.le_of_ble_eq_true rfl, Nat.le_of_ble_eq_true rfl⟩ rfl zkX10.1 (qr := qr130) hq132 rfl (Nat.le_of_ble_eq_true rfl) dL_agrees_504 (fun v133 W134 hv135 _ => ?_)
    obtain ⟨⟨xv, rfl, hxv⟩, hO136⟩ := hv135
    refine xi_eqw (ws2 := W134 ++ (([(q_k, .inl (cT 0, np, .inl kn))] : va_W) ++ (zWb cT qw q_l q_b q_a q_k q_s (nI np) (nI nl) (nI rounds) (nI calls) bs bg bc nl nb na A_l A_b A_a f0 f1 f2 f3 f4 f5 vb vw ++ (([(a_g, .inl (cT 0, 1, .inl gv106))] : va_W) ++ (([(q_s, .inl (cT 0, 100, .inl spv))] : va_W) ++ ([])))))) rfl ?_
    refine xi_aload_n C 1 dL_agrees_507 rfl ?_
    refine xi_callEV C (kW_vital l D cT (rounds := rounds) (calls := calls) hE hc hS hb ha hk hOf.1 hOf.2.1) (W134 ++ (([(a_g, .inl (cT 0, 1, .inl gv106))] : va_W) ++ (([(q_s, .inl (cT 0, 100, .inl spv))] : va_W) ++ ([])))) (by have h := permX (bs := [W134, ([(q_k, .inl (cT 0, np, .inl kn))] : va_W), zWb cT qw q_l q_b q_a q_k q_s (nI np) (nI nl) (nI rounds) (nI calls) bs bg bc nl nb na A_l A_b A_a f0 f1 f2 f3 f4 f5 vb vw, ([(a_g, .inl (cT 0, 1, .inl gv106))] : va_W), ([(q_s, .inl (cT 0, 100, .inl spv))] : va_W)]) (A := [([(q_k, .inl (cT 0, np, .inl kn))] : va_W), zWb cT qw q_l q_b q_a q_k q_s (nI np) (nI nl) (nI rounds) (nI calls) bs bg bc nl nb na A_l A_b A_a f0 f1 f2 f3 f4 f5 vb vw]) (B := [W134, ([(a_g, .inl (cT 0, 1, .inl gv106))] : va_W), ([(q_s, .inl (cT 0, 100, .inl spv))] : va_W)]) (n := 5) rfl [1, 2, 0, 3, 4] rfl (by decide) flatXA; simp only [List.flatten_cons, List.flatten_nil] at h; exact h) zcX12_vital zmL_261 ziX12_vital (zrA rfl rfl) ⟨Nat.le_of_ble_eq_true rfl, Nat.le_of_ble_eq_true rfl⟩ rfl zkX12.1 (qr := 1) rfl rfl (Nat.le_of_ble_eq_true rfl) dL_agrees_508 (fun v137 W138 hv139 _ => ?_)
    obtain ⟨⟨xv2, rfl, hxv2⟩, rfl⟩ := hv139
    refine xi_eqw (ws2 := ([(q_k, .inl (cT 0, np, .inl kn))] : va_W) ++ (zWb cT qw q_l q_b q_a q_k q_s (nI np) (nI nl) (nI rounds) (nI calls) bs bg bc nl nb na A_l A_b A_a f0 f1 f2 f3 f4 f5 vb vw ++ (W134 ++ (([(a_g, .inl (cT 0, 1, .inl gv106))] : va_W) ++ (([(q_s, .inl (cT 0, 100, .inl spv))] : va_W) ++ ([])))))) rfl ?_
    refine xi_rwi (y := xv) ((hB_is (by omega) hxv2).trans (hB_is (by omega) hxv).symm) ?_
    refine xi_icmp_ne C (tgt := 541) dL_agrees_511 rfl (fun c140 => False.elim ((fun z => z rfl) c140)) (fun c140 => ?_)
    refine xi_aload_n C 0 dL_agrees_514 rfl ?_
    refine xi_iload C 6 dL_agrees_515 rfl ?_
    obtain ⟨qr141, fs142, hq143⟩ := OW_at hO136
    refine xi_callEV C (kO_spent l D cT hO136 (x := up) (by omega)) (([(q_k, .inl (cT 0, np, .inl kn))] : va_W) ++ (zWb cT qw q_l q_b q_a q_k q_s (nI np) (nI nl) (nI rounds) (nI calls) bs bg bc nl nb na A_l A_b A_a f0 f1 f2 f3 f4 f5 vb vw ++ (([(a_g, .inl (cT 0, 1, .inl gv106))] : va_W) ++ (([(q_s, .inl (cT 0, 100, .inl spv))] : va_W) ++ ([]))))) (by have h := permX (bs := [([(q_k, .inl (cT 0, np, .inl kn))] : va_W), zWb cT qw q_l q_b q_a q_k q_s (nI np) (nI nl) (nI rounds) (nI calls) bs bg bc nl nb na A_l A_b A_a f0 f1 f2 f3 f4 f5 vb vw, W134, ([(a_g, .inl (cT 0, 1, .inl gv106))] : va_W), ([(q_s, .inl (cT 0, 100, .inl spv))] : va_W)]) (A := [W134]) (B := [([(q_k, .inl (cT 0, np, .inl kn))] : va_W), zWb cT qw q_l q_b q_a q_k q_s (nI np) (nI nl) (nI rounds) (nI calls) bs bg bc nl nb na A_l A_b A_a f0 f1 f2 f3 f4 f5 vb vw, ([(a_g, .inl (cT 0, 1, .inl gv106))] : va_W), ([(q_s, .inl (cT 0, 100, .inl spv))] : va_W)]) (n := 5) rfl [2, 0, 1, 3, 4] rfl (by decide) flat1; simp only [List.flatten_cons, List.flatten_nil] at h; exact h) zcX10_spent zmL_262 ziX10_spent (zrE rfl rfl) ⟨Nat.le_of_ble_eq_true rfl, Nat.le_of_ble_eq_true rfl⟩ rfl zkX10.1 (qr := qr141) hq143 rfl (Nat.le_of_ble_eq_true rfl) dL_agrees_517 (fun v144 W145 hv146 _ => ?_)
    obtain ⟨rfl, hO147⟩ := hv146
    refine xi_eqw (ws2 := W145 ++ (([(q_k, .inl (cT 0, np, .inl kn))] : va_W) ++ (zWb cT qw q_l q_b q_a q_k q_s (nI np) (nI nl) (nI rounds) (nI calls) bs bg bc nl nb na A_l A_b A_a f0 f1 f2 f3 f4 f5 vb vw ++ (([(a_g, .inl (cT 0, 1, .inl gv106))] : va_W) ++ (([(q_s, .inl (cT 0, 100, .inl spv))] : va_W) ++ ([])))))) rfl ?_
    refine xi_aload_n C 1 dL_agrees_520 rfl ?_
    refine xi_get C zkX12 8 _ zlL_186 (by decide) (zap2 rfl (zap2 rfl (zap1 (zWb_w)))) rfl dL_agrees_521 ?_
    refine xi_iload C 6 dL_agrees_524 rfl ?_
    refine xi_aload_n C 1 dL_agrees_526 rfl ?_
    refine xi_get C zkX12 2 _ zlL_132 (by decide) (zap2 rfl (zap2 rfl (zap1 (zWb_w)))) rfl dL_agrees_527 ?_
    refine xi_mmin C zmjL_264 ⟨by decide, by decide⟩ ⟨by decide, by decide⟩ (Nat.le_of_ble_eq_true rfl) dL_agrees_530 ?_
    refine xi_rwi (y := nI (if up < rounds then up else rounds)) (by
        by_cases z : up < rounds
        · rw [if_pos z, if_neg (nI_nlt (by omega) (by omega))]
        · rw [if_neg z]
          by_cases y : rounds < up
          · rw [if_pos (nI_lt y (by omega))]
          · rw [if_neg (nI_nlt (by omega) (by omega)), show up = rounds by omega]) ?_
    obtain ⟨m, em⟩ : ∃ m, m = (if up < rounds then up else rounds) := ⟨_, rfl⟩
    rw [← em]
    have hm : m ≤ rounds := by rw [em]; split <;> omega
    refine xw_iald C _ (zap2 rfl (zap2 rfl (zap2 rfl (zap2 rfl (zap1 ((rfl : (([(q_s, .inl (cT 0, 100, .inl spv))] : va_W) : va_W)[0]? = some _))))))) (by omega) (by decide) dL_agrees_533 ?_
    refine xi_rwi (y := nI (sp m)) (hsp m hm) ?_
    refine xi_icmp_ne C (tgt := 541) dL_agrees_534 rfl (fun c148 => False.elim ((fun z => z rfl) c148)) (fun c148 => ?_)
    refine xi_iconst C (v := 1) dL_agrees_537 rfl ?_
    refine xi_goto C (tgt := 542) dL_agrees_538 rfl ?_
    refine xi_permL (ws2 := W145 ++ (([(q_k, .inl (cT 0, np, .inl kn))] : va_W) ++ (([(q_s, .inl (cT 0, 100, .inl spv))] : va_W) ++ (zWb cT qw q_l q_b q_a q_k q_s (nI np) (nI nl) (nI rounds) (nI calls) bs bg bc nl nb na A_l A_b A_a f0 f1 f2 f3 f4 f5 vb vw ++ (([(a_g, .inl (cT 0, 1, .inl gv106))] : va_W) ++ ([])))))) (by have h := permR (bs := [W145, ([(q_k, .inl (cT 0, np, .inl kn))] : va_W), zWb cT qw q_l q_b q_a q_k q_s (nI np) (nI nl) (nI rounds) (nI calls) bs bg bc nl nb na A_l A_b A_a f0 f1 f2 f3 f4 f5 vb vw, ([(a_g, .inl (cT 0, 1, .inl gv106))] : va_W), ([(q_s, .inl (cT 0, 100, .inl spv))] : va_W)]) (bs2 := [W145, ([(q_k, .inl (cT 0, np, .inl kn))] : va_W), ([(q_s, .inl (cT 0, 100, .inl spv))] : va_W), zWb cT qw q_l q_b q_a q_k q_s (nI np) (nI nl) (nI rounds) (nI calls) bs bg bc nl nb na A_l A_b A_a f0 f1 f2 f3 f4 f5 vb vw, ([(a_g, .inl (cT 0, 1, .inl gv106))] : va_W)]) (n := 5) rfl [0, 1, 4, 2, 3] rfl (by decide); simp only [List.flatten_cons, List.flatten_nil] at h; exact h) ?_
    refine xi_wide (k2 := 220) (n2 := 2200) (by decide) (by decide) ?_
    exact hR _ _ _ dL_agrees_542 ⟨W145, q_l, q_b, q_a, q_k, q_s, A_l, A_b, A_a, bs, bg, bc, f0, f1, f2, f3, f4, f5, vb, vw, kn, spv, gv106, hO147, ⟨hE, hc, hS, hb, ha, hk, hsp, hcS⟩, List.Perm.refl _⟩
  cases epr2 : pr with
  | none =>
    rw [epr2] at K
    refine xi_rwi2 (y := 99999) rfl ?_
    refine xi_icmp_lt C (tgt := 498) dL_agrees_491 rfl (fun c149 => False.elim ((fun z : (99999 : Int32) < 99999 => absurd z (by decide)) c149)) (fun c149 => ?_)
    refine xi_iconst C (v := (-1)) dL_agrees_494 rfl ?_
    refine xi_goto C (tgt := 500) dL_agrees_495 rfl ?_
    exact K
  | some v =>
    have hv := hPb v epr2
    rw [epr2] at K
    refine xi_rwi (y := nI 99999) rfl ?_
    refine xi_rwi2 (y := nI v) rfl ?_
    refine xi_icmp_lt C (tgt := 498) dL_agrees_491 rfl (fun c150 => ?_) (fun c150 => False.elim ((fun z => z (nI_lt (by omega) (by decide))) c150))
    refine xi_iload C 5 dL_agrees_498 rfl ?_
    exact K
