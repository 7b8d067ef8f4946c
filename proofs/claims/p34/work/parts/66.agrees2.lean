set_option maxRecDepth 100000 in
set_option maxHeartbeats 4000000 in
theorem agrees_374 {X : sX} {l : Launch} {D : va_G} {cT : Nat → ClassId} {a_o qw a_g : Nat} {np nl : Nat} {a b c : Nat → Nat} {fw : Nat → Bool} {nb : Nat} {wb fb ub : Nat → Nat} {na : Nat} {wa fa ua : Nat → Nat} {cut S : Nat → Bool} {k : Nat → Nat} {rounds calls : Nat} {sp : Nat → Nat} {q_l q_b q_a q_k q_s : Nat} {A_l A_b A_a : Nat → Nat} {bs bg bc : Int32} {f0 f1 f2 f3 f4 f5 : Nat → Int32} {vb vw : Nat → Nat → Int32} {kn spv gv : Nat → Int32} {Wo : va_W} (C : sC X (zRA 75 220 2200) D cT 8 cL_agrees yL_agrees.cls) (hr : rounds < 95) (hR : ∀ (pc : Nat) (L : List (Nat × Value)) (W1 : va_W), decode cL_agrees pc = .ok (.ireturn, 1) → SW cT a_o qw a_g np nl a b c fw nb wb fb ub na wa fa ua cut S k rounds calls sp W1 → sW X l (zRA 75 220 2200) D 8 220 2200 pc L [.int 1] W1) (hO : OW cT a_o np nl a b c fw nb wb fb ub na wa fa ua cut S k rounds calls sp 0 Wo) (hE : hLn np nl a b c fw f0 f1 f2 f3) (hc : hFl nl cut f4) (hS : hFl nl S f5) (hb : hRw nb nl wb fb ub vb) (ha : hRw na np wa fa ua vw) (hk : hK np k kn) (hsp : ∀ i, i ≤ rounds → spv i = nI (sp i)) (hcS : ∀ l, l < nl → cut l = true → S l = false)  : sW X l (zRA 75 220 2200) D 8 0 0 374 [(0, .ref a_o), (1, .ref qw), (2, .ref a_g)] [] (Wo ++ (([(q_k, .inl (cT 0, np, .inl kn))] : va_W) ++ (([(q_s, .inl (cT 0, 100, .inl spv))] : va_W) ++ (zWb cT qw q_l q_b q_a q_k q_s (nI np) (nI nl) (nI rounds) (nI calls) bs bg bc nl nb na A_l A_b A_a f0 f1 f2 f3 f4 f5 vb vw ++ (([(a_g, .inl (cT 0, 1, .inl gv))] : va_W) ++ ([])))))) := by
  have hnp := hE.1
  have hnl := hE.2.1
  have hOf := OW_facts hO
  have hab : ∀ l, l < nl → a l ≠ b l := fun l hl => (hE.2.2 l hl).2.2.1
  have hE2 : ∀ l, l < nl → a l < np ∧ b l < np := fun l hl => ⟨(hE.2.2 l hl).1, (hE.2.2 l hl).2.1⟩
  refine xi_aload_n C 2 dL_agrees_374 rfl ?_
  refine xi_iconst C (v := 3) dL_agrees_375 rfl ?_
  refine xi_rwi (y := nI 3) rfl ?_
  refine xi_callES C (kL_draw l D cT a_g gv (m := 3) (by decide) (by decide)) (Wo ++ (([(q_k, .inl (cT 0, np, .inl kn))] : va_W) ++ (([(q_s, .inl (cT 0, 100, .inl spv))] : va_W) ++ (zWb cT qw q_l q_b q_a q_k q_s (nI np) (nI nl) (nI rounds) (nI calls) bs bg bc nl nb na A_l A_b A_a f0 f1 f2 f3 f4 f5 vb vw ++ ([]))))) (by have h := permX (bs := [Wo, ([(q_k, .inl (cT 0, np, .inl kn))] : va_W), ([(q_s, .inl (cT 0, 100, .inl spv))] : va_W), zWb cT qw q_l q_b q_a q_k q_s (nI np) (nI nl) (nI rounds) (nI calls) bs bg bc nl nb na A_l A_b A_a f0 f1 f2 f3 f4 f5 vb vw, ([(a_g, .inl (cT 0, 1, .inl gv))] : va_W)]) (A := [([(a_g, .inl (cT 0, 1, .inl gv))] : va_W)]) (B := [Wo, ([(q_k, .inl (cT 0, np, .inl kn))] : va_W), ([(q_s, .inl (cT 0, 100, .inl spv))] : va_W), zWb cT qw q_l q_b q_a q_k q_s (nI np) (nI nl) (nI rounds) (nI calls) bs bg bc nl nb na A_l A_b A_a f0 f1 f2 f3 f4 f5 vb vw]) (n := 5) rfl [4, 0, 1, 2, 3] rfl (by decide) flat1; simp only [List.flatten_cons, List.flatten_nil] at h; exact h) zcL_draw zmL_35 zsL_draw (zrE rfl rfl) ⟨Nat.le_of_ble_eq_true rfl, Nat.le_of_ble_eq_true rfl⟩ rfl rfl (Nat.le_of_ble_eq_true rfl) dL_agrees_376 (fun v154 W155 hv156 _ => ?_)
  obtain ⟨d151, gv152, hd153, rfl, rfl⟩ := hv156
  refine xi_eqw (ws2 := ([(a_g, .inl (cT 0, 1, .inl gv152))] : va_W) ++ (Wo ++ (([(q_k, .inl (cT 0, np, .inl kn))] : va_W) ++ (([(q_s, .inl (cT 0, 100, .inl spv))] : va_W) ++ (zWb cT qw q_l q_b q_a q_k q_s (nI np) (nI nl) (nI rounds) (nI calls) bs bg bc nl nb na A_l A_b A_a f0 f1 f2 f3 f4 f5 vb vw ++ ([])))))) rfl ?_
  refine xi_if_ne C (tgt := 419) dL_agrees_379 rfl (fun c157 => ?_) (fun c157 => ?_)
  · refine xi_permL (ws2 := Wo ++ (([(q_k, .inl (cT 0, np, .inl kn))] : va_W) ++ (([(q_s, .inl (cT 0, 100, .inl spv))] : va_W) ++ (zWb cT qw q_l q_b q_a q_k q_s (nI np) (nI nl) (nI rounds) (nI calls) bs bg bc nl nb na A_l A_b A_a f0 f1 f2 f3 f4 f5 vb vw ++ (([(a_g, .inl (cT 0, 1, .inl gv152))] : va_W) ++ ([])))))) (by have h := permR (bs := [([(a_g, .inl (cT 0, 1, .inl gv152))] : va_W), Wo, ([(q_k, .inl (cT 0, np, .inl kn))] : va_W), ([(q_s, .inl (cT 0, 100, .inl spv))] : va_W), zWb cT qw q_l q_b q_a q_k q_s (nI np) (nI nl) (nI rounds) (nI calls) bs bg bc nl nb na A_l A_b A_a f0 f1 f2 f3 f4 f5 vb vw]) (bs2 := [Wo, ([(q_k, .inl (cT 0, np, .inl kn))] : va_W), ([(q_s, .inl (cT 0, 100, .inl spv))] : va_W), zWb cT qw q_l q_b q_a q_k q_s (nI np) (nI nl) (nI rounds) (nI calls) bs bg bc nl nb na A_l A_b A_a f0 f1 f2 f3 f4 f5 vb vw, ([(a_g, .inl (cT 0, 1, .inl gv152))] : va_W)]) (n := 5) rfl [1, 2, 3, 4, 0] rfl (by decide); simp only [List.flatten_cons, List.flatten_nil] at h; exact h) ?_
    refine xi_wide (k2 := 41) (n2 := 404) (by decide) (by decide) ?_
    exact agrees_419 C hr hR hO hE hc hS hb ha hk hsp hcS
  · refine xi_aload_n C 1 dL_agrees_382 rfl ?_
    refine xi_callEV C (kW_plan l D cT (rounds := rounds) (calls := calls) hE hc hS hb ha hk (by omega)) (([(a_g, .inl (cT 0, 1, .inl gv152))] : va_W) ++ (Wo ++ (([(q_s, .inl (cT 0, 100, .inl spv))] : va_W) ++ ([])))) (by have h := permX (bs := [([(a_g, .inl (cT 0, 1, .inl gv152))] : va_W), Wo, ([(q_k, .inl (cT 0, np, .inl kn))] : va_W), ([(q_s, .inl (cT 0, 100, .inl spv))] : va_W), zWb cT qw q_l q_b q_a q_k q_s (nI np) (nI nl) (nI rounds) (nI calls) bs bg bc nl nb na A_l A_b A_a f0 f1 f2 f3 f4 f5 vb vw]) (A := [([(q_k, .inl (cT 0, np, .inl kn))] : va_W), zWb cT qw q_l q_b q_a q_k q_s (nI np) (nI nl) (nI rounds) (nI calls) bs bg bc nl nb na A_l A_b A_a f0 f1 f2 f3 f4 f5 vb vw]) (B := [([(a_g, .inl (cT 0, 1, .inl gv152))] : va_W), Wo, ([(q_s, .inl (cT 0, 100, .inl spv))] : va_W)]) (n := 5) rfl [2, 4, 0, 1, 3] rfl (by decide) flatXA; simp only [List.flatten_cons, List.flatten_nil] at h; exact h) zcX12_plan zmL_240 ziX12_plan (zrA rfl rfl) ⟨Nat.le_of_ble_eq_true rfl, Nat.le_of_ble_eq_true rfl⟩ rfl zkX12.1 (qr := 1) rfl rfl (Nat.le_of_ble_eq_true rfl) dL_agrees_383 (fun v158 W159 hv160 _ => ?_)
    obtain ⟨an, rr, bs2, bg2, bc2, rfl, r0, r1, r2, r3, rfl⟩ := hv160
    refine xi_eqw (ws2 := ([(an, .inl (cT 0, 4, .inl rr))] : va_W) ++ (([(q_k, .inl (cT 0, np, .inl kn))] : va_W) ++ (zWb cT qw q_l q_b q_a q_k q_s (nI np) (nI nl) (nI rounds) (nI calls) bs2 bg2 bc2 nl nb na A_l A_b A_a f0 f1 f2 f3 f4 f5 vb vw ++ (([(a_g, .inl (cT 0, 1, .inl gv152))] : va_W) ++ (Wo ++ (([(q_s, .inl (cT 0, 100, .inl spv))] : va_W) ++ ([]))))))) rfl ?_
    refine xi_astore C [1, 2, 3, 0] (L2 := [(0, .ref a_o), (1, .ref qw), (2, .ref a_g), (4, .ref an)]) dL_agrees_386 (Nat.le_of_ble_eq_true rfl) rfl ?_
    refine xi_iconst C (v := 0) dL_agrees_388 rfl ?_
    refine xi_istore C [1, 2, 3, 4, 0] (L2 := [(0, .ref a_o), (1, .ref qw), (2, .ref a_g), (4, .ref an), (5, .int 0)]) dL_agrees_389 (Nat.le_of_ble_eq_true rfl) rfl ?_
    refine xi_iload C 4 dL_agrees_391 rfl ?_
    refine xi_iconst C (v := 4) dL_agrees_393 rfl ?_
    refine xi_icmp_ge C (tgt := 419) dL_agrees_394 rfl (fun c161 => False.elim ((fun z : (4 : Int32) ≤ 0 => absurd z (by decide)) c161)) (fun c161 => ?_)
    refine xi_aload_n C 0 dL_agrees_397 rfl ?_
    refine xi_iload C 4 dL_agrees_398 rfl ?_
    obtain ⟨qr162, fs163, hq164⟩ := OW_at hO
    refine xi_callEV C (kO_plan0 l D cT hO) (([(an, .inl (cT 0, 4, .inl rr))] : va_W) ++ (([(q_k, .inl (cT 0, np, .inl kn))] : va_W) ++ (zWb cT qw q_l q_b q_a q_k q_s (nI np) (nI nl) (nI rounds) (nI calls) bs2 bg2 bc2 nl nb na A_l A_b A_a f0 f1 f2 f3 f4 f5 vb vw ++ (([(a_g, .inl (cT 0, 1, .inl gv152))] : va_W) ++ (([(q_s, .inl (cT 0, 100, .inl spv))] : va_W) ++ ([])))))) (by have h := permX (bs := [([(an, .inl (cT 0, 4, .inl rr))] : va_W), ([(q_k, .inl (cT 0, np, .inl kn))] : va_W), zWb cT qw q_l q_b q_a q_k q_s (nI np) (nI nl) (nI rounds) (nI calls) bs2 bg2 bc2 nl nb na A_l A_b A_a f0 f1 f2 f3 f4 f5 vb vw, ([(a_g, .inl (cT 0, 1, .inl gv152))] : va_W), Wo, ([(q_s, .inl (cT 0, 100, .inl spv))] : va_W)]) (A := [Wo]) (B := [([(an, .inl (cT 0, 4, .inl rr))] : va_W), ([(q_k, .inl (cT 0, np, .inl kn))] : va_W), zWb cT qw q_l q_b q_a q_k q_s (nI np) (nI nl) (nI rounds) (nI calls) bs2 bg2 bc2 nl nb na A_l A_b A_a f0 f1 f2 f3 f4 f5 vb vw, ([(a_g, .inl (cT 0, 1, .inl gv152))] : va_W), ([(q_s, .inl (cT 0, 100, .inl spv))] : va_W)]) (n := 6) rfl [4, 0, 1, 2, 3, 5] rfl (by decide) flat1; simp only [List.flatten_cons, List.flatten_nil] at h; exact h) zcX10_plan zmL_244 ziX10_plan (zrE rfl rfl) ⟨Nat.le_of_ble_eq_true rfl, Nat.le_of_ble_eq_true rfl⟩ rfl zkX10.1 (qr := qr162) hq164 rfl (Nat.le_of_ble_eq_true rfl) dL_agrees_400 (fun v165 W166 hv167 _ => ?_)
    obtain ⟨rfl, hO168⟩ := hv167
    refine xi_eqw (ws2 := W166 ++ (([(an, .inl (cT 0, 4, .inl rr))] : va_W) ++ (([(q_k, .inl (cT 0, np, .inl kn))] : va_W) ++ (zWb cT qw q_l q_b q_a q_k q_s (nI np) (nI nl) (nI rounds) (nI calls) bs2 bg2 bc2 nl nb na A_l A_b A_a f0 f1 f2 f3 f4 f5 vb vw ++ (([(a_g, .inl (cT 0, 1, .inl gv152))] : va_W) ++ (([(q_s, .inl (cT 0, 100, .inl spv))] : va_W) ++ ([]))))))) rfl ?_
    refine xi_aload C 3 dL_agrees_403 rfl ?_
    refine xi_iload C 4 dL_agrees_405 rfl ?_
    refine xi_rwi (y := nI 0) (show (0 : Int32) = nI 0 from rfl) ?_
    refine xw_iald C _ (zap2 rfl (zap1 ((rfl : (([(an, .inl (cT 0, 4, .inl rr))] : va_W) : va_W)[0]? = some _)))) (by decide) (by decide) dL_agrees_407 ?_
    refine xi_rwi (y := (if msm np (pln np nl a b c fw (fun n => usb nb na wb fb ub wa fa ua a b cut (rounds + n + 1)) 40 0 k 0 0).2.1 np = 0 then nI (pln np nl a b c fw (fun n => usb nb na wb fb ub wa fa ua a b cut (rounds + n + 1)) 40 0 k 0 0).1 else -1)) r0 ?_
    refine xi_icmp_eq C (tgt := 413) dL_agrees_408 rfl (fun c169 => ?_) (fun c169 => False.elim ((fun z => z rfl) c169))
    refine xi_iinc C (v := 1) 4 [1, 2, 3, 4, 0] (L2 := [(0, .ref a_o), (1, .ref qw), (2, .ref a_g), (4, .ref an), (5, .int 1)]) dL_agrees_413 rfl rfl (Nat.le_of_ble_eq_true rfl) rfl ?_
    refine xi_goto C (tgt := 391) dL_agrees_416 rfl ?_
    refine xi_iload C 4 dL_agrees_391 rfl ?_
    refine xi_iconst C (v := 4) dL_agrees_393 rfl ?_
    refine xi_icmp_ge C (tgt := 419) dL_agrees_394 rfl (fun c170 => False.elim ((fun z : (4 : Int32) ≤ 1 => absurd z (by decide)) c170)) (fun c170 => ?_)
    refine xi_aload_n C 0 dL_agrees_397 rfl ?_
    refine xi_iload C 4 dL_agrees_398 rfl ?_
    obtain ⟨qr171, fs172, hq173⟩ := OW_at hO168
    refine xi_callEV C (kO_plan1 l D cT hO168) (([(an, .inl (cT 0, 4, .inl rr))] : va_W) ++ (([(q_k, .inl (cT 0, np, .inl kn))] : va_W) ++ (zWb cT qw q_l q_b q_a q_k q_s (nI np) (nI nl) (nI rounds) (nI calls) bs2 bg2 bc2 nl nb na A_l A_b A_a f0 f1 f2 f3 f4 f5 vb vw ++ (([(a_g, .inl (cT 0, 1, .inl gv152))] : va_W) ++ (([(q_s, .inl (cT 0, 100, .inl spv))] : va_W) ++ ([])))))) (by have h := permX (bs := [W166, ([(an, .inl (cT 0, 4, .inl rr))] : va_W), ([(q_k, .inl (cT 0, np, .inl kn))] : va_W), zWb cT qw q_l q_b q_a q_k q_s (nI np) (nI nl) (nI rounds) (nI calls) bs2 bg2 bc2 nl nb na A_l A_b A_a f0 f1 f2 f3 f4 f5 vb vw, ([(a_g, .inl (cT 0, 1, .inl gv152))] : va_W), ([(q_s, .inl (cT 0, 100, .inl spv))] : va_W)]) (A := [W166]) (B := [([(an, .inl (cT 0, 4, .inl rr))] : va_W), ([(q_k, .inl (cT 0, np, .inl kn))] : va_W), zWb cT qw q_l q_b q_a q_k q_s (nI np) (nI nl) (nI rounds) (nI calls) bs2 bg2 bc2 nl nb na A_l A_b A_a f0 f1 f2 f3 f4 f5 vb vw, ([(a_g, .inl (cT 0, 1, .inl gv152))] : va_W), ([(q_s, .inl (cT 0, 100, .inl spv))] : va_W)]) (n := 6) rfl [0, 1, 2, 3, 4, 5] rfl (by decide) flat1; simp only [List.flatten_cons, List.flatten_nil] at h; exact h) zcX10_plan zmL_244 ziX10_plan (zrE rfl rfl) ⟨Nat.le_of_ble_eq_true rfl, Nat.le_of_ble_eq_true rfl⟩ rfl zkX10.1 (qr := qr171) hq173 rfl (Nat.le_of_ble_eq_true rfl) dL_agrees_400 (fun v174 W175 hv176 _ => ?_)
    obtain ⟨rfl, hO177⟩ := hv176
    refine xi_eqw (ws2 := W175 ++ (([(an, .inl (cT 0, 4, .inl rr))] : va_W) ++ (([(q_k, .inl (cT 0, np, .inl kn))] : va_W) ++ (zWb cT qw q_l q_b q_a q_k q_s (nI np) (nI nl) (nI rounds) (nI calls) bs2 bg2 bc2 nl nb na A_l A_b A_a f0 f1 f2 f3 f4 f5 vb vw ++ (([(a_g, .inl (cT 0, 1, .inl gv152))] : va_W) ++ (([(q_s, .inl (cT 0, 100, .inl spv))] : va_W) ++ ([]))))))) rfl ?_
    refine xi_aload C 3 dL_agrees_403 rfl ?_
    refine xi_iload C 4 dL_agrees_405 rfl ?_
    refine xi_rwi (y := nI 1) (show (1 : Int32) = nI 1 from rfl) ?_
    refine xw_iald C _ (zap2 rfl (zap1 ((rfl : (([(an, .inl (cT 0, 4, .inl rr))] : va_W) : va_W)[0]? = some _)))) (by decide) (by decide) dL_agrees_407 ?_
    refine xi_rwi (y := (nI (pln np nl a b c fw (fun n => usb nb na wb fb ub wa fa ua a b cut (rounds + n + 1)) 40 0 k 0 0).2.2.1)) r1 ?_
    refine xi_icmp_eq C (tgt := 413) dL_agrees_408 rfl (fun c178 => ?_) (fun c178 => False.elim ((fun z => z rfl) c178))
    refine xi_iinc C (v := 2) 4 [1, 2, 3, 4, 0] (L2 := [(0, .ref a_o), (1, .ref qw), (2, .ref a_g), (4, .ref an), (5, .int 2)]) dL_agrees_413 rfl rfl (Nat.le_of_ble_eq_true rfl) rfl ?_
    refine xi_goto C (tgt := 391) dL_agrees_416 rfl ?_
    refine xi_iload C 4 dL_agrees_391 rfl ?_
    refine xi_iconst C (v := 4) dL_agrees_393 rfl ?_
    refine xi_icmp_ge C (tgt := 419) dL_agrees_394 rfl (fun c179 => False.elim ((fun z : (4 : Int32) ≤ 2 => absurd z (by decide)) c179)) (fun c179 => ?_)
    refine xi_aload_n C 0 dL_agrees_397 rfl ?_
    refine xi_iload C 4 dL_agrees_398 rfl ?_
    obtain ⟨qr180, fs181, hq182⟩ := OW_at hO177
    refine xi_callEV C (kO_plan2 l D cT hO177) (([(an, .inl (cT 0, 4, .inl rr))] : va_W) ++ (([(q_k, .inl (cT 0, np, .inl kn))] : va_W) ++ (zWb cT qw q_l q_b q_a q_k q_s (nI np) (nI nl) (nI rounds) (nI calls) bs2 bg2 bc2 nl nb na A_l A_b A_a f0 f1 f2 f3 f4 f5 vb vw ++ (([(a_g, .inl (cT 0, 1, .inl gv152))] : va_W) ++ (([(q_s, .inl (cT 0, 100, .inl spv))] : va_W) ++ ([])))))) (by have h := permX (bs := [W175, ([(an, .inl (cT 0, 4, .inl rr))] : va_W), ([(q_k, .inl (cT 0, np, .inl kn))] : va_W), zWb cT qw q_l q_b q_a q_k q_s (nI np) (nI nl) (nI rounds) (nI calls) bs2 bg2 bc2 nl nb na A_l A_b A_a f0 f1 f2 f3 f4 f5 vb vw, ([(a_g, .inl (cT 0, 1, .inl gv152))] : va_W), ([(q_s, .inl (cT 0, 100, .inl spv))] : va_W)]) (A := [W175]) (B := [([(an, .inl (cT 0, 4, .inl rr))] : va_W), ([(q_k, .inl (cT 0, np, .inl kn))] : va_W), zWb cT qw q_l q_b q_a q_k q_s (nI np) (nI nl) (nI rounds) (nI calls) bs2 bg2 bc2 nl nb na A_l A_b A_a f0 f1 f2 f3 f4 f5 vb vw, ([(a_g, .inl (cT 0, 1, .inl gv152))] : va_W), ([(q_s, .inl (cT 0, 100, .inl spv))] : va_W)]) (n := 6) rfl [0, 1, 2, 3, 4, 5] rfl (by decide) flat1; simp only [List.flatten_cons, List.flatten_nil] at h; exact h) zcX10_plan zmL_244 ziX10_plan (zrE rfl rfl) ⟨Nat.le_of_ble_eq_true rfl, Nat.le_of_ble_eq_true rfl⟩ rfl zkX10.1 (qr := qr180) hq182 rfl (Nat.le_of_ble_eq_true rfl) dL_agrees_400 (fun v183 W184 hv185 _ => ?_)
    obtain ⟨rfl, hO186⟩ := hv185
    refine xi_eqw (ws2 := W184 ++ (([(an, .inl (cT 0, 4, .inl rr))] : va_W) ++ (([(q_k, .inl (cT 0, np, .inl kn))] : va_W) ++ (zWb cT qw q_l q_b q_a q_k q_s (nI np) (nI nl) (nI rounds) (nI calls) bs2 bg2 bc2 nl nb na A_l A_b A_a f0 f1 f2 f3 f4 f5 vb vw ++ (([(a_g, .inl (cT 0, 1, .inl gv152))] : va_W) ++ (([(q_s, .inl (cT 0, 100, .inl spv))] : va_W) ++ ([]))))))) rfl ?_
    refine xi_aload C 3 dL_agrees_403 rfl ?_
    refine xi_iload C 4 dL_agrees_405 rfl ?_
    refine xi_rwi (y := nI 2) (show (2 : Int32) = nI 2 from rfl) ?_
    refine xw_iald C _ (zap2 rfl (zap1 ((rfl : (([(an, .inl (cT 0, 4, .inl rr))] : va_W) : va_W)[0]? = some _)))) (by decide) (by decide) dL_agrees_407 ?_
    refine xi_rwi (y := (nI (pln np nl a b c fw (fun n => usb nb na wb fb ub wa fa ua a b cut (rounds + n + 1)) 40 0 k 0 0).2.2.2)) r2 ?_
    refine xi_icmp_eq C (tgt := 413) dL_agrees_408 rfl (fun c187 => ?_) (fun c187 => False.elim ((fun z => z rfl) c187))
    refine xi_iinc C (v := 3) 4 [1, 2, 3, 4, 0] (L2 := [(0, .ref a_o), (1, .ref qw), (2, .ref a_g), (4, .ref an), (5, .int 3)]) dL_agrees_413 rfl rfl (Nat.le_of_ble_eq_true rfl) rfl ?_
    refine xi_goto C (tgt := 391) dL_agrees_416 rfl ?_
    refine xi_iload C 4 dL_agrees_391 rfl ?_
    refine xi_iconst C (v := 4) dL_agrees_393 rfl ?_
    refine xi_icmp_ge C (tgt := 419) dL_agrees_394 rfl (fun c188 => False.elim ((fun z : (4 : Int32) ≤ 3 => absurd z (by decide)) c188)) (fun c188 => ?_)
    refine xi_aload_n C 0 dL_agrees_397 rfl ?_
    refine xi_iload C 4 dL_agrees_398 rfl ?_
    obtain ⟨qr189, fs190, hq191⟩ := OW_at hO186
    refine xi_callEV C (kO_plan3 l D cT hO186) (([(an, .inl (cT 0, 4, .inl rr))] : va_W) ++ (([(q_k, .inl (cT 0, np, .inl kn))] : va_W) ++ (zWb cT qw q_l q_b q_a q_k q_s (nI np) (nI nl) (nI rounds) (nI calls) bs2 bg2 bc2 nl nb na A_l A_b A_a f0 f1 f2 f3 f4 f5 vb vw ++ (([(a_g, .inl (cT 0, 1, .inl gv152))] : va_W) ++ (([(q_s, .inl (cT 0, 100, .inl spv))] : va_W) ++ ([])))))) (by have h := permX (bs := [W184, ([(an, .inl (cT 0, 4, .inl rr))] : va_W), ([(q_k, .inl (cT 0, np, .inl kn))] : va_W), zWb cT qw q_l q_b q_a q_k q_s (nI np) (nI nl) (nI rounds) (nI calls) bs2 bg2 bc2 nl nb na A_l A_b A_a f0 f1 f2 f3 f4 f5 vb vw, ([(a_g, .inl (cT 0, 1, .inl gv152))] : va_W), ([(q_s, .inl (cT 0, 100, .inl spv))] : va_W)]) (A := [W184]) (B := [([(an, .inl (cT 0, 4, .inl rr))] : va_W), ([(q_k, .inl (cT 0, np, .inl kn))] : va_W), zWb cT qw q_l q_b q_a q_k q_s (nI np) (nI nl) (nI rounds) (nI calls) bs2 bg2 bc2 nl nb na A_l A_b A_a f0 f1 f2 f3 f4 f5 vb vw, ([(a_g, .inl (cT 0, 1, .inl gv152))] : va_W), ([(q_s, .inl (cT 0, 100, .inl spv))] : va_W)]) (n := 6) rfl [0, 1, 2, 3, 4, 5] rfl (by decide) flat1; simp only [List.flatten_cons, List.flatten_nil] at h; exact h) zcX10_plan zmL_244 ziX10_plan (zrE rfl rfl) ⟨Nat.le_of_ble_eq_true rfl, Nat.le_of_ble_eq_true rfl⟩ rfl zkX10.1 (qr := qr189) hq191 rfl (Nat.le_of_ble_eq_true rfl) dL_agrees_400 (fun v192 W193 hv194 _ => ?_)
    obtain ⟨rfl, hO195⟩ := hv194
    refine xi_eqw (ws2 := W193 ++ (([(an, .inl (cT 0, 4, .inl rr))] : va_W) ++ (([(q_k, .inl (cT 0, np, .inl kn))] : va_W) ++ (zWb cT qw q_l q_b q_a q_k q_s (nI np) (nI nl) (nI rounds) (nI calls) bs2 bg2 bc2 nl nb na A_l A_b A_a f0 f1 f2 f3 f4 f5 vb vw ++ (([(a_g, .inl (cT 0, 1, .inl gv152))] : va_W) ++ (([(q_s, .inl (cT 0, 100, .inl spv))] : va_W) ++ ([]))))))) rfl ?_
    refine xi_aload C 3 dL_agrees_403 rfl ?_
    refine xi_iload C 4 dL_agrees_405 rfl ?_
    refine xi_rwi (y := nI 3) (show (3 : Int32) = nI 3 from rfl) ?_
    refine xw_iald C _ (zap2 rfl (zap1 ((rfl : (([(an, .inl (cT 0, 4, .inl rr))] : va_W) : va_W)[0]? = some _)))) (by decide) (by decide) dL_agrees_407 ?_
    refine xi_rwi (y := (nI (msm np (pln np nl a b c fw (fun n => usb nb na wb fb ub wa fa ua a b cut (rounds + n + 1)) 40 0 k 0 0).2.1 np))) r3 ?_
    refine xi_icmp_eq C (tgt := 413) dL_agrees_408 rfl (fun c196 => ?_) (fun c196 => False.elim ((fun z => z rfl) c196))
    refine xi_iinc C (v := 4) 4 [1, 2, 3, 4, 0] (L2 := [(0, .ref a_o), (1, .ref qw), (2, .ref a_g), (4, .ref an), (5, .int 4)]) dL_agrees_413 rfl rfl (Nat.le_of_ble_eq_true rfl) rfl ?_
    refine xi_goto C (tgt := 391) dL_agrees_416 rfl ?_
    refine xi_iload C 4 dL_agrees_391 rfl ?_
    refine xi_iconst C (v := 4) dL_agrees_393 rfl ?_
    refine xi_icmp_ge C (tgt := 419) dL_agrees_394 rfl (fun c197 => ?_) (fun c197 => False.elim ((fun z : ¬ ((4 : Int32) ≤ 4) => z (by decide)) c197))
    refine xi_drop (L2 := [(0, .ref a_o), (1, .ref qw), (2, .ref a_g)]) [0, 1, 2] rfl ?_
    refine xi_permL (ws2 := ([(an, .inl (cT 0, 4, .inl rr))] : va_W) ++ (W193 ++ (([(q_k, .inl (cT 0, np, .inl kn))] : va_W) ++ (([(q_s, .inl (cT 0, 100, .inl spv))] : va_W) ++ (zWb cT qw q_l q_b q_a q_k q_s (nI np) (nI nl) (nI rounds) (nI calls) bs2 bg2 bc2 nl nb na A_l A_b A_a f0 f1 f2 f3 f4 f5 vb vw ++ (([(a_g, .inl (cT 0, 1, .inl gv152))] : va_W) ++ ([]))))))) (by have h := permR (bs := [W193, ([(an, .inl (cT 0, 4, .inl rr))] : va_W), ([(q_k, .inl (cT 0, np, .inl kn))] : va_W), zWb cT qw q_l q_b q_a q_k q_s (nI np) (nI nl) (nI rounds) (nI calls) bs2 bg2 bc2 nl nb na A_l A_b A_a f0 f1 f2 f3 f4 f5 vb vw, ([(a_g, .inl (cT 0, 1, .inl gv152))] : va_W), ([(q_s, .inl (cT 0, 100, .inl spv))] : va_W)]) (bs2 := [([(an, .inl (cT 0, 4, .inl rr))] : va_W), W193, ([(q_k, .inl (cT 0, np, .inl kn))] : va_W), ([(q_s, .inl (cT 0, 100, .inl spv))] : va_W), zWb cT qw q_l q_b q_a q_k q_s (nI np) (nI nl) (nI rounds) (nI calls) bs2 bg2 bc2 nl nb na A_l A_b A_a f0 f1 f2 f3 f4 f5 vb vw, ([(a_g, .inl (cT 0, 1, .inl gv152))] : va_W)]) (n := 6) rfl [1, 0, 2, 5, 3, 4] rfl (by decide); simp only [List.flatten_cons, List.flatten_nil] at h; exact h) ?_
    refine xi_less (ws2 := W193 ++ (([(q_k, .inl (cT 0, np, .inl kn))] : va_W) ++ (([(q_s, .inl (cT 0, 100, .inl spv))] : va_W) ++ (zWb cT qw q_l q_b q_a q_k q_s (nI np) (nI nl) (nI rounds) (nI calls) bs2 bg2 bc2 nl nb na A_l A_b A_a f0 f1 f2 f3 f4 f5 vb vw ++ (([(a_g, .inl (cT 0, 1, .inl gv152))] : va_W) ++ ([])))))) (List.Sublist.trans (List.Sublist.refl _) (List.sublist_append_right _ _)) ?_
    exact agrees_419 C hr hR hO195 hE hc hS hb ha hk hsp hcS
set_option maxRecDepth 100000 in
set_option maxHeartbeats 4000000 in
theorem agrees_326 {X : sX} {l : Launch} {D : va_G} {cT : Nat → ClassId} {a_o qw a_g : Nat} {np nl : Nat} {a b c : Nat → Nat} {fw : Nat → Bool} {nb : Nat} {wb fb ub : Nat → Nat} {na : Nat} {wa fa ua : Nat → Nat} {cut S : Nat → Bool} {k : Nat → Nat} {rounds calls : Nat} {sp : Nat → Nat} {q_l q_b q_a q_k q_s : Nat} {A_l A_b A_a : Nat → Nat} {bs bg bc : Int32} {f0 f1 f2 f3 f4 f5 : Nat → Int32} {vb vw : Nat → Nat → Int32} {kn spv gv : Nat → Int32} {Wo : va_W} (C : sC X (zRA 75 220 2200) D cT 8 cL_agrees yL_agrees.cls) (hr : rounds < 95) (hR : ∀ (pc : Nat) (L : List (Nat × Value)) (W1 : va_W), decode cL_agrees pc = .ok (.ireturn, 1) → SW cT a_o qw a_g np nl a b c fw nb wb fb ub na wa fa ua cut S k rounds calls sp W1 → sW X l (zRA 75 220 2200) D 8 220 2200 pc L [.int 1] W1) (hO : OW cT a_o np nl a b c fw nb wb fb ub na wa fa ua cut S k rounds calls sp 0 Wo) (hE : hLn np nl a b c fw f0 f1 f2 f3) (hc : hFl nl cut f4) (hS : hFl nl S f5) (hb : hRw nb nl wb fb ub vb) (ha : hRw na np wa fa ua vw) (hk : hK np k kn) (hsp : ∀ i, i ≤ rounds → spv i = nI (sp i)) (hcS : ∀ l, l < nl → cut l = true → S l = false)  : sW X l (zRA 75 220 2200) D 8 0 0 326 [(0, .ref a_o), (1, .ref qw), (2, .ref a_g)] [] (Wo ++ (([(q_k, .inl (cT 0, np, .inl kn))] : va_W) ++ (([(q_s, .inl (cT 0, 100, .inl spv))] : va_W) ++ (zWb cT qw q_l q_b q_a q_k q_s (nI np) (nI nl) (nI rounds) (nI calls) bs bg bc nl nb na A_l A_b A_a f0 f1 f2 f3 f4 f5 vb vw ++ (([(a_g, .inl (cT 0, 1, .inl gv))] : va_W) ++ ([])))))) := by
  have hnp := hE.1
  have hnl := hE.2.1
  have hOf := OW_facts hO
  have hab : ∀ l, l < nl → a l ≠ b l := fun l hl => (hE.2.2 l hl).2.2.1
  have hE2 : ∀ l, l < nl → a l < np ∧ b l < np := fun l hl => ⟨(hE.2.2 l hl).1, (hE.2.2 l hl).2.1⟩
  obtain ⟨u, hu, hbest, hu1, hu2, hu3, hu4⟩ := wBest (f5 := f5) (pe := nI np) (ro := nI rounds) (ca := nI calls) (bs := bs) (bc := bc) (round := rounds + 1) hE hk (by omega) hc hb ha
  refine xi_aload_n C 0 dL_agrees_326 rfl ?_
  refine xi_iconst C (v := 0) dL_agrees_327 rfl ?_
  obtain ⟨qr198, fs199, hq200⟩ := OW_at hO
  refine xi_callEV C (kO_best0 l D cT hO) (([(q_k, .inl (cT 0, np, .inl kn))] : va_W) ++ (([(q_s, .inl (cT 0, 100, .inl spv))] : va_W) ++ (zWb cT qw q_l q_b q_a q_k q_s (nI np) (nI nl) (nI rounds) (nI calls) bs bg bc nl nb na A_l A_b A_a f0 f1 f2 f3 f4 f5 vb vw ++ (([(a_g, .inl (cT 0, 1, .inl gv))] : va_W) ++ ([]))))) (by have h := permX (bs := [Wo, ([(q_k, .inl (cT 0, np, .inl kn))] : va_W), ([(q_s, .inl (cT 0, 100, .inl spv))] : va_W), zWb cT qw q_l q_b q_a q_k q_s (nI np) (nI nl) (nI rounds) (nI calls) bs bg bc nl nb na A_l A_b A_a f0 f1 f2 f3 f4 f5 vb vw, ([(a_g, .inl (cT 0, 1, .inl gv))] : va_W)]) (A := [Wo]) (B := [([(q_k, .inl (cT 0, np, .inl kn))] : va_W), ([(q_s, .inl (cT 0, 100, .inl spv))] : va_W), zWb cT qw q_l q_b q_a q_k q_s (nI np) (nI nl) (nI rounds) (nI calls) bs bg bc nl nb na A_l A_b A_a f0 f1 f2 f3 f4 f5 vb vw, ([(a_g, .inl (cT 0, 1, .inl gv))] : va_W)]) (n := 5) rfl [0, 1, 2, 3, 4] rfl (by decide) flat1; simp only [List.flatten_cons, List.flatten_nil] at h; exact h) zcX10_best zmL_235 ziX10_best (zrE rfl rfl) ⟨Nat.le_of_ble_eq_true rfl, Nat.le_of_ble_eq_true rfl⟩ rfl zkX10.1 (qr := qr198) hq200 rfl (Nat.le_of_ble_eq_true rfl) dL_agrees_328 (fun v201 W202 hv203 _ => ?_)
  obtain ⟨⟨xb, rfl, hxb, -⟩, hO204⟩ := hv203
  refine xi_eqw (ws2 := W202 ++ (([(q_k, .inl (cT 0, np, .inl kn))] : va_W) ++ (([(q_s, .inl (cT 0, 100, .inl spv))] : va_W) ++ (zWb cT qw q_l q_b q_a q_k q_s (nI np) (nI nl) (nI rounds) (nI calls) bs bg bc nl nb na A_l A_b A_a f0 f1 f2 f3 f4 f5 vb vw ++ (([(a_g, .inl (cT 0, 1, .inl gv))] : va_W) ++ ([])))))) rfl ?_
  refine xi_aload_n C 1 dL_agrees_331 rfl ?_
  refine xi_aload_n C 1 dL_agrees_332 rfl ?_
  refine xi_get C zkX12 2 _ zlL_132 (by decide) (zap2 rfl (zap2 rfl (zap2 rfl (zap1 (zWb_w))))) rfl dL_agrees_333 ?_
  refine xi_iconst C (v := 1) dL_agrees_336 rfl ?_
  refine xi_iadd C dL_agrees_337 ?_
  refine xi_rwi (y := nI (rounds + 1)) (nI_1 rounds) ?_
  refine xi_aload_n C 1 dL_agrees_338 rfl ?_
  refine xi_get C zkX12 7 _ zlL_98 (by decide) (zap2 rfl (zap2 rfl (zap2 rfl (zap1 (zWb_w))))) rfl dL_agrees_339 ?_
  refine xi_callEV C (sE_of_sM (kX12_best l D cT qw q_l q_b q_a q_k q_s q_k A_l A_b A_a nl nb na np (nI np) (nI nl) (nI rounds) (nI calls) bs bg bc f0 f1 f2 f3 f4 f5 vb vw kn (nI (rounds + 1)) (by omega) _ hu)) (W202 ++ (([(q_s, .inl (cT 0, 100, .inl spv))] : va_W) ++ (([(a_g, .inl (cT 0, 1, .inl gv))] : va_W) ++ ([])))) (by have h := permX (bs := [W202, ([(q_k, .inl (cT 0, np, .inl kn))] : va_W), ([(q_s, .inl (cT 0, 100, .inl spv))] : va_W), zWb cT qw q_l q_b q_a q_k q_s (nI np) (nI nl) (nI rounds) (nI calls) bs bg bc nl nb na A_l A_b A_a f0 f1 f2 f3 f4 f5 vb vw, ([(a_g, .inl (cT 0, 1, .inl gv))] : va_W)]) (A := [([(q_k, .inl (cT 0, np, .inl kn))] : va_W), zWb cT qw q_l q_b q_a q_k q_s (nI np) (nI nl) (nI rounds) (nI calls) bs bg bc nl nb na A_l A_b A_a f0 f1 f2 f3 f4 f5 vb vw]) (B := [W202, ([(q_s, .inl (cT 0, 100, .inl spv))] : va_W), ([(a_g, .inl (cT 0, 1, .inl gv))] : va_W)]) (n := 5) rfl [1, 3, 0, 2, 4] rfl (by decide) flatXA; simp only [List.flatten_cons, List.flatten_nil] at h; exact h) zcX12_best zmL_161 ziX12_best (zrE rfl rfl) ⟨Nat.le_of_ble_eq_true rfl, Nat.le_of_ble_eq_true rfl⟩ rfl zkX12.1 (qr := 1) rfl rfl (Nat.le_of_ble_eq_true rfl) dL_agrees_342 (fun v205 W206 hv207 _ => ?_)
  obtain ⟨rfl, rfl⟩ := hv207
  refine xi_eqw (ws2 := ([(q_k, .inl (cT 0, np, .inl kn))] : va_W) ++ (zWb cT qw q_l q_b q_a q_k q_s (nI np) (nI nl) (nI rounds) (nI calls) u.2.1 u.2.2.1 u.2.2.2 nl nb na A_l A_b A_a f0 f1 f2 f3 f4 f5 vb vw ++ (W202 ++ (([(q_s, .inl (cT 0, 100, .inl spv))] : va_W) ++ (([(a_g, .inl (cT 0, 1, .inl gv))] : va_W) ++ ([])))))) rfl ?_
  refine xi_rwi (y := xb) (hu1.trans (hB_is (by omega) hxb).symm) ?_
  refine xi_icmp_ne C (tgt := 372) dL_agrees_345 rfl (fun c208 => False.elim ((fun z => z rfl) c208)) (fun c208 => ?_)
  refine xi_aload_n C 0 dL_agrees_348 rfl ?_
  refine xi_iconst C (v := 1) dL_agrees_349 rfl ?_
  obtain ⟨qr209, fs210, hq211⟩ := OW_at hO204
  refine xi_callEV C (kO_best1 l D cT hO204) (([(q_k, .inl (cT 0, np, .inl kn))] : va_W) ++ (zWb cT qw q_l q_b q_a q_k q_s (nI np) (nI nl) (nI rounds) (nI calls) u.2.1 u.2.2.1 u.2.2.2 nl nb na A_l A_b A_a f0 f1 f2 f3 f4 f5 vb vw ++ (([(q_s, .inl (cT 0, 100, .inl spv))] : va_W) ++ (([(a_g, .inl (cT 0, 1, .inl gv))] : va_W) ++ ([]))))) (by have h := permX (bs := [([(q_k, .inl (cT 0, np, .inl kn))] : va_W), zWb cT qw q_l q_b q_a q_k q_s (nI np) (nI nl) (nI rounds) (nI calls) u.2.1 u.2.2.1 u.2.2.2 nl nb na A_l A_b A_a f0 f1 f2 f3 f4 f5 vb vw, W202, ([(q_s, .inl (cT 0, 100, .inl spv))] : va_W), ([(a_g, .inl (cT 0, 1, .inl gv))] : va_W)]) (A := [W202]) (B := [([(q_k, .inl (cT 0, np, .inl kn))] : va_W), zWb cT qw q_l q_b q_a q_k q_s (nI np) (nI nl) (nI rounds) (nI calls) u.2.1 u.2.2.1 u.2.2.2 nl nb na A_l A_b A_a f0 f1 f2 f3 f4 f5 vb vw, ([(q_s, .inl (cT 0, 100, .inl spv))] : va_W), ([(a_g, .inl (cT 0, 1, .inl gv))] : va_W)]) (n := 5) rfl [2, 0, 1, 3, 4] rfl (by decide) flat1; simp only [List.flatten_cons, List.flatten_nil] at h; exact h) zcX10_best zmL_235 ziX10_best (zrE rfl rfl) ⟨Nat.le_of_ble_eq_true rfl, Nat.le_of_ble_eq_true rfl⟩ rfl zkX10.1 (qr := qr209) hq211 rfl (Nat.le_of_ble_eq_true rfl) dL_agrees_350 (fun v212 W213 hv214 _ => ?_)
  obtain ⟨rfl, hO215⟩ := hv214
  refine xi_eqw (ws2 := W213 ++ (([(q_k, .inl (cT 0, np, .inl kn))] : va_W) ++ (zWb cT qw q_l q_b q_a q_k q_s (nI np) (nI nl) (nI rounds) (nI calls) u.2.1 u.2.2.1 u.2.2.2 nl nb na A_l A_b A_a f0 f1 f2 f3 f4 f5 vb vw ++ (([(q_s, .inl (cT 0, 100, .inl spv))] : va_W) ++ (([(a_g, .inl (cT 0, 1, .inl gv))] : va_W) ++ ([])))))) rfl ?_
  refine xi_aload_n C 1 dL_agrees_353 rfl ?_
  refine xi_get C zkX12 10 _ zlL_167 (by decide) (zap2 rfl (zap2 rfl (zap1 (zWb_w)))) rfl dL_agrees_354 ?_
  refine xi_rwi (y := nI (nsum (bset nl a b c (gn a b fw k) (usb nb na wb fb ub wa fa ua a b cut (rounds + 1))) (gn a b fw k) nl)) hu3 ?_
  refine xi_icmp_ne C (tgt := 372) dL_agrees_357 rfl (fun c216 => False.elim ((fun z => z rfl) c216)) (fun c216 => ?_)
  refine xi_aload_n C 0 dL_agrees_360 rfl ?_
  refine xi_iconst C (v := 2) dL_agrees_361 rfl ?_
  obtain ⟨qr217, fs218, hq219⟩ := OW_at hO215
  refine xi_callEV C (kO_best2 l D cT hO215) (([(q_k, .inl (cT 0, np, .inl kn))] : va_W) ++ (zWb cT qw q_l q_b q_a q_k q_s (nI np) (nI nl) (nI rounds) (nI calls) u.2.1 u.2.2.1 u.2.2.2 nl nb na A_l A_b A_a f0 f1 f2 f3 f4 f5 vb vw ++ (([(q_s, .inl (cT 0, 100, .inl spv))] : va_W) ++ (([(a_g, .inl (cT 0, 1, .inl gv))] : va_W) ++ ([]))))) (by have h := permX (bs := [W213, ([(q_k, .inl (cT 0, np, .inl kn))] : va_W), zWb cT qw q_l q_b q_a q_k q_s (nI np) (nI nl) (nI rounds) (nI calls) u.2.1 u.2.2.1 u.2.2.2 nl nb na A_l A_b A_a f0 f1 f2 f3 f4 f5 vb vw, ([(q_s, .inl (cT 0, 100, .inl spv))] : va_W), ([(a_g, .inl (cT 0, 1, .inl gv))] : va_W)]) (A := [W213]) (B := [([(q_k, .inl (cT 0, np, .inl kn))] : va_W), zWb cT qw q_l q_b q_a q_k q_s (nI np) (nI nl) (nI rounds) (nI calls) u.2.1 u.2.2.1 u.2.2.2 nl nb na A_l A_b A_a f0 f1 f2 f3 f4 f5 vb vw, ([(q_s, .inl (cT 0, 100, .inl spv))] : va_W), ([(a_g, .inl (cT 0, 1, .inl gv))] : va_W)]) (n := 5) rfl [0, 1, 2, 3, 4] rfl (by decide) flat1; simp only [List.flatten_cons, List.flatten_nil] at h; exact h) zcX10_best zmL_235 ziX10_best (zrE rfl rfl) ⟨Nat.le_of_ble_eq_true rfl, Nat.le_of_ble_eq_true rfl⟩ rfl zkX10.1 (qr := qr217) hq219 rfl (Nat.le_of_ble_eq_true rfl) dL_agrees_362 (fun v220 W221 hv222 _ => ?_)
  obtain ⟨rfl, hO223⟩ := hv222
  refine xi_eqw (ws2 := W221 ++ (([(q_k, .inl (cT 0, np, .inl kn))] : va_W) ++ (zWb cT qw q_l q_b q_a q_k q_s (nI np) (nI nl) (nI rounds) (nI calls) u.2.1 u.2.2.1 u.2.2.2 nl nb na A_l A_b A_a f0 f1 f2 f3 f4 f5 vb vw ++ (([(q_s, .inl (cT 0, 100, .inl spv))] : va_W) ++ (([(a_g, .inl (cT 0, 1, .inl gv))] : va_W) ++ ([])))))) rfl ?_
  refine xi_aload_n C 1 dL_agrees_365 rfl ?_
  refine xi_get C zkX12 11 _ zlL_237 (by decide) (zap2 rfl (zap2 rfl (zap1 (zWb_w)))) rfl dL_agrees_366 ?_
  refine xi_rwi (y := nI (nsum (bset nl a b c (gn a b fw k) (usb nb na wb fb ub wa fa ua a b cut (rounds + 1))) c nl)) hu4 ?_
  refine xi_icmp_eq C (tgt := 374) dL_agrees_369 rfl (fun c224 => ?_) (fun c224 => False.elim ((fun z => z rfl) c224))
  refine xi_permL (ws2 := W221 ++ (([(q_k, .inl (cT 0, np, .inl kn))] : va_W) ++ (([(q_s, .inl (cT 0, 100, .inl spv))] : va_W) ++ (zWb cT qw q_l q_b q_a q_k q_s (nI np) (nI nl) (nI rounds) (nI calls) u.2.1 u.2.2.1 u.2.2.2 nl nb na A_l A_b A_a f0 f1 f2 f3 f4 f5 vb vw ++ (([(a_g, .inl (cT 0, 1, .inl gv))] : va_W) ++ ([])))))) (by have h := permR (bs := [W221, ([(q_k, .inl (cT 0, np, .inl kn))] : va_W), zWb cT qw q_l q_b q_a q_k q_s (nI np) (nI nl) (nI rounds) (nI calls) u.2.1 u.2.2.1 u.2.2.2 nl nb na A_l A_b A_a f0 f1 f2 f3 f4 f5 vb vw, ([(q_s, .inl (cT 0, 100, .inl spv))] : va_W), ([(a_g, .inl (cT 0, 1, .inl gv))] : va_W)]) (bs2 := [W221, ([(q_k, .inl (cT 0, np, .inl kn))] : va_W), ([(q_s, .inl (cT 0, 100, .inl spv))] : va_W), zWb cT qw q_l q_b q_a q_k q_s (nI np) (nI nl) (nI rounds) (nI calls) u.2.1 u.2.2.1 u.2.2.2 nl nb na A_l A_b A_a f0 f1 f2 f3 f4 f5 vb vw, ([(a_g, .inl (cT 0, 1, .inl gv))] : va_W)]) (n := 5) rfl [0, 1, 3, 2, 4] rfl (by decide); simp only [List.flatten_cons, List.flatten_nil] at h; exact h) ?_
  exact agrees_374 C hr hR hO223 hE hc hS hb ha hk hsp hcS
set_option maxRecDepth 100000 in
set_option maxHeartbeats 4000000 in
theorem agrees_252 {X : sX} {l : Launch} {D : va_G} {cT : Nat → ClassId} {a_o qw a_g : Nat} {np nl : Nat} {a b c : Nat → Nat} {fw : Nat → Bool} {nb : Nat} {wb fb ub : Nat → Nat} {na : Nat} {wa fa ua : Nat → Nat} {cut S : Nat → Bool} {k : Nat → Nat} {rounds calls : Nat} {sp : Nat → Nat} {q_l q_b q_a q_k q_s : Nat} {A_l A_b A_a : Nat → Nat} {bs bg bc : Int32} {f0 f1 f2 f3 f4 f5 : Nat → Int32} {vb vw : Nat → Nat → Int32} {kn spv gv : Nat → Int32} {Wo : va_W} (C : sC X (zRA 75 220 2200) D cT 8 cL_agrees yL_agrees.cls) (hr : rounds < 95) (hR : ∀ (pc : Nat) (L : List (Nat × Value)) (W1 : va_W), decode cL_agrees pc = .ok (.ireturn, 1) → SW cT a_o qw a_g np nl a b c fw nb wb fb ub na wa fa ua cut S k rounds calls sp W1 → sW X l (zRA 75 220 2200) D 8 220 2200 pc L [.int 1] W1) (hO : OW cT a_o np nl a b c fw nb wb fb ub na wa fa ua cut S k rounds calls sp 0 Wo) (hE : hLn np nl a b c fw f0 f1 f2 f3) (hc : hFl nl cut f4) (hS : hFl nl S f5) (hb : hRw nb nl wb fb ub vb) (ha : hRw na np wa fa ua vw) (hk : hK np k kn) (hsp : ∀ i, i ≤ rounds → spv i = nI (sp i)) (hcS : ∀ l, l < nl → cut l = true → S l = false)  : sW X l (zRA 75 220 2200) D 8 0 0 252 [(0, .ref a_o), (1, .ref qw), (2, .ref a_g)] [] (Wo ++ (([(q_k, .inl (cT 0, np, .inl kn))] : va_W) ++ (([(q_s, .inl (cT 0, 100, .inl spv))] : va_W) ++ (zWb cT qw q_l q_b q_a q_k q_s (nI np) (nI nl) (nI rounds) (nI calls) bs bg bc nl nb na A_l A_b A_a f0 f1 f2 f3 f4 f5 vb vw ++ (([(a_g, .inl (cT 0, 1, .inl gv))] : va_W) ++ ([])))))) := by
  have hnp := hE.1
  have hnl := hE.2.1
  have hOf := OW_facts hO
  have hab : ∀ l, l < nl → a l ≠ b l := fun l hl => (hE.2.2 l hl).2.2.1
  have hE2 : ∀ l, l < nl → a l < np ∧ b l < np := fun l hl => ⟨(hE.2.2 l hl).1, (hE.2.2 l hl).2.1⟩
  refine xi_iconst C (v := 1) dL_agrees_252 rfl ?_
  refine xi_aload_n C 2 dL_agrees_253 rfl ?_
  refine xi_bipush C (v := 12) dL_agrees_254 rfl ?_
  refine xi_rwi (y := nI 12) rfl ?_
  refine xi_callES C (kL_draw l D cT a_g gv (m := 12) (by decide) (by decide)) (Wo ++ (([(q_k, .inl (cT 0, np, .inl kn))] : va_W) ++ (([(q_s, .inl (cT 0, 100, .inl spv))] : va_W) ++ (zWb cT qw q_l q_b q_a q_k q_s (nI np) (nI nl) (nI rounds) (nI calls) bs bg bc nl nb na A_l A_b A_a f0 f1 f2 f3 f4 f5 vb vw ++ ([]))))) (by have h := permX (bs := [Wo, ([(q_k, .inl (cT 0, np, .inl kn))] : va_W), ([(q_s, .inl (cT 0, 100, .inl spv))] : va_W), zWb cT qw q_l q_b q_a q_k q_s (nI np) (nI nl) (nI rounds) (nI calls) bs bg bc nl nb na A_l A_b A_a f0 f1 f2 f3 f4 f5 vb vw, ([(a_g, .inl (cT 0, 1, .inl gv))] : va_W)]) (A := [([(a_g, .inl (cT 0, 1, .inl gv))] : va_W)]) (B := [Wo, ([(q_k, .inl (cT 0, np, .inl kn))] : va_W), ([(q_s, .inl (cT 0, 100, .inl spv))] : va_W), zWb cT qw q_l q_b q_a q_k q_s (nI np) (nI nl) (nI rounds) (nI calls) bs bg bc nl nb na A_l A_b A_a f0 f1 f2 f3 f4 f5 vb vw]) (n := 5) rfl [4, 0, 1, 2, 3] rfl (by decide) flat1; simp only [List.flatten_cons, List.flatten_nil] at h; exact h) zcL_draw zmL_35 zsL_draw (zrE rfl rfl) ⟨Nat.le_of_ble_eq_true rfl, Nat.le_of_ble_eq_true rfl⟩ rfl rfl (Nat.le_of_ble_eq_true rfl) dL_agrees_256 (fun v228 W229 hv230 _ => ?_)
  obtain ⟨d225, gv226, hd227, rfl, rfl⟩ := hv230
  refine xi_eqw (ws2 := ([(a_g, .inl (cT 0, 1, .inl gv226))] : va_W) ++ (Wo ++ (([(q_k, .inl (cT 0, np, .inl kn))] : va_W) ++ (([(q_s, .inl (cT 0, 100, .inl spv))] : va_W) ++ (zWb cT qw q_l q_b q_a q_k q_s (nI np) (nI nl) (nI rounds) (nI calls) bs bg bc nl nb na A_l A_b A_a f0 f1 f2 f3 f4 f5 vb vw ++ ([])))))) rfl ?_
  refine xi_iadd C dL_agrees_259 ?_
  refine xi_rwi (y := nI (1 + d225)) (nI_add 1 d225) ?_
  refine xi_istore_n C [1, 2, 3, 0] (L2 := [(0, .ref a_o), (1, .ref qw), (2, .ref a_g), (3, .int (nI (1 + d225)))]) dL_agrees_260 (Nat.le_of_ble_eq_true rfl) rfl ?_
  obtain ⟨rd, erd⟩ : ∃ rd, rd = 1 + d225 := ⟨_, rfl⟩
  rw [← erd]
  have hrd : 1 ≤ rd ∧ rd ≤ 12 := by omega
  refine xi_iconst C (v := 0) dL_agrees_261 rfl ?_
  refine xi_istore C [1, 2, 3, 4, 0] (L2 := [(0, .ref a_o), (1, .ref qw), (2, .ref a_g), (3, .int (nI rd)), (4, .int 0)]) dL_agrees_262 (Nat.le_of_ble_eq_true rfl) rfl ?_
  refine xi_permL (ws2 := Wo ++ (([(q_k, .inl (cT 0, np, .inl kn))] : va_W) ++ (([(q_s, .inl (cT 0, 100, .inl spv))] : va_W) ++ (zWb cT qw q_l q_b q_a q_k q_s (nI np) (nI nl) (nI rounds) (nI calls) bs bg bc nl nb na A_l A_b A_a f0 f1 f2 f3 f4 f5 vb vw ++ (([(a_g, .inl (cT 0, 1, .inl gv226))] : va_W) ++ ([])))))) (by have h := permR (bs := [([(a_g, .inl (cT 0, 1, .inl gv226))] : va_W), Wo, ([(q_k, .inl (cT 0, np, .inl kn))] : va_W), ([(q_s, .inl (cT 0, 100, .inl spv))] : va_W), zWb cT qw q_l q_b q_a q_k q_s (nI np) (nI nl) (nI rounds) (nI calls) bs bg bc nl nb na A_l A_b A_a f0 f1 f2 f3 f4 f5 vb vw]) (bs2 := [Wo, ([(q_k, .inl (cT 0, np, .inl kn))] : va_W), ([(q_s, .inl (cT 0, 100, .inl spv))] : va_W), zWb cT qw q_l q_b q_a q_k q_s (nI np) (nI nl) (nI rounds) (nI calls) bs bg bc nl nb na A_l A_b A_a f0 f1 f2 f3 f4 f5 vb vw, ([(a_g, .inl (cT 0, 1, .inl gv226))] : va_W)]) (n := 5) rfl [1, 2, 3, 4, 0] rfl (by decide); simp only [List.flatten_cons, List.flatten_nil] at h; exact h) ?_
  have L : ∀ (d l0 : Nat) (Wp : va_W), OW cT a_o np nl a b c fw nb wb fb ub na wa fa ua cut S k rounds calls sp 0 Wp → l0 ≤ nl → nl - l0 < d → sW X l (zRA 75 220 2200) D 8 0 0 264 [(0, .ref a_o), (1, .ref qw), (2, .ref a_g), (3, .int (nI rd)), (4, .int (nI l0))] [] (Wp ++ (([(q_k, .inl (cT 0, np, .inl kn))] : va_W) ++ (([(q_s, .inl (cT 0, 100, .inl spv))] : va_W) ++ (zWb cT qw q_l q_b q_a q_k q_s (nI np) (nI nl) (nI rounds) (nI calls) bs bg bc nl nb na A_l A_b A_a f0 f1 f2 f3 f4 f5 vb vw ++ (([(a_g, .inl (cT 0, 1, .inl gv226))] : va_W) ++ ([])))))) := by
    intro d
    induction d with
    | zero => intro l0 Wp hO9 h1 h2; omega
    | succ d ih =>
      intro l0 Wp hO9 h1 h2
      refine xi_iload C 4 dL_agrees_264 rfl ?_
      refine xi_aload_n C 1 dL_agrees_266 rfl ?_
      refine xi_get C zkX12 1 _ zlL_56 (by decide) (zap2 rfl (zap2 rfl (zap2 rfl (zap1 (zWb_w))))) rfl dL_agrees_267 ?_
      refine xi_icmp_ge C (tgt := 326) dL_agrees_270 rfl (fun c231 => ?_) (fun c231 => ?_)
      · refine xi_drop (L2 := [(0, .ref a_o), (1, .ref qw), (2, .ref a_g)]) [0, 1, 2] rfl ?_
        exact agrees_326 C hr hR hO9 hE hc hS hb ha hk hsp hcS
      · have hl := nln c231 (by omega) (by omega)
        refine xi_aload_n C 0 dL_agrees_273 rfl ?_
        refine xi_iload C 4 dL_agrees_274 rfl ?_
        refine xi_iload_n C 3 dL_agrees_276 rfl ?_
        obtain ⟨qr232, fs233, hq234⟩ := OW_at hO9
        refine xi_callEV C (kO_isUsable l D cT hO9 hl (x := rd) (by omega) (by omega)) (([(q_k, .inl (cT 0, np, .inl kn))] : va_W) ++ (([(q_s, .inl (cT 0, 100, .inl spv))] : va_W) ++ (zWb cT qw q_l q_b q_a q_k q_s (nI np) (nI nl) (nI rounds) (nI calls) bs bg bc nl nb na A_l A_b A_a f0 f1 f2 f3 f4 f5 vb vw ++ (([(a_g, .inl (cT 0, 1, .inl gv226))] : va_W) ++ ([]))))) (by have h := permX (bs := [Wp, ([(q_k, .inl (cT 0, np, .inl kn))] : va_W), ([(q_s, .inl (cT 0, 100, .inl spv))] : va_W), zWb cT qw q_l q_b q_a q_k q_s (nI np) (nI nl) (nI rounds) (nI calls) bs bg bc nl nb na A_l A_b A_a f0 f1 f2 f3 f4 f5 vb vw, ([(a_g, .inl (cT 0, 1, .inl gv226))] : va_W)]) (A := [Wp]) (B := [([(q_k, .inl (cT 0, np, .inl kn))] : va_W), ([(q_s, .inl (cT 0, 100, .inl spv))] : va_W), zWb cT qw q_l q_b q_a q_k q_s (nI np) (nI nl) (nI rounds) (nI calls) bs bg bc nl nb na A_l A_b A_a f0 f1 f2 f3 f4 f5 vb vw, ([(a_g, .inl (cT 0, 1, .inl gv226))] : va_W)]) (n := 5) rfl [0, 1, 2, 3, 4] rfl (by decide) flat1; simp only [List.flatten_cons, List.flatten_nil] at h; exact h) zcX10_isUsable zmL_230 ziX10_isUsable (zrE rfl rfl) ⟨Nat.le_of_ble_eq_true rfl, Nat.le_of_ble_eq_true rfl⟩ rfl zkX10.1 (qr := qr232) hq234 rfl (Nat.le_of_ble_eq_true rfl) dL_agrees_277 (fun v235 W236 hv237 _ => ?_)
        obtain ⟨rfl, hO238⟩ := hv237
        refine xi_eqw (ws2 := W236 ++ (([(q_k, .inl (cT 0, np, .inl kn))] : va_W) ++ (([(q_s, .inl (cT 0, 100, .inl spv))] : va_W) ++ (zWb cT qw q_l q_b q_a q_k q_s (nI np) (nI nl) (nI rounds) (nI calls) bs bg bc nl nb na A_l A_b A_a f0 f1 f2 f3 f4 f5 vb vw ++ (([(a_g, .inl (cT 0, 1, .inl gv226))] : va_W) ++ ([])))))) rfl ?_
        refine xi_aload_n C 1 dL_agrees_280 rfl ?_
        refine xi_iload C 4 dL_agrees_281 rfl ?_
        refine xi_iload_n C 3 dL_agrees_283 rfl ?_
        refine xi_callEV C (sE_of_sM (kX12_usable l D cT qw q_l q_b q_a q_k q_s A_l A_b A_a nl nb na (nI np) (nI nl) (nI rounds) (nI calls) bs bg bc f0 f1 f2 f3 f4 f5 vb vw (nI l0) (nI rd) (by omega) _ (wUsable hE hl (by omega) hc hb ha))) (W236 ++ (([(q_k, .inl (cT 0, np, .inl kn))] : va_W) ++ (([(q_s, .inl (cT 0, 100, .inl spv))] : va_W) ++ (([(a_g, .inl (cT 0, 1, .inl gv226))] : va_W) ++ ([]))))) (by have h := permX (bs := [W236, ([(q_k, .inl (cT 0, np, .inl kn))] : va_W), ([(q_s, .inl (cT 0, 100, .inl spv))] : va_W), zWb cT qw q_l q_b q_a q_k q_s (nI np) (nI nl) (nI rounds) (nI calls) bs bg bc nl nb na A_l A_b A_a f0 f1 f2 f3 f4 f5 vb vw, ([(a_g, .inl (cT 0, 1, .inl gv226))] : va_W)]) (A := [zWb cT qw q_l q_b q_a q_k q_s (nI np) (nI nl) (nI rounds) (nI calls) bs bg bc nl nb na A_l A_b A_a f0 f1 f2 f3 f4 f5 vb vw]) (B := [W236, ([(q_k, .inl (cT 0, np, .inl kn))] : va_W), ([(q_s, .inl (cT 0, 100, .inl spv))] : va_W), ([(a_g, .inl (cT 0, 1, .inl gv226))] : va_W)]) (n := 5) rfl [3, 0, 1, 2, 4] rfl (by decide) flat1; simp only [List.flatten_cons, List.flatten_nil] at h; exact h) zcX12_usable zmL_135 ziX12_usable (zrE rfl rfl) ⟨Nat.le_of_ble_eq_true rfl, Nat.le_of_ble_eq_true rfl⟩ rfl zkX12.1 (qr := 0) rfl rfl (Nat.le_of_ble_eq_true rfl) dL_agrees_284 (fun v239 W240 hv241 _ => ?_)
        obtain ⟨rfl, rfl⟩ := hv241
        refine xi_eqw (ws2 := zWb cT qw q_l q_b q_a q_k q_s (nI np) (nI nl) (nI rounds) (nI calls) bs bg bc nl nb na A_l A_b A_a f0 f1 f2 f3 f4 f5 vb vw ++ (W236 ++ (([(q_k, .inl (cT 0, np, .inl kn))] : va_W) ++ (([(q_s, .inl (cT 0, 100, .inl spv))] : va_W) ++ (([(a_g, .inl (cT 0, 1, .inl gv226))] : va_W) ++ ([])))))) rfl ?_
        refine xi_icmp_ne C (tgt := 318) dL_agrees_287 rfl (fun c242 => False.elim ((fun z => z rfl) c242)) (fun c242 => ?_)
        refine xi_aload_n C 0 dL_agrees_290 rfl ?_
        refine xi_iload C 4 dL_agrees_291 rfl ?_
        refine xi_iconst C (v := 4) dL_agrees_293 rfl ?_
        obtain ⟨qr243, fs244, hq245⟩ := OW_at hO238
        refine xi_callEV C (kO_line4 l D cT hO238 hl) (zWb cT qw q_l q_b q_a q_k q_s (nI np) (nI nl) (nI rounds) (nI calls) bs bg bc nl nb na A_l A_b A_a f0 f1 f2 f3 f4 f5 vb vw ++ (([(q_k, .inl (cT 0, np, .inl kn))] : va_W) ++ (([(q_s, .inl (cT 0, 100, .inl spv))] : va_W) ++ (([(a_g, .inl (cT 0, 1, .inl gv226))] : va_W) ++ ([]))))) (by have h := permX (bs := [zWb cT qw q_l q_b q_a q_k q_s (nI np) (nI nl) (nI rounds) (nI calls) bs bg bc nl nb na A_l A_b A_a f0 f1 f2 f3 f4 f5 vb vw, W236, ([(q_k, .inl (cT 0, np, .inl kn))] : va_W), ([(q_s, .inl (cT 0, 100, .inl spv))] : va_W), ([(a_g, .inl (cT 0, 1, .inl gv226))] : va_W)]) (A := [W236]) (B := [zWb cT qw q_l q_b q_a q_k q_s (nI np) (nI nl) (nI rounds) (nI calls) bs bg bc nl nb na A_l A_b A_a f0 f1 f2 f3 f4 f5 vb vw, ([(q_k, .inl (cT 0, np, .inl kn))] : va_W), ([(q_s, .inl (cT 0, 100, .inl spv))] : va_W), ([(a_g, .inl (cT 0, 1, .inl gv226))] : va_W)]) (n := 5) rfl [1, 0, 2, 3, 4] rfl (by decide) flat1; simp only [List.flatten_cons, List.flatten_nil] at h; exact h) zcX10_line zmL_233 ziX10_line (zrE rfl rfl) ⟨Nat.le_of_ble_eq_true rfl, Nat.le_of_ble_eq_true rfl⟩ rfl zkX10.1 (qr := qr243) hq245 rfl (Nat.le_of_ble_eq_true rfl) dL_agrees_294 (fun v246 W247 hv248 _ => ?_)
        obtain ⟨rfl, hO249⟩ := hv248
        refine xi_eqw (ws2 := W247 ++ (zWb cT qw q_l q_b q_a q_k q_s (nI np) (nI nl) (nI rounds) (nI calls) bs bg bc nl nb na A_l A_b A_a f0 f1 f2 f3 f4 f5 vb vw ++ (([(q_k, .inl (cT 0, np, .inl kn))] : va_W) ++ (([(q_s, .inl (cT 0, 100, .inl spv))] : va_W) ++ (([(a_g, .inl (cT 0, 1, .inl gv226))] : va_W) ++ ([])))))) rfl ?_
        refine xi_aload_n C 1 dL_agrees_297 rfl ?_
        refine xi_get C zkX12 4 _ zlL_75 (by decide) (zap2 rfl (zap1 (zWb_w))) rfl dL_agrees_298 ?_
        refine xi_iload C 4 dL_agrees_301 rfl ?_
        refine xw_aald C _ 7 (zap2 rfl (zap1 (zWb_ar))) rfl (by omega) (by decide) (if_pos hl) dL_agrees_303 ?_
        refine xi_get C zkX11 4 _ zlL_152 (by decide) (zap2 rfl (zap1 (zWb_l hl))) rfl dL_agrees_304 ?_
        refine xi_rwi (y := (if cut l0 = true then 1 else 0)) (hc l0 hl) ?_
        cases hb9 : cut l0 with
        | true =>
          refine xi_rwi (y := 1) ifT ?_
          refine xi_if_eq C (tgt := 314) dL_agrees_307 rfl (fun c250 => False.elim ((fun z : (1 : Int32) = 0 => one0 z) c250)) (fun c250 => ?_)
          refine xi_iconst C (v := 1) dL_agrees_310 rfl ?_
          refine xi_goto C (tgt := 315) dL_agrees_311 rfl ?_
          refine xi_rwi2 (y := 1) ifT ?_
          refine xi_icmp_eq C (tgt := 320) dL_agrees_315 rfl (fun c251 => ?_) (fun c251 => False.elim ((fun z => z rfl) c251))
          refine xi_iinc C (v := nI (l0 + 1)) 4 [1, 2, 3, 4, 0] (L2 := [(0, .ref a_o), (1, .ref qw), (2, .ref a_g), (3, .int (nI rd)), (4, .int (nI (l0 + 1)))]) dL_agrees_320 rfl (nI_1 l0) (Nat.le_of_ble_eq_true rfl) rfl ?_
          refine xi_goto C (tgt := 264) dL_agrees_323 rfl ?_
          refine xi_permL (ws2 := W247 ++ (([(q_k, .inl (cT 0, np, .inl kn))] : va_W) ++ (([(q_s, .inl (cT 0, 100, .inl spv))] : va_W) ++ (zWb cT qw q_l q_b q_a q_k q_s (nI np) (nI nl) (nI rounds) (nI calls) bs bg bc nl nb na A_l A_b A_a f0 f1 f2 f3 f4 f5 vb vw ++ (([(a_g, .inl (cT 0, 1, .inl gv226))] : va_W) ++ ([])))))) (by have h := permR (bs := [W247, zWb cT qw q_l q_b q_a q_k q_s (nI np) (nI nl) (nI rounds) (nI calls) bs bg bc nl nb na A_l A_b A_a f0 f1 f2 f3 f4 f5 vb vw, ([(q_k, .inl (cT 0, np, .inl kn))] : va_W), ([(q_s, .inl (cT 0, 100, .inl spv))] : va_W), ([(a_g, .inl (cT 0, 1, .inl gv226))] : va_W)]) (bs2 := [W247, ([(q_k, .inl (cT 0, np, .inl kn))] : va_W), ([(q_s, .inl (cT 0, 100, .inl spv))] : va_W), zWb cT qw q_l q_b q_a q_k q_s (nI np) (nI nl) (nI rounds) (nI calls) bs bg bc nl nb na A_l A_b A_a f0 f1 f2 f3 f4 f5 vb vw, ([(a_g, .inl (cT 0, 1, .inl gv226))] : va_W)]) (n := 5) rfl [0, 2, 3, 1, 4] rfl (by decide); simp only [List.flatten_cons, List.flatten_nil] at h; exact h) ?_
          exact ih (l0 + 1) _ hO249 (by omega) (by omega)
        | false =>
          refine xi_rwi (y := 0) ifF ?_
          refine xi_if_eq C (tgt := 314) dL_agrees_307 rfl (fun c252 => ?_) (fun c252 => False.elim ((fun z : ¬ ((0 : Int32) = 0) => z rfl) c252))
          refine xi_iconst C (v := 0) dL_agrees_314 rfl ?_
          refine xi_rwi2 (y := 0) ifF ?_
          refine xi_icmp_eq C (tgt := 320) dL_agrees_315 rfl (fun c253 => ?_) (fun c253 => False.elim ((fun z => z rfl) c253))
          refine xi_iinc C (v := nI (l0 + 1)) 4 [1, 2, 3, 4, 0] (L2 := [(0, .ref a_o), (1, .ref qw), (2, .ref a_g), (3, .int (nI rd)), (4, .int (nI (l0 + 1)))]) dL_agrees_320 rfl (nI_1 l0) (Nat.le_of_ble_eq_true rfl) rfl ?_
          refine xi_goto C (tgt := 264) dL_agrees_323 rfl ?_
          refine xi_permL (ws2 := W247 ++ (([(q_k, .inl (cT 0, np, .inl kn))] : va_W) ++ (([(q_s, .inl (cT 0, 100, .inl spv))] : va_W) ++ (zWb cT qw q_l q_b q_a q_k q_s (nI np) (nI nl) (nI rounds) (nI calls) bs bg bc nl nb na A_l A_b A_a f0 f1 f2 f3 f4 f5 vb vw ++ (([(a_g, .inl (cT 0, 1, .inl gv226))] : va_W) ++ ([])))))) (by have h := permR (bs := [W247, zWb cT qw q_l q_b q_a q_k q_s (nI np) (nI nl) (nI rounds) (nI calls) bs bg bc nl nb na A_l A_b A_a f0 f1 f2 f3 f4 f5 vb vw, ([(q_k, .inl (cT 0, np, .inl kn))] : va_W), ([(q_s, .inl (cT 0, 100, .inl spv))] : va_W), ([(a_g, .inl (cT 0, 1, .inl gv226))] : va_W)]) (bs2 := [W247, ([(q_k, .inl (cT 0, np, .inl kn))] : va_W), ([(q_s, .inl (cT 0, 100, .inl spv))] : va_W), zWb cT qw q_l q_b q_a q_k q_s (nI np) (nI nl) (nI rounds) (nI calls) bs bg bc nl nb na A_l A_b A_a f0 f1 f2 f3 f4 f5 vb vw, ([(a_g, .inl (cT 0, 1, .inl gv226))] : va_W)]) (n := 5) rfl [0, 2, 3, 1, 4] rfl (by decide); simp only [List.flatten_cons, List.flatten_nil] at h; exact h) ?_
          exact ih (l0 + 1) _ hO249 (by omega) (by omega)
  exact L (nl + 1) 0 Wo hO (Nat.zero_le _) (by omega)
theorem shl00 : ∀ q : Nat, q < 32 → (0 : Int32) <<< (nI q &&& 31) = 0 := by decide +kernel
theorem orz (x : Int32) : x ||| 0 = x := by
  apply Int32.toBitVec_inj.mp
  show x.toBitVec ||| 0#32 = x.toBitVec
  exact BitVec.or_zero

set_option maxRecDepth 100000 in
set_option maxHeartbeats 4000000 in
theorem agrees_73 {X : sX} {l : Launch} {D : va_G} {cT : Nat → ClassId} {a_o qw a_g : Nat} {np nl : Nat} {a b c : Nat → Nat} {fw : Nat → Bool} {nb : Nat} {wb fb ub : Nat → Nat} {na : Nat} {wa fa ua : Nat → Nat} {cut S : Nat → Bool} {k : Nat → Nat} {rounds calls : Nat} {sp : Nat → Nat} {q_l q_b q_a q_k q_s : Nat} {A_l A_b A_a : Nat → Nat} {bs bg bc : Int32} {f0 f1 f2 f3 f4 f5 : Nat → Int32} {vb vw : Nat → Nat → Int32} {kn spv gv : Nat → Int32} {Wo : va_W} (C : sC X (zRA 75 220 2200) D cT 8 cL_agrees yL_agrees.cls) (hr : rounds < 95) (hR : ∀ (pc : Nat) (L : List (Nat × Value)) (W1 : va_W), decode cL_agrees pc = .ok (.ireturn, 1) → SW cT a_o qw a_g np nl a b c fw nb wb fb ub na wa fa ua cut S k rounds calls sp W1 → sW X l (zRA 75 220 2200) D 8 220 2200 pc L [.int 1] W1) (hO : OW cT a_o np nl a b c fw nb wb fb ub na wa fa ua cut S k rounds calls sp 0 Wo) (hE : hLn np nl a b c fw f0 f1 f2 f3) (hc : hFl nl cut f4) (hS : hFl nl S f5) (hb : hRw nb nl wb fb ub vb) (ha : hRw na np wa fa ua vw) (hk : hK np k kn) (hsp : ∀ i, i ≤ rounds → spv i = nI (sp i)) (hcS : ∀ l, l < nl → cut l = true → S l = false) : ∀ (d p : Nat) (Wp : va_W), OW cT a_o np nl a b c fw nb wb fb ub na wa fa ua cut S k rounds calls sp 0 Wp → p ≤ np → np - p < d → sW X l (zRA 75 220 2200) D 8 0 0 73 [(0, .ref a_o), (1, .ref qw), (2, .ref a_g), (3, .int (nI p))] [] (Wp ++ (([(q_k, .inl (cT 0, np, .inl kn))] : va_W) ++ (([(q_s, .inl (cT 0, 100, .inl spv))] : va_W) ++ (zWb cT qw q_l q_b q_a q_k q_s (nI np) (nI nl) (nI rounds) (nI calls) bs bg bc nl nb na A_l A_b A_a f0 f1 f2 f3 f4 f5 vb vw ++ (([(a_g, .inl (cT 0, 1, .inl gv))] : va_W) ++ ([])))))) := by
  have hnp := hE.1
  have hnl := hE.2.1
  have hOf := OW_facts hO
  have hab : ∀ l, l < nl → a l ≠ b l := fun l hl => (hE.2.2 l hl).2.2.1
  intro d
  induction d with
  | zero => intro p Wp hO9 h1 h2; omega
  | succ d ih =>
    intro p Wp hO9 h1 h2
    refine xi_iload_n C 3 dL_agrees_73 rfl ?_
    refine xi_aload_n C 1 dL_agrees_74 rfl ?_
    refine xi_get C zkX12 0 _ zlL_39 (by decide) (zap2 rfl (zap2 rfl (zap2 rfl (zap1 (zWb_w))))) rfl dL_agrees_75 ?_
    refine xi_icmp_ge C (tgt := 252) dL_agrees_78 rfl (fun c254 => ?_) (fun c254 => ?_)
    · refine xi_drop (L2 := [(0, .ref a_o), (1, .ref qw), (2, .ref a_g)]) [0, 1, 2] rfl ?_
      exact agrees_252 C hr hR hO9 hE hc hS hb ha hk hsp hcS
    · have hp := nln c254 (by omega) (by omega)
      refine xi_aload_n C 0 dL_agrees_81 rfl ?_
      refine xi_iload_n C 3 dL_agrees_82 rfl ?_
      obtain ⟨qr255, fs256, hq257⟩ := OW_at hO9
      refine xi_callEV C (kO_known l D cT hO9 hp) (([(q_k, .inl (cT 0, np, .inl kn))] : va_W) ++ (([(q_s, .inl (cT 0, 100, .inl spv))] : va_W) ++ (zWb cT qw q_l q_b q_a q_k q_s (nI np) (nI nl) (nI rounds) (nI calls) bs bg bc nl nb na A_l A_b A_a f0 f1 f2 f3 f4 f5 vb vw ++ (([(a_g, .inl (cT 0, 1, .inl gv))] : va_W) ++ ([]))))) (by have h := permX (bs := [Wp, ([(q_k, .inl (cT 0, np, .inl kn))] : va_W), ([(q_s, .inl (cT 0, 100, .inl spv))] : va_W), zWb cT qw q_l q_b q_a q_k q_s (nI np) (nI nl) (nI rounds) (nI calls) bs bg bc nl nb na A_l A_b A_a f0 f1 f2 f3 f4 f5 vb vw, ([(a_g, .inl (cT 0, 1, .inl gv))] : va_W)]) (A := [Wp]) (B := [([(q_k, .inl (cT 0, np, .inl kn))] : va_W), ([(q_s, .inl (cT 0, 100, .inl spv))] : va_W), zWb cT qw q_l q_b q_a q_k q_s (nI np) (nI nl) (nI rounds) (nI calls) bs bg bc nl nb na A_l A_b A_a f0 f1 f2 f3 f4 f5 vb vw, ([(a_g, .inl (cT 0, 1, .inl gv))] : va_W)]) (n := 5) rfl [0, 1, 2, 3, 4] rfl (by decide) flat1; simp only [List.flatten_cons, List.flatten_nil] at h; exact h) zcX10_known zmL_222 ziX10_known (zrE rfl rfl) ⟨Nat.le_of_ble_eq_true rfl, Nat.le_of_ble_eq_true rfl⟩ rfl zkX10.1 (qr := qr255) hq257 rfl (Nat.le_of_ble_eq_true rfl) dL_agrees_83 (fun v258 W259 hv260 _ => ?_)
      obtain ⟨rfl, hO261⟩ := hv260
      refine xi_eqw (ws2 := W259 ++ (([(q_k, .inl (cT 0, np, .inl kn))] : va_W) ++ (([(q_s, .inl (cT 0, 100, .inl spv))] : va_W) ++ (zWb cT qw q_l q_b q_a q_k q_s (nI np) (nI nl) (nI rounds) (nI calls) bs bg bc nl nb na A_l A_b A_a f0 f1 f2 f3 f4 f5 vb vw ++ (([(a_g, .inl (cT 0, 1, .inl gv))] : va_W) ++ ([])))))) rfl ?_
      refine xi_aload_n C 1 dL_agrees_86 rfl ?_
      refine xi_get C zkX12 7 _ zlL_98 (by decide) (zap2 rfl (zap2 rfl (zap2 rfl (zap1 (zWb_w))))) rfl dL_agrees_87 ?_
      refine xi_iload_n C 3 dL_agrees_90 rfl ?_
      refine xw_iald C _ (zap2 rfl (zap1 ((rfl : (([(q_k, .inl (cT 0, np, .inl kn))] : va_W) : va_W)[0]? = some _)))) hp (by omega) dL_agrees_91 ?_
      refine xi_rwi (y := nI (k p)) (hk p hp).2 ?_
      refine xi_icmp_eq C (tgt := 97) dL_agrees_92 rfl (fun c262 => ?_) (fun c262 => False.elim ((fun z => z rfl) c262))
      refine xi_iconst C (v := (-1)) dL_agrees_97 rfl ?_
      refine xi_istore C [1, 2, 3, 4, 0] (L2 := [(0, .ref a_o), (1, .ref qw), (2, .ref a_g), (3, .int (nI p)), (4, .int (-1))]) dL_agrees_98 (Nat.le_of_ble_eq_true rfl) rfl ?_
      refine xi_iconst C (v := 0) dL_agrees_100 rfl ?_
      refine xi_istore C [1, 2, 3, 4, 5, 0] (L2 := [(0, .ref a_o), (1, .ref qw), (2, .ref a_g), (3, .int (nI p)), (4, .int (-1)), (5, .int 0)]) dL_agrees_101 (Nat.le_of_ble_eq_true rfl) rfl ?_
      refine xi_iconst C (v := 0) dL_agrees_103 rfl ?_
      refine xi_istore C [1, 2, 3, 4, 5, 6, 0] (L2 := [(0, .ref a_o), (1, .ref qw), (2, .ref a_g), (3, .int (nI p)), (4, .int (-1)), (5, .int 0), (6, .int 0)]) dL_agrees_104 (Nat.le_of_ble_eq_true rfl) rfl ?_
      have L : (∀ y : Int32, ptn nl a b S p y → sW X l (zRA 75 220 2200) D 8 0 0 187 [(0, .ref a_o), (1, .ref qw), (2, .ref a_g), (3, .int (nI p)), (4, .int y), (5, .int 0)] [] (W259 ++ (([(q_k, .inl (cT 0, np, .inl kn))] : va_W) ++ (([(q_s, .inl (cT 0, 100, .inl spv))] : va_W) ++ (zWb cT qw q_l q_b q_a q_k q_s (nI np) (nI nl) (nI rounds) (nI calls) bs bg bc nl nb na A_l A_b A_a f0 f1 f2 f3 f4 f5 vb vw ++ (([(a_g, .inl (cT 0, 1, .inl gv))] : va_W) ++ ([]))))))) → ∀ (d l0 : Nat) (x : Int32), l0 ≤ nl → nl - l0 < d → ptn l0 a b S p x → sW X l (zRA 75 220 2200) D 8 0 0 106 [(0, .ref a_o), (1, .ref qw), (2, .ref a_g), (3, .int (nI p)), (4, .int x), (5, .int 0), (6, .int (nI l0))] [] (W259 ++ (([(q_k, .inl (cT 0, np, .inl kn))] : va_W) ++ (([(q_s, .inl (cT 0, 100, .inl spv))] : va_W) ++ (zWb cT qw q_l q_b q_a q_k q_s (nI np) (nI nl) (nI rounds) (nI calls) bs bg bc nl nb na A_l A_b A_a f0 f1 f2 f3 f4 f5 vb vw ++ (([(a_g, .inl (cT 0, 1, .inl gv))] : va_W) ++ ([])))))) := by
        intro kk d
        induction d with
        | zero => intro l0 x h1 h2; omega
        | succ d ih =>
          intro l0 x h1 h2 h3
          refine xi_iload C 6 dL_agrees_106 rfl ?_
          refine xi_aload_n C 1 dL_agrees_108 rfl ?_
          refine xi_get C zkX12 1 _ zlL_56 (by decide) (zap2 rfl (zap2 rfl (zap2 rfl (zap1 (zWb_w))))) rfl dL_agrees_109 ?_
          refine xi_icmp_ge C (tgt := 187) dL_agrees_112 rfl (fun c263 => ?_) (fun c263 => ?_)
          · have e := nll c263 (by omega) (by omega)
            have e2 : nl = l0 := by omega
            refine xi_drop (L2 := [(0, .ref a_o), (1, .ref qw), (2, .ref a_g), (3, .int (nI p)), (4, .int x), (5, .int 0)]) [0, 1, 2, 3, 4, 5] rfl ?_
            exact kk x (by rw [e2]; exact h3)
          · have hl := nln c263 (by omega) (by omega)
            obtain ⟨e1, e2, e3, e4, e5, e6, e7, e8⟩ := hE.2.2 l0 hl
            have skip : (S l0 = true → a l0 ≠ p ∧ b l0 ≠ p) → ptn (l0 + 1) a b S p x := fun z => by
              rcases h3 with ⟨q1, q2⟩ | ⟨m, q1, q2⟩
              · refine Or.inl ⟨q1, fun m hm hs => ?_⟩
                by_cases e : m = l0
                · rw [e] at hs ⊢; exact z hs
                · exact q2 m (by omega) hs
              · exact Or.inr ⟨m, by omega, q2⟩
            refine xi_aload_n C 1 dL_agrees_115 rfl ?_
            refine xi_get C zkX12 4 _ zlL_75 (by decide) (zap2 rfl (zap2 rfl (zap2 rfl (zap1 (zWb_w))))) rfl dL_agrees_116 ?_
            refine xi_iload C 6 dL_agrees_119 rfl ?_
            refine xw_aald C _ 7 (zap2 rfl (zap2 rfl (zap2 rfl (zap1 (zWb_ar))))) rfl (by omega) (by decide) (if_pos hl) dL_agrees_121 ?_
            refine xi_get C zkX11 5 _ zlL_129 (by decide) (zap2 rfl (zap2 rfl (zap2 rfl (zap1 (zWb_l hl))))) rfl dL_agrees_122 ?_
            refine xi_rwi (y := (if S l0 = true then 1 else 0)) (hS l0 hl) ?_
            cases hb9 : S l0 with
            | false =>
              refine xi_rwi (y := 0) ifF ?_
              refine xi_if_eq C (tgt := 181) dL_agrees_125 rfl (fun c264 => ?_) (fun c264 => False.elim ((fun z : ¬ ((0 : Int32) = 0) => z rfl) c264))
              refine xi_iinc C (v := nI (l0 + 1)) 6 [1, 2, 3, 4, 5, 6, 0] (L2 := [(0, .ref a_o), (1, .ref qw), (2, .ref a_g), (3, .int (nI p)), (4, .int x), (5, .int 0), (6, .int (nI (l0 + 1)))]) dL_agrees_181 rfl (nI_1 l0) (Nat.le_of_ble_eq_true rfl) rfl ?_
              refine xi_goto C (tgt := 106) dL_agrees_184 rfl ?_
              exact ih (l0 + 1) x (by omega) (by omega) (skip (fun z => by rw [hb9] at z; exact nofalse z))
            | true =>
              refine xi_rwi (y := 1) ifT ?_
              refine xi_if_eq C (tgt := 181) dL_agrees_125 rfl (fun c265 => False.elim ((fun z : (1 : Int32) = 0 => one0 z) c265)) (fun c265 => ?_)
              have K : (a l0 = p ∨ b l0 = p) → sW X l (zRA 75 220 2200) D 8 0 0 156 [(0, .ref a_o), (1, .ref qw), (2, .ref a_g), (3, .int (nI p)), (4, .int x), (5, .int 0), (6, .int (nI l0))] [] (W259 ++ (([(q_k, .inl (cT 0, np, .inl kn))] : va_W) ++ (([(q_s, .inl (cT 0, 100, .inl spv))] : va_W) ++ (zWb cT qw q_l q_b q_a q_k q_s (nI np) (nI nl) (nI rounds) (nI calls) bs bg bc nl nb na A_l A_b A_a f0 f1 f2 f3 f4 f5 vb vw ++ (([(a_g, .inl (cT 0, 1, .inl gv))] : va_W) ++ ([])))))) := by
                intro hab9
                refine xi_aload_n C 1 dL_agrees_156 rfl ?_
                refine xi_get C zkX12 4 _ zlL_75 (by decide) (zap2 rfl (zap2 rfl (zap2 rfl (zap1 (zWb_w))))) rfl dL_agrees_157 ?_
                refine xi_iload C 6 dL_agrees_160 rfl ?_
                refine xw_aald C _ 7 (zap2 rfl (zap2 rfl (zap2 rfl (zap1 (zWb_ar))))) rfl (by omega) (by decide) (if_pos hl) dL_agrees_162 ?_
                refine xi_get C zkX11 0 _ zlL_62 (by decide) (zap2 rfl (zap2 rfl (zap2 rfl (zap1 (zWb_l hl))))) rfl dL_agrees_163 ?_
                refine xi_rwi (y := nI (a l0)) e5 ?_
                refine xi_aload_n C 1 dL_agrees_166 rfl ?_
                refine xi_get C zkX12 4 _ zlL_75 (by decide) (zap2 rfl (zap2 rfl (zap2 rfl (zap1 (zWb_w))))) rfl dL_agrees_167 ?_
                refine xi_iload C 6 dL_agrees_170 rfl ?_
                refine xw_aald C _ 7 (zap2 rfl (zap2 rfl (zap2 rfl (zap1 (zWb_ar))))) rfl (by omega) (by decide) (if_pos hl) dL_agrees_172 ?_
                refine xi_get C zkX11 1 _ zlL_65 (by decide) (zap2 rfl (zap2 rfl (zap2 rfl (zap1 (zWb_l hl))))) rfl dL_agrees_173 ?_
                refine xi_rwi (y := nI (b l0)) e6 ?_
                refine xi_iadd C dL_agrees_176 ?_
                refine xi_rwi (y := nI (a l0 + b l0)) (nI_add (a l0) (b l0)) ?_
                refine xi_iload_n C 3 dL_agrees_177 rfl ?_
                refine xi_isub C dL_agrees_178 ?_
                refine xi_rwi (y := nI (a l0 + b l0 - p)) (nsubT (by omega)) ?_
                refine xi_istore C [1, 2, 3, 4, 0, 5, 6] (L2 := [(0, .ref a_o), (1, .ref qw), (2, .ref a_g), (3, .int (nI p)), (4, .int (nI (a l0 + b l0 - p))), (5, .int 0), (6, .int (nI l0))]) dL_agrees_179 (Nat.le_of_ble_eq_true rfl) rfl ?_
                refine xi_iinc C (v := nI (l0 + 1)) 6 [1, 2, 3, 4, 5, 6, 0] (L2 := [(0, .ref a_o), (1, .ref qw), (2, .ref a_g), (3, .int (nI p)), (4, .int (nI (a l0 + b l0 - p))), (5, .int 0), (6, .int (nI (l0 + 1)))]) dL_agrees_181 rfl (nI_1 l0) (Nat.le_of_ble_eq_true rfl) rfl ?_
                refine xi_goto C (tgt := 106) dL_agrees_184 rfl ?_
                exact ih (l0 + 1) _ (by omega) (by omega) (Or.inr ⟨l0, by omega, hb9, (by
                        rcases hab9 with z | z
                        · exact Or.inl ⟨z, by rw [show a l0 + b l0 - p = b l0 by omega]⟩
                        · exact Or.inr ⟨z, by rw [show a l0 + b l0 - p = a l0 by omega]⟩)⟩)
              refine xi_aload_n C 1 dL_agrees_128 rfl ?_
              refine xi_get C zkX12 4 _ zlL_75 (by decide) (zap2 rfl (zap2 rfl (zap2 rfl (zap1 (zWb_w))))) rfl dL_agrees_129 ?_
              refine xi_iload C 6 dL_agrees_132 rfl ?_
              refine xw_aald C _ 7 (zap2 rfl (zap2 rfl (zap2 rfl (zap1 (zWb_ar))))) rfl (by omega) (by decide) (if_pos hl) dL_agrees_134 ?_
              refine xi_get C zkX11 0 _ zlL_62 (by decide) (zap2 rfl (zap2 rfl (zap2 rfl (zap1 (zWb_l hl))))) rfl dL_agrees_135 ?_
              refine xi_rwi (y := nI (a l0)) e5 ?_
              refine xi_iload_n C 3 dL_agrees_138 rfl ?_
              refine xi_icmp_eq C (tgt := 156) dL_agrees_139 rfl (fun c266 => ?_) (fun c266 => ?_)
              · exact K (Or.inl ((nI_eq (by omega) (by omega)).mp c266))
              · refine xi_aload_n C 1 dL_agrees_142 rfl ?_
                refine xi_get C zkX12 4 _ zlL_75 (by decide) (zap2 rfl (zap2 rfl (zap2 rfl (zap1 (zWb_w))))) rfl dL_agrees_143 ?_
                refine xi_iload C 6 dL_agrees_146 rfl ?_
                refine xw_aald C _ 7 (zap2 rfl (zap2 rfl (zap2 rfl (zap1 (zWb_ar))))) rfl (by omega) (by decide) (if_pos hl) dL_agrees_148 ?_
                refine xi_get C zkX11 1 _ zlL_65 (by decide) (zap2 rfl (zap2 rfl (zap2 rfl (zap1 (zWb_l hl))))) rfl dL_agrees_149 ?_
                refine xi_rwi (y := nI (b l0)) e6 ?_
                refine xi_iload_n C 3 dL_agrees_152 rfl ?_
                refine xi_icmp_ne C (tgt := 181) dL_agrees_153 rfl (fun c267 => ?_) (fun c267 => ?_)
                · refine xi_iinc C (v := nI (l0 + 1)) 6 [1, 2, 3, 4, 5, 6, 0] (L2 := [(0, .ref a_o), (1, .ref qw), (2, .ref a_g), (3, .int (nI p)), (4, .int x), (5, .int 0), (6, .int (nI (l0 + 1)))]) dL_agrees_181 rfl (nI_1 l0) (Nat.le_of_ble_eq_true rfl) rfl ?_
                  refine xi_goto C (tgt := 106) dL_agrees_184 rfl ?_
                  exact ih (l0 + 1) x (by omega) (by omega) (skip (fun _ => ⟨fun z => c266 (by rw [z]), fun z => c267 (by rw [z])⟩))
                · exact K (Or.inr ((nI_eq (by omega) (by omega)).mp c267))
      refine L (fun yw hyw => ?_) (nl + 1) 0 (-1) (Nat.zero_le _) (by omega) (Or.inl ⟨rfl, fun l hl => absurd hl (Nat.not_lt_zero l)⟩)
      refine xi_iconst C (v := 0) dL_agrees_187 rfl ?_
      refine xi_istore C [1, 2, 3, 4, 5, 6, 0] (L2 := [(0, .ref a_o), (1, .ref qw), (2, .ref a_g), (3, .int (nI p)), (4, .int yw), (5, .int 0), (6, .int 0)]) dL_agrees_188 (Nat.le_of_ble_eq_true rfl) rfl ?_
      have L2 : (∀ y : Int32, hB np (fun i => (k i).testBit p) y → sW X l (zRA 75 220 2200) D 8 0 0 224 [(0, .ref a_o), (1, .ref qw), (2, .ref a_g), (3, .int (nI p)), (4, .int yw), (5, .int y)] [] (W259 ++ (([(q_k, .inl (cT 0, np, .inl kn))] : va_W) ++ (([(q_s, .inl (cT 0, 100, .inl spv))] : va_W) ++ (zWb cT qw q_l q_b q_a q_k q_s (nI np) (nI nl) (nI rounds) (nI calls) bs bg bc nl nb na A_l A_b A_a f0 f1 f2 f3 f4 f5 vb vw ++ (([(a_g, .inl (cT 0, 1, .inl gv))] : va_W) ++ ([]))))))) → ∀ (d q0 : Nat) (x : Int32), q0 ≤ np → np - q0 < d → hB np (fun i => decide (i < q0) && (k i).testBit p) x → sW X l (zRA 75 220 2200) D 8 0 0 190 [(0, .ref a_o), (1, .ref qw), (2, .ref a_g), (3, .int (nI p)), (4, .int yw), (5, .int x), (6, .int (nI q0))] [] (W259 ++ (([(q_k, .inl (cT 0, np, .inl kn))] : va_W) ++ (([(q_s, .inl (cT 0, 100, .inl spv))] : va_W) ++ (zWb cT qw q_l q_b q_a q_k q_s (nI np) (nI nl) (nI rounds) (nI calls) bs bg bc nl nb na A_l A_b A_a f0 f1 f2 f3 f4 f5 vb vw ++ (([(a_g, .inl (cT 0, 1, .inl gv))] : va_W) ++ ([])))))) := by
        intro kk d
        induction d with
        | zero => intro q0 x h1 h2; omega
        | succ d ih =>
          intro q0 x h1 h2 h3
          refine xi_iload C 6 dL_agrees_190 rfl ?_
          refine xi_aload_n C 1 dL_agrees_192 rfl ?_
          refine xi_get C zkX12 0 _ zlL_39 (by decide) (zap2 rfl (zap2 rfl (zap2 rfl (zap1 (zWb_w))))) rfl dL_agrees_193 ?_
          refine xi_icmp_ge C (tgt := 224) dL_agrees_196 rfl (fun c268 => ?_) (fun c268 => ?_)
          · have e := nll c268 (by omega) (by omega)
            have e2 : np = q0 := by omega
            refine xi_drop (L2 := [(0, .ref a_o), (1, .ref qw), (2, .ref a_g), (3, .int (nI p)), (4, .int yw), (5, .int x)]) [0, 1, 2, 3, 4, 5] rfl ?_
            exact kk x (hB_congr h3 (fun i hi => by rw [decide_eq_true (show i < q0 by omega), Bool.true_and]))
          · have hq := nln c268 (by omega) (by omega)
            refine xi_iload C 5 dL_agrees_199 rfl ?_
            refine xi_aload_n C 1 dL_agrees_201 rfl ?_
            refine xi_get C zkX12 7 _ zlL_98 (by decide) (zap2 rfl (zap2 rfl (zap2 rfl (zap1 (zWb_w))))) rfl dL_agrees_202 ?_
            refine xi_iload C 6 dL_agrees_205 rfl ?_
            refine xw_iald C _ (zap2 rfl (zap1 ((rfl : (([(q_k, .inl (cT 0, np, .inl kn))] : va_W) : va_W)[0]? = some _)))) hq (by omega) dL_agrees_207 ?_
            refine xi_iload_n C 3 dL_agrees_208 rfl ?_
            refine xi_ishr C dL_agrees_209 ?_
            refine xi_iconst C (v := 1) dL_agrees_210 rfl ?_
            refine xi_iand C dL_agrees_211 ?_
            refine xi_rwi (y := (if (k q0).testBit p = true then 1 else 0)) (by rw [(hk q0 hq).2]; exact bitN (Nat.lt_of_lt_of_le (hK_lt hnp hk hq) (by decide)) (by omega)) ?_
            cases hb9 : (k q0).testBit p with
            | false =>
              refine xi_rwi (y := 0) ifF ?_
              refine xi_iload C 6 dL_agrees_212 rfl ?_
              refine xi_ishl C dL_agrees_214 ?_
              refine xi_rwi (y := 0) (shl00 q0 (by omega)) ?_
              refine xi_ior C dL_agrees_215 ?_
              refine xi_rwi (y := x) (orz x) ?_
              refine xi_istore C [1, 2, 3, 4, 5, 0, 6] (L2 := [(0, .ref a_o), (1, .ref qw), (2, .ref a_g), (3, .int (nI p)), (4, .int yw), (5, .int x), (6, .int (nI q0))]) dL_agrees_216 (Nat.le_of_ble_eq_true rfl) rfl ?_
              refine xi_iinc C (v := nI (q0 + 1)) 6 [1, 2, 3, 4, 5, 6, 0] (L2 := [(0, .ref a_o), (1, .ref qw), (2, .ref a_g), (3, .int (nI p)), (4, .int yw), (5, .int x), (6, .int (nI (q0 + 1)))]) dL_agrees_218 rfl (nI_1 q0) (Nat.le_of_ble_eq_true rfl) rfl ?_
              refine xi_goto C (tgt := 190) dL_agrees_221 rfl ?_
              exact ih (q0 + 1) x (by omega) (by omega) (hB_congr h3 (fun i _ => by
                by_cases z : i = q0
                · rw [z, hb9, Bool.and_false, Bool.and_false]
                · rw [decs z]))
            | true =>
              refine xi_rwi (y := 1) ifT ?_
              refine xi_iload C 6 dL_agrees_212 rfl ?_
              refine xi_ishl C dL_agrees_214 ?_
              refine xi_ior C dL_agrees_215 ?_
              refine xi_istore C [1, 2, 3, 4, 5, 0, 6] (L2 := [(0, .ref a_o), (1, .ref qw), (2, .ref a_g), (3, .int (nI p)), (4, .int yw), (5, .int (x ||| ((1 : Int32) <<< ((nI q0) &&& 31)))), (6, .int (nI q0))]) dL_agrees_216 (Nat.le_of_ble_eq_true rfl) rfl ?_
              refine xi_iinc C (v := nI (q0 + 1)) 6 [1, 2, 3, 4, 5, 6, 0] (L2 := [(0, .ref a_o), (1, .ref qw), (2, .ref a_g), (3, .int (nI p)), (4, .int yw), (5, .int (x ||| ((1 : Int32) <<< ((nI q0) &&& 31)))), (6, .int (nI (q0 + 1)))]) dL_agrees_218 rfl (nI_1 q0) (Nat.le_of_ble_eq_true rfl) rfl ?_
              refine xi_goto C (tgt := 190) dL_agrees_221 rfl ?_
              exact ih (q0 + 1) _ (by omega) (by omega) (hB_congr (hB_or1 h3 hq (by omega)) (fun i hi => by
                by_cases z : i = q0
                · rw [z, hb9, decide_eq_true (rfl : q0 = q0), decide_eq_true (show q0 < q0 + 1 by omega), Bool.or_true, Bool.true_and]
                · rw [decs z, decide_eq_false z, Bool.or_false]))
      refine L2 (fun yk hyk => ?_) (np + 1) 0 0 (Nat.zero_le _) (by omega) (fun i hi => by rw [ib_0]; cases decide (i < np) <;> rfl)
      refine xi_aload_n C 0 dL_agrees_224 rfl ?_
      refine xi_iload_n C 3 dL_agrees_225 rfl ?_
      obtain ⟨qr269, fs270, hq271⟩ := OW_at hO261
      refine xi_callEV C (kO_partner l D cT hO261 hp) (([(q_k, .inl (cT 0, np, .inl kn))] : va_W) ++ (([(q_s, .inl (cT 0, 100, .inl spv))] : va_W) ++ (zWb cT qw q_l q_b q_a q_k q_s (nI np) (nI nl) (nI rounds) (nI calls) bs bg bc nl nb na A_l A_b A_a f0 f1 f2 f3 f4 f5 vb vw ++ (([(a_g, .inl (cT 0, 1, .inl gv))] : va_W) ++ ([]))))) (by have h := permX (bs := [W259, ([(q_k, .inl (cT 0, np, .inl kn))] : va_W), ([(q_s, .inl (cT 0, 100, .inl spv))] : va_W), zWb cT qw q_l q_b q_a q_k q_s (nI np) (nI nl) (nI rounds) (nI calls) bs bg bc nl nb na A_l A_b A_a f0 f1 f2 f3 f4 f5 vb vw, ([(a_g, .inl (cT 0, 1, .inl gv))] : va_W)]) (A := [W259]) (B := [([(q_k, .inl (cT 0, np, .inl kn))] : va_W), ([(q_s, .inl (cT 0, 100, .inl spv))] : va_W), zWb cT qw q_l q_b q_a q_k q_s (nI np) (nI nl) (nI rounds) (nI calls) bs bg bc nl nb na A_l A_b A_a f0 f1 f2 f3 f4 f5 vb vw, ([(a_g, .inl (cT 0, 1, .inl gv))] : va_W)]) (n := 5) rfl [0, 1, 2, 3, 4] rfl (by decide) flat1; simp only [List.flatten_cons, List.flatten_nil] at h; exact h) zcX10_partner zmL_224 ziX10_partner (zrE rfl rfl) ⟨Nat.le_of_ble_eq_true rfl, Nat.le_of_ble_eq_true rfl⟩ rfl zkX10.1 (qr := qr269) hq271 rfl (Nat.le_of_ble_eq_true rfl) dL_agrees_226 (fun v272 W273 hv274 _ => ?_)
      obtain ⟨⟨xp, rfl, hxp⟩, hO275⟩ := hv274
      refine xi_eqw (ws2 := W273 ++ (([(q_k, .inl (cT 0, np, .inl kn))] : va_W) ++ (([(q_s, .inl (cT 0, 100, .inl spv))] : va_W) ++ (zWb cT qw q_l q_b q_a q_k q_s (nI np) (nI nl) (nI rounds) (nI calls) bs bg bc nl nb na A_l A_b A_a f0 f1 f2 f3 f4 f5 vb vw ++ (([(a_g, .inl (cT 0, 1, .inl gv))] : va_W) ++ ([])))))) rfl ?_
      refine xi_iload C 4 dL_agrees_229 rfl ?_
      refine xi_rwi (y := xp) (ptn_one hOf.2.2.1 hab hyw hxp) ?_
      refine xi_icmp_ne C (tgt := 244) dL_agrees_231 rfl (fun c276 => False.elim ((fun z => z rfl) c276)) (fun c276 => ?_)
      refine xi_aload_n C 0 dL_agrees_234 rfl ?_
      refine xi_iload_n C 3 dL_agrees_235 rfl ?_
      obtain ⟨qr277, fs278, hq279⟩ := OW_at hO275
      refine xi_callEV C (kO_knowers l D cT hO275 hp) (([(q_k, .inl (cT 0, np, .inl kn))] : va_W) ++ (([(q_s, .inl (cT 0, 100, .inl spv))] : va_W) ++ (zWb cT qw q_l q_b q_a q_k q_s (nI np) (nI nl) (nI rounds) (nI calls) bs bg bc nl nb na A_l A_b A_a f0 f1 f2 f3 f4 f5 vb vw ++ (([(a_g, .inl (cT 0, 1, .inl gv))] : va_W) ++ ([]))))) (by have h := permX (bs := [W273, ([(q_k, .inl (cT 0, np, .inl kn))] : va_W), ([(q_s, .inl (cT 0, 100, .inl spv))] : va_W), zWb cT qw q_l q_b q_a q_k q_s (nI np) (nI nl) (nI rounds) (nI calls) bs bg bc nl nb na A_l A_b A_a f0 f1 f2 f3 f4 f5 vb vw, ([(a_g, .inl (cT 0, 1, .inl gv))] : va_W)]) (A := [W273]) (B := [([(q_k, .inl (cT 0, np, .inl kn))] : va_W), ([(q_s, .inl (cT 0, 100, .inl spv))] : va_W), zWb cT qw q_l q_b q_a q_k q_s (nI np) (nI nl) (nI rounds) (nI calls) bs bg bc nl nb na A_l A_b A_a f0 f1 f2 f3 f4 f5 vb vw, ([(a_g, .inl (cT 0, 1, .inl gv))] : va_W)]) (n := 5) rfl [0, 1, 2, 3, 4] rfl (by decide) flat1; simp only [List.flatten_cons, List.flatten_nil] at h; exact h) zcX10_knowers zmL_227 ziX10_knowers (zrE rfl rfl) ⟨Nat.le_of_ble_eq_true rfl, Nat.le_of_ble_eq_true rfl⟩ rfl zkX10.1 (qr := qr277) hq279 rfl (Nat.le_of_ble_eq_true rfl) dL_agrees_236 (fun v280 W281 hv282 _ => ?_)
      obtain ⟨⟨xk, rfl, hxk⟩, hO283⟩ := hv282
      refine xi_eqw (ws2 := W281 ++ (([(q_k, .inl (cT 0, np, .inl kn))] : va_W) ++ (([(q_s, .inl (cT 0, 100, .inl spv))] : va_W) ++ (zWb cT qw q_l q_b q_a q_k q_s (nI np) (nI nl) (nI rounds) (nI calls) bs bg bc nl nb na A_l A_b A_a f0 f1 f2 f3 f4 f5 vb vw ++ (([(a_g, .inl (cT 0, 1, .inl gv))] : va_W) ++ ([])))))) rfl ?_
      refine xi_iload C 5 dL_agrees_239 rfl ?_
      refine xi_rwi (y := xk) ((hB_is (by omega) hyk).trans (hB_is (by omega) hxk).symm) ?_
      refine xi_icmp_eq C (tgt := 246) dL_agrees_241 rfl (fun c284 => ?_) (fun c284 => False.elim ((fun z => z rfl) c284))
      refine xi_iinc C (v := nI (p + 1)) 3 [1, 2, 3, 0, 4, 5] (L2 := [(0, .ref a_o), (1, .ref qw), (2, .ref a_g), (3, .int (nI (p + 1))), (4, .int yw), (5, .int yk)]) dL_agrees_246 rfl (nI_1 p) (Nat.le_of_ble_eq_true rfl) rfl ?_
      refine xi_goto C (tgt := 73) dL_agrees_249 rfl ?_
      refine xi_drop (L2 := [(0, .ref a_o), (1, .ref qw), (2, .ref a_g), (3, .int (nI (p + 1)))]) [0, 1, 2, 3] rfl ?_
      exact ih (p + 1) _ hO283 (by omega) (by omega)
set_option maxRecDepth 100000 in
set_option maxHeartbeats 4000000 in
theorem kL_agrees (l : Launch) (D : va_G) (cT : Nat → ClassId) {a_o qw a_g : Nat} {np nl : Nat} {a b c : Nat → Nat} {fw : Nat → Bool} {nb : Nat} {wb fb ub : Nat → Nat} {na : Nat} {wa fa ua : Nat → Nat} {cut S : Nat → Bool} {k : Nat → Nat} {rounds calls : Nat} {sp : Nat → Nat} {W : va_W} (hW : SW cT a_o qw a_g np nl a b c fw nb wb fb ub na wa fa ua cut S k rounds calls sp W) (hr : rounds < 95) : sE l yL_agrees (zw yL_agrees cL_agrees 8 (some .boolean)) (zRA 75 220 2200) 220 2200 (some .boolean) D cT [.ref a_o, .ref qw, .ref a_g] W (fun r W2 => r = some (.int 1) ∧ SW cT a_o qw a_g np nl a b c fw nb wb fb ub na wa fa ua cut S k rounds calls sp W2) := by
  obtain ⟨Wo, q_l, q_b, q_a, q_k, q_s, A_l, A_b, A_a, bs, bg, bc, f0, f1, f2, f3, f4, f5, vb, vw, kn, spv, gv, hO, ⟨hE, hc, hS, hb, ha, hk, hsp, hcS⟩, hp⟩ := hW
  have hnp := hE.1
  have hnl := hE.2.1
  refine sE_bool rfl (Nat.le_of_ble_eq_true rfl) ?_
  intro X C hR0
  have hR : ∀ (pc : Nat) (L : List (Nat × Value)) (W1 : va_W), decode cL_agrees pc = .ok (.ireturn, 1) → SW cT a_o qw a_g np nl a b c fw nb wb fb ub na wa fa ua cut S k rounds calls sp W1 → sW X l (zRA 75 220 2200) D 8 220 2200 pc L [.int 1] W1 := fun pc L W1 hd h1 => hR0 pc L 1 W1 hd nb1 ⟨rfl, h1⟩
  refine xi_permL hp ?_
  refine xi_drop (L2 := [(0, .ref a_o), (1, .ref qw), (2, .ref a_g)]) [0, 1, 2] rfl ?_
  obtain ⟨x, hx, hxS⟩ := wArranged hnl hS
  refine xi_aload_n C 0 dL_agrees_0 rfl ?_
  refine xi_iconst C (v := 2) dL_agrees_1 rfl ?_
  obtain ⟨qr285, fs286, hq287⟩ := OW_at hO
  refine xi_callEV C (kO_size2 l D cT hO) (([(q_k, .inl (cT 0, np, .inl kn))] : va_W) ++ (([(q_s, .inl (cT 0, 100, .inl spv))] : va_W) ++ (zWb cT qw q_l q_b q_a q_k q_s (nI np) (nI nl) (nI rounds) (nI calls) bs bg bc nl nb na A_l A_b A_a f0 f1 f2 f3 f4 f5 vb vw ++ (([(a_g, .inl (cT 0, 1, .inl gv))] : va_W) ++ ([]))))) (by have h := permX (bs := [Wo, ([(q_k, .inl (cT 0, np, .inl kn))] : va_W), ([(q_s, .inl (cT 0, 100, .inl spv))] : va_W), zWb cT qw q_l q_b q_a q_k q_s (nI np) (nI nl) (nI rounds) (nI calls) bs bg bc nl nb na A_l A_b A_a f0 f1 f2 f3 f4 f5 vb vw, ([(a_g, .inl (cT 0, 1, .inl gv))] : va_W)]) (A := [Wo]) (B := [([(q_k, .inl (cT 0, np, .inl kn))] : va_W), ([(q_s, .inl (cT 0, 100, .inl spv))] : va_W), zWb cT qw q_l q_b q_a q_k q_s (nI np) (nI nl) (nI rounds) (nI calls) bs bg bc nl nb na A_l A_b A_a f0 f1 f2 f3 f4 f5 vb vw, ([(a_g, .inl (cT 0, 1, .inl gv))] : va_W)]) (n := 5) rfl [0, 1, 2, 3, 4] rfl (by decide) flat1; simp only [List.flatten_cons, List.flatten_nil] at h; exact h) zcX10_size zmL_119 ziX10_size (zrE rfl rfl) ⟨Nat.le_of_ble_eq_true rfl, Nat.le_of_ble_eq_true rfl⟩ rfl zkX10.1 (qr := qr285) hq287 rfl (Nat.le_of_ble_eq_true rfl) dL_agrees_2 (fun v288 W289 hv290 _ => ?_)
  obtain ⟨rfl, hO291⟩ := hv290
  refine xi_eqw (ws2 := W289 ++ (([(q_k, .inl (cT 0, np, .inl kn))] : va_W) ++ (([(q_s, .inl (cT 0, 100, .inl spv))] : va_W) ++ (zWb cT qw q_l q_b q_a q_k q_s (nI np) (nI nl) (nI rounds) (nI calls) bs bg bc nl nb na A_l A_b A_a f0 f1 f2 f3 f4 f5 vb vw ++ (([(a_g, .inl (cT 0, 1, .inl gv))] : va_W) ++ ([])))))) rfl ?_
  refine xi_aload_n C 1 dL_agrees_5 rfl ?_
  refine xi_get C zkX12 2 _ zlL_132 (by decide) (zap2 rfl (zap2 rfl (zap2 rfl (zap1 (zWb_w))))) rfl dL_agrees_6 ?_
  refine xi_icmp_ne C (tgt := 69) dL_agrees_9 rfl (fun c292 => False.elim ((fun z => z rfl) c292)) (fun c292 => ?_)
  refine xi_aload_n C 0 dL_agrees_12 rfl ?_
  refine xi_iconst C (v := 3) dL_agrees_13 rfl ?_
  obtain ⟨qr293, fs294, hq295⟩ := OW_at hO291
  refine xi_callEV C (kO_size3 l D cT hO291) (([(q_k, .inl (cT 0, np, .inl kn))] : va_W) ++ (([(q_s, .inl (cT 0, 100, .inl spv))] : va_W) ++ (zWb cT qw q_l q_b q_a q_k q_s (nI np) (nI nl) (nI rounds) (nI calls) bs bg bc nl nb na A_l A_b A_a f0 f1 f2 f3 f4 f5 vb vw ++ (([(a_g, .inl (cT 0, 1, .inl gv))] : va_W) ++ ([]))))) (by have h := permX (bs := [W289, ([(q_k, .inl (cT 0, np, .inl kn))] : va_W), ([(q_s, .inl (cT 0, 100, .inl spv))] : va_W), zWb cT qw q_l q_b q_a q_k q_s (nI np) (nI nl) (nI rounds) (nI calls) bs bg bc nl nb na A_l A_b A_a f0 f1 f2 f3 f4 f5 vb vw, ([(a_g, .inl (cT 0, 1, .inl gv))] : va_W)]) (A := [W289]) (B := [([(q_k, .inl (cT 0, np, .inl kn))] : va_W), ([(q_s, .inl (cT 0, 100, .inl spv))] : va_W), zWb cT qw q_l q_b q_a q_k q_s (nI np) (nI nl) (nI rounds) (nI calls) bs bg bc nl nb na A_l A_b A_a f0 f1 f2 f3 f4 f5 vb vw, ([(a_g, .inl (cT 0, 1, .inl gv))] : va_W)]) (n := 5) rfl [0, 1, 2, 3, 4] rfl (by decide) flat1; simp only [List.flatten_cons, List.flatten_nil] at h; exact h) zcX10_size zmL_119 ziX10_size (zrE rfl rfl) ⟨Nat.le_of_ble_eq_true rfl, Nat.le_of_ble_eq_true rfl⟩ rfl zkX10.1 (qr := qr293) hq295 rfl (Nat.le_of_ble_eq_true rfl) dL_agrees_14 (fun v296 W297 hv298 _ => ?_)
  obtain ⟨rfl, hO299⟩ := hv298
  refine xi_eqw (ws2 := W297 ++ (([(q_k, .inl (cT 0, np, .inl kn))] : va_W) ++ (([(q_s, .inl (cT 0, 100, .inl spv))] : va_W) ++ (zWb cT qw q_l q_b q_a q_k q_s (nI np) (nI nl) (nI rounds) (nI calls) bs bg bc nl nb na A_l A_b A_a f0 f1 f2 f3 f4 f5 vb vw ++ (([(a_g, .inl (cT 0, 1, .inl gv))] : va_W) ++ ([])))))) rfl ?_
  refine xi_aload_n C 1 dL_agrees_17 rfl ?_
  refine xi_get C zkX12 3 _ zlL_183 (by decide) (zap2 rfl (zap2 rfl (zap2 rfl (zap1 (zWb_w))))) rfl dL_agrees_18 ?_
  refine xi_icmp_ne C (tgt := 69) dL_agrees_21 rfl (fun c300 => False.elim ((fun z => z rfl) c300)) (fun c300 => ?_)
  refine xi_aload_n C 0 dL_agrees_24 rfl ?_
  obtain ⟨qr301, fs302, hq303⟩ := OW_at hO299
  refine xi_callEV C (kO_arranged l D cT hO299) (([(q_k, .inl (cT 0, np, .inl kn))] : va_W) ++ (([(q_s, .inl (cT 0, 100, .inl spv))] : va_W) ++ (zWb cT qw q_l q_b q_a q_k q_s (nI np) (nI nl) (nI rounds) (nI calls) bs bg bc nl nb na A_l A_b A_a f0 f1 f2 f3 f4 f5 vb vw ++ (([(a_g, .inl (cT 0, 1, .inl gv))] : va_W) ++ ([]))))) (by have h := permX (bs := [W297, ([(q_k, .inl (cT 0, np, .inl kn))] : va_W), ([(q_s, .inl (cT 0, 100, .inl spv))] : va_W), zWb cT qw q_l q_b q_a q_k q_s (nI np) (nI nl) (nI rounds) (nI calls) bs bg bc nl nb na A_l A_b A_a f0 f1 f2 f3 f4 f5 vb vw, ([(a_g, .inl (cT 0, 1, .inl gv))] : va_W)]) (A := [W297]) (B := [([(q_k, .inl (cT 0, np, .inl kn))] : va_W), ([(q_s, .inl (cT 0, 100, .inl spv))] : va_W), zWb cT qw q_l q_b q_a q_k q_s (nI np) (nI nl) (nI rounds) (nI calls) bs bg bc nl nb na A_l A_b A_a f0 f1 f2 f3 f4 f5 vb vw, ([(a_g, .inl (cT 0, 1, .inl gv))] : va_W)]) (n := 5) rfl [0, 1, 2, 3, 4] rfl (by decide) flat1; simp only [List.flatten_cons, List.flatten_nil] at h; exact h) zcX10_arranged zmL_212 ziX10_arranged (zrE rfl rfl) ⟨Nat.le_of_ble_eq_true rfl, Nat.le_of_ble_eq_true rfl⟩ rfl zkX10.1 (qr := qr301) hq303 rfl (Nat.le_of_ble_eq_true rfl) dL_agrees_25 (fun v304 W305 hv306 _ => ?_)
  obtain ⟨⟨xa, rfl, hxa⟩, hO307⟩ := hv306
  refine xi_eqw (ws2 := W305 ++ (([(q_k, .inl (cT 0, np, .inl kn))] : va_W) ++ (([(q_s, .inl (cT 0, 100, .inl spv))] : va_W) ++ (zWb cT qw q_l q_b q_a q_k q_s (nI np) (nI nl) (nI rounds) (nI calls) bs bg bc nl nb na A_l A_b A_a f0 f1 f2 f3 f4 f5 vb vw ++ (([(a_g, .inl (cT 0, 1, .inl gv))] : va_W) ++ ([])))))) rfl ?_
  refine xi_aload_n C 1 dL_agrees_28 rfl ?_
  refine xi_callEV C (sE_of_sM (kX12_arranged l D cT qw q_l q_b q_a q_k q_s A_l A_b A_a nl nb na (nI np) (nI nl) (nI rounds) (nI calls) bs bg bc f0 f1 f2 f3 f4 f5 vb vw (by omega) _ hx)) (W305 ++ (([(q_k, .inl (cT 0, np, .inl kn))] : va_W) ++ (([(q_s, .inl (cT 0, 100, .inl spv))] : va_W) ++ (([(a_g, .inl (cT 0, 1, .inl gv))] : va_W) ++ ([]))))) (by have h := permX (bs := [W305, ([(q_k, .inl (cT 0, np, .inl kn))] : va_W), ([(q_s, .inl (cT 0, 100, .inl spv))] : va_W), zWb cT qw q_l q_b q_a q_k q_s (nI np) (nI nl) (nI rounds) (nI calls) bs bg bc nl nb na A_l A_b A_a f0 f1 f2 f3 f4 f5 vb vw, ([(a_g, .inl (cT 0, 1, .inl gv))] : va_W)]) (A := [zWb cT qw q_l q_b q_a q_k q_s (nI np) (nI nl) (nI rounds) (nI calls) bs bg bc nl nb na A_l A_b A_a f0 f1 f2 f3 f4 f5 vb vw]) (B := [W305, ([(q_k, .inl (cT 0, np, .inl kn))] : va_W), ([(q_s, .inl (cT 0, 100, .inl spv))] : va_W), ([(a_g, .inl (cT 0, 1, .inl gv))] : va_W)]) (n := 5) rfl [3, 0, 1, 2, 4] rfl (by decide) flat1; simp only [List.flatten_cons, List.flatten_nil] at h; exact h) zcX12_arranged zmL_143 ziX12_arranged (zrE rfl rfl) ⟨Nat.le_of_ble_eq_true rfl, Nat.le_of_ble_eq_true rfl⟩ rfl zkX12.1 (qr := 0) rfl rfl (Nat.le_of_ble_eq_true rfl) dL_agrees_29 (fun v308 W309 hv310 _ => ?_)
  obtain ⟨rfl, rfl⟩ := hv310
  refine xi_eqw (ws2 := zWb cT qw q_l q_b q_a q_k q_s (nI np) (nI nl) (nI rounds) (nI calls) bs bg bc nl nb na A_l A_b A_a f0 f1 f2 f3 f4 f5 vb vw ++ (W305 ++ (([(q_k, .inl (cT 0, np, .inl kn))] : va_W) ++ (([(q_s, .inl (cT 0, 100, .inl spv))] : va_W) ++ (([(a_g, .inl (cT 0, 1, .inl gv))] : va_W) ++ ([])))))) rfl ?_
  refine xi_rwi (y := xa) ((hB_is (by omega) hxS).trans (hB_is (by omega) hxa).symm) ?_
  refine xi_icmp_ne C (tgt := 69) dL_agrees_32 rfl (fun c311 => False.elim ((fun z => z rfl) c311)) (fun c311 => ?_)
  refine xi_aload_n C 0 dL_agrees_35 rfl ?_
  obtain ⟨qr312, fs313, hq314⟩ := OW_at hO307
  refine xi_callEV C (kO_gain l D cT hO307) (zWb cT qw q_l q_b q_a q_k q_s (nI np) (nI nl) (nI rounds) (nI calls) bs bg bc nl nb na A_l A_b A_a f0 f1 f2 f3 f4 f5 vb vw ++ (([(q_k, .inl (cT 0, np, .inl kn))] : va_W) ++ (([(q_s, .inl (cT 0, 100, .inl spv))] : va_W) ++ (([(a_g, .inl (cT 0, 1, .inl gv))] : va_W) ++ ([]))))) (by have h := permX (bs := [zWb cT qw q_l q_b q_a q_k q_s (nI np) (nI nl) (nI rounds) (nI calls) bs bg bc nl nb na A_l A_b A_a f0 f1 f2 f3 f4 f5 vb vw, W305, ([(q_k, .inl (cT 0, np, .inl kn))] : va_W), ([(q_s, .inl (cT 0, 100, .inl spv))] : va_W), ([(a_g, .inl (cT 0, 1, .inl gv))] : va_W)]) (A := [W305]) (B := [zWb cT qw q_l q_b q_a q_k q_s (nI np) (nI nl) (nI rounds) (nI calls) bs bg bc nl nb na A_l A_b A_a f0 f1 f2 f3 f4 f5 vb vw, ([(q_k, .inl (cT 0, np, .inl kn))] : va_W), ([(q_s, .inl (cT 0, 100, .inl spv))] : va_W), ([(a_g, .inl (cT 0, 1, .inl gv))] : va_W)]) (n := 5) rfl [1, 0, 2, 3, 4] rfl (by decide) flat1; simp only [List.flatten_cons, List.flatten_nil] at h; exact h) zcX10_gain zmL_213 ziX10_gain (zrE rfl rfl) ⟨Nat.le_of_ble_eq_true rfl, Nat.le_of_ble_eq_true rfl⟩ rfl zkX10.1 (qr := qr312) hq314 rfl (Nat.le_of_ble_eq_true rfl) dL_agrees_36 (fun v315 W316 hv317 _ => ?_)
  obtain ⟨rfl, hO318⟩ := hv317
  refine xi_eqw (ws2 := W316 ++ (zWb cT qw q_l q_b q_a q_k q_s (nI np) (nI nl) (nI rounds) (nI calls) bs bg bc nl nb na A_l A_b A_a f0 f1 f2 f3 f4 f5 vb vw ++ (([(q_k, .inl (cT 0, np, .inl kn))] : va_W) ++ (([(q_s, .inl (cT 0, 100, .inl spv))] : va_W) ++ (([(a_g, .inl (cT 0, 1, .inl gv))] : va_W) ++ ([])))))) rfl ?_
  refine xi_aload_n C 1 dL_agrees_39 rfl ?_
  refine xi_aload_n C 1 dL_agrees_40 rfl ?_
  refine xi_callEV C (sE_of_sM (kX12_arranged l D cT qw q_l q_b q_a q_k q_s A_l A_b A_a nl nb na (nI np) (nI nl) (nI rounds) (nI calls) bs bg bc f0 f1 f2 f3 f4 f5 vb vw (by omega) _ hx)) (W316 ++ (([(q_k, .inl (cT 0, np, .inl kn))] : va_W) ++ (([(q_s, .inl (cT 0, 100, .inl spv))] : va_W) ++ (([(a_g, .inl (cT 0, 1, .inl gv))] : va_W) ++ ([]))))) (by have h := permX (bs := [W316, zWb cT qw q_l q_b q_a q_k q_s (nI np) (nI nl) (nI rounds) (nI calls) bs bg bc nl nb na A_l A_b A_a f0 f1 f2 f3 f4 f5 vb vw, ([(q_k, .inl (cT 0, np, .inl kn))] : va_W), ([(q_s, .inl (cT 0, 100, .inl spv))] : va_W), ([(a_g, .inl (cT 0, 1, .inl gv))] : va_W)]) (A := [zWb cT qw q_l q_b q_a q_k q_s (nI np) (nI nl) (nI rounds) (nI calls) bs bg bc nl nb na A_l A_b A_a f0 f1 f2 f3 f4 f5 vb vw]) (B := [W316, ([(q_k, .inl (cT 0, np, .inl kn))] : va_W), ([(q_s, .inl (cT 0, 100, .inl spv))] : va_W), ([(a_g, .inl (cT 0, 1, .inl gv))] : va_W)]) (n := 5) rfl [1, 0, 2, 3, 4] rfl (by decide) flat1; simp only [List.flatten_cons, List.flatten_nil] at h; exact h) zcX12_arranged zmL_143 ziX12_arranged (zrE rfl rfl) ⟨Nat.le_of_ble_eq_true rfl, Nat.le_of_ble_eq_true rfl⟩ rfl zkX12.1 (qr := 0) rfl rfl (Nat.le_of_ble_eq_true rfl) dL_agrees_41 (fun v319 W320 hv321 _ => ?_)
  obtain ⟨rfl, rfl⟩ := hv321
  refine xi_eqw (ws2 := zWb cT qw q_l q_b q_a q_k q_s (nI np) (nI nl) (nI rounds) (nI calls) bs bg bc nl nb na A_l A_b A_a f0 f1 f2 f3 f4 f5 vb vw ++ (W316 ++ (([(q_k, .inl (cT 0, np, .inl kn))] : va_W) ++ (([(q_s, .inl (cT 0, 100, .inl spv))] : va_W) ++ (([(a_g, .inl (cT 0, 1, .inl gv))] : va_W) ++ ([])))))) rfl ?_
  refine xi_aload_n C 1 dL_agrees_44 rfl ?_
  refine xi_get C zkX12 7 _ zlL_98 (by decide) (zap1 (zWb_w)) rfl dL_agrees_45 ?_
  refine xi_callEV C (sE_of_sM (kX12_gainOf l D cT qw q_l q_b q_a q_k q_s q_k A_l A_b A_a nl nb na np (nI np) (nI nl) (nI rounds) (nI calls) bs bg bc f0 f1 f2 f3 f4 f5 vb vw kn x (by omega) _ (wGainOf hE hk hxS))) (W316 ++ (([(q_s, .inl (cT 0, 100, .inl spv))] : va_W) ++ (([(a_g, .inl (cT 0, 1, .inl gv))] : va_W) ++ ([])))) (by have h := permX (bs := [zWb cT qw q_l q_b q_a q_k q_s (nI np) (nI nl) (nI rounds) (nI calls) bs bg bc nl nb na A_l A_b A_a f0 f1 f2 f3 f4 f5 vb vw, W316, ([(q_k, .inl (cT 0, np, .inl kn))] : va_W), ([(q_s, .inl (cT 0, 100, .inl spv))] : va_W), ([(a_g, .inl (cT 0, 1, .inl gv))] : va_W)]) (A := [([(q_k, .inl (cT 0, np, .inl kn))] : va_W), zWb cT qw q_l q_b q_a q_k q_s (nI np) (nI nl) (nI rounds) (nI calls) bs bg bc nl nb na A_l A_b A_a f0 f1 f2 f3 f4 f5 vb vw]) (B := [W316, ([(q_s, .inl (cT 0, 100, .inl spv))] : va_W), ([(a_g, .inl (cT 0, 1, .inl gv))] : va_W)]) (n := 5) rfl [2, 0, 1, 3, 4] rfl (by decide) flatXA; simp only [List.flatten_cons, List.flatten_nil] at h; exact h) zcX12_gainOf zmL_145 ziX12_gainOf (zrE rfl rfl) ⟨Nat.le_of_ble_eq_true rfl, Nat.le_of_ble_eq_true rfl⟩ rfl zkX12.1 (qr := 1) rfl rfl (Nat.le_of_ble_eq_true rfl) dL_agrees_48 (fun v322 W323 hv324 _ => ?_)
  obtain ⟨rfl, rfl⟩ := hv324
  refine xi_eqw (ws2 := ([(q_k, .inl (cT 0, np, .inl kn))] : va_W) ++ (zWb cT qw q_l q_b q_a q_k q_s (nI np) (nI nl) (nI rounds) (nI calls) bs bg bc nl nb na A_l A_b A_a f0 f1 f2 f3 f4 f5 vb vw ++ (W316 ++ (([(q_s, .inl (cT 0, 100, .inl spv))] : va_W) ++ (([(a_g, .inl (cT 0, 1, .inl gv))] : va_W) ++ ([])))))) rfl ?_
  refine xi_icmp_ne C (tgt := 69) dL_agrees_51 rfl (fun c325 => False.elim ((fun z => z rfl) c325)) (fun c325 => ?_)
  refine xi_aload_n C 0 dL_agrees_54 rfl ?_
  obtain ⟨qr326, fs327, hq328⟩ := OW_at hO318
  refine xi_callEV C (kO_missing l D cT hO318) (([(q_k, .inl (cT 0, np, .inl kn))] : va_W) ++ (zWb cT qw q_l q_b q_a q_k q_s (nI np) (nI nl) (nI rounds) (nI calls) bs bg bc nl nb na A_l A_b A_a f0 f1 f2 f3 f4 f5 vb vw ++ (([(q_s, .inl (cT 0, 100, .inl spv))] : va_W) ++ (([(a_g, .inl (cT 0, 1, .inl gv))] : va_W) ++ ([]))))) (by have h := permX (bs := [([(q_k, .inl (cT 0, np, .inl kn))] : va_W), zWb cT qw q_l q_b q_a q_k q_s (nI np) (nI nl) (nI rounds) (nI calls) bs bg bc nl nb na A_l A_b A_a f0 f1 f2 f3 f4 f5 vb vw, W316, ([(q_s, .inl (cT 0, 100, .inl spv))] : va_W), ([(a_g, .inl (cT 0, 1, .inl gv))] : va_W)]) (A := [W316]) (B := [([(q_k, .inl (cT 0, np, .inl kn))] : va_W), zWb cT qw q_l q_b q_a q_k q_s (nI np) (nI nl) (nI rounds) (nI calls) bs bg bc nl nb na A_l A_b A_a f0 f1 f2 f3 f4 f5 vb vw, ([(q_s, .inl (cT 0, 100, .inl spv))] : va_W), ([(a_g, .inl (cT 0, 1, .inl gv))] : va_W)]) (n := 5) rfl [2, 0, 1, 3, 4] rfl (by decide) flat1; simp only [List.flatten_cons, List.flatten_nil] at h; exact h) zcX10_missing zmL_216 ziX10_missing (zrE rfl rfl) ⟨Nat.le_of_ble_eq_true rfl, Nat.le_of_ble_eq_true rfl⟩ rfl zkX10.1 (qr := qr326) hq328 rfl (Nat.le_of_ble_eq_true rfl) dL_agrees_55 (fun v329 W330 hv331 _ => ?_)
  obtain ⟨rfl, hO332⟩ := hv331
  refine xi_eqw (ws2 := W330 ++ (([(q_k, .inl (cT 0, np, .inl kn))] : va_W) ++ (zWb cT qw q_l q_b q_a q_k q_s (nI np) (nI nl) (nI rounds) (nI calls) bs bg bc nl nb na A_l A_b A_a f0 f1 f2 f3 f4 f5 vb vw ++ (([(q_s, .inl (cT 0, 100, .inl spv))] : va_W) ++ (([(a_g, .inl (cT 0, 1, .inl gv))] : va_W) ++ ([])))))) rfl ?_
  refine xi_aload_n C 1 dL_agrees_58 rfl ?_
  refine xi_aload_n C 1 dL_agrees_59 rfl ?_
  refine xi_get C zkX12 7 _ zlL_98 (by decide) (zap2 rfl (zap2 rfl (zap1 (zWb_w)))) rfl dL_agrees_60 ?_
  refine xi_callEV C (sE_of_sM (kX12_missing l D cT qw q_l q_b q_a q_k q_s q_k A_l A_b A_a nl nb na np (nI np) (nI nl) (nI rounds) (nI calls) bs bg bc f0 f1 f2 f3 f4 f5 vb vw kn (by omega) _ (wMissing hnp hk))) (W330 ++ (([(q_s, .inl (cT 0, 100, .inl spv))] : va_W) ++ (([(a_g, .inl (cT 0, 1, .inl gv))] : va_W) ++ ([])))) (by have h := permX (bs := [W330, ([(q_k, .inl (cT 0, np, .inl kn))] : va_W), zWb cT qw q_l q_b q_a q_k q_s (nI np) (nI nl) (nI rounds) (nI calls) bs bg bc nl nb na A_l A_b A_a f0 f1 f2 f3 f4 f5 vb vw, ([(q_s, .inl (cT 0, 100, .inl spv))] : va_W), ([(a_g, .inl (cT 0, 1, .inl gv))] : va_W)]) (A := [([(q_k, .inl (cT 0, np, .inl kn))] : va_W), zWb cT qw q_l q_b q_a q_k q_s (nI np) (nI nl) (nI rounds) (nI calls) bs bg bc nl nb na A_l A_b A_a f0 f1 f2 f3 f4 f5 vb vw]) (B := [W330, ([(q_s, .inl (cT 0, 100, .inl spv))] : va_W), ([(a_g, .inl (cT 0, 1, .inl gv))] : va_W)]) (n := 5) rfl [1, 2, 0, 3, 4] rfl (by decide) flatXA; simp only [List.flatten_cons, List.flatten_nil] at h; exact h) zcX12_missing zmL_219 ziX12_missing (zrE rfl rfl) ⟨Nat.le_of_ble_eq_true rfl, Nat.le_of_ble_eq_true rfl⟩ rfl zkX12.1 (qr := 1) rfl rfl (Nat.le_of_ble_eq_true rfl) dL_agrees_63 (fun v333 W334 hv335 _ => ?_)
  obtain ⟨rfl, rfl⟩ := hv335
  refine xi_eqw (ws2 := ([(q_k, .inl (cT 0, np, .inl kn))] : va_W) ++ (zWb cT qw q_l q_b q_a q_k q_s (nI np) (nI nl) (nI rounds) (nI calls) bs bg bc nl nb na A_l A_b A_a f0 f1 f2 f3 f4 f5 vb vw ++ (W330 ++ (([(q_s, .inl (cT 0, 100, .inl spv))] : va_W) ++ (([(a_g, .inl (cT 0, 1, .inl gv))] : va_W) ++ ([])))))) rfl ?_
  refine xi_icmp_eq C (tgt := 71) dL_agrees_66 rfl (fun c336 => ?_) (fun c336 => False.elim ((fun z => z rfl) c336))
  refine xi_iconst C (v := 0) dL_agrees_71 rfl ?_
  refine xi_istore_n C [1, 2, 3, 0] (L2 := [(0, .ref a_o), (1, .ref qw), (2, .ref a_g), (3, .int 0)]) dL_agrees_72 (Nat.le_of_ble_eq_true rfl) rfl ?_
  refine xi_permL (ws2 := W330 ++ (([(q_k, .inl (cT 0, np, .inl kn))] : va_W) ++ (([(q_s, .inl (cT 0, 100, .inl spv))] : va_W) ++ (zWb cT qw q_l q_b q_a q_k q_s (nI np) (nI nl) (nI rounds) (nI calls) bs bg bc nl nb na A_l A_b A_a f0 f1 f2 f3 f4 f5 vb vw ++ (([(a_g, .inl (cT 0, 1, .inl gv))] : va_W) ++ ([])))))) (by have h := permR (bs := [([(q_k, .inl (cT 0, np, .inl kn))] : va_W), zWb cT qw q_l q_b q_a q_k q_s (nI np) (nI nl) (nI rounds) (nI calls) bs bg bc nl nb na A_l A_b A_a f0 f1 f2 f3 f4 f5 vb vw, W330, ([(q_s, .inl (cT 0, 100, .inl spv))] : va_W), ([(a_g, .inl (cT 0, 1, .inl gv))] : va_W)]) (bs2 := [W330, ([(q_k, .inl (cT 0, np, .inl kn))] : va_W), ([(q_s, .inl (cT 0, 100, .inl spv))] : va_W), zWb cT qw q_l q_b q_a q_k q_s (nI np) (nI nl) (nI rounds) (nI calls) bs bg bc nl nb na A_l A_b A_a f0 f1 f2 f3 f4 f5 vb vw, ([(a_g, .inl (cT 0, 1, .inl gv))] : va_W)]) (n := 5) rfl [2, 0, 3, 1, 4] rfl (by decide); simp only [List.flatten_cons, List.flatten_nil] at h; exact h) ?_
  exact agrees_73 C hr hR hO hE hc hS hb ha hk hsp hcS (np + 1) 0 _ hO332 (Nat.zero_le _) (by omega)
