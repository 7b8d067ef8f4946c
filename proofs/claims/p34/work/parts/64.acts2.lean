set_option maxRecDepth 100000 in
set_option maxHeartbeats 4000000 in
theorem acts_270 {X : sX} {l : Launch} (hls : l.stackTraces = false) {D : va_G} {cT : Nat → ClassId} {a_o qw a_g : Nat} {np nl : Nat} {a b c : Nat → Nat} {fw : Nat → Bool} {nb : Nat} {wb fb ub : Nat → Nat} {na : Nat} {wa fa ua : Nat → Nat} {cut S : Nat → Bool} {k : Nat → Nat} {rounds calls : Nat} {sp : Nat → Nat} {q_l q_b q_a q_k q_s : Nat} {A_l A_b A_a : Nat → Nat} {bs bg bc : Int32} {f0 f1 f2 f3 f4 f5 : Nat → Int32} {vb vw : Nat → Nat → Int32} {kn spv gv : Nat → Int32} {Wo : va_W} (C : sC X (zRA 70 3 30) D cT 8 cL_acts yL_acts.cls) (hr : rounds < 90) (hR : ∀ (pc : Nat) (L : List (Nat × Value)) (W1 : va_W) (cut2 S2 : Nat → Bool) (k2 : Nat → Nat) (rounds2 calls2 : Nat) (sp2 : Nat → Nat), decode cL_acts pc = .ok (.ireturn, 1) → rounds2 ≤ rounds + 1 → SW cT a_o qw a_g np nl a b c fw nb wb fb ub na wa fa ua cut2 S2 k2 rounds2 calls2 sp2 W1 → sW X l (zRA 70 3 30) D 8 3 30 pc L [.int 1] W1) (hO : OW cT a_o np nl a b c fw nb wb fb ub na wa fa ua cut S k rounds calls sp 0 Wo) (hE : hLn np nl a b c fw f0 f1 f2 f3) (hc : hFl nl cut f4) (hS : hFl nl S f5) (hb : hRw nb nl wb fb ub vb) (ha : hRw na np wa fa ua vw) (hk : hK np k kn) (hsp : ∀ i, i ≤ rounds → spv i = nI (sp i)) (hcS : ∀ l, l < nl → cut l = true → S l = false) {q e9 : Nat} (hq : q < nl) (he9 : e9 < 8) : sW X l (zRA 70 3 30) D 8 0 0 270 [(0, .ref a_o), (1, .ref qw), (2, .ref a_g), (3, .int (nI q)), (4, .int (nI e9))] [] (Wo ++ (([(q_k, .inl (cT 0, np, .inl kn))] : va_W) ++ (([(q_s, .inl (cT 0, 100, .inl spv))] : va_W) ++ (zWb cT qw q_l q_b q_a q_k q_s (nI np) (nI nl) (nI rounds) (nI calls) bs bg bc nl nb na A_l A_b A_a f0 f1 f2 f3 f4 f5 vb vw ++ (([(a_g, .inl (cT 0, 1, .inl gv))] : va_W) ++ ([])))))) := by
  have hnp := hE.1
  have hnl := hE.2.1
  have hOf := OW_facts hO
  refine xi_iload_n C 3 dL_acts_270 rfl ?_
  refine xi_if_lt C (tgt := 364) dL_acts_271 rfl (fun c90 => False.elim ((fun z => nI_pos (by omega) z) c90)) (fun c90 => ?_)
  refine xi_iload C 4 dL_acts_274 rfl ?_
  refine xi_iconst C (v := 3) dL_acts_276 rfl ?_
  refine xi_rwi (y := nI 3) rfl ?_
  refine xi_icmp_ne C (tgt := 364) dL_acts_277 rfl (fun c91 => ?_) (fun c91 => ?_)
  · exact acts_364 hls C hr hR hO hE hc hS hb ha hk hsp hcS hq he9
  · refine xi_aload_n C 2 dL_acts_280 rfl ?_
    refine xi_iconst C (v := 2) dL_acts_281 rfl ?_
    refine xi_rwi (y := nI 2) rfl ?_
    refine xi_callES C (kL_draw l D cT a_g gv (m := 2) (by decide) (by decide)) (Wo ++ (([(q_k, .inl (cT 0, np, .inl kn))] : va_W) ++ (([(q_s, .inl (cT 0, 100, .inl spv))] : va_W) ++ (zWb cT qw q_l q_b q_a q_k q_s (nI np) (nI nl) (nI rounds) (nI calls) bs bg bc nl nb na A_l A_b A_a f0 f1 f2 f3 f4 f5 vb vw ++ ([]))))) (by have h := permX (bs := [Wo, ([(q_k, .inl (cT 0, np, .inl kn))] : va_W), ([(q_s, .inl (cT 0, 100, .inl spv))] : va_W), zWb cT qw q_l q_b q_a q_k q_s (nI np) (nI nl) (nI rounds) (nI calls) bs bg bc nl nb na A_l A_b A_a f0 f1 f2 f3 f4 f5 vb vw, ([(a_g, .inl (cT 0, 1, .inl gv))] : va_W)]) (A := [([(a_g, .inl (cT 0, 1, .inl gv))] : va_W)]) (B := [Wo, ([(q_k, .inl (cT 0, np, .inl kn))] : va_W), ([(q_s, .inl (cT 0, 100, .inl spv))] : va_W), zWb cT qw q_l q_b q_a q_k q_s (nI np) (nI nl) (nI rounds) (nI calls) bs bg bc nl nb na A_l A_b A_a f0 f1 f2 f3 f4 f5 vb vw]) (n := 5) rfl [4, 0, 1, 2, 3] rfl (by decide) flat1; simp only [List.flatten_cons, List.flatten_nil] at h; exact h) zcL_draw zmL_35 zsL_draw (zrE rfl rfl) ⟨Nat.le_of_ble_eq_true rfl, Nat.le_of_ble_eq_true rfl⟩ rfl rfl (Nat.le_of_ble_eq_true rfl) dL_acts_282 (fun v95 W96 hv97 _ => ?_)
    obtain ⟨d92, gv93, hd94, rfl, rfl⟩ := hv97
    refine xi_eqw (ws2 := ([(a_g, .inl (cT 0, 1, .inl gv93))] : va_W) ++ (Wo ++ (([(q_k, .inl (cT 0, np, .inl kn))] : va_W) ++ (([(q_s, .inl (cT 0, 100, .inl spv))] : va_W) ++ (zWb cT qw q_l q_b q_a q_k q_s (nI np) (nI nl) (nI rounds) (nI calls) bs bg bc nl nb na A_l A_b A_a f0 f1 f2 f3 f4 f5 vb vw ++ ([])))))) rfl ?_
    refine xi_if_ne C (tgt := 364) dL_acts_285 rfl (fun c98 => ?_) (fun c98 => ?_)
    · refine xi_permL (ws2 := Wo ++ (([(q_k, .inl (cT 0, np, .inl kn))] : va_W) ++ (([(q_s, .inl (cT 0, 100, .inl spv))] : va_W) ++ (zWb cT qw q_l q_b q_a q_k q_s (nI np) (nI nl) (nI rounds) (nI calls) bs bg bc nl nb na A_l A_b A_a f0 f1 f2 f3 f4 f5 vb vw ++ (([(a_g, .inl (cT 0, 1, .inl gv93))] : va_W) ++ ([])))))) (by have h := permR (bs := [([(a_g, .inl (cT 0, 1, .inl gv93))] : va_W), Wo, ([(q_k, .inl (cT 0, np, .inl kn))] : va_W), ([(q_s, .inl (cT 0, 100, .inl spv))] : va_W), zWb cT qw q_l q_b q_a q_k q_s (nI np) (nI nl) (nI rounds) (nI calls) bs bg bc nl nb na A_l A_b A_a f0 f1 f2 f3 f4 f5 vb vw]) (bs2 := [Wo, ([(q_k, .inl (cT 0, np, .inl kn))] : va_W), ([(q_s, .inl (cT 0, 100, .inl spv))] : va_W), zWb cT qw q_l q_b q_a q_k q_s (nI np) (nI nl) (nI rounds) (nI calls) bs bg bc nl nb na A_l A_b A_a f0 f1 f2 f3 f4 f5 vb vw, ([(a_g, .inl (cT 0, 1, .inl gv93))] : va_W)]) (n := 5) rfl [1, 2, 3, 4, 0] rfl (by decide); simp only [List.flatten_cons, List.flatten_nil] at h; exact h) ?_
      exact acts_364 hls C hr hR hO hE hc hS hb ha hk hsp hcS hq he9
    · refine xi_aload_n C 1 dL_acts_288 rfl ?_
      refine xi_get C zkX12 4 _ zlL_75 (by decide) (zap2 rfl (zap2 rfl (zap2 rfl (zap2 rfl (zap1 (zWb_w)))))) rfl dL_acts_289 ?_
      refine xi_iload_n C 3 dL_acts_292 rfl ?_
      refine xw_aald C _ 7 (zap2 rfl (zap2 rfl (zap2 rfl (zap2 rfl (zap1 (zWb_ar)))))) rfl (by omega) (by decide) (if_pos hq) dL_acts_293 ?_
      refine xi_get C zkX11 5 _ zlL_129 (by decide) (zap2 rfl (zap2 rfl (zap2 rfl (zap2 rfl (zap1 (zWb_l hq)))))) rfl dL_acts_294 ?_
      refine xi_rwi (y := (if S q = true then 1 else 0)) (hS q hq) ?_
      refine xi_istore C [1, 2, 3, 4, 5, 0] (L2 := [(0, .ref a_o), (1, .ref qw), (2, .ref a_g), (3, .int (nI q)), (4, .int (nI e9)), (5, .int (if S q = true then 1 else 0))]) dL_acts_297 (Nat.le_of_ble_eq_true rfl) rfl ?_
      refine xi_aload_n C 1 dL_acts_299 rfl ?_
      refine xi_get C zkX12 4 _ zlL_75 (by decide) (zap2 rfl (zap2 rfl (zap2 rfl (zap2 rfl (zap1 (zWb_w)))))) rfl dL_acts_300 ?_
      refine xi_iload_n C 3 dL_acts_303 rfl ?_
      refine xw_aald C _ 7 (zap2 rfl (zap2 rfl (zap2 rfl (zap2 rfl (zap1 (zWb_ar)))))) rfl (by omega) (by decide) (if_pos hq) dL_acts_304 ?_
      refine xi_get C zkX11 4 _ zlL_152 (by decide) (zap2 rfl (zap2 rfl (zap2 rfl (zap2 rfl (zap1 (zWb_l hq)))))) rfl dL_acts_305 ?_
      refine xi_rwi (y := (if cut q = true then 1 else 0)) (hc q hq) ?_
      have K : ∀ d9 : Int32, d9 = (if cut q = true then -3 else if S q = true then 1 else 0) → sW X l (zRA 70 3 30) D 8 0 0 326 [(0, .ref a_o), (1, .ref qw), (2, .ref a_g), (3, .int (nI q)), (4, .int (nI e9)), (5, .int (if S q = true then 1 else 0))] [.int d9] (([(a_g, .inl (cT 0, 1, .inl gv93))] : va_W) ++ (Wo ++ (([(q_k, .inl (cT 0, np, .inl kn))] : va_W) ++ (([(q_s, .inl (cT 0, 100, .inl spv))] : va_W) ++ (zWb cT qw q_l q_b q_a q_k q_s (nI np) (nI nl) (nI rounds) (nI calls) bs bg bc nl nb na A_l A_b A_a f0 f1 f2 f3 f4 f5 vb vw ++ ([])))))) := by
        intro d9 hd9
        refine xi_istore C [1, 2, 3, 4, 5, 6, 0] (L2 := [(0, .ref a_o), (1, .ref qw), (2, .ref a_g), (3, .int (nI q)), (4, .int (nI e9)), (5, .int (if S q = true then 1 else 0)), (6, .int d9)]) dL_acts_326 (Nat.le_of_ble_eq_true rfl) rfl ?_
        refine xi_aload_n C 1 dL_acts_328 rfl ?_
        refine xi_get C zkX12 4 _ zlL_75 (by decide) (zap2 rfl (zap2 rfl (zap2 rfl (zap2 rfl (zap1 (zWb_w)))))) rfl dL_acts_329 ?_
        refine xi_iload_n C 3 dL_acts_332 rfl ?_
        refine xw_aald C _ 7 (zap2 rfl (zap2 rfl (zap2 rfl (zap2 rfl (zap1 (zWb_ar)))))) rfl (by omega) (by decide) (if_pos hq) dL_acts_333 ?_
        refine xi_iconst C (v := 1) dL_acts_334 rfl ?_
        refine xi_put C zkX11 4 _ zlL_152 (by decide) (zap2 rfl (zap2 rfl (zap2 rfl (zap2 rfl (zap1 (zWb_l hq)))))) rfl rfl rfl (Nat.le_of_ble_eq_true rfl) dL_acts_335 (ws2 := ([(a_g, .inl (cT 0, 1, .inl gv93))] : va_W) ++ (Wo ++ (([(q_k, .inl (cT 0, np, .inl kn))] : va_W) ++ (([(q_s, .inl (cT 0, 100, .inl spv))] : va_W) ++ (zWb cT qw q_l q_b q_a q_k q_s (nI np) (nI nl) (nI rounds) (nI calls) bs bg bc nl nb na A_l A_b A_a f0 f1 f2 f3 (upd f4 q 1) f5 vb vw ++ ([])))))) (zse2 rfl (zse2 rfl (zse2 rfl (zse2 rfl (zse1 (zWb_ll hq) (zWb_s4 hq)))))) ?_
        refine xi_aload_n C 1 dL_acts_338 rfl ?_
        refine xi_get C zkX12 4 _ zlL_75 (by decide) (zap2 rfl (zap2 rfl (zap2 rfl (zap2 rfl (zap1 (zWb_w)))))) rfl dL_acts_339 ?_
        refine xi_iload_n C 3 dL_acts_342 rfl ?_
        refine xw_aald C _ 7 (zap2 rfl (zap2 rfl (zap2 rfl (zap2 rfl (zap1 (zWb_ar)))))) rfl (by omega) (by decide) (if_pos hq) dL_acts_343 ?_
        refine xi_iconst C (v := 0) dL_acts_344 rfl ?_
        refine xi_put C zkX11 5 _ zlL_129 (by decide) (zap2 rfl (zap2 rfl (zap2 rfl (zap2 rfl (zap1 (zWb_l hq)))))) rfl rfl rfl (Nat.le_of_ble_eq_true rfl) dL_acts_345 (ws2 := ([(a_g, .inl (cT 0, 1, .inl gv93))] : va_W) ++ (Wo ++ (([(q_k, .inl (cT 0, np, .inl kn))] : va_W) ++ (([(q_s, .inl (cT 0, 100, .inl spv))] : va_W) ++ (zWb cT qw q_l q_b q_a q_k q_s (nI np) (nI nl) (nI rounds) (nI calls) bs bg bc nl nb na A_l A_b A_a f0 f1 f2 f3 (upd f4 q 1) (upd f5 q 0) vb vw ++ ([])))))) (zse2 rfl (zse2 rfl (zse2 rfl (zse2 rfl (zse1 (zWb_ll hq) (zWb_s5 hq)))))) ?_
        refine xi_aload_n C 0 dL_acts_348 rfl ?_
        refine xi_iload_n C 3 dL_acts_349 rfl ?_
        have hS2 := hFl_del (i := q) hS
        have hc2 := hFl_add (i := q) hc
        cases hb9 : cut q with
        | false =>
          refine xi_callEH C (kL_cuts l D cT hO hq hb9) (([(a_g, .inl (cT 0, 1, .inl gv93))] : va_W) ++ (([(q_k, .inl (cT 0, np, .inl kn))] : va_W) ++ (([(q_s, .inl (cT 0, 100, .inl spv))] : va_W) ++ (zWb cT qw q_l q_b q_a q_k q_s (nI np) (nI nl) (nI rounds) (nI calls) bs bg bc nl nb na A_l A_b A_a f0 f1 f2 f3 (upd f4 q 1) (upd f5 q 0) vb vw ++ ([]))))) (by have h := permX (bs := [([(a_g, .inl (cT 0, 1, .inl gv93))] : va_W), Wo, ([(q_k, .inl (cT 0, np, .inl kn))] : va_W), ([(q_s, .inl (cT 0, 100, .inl spv))] : va_W), zWb cT qw q_l q_b q_a q_k q_s (nI np) (nI nl) (nI rounds) (nI calls) bs bg bc nl nb na A_l A_b A_a f0 f1 f2 f3 (upd f4 q 1) (upd f5 q 0) vb vw]) (A := [Wo]) (B := [([(a_g, .inl (cT 0, 1, .inl gv93))] : va_W), ([(q_k, .inl (cT 0, np, .inl kn))] : va_W), ([(q_s, .inl (cT 0, 100, .inl spv))] : va_W), zWb cT qw q_l q_b q_a q_k q_s (nI np) (nI nl) (nI rounds) (nI calls) bs bg bc nl nb na A_l A_b A_a f0 f1 f2 f3 (upd f4 q 1) (upd f5 q 0) vb vw]) (n := 5) rfl [1, 0, 2, 3, 4] rfl (by decide) flat1; simp only [List.flatten_cons, List.flatten_nil] at h; exact h) zcL_cuts zmL_155L zshL_cuts (zrE rfl rfl) ⟨Nat.le_of_ble_eq_true rfl, Nat.le_of_ble_eq_true rfl⟩ rfl rfl (Nat.le_of_ble_eq_true rfl) dL_acts_350 (fun v99 W100 hv101 _ => ?_)
          obtain ⟨rfl, hO102⟩ := hv101
          refine xi_eqw (ws2 := W100 ++ (([(a_g, .inl (cT 0, 1, .inl gv93))] : va_W) ++ (([(q_k, .inl (cT 0, np, .inl kn))] : va_W) ++ (([(q_s, .inl (cT 0, 100, .inl spv))] : va_W) ++ (zWb cT qw q_l q_b q_a q_k q_s (nI np) (nI nl) (nI rounds) (nI calls) bs bg bc nl nb na A_l A_b A_a f0 f1 f2 f3 (upd f4 q 1) (upd f5 q 0) vb vw ++ ([])))))) rfl ?_
          refine xi_iload C 6 dL_acts_353 rfl ?_
          rw [hb9, ifF] at hd9
          refine xi_rwi (y := (if S q = true then 1 else 0)) hd9 ?_
          refine xi_icmp_ne C (tgt := 362) dL_acts_355 rfl (fun c103 => False.elim ((fun z => z rfl) c103)) (fun c103 => ?_)
          refine xi_iconst C (v := 1) dL_acts_358 rfl ?_
          refine xi_goto C (tgt := 363) dL_acts_359 rfl ?_
          refine xi_permL (ws2 := W100 ++ (([(q_k, .inl (cT 0, np, .inl kn))] : va_W) ++ (([(q_s, .inl (cT 0, 100, .inl spv))] : va_W) ++ (zWb cT qw q_l q_b q_a q_k q_s (nI np) (nI nl) (nI rounds) (nI calls) bs bg bc nl nb na A_l A_b A_a f0 f1 f2 f3 (upd f4 q 1) (upd f5 q 0) vb vw ++ (([(a_g, .inl (cT 0, 1, .inl gv93))] : va_W) ++ ([])))))) (by have h := permR (bs := [W100, ([(a_g, .inl (cT 0, 1, .inl gv93))] : va_W), ([(q_k, .inl (cT 0, np, .inl kn))] : va_W), ([(q_s, .inl (cT 0, 100, .inl spv))] : va_W), zWb cT qw q_l q_b q_a q_k q_s (nI np) (nI nl) (nI rounds) (nI calls) bs bg bc nl nb na A_l A_b A_a f0 f1 f2 f3 (upd f4 q 1) (upd f5 q 0) vb vw]) (bs2 := [W100, ([(q_k, .inl (cT 0, np, .inl kn))] : va_W), ([(q_s, .inl (cT 0, 100, .inl spv))] : va_W), zWb cT qw q_l q_b q_a q_k q_s (nI np) (nI nl) (nI rounds) (nI calls) bs bg bc nl nb na A_l A_b A_a f0 f1 f2 f3 (upd f4 q 1) (upd f5 q 0) vb vw, ([(a_g, .inl (cT 0, 1, .inl gv93))] : va_W)]) (n := 5) rfl [0, 2, 3, 4, 1] rfl (by decide); simp only [List.flatten_cons, List.flatten_nil] at h; exact h) ?_
          refine xi_wide (k2 := 3) (n2 := 30) (by decide) (by decide) ?_
          exact hR _ _ _ (sadd cut q) (sdel S q) k rounds calls sp dL_acts_363 (by omega) ⟨W100, q_l, q_b, q_a, q_k, q_s, A_l, A_b, A_a, bs, bg, bc, f0, f1, f2, f3, (upd f4 q 1), (upd f5 q 0), vb, vw, kn, spv, gv93, hO102, ⟨hE, hc2, hS2, hb, ha, hk, hsp, (fun l hl z => by
              by_cases e : l = q
              · rw [e, sdel_eq]
              · rw [sadd_ne e] at z; rw [sdel_ne e]; exact hcS l hl z)⟩, List.Perm.refl _⟩
        | true =>
          refine xi_callEH C (kL_cuts_E l hls D cT hO hq hb9) (([(a_g, .inl (cT 0, 1, .inl gv93))] : va_W) ++ (([(q_k, .inl (cT 0, np, .inl kn))] : va_W) ++ (([(q_s, .inl (cT 0, 100, .inl spv))] : va_W) ++ (zWb cT qw q_l q_b q_a q_k q_s (nI np) (nI nl) (nI rounds) (nI calls) bs bg bc nl nb na A_l A_b A_a f0 f1 f2 f3 (upd f4 q 1) (upd f5 q 0) vb vw ++ ([]))))) (by have h := permX (bs := [([(a_g, .inl (cT 0, 1, .inl gv93))] : va_W), Wo, ([(q_k, .inl (cT 0, np, .inl kn))] : va_W), ([(q_s, .inl (cT 0, 100, .inl spv))] : va_W), zWb cT qw q_l q_b q_a q_k q_s (nI np) (nI nl) (nI rounds) (nI calls) bs bg bc nl nb na A_l A_b A_a f0 f1 f2 f3 (upd f4 q 1) (upd f5 q 0) vb vw]) (A := [Wo]) (B := [([(a_g, .inl (cT 0, 1, .inl gv93))] : va_W), ([(q_k, .inl (cT 0, np, .inl kn))] : va_W), ([(q_s, .inl (cT 0, 100, .inl spv))] : va_W), zWb cT qw q_l q_b q_a q_k q_s (nI np) (nI nl) (nI rounds) (nI calls) bs bg bc nl nb na A_l A_b A_a f0 f1 f2 f3 (upd f4 q 1) (upd f5 q 0) vb vw]) (n := 5) rfl [1, 0, 2, 3, 4] rfl (by decide) flat1; simp only [List.flatten_cons, List.flatten_nil] at h; exact h) zcL_cuts zmL_155L zshL_cuts (zrA rfl rfl) ⟨Nat.le_of_ble_eq_true rfl, Nat.le_of_ble_eq_true rfl⟩ rfl rfl (Nat.le_of_ble_eq_true rfl) dL_acts_350 (fun v104 W105 hv106 _ => ?_)
          obtain ⟨rfl, hO107⟩ := hv106
          refine xi_eqw (ws2 := W105 ++ (([(a_g, .inl (cT 0, 1, .inl gv93))] : va_W) ++ (([(q_k, .inl (cT 0, np, .inl kn))] : va_W) ++ (([(q_s, .inl (cT 0, 100, .inl spv))] : va_W) ++ (zWb cT qw q_l q_b q_a q_k q_s (nI np) (nI nl) (nI rounds) (nI calls) bs bg bc nl nb na A_l A_b A_a f0 f1 f2 f3 (upd f4 q 1) (upd f5 q 0) vb vw ++ ([])))))) rfl ?_
          refine xi_iload C 6 dL_acts_353 rfl ?_
          rw [hb9, ifT] at hd9
          refine xi_rwi (y := (-3)) hd9 ?_
          refine xi_icmp_ne C (tgt := 362) dL_acts_355 rfl (fun c108 => False.elim ((fun z => z rfl) c108)) (fun c108 => ?_)
          refine xi_iconst C (v := 1) dL_acts_358 rfl ?_
          refine xi_goto C (tgt := 363) dL_acts_359 rfl ?_
          have hc3 : hFl nl cut (upd f4 q 1) := fun i hi => by
            by_cases e : i = q
            · rw [e, pk_us, hb9]; rfl
            · rw [pk_un e]
              exact hc i hi
          have hsq := hcS q hq hb9
          have hS3 : hFl nl S (upd f5 q 0) := fun i hi => by
            by_cases e : i = q
            · rw [e, pk_us, hsq]; rfl
            · rw [pk_un e]
              exact hS i hi
          refine xi_permL (ws2 := W105 ++ (([(q_k, .inl (cT 0, np, .inl kn))] : va_W) ++ (([(q_s, .inl (cT 0, 100, .inl spv))] : va_W) ++ (zWb cT qw q_l q_b q_a q_k q_s (nI np) (nI nl) (nI rounds) (nI calls) bs bg bc nl nb na A_l A_b A_a f0 f1 f2 f3 (upd f4 q 1) (upd f5 q 0) vb vw ++ (([(a_g, .inl (cT 0, 1, .inl gv93))] : va_W) ++ ([])))))) (by have h := permR (bs := [W105, ([(a_g, .inl (cT 0, 1, .inl gv93))] : va_W), ([(q_k, .inl (cT 0, np, .inl kn))] : va_W), ([(q_s, .inl (cT 0, 100, .inl spv))] : va_W), zWb cT qw q_l q_b q_a q_k q_s (nI np) (nI nl) (nI rounds) (nI calls) bs bg bc nl nb na A_l A_b A_a f0 f1 f2 f3 (upd f4 q 1) (upd f5 q 0) vb vw]) (bs2 := [W105, ([(q_k, .inl (cT 0, np, .inl kn))] : va_W), ([(q_s, .inl (cT 0, 100, .inl spv))] : va_W), zWb cT qw q_l q_b q_a q_k q_s (nI np) (nI nl) (nI rounds) (nI calls) bs bg bc nl nb na A_l A_b A_a f0 f1 f2 f3 (upd f4 q 1) (upd f5 q 0) vb vw, ([(a_g, .inl (cT 0, 1, .inl gv93))] : va_W)]) (n := 5) rfl [0, 2, 3, 4, 1] rfl (by decide); simp only [List.flatten_cons, List.flatten_nil] at h; exact h) ?_
          refine xi_wide (k2 := 3) (n2 := 30) (by decide) (by decide) ?_
          exact hR _ _ _ cut S k rounds calls sp dL_acts_363 (by omega) ⟨W105, q_l, q_b, q_a, q_k, q_s, A_l, A_b, A_a, bs, bg, bc, f0, f1, f2, f3, (upd f4 q 1), (upd f5 q 0), vb, vw, kn, spv, gv93, hO107, ⟨hE, hc3, hS3, hb, ha, hk, hsp, hcS⟩, List.Perm.refl _⟩
      cases hb9 : cut q with
      | true =>
        refine xi_rwi (y := 1) ifT ?_
        refine xi_if_eq C (tgt := 316) dL_acts_308 rfl (fun c109 => False.elim ((fun z : (1 : Int32) = 0 => one0 z) c109)) (fun c109 => ?_)
        refine xi_bipush C (v := (-3)) dL_acts_311 rfl ?_
        refine xi_goto C (tgt := 326) dL_acts_313 rfl ?_
        exact K _ (by rw [hb9]; rfl)
      | false =>
        refine xi_rwi (y := 0) ifF ?_
        refine xi_if_eq C (tgt := 316) dL_acts_308 rfl (fun c110 => ?_) (fun c110 => False.elim ((fun z : ¬ ((0 : Int32) = 0) => z rfl) c110))
        refine xi_iload C 5 dL_acts_316 rfl ?_
        cases hs9 : S q with
        | true =>
          refine xi_rwi (y := 1) ifT ?_
          refine xi_if_eq C (tgt := 325) dL_acts_318 rfl (fun c111 => False.elim ((fun z : (1 : Int32) = 0 => one0 z) c111)) (fun c111 => ?_)
          refine xi_iconst C (v := 1) dL_acts_321 rfl ?_
          refine xi_goto C (tgt := 326) dL_acts_322 rfl ?_
          have K1 := K 1 (by rw [hb9, hs9]; rfl)
          rw [hs9] at K1
          exact K1
        | false =>
          refine xi_rwi (y := 0) ifF ?_
          refine xi_if_eq C (tgt := 325) dL_acts_318 rfl (fun c112 => ?_) (fun c112 => False.elim ((fun z : ¬ ((0 : Int32) = 0) => z rfl) c112))
          refine xi_iconst C (v := 0) dL_acts_325 rfl ?_
          have K1 := K 0 (by rw [hb9, hs9]; rfl)
          rw [hs9] at K1
          exact K1
set_option maxRecDepth 100000 in
set_option maxHeartbeats 4000000 in
theorem acts_203 {X : sX} {l : Launch} (hls : l.stackTraces = false) {D : va_G} {cT : Nat → ClassId} {a_o qw a_g : Nat} {np nl : Nat} {a b c : Nat → Nat} {fw : Nat → Bool} {nb : Nat} {wb fb ub : Nat → Nat} {na : Nat} {wa fa ua : Nat → Nat} {cut S : Nat → Bool} {k : Nat → Nat} {rounds calls : Nat} {sp : Nat → Nat} {q_l q_b q_a q_k q_s : Nat} {A_l A_b A_a : Nat → Nat} {bs bg bc : Int32} {f0 f1 f2 f3 f4 f5 : Nat → Int32} {vb vw : Nat → Nat → Int32} {kn spv gv : Nat → Int32} {Wo : va_W} (C : sC X (zRA 70 3 30) D cT 8 cL_acts yL_acts.cls) (hr : rounds < 90) (hR : ∀ (pc : Nat) (L : List (Nat × Value)) (W1 : va_W) (cut2 S2 : Nat → Bool) (k2 : Nat → Nat) (rounds2 calls2 : Nat) (sp2 : Nat → Nat), decode cL_acts pc = .ok (.ireturn, 1) → rounds2 ≤ rounds + 1 → SW cT a_o qw a_g np nl a b c fw nb wb fb ub na wa fa ua cut2 S2 k2 rounds2 calls2 sp2 W1 → sW X l (zRA 70 3 30) D 8 3 30 pc L [.int 1] W1) (hO : OW cT a_o np nl a b c fw nb wb fb ub na wa fa ua cut S k rounds calls sp 0 Wo) (hE : hLn np nl a b c fw f0 f1 f2 f3) (hc : hFl nl cut f4) (hS : hFl nl S f5) (hb : hRw nb nl wb fb ub vb) (ha : hRw na np wa fa ua vw) (hk : hK np k kn) (hsp : ∀ i, i ≤ rounds → spv i = nI (sp i)) (hcS : ∀ l, l < nl → cut l = true → S l = false) {q e9 : Nat} (hq : q < nl) (he9 : e9 < 8) : sW X l (zRA 70 3 30) D 8 0 0 203 [(0, .ref a_o), (1, .ref qw), (2, .ref a_g), (3, .int (nI q)), (4, .int (nI e9))] [] (Wo ++ (([(q_k, .inl (cT 0, np, .inl kn))] : va_W) ++ (([(q_s, .inl (cT 0, 100, .inl spv))] : va_W) ++ (zWb cT qw q_l q_b q_a q_k q_s (nI np) (nI nl) (nI rounds) (nI calls) bs bg bc nl nb na A_l A_b A_a f0 f1 f2 f3 f4 f5 vb vw ++ (([(a_g, .inl (cT 0, 1, .inl gv))] : va_W) ++ ([])))))) := by
  have hnp := hE.1
  have hnl := hE.2.1
  have hOf := OW_facts hO
  refine xi_iload_n C 3 dL_acts_203 rfl ?_
  refine xi_if_lt C (tgt := 270) dL_acts_204 rfl (fun c113 => False.elim ((fun z => nI_pos (by omega) z) c113)) (fun c113 => ?_)
  refine xi_iload C 4 dL_acts_207 rfl ?_
  refine xi_iconst C (v := 2) dL_acts_209 rfl ?_
  refine xi_rwi (y := nI 2) rfl ?_
  refine xi_icmp_ne C (tgt := 270) dL_acts_210 rfl (fun c114 => ?_) (fun c114 => ?_)
  · exact acts_270 hls C hr hR hO hE hc hS hb ha hk hsp hcS hq he9
  · refine xi_aload_n C 1 dL_acts_213 rfl ?_
    refine xi_get C zkX12 4 _ zlL_75 (by decide) (zap2 rfl (zap2 rfl (zap2 rfl (zap1 (zWb_w))))) rfl dL_acts_214 ?_
    refine xi_iload_n C 3 dL_acts_217 rfl ?_
    refine xw_aald C _ 7 (zap2 rfl (zap2 rfl (zap2 rfl (zap1 (zWb_ar))))) rfl (by omega) (by decide) (if_pos hq) dL_acts_218 ?_
    refine xi_get C zkX11 5 _ zlL_129 (by decide) (zap2 rfl (zap2 rfl (zap2 rfl (zap1 (zWb_l hq))))) rfl dL_acts_219 ?_
    refine xi_rwi (y := (if S q = true then 1 else 0)) (hS q hq) ?_
    refine xi_istore C [1, 2, 3, 4, 5, 0] (L2 := [(0, .ref a_o), (1, .ref qw), (2, .ref a_g), (3, .int (nI q)), (4, .int (nI e9)), (5, .int (if S q = true then 1 else 0))]) dL_acts_222 (Nat.le_of_ble_eq_true rfl) rfl ?_
    refine xi_aload_n C 1 dL_acts_224 rfl ?_
    refine xi_get C zkX12 4 _ zlL_75 (by decide) (zap2 rfl (zap2 rfl (zap2 rfl (zap1 (zWb_w))))) rfl dL_acts_225 ?_
    refine xi_iload_n C 3 dL_acts_228 rfl ?_
    refine xw_aald C _ 7 (zap2 rfl (zap2 rfl (zap2 rfl (zap1 (zWb_ar))))) rfl (by omega) (by decide) (if_pos hq) dL_acts_229 ?_
    refine xi_iconst C (v := 0) dL_acts_230 rfl ?_
    refine xi_put C zkX11 5 _ zlL_129 (by decide) (zap2 rfl (zap2 rfl (zap2 rfl (zap1 (zWb_l hq))))) rfl rfl rfl (Nat.le_of_ble_eq_true rfl) dL_acts_231 (ws2 := Wo ++ (([(q_k, .inl (cT 0, np, .inl kn))] : va_W) ++ (([(q_s, .inl (cT 0, 100, .inl spv))] : va_W) ++ (zWb cT qw q_l q_b q_a q_k q_s (nI np) (nI nl) (nI rounds) (nI calls) bs bg bc nl nb na A_l A_b A_a f0 f1 f2 f3 f4 (upd f5 q 0) vb vw ++ (([(a_g, .inl (cT 0, 1, .inl gv))] : va_W) ++ ([])))))) (zse2 rfl (zse2 rfl (zse2 rfl (zse1 (zWb_ll hq) (zWb_s5 hq))))) ?_
    refine xi_aload_n C 0 dL_acts_234 rfl ?_
    refine xi_iload_n C 3 dL_acts_235 rfl ?_
    have hS2 := hFl_del (i := q) hS
    cases hb9 : S q with
    | true =>
      refine xi_callEH C (kL_takesBack l D cT hO hq hb9) (([(q_k, .inl (cT 0, np, .inl kn))] : va_W) ++ (([(q_s, .inl (cT 0, 100, .inl spv))] : va_W) ++ (zWb cT qw q_l q_b q_a q_k q_s (nI np) (nI nl) (nI rounds) (nI calls) bs bg bc nl nb na A_l A_b A_a f0 f1 f2 f3 f4 (upd f5 q 0) vb vw ++ (([(a_g, .inl (cT 0, 1, .inl gv))] : va_W) ++ ([]))))) (by have h := permX (bs := [Wo, ([(q_k, .inl (cT 0, np, .inl kn))] : va_W), ([(q_s, .inl (cT 0, 100, .inl spv))] : va_W), zWb cT qw q_l q_b q_a q_k q_s (nI np) (nI nl) (nI rounds) (nI calls) bs bg bc nl nb na A_l A_b A_a f0 f1 f2 f3 f4 (upd f5 q 0) vb vw, ([(a_g, .inl (cT 0, 1, .inl gv))] : va_W)]) (A := [Wo]) (B := [([(q_k, .inl (cT 0, np, .inl kn))] : va_W), ([(q_s, .inl (cT 0, 100, .inl spv))] : va_W), zWb cT qw q_l q_b q_a q_k q_s (nI np) (nI nl) (nI rounds) (nI calls) bs bg bc nl nb na A_l A_b A_a f0 f1 f2 f3 f4 (upd f5 q 0) vb vw, ([(a_g, .inl (cT 0, 1, .inl gv))] : va_W)]) (n := 5) rfl [0, 1, 2, 3, 4] rfl (by decide) flat1; simp only [List.flatten_cons, List.flatten_nil] at h; exact h) zcL_takesBack zmL_149L zshL_takesBack (zrE rfl rfl) ⟨Nat.le_of_ble_eq_true rfl, Nat.le_of_ble_eq_true rfl⟩ rfl rfl (Nat.le_of_ble_eq_true rfl) dL_acts_236 (fun v115 W116 hv117 _ => ?_)
      obtain ⟨rfl, hO118⟩ := hv117
      refine xi_eqw (ws2 := W116 ++ (([(q_k, .inl (cT 0, np, .inl kn))] : va_W) ++ (([(q_s, .inl (cT 0, 100, .inl spv))] : va_W) ++ (zWb cT qw q_l q_b q_a q_k q_s (nI np) (nI nl) (nI rounds) (nI calls) bs bg bc nl nb na A_l A_b A_a f0 f1 f2 f3 f4 (upd f5 q 0) vb vw ++ (([(a_g, .inl (cT 0, 1, .inl gv))] : va_W) ++ ([])))))) rfl ?_
      refine xi_iload C 5 dL_acts_239 rfl ?_
      refine xi_rwi (y := 1) ifT ?_
      refine xi_if_eq C (tgt := 259) dL_acts_241 rfl (fun c119 => False.elim ((fun z : (1 : Int32) = 0 => one0 z) c119)) (fun c119 => ?_)
      obtain ⟨x, hx, hxS⟩ := wArranged hnl hS2
      refine xi_aload_n C 1 dL_acts_244 rfl ?_
      refine xi_aload_n C 1 dL_acts_245 rfl ?_
      refine xi_callEV C (sE_of_sM (kX12_arranged l D cT qw q_l q_b q_a q_k q_s A_l A_b A_a nl nb na (nI np) (nI nl) (nI rounds) (nI calls) bs bg bc f0 f1 f2 f3 f4 (upd f5 q 0) vb vw (by omega) _ hx)) (W116 ++ (([(q_k, .inl (cT 0, np, .inl kn))] : va_W) ++ (([(q_s, .inl (cT 0, 100, .inl spv))] : va_W) ++ (([(a_g, .inl (cT 0, 1, .inl gv))] : va_W) ++ ([]))))) (by have h := permX (bs := [W116, ([(q_k, .inl (cT 0, np, .inl kn))] : va_W), ([(q_s, .inl (cT 0, 100, .inl spv))] : va_W), zWb cT qw q_l q_b q_a q_k q_s (nI np) (nI nl) (nI rounds) (nI calls) bs bg bc nl nb na A_l A_b A_a f0 f1 f2 f3 f4 (upd f5 q 0) vb vw, ([(a_g, .inl (cT 0, 1, .inl gv))] : va_W)]) (A := [zWb cT qw q_l q_b q_a q_k q_s (nI np) (nI nl) (nI rounds) (nI calls) bs bg bc nl nb na A_l A_b A_a f0 f1 f2 f3 f4 (upd f5 q 0) vb vw]) (B := [W116, ([(q_k, .inl (cT 0, np, .inl kn))] : va_W), ([(q_s, .inl (cT 0, 100, .inl spv))] : va_W), ([(a_g, .inl (cT 0, 1, .inl gv))] : va_W)]) (n := 5) rfl [3, 0, 1, 2, 4] rfl (by decide) flat1; simp only [List.flatten_cons, List.flatten_nil] at h; exact h) zcX12_arranged zmL_143 ziX12_arranged (zrE rfl rfl) ⟨Nat.le_of_ble_eq_true rfl, Nat.le_of_ble_eq_true rfl⟩ rfl zkX12.1 (qr := 0) rfl rfl (Nat.le_of_ble_eq_true rfl) dL_acts_246 (fun v120 W121 hv122 _ => ?_)
      obtain ⟨rfl, rfl⟩ := hv122
      refine xi_eqw (ws2 := zWb cT qw q_l q_b q_a q_k q_s (nI np) (nI nl) (nI rounds) (nI calls) bs bg bc nl nb na A_l A_b A_a f0 f1 f2 f3 f4 (upd f5 q 0) vb vw ++ (W116 ++ (([(q_k, .inl (cT 0, np, .inl kn))] : va_W) ++ (([(q_s, .inl (cT 0, 100, .inl spv))] : va_W) ++ (([(a_g, .inl (cT 0, 1, .inl gv))] : va_W) ++ ([])))))) rfl ?_
      refine xi_aload_n C 1 dL_acts_249 rfl ?_
      refine xi_get C zkX12 7 _ zlL_98 (by decide) (zap1 (zWb_w)) rfl dL_acts_250 ?_
      refine xi_callEV C (sE_of_sM (kX12_gainOf l D cT qw q_l q_b q_a q_k q_s q_k A_l A_b A_a nl nb na np (nI np) (nI nl) (nI rounds) (nI calls) bs bg bc f0 f1 f2 f3 f4 (upd f5 q 0) vb vw kn x (by omega) _ (wGainOf hE hk hxS))) (W116 ++ (([(q_s, .inl (cT 0, 100, .inl spv))] : va_W) ++ (([(a_g, .inl (cT 0, 1, .inl gv))] : va_W) ++ ([])))) (by have h := permX (bs := [zWb cT qw q_l q_b q_a q_k q_s (nI np) (nI nl) (nI rounds) (nI calls) bs bg bc nl nb na A_l A_b A_a f0 f1 f2 f3 f4 (upd f5 q 0) vb vw, W116, ([(q_k, .inl (cT 0, np, .inl kn))] : va_W), ([(q_s, .inl (cT 0, 100, .inl spv))] : va_W), ([(a_g, .inl (cT 0, 1, .inl gv))] : va_W)]) (A := [([(q_k, .inl (cT 0, np, .inl kn))] : va_W), zWb cT qw q_l q_b q_a q_k q_s (nI np) (nI nl) (nI rounds) (nI calls) bs bg bc nl nb na A_l A_b A_a f0 f1 f2 f3 f4 (upd f5 q 0) vb vw]) (B := [W116, ([(q_s, .inl (cT 0, 100, .inl spv))] : va_W), ([(a_g, .inl (cT 0, 1, .inl gv))] : va_W)]) (n := 5) rfl [2, 0, 1, 3, 4] rfl (by decide) flatXA; simp only [List.flatten_cons, List.flatten_nil] at h; exact h) zcX12_gainOf zmL_145 ziX12_gainOf (zrE rfl rfl) ⟨Nat.le_of_ble_eq_true rfl, Nat.le_of_ble_eq_true rfl⟩ rfl zkX12.1 (qr := 1) rfl rfl (Nat.le_of_ble_eq_true rfl) dL_acts_253 (fun v123 W124 hv125 _ => ?_)
      obtain ⟨rfl, rfl⟩ := hv125
      refine xi_eqw (ws2 := ([(q_k, .inl (cT 0, np, .inl kn))] : va_W) ++ (zWb cT qw q_l q_b q_a q_k q_s (nI np) (nI nl) (nI rounds) (nI calls) bs bg bc nl nb na A_l A_b A_a f0 f1 f2 f3 f4 (upd f5 q 0) vb vw ++ (W116 ++ (([(q_s, .inl (cT 0, 100, .inl spv))] : va_W) ++ (([(a_g, .inl (cT 0, 1, .inl gv))] : va_W) ++ ([])))))) rfl ?_
      refine xi_goto C (tgt := 261) dL_acts_256 rfl ?_
      refine xi_icmp_ne C (tgt := 268) dL_acts_261 rfl (fun c126 => False.elim ((fun z => z rfl) c126)) (fun c126 => ?_)
      refine xi_iconst C (v := 1) dL_acts_264 rfl ?_
      refine xi_goto C (tgt := 269) dL_acts_265 rfl ?_
      refine xi_permL (ws2 := W116 ++ (([(q_k, .inl (cT 0, np, .inl kn))] : va_W) ++ (([(q_s, .inl (cT 0, 100, .inl spv))] : va_W) ++ (zWb cT qw q_l q_b q_a q_k q_s (nI np) (nI nl) (nI rounds) (nI calls) bs bg bc nl nb na A_l A_b A_a f0 f1 f2 f3 f4 (upd f5 q 0) vb vw ++ (([(a_g, .inl (cT 0, 1, .inl gv))] : va_W) ++ ([])))))) (by have h := permR (bs := [([(q_k, .inl (cT 0, np, .inl kn))] : va_W), zWb cT qw q_l q_b q_a q_k q_s (nI np) (nI nl) (nI rounds) (nI calls) bs bg bc nl nb na A_l A_b A_a f0 f1 f2 f3 f4 (upd f5 q 0) vb vw, W116, ([(q_s, .inl (cT 0, 100, .inl spv))] : va_W), ([(a_g, .inl (cT 0, 1, .inl gv))] : va_W)]) (bs2 := [W116, ([(q_k, .inl (cT 0, np, .inl kn))] : va_W), ([(q_s, .inl (cT 0, 100, .inl spv))] : va_W), zWb cT qw q_l q_b q_a q_k q_s (nI np) (nI nl) (nI rounds) (nI calls) bs bg bc nl nb na A_l A_b A_a f0 f1 f2 f3 f4 (upd f5 q 0) vb vw, ([(a_g, .inl (cT 0, 1, .inl gv))] : va_W)]) (n := 5) rfl [2, 0, 3, 1, 4] rfl (by decide); simp only [List.flatten_cons, List.flatten_nil] at h; exact h) ?_
      refine xi_wide (k2 := 3) (n2 := 30) (by decide) (by decide) ?_
      exact hR _ _ _ cut (sdel S q) k rounds calls sp dL_acts_269 (by omega) ⟨W116, q_l, q_b, q_a, q_k, q_s, A_l, A_b, A_a, bs, bg, bc, f0, f1, f2, f3, f4, (upd f5 q 0), vb, vw, kn, spv, gv, hO118, ⟨hE, hc, hS2, hb, ha, hk, hsp, (fun l hl z => by
          by_cases e : l = q
          · rw [e, sdel_eq]
          · rw [sdel_ne e]; exact hcS l hl z)⟩, List.Perm.refl _⟩
    | false =>
      refine xi_callEH C (kL_takesBack_E l hls D cT hO hq hb9) (([(q_k, .inl (cT 0, np, .inl kn))] : va_W) ++ (([(q_s, .inl (cT 0, 100, .inl spv))] : va_W) ++ (zWb cT qw q_l q_b q_a q_k q_s (nI np) (nI nl) (nI rounds) (nI calls) bs bg bc nl nb na A_l A_b A_a f0 f1 f2 f3 f4 (upd f5 q 0) vb vw ++ (([(a_g, .inl (cT 0, 1, .inl gv))] : va_W) ++ ([]))))) (by have h := permX (bs := [Wo, ([(q_k, .inl (cT 0, np, .inl kn))] : va_W), ([(q_s, .inl (cT 0, 100, .inl spv))] : va_W), zWb cT qw q_l q_b q_a q_k q_s (nI np) (nI nl) (nI rounds) (nI calls) bs bg bc nl nb na A_l A_b A_a f0 f1 f2 f3 f4 (upd f5 q 0) vb vw, ([(a_g, .inl (cT 0, 1, .inl gv))] : va_W)]) (A := [Wo]) (B := [([(q_k, .inl (cT 0, np, .inl kn))] : va_W), ([(q_s, .inl (cT 0, 100, .inl spv))] : va_W), zWb cT qw q_l q_b q_a q_k q_s (nI np) (nI nl) (nI rounds) (nI calls) bs bg bc nl nb na A_l A_b A_a f0 f1 f2 f3 f4 (upd f5 q 0) vb vw, ([(a_g, .inl (cT 0, 1, .inl gv))] : va_W)]) (n := 5) rfl [0, 1, 2, 3, 4] rfl (by decide) flat1; simp only [List.flatten_cons, List.flatten_nil] at h; exact h) zcL_takesBack zmL_149L zshL_takesBack (zrA rfl rfl) ⟨Nat.le_of_ble_eq_true rfl, Nat.le_of_ble_eq_true rfl⟩ rfl rfl (Nat.le_of_ble_eq_true rfl) dL_acts_236 (fun v127 W128 hv129 _ => ?_)
      obtain ⟨rfl, hO130⟩ := hv129
      refine xi_eqw (ws2 := W128 ++ (([(q_k, .inl (cT 0, np, .inl kn))] : va_W) ++ (([(q_s, .inl (cT 0, 100, .inl spv))] : va_W) ++ (zWb cT qw q_l q_b q_a q_k q_s (nI np) (nI nl) (nI rounds) (nI calls) bs bg bc nl nb na A_l A_b A_a f0 f1 f2 f3 f4 (upd f5 q 0) vb vw ++ (([(a_g, .inl (cT 0, 1, .inl gv))] : va_W) ++ ([])))))) rfl ?_
      refine xi_iload C 5 dL_acts_239 rfl ?_
      refine xi_rwi (y := 0) ifF ?_
      refine xi_if_eq C (tgt := 259) dL_acts_241 rfl (fun c131 => ?_) (fun c131 => False.elim ((fun z : ¬ ((0 : Int32) = 0) => z rfl) c131))
      refine xi_bipush C (v := (-3)) dL_acts_259 rfl ?_
      refine xi_icmp_ne C (tgt := 268) dL_acts_261 rfl (fun c132 => False.elim ((fun z => z rfl) c132)) (fun c132 => ?_)
      refine xi_iconst C (v := 1) dL_acts_264 rfl ?_
      refine xi_goto C (tgt := 269) dL_acts_265 rfl ?_
      have hS3 : hFl nl S (upd f5 q 0) := fun i hi => by
        by_cases e : i = q
        · rw [e, pk_us, hb9]; rfl
        · rw [pk_un e]
          exact hS i hi
      refine xi_wide (k2 := 3) (n2 := 30) (by decide) (by decide) ?_
      exact hR _ _ _ cut S k rounds calls sp dL_acts_269 (by omega) ⟨W128, q_l, q_b, q_a, q_k, q_s, A_l, A_b, A_a, bs, bg, bc, f0, f1, f2, f3, f4, (upd f5 q 0), vb, vw, kn, spv, gv, hO130, ⟨hE, hc, hS3, hb, ha, hk, hsp, hcS⟩, List.Perm.refl _⟩
set_option maxRecDepth 100000 in
set_option maxHeartbeats 4000000 in
theorem acts_28 {X : sX} {l : Launch} (hls : l.stackTraces = false) {D : va_G} {cT : Nat → ClassId} {a_o qw a_g : Nat} {np nl : Nat} {a b c : Nat → Nat} {fw : Nat → Bool} {nb : Nat} {wb fb ub : Nat → Nat} {na : Nat} {wa fa ua : Nat → Nat} {cut S : Nat → Bool} {k : Nat → Nat} {rounds calls : Nat} {sp : Nat → Nat} {q_l q_b q_a q_k q_s : Nat} {A_l A_b A_a : Nat → Nat} {bs bg bc : Int32} {f0 f1 f2 f3 f4 f5 : Nat → Int32} {vb vw : Nat → Nat → Int32} {kn spv gv : Nat → Int32} {Wo : va_W} (C : sC X (zRA 70 3 30) D cT 8 cL_acts yL_acts.cls) (hr : rounds < 90) (hR : ∀ (pc : Nat) (L : List (Nat × Value)) (W1 : va_W) (cut2 S2 : Nat → Bool) (k2 : Nat → Nat) (rounds2 calls2 : Nat) (sp2 : Nat → Nat), decode cL_acts pc = .ok (.ireturn, 1) → rounds2 ≤ rounds + 1 → SW cT a_o qw a_g np nl a b c fw nb wb fb ub na wa fa ua cut2 S2 k2 rounds2 calls2 sp2 W1 → sW X l (zRA 70 3 30) D 8 3 30 pc L [.int 1] W1) (hO : OW cT a_o np nl a b c fw nb wb fb ub na wa fa ua cut S k rounds calls sp 0 Wo) (hE : hLn np nl a b c fw f0 f1 f2 f3) (hc : hFl nl cut f4) (hS : hFl nl S f5) (hb : hRw nb nl wb fb ub vb) (ha : hRw na np wa fa ua vw) (hk : hK np k kn) (hsp : ∀ i, i ≤ rounds → spv i = nI (sp i)) (hcS : ∀ l, l < nl → cut l = true → S l = false) {q e9 : Nat} (hq : q < nl) (he9 : e9 < 8) : sW X l (zRA 70 3 30) D 8 0 0 28 [(0, .ref a_o), (1, .ref qw), (2, .ref a_g), (3, .int (nI q)), (4, .int (nI e9))] [] (Wo ++ (([(q_k, .inl (cT 0, np, .inl kn))] : va_W) ++ (([(q_s, .inl (cT 0, 100, .inl spv))] : va_W) ++ (zWb cT qw q_l q_b q_a q_k q_s (nI np) (nI nl) (nI rounds) (nI calls) bs bg bc nl nb na A_l A_b A_a f0 f1 f2 f3 f4 f5 vb vw ++ (([(a_g, .inl (cT 0, 1, .inl gv))] : va_W) ++ ([])))))) := by
  have hnp := hE.1
  have hnl := hE.2.1
  have hOf := OW_facts hO
  obtain ⟨g1, g2, g3, g4, g5, g6, g7, g8⟩ := hE.2.2 q hq
  refine xi_iload_n C 3 dL_acts_28 rfl ?_
  refine xi_if_lt C (tgt := 203) dL_acts_29 rfl (fun c133 => False.elim ((fun z => nI_pos (by omega) z) c133)) (fun c133 => ?_)
  refine xi_iload C 4 dL_acts_32 rfl ?_
  refine xi_iconst C (v := 2) dL_acts_34 rfl ?_
  refine xi_rwi (y := nI 2) rfl ?_
  refine xi_icmp_ge C (tgt := 203) dL_acts_35 rfl (fun c134 => ?_) (fun c134 => ?_)
  · exact acts_203 hls C hr hR hO hE hc hS hb ha hk hsp hcS hq he9
  · refine xi_iconst C (v := 0) dL_acts_38 rfl ?_
    refine xi_istore C [1, 2, 3, 4, 5, 0] (L2 := [(0, .ref a_o), (1, .ref qw), (2, .ref a_g), (3, .int (nI q)), (4, .int (nI e9)), (5, .int 0)]) dL_acts_39 (Nat.le_of_ble_eq_true rfl) rfl ?_
    refine xi_iconst C (v := 0) dL_acts_41 rfl ?_
    refine xi_istore C [1, 2, 3, 4, 5, 6, 0] (L2 := [(0, .ref a_o), (1, .ref qw), (2, .ref a_g), (3, .int (nI q)), (4, .int (nI e9)), (5, .int 0), (6, .int 0)]) dL_acts_42 (Nat.le_of_ble_eq_true rfl) rfl ?_
    have L : (∀ y : Int32, hB np (psn a b S nl) y → sW X l (zRA 70 3 30) D 8 0 0 102 [(0, .ref a_o), (1, .ref qw), (2, .ref a_g), (3, .int (nI q)), (4, .int (nI e9)), (5, .int y)] [] (Wo ++ (([(q_k, .inl (cT 0, np, .inl kn))] : va_W) ++ (([(q_s, .inl (cT 0, 100, .inl spv))] : va_W) ++ (zWb cT qw q_l q_b q_a q_k q_s (nI np) (nI nl) (nI rounds) (nI calls) bs bg bc nl nb na A_l A_b A_a f0 f1 f2 f3 f4 f5 vb vw ++ (([(a_g, .inl (cT 0, 1, .inl gv))] : va_W) ++ ([]))))))) → ∀ (d l0 : Nat) (x : Int32), l0 ≤ nl → nl - l0 < d → hB np (psn a b S l0) x → sW X l (zRA 70 3 30) D 8 0 0 44 [(0, .ref a_o), (1, .ref qw), (2, .ref a_g), (3, .int (nI q)), (4, .int (nI e9)), (5, .int x), (6, .int (nI l0))] [] (Wo ++ (([(q_k, .inl (cT 0, np, .inl kn))] : va_W) ++ (([(q_s, .inl (cT 0, 100, .inl spv))] : va_W) ++ (zWb cT qw q_l q_b q_a q_k q_s (nI np) (nI nl) (nI rounds) (nI calls) bs bg bc nl nb na A_l A_b A_a f0 f1 f2 f3 f4 f5 vb vw ++ (([(a_g, .inl (cT 0, 1, .inl gv))] : va_W) ++ ([])))))) := by
      intro kk d
      induction d with
      | zero => intro l0 x h1 h2; omega
      | succ d ih =>
        intro l0 x h1 h2 h3
        refine xi_iload C 6 dL_acts_44 rfl ?_
        refine xi_aload_n C 1 dL_acts_46 rfl ?_
        refine xi_get C zkX12 1 _ zlL_56 (by decide) (zap2 rfl (zap2 rfl (zap2 rfl (zap1 (zWb_w))))) rfl dL_acts_47 ?_
        refine xi_icmp_ge C (tgt := 102) dL_acts_50 rfl (fun c135 => ?_) (fun c135 => ?_)
        · have e := nll c135 (by omega) (by omega)
          have e2 : nl = l0 := by omega
          refine xi_drop (L2 := [(0, .ref a_o), (1, .ref qw), (2, .ref a_g), (3, .int (nI q)), (4, .int (nI e9)), (5, .int x)]) [0, 1, 2, 3, 4, 5] rfl ?_
          exact kk x (by rw [e2]; exact h3)
        · have hl := nln c135 (by omega) (by omega)
          obtain ⟨e1, e2, e3, e4, e5, e6, e7, e8⟩ := hE.2.2 l0 hl
          have nx : ∀ p, psn a b S (l0 + 1) p = (psn a b S l0 p || (S l0 && (decide (p = a l0) || decide (p = b l0)))) := fun p => rfl
          refine xi_aload_n C 1 dL_acts_53 rfl ?_
          refine xi_get C zkX12 4 _ zlL_75 (by decide) (zap2 rfl (zap2 rfl (zap2 rfl (zap1 (zWb_w))))) rfl dL_acts_54 ?_
          refine xi_iload C 6 dL_acts_57 rfl ?_
          refine xw_aald C _ 7 (zap2 rfl (zap2 rfl (zap2 rfl (zap1 (zWb_ar))))) rfl (by omega) (by decide) (if_pos hl) dL_acts_59 ?_
          refine xi_get C zkX11 5 _ zlL_129 (by decide) (zap2 rfl (zap2 rfl (zap2 rfl (zap1 (zWb_l hl))))) rfl dL_acts_60 ?_
          refine xi_rwi (y := (if S l0 = true then 1 else 0)) (hS l0 hl) ?_
          cases hb9 : S l0 with
          | false =>
            refine xi_rwi (y := 0) ifF ?_
            refine xi_if_eq C (tgt := 96) dL_acts_63 rfl (fun c136 => ?_) (fun c136 => False.elim ((fun z : ¬ ((0 : Int32) = 0) => z rfl) c136))
            refine xi_iinc C (v := nI (l0 + 1)) 6 [1, 2, 3, 4, 5, 6, 0] (L2 := [(0, .ref a_o), (1, .ref qw), (2, .ref a_g), (3, .int (nI q)), (4, .int (nI e9)), (5, .int x), (6, .int (nI (l0 + 1)))]) dL_acts_96 rfl (nI_1 l0) (Nat.le_of_ble_eq_true rfl) rfl ?_
            refine xi_goto C (tgt := 44) dL_acts_99 rfl ?_
            exact ih (l0 + 1) x (by omega) (by omega) (hB_congr h3 (fun p _ => by rw [nx p, hb9, Bool.false_and, Bool.or_false]))
          | true =>
            refine xi_rwi (y := 1) ifT ?_
            refine xi_if_eq C (tgt := 96) dL_acts_63 rfl (fun c137 => False.elim ((fun z : (1 : Int32) = 0 => one0 z) c137)) (fun c137 => ?_)
            refine xi_iload C 5 dL_acts_66 rfl ?_
            refine xi_iconst C (v := 1) dL_acts_68 rfl ?_
            refine xi_aload_n C 1 dL_acts_69 rfl ?_
            refine xi_get C zkX12 4 _ zlL_75 (by decide) (zap2 rfl (zap2 rfl (zap2 rfl (zap1 (zWb_w))))) rfl dL_acts_70 ?_
            refine xi_iload C 6 dL_acts_73 rfl ?_
            refine xw_aald C _ 7 (zap2 rfl (zap2 rfl (zap2 rfl (zap1 (zWb_ar))))) rfl (by omega) (by decide) (if_pos hl) dL_acts_75 ?_
            refine xi_get C zkX11 0 _ zlL_62 (by decide) (zap2 rfl (zap2 rfl (zap2 rfl (zap1 (zWb_l hl))))) rfl dL_acts_76 ?_
            refine xi_rwi (y := nI (a l0)) e5 ?_
            refine xi_ishl C dL_acts_79 ?_
            refine xi_iconst C (v := 1) dL_acts_80 rfl ?_
            refine xi_aload_n C 1 dL_acts_81 rfl ?_
            refine xi_get C zkX12 4 _ zlL_75 (by decide) (zap2 rfl (zap2 rfl (zap2 rfl (zap1 (zWb_w))))) rfl dL_acts_82 ?_
            refine xi_iload C 6 dL_acts_85 rfl ?_
            refine xw_aald C _ 7 (zap2 rfl (zap2 rfl (zap2 rfl (zap1 (zWb_ar))))) rfl (by omega) (by decide) (if_pos hl) dL_acts_87 ?_
            refine xi_get C zkX11 1 _ zlL_65 (by decide) (zap2 rfl (zap2 rfl (zap2 rfl (zap1 (zWb_l hl))))) rfl dL_acts_88 ?_
            refine xi_rwi (y := nI (b l0)) e6 ?_
            refine xi_ishl C dL_acts_91 ?_
            refine xi_ior C dL_acts_92 ?_
            refine xi_ior C dL_acts_93 ?_
            refine xi_istore C [1, 2, 3, 4, 5, 0, 6] (L2 := [(0, .ref a_o), (1, .ref qw), (2, .ref a_g), (3, .int (nI q)), (4, .int (nI e9)), (5, .int (x ||| (((1 : Int32) <<< ((nI (a l0)) &&& 31)) ||| ((1 : Int32) <<< ((nI (b l0)) &&& 31))))), (6, .int (nI l0))]) dL_acts_94 (Nat.le_of_ble_eq_true rfl) rfl ?_
            refine xi_iinc C (v := nI (l0 + 1)) 6 [1, 2, 3, 4, 5, 6, 0] (L2 := [(0, .ref a_o), (1, .ref qw), (2, .ref a_g), (3, .int (nI q)), (4, .int (nI e9)), (5, .int (x ||| (((1 : Int32) <<< ((nI (a l0)) &&& 31)) ||| ((1 : Int32) <<< ((nI (b l0)) &&& 31))))), (6, .int (nI (l0 + 1)))]) dL_acts_96 rfl (nI_1 l0) (Nat.le_of_ble_eq_true rfl) rfl ?_
            refine xi_goto C (tgt := 44) dL_acts_99 rfl ?_
            exact ih (l0 + 1) _ (by omega) (by omega) (fun i hi => by
              rw [ib_or, ib_or, ib_one _ (by omega) i hi, ib_one _ (by omega) i hi, h3 i hi, nx i, hb9, Bool.true_and]
              by_cases z : i < np
              · rw [decide_eq_true z, Bool.true_and, Bool.true_and]
              · rw [decide_eq_false z, decide_eq_false (show ¬ i = a l0 by omega), decide_eq_false (show ¬ i = b l0 by omega)]
                rfl)
    refine L (fun y hy => ?_) (nl + 1) 0 0 (Nat.zero_le _) (by omega) hB_0
    have K1 : (usb nb na wb fb ub wa fa ua a b cut (rounds + 1) q = true ∧ psn a b S nl (a q) = false ∧ psn a b S nl (b q) = false) → sW X l (zRA 70 3 30) D 8 0 0 152 [(0, .ref a_o), (1, .ref qw), (2, .ref a_g), (3, .int (nI q)), (4, .int (nI e9)), (6, .int 1)] [] (Wo ++ (([(q_k, .inl (cT 0, np, .inl kn))] : va_W) ++ (([(q_s, .inl (cT 0, 100, .inl spv))] : va_W) ++ (zWb cT qw q_l q_b q_a q_k q_s (nI np) (nI nl) (nI rounds) (nI calls) bs bg bc nl nb na A_l A_b A_a f0 f1 f2 f3 f4 f5 vb vw ++ (([(a_g, .inl (cT 0, 1, .inl gv))] : va_W) ++ ([])))))) := by
      intro hcan
      obtain ⟨c1, c2, c3⟩ := hcan
      have hs0 : S q = false := by
        cases z : S q with
        | false => rfl
        | true =>
          have := (psn_iff (a := a) (b := b) (S := S) (p := a q) nl).mpr ⟨q, hq, z, Or.inl rfl⟩
          rw [c2] at this
          exact nofalse this
      have hS2 := hFl_add (i := q) hS
      refine xi_iload C 5 dL_acts_152 rfl ?_
      refine xi_if_eq C (tgt := 167) dL_acts_154 rfl (fun c138 => False.elim ((fun z : (1 : Int32) = 0 => one0 z) c138)) (fun c138 => ?_)
      refine xi_aload_n C 1 dL_acts_157 rfl ?_
      refine xi_get C zkX12 4 _ zlL_75 (by decide) (zap2 rfl (zap2 rfl (zap2 rfl (zap1 (zWb_w))))) rfl dL_acts_158 ?_
      refine xi_iload_n C 3 dL_acts_161 rfl ?_
      refine xw_aald C _ 7 (zap2 rfl (zap2 rfl (zap2 rfl (zap1 (zWb_ar))))) rfl (by omega) (by decide) (if_pos hq) dL_acts_162 ?_
      refine xi_iconst C (v := 1) dL_acts_163 rfl ?_
      refine xi_put C zkX11 5 _ zlL_129 (by decide) (zap2 rfl (zap2 rfl (zap2 rfl (zap1 (zWb_l hq))))) rfl rfl rfl (Nat.le_of_ble_eq_true rfl) dL_acts_164 (ws2 := Wo ++ (([(q_k, .inl (cT 0, np, .inl kn))] : va_W) ++ (([(q_s, .inl (cT 0, 100, .inl spv))] : va_W) ++ (zWb cT qw q_l q_b q_a q_k q_s (nI np) (nI nl) (nI rounds) (nI calls) bs bg bc nl nb na A_l A_b A_a f0 f1 f2 f3 f4 (upd f5 q 1) vb vw ++ (([(a_g, .inl (cT 0, 1, .inl gv))] : va_W) ++ ([])))))) (zse2 rfl (zse2 rfl (zse2 rfl (zse1 (zWb_ll hq) (zWb_s5 hq))))) ?_
      refine xi_aload_n C 0 dL_acts_167 rfl ?_
      refine xi_iload_n C 3 dL_acts_168 rfl ?_
      refine xi_callEH C (kL_arranges l D cT hO hq hs0 c1 c2 c3) (([(q_k, .inl (cT 0, np, .inl kn))] : va_W) ++ (([(q_s, .inl (cT 0, 100, .inl spv))] : va_W) ++ (zWb cT qw q_l q_b q_a q_k q_s (nI np) (nI nl) (nI rounds) (nI calls) bs bg bc nl nb na A_l A_b A_a f0 f1 f2 f3 f4 (upd f5 q 1) vb vw ++ (([(a_g, .inl (cT 0, 1, .inl gv))] : va_W) ++ ([]))))) (by have h := permX (bs := [Wo, ([(q_k, .inl (cT 0, np, .inl kn))] : va_W), ([(q_s, .inl (cT 0, 100, .inl spv))] : va_W), zWb cT qw q_l q_b q_a q_k q_s (nI np) (nI nl) (nI rounds) (nI calls) bs bg bc nl nb na A_l A_b A_a f0 f1 f2 f3 f4 (upd f5 q 1) vb vw, ([(a_g, .inl (cT 0, 1, .inl gv))] : va_W)]) (A := [Wo]) (B := [([(q_k, .inl (cT 0, np, .inl kn))] : va_W), ([(q_s, .inl (cT 0, 100, .inl spv))] : va_W), zWb cT qw q_l q_b q_a q_k q_s (nI np) (nI nl) (nI rounds) (nI calls) bs bg bc nl nb na A_l A_b A_a f0 f1 f2 f3 f4 (upd f5 q 1) vb vw, ([(a_g, .inl (cT 0, 1, .inl gv))] : va_W)]) (n := 5) rfl [0, 1, 2, 3, 4] rfl (by decide) flat1; simp only [List.flatten_cons, List.flatten_nil] at h; exact h) zcL_arranges zmL_139L zshL_arranges (zrE rfl rfl) ⟨Nat.le_of_ble_eq_true rfl, Nat.le_of_ble_eq_true rfl⟩ rfl rfl (Nat.le_of_ble_eq_true rfl) dL_acts_169 (fun v139 W140 hv141 _ => ?_)
      obtain ⟨rfl, hO142⟩ := hv141
      refine xi_eqw (ws2 := W140 ++ (([(q_k, .inl (cT 0, np, .inl kn))] : va_W) ++ (([(q_s, .inl (cT 0, 100, .inl spv))] : va_W) ++ (zWb cT qw q_l q_b q_a q_k q_s (nI np) (nI nl) (nI rounds) (nI calls) bs bg bc nl nb na A_l A_b A_a f0 f1 f2 f3 f4 (upd f5 q 1) vb vw ++ (([(a_g, .inl (cT 0, 1, .inl gv))] : va_W) ++ ([])))))) rfl ?_
      refine xi_iload C 5 dL_acts_172 rfl ?_
      refine xi_if_eq C (tgt := 192) dL_acts_174 rfl (fun c143 => False.elim ((fun z : (1 : Int32) = 0 => one0 z) c143)) (fun c143 => ?_)
      obtain ⟨x, hx, hxS⟩ := wArranged hnl hS2
      refine xi_aload_n C 1 dL_acts_177 rfl ?_
      refine xi_aload_n C 1 dL_acts_178 rfl ?_
      refine xi_callEV C (sE_of_sM (kX12_arranged l D cT qw q_l q_b q_a q_k q_s A_l A_b A_a nl nb na (nI np) (nI nl) (nI rounds) (nI calls) bs bg bc f0 f1 f2 f3 f4 (upd f5 q 1) vb vw (by omega) _ hx)) (W140 ++ (([(q_k, .inl (cT 0, np, .inl kn))] : va_W) ++ (([(q_s, .inl (cT 0, 100, .inl spv))] : va_W) ++ (([(a_g, .inl (cT 0, 1, .inl gv))] : va_W) ++ ([]))))) (by have h := permX (bs := [W140, ([(q_k, .inl (cT 0, np, .inl kn))] : va_W), ([(q_s, .inl (cT 0, 100, .inl spv))] : va_W), zWb cT qw q_l q_b q_a q_k q_s (nI np) (nI nl) (nI rounds) (nI calls) bs bg bc nl nb na A_l A_b A_a f0 f1 f2 f3 f4 (upd f5 q 1) vb vw, ([(a_g, .inl (cT 0, 1, .inl gv))] : va_W)]) (A := [zWb cT qw q_l q_b q_a q_k q_s (nI np) (nI nl) (nI rounds) (nI calls) bs bg bc nl nb na A_l A_b A_a f0 f1 f2 f3 f4 (upd f5 q 1) vb vw]) (B := [W140, ([(q_k, .inl (cT 0, np, .inl kn))] : va_W), ([(q_s, .inl (cT 0, 100, .inl spv))] : va_W), ([(a_g, .inl (cT 0, 1, .inl gv))] : va_W)]) (n := 5) rfl [3, 0, 1, 2, 4] rfl (by decide) flat1; simp only [List.flatten_cons, List.flatten_nil] at h; exact h) zcX12_arranged zmL_143 ziX12_arranged (zrE rfl rfl) ⟨Nat.le_of_ble_eq_true rfl, Nat.le_of_ble_eq_true rfl⟩ rfl zkX12.1 (qr := 0) rfl rfl (Nat.le_of_ble_eq_true rfl) dL_acts_179 (fun v144 W145 hv146 _ => ?_)
      obtain ⟨rfl, rfl⟩ := hv146
      refine xi_eqw (ws2 := zWb cT qw q_l q_b q_a q_k q_s (nI np) (nI nl) (nI rounds) (nI calls) bs bg bc nl nb na A_l A_b A_a f0 f1 f2 f3 f4 (upd f5 q 1) vb vw ++ (W140 ++ (([(q_k, .inl (cT 0, np, .inl kn))] : va_W) ++ (([(q_s, .inl (cT 0, 100, .inl spv))] : va_W) ++ (([(a_g, .inl (cT 0, 1, .inl gv))] : va_W) ++ ([])))))) rfl ?_
      refine xi_aload_n C 1 dL_acts_182 rfl ?_
      refine xi_get C zkX12 7 _ zlL_98 (by decide) (zap1 (zWb_w)) rfl dL_acts_183 ?_
      refine xi_callEV C (sE_of_sM (kX12_gainOf l D cT qw q_l q_b q_a q_k q_s q_k A_l A_b A_a nl nb na np (nI np) (nI nl) (nI rounds) (nI calls) bs bg bc f0 f1 f2 f3 f4 (upd f5 q 1) vb vw kn x (by omega) _ (wGainOf hE hk hxS))) (W140 ++ (([(q_s, .inl (cT 0, 100, .inl spv))] : va_W) ++ (([(a_g, .inl (cT 0, 1, .inl gv))] : va_W) ++ ([])))) (by have h := permX (bs := [zWb cT qw q_l q_b q_a q_k q_s (nI np) (nI nl) (nI rounds) (nI calls) bs bg bc nl nb na A_l A_b A_a f0 f1 f2 f3 f4 (upd f5 q 1) vb vw, W140, ([(q_k, .inl (cT 0, np, .inl kn))] : va_W), ([(q_s, .inl (cT 0, 100, .inl spv))] : va_W), ([(a_g, .inl (cT 0, 1, .inl gv))] : va_W)]) (A := [([(q_k, .inl (cT 0, np, .inl kn))] : va_W), zWb cT qw q_l q_b q_a q_k q_s (nI np) (nI nl) (nI rounds) (nI calls) bs bg bc nl nb na A_l A_b A_a f0 f1 f2 f3 f4 (upd f5 q 1) vb vw]) (B := [W140, ([(q_s, .inl (cT 0, 100, .inl spv))] : va_W), ([(a_g, .inl (cT 0, 1, .inl gv))] : va_W)]) (n := 5) rfl [2, 0, 1, 3, 4] rfl (by decide) flatXA; simp only [List.flatten_cons, List.flatten_nil] at h; exact h) zcX12_gainOf zmL_145 ziX12_gainOf (zrE rfl rfl) ⟨Nat.le_of_ble_eq_true rfl, Nat.le_of_ble_eq_true rfl⟩ rfl zkX12.1 (qr := 1) rfl rfl (Nat.le_of_ble_eq_true rfl) dL_acts_186 (fun v147 W148 hv149 _ => ?_)
      obtain ⟨rfl, rfl⟩ := hv149
      refine xi_eqw (ws2 := ([(q_k, .inl (cT 0, np, .inl kn))] : va_W) ++ (zWb cT qw q_l q_b q_a q_k q_s (nI np) (nI nl) (nI rounds) (nI calls) bs bg bc nl nb na A_l A_b A_a f0 f1 f2 f3 f4 (upd f5 q 1) vb vw ++ (W140 ++ (([(q_s, .inl (cT 0, 100, .inl spv))] : va_W) ++ (([(a_g, .inl (cT 0, 1, .inl gv))] : va_W) ++ ([])))))) rfl ?_
      refine xi_goto C (tgt := 194) dL_acts_189 rfl ?_
      refine xi_icmp_ne C (tgt := 201) dL_acts_194 rfl (fun c150 => False.elim ((fun z => z rfl) c150)) (fun c150 => ?_)
      refine xi_iconst C (v := 1) dL_acts_197 rfl ?_
      refine xi_goto C (tgt := 202) dL_acts_198 rfl ?_
      refine xi_permL (ws2 := W140 ++ (([(q_k, .inl (cT 0, np, .inl kn))] : va_W) ++ (([(q_s, .inl (cT 0, 100, .inl spv))] : va_W) ++ (zWb cT qw q_l q_b q_a q_k q_s (nI np) (nI nl) (nI rounds) (nI calls) bs bg bc nl nb na A_l A_b A_a f0 f1 f2 f3 f4 (upd f5 q 1) vb vw ++ (([(a_g, .inl (cT 0, 1, .inl gv))] : va_W) ++ ([])))))) (by have h := permR (bs := [([(q_k, .inl (cT 0, np, .inl kn))] : va_W), zWb cT qw q_l q_b q_a q_k q_s (nI np) (nI nl) (nI rounds) (nI calls) bs bg bc nl nb na A_l A_b A_a f0 f1 f2 f3 f4 (upd f5 q 1) vb vw, W140, ([(q_s, .inl (cT 0, 100, .inl spv))] : va_W), ([(a_g, .inl (cT 0, 1, .inl gv))] : va_W)]) (bs2 := [W140, ([(q_k, .inl (cT 0, np, .inl kn))] : va_W), ([(q_s, .inl (cT 0, 100, .inl spv))] : va_W), zWb cT qw q_l q_b q_a q_k q_s (nI np) (nI nl) (nI rounds) (nI calls) bs bg bc nl nb na A_l A_b A_a f0 f1 f2 f3 f4 (upd f5 q 1) vb vw, ([(a_g, .inl (cT 0, 1, .inl gv))] : va_W)]) (n := 5) rfl [2, 0, 3, 1, 4] rfl (by decide); simp only [List.flatten_cons, List.flatten_nil] at h; exact h) ?_
      refine xi_wide (k2 := 3) (n2 := 30) (by decide) (by decide) ?_
      exact hR _ _ _ cut (sadd S q) k rounds calls sp dL_acts_202 (by omega) ⟨W140, q_l, q_b, q_a, q_k, q_s, A_l, A_b, A_a, bs, bg, bc, f0, f1, f2, f3, f4, (upd f5 q 1), vb, vw, kn, spv, gv, hO142, ⟨hE, hc, hS2, hb, ha, hk, hsp, (fun l hl z => by
            by_cases e : l = q
            · rw [e] at z
              unfold usb at c1
              rw [z] at c1
              exact nofalse c1
            · rw [sadd_ne e]; exact hcS l hl z)⟩, List.Perm.refl _⟩
    have K0 : ¬ (usb nb na wb fb ub wa fa ua a b cut (rounds + 1) q = true ∧ psn a b S nl (a q) = false ∧ psn a b S nl (b q) = false) → sW X l (zRA 70 3 30) D 8 0 0 152 [(0, .ref a_o), (1, .ref qw), (2, .ref a_g), (3, .int (nI q)), (4, .int (nI e9)), (6, .int 0)] [] (Wo ++ (([(q_k, .inl (cT 0, np, .inl kn))] : va_W) ++ (([(q_s, .inl (cT 0, 100, .inl spv))] : va_W) ++ (zWb cT qw q_l q_b q_a q_k q_s (nI np) (nI nl) (nI rounds) (nI calls) bs bg bc nl nb na A_l A_b A_a f0 f1 f2 f3 f4 f5 vb vw ++ (([(a_g, .inl (cT 0, 1, .inl gv))] : va_W) ++ ([])))))) := by
      intro hcan
      refine xi_iload C 5 dL_acts_152 rfl ?_
      refine xi_if_eq C (tgt := 167) dL_acts_154 rfl (fun c151 => ?_) (fun c151 => False.elim ((fun z : ¬ ((0 : Int32) = 0) => z rfl) c151))
      refine xi_aload_n C 0 dL_acts_167 rfl ?_
      refine xi_iload_n C 3 dL_acts_168 rfl ?_
      refine xi_callEH C (kL_arranges_E l hls D cT hO hq (Or.inr hcan)) (([(q_k, .inl (cT 0, np, .inl kn))] : va_W) ++ (([(q_s, .inl (cT 0, 100, .inl spv))] : va_W) ++ (zWb cT qw q_l q_b q_a q_k q_s (nI np) (nI nl) (nI rounds) (nI calls) bs bg bc nl nb na A_l A_b A_a f0 f1 f2 f3 f4 f5 vb vw ++ (([(a_g, .inl (cT 0, 1, .inl gv))] : va_W) ++ ([]))))) (by have h := permX (bs := [Wo, ([(q_k, .inl (cT 0, np, .inl kn))] : va_W), ([(q_s, .inl (cT 0, 100, .inl spv))] : va_W), zWb cT qw q_l q_b q_a q_k q_s (nI np) (nI nl) (nI rounds) (nI calls) bs bg bc nl nb na A_l A_b A_a f0 f1 f2 f3 f4 f5 vb vw, ([(a_g, .inl (cT 0, 1, .inl gv))] : va_W)]) (A := [Wo]) (B := [([(q_k, .inl (cT 0, np, .inl kn))] : va_W), ([(q_s, .inl (cT 0, 100, .inl spv))] : va_W), zWb cT qw q_l q_b q_a q_k q_s (nI np) (nI nl) (nI rounds) (nI calls) bs bg bc nl nb na A_l A_b A_a f0 f1 f2 f3 f4 f5 vb vw, ([(a_g, .inl (cT 0, 1, .inl gv))] : va_W)]) (n := 5) rfl [0, 1, 2, 3, 4] rfl (by decide) flat1; simp only [List.flatten_cons, List.flatten_nil] at h; exact h) zcL_arranges zmL_139L zshL_arranges (zrA rfl rfl) ⟨Nat.le_of_ble_eq_true rfl, Nat.le_of_ble_eq_true rfl⟩ rfl rfl (Nat.le_of_ble_eq_true rfl) dL_acts_169 (fun v152 W153 hv154 _ => ?_)
      obtain ⟨rfl, hO155⟩ := hv154
      refine xi_eqw (ws2 := W153 ++ (([(q_k, .inl (cT 0, np, .inl kn))] : va_W) ++ (([(q_s, .inl (cT 0, 100, .inl spv))] : va_W) ++ (zWb cT qw q_l q_b q_a q_k q_s (nI np) (nI nl) (nI rounds) (nI calls) bs bg bc nl nb na A_l A_b A_a f0 f1 f2 f3 f4 f5 vb vw ++ (([(a_g, .inl (cT 0, 1, .inl gv))] : va_W) ++ ([])))))) rfl ?_
      refine xi_iload C 5 dL_acts_172 rfl ?_
      refine xi_if_eq C (tgt := 192) dL_acts_174 rfl (fun c156 => ?_) (fun c156 => False.elim ((fun z : ¬ ((0 : Int32) = 0) => z rfl) c156))
      refine xi_bipush C (v := (-3)) dL_acts_192 rfl ?_
      refine xi_icmp_ne C (tgt := 201) dL_acts_194 rfl (fun c157 => False.elim ((fun z => z rfl) c157)) (fun c157 => ?_)
      refine xi_iconst C (v := 1) dL_acts_197 rfl ?_
      refine xi_goto C (tgt := 202) dL_acts_198 rfl ?_
      refine xi_wide (k2 := 3) (n2 := 30) (by decide) (by decide) ?_
      exact hR _ _ _ cut S k rounds calls sp dL_acts_202 (by omega) ⟨W153, q_l, q_b, q_a, q_k, q_s, A_l, A_b, A_a, bs, bg, bc, f0, f1, f2, f3, f4, f5, vb, vw, kn, spv, gv, hO155, ⟨hE, hc, hS, hb, ha, hk, hsp, hcS⟩, List.Perm.refl _⟩
    refine xi_aload_n C 1 dL_acts_102 rfl ?_
    refine xi_iload_n C 3 dL_acts_103 rfl ?_
    refine xi_aload_n C 1 dL_acts_104 rfl ?_
    refine xi_get C zkX12 2 _ zlL_132 (by decide) (zap2 rfl (zap2 rfl (zap2 rfl (zap1 (zWb_w))))) rfl dL_acts_105 ?_
    refine xi_iconst C (v := 1) dL_acts_108 rfl ?_
    refine xi_iadd C dL_acts_109 ?_
    refine xi_rwi (y := nI (rounds + 1)) (nI_1 rounds) ?_
    refine xi_callEV C (sE_of_sM (kX12_usable l D cT qw q_l q_b q_a q_k q_s A_l A_b A_a nl nb na (nI np) (nI nl) (nI rounds) (nI calls) bs bg bc f0 f1 f2 f3 f4 f5 vb vw (nI q) (nI (rounds + 1)) (by omega) _ (wUsable hE hq (by omega) hc hb ha))) (Wo ++ (([(q_k, .inl (cT 0, np, .inl kn))] : va_W) ++ (([(q_s, .inl (cT 0, 100, .inl spv))] : va_W) ++ (([(a_g, .inl (cT 0, 1, .inl gv))] : va_W) ++ ([]))))) (by have h := permX (bs := [Wo, ([(q_k, .inl (cT 0, np, .inl kn))] : va_W), ([(q_s, .inl (cT 0, 100, .inl spv))] : va_W), zWb cT qw q_l q_b q_a q_k q_s (nI np) (nI nl) (nI rounds) (nI calls) bs bg bc nl nb na A_l A_b A_a f0 f1 f2 f3 f4 f5 vb vw, ([(a_g, .inl (cT 0, 1, .inl gv))] : va_W)]) (A := [zWb cT qw q_l q_b q_a q_k q_s (nI np) (nI nl) (nI rounds) (nI calls) bs bg bc nl nb na A_l A_b A_a f0 f1 f2 f3 f4 f5 vb vw]) (B := [Wo, ([(q_k, .inl (cT 0, np, .inl kn))] : va_W), ([(q_s, .inl (cT 0, 100, .inl spv))] : va_W), ([(a_g, .inl (cT 0, 1, .inl gv))] : va_W)]) (n := 5) rfl [3, 0, 1, 2, 4] rfl (by decide) flat1; simp only [List.flatten_cons, List.flatten_nil] at h; exact h) zcX12_usable zmL_135 ziX12_usable (zrE rfl rfl) ⟨Nat.le_of_ble_eq_true rfl, Nat.le_of_ble_eq_true rfl⟩ rfl zkX12.1 (qr := 0) rfl rfl (Nat.le_of_ble_eq_true rfl) dL_acts_110 (fun v158 W159 hv160 _ => ?_)
    obtain ⟨rfl, rfl⟩ := hv160
    refine xi_eqw (ws2 := zWb cT qw q_l q_b q_a q_k q_s (nI np) (nI nl) (nI rounds) (nI calls) bs bg bc nl nb na A_l A_b A_a f0 f1 f2 f3 f4 f5 vb vw ++ (Wo ++ (([(q_k, .inl (cT 0, np, .inl kn))] : va_W) ++ (([(q_s, .inl (cT 0, 100, .inl spv))] : va_W) ++ (([(a_g, .inl (cT 0, 1, .inl gv))] : va_W) ++ ([])))))) rfl ?_
    refine xi_permL (ws2 := Wo ++ (([(q_k, .inl (cT 0, np, .inl kn))] : va_W) ++ (([(q_s, .inl (cT 0, 100, .inl spv))] : va_W) ++ (zWb cT qw q_l q_b q_a q_k q_s (nI np) (nI nl) (nI rounds) (nI calls) bs bg bc nl nb na A_l A_b A_a f0 f1 f2 f3 f4 f5 vb vw ++ (([(a_g, .inl (cT 0, 1, .inl gv))] : va_W) ++ ([])))))) (by have h := permR (bs := [zWb cT qw q_l q_b q_a q_k q_s (nI np) (nI nl) (nI rounds) (nI calls) bs bg bc nl nb na A_l A_b A_a f0 f1 f2 f3 f4 f5 vb vw, Wo, ([(q_k, .inl (cT 0, np, .inl kn))] : va_W), ([(q_s, .inl (cT 0, 100, .inl spv))] : va_W), ([(a_g, .inl (cT 0, 1, .inl gv))] : va_W)]) (bs2 := [Wo, ([(q_k, .inl (cT 0, np, .inl kn))] : va_W), ([(q_s, .inl (cT 0, 100, .inl spv))] : va_W), zWb cT qw q_l q_b q_a q_k q_s (nI np) (nI nl) (nI rounds) (nI calls) bs bg bc nl nb na A_l A_b A_a f0 f1 f2 f3 f4 f5 vb vw, ([(a_g, .inl (cT 0, 1, .inl gv))] : va_W)]) (n := 5) rfl [1, 2, 3, 0, 4] rfl (by decide); simp only [List.flatten_cons, List.flatten_nil] at h; exact h) ?_
    cases hu9 : usb nb na wb fb ub wa fa ua a b cut (rounds + 1) q with
    | false =>
      refine xi_rwi (y := 0) ifF ?_
      refine xi_if_eq C (tgt := 149) dL_acts_113 rfl (fun c161 => ?_) (fun c161 => False.elim ((fun z : ¬ ((0 : Int32) = 0) => z rfl) c161))
      refine xi_iconst C (v := 0) dL_acts_149 rfl ?_
      refine xi_istore C [1, 2, 3, 4, 5, 6, 0] (L2 := [(0, .ref a_o), (1, .ref qw), (2, .ref a_g), (3, .int (nI q)), (4, .int (nI e9)), (5, .int y), (6, .int 0)]) dL_acts_150 (Nat.le_of_ble_eq_true rfl) rfl ?_
      refine xi_drop (L2 := [(0, .ref a_o), (1, .ref qw), (2, .ref a_g), (3, .int (nI q)), (4, .int (nI e9)), (6, .int 0)]) [0, 1, 2, 3, 4, 6] rfl ?_
      exact K0 (fun z => by rw [hu9] at z; exact nofalse z.1)
    | true =>
      refine xi_rwi (y := 1) ifT ?_
      refine xi_if_eq C (tgt := 149) dL_acts_113 rfl (fun c162 => False.elim ((fun z : (1 : Int32) = 0 => one0 z) c162)) (fun c162 => ?_)
      refine xi_iload C 5 dL_acts_116 rfl ?_
      refine xi_iconst C (v := 1) dL_acts_118 rfl ?_
      refine xi_aload_n C 1 dL_acts_119 rfl ?_
      refine xi_get C zkX12 4 _ zlL_75 (by decide) (zap2 rfl (zap2 rfl (zap2 rfl (zap1 (zWb_w))))) rfl dL_acts_120 ?_
      refine xi_iload_n C 3 dL_acts_123 rfl ?_
      refine xw_aald C _ 7 (zap2 rfl (zap2 rfl (zap2 rfl (zap1 (zWb_ar))))) rfl (by omega) (by decide) (if_pos hq) dL_acts_124 ?_
      refine xi_get C zkX11 0 _ zlL_62 (by decide) (zap2 rfl (zap2 rfl (zap2 rfl (zap1 (zWb_l hq))))) rfl dL_acts_125 ?_
      refine xi_rwi (y := nI (a q)) g5 ?_
      refine xi_ishl C dL_acts_128 ?_
      refine xi_iconst C (v := 1) dL_acts_129 rfl ?_
      refine xi_aload_n C 1 dL_acts_130 rfl ?_
      refine xi_get C zkX12 4 _ zlL_75 (by decide) (zap2 rfl (zap2 rfl (zap2 rfl (zap1 (zWb_w))))) rfl dL_acts_131 ?_
      refine xi_iload_n C 3 dL_acts_134 rfl ?_
      refine xw_aald C _ 7 (zap2 rfl (zap2 rfl (zap2 rfl (zap1 (zWb_ar))))) rfl (by omega) (by decide) (if_pos hq) dL_acts_135 ?_
      refine xi_get C zkX11 1 _ zlL_65 (by decide) (zap2 rfl (zap2 rfl (zap2 rfl (zap1 (zWb_l hq))))) rfl dL_acts_136 ?_
      refine xi_rwi (y := nI (b q)) g6 ?_
      refine xi_ishl C dL_acts_139 ?_
      refine xi_ior C dL_acts_140 ?_
      refine xi_iand C dL_acts_141 ?_
      refine xi_if_ne C (tgt := 149) dL_acts_142 rfl (fun c163 => ?_) (fun c163 => ?_)
      · refine xi_iconst C (v := 0) dL_acts_149 rfl ?_
        refine xi_istore C [1, 2, 3, 4, 5, 6, 0] (L2 := [(0, .ref a_o), (1, .ref qw), (2, .ref a_g), (3, .int (nI q)), (4, .int (nI e9)), (5, .int y), (6, .int 0)]) dL_acts_150 (Nat.le_of_ble_eq_true rfl) rfl ?_
        refine xi_drop (L2 := [(0, .ref a_o), (1, .ref qw), (2, .ref a_g), (3, .int (nI q)), (4, .int (nI e9)), (6, .int 0)]) [0, 1, 2, 3, 4, 6] rfl ?_
        exact K0 (fun z => c163 ((and2 hy g1 g2 (by omega)).mpr z.2))
      · refine xi_iconst C (v := 1) dL_acts_145 rfl ?_
        refine xi_goto C (tgt := 150) dL_acts_146 rfl ?_
        refine xi_istore C [1, 2, 3, 4, 5, 6, 0] (L2 := [(0, .ref a_o), (1, .ref qw), (2, .ref a_g), (3, .int (nI q)), (4, .int (nI e9)), (5, .int y), (6, .int 1)]) dL_acts_150 (Nat.le_of_ble_eq_true rfl) rfl ?_
        refine xi_drop (L2 := [(0, .ref a_o), (1, .ref qw), (2, .ref a_g), (3, .int (nI q)), (4, .int (nI e9)), (6, .int 1)]) [0, 1, 2, 3, 4, 6] rfl ?_
        exact K1 ⟨hu9, (and2 hy g1 g2 (by omega)).mp c163⟩
set_option maxRecDepth 100000 in
set_option maxHeartbeats 4000000 in
theorem kL_acts (l : Launch) (hls : l.stackTraces = false) (D : va_G) (cT : Nat → ClassId) {a_o qw a_g : Nat} {np nl : Nat} {a b c : Nat → Nat} {fw : Nat → Bool} {nb : Nat} {wb fb ub : Nat → Nat} {na : Nat} {wa fa ua : Nat → Nat} {cut S : Nat → Bool} {k : Nat → Nat} {rounds calls : Nat} {sp : Nat → Nat} {W : va_W} (hW : SW cT a_o qw a_g np nl a b c fw nb wb fb ub na wa fa ua cut S k rounds calls sp W) (hr : rounds < 90) : sE l yL_acts (zw yL_acts cL_acts 8 (some .boolean)) (zRA 70 3 30) 3 30 (some .boolean) D cT [.ref a_o, .ref qw, .ref a_g] W (fun r W2 => r = some (.int 1) ∧ ∃ (cut2 S2 : Nat → Bool) (k2 : Nat → Nat) (rounds2 calls2 : Nat) (sp2 : Nat → Nat), rounds2 ≤ rounds + 1 ∧ SW cT a_o qw a_g np nl a b c fw nb wb fb ub na wa fa ua cut2 S2 k2 rounds2 calls2 sp2 W2) := by
  obtain ⟨Wo, q_l, q_b, q_a, q_k, q_s, A_l, A_b, A_a, bs, bg, bc, f0, f1, f2, f3, f4, f5, vb, vw, kn, spv, gv, hO, ⟨hE, hc, hS, hb, ha, hk, hsp, hcS⟩, hp⟩ := hW
  have hnp := hE.1
  have hnl := hE.2.1
  refine sE_bool rfl (Nat.le_of_ble_eq_true rfl) ?_
  intro X C hR0
  have hR : ∀ (pc : Nat) (L : List (Nat × Value)) (W1 : va_W) (cut2 S2 : Nat → Bool) (k2 : Nat → Nat) (rounds2 calls2 : Nat) (sp2 : Nat → Nat), decode cL_acts pc = .ok (.ireturn, 1) → rounds2 ≤ rounds + 1 → SW cT a_o qw a_g np nl a b c fw nb wb fb ub na wa fa ua cut2 S2 k2 rounds2 calls2 sp2 W1 → sW X l (zRA 70 3 30) D 8 3 30 pc L [.int 1] W1 := fun pc L W1 cut2 S2 k2 rounds2 calls2 sp2 hd h1 h2 => hR0 pc L 1 W1 hd nb1 ⟨rfl, cut2, S2, k2, rounds2, calls2, sp2, h1, h2⟩
  refine xi_permL hp ?_
  refine xi_drop (L2 := [(0, .ref a_o), (1, .ref qw), (2, .ref a_g)]) [0, 1, 2] rfl ?_
  refine xi_aload_n C 1 dL_acts_0 rfl ?_
  refine xi_get C zkX12 1 _ zlL_56 (by decide) (zap2 rfl (zap2 rfl (zap2 rfl (zap1 (zWb_w))))) rfl dL_acts_1 ?_
  rcases Nat.eq_zero_or_pos nl with z | z
  · refine xi_rwi (y := 0) (by rw [z]; rfl) ?_
    refine xi_if_ne C (tgt := 11) dL_acts_4 rfl (fun c164 => False.elim ((fun z : ¬ ((0 : Int32) = 0) => z rfl) c164)) (fun c164 => ?_)
    refine xi_iconst C (v := (-1)) dL_acts_7 rfl ?_
    refine xi_goto C (tgt := 19) dL_acts_8 rfl ?_
    refine xi_istore_n C [1, 2, 3, 0] (L2 := [(0, .ref a_o), (1, .ref qw), (2, .ref a_g), (3, .int (-1))]) dL_acts_19 (Nat.le_of_ble_eq_true rfl) rfl ?_
    refine xi_aload_n C 2 dL_acts_20 rfl ?_
    refine xi_bipush C (v := 8) dL_acts_21 rfl ?_
    refine xi_rwi (y := nI 8) rfl ?_
    refine xi_callES C (kL_draw l D cT a_g gv (m := 8) (by decide) (by decide)) (Wo ++ (([(q_k, .inl (cT 0, np, .inl kn))] : va_W) ++ (([(q_s, .inl (cT 0, 100, .inl spv))] : va_W) ++ (zWb cT qw q_l q_b q_a q_k q_s (nI np) (nI nl) (nI rounds) (nI calls) bs bg bc nl nb na A_l A_b A_a f0 f1 f2 f3 f4 f5 vb vw ++ ([]))))) (by have h := permX (bs := [Wo, ([(q_k, .inl (cT 0, np, .inl kn))] : va_W), ([(q_s, .inl (cT 0, 100, .inl spv))] : va_W), zWb cT qw q_l q_b q_a q_k q_s (nI np) (nI nl) (nI rounds) (nI calls) bs bg bc nl nb na A_l A_b A_a f0 f1 f2 f3 f4 f5 vb vw, ([(a_g, .inl (cT 0, 1, .inl gv))] : va_W)]) (A := [([(a_g, .inl (cT 0, 1, .inl gv))] : va_W)]) (B := [Wo, ([(q_k, .inl (cT 0, np, .inl kn))] : va_W), ([(q_s, .inl (cT 0, 100, .inl spv))] : va_W), zWb cT qw q_l q_b q_a q_k q_s (nI np) (nI nl) (nI rounds) (nI calls) bs bg bc nl nb na A_l A_b A_a f0 f1 f2 f3 f4 f5 vb vw]) (n := 5) rfl [4, 0, 1, 2, 3] rfl (by decide) flat1; simp only [List.flatten_cons, List.flatten_nil] at h; exact h) zcL_draw zmL_35 zsL_draw (zrE rfl rfl) ⟨Nat.le_of_ble_eq_true rfl, Nat.le_of_ble_eq_true rfl⟩ rfl rfl (Nat.le_of_ble_eq_true rfl) dL_acts_23 (fun v168 W169 hv170 _ => ?_)
    obtain ⟨d165, gv166, hd167, rfl, rfl⟩ := hv170
    refine xi_eqw (ws2 := ([(a_g, .inl (cT 0, 1, .inl gv166))] : va_W) ++ (Wo ++ (([(q_k, .inl (cT 0, np, .inl kn))] : va_W) ++ (([(q_s, .inl (cT 0, 100, .inl spv))] : va_W) ++ (zWb cT qw q_l q_b q_a q_k q_s (nI np) (nI nl) (nI rounds) (nI calls) bs bg bc nl nb na A_l A_b A_a f0 f1 f2 f3 f4 f5 vb vw ++ ([])))))) rfl ?_
    refine xi_istore C [1, 2, 3, 4, 0] (L2 := [(0, .ref a_o), (1, .ref qw), (2, .ref a_g), (3, .int (-1)), (4, .int (nI d165))]) dL_acts_26 (Nat.le_of_ble_eq_true rfl) rfl ?_
    refine xi_iload_n C 3 dL_acts_28 rfl ?_
    refine xi_if_lt C (tgt := 203) dL_acts_29 rfl (fun c171 => ?_) (fun c171 => False.elim ((fun z : ¬ ((-1 : Int32) < 0) => z (by decide)) c171))
    refine xi_iload_n C 3 dL_acts_203 rfl ?_
    refine xi_if_lt C (tgt := 270) dL_acts_204 rfl (fun c172 => ?_) (fun c172 => False.elim ((fun z : ¬ ((-1 : Int32) < 0) => z (by decide)) c172))
    refine xi_iload_n C 3 dL_acts_270 rfl ?_
    refine xi_if_lt C (tgt := 364) dL_acts_271 rfl (fun c173 => ?_) (fun c173 => False.elim ((fun z : ¬ ((-1 : Int32) < 0) => z (by decide)) c173))
    refine xi_iload_n C 3 dL_acts_364 rfl ?_
    refine xi_if_lt C (tgt := 458) dL_acts_365 rfl (fun c174 => ?_) (fun c174 => False.elim ((fun z : ¬ ((-1 : Int32) < 0) => z (by decide)) c174))
    refine xi_drop (L2 := [(0, .ref a_o), (1, .ref qw), (2, .ref a_g), (4, .int (nI d165))]) [0, 1, 2, 4] rfl ?_
    refine xi_permL (ws2 := Wo ++ (([(q_k, .inl (cT 0, np, .inl kn))] : va_W) ++ (([(q_s, .inl (cT 0, 100, .inl spv))] : va_W) ++ (zWb cT qw q_l q_b q_a q_k q_s (nI np) (nI nl) (nI rounds) (nI calls) bs bg bc nl nb na A_l A_b A_a f0 f1 f2 f3 f4 f5 vb vw ++ (([(a_g, .inl (cT 0, 1, .inl gv166))] : va_W) ++ ([])))))) (by have h := permR (bs := [([(a_g, .inl (cT 0, 1, .inl gv166))] : va_W), Wo, ([(q_k, .inl (cT 0, np, .inl kn))] : va_W), ([(q_s, .inl (cT 0, 100, .inl spv))] : va_W), zWb cT qw q_l q_b q_a q_k q_s (nI np) (nI nl) (nI rounds) (nI calls) bs bg bc nl nb na A_l A_b A_a f0 f1 f2 f3 f4 f5 vb vw]) (bs2 := [Wo, ([(q_k, .inl (cT 0, np, .inl kn))] : va_W), ([(q_s, .inl (cT 0, 100, .inl spv))] : va_W), zWb cT qw q_l q_b q_a q_k q_s (nI np) (nI nl) (nI rounds) (nI calls) bs bg bc nl nb na A_l A_b A_a f0 f1 f2 f3 f4 f5 vb vw, ([(a_g, .inl (cT 0, 1, .inl gv166))] : va_W)]) (n := 5) rfl [1, 2, 3, 4, 0] rfl (by decide); simp only [List.flatten_cons, List.flatten_nil] at h; exact h) ?_
    exact acts_458 hls C hr hR hO hE hc hS hb ha hk hsp hcS hd167
  · refine xi_if_ne C (tgt := 11) dL_acts_4 rfl (fun c175 => ?_) (fun c175 => False.elim ((fun y => nI_ne0 z (by omega) y) c175))
    refine xi_aload_n C 2 dL_acts_11 rfl ?_
    refine xi_aload_n C 1 dL_acts_12 rfl ?_
    refine xi_get C zkX12 1 _ zlL_56 (by decide) (zap2 rfl (zap2 rfl (zap2 rfl (zap1 (zWb_w))))) rfl dL_acts_13 ?_
    refine xi_callES C (kL_draw l D cT a_g gv (m := nl) z (by omega)) (Wo ++ (([(q_k, .inl (cT 0, np, .inl kn))] : va_W) ++ (([(q_s, .inl (cT 0, 100, .inl spv))] : va_W) ++ (zWb cT qw q_l q_b q_a q_k q_s (nI np) (nI nl) (nI rounds) (nI calls) bs bg bc nl nb na A_l A_b A_a f0 f1 f2 f3 f4 f5 vb vw ++ ([]))))) (by have h := permX (bs := [Wo, ([(q_k, .inl (cT 0, np, .inl kn))] : va_W), ([(q_s, .inl (cT 0, 100, .inl spv))] : va_W), zWb cT qw q_l q_b q_a q_k q_s (nI np) (nI nl) (nI rounds) (nI calls) bs bg bc nl nb na A_l A_b A_a f0 f1 f2 f3 f4 f5 vb vw, ([(a_g, .inl (cT 0, 1, .inl gv))] : va_W)]) (A := [([(a_g, .inl (cT 0, 1, .inl gv))] : va_W)]) (B := [Wo, ([(q_k, .inl (cT 0, np, .inl kn))] : va_W), ([(q_s, .inl (cT 0, 100, .inl spv))] : va_W), zWb cT qw q_l q_b q_a q_k q_s (nI np) (nI nl) (nI rounds) (nI calls) bs bg bc nl nb na A_l A_b A_a f0 f1 f2 f3 f4 f5 vb vw]) (n := 5) rfl [4, 0, 1, 2, 3] rfl (by decide) flat1; simp only [List.flatten_cons, List.flatten_nil] at h; exact h) zcL_draw zmL_35 zsL_draw (zrE rfl rfl) ⟨Nat.le_of_ble_eq_true rfl, Nat.le_of_ble_eq_true rfl⟩ rfl rfl (Nat.le_of_ble_eq_true rfl) dL_acts_16 (fun v179 W180 hv181 _ => ?_)
    obtain ⟨d176, gv177, hd178, rfl, rfl⟩ := hv181
    refine xi_eqw (ws2 := ([(a_g, .inl (cT 0, 1, .inl gv177))] : va_W) ++ (Wo ++ (([(q_k, .inl (cT 0, np, .inl kn))] : va_W) ++ (([(q_s, .inl (cT 0, 100, .inl spv))] : va_W) ++ (zWb cT qw q_l q_b q_a q_k q_s (nI np) (nI nl) (nI rounds) (nI calls) bs bg bc nl nb na A_l A_b A_a f0 f1 f2 f3 f4 f5 vb vw ++ ([])))))) rfl ?_
    refine xi_istore_n C [1, 2, 3, 0] (L2 := [(0, .ref a_o), (1, .ref qw), (2, .ref a_g), (3, .int (nI d176))]) dL_acts_19 (Nat.le_of_ble_eq_true rfl) rfl ?_
    refine xi_aload_n C 2 dL_acts_20 rfl ?_
    refine xi_bipush C (v := 8) dL_acts_21 rfl ?_
    refine xi_rwi (y := nI 8) rfl ?_
    refine xi_callES C (kL_draw l D cT a_g gv177 (m := 8) (by decide) (by decide)) (Wo ++ (([(q_k, .inl (cT 0, np, .inl kn))] : va_W) ++ (([(q_s, .inl (cT 0, 100, .inl spv))] : va_W) ++ (zWb cT qw q_l q_b q_a q_k q_s (nI np) (nI nl) (nI rounds) (nI calls) bs bg bc nl nb na A_l A_b A_a f0 f1 f2 f3 f4 f5 vb vw ++ ([]))))) (by have h := permX (bs := [([(a_g, .inl (cT 0, 1, .inl gv177))] : va_W), Wo, ([(q_k, .inl (cT 0, np, .inl kn))] : va_W), ([(q_s, .inl (cT 0, 100, .inl spv))] : va_W), zWb cT qw q_l q_b q_a q_k q_s (nI np) (nI nl) (nI rounds) (nI calls) bs bg bc nl nb na A_l A_b A_a f0 f1 f2 f3 f4 f5 vb vw]) (A := [([(a_g, .inl (cT 0, 1, .inl gv177))] : va_W)]) (B := [Wo, ([(q_k, .inl (cT 0, np, .inl kn))] : va_W), ([(q_s, .inl (cT 0, 100, .inl spv))] : va_W), zWb cT qw q_l q_b q_a q_k q_s (nI np) (nI nl) (nI rounds) (nI calls) bs bg bc nl nb na A_l A_b A_a f0 f1 f2 f3 f4 f5 vb vw]) (n := 5) rfl [0, 1, 2, 3, 4] rfl (by decide) flat1; simp only [List.flatten_cons, List.flatten_nil] at h; exact h) zcL_draw zmL_35 zsL_draw (zrE rfl rfl) ⟨Nat.le_of_ble_eq_true rfl, Nat.le_of_ble_eq_true rfl⟩ rfl rfl (Nat.le_of_ble_eq_true rfl) dL_acts_23 (fun v185 W186 hv187 _ => ?_)
    obtain ⟨d182, gv183, hd184, rfl, rfl⟩ := hv187
    refine xi_eqw (ws2 := ([(a_g, .inl (cT 0, 1, .inl gv183))] : va_W) ++ (Wo ++ (([(q_k, .inl (cT 0, np, .inl kn))] : va_W) ++ (([(q_s, .inl (cT 0, 100, .inl spv))] : va_W) ++ (zWb cT qw q_l q_b q_a q_k q_s (nI np) (nI nl) (nI rounds) (nI calls) bs bg bc nl nb na A_l A_b A_a f0 f1 f2 f3 f4 f5 vb vw ++ ([])))))) rfl ?_
    refine xi_istore C [1, 2, 3, 4, 0] (L2 := [(0, .ref a_o), (1, .ref qw), (2, .ref a_g), (3, .int (nI d176)), (4, .int (nI d182))]) dL_acts_26 (Nat.le_of_ble_eq_true rfl) rfl ?_
    refine xi_permL (ws2 := Wo ++ (([(q_k, .inl (cT 0, np, .inl kn))] : va_W) ++ (([(q_s, .inl (cT 0, 100, .inl spv))] : va_W) ++ (zWb cT qw q_l q_b q_a q_k q_s (nI np) (nI nl) (nI rounds) (nI calls) bs bg bc nl nb na A_l A_b A_a f0 f1 f2 f3 f4 f5 vb vw ++ (([(a_g, .inl (cT 0, 1, .inl gv183))] : va_W) ++ ([])))))) (by have h := permR (bs := [([(a_g, .inl (cT 0, 1, .inl gv183))] : va_W), Wo, ([(q_k, .inl (cT 0, np, .inl kn))] : va_W), ([(q_s, .inl (cT 0, 100, .inl spv))] : va_W), zWb cT qw q_l q_b q_a q_k q_s (nI np) (nI nl) (nI rounds) (nI calls) bs bg bc nl nb na A_l A_b A_a f0 f1 f2 f3 f4 f5 vb vw]) (bs2 := [Wo, ([(q_k, .inl (cT 0, np, .inl kn))] : va_W), ([(q_s, .inl (cT 0, 100, .inl spv))] : va_W), zWb cT qw q_l q_b q_a q_k q_s (nI np) (nI nl) (nI rounds) (nI calls) bs bg bc nl nb na A_l A_b A_a f0 f1 f2 f3 f4 f5 vb vw, ([(a_g, .inl (cT 0, 1, .inl gv183))] : va_W)]) (n := 5) rfl [1, 2, 3, 4, 0] rfl (by decide); simp only [List.flatten_cons, List.flatten_nil] at h; exact h) ?_
    exact acts_28 hls C hr hR hO hE hc hS hb ha hk hsp hcS hd178 hd184
