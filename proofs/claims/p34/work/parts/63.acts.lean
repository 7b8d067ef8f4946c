/-! the law acts: the exchange and the web side by side -/
def SW (cT : Nat → ClassId) (a_o qw a_g : Nat) (np nl : Nat) (a b c : Nat → Nat) (fw : Nat → Bool) (nb : Nat) (wb fb ub : Nat → Nat) (na : Nat) (wa fa ua : Nat → Nat) (cut S : Nat → Bool) (k : Nat → Nat) (rounds calls : Nat) (sp : Nat → Nat) (W : va_W) : Prop := ∃ (Wo : va_W) (q_l q_b q_a q_k q_s : Nat) (A_l A_b A_a : Nat → Nat) (bs bg bc : Int32) (f0 f1 f2 f3 f4 f5 : Nat → Int32) (vb vw : Nat → Nat → Int32) (kn spv gv : Nat → Int32), OW cT a_o np nl a b c fw nb wb fb ub na wa fa ua cut S k rounds calls sp 0 Wo ∧ (hLn np nl a b c fw f0 f1 f2 f3 ∧ hFl nl cut f4 ∧ hFl nl S f5 ∧ hRw nb nl wb fb ub vb ∧ hRw na np wa fa ua vw ∧ hK np k kn ∧ (∀ i, i ≤ rounds → spv i = nI (sp i)) ∧ (∀ l, l < nl → cut l = true → S l = false)) ∧ W.Perm (Wo ++ (([(q_k, .inl (cT 0, np, .inl kn))] : va_W) ++ (([(q_s, .inl (cT 0, 100, .inl spv))] : va_W) ++ (zWb cT qw q_l q_b q_a q_k q_s (nI np) (nI nl) (nI rounds) (nI calls) bs bg bc nl nb na A_l A_b A_a f0 f1 f2 f3 f4 f5 vb vw ++ (([(a_g, .inl (cT 0, 1, .inl gv))] : va_W) ++ ([]))))))
set_option maxRecDepth 100000 in
set_option maxHeartbeats 4000000 in
theorem acts_649 {X : sX} {l : Launch} (hls : l.stackTraces = false) {D : va_G} {cT : Nat → ClassId} {a_o qw a_g : Nat} {np nl : Nat} {a b c : Nat → Nat} {fw : Nat → Bool} {nb : Nat} {wb fb ub : Nat → Nat} {na : Nat} {wa fa ua : Nat → Nat} {cut S : Nat → Bool} {k : Nat → Nat} {rounds calls : Nat} {sp : Nat → Nat} {q_l q_b q_a q_k q_s : Nat} {A_l A_b A_a : Nat → Nat} {bs bg bc : Int32} {f0 f1 f2 f3 f4 f5 : Nat → Int32} {vb vw : Nat → Nat → Int32} {kn spv gv : Nat → Int32} {Wo : va_W} (C : sC X (zRA 70 3 30) D cT 8 cL_acts yL_acts.cls) (hr : rounds < 90) (hR : ∀ (pc : Nat) (L : List (Nat × Value)) (W1 : va_W) (cut2 S2 : Nat → Bool) (k2 : Nat → Nat) (rounds2 calls2 : Nat) (sp2 : Nat → Nat), decode cL_acts pc = .ok (.ireturn, 1) → rounds2 ≤ rounds + 1 → SW cT a_o qw a_g np nl a b c fw nb wb fb ub na wa fa ua cut2 S2 k2 rounds2 calls2 sp2 W1 → sW X l (zRA 70 3 30) D 8 3 30 pc L [.int 1] W1) (hO : OW cT a_o np nl a b c fw nb wb fb ub na wa fa ua cut S k rounds calls sp 0 Wo) (hE : hLn np nl a b c fw f0 f1 f2 f3) (hc : hFl nl cut f4) (hS : hFl nl S f5) (hb : hRw nb nl wb fb ub vb) (ha : hRw na np wa fa ua vw) (hk : hK np k kn) (hsp : ∀ i, i ≤ rounds → spv i = nI (sp i)) (hcS : ∀ l, l < nl → cut l = true → S l = false)  : sW X l (zRA 70 3 30) D 8 0 0 649 [(0, .ref a_o), (1, .ref qw), (2, .ref a_g)] [] (Wo ++ (([(q_k, .inl (cT 0, np, .inl kn))] : va_W) ++ (([(q_s, .inl (cT 0, 100, .inl spv))] : va_W) ++ (zWb cT qw q_l q_b q_a q_k q_s (nI np) (nI nl) (nI rounds) (nI calls) bs bg bc nl nb na A_l A_b A_a f0 f1 f2 f3 f4 f5 vb vw ++ (([(a_g, .inl (cT 0, 1, .inl gv))] : va_W) ++ ([])))))) := by
  have hnp := hE.1
  have hnl := hE.2.1
  have hOf := OW_facts hO
  obtain ⟨x, hx, hxS⟩ := wArranged hnl hS
  refine xi_aload_n C 1 dL_acts_649 rfl ?_
  refine xi_callEV C (sE_of_sM (kX12_arranged l D cT qw q_l q_b q_a q_k q_s A_l A_b A_a nl nb na (nI np) (nI nl) (nI rounds) (nI calls) bs bg bc f0 f1 f2 f3 f4 f5 vb vw (by omega) _ hx)) (Wo ++ (([(q_k, .inl (cT 0, np, .inl kn))] : va_W) ++ (([(q_s, .inl (cT 0, 100, .inl spv))] : va_W) ++ (([(a_g, .inl (cT 0, 1, .inl gv))] : va_W) ++ ([]))))) (by have h := permX (bs := [Wo, ([(q_k, .inl (cT 0, np, .inl kn))] : va_W), ([(q_s, .inl (cT 0, 100, .inl spv))] : va_W), zWb cT qw q_l q_b q_a q_k q_s (nI np) (nI nl) (nI rounds) (nI calls) bs bg bc nl nb na A_l A_b A_a f0 f1 f2 f3 f4 f5 vb vw, ([(a_g, .inl (cT 0, 1, .inl gv))] : va_W)]) (A := [zWb cT qw q_l q_b q_a q_k q_s (nI np) (nI nl) (nI rounds) (nI calls) bs bg bc nl nb na A_l A_b A_a f0 f1 f2 f3 f4 f5 vb vw]) (B := [Wo, ([(q_k, .inl (cT 0, np, .inl kn))] : va_W), ([(q_s, .inl (cT 0, 100, .inl spv))] : va_W), ([(a_g, .inl (cT 0, 1, .inl gv))] : va_W)]) (n := 5) rfl [3, 0, 1, 2, 4] rfl (by decide) flat1; simp only [List.flatten_cons, List.flatten_nil] at h; exact h) zcX12_arranged zmL_143 ziX12_arranged (zrE rfl rfl) ⟨Nat.le_of_ble_eq_true rfl, Nat.le_of_ble_eq_true rfl⟩ rfl zkX12.1 (qr := 0) rfl rfl (Nat.le_of_ble_eq_true rfl) dL_acts_650 (fun v1 W2 hv3 _ => ?_)
  obtain ⟨rfl, rfl⟩ := hv3
  refine xi_eqw (ws2 := zWb cT qw q_l q_b q_a q_k q_s (nI np) (nI nl) (nI rounds) (nI calls) bs bg bc nl nb na A_l A_b A_a f0 f1 f2 f3 f4 f5 vb vw ++ (Wo ++ (([(q_k, .inl (cT 0, np, .inl kn))] : va_W) ++ (([(q_s, .inl (cT 0, 100, .inl spv))] : va_W) ++ (([(a_g, .inl (cT 0, 1, .inl gv))] : va_W) ++ ([])))))) rfl ?_
  refine xi_istore C [1, 2, 3, 0] (L2 := [(0, .ref a_o), (1, .ref qw), (2, .ref a_g), (5, .int x)]) dL_acts_653 (Nat.le_of_ble_eq_true rfl) rfl ?_
  refine xi_aload_n C 1 dL_acts_655 rfl ?_
  refine xi_iload C 3 dL_acts_656 rfl ?_
  refine xi_aload_n C 1 dL_acts_658 rfl ?_
  refine xi_get C zkX12 7 _ zlL_98 (by decide) (zap1 (zWb_w)) rfl dL_acts_659 ?_
  refine xi_callEV C (sE_of_sM (kX12_gainOf l D cT qw q_l q_b q_a q_k q_s q_k A_l A_b A_a nl nb na np (nI np) (nI nl) (nI rounds) (nI calls) bs bg bc f0 f1 f2 f3 f4 f5 vb vw kn x (by omega) _ (wGainOf hE hk hxS))) (Wo ++ (([(q_s, .inl (cT 0, 100, .inl spv))] : va_W) ++ (([(a_g, .inl (cT 0, 1, .inl gv))] : va_W) ++ ([])))) (by have h := permX (bs := [zWb cT qw q_l q_b q_a q_k q_s (nI np) (nI nl) (nI rounds) (nI calls) bs bg bc nl nb na A_l A_b A_a f0 f1 f2 f3 f4 f5 vb vw, Wo, ([(q_k, .inl (cT 0, np, .inl kn))] : va_W), ([(q_s, .inl (cT 0, 100, .inl spv))] : va_W), ([(a_g, .inl (cT 0, 1, .inl gv))] : va_W)]) (A := [([(q_k, .inl (cT 0, np, .inl kn))] : va_W), zWb cT qw q_l q_b q_a q_k q_s (nI np) (nI nl) (nI rounds) (nI calls) bs bg bc nl nb na A_l A_b A_a f0 f1 f2 f3 f4 f5 vb vw]) (B := [Wo, ([(q_s, .inl (cT 0, 100, .inl spv))] : va_W), ([(a_g, .inl (cT 0, 1, .inl gv))] : va_W)]) (n := 5) rfl [2, 0, 1, 3, 4] rfl (by decide) flatXA; simp only [List.flatten_cons, List.flatten_nil] at h; exact h) zcX12_gainOf zmL_145 ziX12_gainOf (zrE rfl rfl) ⟨Nat.le_of_ble_eq_true rfl, Nat.le_of_ble_eq_true rfl⟩ rfl zkX12.1 (qr := 1) rfl rfl (Nat.le_of_ble_eq_true rfl) dL_acts_662 (fun v4 W5 hv6 _ => ?_)
  obtain ⟨rfl, rfl⟩ := hv6
  refine xi_eqw (ws2 := ([(q_k, .inl (cT 0, np, .inl kn))] : va_W) ++ (zWb cT qw q_l q_b q_a q_k q_s (nI np) (nI nl) (nI rounds) (nI calls) bs bg bc nl nb na A_l A_b A_a f0 f1 f2 f3 f4 f5 vb vw ++ (Wo ++ (([(q_s, .inl (cT 0, 100, .inl spv))] : va_W) ++ (([(a_g, .inl (cT 0, 1, .inl gv))] : va_W) ++ ([])))))) rfl ?_
  refine xi_istore C [1, 2, 3, 4, 0] (L2 := [(0, .ref a_o), (1, .ref qw), (2, .ref a_g), (5, .int x), (6, .int (nI (nsum S (gn a b fw k) nl)))]) dL_acts_665 (Nat.le_of_ble_eq_true rfl) rfl ?_
  refine xi_aload_n C 1 dL_acts_667 rfl ?_
  refine xi_aload_n C 1 dL_acts_668 rfl ?_
  refine xi_iload C 3 dL_acts_669 rfl ?_
  refine xi_aload_n C 1 dL_acts_671 rfl ?_
  refine xi_get C zkX12 7 _ zlL_98 (by decide) (zap2 rfl (zap1 (zWb_w))) rfl dL_acts_672 ?_
  obtain ⟨r2, hr2, hk2⟩ := wAfter hE hk hxS
  refine xi_callEV C (kX12_after l D cT qw q_l q_b q_a q_k q_s q_k A_l A_b A_a nl nb na np (nI np) (nI nl) (nI rounds) (nI calls) bs bg bc f0 f1 f2 f3 f4 f5 vb vw kn x (by omega) (by omega) _ hr2) (Wo ++ (([(q_s, .inl (cT 0, 100, .inl spv))] : va_W) ++ (([(a_g, .inl (cT 0, 1, .inl gv))] : va_W) ++ ([])))) (by have h := permX (bs := [([(q_k, .inl (cT 0, np, .inl kn))] : va_W), zWb cT qw q_l q_b q_a q_k q_s (nI np) (nI nl) (nI rounds) (nI calls) bs bg bc nl nb na A_l A_b A_a f0 f1 f2 f3 f4 f5 vb vw, Wo, ([(q_s, .inl (cT 0, 100, .inl spv))] : va_W), ([(a_g, .inl (cT 0, 1, .inl gv))] : va_W)]) (A := [([(q_k, .inl (cT 0, np, .inl kn))] : va_W), zWb cT qw q_l q_b q_a q_k q_s (nI np) (nI nl) (nI rounds) (nI calls) bs bg bc nl nb na A_l A_b A_a f0 f1 f2 f3 f4 f5 vb vw]) (B := [Wo, ([(q_s, .inl (cT 0, 100, .inl spv))] : va_W), ([(a_g, .inl (cT 0, 1, .inl gv))] : va_W)]) (n := 5) rfl [0, 1, 2, 3, 4] rfl (by decide) flatXA; simp only [List.flatten_cons, List.flatten_nil] at h; exact h) zcX12_after zmL_179 ziX12_after (zrA rfl rfl) ⟨Nat.le_of_ble_eq_true rfl, Nat.le_of_ble_eq_true rfl⟩ rfl zkX12.1 (qr := 1) rfl rfl (Nat.le_of_ble_eq_true rfl) dL_acts_675 (fun v7 W8 hv9 _ => ?_)
  obtain ⟨an, rfl, rfl⟩ := hv9
  refine xi_eqw (ws2 := ([(an, .inl (cT 0, np, .inl r2))] : va_W) ++ (([(q_k, .inl (cT 0, np, .inl kn))] : va_W) ++ (zWb cT qw q_l q_b q_a q_k q_s (nI np) (nI nl) (nI rounds) (nI calls) bs bg bc nl nb na A_l A_b A_a f0 f1 f2 f3 f4 f5 vb vw ++ (Wo ++ (([(q_s, .inl (cT 0, 100, .inl spv))] : va_W) ++ (([(a_g, .inl (cT 0, 1, .inl gv))] : va_W) ++ ([]))))))) rfl ?_
  refine xi_put C zkX12 7 _ zlL_98 (by decide) (zap2 rfl (zap2 rfl (zap1 (zWb_w)))) rfl rfl rfl (Nat.le_of_ble_eq_true rfl) dL_acts_678 (ws2 := ([(an, .inl (cT 0, np, .inl r2))] : va_W) ++ (([(q_k, .inl (cT 0, np, .inl kn))] : va_W) ++ (zWb cT qw q_l q_b q_a an q_s (nI np) (nI nl) (nI rounds) (nI calls) bs bg bc nl nb na A_l A_b A_a f0 f1 f2 f3 f4 f5 vb vw ++ (Wo ++ (([(q_s, .inl (cT 0, 100, .inl spv))] : va_W) ++ (([(a_g, .inl (cT 0, 1, .inl gv))] : va_W) ++ ([]))))))) (zse2 rfl (zse2 rfl (zse1 (zWb_len rfl) rfl))) ?_
  refine xi_aload_n C 1 dL_acts_681 rfl ?_
  refine xi_dup C dL_acts_682 rfl ?_
  refine xi_get C zkX12 3 _ zlL_183 (by decide) (zap2 rfl (zap2 rfl (zap1 (zWb_w)))) rfl dL_acts_683 ?_
  refine xi_iload C 3 dL_acts_686 rfl ?_
  refine xi_callES C (sE_of_sM (kJ6_bitCount_0f7a4 l D cT x (nI (cnt nl S)) (cntV hnl hxS))) (([(an, .inl (cT 0, np, .inl r2))] : va_W) ++ (([(q_k, .inl (cT 0, np, .inl kn))] : va_W) ++ (zWb cT qw q_l q_b q_a an q_s (nI np) (nI nl) (nI rounds) (nI calls) bs bg bc nl nb na A_l A_b A_a f0 f1 f2 f3 f4 f5 vb vw ++ (Wo ++ (([(q_s, .inl (cT 0, 100, .inl spv))] : va_W) ++ (([(a_g, .inl (cT 0, 1, .inl gv))] : va_W) ++ ([]))))))) (by have h := permX (bs := [([(an, .inl (cT 0, np, .inl r2))] : va_W), ([(q_k, .inl (cT 0, np, .inl kn))] : va_W), zWb cT qw q_l q_b q_a an q_s (nI np) (nI nl) (nI rounds) (nI calls) bs bg bc nl nb na A_l A_b A_a f0 f1 f2 f3 f4 f5 vb vw, Wo, ([(q_s, .inl (cT 0, 100, .inl spv))] : va_W), ([(a_g, .inl (cT 0, 1, .inl gv))] : va_W)]) (A := []) (B := [([(an, .inl (cT 0, np, .inl r2))] : va_W), ([(q_k, .inl (cT 0, np, .inl kn))] : va_W), zWb cT qw q_l q_b q_a an q_s (nI np) (nI nl) (nI rounds) (nI calls) bs bg bc nl nb na A_l A_b A_a f0 f1 f2 f3 f4 f5 vb vw, Wo, ([(q_s, .inl (cT 0, 100, .inl spv))] : va_W), ([(a_g, .inl (cT 0, 1, .inl gv))] : va_W)]) (n := 6) rfl [0, 1, 2, 3, 4, 5] rfl (by decide) rfl; simp only [List.flatten_cons, List.flatten_nil] at h; exact h) zcJ6_bitCount_0f7a4 zmL_174 zsJ6_bitCount_0f7a4 (zrE rfl rfl) ⟨Nat.le_of_ble_eq_true rfl, Nat.le_of_ble_eq_true rfl⟩ rfl rfl (Nat.le_of_ble_eq_true rfl) dL_acts_688 (fun v10 W11 hv12 _ => ?_)
  obtain ⟨rfl, rfl⟩ := hv12
  refine xi_eqw (ws2 := ([] : va_W) ++ (([(an, .inl (cT 0, np, .inl r2))] : va_W) ++ (([(q_k, .inl (cT 0, np, .inl kn))] : va_W) ++ (zWb cT qw q_l q_b q_a an q_s (nI np) (nI nl) (nI rounds) (nI calls) bs bg bc nl nb na A_l A_b A_a f0 f1 f2 f3 f4 f5 vb vw ++ (Wo ++ (([(q_s, .inl (cT 0, 100, .inl spv))] : va_W) ++ (([(a_g, .inl (cT 0, 1, .inl gv))] : va_W) ++ ([])))))))) rfl ?_
  refine xi_permL (ws2 := ([(an, .inl (cT 0, np, .inl r2))] : va_W) ++ (([(q_k, .inl (cT 0, np, .inl kn))] : va_W) ++ (zWb cT qw q_l q_b q_a an q_s (nI np) (nI nl) (nI rounds) (nI calls) bs bg bc nl nb na A_l A_b A_a f0 f1 f2 f3 f4 f5 vb vw ++ (Wo ++ (([(q_s, .inl (cT 0, 100, .inl spv))] : va_W) ++ (([(a_g, .inl (cT 0, 1, .inl gv))] : va_W) ++ (([] : va_W) ++ ([])))))))) (by have h := permR (bs := [([] : va_W), ([(an, .inl (cT 0, np, .inl r2))] : va_W), ([(q_k, .inl (cT 0, np, .inl kn))] : va_W), zWb cT qw q_l q_b q_a an q_s (nI np) (nI nl) (nI rounds) (nI calls) bs bg bc nl nb na A_l A_b A_a f0 f1 f2 f3 f4 f5 vb vw, Wo, ([(q_s, .inl (cT 0, 100, .inl spv))] : va_W), ([(a_g, .inl (cT 0, 1, .inl gv))] : va_W)]) (bs2 := [([(an, .inl (cT 0, np, .inl r2))] : va_W), ([(q_k, .inl (cT 0, np, .inl kn))] : va_W), zWb cT qw q_l q_b q_a an q_s (nI np) (nI nl) (nI rounds) (nI calls) bs bg bc nl nb na A_l A_b A_a f0 f1 f2 f3 f4 f5 vb vw, Wo, ([(q_s, .inl (cT 0, 100, .inl spv))] : va_W), ([(a_g, .inl (cT 0, 1, .inl gv))] : va_W), ([] : va_W)]) (n := 7) rfl [1, 2, 3, 4, 5, 6, 0] rfl (by decide); simp only [List.flatten_cons, List.flatten_nil] at h; exact h) ?_
  refine xi_eqw (ws2 := ([(an, .inl (cT 0, np, .inl r2))] : va_W) ++ (([(q_k, .inl (cT 0, np, .inl kn))] : va_W) ++ (zWb cT qw q_l q_b q_a an q_s (nI np) (nI nl) (nI rounds) (nI calls) bs bg bc nl nb na A_l A_b A_a f0 f1 f2 f3 f4 f5 vb vw ++ (Wo ++ (([(q_s, .inl (cT 0, 100, .inl spv))] : va_W) ++ (([(a_g, .inl (cT 0, 1, .inl gv))] : va_W) ++ ([]))))))) rfl ?_
  refine xi_iadd C dL_acts_691 ?_
  refine xi_rwi (y := nI (calls + cnt nl S)) (nI_add calls (cnt nl S)) ?_
  refine xi_put C zkX12 3 _ zlL_183 (by decide) (zap2 rfl (zap2 rfl (zap1 (zWb_w)))) rfl rfl rfl (Nat.le_of_ble_eq_true rfl) dL_acts_692 (ws2 := ([(an, .inl (cT 0, np, .inl r2))] : va_W) ++ (([(q_k, .inl (cT 0, np, .inl kn))] : va_W) ++ (zWb cT qw q_l q_b q_a an q_s (nI np) (nI nl) (nI rounds) (nI (calls + cnt nl S)) bs bg bc nl nb na A_l A_b A_a f0 f1 f2 f3 f4 f5 vb vw ++ (Wo ++ (([(q_s, .inl (cT 0, 100, .inl spv))] : va_W) ++ (([(a_g, .inl (cT 0, 1, .inl gv))] : va_W) ++ ([]))))))) (zse2 rfl (zse2 rfl (zse1 (zWb_len rfl) rfl))) ?_
  refine xi_aload_n C 1 dL_acts_695 rfl ?_
  refine xi_dup C dL_acts_696 rfl ?_
  refine xi_get C zkX12 2 _ zlL_132 (by decide) (zap2 rfl (zap2 rfl (zap1 (zWb_w)))) rfl dL_acts_697 ?_
  refine xi_iconst C (v := 1) dL_acts_700 rfl ?_
  refine xi_iadd C dL_acts_701 ?_
  refine xi_rwi (y := nI (rounds + 1)) (nI_1 rounds) ?_
  refine xi_put C zkX12 2 _ zlL_132 (by decide) (zap2 rfl (zap2 rfl (zap1 (zWb_w)))) rfl rfl rfl (Nat.le_of_ble_eq_true rfl) dL_acts_702 (ws2 := ([(an, .inl (cT 0, np, .inl r2))] : va_W) ++ (([(q_k, .inl (cT 0, np, .inl kn))] : va_W) ++ (zWb cT qw q_l q_b q_a an q_s (nI np) (nI nl) (nI (rounds + 1)) (nI (calls + cnt nl S)) bs bg bc nl nb na A_l A_b A_a f0 f1 f2 f3 f4 f5 vb vw ++ (Wo ++ (([(q_s, .inl (cT 0, 100, .inl spv))] : va_W) ++ (([(a_g, .inl (cT 0, 1, .inl gv))] : va_W) ++ ([]))))))) (zse2 rfl (zse2 rfl (zse1 (zWb_len rfl) rfl))) ?_
  refine xi_aload_n C 1 dL_acts_705 rfl ?_
  refine xi_get C zkX12 8 _ zlL_186 (by decide) (zap2 rfl (zap2 rfl (zap1 (zWb_w)))) rfl dL_acts_706 ?_
  refine xi_aload_n C 1 dL_acts_709 rfl ?_
  refine xi_get C zkX12 2 _ zlL_132 (by decide) (zap2 rfl (zap2 rfl (zap1 (zWb_w)))) rfl dL_acts_710 ?_
  refine xi_aload_n C 1 dL_acts_713 rfl ?_
  refine xi_get C zkX12 8 _ zlL_186 (by decide) (zap2 rfl (zap2 rfl (zap1 (zWb_w)))) rfl dL_acts_714 ?_
  refine xi_aload_n C 1 dL_acts_717 rfl ?_
  refine xi_get C zkX12 2 _ zlL_132 (by decide) (zap2 rfl (zap2 rfl (zap1 (zWb_w)))) rfl dL_acts_718 ?_
  refine xi_iconst C (v := 1) dL_acts_721 rfl ?_
  refine xi_isub C dL_acts_722 ?_
  refine xi_rwi (y := nI rounds) (nI_pred rounds) ?_
  refine xw_iald C _ (zap2 rfl (zap2 rfl (zap2 rfl (zap2 rfl (zap1 ((rfl : (([(q_s, .inl (cT 0, 100, .inl spv))] : va_W) : va_W)[0]? = some _))))))) (by omega) (by decide) dL_acts_723 ?_
  refine xi_rwi (y := nI (sp rounds)) (hsp rounds (Nat.le_refl _)) ?_
  refine xi_aload_n C 1 dL_acts_724 rfl ?_
  refine xi_iload C 3 dL_acts_725 rfl ?_
  refine xi_callEV C (sE_of_sM (kX12_cost l D cT qw q_l q_b q_a an q_s A_l A_b A_a nl nb na (nI np) (nI nl) (nI (rounds + 1)) (nI (calls + cnt nl S)) bs bg bc f0 f1 f2 f3 f4 f5 vb vw x (by omega) _ (wCost hE hxS))) (([(an, .inl (cT 0, np, .inl r2))] : va_W) ++ (([(q_k, .inl (cT 0, np, .inl kn))] : va_W) ++ (Wo ++ (([(q_s, .inl (cT 0, 100, .inl spv))] : va_W) ++ (([(a_g, .inl (cT 0, 1, .inl gv))] : va_W) ++ ([])))))) (by have h := permX (bs := [([(an, .inl (cT 0, np, .inl r2))] : va_W), ([(q_k, .inl (cT 0, np, .inl kn))] : va_W), zWb cT qw q_l q_b q_a an q_s (nI np) (nI nl) (nI (rounds + 1)) (nI (calls + cnt nl S)) bs bg bc nl nb na A_l A_b A_a f0 f1 f2 f3 f4 f5 vb vw, Wo, ([(q_s, .inl (cT 0, 100, .inl spv))] : va_W), ([(a_g, .inl (cT 0, 1, .inl gv))] : va_W)]) (A := [zWb cT qw q_l q_b q_a an q_s (nI np) (nI nl) (nI (rounds + 1)) (nI (calls + cnt nl S)) bs bg bc nl nb na A_l A_b A_a f0 f1 f2 f3 f4 f5 vb vw]) (B := [([(an, .inl (cT 0, np, .inl r2))] : va_W), ([(q_k, .inl (cT 0, np, .inl kn))] : va_W), Wo, ([(q_s, .inl (cT 0, 100, .inl spv))] : va_W), ([(a_g, .inl (cT 0, 1, .inl gv))] : va_W)]) (n := 6) rfl [2, 0, 1, 3, 4, 5] rfl (by decide) flat1; simp only [List.flatten_cons, List.flatten_nil] at h; exact h) zcX12_cost zmL_189 ziX12_cost (zrE rfl rfl) ⟨Nat.le_of_ble_eq_true rfl, Nat.le_of_ble_eq_true rfl⟩ rfl zkX12.1 (qr := 0) rfl rfl (Nat.le_of_ble_eq_true rfl) dL_acts_727 (fun v13 W14 hv15 _ => ?_)
  obtain ⟨rfl, rfl⟩ := hv15
  refine xi_eqw (ws2 := zWb cT qw q_l q_b q_a an q_s (nI np) (nI nl) (nI (rounds + 1)) (nI (calls + cnt nl S)) bs bg bc nl nb na A_l A_b A_a f0 f1 f2 f3 f4 f5 vb vw ++ (([(an, .inl (cT 0, np, .inl r2))] : va_W) ++ (([(q_k, .inl (cT 0, np, .inl kn))] : va_W) ++ (Wo ++ (([(q_s, .inl (cT 0, 100, .inl spv))] : va_W) ++ (([(a_g, .inl (cT 0, 1, .inl gv))] : va_W) ++ ([]))))))) rfl ?_
  refine xi_iadd C dL_acts_730 ?_
  refine xi_rwi (y := nI (sp rounds + nsum S c nl)) (nI_add (sp rounds) (nsum S c nl)) ?_
  refine xw_iast C _ (zap2 rfl (zap2 rfl (zap2 rfl (zap2 rfl (zap1 ((rfl : (([(q_s, .inl (cT 0, 100, .inl spv))] : va_W) : va_W)[0]? = some _))))))) (by omega) (by decide) dL_acts_731 (ws2 := zWb cT qw q_l q_b q_a an q_s (nI np) (nI nl) (nI (rounds + 1)) (nI (calls + cnt nl S)) bs bg bc nl nb na A_l A_b A_a f0 f1 f2 f3 f4 f5 vb vw ++ (([(an, .inl (cT 0, np, .inl r2))] : va_W) ++ (([(q_k, .inl (cT 0, np, .inl kn))] : va_W) ++ (Wo ++ (([(q_s, .inl (cT 0, 100, .inl (upd spv (rounds + 1) (nI (sp rounds + nsum S c nl)))))] : va_W) ++ (([(a_g, .inl (cT 0, 1, .inl gv))] : va_W) ++ ([]))))))) (zse2 rfl (zse2 rfl (zse2 rfl (zse2 rfl (zse1 (Nat.zero_lt_succ _) rfl))))) ?_
  refine xi_iconst C (v := 0) dL_acts_732 rfl ?_
  refine xi_istore C [1, 2, 3, 4, 5, 0] (L2 := [(0, .ref a_o), (1, .ref qw), (2, .ref a_g), (5, .int x), (6, .int (nI (nsum S (gn a b fw k) nl))), (7, .int 0)]) dL_acts_733 (Nat.le_of_ble_eq_true rfl) rfl ?_
  have hsp2 : ∀ i, i ≤ rounds + 1 → upd spv (rounds + 1) (nI (sp rounds + nsum S c nl)) i = nI ((fun i => if i = rounds + 1 then sp rounds + nsum S c nl else sp i) i) := fun i hi => by
    show _ = nI (if i = rounds + 1 then sp rounds + nsum S c nl else sp i)
    by_cases e : i = rounds + 1
    · rw [if_pos e, e, pk_us]
    · rw [if_neg e, pk_un e]
      exact hsp i (by omega)
  refine xi_drop (L2 := [(0, .ref a_o), (1, .ref qw), (2, .ref a_g), (6, .int (nI (nsum S (gn a b fw k) nl))), (7, .int 0)]) [0, 1, 2, 4, 5] rfl ?_
  have L : ∀ (d l0 : Nat) (g5 : Nat → Int32), l0 ≤ nl → nl - l0 < d → (∀ i, i < l0 → g5 i = 0) → sW X l (zRA 70 3 30) D 8 1 10 735 [(0, .ref a_o), (1, .ref qw), (2, .ref a_g), (6, .int (nI (nsum S (gn a b fw k) nl))), (7, .int (nI l0))] [] (zWb cT qw q_l q_b q_a an q_s (nI np) (nI nl) (nI (rounds + 1)) (nI (calls + cnt nl S)) bs bg bc nl nb na A_l A_b A_a f0 f1 f2 f3 f4 g5 vb vw ++ (([(an, .inl (cT 0, np, .inl r2))] : va_W) ++ (([(q_k, .inl (cT 0, np, .inl kn))] : va_W) ++ (Wo ++ (([(q_s, .inl (cT 0, 100, .inl (upd spv (rounds + 1) (nI (sp rounds + nsum S c nl)))))] : va_W) ++ (([(a_g, .inl (cT 0, 1, .inl gv))] : va_W) ++ ([]))))))) := by
    intro d
    induction d with
    | zero => intro l0 g5 h1 h2; omega
    | succ d ih =>
      intro l0 g5 h1 h2 h3
      refine xi_iload C 4 dL_acts_735 rfl ?_
      refine xi_aload_n C 1 dL_acts_737 rfl ?_
      refine xi_get C zkX12 1 _ zlL_56 (by decide) (zap1 (zWb_w)) rfl dL_acts_738 ?_
      refine xi_icmp_ge C (tgt := 761) dL_acts_741 rfl (fun c16 => ?_) (fun c16 => ?_)
      · have e := nll c16 (by omega) (by omega)
        refine xi_aload_n C 0 dL_acts_761 rfl ?_
        obtain ⟨qr1, fs1, hq1⟩ := OW_at hO
        refine xi_callEV C (kO_ring l D cT hO (by omega)) (zWb cT qw q_l q_b q_a an q_s (nI np) (nI nl) (nI (rounds + 1)) (nI (calls + cnt nl S)) bs bg bc nl nb na A_l A_b A_a f0 f1 f2 f3 f4 g5 vb vw ++ (([(an, .inl (cT 0, np, .inl r2))] : va_W) ++ (([(q_k, .inl (cT 0, np, .inl kn))] : va_W) ++ (([(q_s, .inl (cT 0, 100, .inl (upd spv (rounds + 1) (nI (sp rounds + nsum S c nl)))))] : va_W) ++ (([(a_g, .inl (cT 0, 1, .inl gv))] : va_W) ++ ([])))))) (by have h := permX (bs := [zWb cT qw q_l q_b q_a an q_s (nI np) (nI nl) (nI (rounds + 1)) (nI (calls + cnt nl S)) bs bg bc nl nb na A_l A_b A_a f0 f1 f2 f3 f4 g5 vb vw, ([(an, .inl (cT 0, np, .inl r2))] : va_W), ([(q_k, .inl (cT 0, np, .inl kn))] : va_W), Wo, ([(q_s, .inl (cT 0, 100, .inl (upd spv (rounds + 1) (nI (sp rounds + nsum S c nl)))))] : va_W), ([(a_g, .inl (cT 0, 1, .inl gv))] : va_W)]) (A := [Wo]) (B := [zWb cT qw q_l q_b q_a an q_s (nI np) (nI nl) (nI (rounds + 1)) (nI (calls + cnt nl S)) bs bg bc nl nb na A_l A_b A_a f0 f1 f2 f3 f4 g5 vb vw, ([(an, .inl (cT 0, np, .inl r2))] : va_W), ([(q_k, .inl (cT 0, np, .inl kn))] : va_W), ([(q_s, .inl (cT 0, 100, .inl (upd spv (rounds + 1) (nI (sp rounds + nsum S c nl)))))] : va_W), ([(a_g, .inl (cT 0, 1, .inl gv))] : va_W)]) (n := 6) rfl [3, 0, 1, 2, 4, 5] rfl (by decide) flat1; simp only [List.flatten_cons, List.flatten_nil] at h; exact h) zcX10_ring zmL_191 ziX10_ring (zrA rfl rfl) ⟨Nat.le_of_ble_eq_true rfl, Nat.le_of_ble_eq_true rfl⟩ rfl zkX10.1 (qr := qr1) hq1 rfl (Nat.le_of_ble_eq_true rfl) dL_acts_762 (fun v17 W18 hv19 _ => ?_)
        obtain ⟨rfl, hO2⟩ := hv19
        refine xi_eqw (ws2 := W18 ++ (zWb cT qw q_l q_b q_a an q_s (nI np) (nI nl) (nI (rounds + 1)) (nI (calls + cnt nl S)) bs bg bc nl nb na A_l A_b A_a f0 f1 f2 f3 f4 g5 vb vw ++ (([(an, .inl (cT 0, np, .inl r2))] : va_W) ++ (([(q_k, .inl (cT 0, np, .inl kn))] : va_W) ++ (([(q_s, .inl (cT 0, 100, .inl (upd spv (rounds + 1) (nI (sp rounds + nsum S c nl)))))] : va_W) ++ (([(a_g, .inl (cT 0, 1, .inl gv))] : va_W) ++ ([]))))))) rfl ?_
        refine xi_iload C 3 dL_acts_765 rfl ?_
        refine xi_icmp_ne C (tgt := 774) dL_acts_767 rfl (fun c20 => False.elim ((fun z => z rfl) c20)) (fun c20 => ?_)
        refine xi_iconst C (v := 1) dL_acts_770 rfl ?_
        refine xi_goto C (tgt := 775) dL_acts_771 rfl ?_
        refine xi_permL (ws2 := ([(q_k, .inl (cT 0, np, .inl kn))] : va_W) ++ (W18 ++ (([(an, .inl (cT 0, np, .inl r2))] : va_W) ++ (([(q_s, .inl (cT 0, 100, .inl (upd spv (rounds + 1) (nI (sp rounds + nsum S c nl)))))] : va_W) ++ (zWb cT qw q_l q_b q_a an q_s (nI np) (nI nl) (nI (rounds + 1)) (nI (calls + cnt nl S)) bs bg bc nl nb na A_l A_b A_a f0 f1 f2 f3 f4 g5 vb vw ++ (([(a_g, .inl (cT 0, 1, .inl gv))] : va_W) ++ ([]))))))) (by have h := permR (bs := [W18, zWb cT qw q_l q_b q_a an q_s (nI np) (nI nl) (nI (rounds + 1)) (nI (calls + cnt nl S)) bs bg bc nl nb na A_l A_b A_a f0 f1 f2 f3 f4 g5 vb vw, ([(an, .inl (cT 0, np, .inl r2))] : va_W), ([(q_k, .inl (cT 0, np, .inl kn))] : va_W), ([(q_s, .inl (cT 0, 100, .inl (upd spv (rounds + 1) (nI (sp rounds + nsum S c nl)))))] : va_W), ([(a_g, .inl (cT 0, 1, .inl gv))] : va_W)]) (bs2 := [([(q_k, .inl (cT 0, np, .inl kn))] : va_W), W18, ([(an, .inl (cT 0, np, .inl r2))] : va_W), ([(q_s, .inl (cT 0, 100, .inl (upd spv (rounds + 1) (nI (sp rounds + nsum S c nl)))))] : va_W), zWb cT qw q_l q_b q_a an q_s (nI np) (nI nl) (nI (rounds + 1)) (nI (calls + cnt nl S)) bs bg bc nl nb na A_l A_b A_a f0 f1 f2 f3 f4 g5 vb vw, ([(a_g, .inl (cT 0, 1, .inl gv))] : va_W)]) (n := 6) rfl [3, 0, 2, 4, 1, 5] rfl (by decide); simp only [List.flatten_cons, List.flatten_nil] at h; exact h) ?_
        refine xi_less (ws2 := W18 ++ (([(an, .inl (cT 0, np, .inl r2))] : va_W) ++ (([(q_s, .inl (cT 0, 100, .inl (upd spv (rounds + 1) (nI (sp rounds + nsum S c nl)))))] : va_W) ++ (zWb cT qw q_l q_b q_a an q_s (nI np) (nI nl) (nI (rounds + 1)) (nI (calls + cnt nl S)) bs bg bc nl nb na A_l A_b A_a f0 f1 f2 f3 f4 g5 vb vw ++ (([(a_g, .inl (cT 0, 1, .inl gv))] : va_W) ++ ([])))))) (List.Sublist.trans (List.Sublist.refl _) (List.sublist_append_right _ _)) ?_
        refine xi_wide (k2 := 3) (n2 := 30) (by decide) (by decide) ?_
        exact hR _ _ _ cut (fun _ => false) (aft a b fw S k nl) (rounds + 1) (calls + cnt nl S) (fun i => if i = rounds + 1 then sp rounds + nsum S c nl else sp i) dL_acts_775 (by omega) ⟨W18, q_l, q_b, q_a, an, q_s, A_l, A_b, A_a, bs, bg, bc, f0, f1, f2, f3, f4, g5, vb, vw, r2, (upd spv (rounds + 1) (nI (sp rounds + nsum S c nl))), gv, hO2, ⟨hE, hc, (fun i hi => h3 i (by omega)), hb, ha, hk2, hsp2, (fun _ _ _ => rfl)⟩, List.Perm.refl _⟩
      · have hl := nln c16 (by omega) (by omega)
        refine xi_aload_n C 1 dL_acts_744 rfl ?_
        refine xi_get C zkX12 4 _ zlL_75 (by decide) (zap1 (zWb_w)) rfl dL_acts_745 ?_
        refine xi_iload C 4 dL_acts_748 rfl ?_
        refine xw_aald C _ 7 (zap1 (zWb_ar)) rfl (by omega) (by decide) (if_pos hl) dL_acts_750 ?_
        refine xi_iconst C (v := 0) dL_acts_751 rfl ?_
        refine xi_put C zkX11 5 _ zlL_129 (by decide) (zap1 (zWb_l hl)) rfl rfl rfl (Nat.le_of_ble_eq_true rfl) dL_acts_752 (ws2 := zWb cT qw q_l q_b q_a an q_s (nI np) (nI nl) (nI (rounds + 1)) (nI (calls + cnt nl S)) bs bg bc nl nb na A_l A_b A_a f0 f1 f2 f3 f4 (upd g5 l0 0) vb vw ++ (([(an, .inl (cT 0, np, .inl r2))] : va_W) ++ (([(q_k, .inl (cT 0, np, .inl kn))] : va_W) ++ (Wo ++ (([(q_s, .inl (cT 0, 100, .inl (upd spv (rounds + 1) (nI (sp rounds + nsum S c nl)))))] : va_W) ++ (([(a_g, .inl (cT 0, 1, .inl gv))] : va_W) ++ ([]))))))) (zse1 (zWb_ll hl) (zWb_s5 hl)) ?_
        refine xi_iinc C (v := nI (l0 + 1)) 4 [1, 2, 3, 4, 0] (L2 := [(0, .ref a_o), (1, .ref qw), (2, .ref a_g), (6, .int (nI (nsum S (gn a b fw k) nl))), (7, .int (nI (l0 + 1)))]) dL_acts_755 rfl (nI_1 l0) (Nat.le_of_ble_eq_true rfl) rfl ?_
        refine xi_goto C (tgt := 735) dL_acts_758 rfl ?_
        exact ih (l0 + 1) _ (by omega) (by omega) (fun i hi => by
          by_cases e : i = l0
          · rw [e, pk_us]
          · rw [pk_un e]
            exact h3 i (by omega))
  exact L (nl + 1) 0 f5 (Nat.zero_le _) (by omega) (fun i hi => absurd hi (Nat.not_lt_zero i))
set_option maxRecDepth 100000 in
set_option maxHeartbeats 4000000 in
theorem acts_541 {X : sX} {l : Launch} (hls : l.stackTraces = false) {D : va_G} {cT : Nat → ClassId} {a_o qw a_g : Nat} {np nl : Nat} {a b c : Nat → Nat} {fw : Nat → Bool} {nb : Nat} {wb fb ub : Nat → Nat} {na : Nat} {wa fa ua : Nat → Nat} {cut S : Nat → Bool} {k : Nat → Nat} {rounds calls : Nat} {sp : Nat → Nat} {q_l q_b q_a q_k q_s : Nat} {A_l A_b A_a : Nat → Nat} {bs bg bc : Int32} {f0 f1 f2 f3 f4 f5 : Nat → Int32} {vb vw : Nat → Nat → Int32} {kn spv gv : Nat → Int32} {Wo : va_W} (C : sC X (zRA 70 3 30) D cT 8 cL_acts yL_acts.cls) (hr : rounds < 90) (hR : ∀ (pc : Nat) (L : List (Nat × Value)) (W1 : va_W) (cut2 S2 : Nat → Bool) (k2 : Nat → Nat) (rounds2 calls2 : Nat) (sp2 : Nat → Nat), decode cL_acts pc = .ok (.ireturn, 1) → rounds2 ≤ rounds + 1 → SW cT a_o qw a_g np nl a b c fw nb wb fb ub na wa fa ua cut2 S2 k2 rounds2 calls2 sp2 W1 → sW X l (zRA 70 3 30) D 8 3 30 pc L [.int 1] W1) (hO : OW cT a_o np nl a b c fw nb wb fb ub na wa fa ua cut S k rounds calls sp 0 Wo) (hE : hLn np nl a b c fw f0 f1 f2 f3) (hc : hFl nl cut f4) (hS : hFl nl S f5) (hb : hRw nb nl wb fb ub vb) (ha : hRw na np wa fa ua vw) (hk : hK np k kn) (hsp : ∀ i, i ≤ rounds → spv i = nI (sp i)) (hcS : ∀ l, l < nl → cut l = true → S l = false) {e9 : Nat} (he9 : e9 < 8) : sW X l (zRA 70 3 30) D 8 0 0 541 [(0, .ref a_o), (1, .ref qw), (2, .ref a_g), (4, .int (nI e9))] [] (Wo ++ (([(q_k, .inl (cT 0, np, .inl kn))] : va_W) ++ (([(q_s, .inl (cT 0, 100, .inl spv))] : va_W) ++ (zWb cT qw q_l q_b q_a q_k q_s (nI np) (nI nl) (nI rounds) (nI calls) bs bg bc nl nb na A_l A_b A_a f0 f1 f2 f3 f4 f5 vb vw ++ (([(a_g, .inl (cT 0, 1, .inl gv))] : va_W) ++ ([])))))) := by
  have hnp := hE.1
  have hnl := hE.2.1
  have hOf := OW_facts hO
  refine xi_iload C 3 dL_acts_541 rfl ?_
  refine xi_bipush C (v := 6) dL_acts_543 rfl ?_
  refine xi_rwi (y := nI 6) rfl ?_
  refine xi_icmp_ne C (tgt := 649) dL_acts_545 rfl (fun c21 => ?_) (fun c21 => ?_)
  · refine xi_drop (L2 := [(0, .ref a_o), (1, .ref qw), (2, .ref a_g)]) [0, 1, 2] rfl ?_
    exact acts_649 hls C hr hR hO hE hc hS hb ha hk hsp hcS
  · refine xi_aload_n C 2 dL_acts_548 rfl ?_
    refine xi_iconst C (v := 3) dL_acts_549 rfl ?_
    refine xi_rwi (y := nI 3) rfl ?_
    refine xi_callES C (kL_draw l D cT a_g gv (m := 3) (by decide) (by decide)) (Wo ++ (([(q_k, .inl (cT 0, np, .inl kn))] : va_W) ++ (([(q_s, .inl (cT 0, 100, .inl spv))] : va_W) ++ (zWb cT qw q_l q_b q_a q_k q_s (nI np) (nI nl) (nI rounds) (nI calls) bs bg bc nl nb na A_l A_b A_a f0 f1 f2 f3 f4 f5 vb vw ++ ([]))))) (by have h := permX (bs := [Wo, ([(q_k, .inl (cT 0, np, .inl kn))] : va_W), ([(q_s, .inl (cT 0, 100, .inl spv))] : va_W), zWb cT qw q_l q_b q_a q_k q_s (nI np) (nI nl) (nI rounds) (nI calls) bs bg bc nl nb na A_l A_b A_a f0 f1 f2 f3 f4 f5 vb vw, ([(a_g, .inl (cT 0, 1, .inl gv))] : va_W)]) (A := [([(a_g, .inl (cT 0, 1, .inl gv))] : va_W)]) (B := [Wo, ([(q_k, .inl (cT 0, np, .inl kn))] : va_W), ([(q_s, .inl (cT 0, 100, .inl spv))] : va_W), zWb cT qw q_l q_b q_a q_k q_s (nI np) (nI nl) (nI rounds) (nI calls) bs bg bc nl nb na A_l A_b A_a f0 f1 f2 f3 f4 f5 vb vw]) (n := 5) rfl [4, 0, 1, 2, 3] rfl (by decide) flat1; simp only [List.flatten_cons, List.flatten_nil] at h; exact h) zcL_draw zmL_35 zsL_draw (zrE rfl rfl) ⟨Nat.le_of_ble_eq_true rfl, Nat.le_of_ble_eq_true rfl⟩ rfl rfl (Nat.le_of_ble_eq_true rfl) dL_acts_550 (fun v25 W26 hv27 _ => ?_)
    obtain ⟨d22, gv23, hd24, rfl, rfl⟩ := hv27
    refine xi_eqw (ws2 := ([(a_g, .inl (cT 0, 1, .inl gv23))] : va_W) ++ (Wo ++ (([(q_k, .inl (cT 0, np, .inl kn))] : va_W) ++ (([(q_s, .inl (cT 0, 100, .inl spv))] : va_W) ++ (zWb cT qw q_l q_b q_a q_k q_s (nI np) (nI nl) (nI rounds) (nI calls) bs bg bc nl nb na A_l A_b A_a f0 f1 f2 f3 f4 f5 vb vw ++ ([])))))) rfl ?_
    refine xi_if_ne C (tgt := 649) dL_acts_553 rfl (fun c28 => ?_) (fun c28 => ?_)
    · refine xi_drop (L2 := [(0, .ref a_o), (1, .ref qw), (2, .ref a_g)]) [0, 1, 2] rfl ?_
      refine xi_permL (ws2 := Wo ++ (([(q_k, .inl (cT 0, np, .inl kn))] : va_W) ++ (([(q_s, .inl (cT 0, 100, .inl spv))] : va_W) ++ (zWb cT qw q_l q_b q_a q_k q_s (nI np) (nI nl) (nI rounds) (nI calls) bs bg bc nl nb na A_l A_b A_a f0 f1 f2 f3 f4 f5 vb vw ++ (([(a_g, .inl (cT 0, 1, .inl gv23))] : va_W) ++ ([])))))) (by have h := permR (bs := [([(a_g, .inl (cT 0, 1, .inl gv23))] : va_W), Wo, ([(q_k, .inl (cT 0, np, .inl kn))] : va_W), ([(q_s, .inl (cT 0, 100, .inl spv))] : va_W), zWb cT qw q_l q_b q_a q_k q_s (nI np) (nI nl) (nI rounds) (nI calls) bs bg bc nl nb na A_l A_b A_a f0 f1 f2 f3 f4 f5 vb vw]) (bs2 := [Wo, ([(q_k, .inl (cT 0, np, .inl kn))] : va_W), ([(q_s, .inl (cT 0, 100, .inl spv))] : va_W), zWb cT qw q_l q_b q_a q_k q_s (nI np) (nI nl) (nI rounds) (nI calls) bs bg bc nl nb na A_l A_b A_a f0 f1 f2 f3 f4 f5 vb vw, ([(a_g, .inl (cT 0, 1, .inl gv23))] : va_W)]) (n := 5) rfl [1, 2, 3, 4, 0] rfl (by decide); simp only [List.flatten_cons, List.flatten_nil] at h; exact h) ?_
      exact acts_649 hls C hr hR hO hE hc hS hb ha hk hsp hcS
    · refine xi_aload_n C 2 dL_acts_556 rfl ?_
      refine xi_aload_n C 1 dL_acts_557 rfl ?_
      refine xi_get C zkX12 0 _ zlL_39 (by decide) (zap2 rfl (zap2 rfl (zap2 rfl (zap2 rfl (zap1 (zWb_w)))))) rfl dL_acts_558 ?_
      refine xi_callES C (kL_draw l D cT a_g gv23 (m := np) (by omega) (by omega)) (Wo ++ (([(q_k, .inl (cT 0, np, .inl kn))] : va_W) ++ (([(q_s, .inl (cT 0, 100, .inl spv))] : va_W) ++ (zWb cT qw q_l q_b q_a q_k q_s (nI np) (nI nl) (nI rounds) (nI calls) bs bg bc nl nb na A_l A_b A_a f0 f1 f2 f3 f4 f5 vb vw ++ ([]))))) (by have h := permX (bs := [([(a_g, .inl (cT 0, 1, .inl gv23))] : va_W), Wo, ([(q_k, .inl (cT 0, np, .inl kn))] : va_W), ([(q_s, .inl (cT 0, 100, .inl spv))] : va_W), zWb cT qw q_l q_b q_a q_k q_s (nI np) (nI nl) (nI rounds) (nI calls) bs bg bc nl nb na A_l A_b A_a f0 f1 f2 f3 f4 f5 vb vw]) (A := [([(a_g, .inl (cT 0, 1, .inl gv23))] : va_W)]) (B := [Wo, ([(q_k, .inl (cT 0, np, .inl kn))] : va_W), ([(q_s, .inl (cT 0, 100, .inl spv))] : va_W), zWb cT qw q_l q_b q_a q_k q_s (nI np) (nI nl) (nI rounds) (nI calls) bs bg bc nl nb na A_l A_b A_a f0 f1 f2 f3 f4 f5 vb vw]) (n := 5) rfl [0, 1, 2, 3, 4] rfl (by decide) flat1; simp only [List.flatten_cons, List.flatten_nil] at h; exact h) zcL_draw zmL_35 zsL_draw (zrE rfl rfl) ⟨Nat.le_of_ble_eq_true rfl, Nat.le_of_ble_eq_true rfl⟩ rfl rfl (Nat.le_of_ble_eq_true rfl) dL_acts_561 (fun v32 W33 hv34 _ => ?_)
      obtain ⟨d29, gv30, hd31, rfl, rfl⟩ := hv34
      refine xi_eqw (ws2 := ([(a_g, .inl (cT 0, 1, .inl gv30))] : va_W) ++ (Wo ++ (([(q_k, .inl (cT 0, np, .inl kn))] : va_W) ++ (([(q_s, .inl (cT 0, 100, .inl spv))] : va_W) ++ (zWb cT qw q_l q_b q_a q_k q_s (nI np) (nI nl) (nI rounds) (nI calls) bs bg bc nl nb na A_l A_b A_a f0 f1 f2 f3 f4 f5 vb vw ++ ([])))))) rfl ?_
      obtain ⟨p, ep⟩ : ∃ p, p = d29 := ⟨_, rfl⟩
      rw [← ep] at hd31 ⊢
      have hp : p < np := hd31
      refine xi_istore C [1, 2, 3, 4, 0] (L2 := [(0, .ref a_o), (1, .ref qw), (2, .ref a_g), (4, .int (nI e9)), (5, .int (nI p))]) dL_acts_564 (Nat.le_of_ble_eq_true rfl) rfl ?_
      refine xi_aload_n C 2 dL_acts_566 rfl ?_
      refine xi_aload_n C 1 dL_acts_567 rfl ?_
      refine xi_get C zkX12 0 _ zlL_39 (by decide) (zap2 rfl (zap2 rfl (zap2 rfl (zap2 rfl (zap1 (zWb_w)))))) rfl dL_acts_568 ?_
      refine xi_callES C (kL_draw l D cT a_g gv30 (m := np) (by omega) (by omega)) (Wo ++ (([(q_k, .inl (cT 0, np, .inl kn))] : va_W) ++ (([(q_s, .inl (cT 0, 100, .inl spv))] : va_W) ++ (zWb cT qw q_l q_b q_a q_k q_s (nI np) (nI nl) (nI rounds) (nI calls) bs bg bc nl nb na A_l A_b A_a f0 f1 f2 f3 f4 f5 vb vw ++ ([]))))) (by have h := permX (bs := [([(a_g, .inl (cT 0, 1, .inl gv30))] : va_W), Wo, ([(q_k, .inl (cT 0, np, .inl kn))] : va_W), ([(q_s, .inl (cT 0, 100, .inl spv))] : va_W), zWb cT qw q_l q_b q_a q_k q_s (nI np) (nI nl) (nI rounds) (nI calls) bs bg bc nl nb na A_l A_b A_a f0 f1 f2 f3 f4 f5 vb vw]) (A := [([(a_g, .inl (cT 0, 1, .inl gv30))] : va_W)]) (B := [Wo, ([(q_k, .inl (cT 0, np, .inl kn))] : va_W), ([(q_s, .inl (cT 0, 100, .inl spv))] : va_W), zWb cT qw q_l q_b q_a q_k q_s (nI np) (nI nl) (nI rounds) (nI calls) bs bg bc nl nb na A_l A_b A_a f0 f1 f2 f3 f4 f5 vb vw]) (n := 5) rfl [0, 1, 2, 3, 4] rfl (by decide) flat1; simp only [List.flatten_cons, List.flatten_nil] at h; exact h) zcL_draw zmL_35 zsL_draw (zrE rfl rfl) ⟨Nat.le_of_ble_eq_true rfl, Nat.le_of_ble_eq_true rfl⟩ rfl rfl (Nat.le_of_ble_eq_true rfl) dL_acts_571 (fun v38 W39 hv40 _ => ?_)
      obtain ⟨d35, gv36, hd37, rfl, rfl⟩ := hv40
      refine xi_eqw (ws2 := ([(a_g, .inl (cT 0, 1, .inl gv36))] : va_W) ++ (Wo ++ (([(q_k, .inl (cT 0, np, .inl kn))] : va_W) ++ (([(q_s, .inl (cT 0, 100, .inl spv))] : va_W) ++ (zWb cT qw q_l q_b q_a q_k q_s (nI np) (nI nl) (nI rounds) (nI calls) bs bg bc nl nb na A_l A_b A_a f0 f1 f2 f3 f4 f5 vb vw ++ ([])))))) rfl ?_
      obtain ⟨q, eq⟩ : ∃ q, q = d35 := ⟨_, rfl⟩
      rw [← eq] at hd37 ⊢
      have hq : q < np := hd37
      refine xi_istore C [1, 2, 3, 4, 5, 0] (L2 := [(0, .ref a_o), (1, .ref qw), (2, .ref a_g), (4, .int (nI e9)), (5, .int (nI p)), (6, .int (nI q))]) dL_acts_574 (Nat.le_of_ble_eq_true rfl) rfl ?_
      refine xi_aload_n C 1 dL_acts_576 rfl ?_
      refine xi_get C zkX12 7 _ zlL_98 (by decide) (zap2 rfl (zap2 rfl (zap2 rfl (zap2 rfl (zap1 (zWb_w)))))) rfl dL_acts_577 ?_
      refine xi_iload C 4 dL_acts_580 rfl ?_
      refine xw_iald C _ (zap2 rfl (zap2 rfl (zap1 ((rfl : (([(q_k, .inl (cT 0, np, .inl kn))] : va_W) : va_W)[0]? = some _))))) hp (by omega) dL_acts_582 ?_
      refine xi_iload C 5 dL_acts_583 rfl ?_
      refine xi_ishr C dL_acts_585 ?_
      refine xi_iconst C (v := 1) dL_acts_586 rfl ?_
      refine xi_iand C dL_acts_587 ?_
      refine xi_rwi (y := (if (k p).testBit q = true then 1 else 0)) (by rw [(hk p hp).2]; exact bitN (Nat.lt_of_lt_of_le (hK_lt hnp hk hp) (by decide)) (by omega)) ?_
      have hpw : 2 ^ q ≤ 64 := Nat.le_trans (Nat.pow_le_pow_right (by decide) (show q ≤ 6 by omega)) (by decide)
      have hkp := hK_lt hnp hk hp
      have hor : k p ||| 2 ^ q < 128 := Nat.or_lt_two_pow (n := 7) hkp (Nat.pow_lt_pow_right (by decide) (by omega))
      have hk2 : hK np (fun i => if i = p then k p ||| 2 ^ q else k i) (upd kn p (nI (k p ||| 2 ^ q))) := fun i hi => by
        show (if i = p then k p ||| 2 ^ q else k i) < 2 ^ np ∧ _ = nI (if i = p then k p ||| 2 ^ q else k i)
        by_cases e : i = p
        · rw [if_pos e, e, pk_us]
          exact ⟨Nat.or_lt_two_pow (hk p hp).1 (Nat.pow_lt_pow_right (by decide) hq), rfl⟩
        · rw [if_neg e, pk_un e]
          exact hk i hi
      cases hb9 : (k p).testBit q with
      | true =>
        refine xi_rwi (y := 1) ifT ?_
        refine xi_if_ne C (tgt := 595) dL_acts_588 rfl (fun c41 => ?_) (fun c41 => False.elim ((fun z : (1 : Int32) = 0 => one0 z) c41))
        refine xi_iconst C (v := 0) dL_acts_595 rfl ?_
        refine xi_istore C [1, 2, 3, 4, 5, 6, 0] (L2 := [(0, .ref a_o), (1, .ref qw), (2, .ref a_g), (4, .int (nI e9)), (5, .int (nI p)), (6, .int (nI q)), (7, .int 0)]) dL_acts_596 (Nat.le_of_ble_eq_true rfl) rfl ?_
        refine xi_aload_n C 1 dL_acts_598 rfl ?_
        refine xi_get C zkX12 7 _ zlL_98 (by decide) (zap2 rfl (zap2 rfl (zap2 rfl (zap2 rfl (zap1 (zWb_w)))))) rfl dL_acts_599 ?_
        refine xi_iload C 4 dL_acts_602 rfl ?_
        refine xi_dup2 C dL_acts_604 rfl rfl ?_
        refine xw_iald C _ (zap2 rfl (zap2 rfl (zap1 ((rfl : (([(q_k, .inl (cT 0, np, .inl kn))] : va_W) : va_W)[0]? = some _))))) hp (by omega) dL_acts_605 ?_
        refine xi_iconst C (v := 1) dL_acts_606 rfl ?_
        refine xi_iload C 5 dL_acts_607 rfl ?_
        refine xi_ishl C dL_acts_609 ?_
        refine xi_ior C dL_acts_610 ?_
        refine xi_rwi (y := nI (k p ||| 2 ^ q)) (by rw [(hk p hp).2, tshl (by omega), nIor (by omega) (by omega)]) ?_
        refine xw_iast C _ (zap2 rfl (zap2 rfl (zap1 ((rfl : (([(q_k, .inl (cT 0, np, .inl kn))] : va_W) : va_W)[0]? = some _))))) hp (by omega) dL_acts_611 (ws2 := ([(a_g, .inl (cT 0, 1, .inl gv36))] : va_W) ++ (Wo ++ (([(q_k, .inl (cT 0, np, .inl (upd kn p (nI (k p ||| 2 ^ q)))))] : va_W) ++ (([(q_s, .inl (cT 0, 100, .inl spv))] : va_W) ++ (zWb cT qw q_l q_b q_a q_k q_s (nI np) (nI nl) (nI rounds) (nI calls) bs bg bc nl nb na A_l A_b A_a f0 f1 f2 f3 f4 f5 vb vw ++ ([])))))) (zse2 rfl (zse2 rfl (zse1 (Nat.zero_lt_succ _) rfl))) ?_
        refine xi_aload_n C 0 dL_acts_612 rfl ?_
        refine xi_iload C 4 dL_acts_613 rfl ?_
        refine xi_iload C 5 dL_acts_615 rfl ?_
        refine xi_callEH C (kL_tells_E l hls D cT hO hp hq hb9) (([(a_g, .inl (cT 0, 1, .inl gv36))] : va_W) ++ (([(q_k, .inl (cT 0, np, .inl (upd kn p (nI (k p ||| 2 ^ q)))))] : va_W) ++ (([(q_s, .inl (cT 0, 100, .inl spv))] : va_W) ++ (zWb cT qw q_l q_b q_a q_k q_s (nI np) (nI nl) (nI rounds) (nI calls) bs bg bc nl nb na A_l A_b A_a f0 f1 f2 f3 f4 f5 vb vw ++ ([]))))) (by have h := permX (bs := [([(a_g, .inl (cT 0, 1, .inl gv36))] : va_W), Wo, ([(q_k, .inl (cT 0, np, .inl (upd kn p (nI (k p ||| 2 ^ q)))))] : va_W), ([(q_s, .inl (cT 0, 100, .inl spv))] : va_W), zWb cT qw q_l q_b q_a q_k q_s (nI np) (nI nl) (nI rounds) (nI calls) bs bg bc nl nb na A_l A_b A_a f0 f1 f2 f3 f4 f5 vb vw]) (A := [Wo]) (B := [([(a_g, .inl (cT 0, 1, .inl gv36))] : va_W), ([(q_k, .inl (cT 0, np, .inl (upd kn p (nI (k p ||| 2 ^ q)))))] : va_W), ([(q_s, .inl (cT 0, 100, .inl spv))] : va_W), zWb cT qw q_l q_b q_a q_k q_s (nI np) (nI nl) (nI rounds) (nI calls) bs bg bc nl nb na A_l A_b A_a f0 f1 f2 f3 f4 f5 vb vw]) (n := 5) rfl [1, 0, 2, 3, 4] rfl (by decide) flat1; simp only [List.flatten_cons, List.flatten_nil] at h; exact h) zcL_tells zmL_170L zshL_tells (zrA rfl rfl) ⟨Nat.le_of_ble_eq_true rfl, Nat.le_of_ble_eq_true rfl⟩ rfl rfl (Nat.le_of_ble_eq_true rfl) dL_acts_617 (fun v42 W43 hv44 _ => ?_)
        obtain ⟨rfl, hO45⟩ := hv44
        refine xi_eqw (ws2 := W43 ++ (([(a_g, .inl (cT 0, 1, .inl gv36))] : va_W) ++ (([(q_k, .inl (cT 0, np, .inl (upd kn p (nI (k p ||| 2 ^ q)))))] : va_W) ++ (([(q_s, .inl (cT 0, 100, .inl spv))] : va_W) ++ (zWb cT qw q_l q_b q_a q_k q_s (nI np) (nI nl) (nI rounds) (nI calls) bs bg bc nl nb na A_l A_b A_a f0 f1 f2 f3 f4 f5 vb vw ++ ([])))))) rfl ?_
        have hkk : (fun i => if i = p then k p ||| 2 ^ q else k i) = k := by
          funext i
          by_cases e : i = p
          · rw [if_pos e, e]
            apply Nat.eq_of_testBit_eq
            intro j
            rw [Nat.testBit_or, Nat.testBit_two_pow]
            by_cases z : q = j
            · rw [← z, hb9]; rfl
            · rw [decide_eq_false z, Bool.or_false]
          · rw [if_neg e]
        rw [hkk] at hk2
        refine xi_iload C 6 dL_acts_620 rfl ?_
        refine xi_if_eq C (tgt := 638) dL_acts_622 rfl (fun c46 => ?_) (fun c46 => False.elim ((fun z : ¬ ((0 : Int32) = 0) => z rfl) c46))
        refine xi_bipush C (v := (-3)) dL_acts_638 rfl ?_
        refine xi_icmp_ne C (tgt := 647) dL_acts_640 rfl (fun c47 => False.elim ((fun z => z rfl) c47)) (fun c47 => ?_)
        refine xi_iconst C (v := 1) dL_acts_643 rfl ?_
        refine xi_goto C (tgt := 648) dL_acts_644 rfl ?_
        refine xi_permL (ws2 := W43 ++ (([(q_k, .inl (cT 0, np, .inl (upd kn p (nI (k p ||| 2 ^ q)))))] : va_W) ++ (([(q_s, .inl (cT 0, 100, .inl spv))] : va_W) ++ (zWb cT qw q_l q_b q_a q_k q_s (nI np) (nI nl) (nI rounds) (nI calls) bs bg bc nl nb na A_l A_b A_a f0 f1 f2 f3 f4 f5 vb vw ++ (([(a_g, .inl (cT 0, 1, .inl gv36))] : va_W) ++ ([])))))) (by have h := permR (bs := [W43, ([(a_g, .inl (cT 0, 1, .inl gv36))] : va_W), ([(q_k, .inl (cT 0, np, .inl (upd kn p (nI (k p ||| 2 ^ q)))))] : va_W), ([(q_s, .inl (cT 0, 100, .inl spv))] : va_W), zWb cT qw q_l q_b q_a q_k q_s (nI np) (nI nl) (nI rounds) (nI calls) bs bg bc nl nb na A_l A_b A_a f0 f1 f2 f3 f4 f5 vb vw]) (bs2 := [W43, ([(q_k, .inl (cT 0, np, .inl (upd kn p (nI (k p ||| 2 ^ q)))))] : va_W), ([(q_s, .inl (cT 0, 100, .inl spv))] : va_W), zWb cT qw q_l q_b q_a q_k q_s (nI np) (nI nl) (nI rounds) (nI calls) bs bg bc nl nb na A_l A_b A_a f0 f1 f2 f3 f4 f5 vb vw, ([(a_g, .inl (cT 0, 1, .inl gv36))] : va_W)]) (n := 5) rfl [0, 2, 3, 4, 1] rfl (by decide); simp only [List.flatten_cons, List.flatten_nil] at h; exact h) ?_
        refine xi_wide (k2 := 3) (n2 := 30) (by decide) (by decide) ?_
        exact hR _ _ _ cut S k rounds calls sp dL_acts_648 (by omega) ⟨W43, q_l, q_b, q_a, q_k, q_s, A_l, A_b, A_a, bs, bg, bc, f0, f1, f2, f3, f4, f5, vb, vw, (upd kn p (nI (k p ||| 2 ^ q))), spv, gv36, hO45, ⟨hE, hc, hS, hb, ha, hk2, hsp, hcS⟩, List.Perm.refl _⟩
      | false =>
        refine xi_rwi (y := 0) ifF ?_
        refine xi_if_ne C (tgt := 595) dL_acts_588 rfl (fun c48 => False.elim ((fun z : ¬ ((0 : Int32) = 0) => z rfl) c48)) (fun c48 => ?_)
        refine xi_iconst C (v := 1) dL_acts_591 rfl ?_
        refine xi_goto C (tgt := 596) dL_acts_592 rfl ?_
        refine xi_istore C [1, 2, 3, 4, 5, 6, 0] (L2 := [(0, .ref a_o), (1, .ref qw), (2, .ref a_g), (4, .int (nI e9)), (5, .int (nI p)), (6, .int (nI q)), (7, .int 1)]) dL_acts_596 (Nat.le_of_ble_eq_true rfl) rfl ?_
        refine xi_aload_n C 1 dL_acts_598 rfl ?_
        refine xi_get C zkX12 7 _ zlL_98 (by decide) (zap2 rfl (zap2 rfl (zap2 rfl (zap2 rfl (zap1 (zWb_w)))))) rfl dL_acts_599 ?_
        refine xi_iload C 4 dL_acts_602 rfl ?_
        refine xi_dup2 C dL_acts_604 rfl rfl ?_
        refine xw_iald C _ (zap2 rfl (zap2 rfl (zap1 ((rfl : (([(q_k, .inl (cT 0, np, .inl kn))] : va_W) : va_W)[0]? = some _))))) hp (by omega) dL_acts_605 ?_
        refine xi_iconst C (v := 1) dL_acts_606 rfl ?_
        refine xi_iload C 5 dL_acts_607 rfl ?_
        refine xi_ishl C dL_acts_609 ?_
        refine xi_ior C dL_acts_610 ?_
        refine xi_rwi (y := nI (k p ||| 2 ^ q)) (by rw [(hk p hp).2, tshl (by omega), nIor (by omega) (by omega)]) ?_
        refine xw_iast C _ (zap2 rfl (zap2 rfl (zap1 ((rfl : (([(q_k, .inl (cT 0, np, .inl kn))] : va_W) : va_W)[0]? = some _))))) hp (by omega) dL_acts_611 (ws2 := ([(a_g, .inl (cT 0, 1, .inl gv36))] : va_W) ++ (Wo ++ (([(q_k, .inl (cT 0, np, .inl (upd kn p (nI (k p ||| 2 ^ q)))))] : va_W) ++ (([(q_s, .inl (cT 0, 100, .inl spv))] : va_W) ++ (zWb cT qw q_l q_b q_a q_k q_s (nI np) (nI nl) (nI rounds) (nI calls) bs bg bc nl nb na A_l A_b A_a f0 f1 f2 f3 f4 f5 vb vw ++ ([])))))) (zse2 rfl (zse2 rfl (zse1 (Nat.zero_lt_succ _) rfl))) ?_
        refine xi_aload_n C 0 dL_acts_612 rfl ?_
        refine xi_iload C 4 dL_acts_613 rfl ?_
        refine xi_iload C 5 dL_acts_615 rfl ?_
        refine xi_callEH C (kL_tells l D cT hO hp hq hb9) (([(a_g, .inl (cT 0, 1, .inl gv36))] : va_W) ++ (([(q_k, .inl (cT 0, np, .inl (upd kn p (nI (k p ||| 2 ^ q)))))] : va_W) ++ (([(q_s, .inl (cT 0, 100, .inl spv))] : va_W) ++ (zWb cT qw q_l q_b q_a q_k q_s (nI np) (nI nl) (nI rounds) (nI calls) bs bg bc nl nb na A_l A_b A_a f0 f1 f2 f3 f4 f5 vb vw ++ ([]))))) (by have h := permX (bs := [([(a_g, .inl (cT 0, 1, .inl gv36))] : va_W), Wo, ([(q_k, .inl (cT 0, np, .inl (upd kn p (nI (k p ||| 2 ^ q)))))] : va_W), ([(q_s, .inl (cT 0, 100, .inl spv))] : va_W), zWb cT qw q_l q_b q_a q_k q_s (nI np) (nI nl) (nI rounds) (nI calls) bs bg bc nl nb na A_l A_b A_a f0 f1 f2 f3 f4 f5 vb vw]) (A := [Wo]) (B := [([(a_g, .inl (cT 0, 1, .inl gv36))] : va_W), ([(q_k, .inl (cT 0, np, .inl (upd kn p (nI (k p ||| 2 ^ q)))))] : va_W), ([(q_s, .inl (cT 0, 100, .inl spv))] : va_W), zWb cT qw q_l q_b q_a q_k q_s (nI np) (nI nl) (nI rounds) (nI calls) bs bg bc nl nb na A_l A_b A_a f0 f1 f2 f3 f4 f5 vb vw]) (n := 5) rfl [1, 0, 2, 3, 4] rfl (by decide) flat1; simp only [List.flatten_cons, List.flatten_nil] at h; exact h) zcL_tells zmL_170L zshL_tells (zrE rfl rfl) ⟨Nat.le_of_ble_eq_true rfl, Nat.le_of_ble_eq_true rfl⟩ rfl rfl (Nat.le_of_ble_eq_true rfl) dL_acts_617 (fun v49 W50 hv51 _ => ?_)
        obtain ⟨rfl, hO52⟩ := hv51
        refine xi_eqw (ws2 := W50 ++ (([(a_g, .inl (cT 0, 1, .inl gv36))] : va_W) ++ (([(q_k, .inl (cT 0, np, .inl (upd kn p (nI (k p ||| 2 ^ q)))))] : va_W) ++ (([(q_s, .inl (cT 0, 100, .inl spv))] : va_W) ++ (zWb cT qw q_l q_b q_a q_k q_s (nI np) (nI nl) (nI rounds) (nI calls) bs bg bc nl nb na A_l A_b A_a f0 f1 f2 f3 f4 f5 vb vw ++ ([])))))) rfl ?_
        refine xi_iload C 6 dL_acts_620 rfl ?_
        refine xi_if_eq C (tgt := 638) dL_acts_622 rfl (fun c53 => False.elim ((fun z : (1 : Int32) = 0 => one0 z) c53)) (fun c53 => ?_)
        refine xi_aload_n C 1 dL_acts_625 rfl ?_
        refine xi_get C zkX12 7 _ zlL_98 (by decide) (zap2 rfl (zap2 rfl (zap2 rfl (zap2 rfl (zap1 (zWb_w)))))) rfl dL_acts_626 ?_
        refine xi_iload C 4 dL_acts_629 rfl ?_
        refine xw_iald C _ (zap2 rfl (zap2 rfl (zap1 ((rfl : (([(q_k, .inl (cT 0, np, .inl (upd kn p (nI (k p ||| 2 ^ q)))))] : va_W) : va_W)[0]? = some _))))) hp (by omega) dL_acts_631 ?_
        refine xi_rwi (y := nI (k p ||| 2 ^ q)) pk_us ?_
        refine xi_callES C (sE_of_sM (kJ6_bitCount_0f7a4 l D cT (nI (k p ||| 2 ^ q)) (nI (pc (k p ||| 2 ^ q))) (bc128 _ hor))) (W50 ++ (([(a_g, .inl (cT 0, 1, .inl gv36))] : va_W) ++ (([(q_k, .inl (cT 0, np, .inl (upd kn p (nI (k p ||| 2 ^ q)))))] : va_W) ++ (([(q_s, .inl (cT 0, 100, .inl spv))] : va_W) ++ (zWb cT qw q_l q_b q_a q_k q_s (nI np) (nI nl) (nI rounds) (nI calls) bs bg bc nl nb na A_l A_b A_a f0 f1 f2 f3 f4 f5 vb vw ++ ([])))))) (by have h := permX (bs := [W50, ([(a_g, .inl (cT 0, 1, .inl gv36))] : va_W), ([(q_k, .inl (cT 0, np, .inl (upd kn p (nI (k p ||| 2 ^ q)))))] : va_W), ([(q_s, .inl (cT 0, 100, .inl spv))] : va_W), zWb cT qw q_l q_b q_a q_k q_s (nI np) (nI nl) (nI rounds) (nI calls) bs bg bc nl nb na A_l A_b A_a f0 f1 f2 f3 f4 f5 vb vw]) (A := []) (B := [W50, ([(a_g, .inl (cT 0, 1, .inl gv36))] : va_W), ([(q_k, .inl (cT 0, np, .inl (upd kn p (nI (k p ||| 2 ^ q)))))] : va_W), ([(q_s, .inl (cT 0, 100, .inl spv))] : va_W), zWb cT qw q_l q_b q_a q_k q_s (nI np) (nI nl) (nI rounds) (nI calls) bs bg bc nl nb na A_l A_b A_a f0 f1 f2 f3 f4 f5 vb vw]) (n := 5) rfl [0, 1, 2, 3, 4] rfl (by decide) rfl; simp only [List.flatten_cons, List.flatten_nil] at h; exact h) zcJ6_bitCount_0f7a4 zmL_174 zsJ6_bitCount_0f7a4 (zrE rfl rfl) ⟨Nat.le_of_ble_eq_true rfl, Nat.le_of_ble_eq_true rfl⟩ rfl rfl (Nat.le_of_ble_eq_true rfl) dL_acts_632 (fun v54 W55 hv56 _ => ?_)
        obtain ⟨rfl, rfl⟩ := hv56
        refine xi_eqw (ws2 := ([] : va_W) ++ (W50 ++ (([(a_g, .inl (cT 0, 1, .inl gv36))] : va_W) ++ (([(q_k, .inl (cT 0, np, .inl (upd kn p (nI (k p ||| 2 ^ q)))))] : va_W) ++ (([(q_s, .inl (cT 0, 100, .inl spv))] : va_W) ++ (zWb cT qw q_l q_b q_a q_k q_s (nI np) (nI nl) (nI rounds) (nI calls) bs bg bc nl nb na A_l A_b A_a f0 f1 f2 f3 f4 f5 vb vw ++ ([]))))))) rfl ?_
        refine xi_permL (ws2 := W50 ++ (([(a_g, .inl (cT 0, 1, .inl gv36))] : va_W) ++ (([(q_k, .inl (cT 0, np, .inl (upd kn p (nI (k p ||| 2 ^ q)))))] : va_W) ++ (([(q_s, .inl (cT 0, 100, .inl spv))] : va_W) ++ (zWb cT qw q_l q_b q_a q_k q_s (nI np) (nI nl) (nI rounds) (nI calls) bs bg bc nl nb na A_l A_b A_a f0 f1 f2 f3 f4 f5 vb vw ++ (([] : va_W) ++ ([]))))))) (by have h := permR (bs := [([] : va_W), W50, ([(a_g, .inl (cT 0, 1, .inl gv36))] : va_W), ([(q_k, .inl (cT 0, np, .inl (upd kn p (nI (k p ||| 2 ^ q)))))] : va_W), ([(q_s, .inl (cT 0, 100, .inl spv))] : va_W), zWb cT qw q_l q_b q_a q_k q_s (nI np) (nI nl) (nI rounds) (nI calls) bs bg bc nl nb na A_l A_b A_a f0 f1 f2 f3 f4 f5 vb vw]) (bs2 := [W50, ([(a_g, .inl (cT 0, 1, .inl gv36))] : va_W), ([(q_k, .inl (cT 0, np, .inl (upd kn p (nI (k p ||| 2 ^ q)))))] : va_W), ([(q_s, .inl (cT 0, 100, .inl spv))] : va_W), zWb cT qw q_l q_b q_a q_k q_s (nI np) (nI nl) (nI rounds) (nI calls) bs bg bc nl nb na A_l A_b A_a f0 f1 f2 f3 f4 f5 vb vw, ([] : va_W)]) (n := 6) rfl [1, 2, 3, 4, 5, 0] rfl (by decide); simp only [List.flatten_cons, List.flatten_nil] at h; exact h) ?_
        refine xi_eqw (ws2 := W50 ++ (([(a_g, .inl (cT 0, 1, .inl gv36))] : va_W) ++ (([(q_k, .inl (cT 0, np, .inl (upd kn p (nI (k p ||| 2 ^ q)))))] : va_W) ++ (([(q_s, .inl (cT 0, 100, .inl spv))] : va_W) ++ (zWb cT qw q_l q_b q_a q_k q_s (nI np) (nI nl) (nI rounds) (nI calls) bs bg bc nl nb na A_l A_b A_a f0 f1 f2 f3 f4 f5 vb vw ++ ([])))))) rfl ?_
        refine xi_goto C (tgt := 640) dL_acts_635 rfl ?_
        refine xi_icmp_ne C (tgt := 647) dL_acts_640 rfl (fun c57 => False.elim ((fun z => z rfl) c57)) (fun c57 => ?_)
        refine xi_iconst C (v := 1) dL_acts_643 rfl ?_
        refine xi_goto C (tgt := 648) dL_acts_644 rfl ?_
        refine xi_permL (ws2 := W50 ++ (([(q_k, .inl (cT 0, np, .inl (upd kn p (nI (k p ||| 2 ^ q)))))] : va_W) ++ (([(q_s, .inl (cT 0, 100, .inl spv))] : va_W) ++ (zWb cT qw q_l q_b q_a q_k q_s (nI np) (nI nl) (nI rounds) (nI calls) bs bg bc nl nb na A_l A_b A_a f0 f1 f2 f3 f4 f5 vb vw ++ (([(a_g, .inl (cT 0, 1, .inl gv36))] : va_W) ++ ([])))))) (by have h := permR (bs := [W50, ([(a_g, .inl (cT 0, 1, .inl gv36))] : va_W), ([(q_k, .inl (cT 0, np, .inl (upd kn p (nI (k p ||| 2 ^ q)))))] : va_W), ([(q_s, .inl (cT 0, 100, .inl spv))] : va_W), zWb cT qw q_l q_b q_a q_k q_s (nI np) (nI nl) (nI rounds) (nI calls) bs bg bc nl nb na A_l A_b A_a f0 f1 f2 f3 f4 f5 vb vw]) (bs2 := [W50, ([(q_k, .inl (cT 0, np, .inl (upd kn p (nI (k p ||| 2 ^ q)))))] : va_W), ([(q_s, .inl (cT 0, 100, .inl spv))] : va_W), zWb cT qw q_l q_b q_a q_k q_s (nI np) (nI nl) (nI rounds) (nI calls) bs bg bc nl nb na A_l A_b A_a f0 f1 f2 f3 f4 f5 vb vw, ([(a_g, .inl (cT 0, 1, .inl gv36))] : va_W)]) (n := 5) rfl [0, 2, 3, 4, 1] rfl (by decide); simp only [List.flatten_cons, List.flatten_nil] at h; exact h) ?_
        refine xi_wide (k2 := 3) (n2 := 30) (by decide) (by decide) ?_
        exact hR _ _ _ cut S (fun i => if i = p then k p ||| 2 ^ q else k i) rounds calls sp dL_acts_648 (by omega) ⟨W50, q_l, q_b, q_a, q_k, q_s, A_l, A_b, A_a, bs, bg, bc, f0, f1, f2, f3, f4, f5, vb, vw, (upd kn p (nI (k p ||| 2 ^ q))), spv, gv36, hO52, ⟨hE, hc, hS, hb, ha, hk2, hsp, hcS⟩, List.Perm.refl _⟩
set_option maxRecDepth 100000 in
set_option maxHeartbeats 4000000 in
theorem acts_458 {X : sX} {l : Launch} (hls : l.stackTraces = false) {D : va_G} {cT : Nat → ClassId} {a_o qw a_g : Nat} {np nl : Nat} {a b c : Nat → Nat} {fw : Nat → Bool} {nb : Nat} {wb fb ub : Nat → Nat} {na : Nat} {wa fa ua : Nat → Nat} {cut S : Nat → Bool} {k : Nat → Nat} {rounds calls : Nat} {sp : Nat → Nat} {q_l q_b q_a q_k q_s : Nat} {A_l A_b A_a : Nat → Nat} {bs bg bc : Int32} {f0 f1 f2 f3 f4 f5 : Nat → Int32} {vb vw : Nat → Nat → Int32} {kn spv gv : Nat → Int32} {Wo : va_W} (C : sC X (zRA 70 3 30) D cT 8 cL_acts yL_acts.cls) (hr : rounds < 90) (hR : ∀ (pc : Nat) (L : List (Nat × Value)) (W1 : va_W) (cut2 S2 : Nat → Bool) (k2 : Nat → Nat) (rounds2 calls2 : Nat) (sp2 : Nat → Nat), decode cL_acts pc = .ok (.ireturn, 1) → rounds2 ≤ rounds + 1 → SW cT a_o qw a_g np nl a b c fw nb wb fb ub na wa fa ua cut2 S2 k2 rounds2 calls2 sp2 W1 → sW X l (zRA 70 3 30) D 8 3 30 pc L [.int 1] W1) (hO : OW cT a_o np nl a b c fw nb wb fb ub na wa fa ua cut S k rounds calls sp 0 Wo) (hE : hLn np nl a b c fw f0 f1 f2 f3) (hc : hFl nl cut f4) (hS : hFl nl S f5) (hb : hRw nb nl wb fb ub vb) (ha : hRw na np wa fa ua vw) (hk : hK np k kn) (hsp : ∀ i, i ≤ rounds → spv i = nI (sp i)) (hcS : ∀ l, l < nl → cut l = true → S l = false) {e9 : Nat} (he9 : e9 < 8) : sW X l (zRA 70 3 30) D 8 0 0 458 [(0, .ref a_o), (1, .ref qw), (2, .ref a_g), (4, .int (nI e9))] [] (Wo ++ (([(q_k, .inl (cT 0, np, .inl kn))] : va_W) ++ (([(q_s, .inl (cT 0, 100, .inl spv))] : va_W) ++ (zWb cT qw q_l q_b q_a q_k q_s (nI np) (nI nl) (nI rounds) (nI calls) bs bg bc nl nb na A_l A_b A_a f0 f1 f2 f3 f4 f5 vb vw ++ (([(a_g, .inl (cT 0, 1, .inl gv))] : va_W) ++ ([])))))) := by
  have hnp := hE.1
  have hnl := hE.2.1
  have hOf := OW_facts hO
  refine xi_iload C 3 dL_acts_458 rfl ?_
  refine xi_iconst C (v := 5) dL_acts_460 rfl ?_
  refine xi_rwi (y := nI 5) rfl ?_
  refine xi_icmp_ne C (tgt := 541) dL_acts_461 rfl (fun c58 => ?_) (fun c58 => ?_)
  · exact acts_541 hls C hr hR hO hE hc hS hb ha hk hsp hcS he9
  · refine xi_drop (L2 := [(0, .ref a_o), (1, .ref qw), (2, .ref a_g)]) [0, 1, 2] rfl ?_
    obtain ⟨u, hu, hbest, hu1, hu2, hu3, hu4⟩ := wBest (f5 := f5) (pe := nI np) (ro := nI rounds) (ca := nI calls) (bs := bs) (bc := bc) (round := rounds + 1) hE hk (by omega) hc hb ha
    refine xi_aload_n C 1 dL_acts_464 rfl ?_
    refine xi_aload_n C 1 dL_acts_465 rfl ?_
    refine xi_get C zkX12 2 _ zlL_132 (by decide) (zap2 rfl (zap2 rfl (zap2 rfl (zap1 (zWb_w))))) rfl dL_acts_466 ?_
    refine xi_iconst C (v := 1) dL_acts_469 rfl ?_
    refine xi_iadd C dL_acts_470 ?_
    refine xi_rwi (y := nI (rounds + 1)) (nI_1 rounds) ?_
    refine xi_aload_n C 1 dL_acts_471 rfl ?_
    refine xi_get C zkX12 7 _ zlL_98 (by decide) (zap2 rfl (zap2 rfl (zap2 rfl (zap1 (zWb_w))))) rfl dL_acts_472 ?_
    refine xi_callEV C (sE_of_sM (kX12_best l D cT qw q_l q_b q_a q_k q_s q_k A_l A_b A_a nl nb na np (nI np) (nI nl) (nI rounds) (nI calls) bs bg bc f0 f1 f2 f3 f4 f5 vb vw kn (nI (rounds + 1)) (by omega) _ hu)) (Wo ++ (([(q_s, .inl (cT 0, 100, .inl spv))] : va_W) ++ (([(a_g, .inl (cT 0, 1, .inl gv))] : va_W) ++ ([])))) (by have h := permX (bs := [Wo, ([(q_k, .inl (cT 0, np, .inl kn))] : va_W), ([(q_s, .inl (cT 0, 100, .inl spv))] : va_W), zWb cT qw q_l q_b q_a q_k q_s (nI np) (nI nl) (nI rounds) (nI calls) bs bg bc nl nb na A_l A_b A_a f0 f1 f2 f3 f4 f5 vb vw, ([(a_g, .inl (cT 0, 1, .inl gv))] : va_W)]) (A := [([(q_k, .inl (cT 0, np, .inl kn))] : va_W), zWb cT qw q_l q_b q_a q_k q_s (nI np) (nI nl) (nI rounds) (nI calls) bs bg bc nl nb na A_l A_b A_a f0 f1 f2 f3 f4 f5 vb vw]) (B := [Wo, ([(q_s, .inl (cT 0, 100, .inl spv))] : va_W), ([(a_g, .inl (cT 0, 1, .inl gv))] : va_W)]) (n := 5) rfl [1, 3, 0, 2, 4] rfl (by decide) flatXA; simp only [List.flatten_cons, List.flatten_nil] at h; exact h) zcX12_best zmL_161 ziX12_best (zrE rfl rfl) ⟨Nat.le_of_ble_eq_true rfl, Nat.le_of_ble_eq_true rfl⟩ rfl zkX12.1 (qr := 1) rfl rfl (Nat.le_of_ble_eq_true rfl) dL_acts_475 (fun v59 W60 hv61 _ => ?_)
    obtain ⟨rfl, rfl⟩ := hv61
    refine xi_eqw (ws2 := ([(q_k, .inl (cT 0, np, .inl kn))] : va_W) ++ (zWb cT qw q_l q_b q_a q_k q_s (nI np) (nI nl) (nI rounds) (nI calls) u.2.1 u.2.2.1 u.2.2.2 nl nb na A_l A_b A_a f0 f1 f2 f3 f4 f5 vb vw ++ (Wo ++ (([(q_s, .inl (cT 0, 100, .inl spv))] : va_W) ++ (([(a_g, .inl (cT 0, 1, .inl gv))] : va_W) ++ ([])))))) rfl ?_
    have hx : hB nl (bset nl a b c (gn a b fw k) (usb nb na wb fb ub wa fa ua a b cut (rounds + 1))) u.1 := by rw [hu1]; exact hB_of (by omega)
    refine xi_istore C [1, 2, 3, 0] (L2 := [(0, .ref a_o), (1, .ref qw), (2, .ref a_g), (5, .int u.1)]) dL_acts_478 (Nat.le_of_ble_eq_true rfl) rfl ?_
    refine xi_iconst C (v := 0) dL_acts_480 rfl ?_
    refine xi_istore C [1, 2, 3, 4, 0] (L2 := [(0, .ref a_o), (1, .ref qw), (2, .ref a_g), (5, .int u.1), (6, .int 0)]) dL_acts_481 (Nat.le_of_ble_eq_true rfl) rfl ?_
    have L : ∀ (d l0 : Nat) (g5 : Nat → Int32), l0 ≤ nl → nl - l0 < d → (∀ i, i < l0 → g5 i = if (bset nl a b c (gn a b fw k) (usb nb na wb fb ub wa fa ua a b cut (rounds + 1))) i = true then 1 else 0) → sW X l (zRA 70 3 30) D 8 0 0 483 [(0, .ref a_o), (1, .ref qw), (2, .ref a_g), (5, .int u.1), (6, .int (nI l0))] [] (([(q_k, .inl (cT 0, np, .inl kn))] : va_W) ++ (zWb cT qw q_l q_b q_a q_k q_s (nI np) (nI nl) (nI rounds) (nI calls) u.2.1 u.2.2.1 u.2.2.2 nl nb na A_l A_b A_a f0 f1 f2 f3 f4 g5 vb vw ++ (Wo ++ (([(q_s, .inl (cT 0, 100, .inl spv))] : va_W) ++ (([(a_g, .inl (cT 0, 1, .inl gv))] : va_W) ++ ([])))))) := by
      intro d
      induction d with
      | zero => intro l0 g5 h1 h2; omega
      | succ d ih =>
        intro l0 g5 h1 h2 h3
        refine xi_iload C 4 dL_acts_483 rfl ?_
        refine xi_aload_n C 1 dL_acts_485 rfl ?_
        refine xi_get C zkX12 1 _ zlL_56 (by decide) (zap2 rfl (zap1 (zWb_w))) rfl dL_acts_486 ?_
        refine xi_icmp_ge C (tgt := 524) dL_acts_489 rfl (fun c62 => ?_) (fun c62 => ?_)
        · have e := nll c62 (by omega) (by omega)
          refine xi_aload_n C 0 dL_acts_524 rfl ?_
          obtain ⟨qr63, fs64, hq65⟩ := OW_at hO
          refine xi_callEV C (kO_arrangeBest l D cT hO) (([(q_k, .inl (cT 0, np, .inl kn))] : va_W) ++ (zWb cT qw q_l q_b q_a q_k q_s (nI np) (nI nl) (nI rounds) (nI calls) u.2.1 u.2.2.1 u.2.2.2 nl nb na A_l A_b A_a f0 f1 f2 f3 f4 g5 vb vw ++ (([(q_s, .inl (cT 0, 100, .inl spv))] : va_W) ++ (([(a_g, .inl (cT 0, 1, .inl gv))] : va_W) ++ ([]))))) (by have h := permX (bs := [([(q_k, .inl (cT 0, np, .inl kn))] : va_W), zWb cT qw q_l q_b q_a q_k q_s (nI np) (nI nl) (nI rounds) (nI calls) u.2.1 u.2.2.1 u.2.2.2 nl nb na A_l A_b A_a f0 f1 f2 f3 f4 g5 vb vw, Wo, ([(q_s, .inl (cT 0, 100, .inl spv))] : va_W), ([(a_g, .inl (cT 0, 1, .inl gv))] : va_W)]) (A := [Wo]) (B := [([(q_k, .inl (cT 0, np, .inl kn))] : va_W), zWb cT qw q_l q_b q_a q_k q_s (nI np) (nI nl) (nI rounds) (nI calls) u.2.1 u.2.2.1 u.2.2.2 nl nb na A_l A_b A_a f0 f1 f2 f3 f4 g5 vb vw, ([(q_s, .inl (cT 0, 100, .inl spv))] : va_W), ([(a_g, .inl (cT 0, 1, .inl gv))] : va_W)]) (n := 5) rfl [2, 0, 1, 3, 4] rfl (by decide) flat1; simp only [List.flatten_cons, List.flatten_nil] at h; exact h) zcX10_arrangeBest zmL_164 ziX10_arrangeBest (zrE rfl rfl) ⟨Nat.le_of_ble_eq_true rfl, Nat.le_of_ble_eq_true rfl⟩ rfl zkX10.1 (qr := qr63) hq65 rfl (Nat.le_of_ble_eq_true rfl) dL_acts_525 (fun v66 W67 hv68 _ => ?_)
          obtain ⟨rfl, -, hO69⟩ := hv68
          refine xi_eqw (ws2 := W67 ++ (([(q_k, .inl (cT 0, np, .inl kn))] : va_W) ++ (zWb cT qw q_l q_b q_a q_k q_s (nI np) (nI nl) (nI rounds) (nI calls) u.2.1 u.2.2.1 u.2.2.2 nl nb na A_l A_b A_a f0 f1 f2 f3 f4 g5 vb vw ++ (([(q_s, .inl (cT 0, 100, .inl spv))] : va_W) ++ (([(a_g, .inl (cT 0, 1, .inl gv))] : va_W) ++ ([])))))) rfl ?_
          refine xi_aload_n C 1 dL_acts_528 rfl ?_
          refine xi_get C zkX12 10 _ zlL_167 (by decide) (zap2 rfl (zap2 rfl (zap1 (zWb_w)))) rfl dL_acts_529 ?_
          refine xi_rwi (y := nI (nsum (bset nl a b c (gn a b fw k) (usb nb na wb fb ub wa fa ua a b cut (rounds + 1))) (gn a b fw k) nl)) hu3 ?_
          refine xi_icmp_ne C (tgt := 539) dL_acts_532 rfl (fun c70 => False.elim ((fun z => z rfl) c70)) (fun c70 => ?_)
          refine xi_iconst C (v := 1) dL_acts_535 rfl ?_
          refine xi_goto C (tgt := 540) dL_acts_536 rfl ?_
          have hcS2 : ∀ l, l < nl → cut l = true → (bset nl a b c (gn a b fw k) (usb nb na wb fb ub wa fa ua a b cut (rounds + 1))) l = false := fun l hl z => by
            cases y : (bset nl a b c (gn a b fw k) (usb nb na wb fb ub wa fa ua a b cut (rounds + 1))) l with
            | false => rfl
            | true =>
              have := hbest.1.1 l hl y
              unfold usb at this
              rw [z] at this
              exact nofalse this
          refine xi_permL (ws2 := W67 ++ (([(q_k, .inl (cT 0, np, .inl kn))] : va_W) ++ (([(q_s, .inl (cT 0, 100, .inl spv))] : va_W) ++ (zWb cT qw q_l q_b q_a q_k q_s (nI np) (nI nl) (nI rounds) (nI calls) u.2.1 u.2.2.1 u.2.2.2 nl nb na A_l A_b A_a f0 f1 f2 f3 f4 g5 vb vw ++ (([(a_g, .inl (cT 0, 1, .inl gv))] : va_W) ++ ([])))))) (by have h := permR (bs := [W67, ([(q_k, .inl (cT 0, np, .inl kn))] : va_W), zWb cT qw q_l q_b q_a q_k q_s (nI np) (nI nl) (nI rounds) (nI calls) u.2.1 u.2.2.1 u.2.2.2 nl nb na A_l A_b A_a f0 f1 f2 f3 f4 g5 vb vw, ([(q_s, .inl (cT 0, 100, .inl spv))] : va_W), ([(a_g, .inl (cT 0, 1, .inl gv))] : va_W)]) (bs2 := [W67, ([(q_k, .inl (cT 0, np, .inl kn))] : va_W), ([(q_s, .inl (cT 0, 100, .inl spv))] : va_W), zWb cT qw q_l q_b q_a q_k q_s (nI np) (nI nl) (nI rounds) (nI calls) u.2.1 u.2.2.1 u.2.2.2 nl nb na A_l A_b A_a f0 f1 f2 f3 f4 g5 vb vw, ([(a_g, .inl (cT 0, 1, .inl gv))] : va_W)]) (n := 5) rfl [0, 1, 3, 2, 4] rfl (by decide); simp only [List.flatten_cons, List.flatten_nil] at h; exact h) ?_
          refine xi_wide (k2 := 3) (n2 := 30) (by decide) (by decide) ?_
          exact hR _ _ _ cut (bset nl a b c (gn a b fw k) (usb nb na wb fb ub wa fa ua a b cut (rounds + 1))) k rounds calls sp dL_acts_540 (by omega) ⟨W67, q_l, q_b, q_a, q_k, q_s, A_l, A_b, A_a, u.2.1, u.2.2.1, u.2.2.2, f0, f1, f2, f3, f4, g5, vb, vw, kn, spv, gv, hO69, ⟨hE, hc, (fun i hi => h3 i (by omega)), hb, ha, hk, hsp, hcS2⟩, List.Perm.refl _⟩
        · have hl := nln c62 (by omega) (by omega)
          refine xi_aload_n C 1 dL_acts_492 rfl ?_
          refine xi_get C zkX12 4 _ zlL_75 (by decide) (zap2 rfl (zap1 (zWb_w))) rfl dL_acts_493 ?_
          refine xi_iload C 4 dL_acts_496 rfl ?_
          refine xw_aald C _ 7 (zap2 rfl (zap1 (zWb_ar))) rfl (by omega) (by decide) (if_pos hl) dL_acts_498 ?_
          refine xi_iload C 3 dL_acts_499 rfl ?_
          refine xi_iload C 4 dL_acts_501 rfl ?_
          refine xi_ishr C dL_acts_503 ?_
          refine xi_iconst C (v := 1) dL_acts_504 rfl ?_
          refine xi_iand C dL_acts_505 ?_
          refine xi_rwi (y := (if (bset nl a b c (gn a b fw k) (usb nb na wb fb ub wa fa ua a b cut (rounds + 1))) l0 = true then 1 else 0)) (bit1 hx hl (by omega)) ?_
          refine xi_iconst C (v := 1) dL_acts_506 rfl ?_
          cases hb9 : (bset nl a b c (gn a b fw k) (usb nb na wb fb ub wa fa ua a b cut (rounds + 1))) l0 with
          | true =>
            refine xi_rwi2 (y := 1) ifT ?_
            refine xi_icmp_ne C (tgt := 514) dL_acts_507 rfl (fun c71 => False.elim ((fun z : ¬ ((1 : Int32) = 1) => z rfl) c71)) (fun c71 => ?_)
            refine xi_iconst C (v := 1) dL_acts_510 rfl ?_
            refine xi_goto C (tgt := 515) dL_acts_511 rfl ?_
            refine xi_put C zkX11 5 _ zlL_129 (by decide) (zap2 rfl (zap1 (zWb_l hl))) rfl rfl rfl (Nat.le_of_ble_eq_true rfl) dL_acts_515 (ws2 := ([(q_k, .inl (cT 0, np, .inl kn))] : va_W) ++ (zWb cT qw q_l q_b q_a q_k q_s (nI np) (nI nl) (nI rounds) (nI calls) u.2.1 u.2.2.1 u.2.2.2 nl nb na A_l A_b A_a f0 f1 f2 f3 f4 (upd g5 l0 1) vb vw ++ (Wo ++ (([(q_s, .inl (cT 0, 100, .inl spv))] : va_W) ++ (([(a_g, .inl (cT 0, 1, .inl gv))] : va_W) ++ ([])))))) (zse2 rfl (zse1 (zWb_ll hl) (zWb_s5 hl))) ?_
            refine xi_iinc C (v := nI (l0 + 1)) 4 [1, 2, 3, 4, 0] (L2 := [(0, .ref a_o), (1, .ref qw), (2, .ref a_g), (5, .int u.1), (6, .int (nI (l0 + 1)))]) dL_acts_518 rfl (nI_1 l0) (Nat.le_of_ble_eq_true rfl) rfl ?_
            refine xi_goto C (tgt := 483) dL_acts_521 rfl ?_
            exact ih (l0 + 1) _ (by omega) (by omega) (fun i hi => by
              by_cases e : i = l0
              · rw [e, pk_us, hb9]; rfl
              · rw [pk_un e]
                exact h3 i (by omega))
          | false =>
            refine xi_rwi2 (y := 0) ifF ?_
            refine xi_icmp_ne C (tgt := 514) dL_acts_507 rfl (fun c72 => ?_) (fun c72 => False.elim ((fun z : (0 : Int32) = 1 => absurd z (by decide)) c72))
            refine xi_iconst C (v := 0) dL_acts_514 rfl ?_
            refine xi_put C zkX11 5 _ zlL_129 (by decide) (zap2 rfl (zap1 (zWb_l hl))) rfl rfl rfl (Nat.le_of_ble_eq_true rfl) dL_acts_515 (ws2 := ([(q_k, .inl (cT 0, np, .inl kn))] : va_W) ++ (zWb cT qw q_l q_b q_a q_k q_s (nI np) (nI nl) (nI rounds) (nI calls) u.2.1 u.2.2.1 u.2.2.2 nl nb na A_l A_b A_a f0 f1 f2 f3 f4 (upd g5 l0 0) vb vw ++ (Wo ++ (([(q_s, .inl (cT 0, 100, .inl spv))] : va_W) ++ (([(a_g, .inl (cT 0, 1, .inl gv))] : va_W) ++ ([])))))) (zse2 rfl (zse1 (zWb_ll hl) (zWb_s5 hl))) ?_
            refine xi_iinc C (v := nI (l0 + 1)) 4 [1, 2, 3, 4, 0] (L2 := [(0, .ref a_o), (1, .ref qw), (2, .ref a_g), (5, .int u.1), (6, .int (nI (l0 + 1)))]) dL_acts_518 rfl (nI_1 l0) (Nat.le_of_ble_eq_true rfl) rfl ?_
            refine xi_goto C (tgt := 483) dL_acts_521 rfl ?_
            exact ih (l0 + 1) _ (by omega) (by omega) (fun i hi => by
              by_cases e : i = l0
              · rw [e, pk_us, hb9]; rfl
              · rw [pk_un e]
                exact h3 i (by omega))
    exact L (nl + 1) 0 f5 (Nat.zero_le _) (by omega) (fun i hi => absurd hi (Nat.not_lt_zero i))
theorem nsum_cnt {nl : Nat} {S : Nat → Bool} (h : nl ≤ 8) : nsum S (fun _ => 1) nl = cnt nl S := by
  unfold cnt pc
  simp only [sbit_tb]
  rcases (show nl = 0 ∨ nl = 1 ∨ nl = 2 ∨ nl = 3 ∨ nl = 4 ∨ nl = 5 ∨ nl = 6 ∨ nl = 7 ∨ nl = 8 by omega) with rfl | rfl | rfl | rfl | rfl | rfl | rfl | rfl | rfl <;> simp [nsum] <;> (try cases S 0) <;> (try cases S 1) <;> (try cases S 2) <;> (try cases S 3) <;> (try cases S 4) <;> (try cases S 5) <;> (try cases S 6) <;> (try cases S 7) <;> rfl
set_option maxRecDepth 100000 in
set_option maxHeartbeats 4000000 in
theorem acts_364 {X : sX} {l : Launch} (hls : l.stackTraces = false) {D : va_G} {cT : Nat → ClassId} {a_o qw a_g : Nat} {np nl : Nat} {a b c : Nat → Nat} {fw : Nat → Bool} {nb : Nat} {wb fb ub : Nat → Nat} {na : Nat} {wa fa ua : Nat → Nat} {cut S : Nat → Bool} {k : Nat → Nat} {rounds calls : Nat} {sp : Nat → Nat} {q_l q_b q_a q_k q_s : Nat} {A_l A_b A_a : Nat → Nat} {bs bg bc : Int32} {f0 f1 f2 f3 f4 f5 : Nat → Int32} {vb vw : Nat → Nat → Int32} {kn spv gv : Nat → Int32} {Wo : va_W} (C : sC X (zRA 70 3 30) D cT 8 cL_acts yL_acts.cls) (hr : rounds < 90) (hR : ∀ (pc : Nat) (L : List (Nat × Value)) (W1 : va_W) (cut2 S2 : Nat → Bool) (k2 : Nat → Nat) (rounds2 calls2 : Nat) (sp2 : Nat → Nat), decode cL_acts pc = .ok (.ireturn, 1) → rounds2 ≤ rounds + 1 → SW cT a_o qw a_g np nl a b c fw nb wb fb ub na wa fa ua cut2 S2 k2 rounds2 calls2 sp2 W1 → sW X l (zRA 70 3 30) D 8 3 30 pc L [.int 1] W1) (hO : OW cT a_o np nl a b c fw nb wb fb ub na wa fa ua cut S k rounds calls sp 0 Wo) (hE : hLn np nl a b c fw f0 f1 f2 f3) (hc : hFl nl cut f4) (hS : hFl nl S f5) (hb : hRw nb nl wb fb ub vb) (ha : hRw na np wa fa ua vw) (hk : hK np k kn) (hsp : ∀ i, i ≤ rounds → spv i = nI (sp i)) (hcS : ∀ l, l < nl → cut l = true → S l = false) {q e9 : Nat} (hq : q < nl) (he9 : e9 < 8) : sW X l (zRA 70 3 30) D 8 0 0 364 [(0, .ref a_o), (1, .ref qw), (2, .ref a_g), (3, .int (nI q)), (4, .int (nI e9))] [] (Wo ++ (([(q_k, .inl (cT 0, np, .inl kn))] : va_W) ++ (([(q_s, .inl (cT 0, 100, .inl spv))] : va_W) ++ (zWb cT qw q_l q_b q_a q_k q_s (nI np) (nI nl) (nI rounds) (nI calls) bs bg bc nl nb na A_l A_b A_a f0 f1 f2 f3 f4 f5 vb vw ++ (([(a_g, .inl (cT 0, 1, .inl gv))] : va_W) ++ ([])))))) := by
  have hnp := hE.1
  have hnl := hE.2.1
  have hOf := OW_facts hO
  refine xi_iload_n C 3 dL_acts_364 rfl ?_
  refine xi_if_lt C (tgt := 458) dL_acts_365 rfl (fun c73 => False.elim ((fun z => nI_pos (by omega) z) c73)) (fun c73 => ?_)
  refine xi_iload C 4 dL_acts_368 rfl ?_
  refine xi_iconst C (v := 4) dL_acts_370 rfl ?_
  refine xi_rwi (y := nI 4) rfl ?_
  refine xi_icmp_ne C (tgt := 458) dL_acts_371 rfl (fun c74 => ?_) (fun c74 => ?_)
  · refine xi_drop (L2 := [(0, .ref a_o), (1, .ref qw), (2, .ref a_g), (4, .int (nI e9))]) [0, 1, 2, 4] rfl ?_
    exact acts_458 hls C hr hR hO hE hc hS hb ha hk hsp hcS he9
  · refine xi_aload_n C 1 dL_acts_374 rfl ?_
    refine xi_get C zkX12 4 _ zlL_75 (by decide) (zap2 rfl (zap2 rfl (zap2 rfl (zap1 (zWb_w))))) rfl dL_acts_375 ?_
    refine xi_iload_n C 3 dL_acts_378 rfl ?_
    refine xw_aald C _ 7 (zap2 rfl (zap2 rfl (zap2 rfl (zap1 (zWb_ar))))) rfl (by omega) (by decide) (if_pos hq) dL_acts_379 ?_
    refine xi_get C zkX11 4 _ zlL_152 (by decide) (zap2 rfl (zap2 rfl (zap2 rfl (zap1 (zWb_l hq))))) rfl dL_acts_380 ?_
    refine xi_rwi (y := (if cut q = true then 1 else 0)) (hc q hq) ?_
    refine xi_istore C [1, 2, 3, 4, 5, 0] (L2 := [(0, .ref a_o), (1, .ref qw), (2, .ref a_g), (3, .int (nI q)), (4, .int (nI e9)), (5, .int (if cut q = true then 1 else 0))]) dL_acts_383 (Nat.le_of_ble_eq_true rfl) rfl ?_
    refine xi_aload_n C 1 dL_acts_385 rfl ?_
    refine xi_get C zkX12 4 _ zlL_75 (by decide) (zap2 rfl (zap2 rfl (zap2 rfl (zap1 (zWb_w))))) rfl dL_acts_386 ?_
    refine xi_iload_n C 3 dL_acts_389 rfl ?_
    refine xw_aald C _ 7 (zap2 rfl (zap2 rfl (zap2 rfl (zap1 (zWb_ar))))) rfl (by omega) (by decide) (if_pos hq) dL_acts_390 ?_
    refine xi_iconst C (v := 0) dL_acts_391 rfl ?_
    refine xi_put C zkX11 4 _ zlL_152 (by decide) (zap2 rfl (zap2 rfl (zap2 rfl (zap1 (zWb_l hq))))) rfl rfl rfl (Nat.le_of_ble_eq_true rfl) dL_acts_392 (ws2 := Wo ++ (([(q_k, .inl (cT 0, np, .inl kn))] : va_W) ++ (([(q_s, .inl (cT 0, 100, .inl spv))] : va_W) ++ (zWb cT qw q_l q_b q_a q_k q_s (nI np) (nI nl) (nI rounds) (nI calls) bs bg bc nl nb na A_l A_b A_a f0 f1 f2 f3 (upd f4 q 0) f5 vb vw ++ (([(a_g, .inl (cT 0, 1, .inl gv))] : va_W) ++ ([])))))) (zse2 rfl (zse2 rfl (zse2 rfl (zse1 (zWb_ll hq) (zWb_s4 hq))))) ?_
    refine xi_iconst C (v := 0) dL_acts_395 rfl ?_
    refine xi_istore C [1, 2, 3, 4, 5, 6, 0] (L2 := [(0, .ref a_o), (1, .ref qw), (2, .ref a_g), (3, .int (nI q)), (4, .int (nI e9)), (5, .int (if cut q = true then 1 else 0)), (6, .int 0)]) dL_acts_396 (Nat.le_of_ble_eq_true rfl) rfl ?_
    refine xi_iconst C (v := 0) dL_acts_398 rfl ?_
    refine xi_istore C [1, 2, 3, 4, 5, 6, 7, 0] (L2 := [(0, .ref a_o), (1, .ref qw), (2, .ref a_g), (3, .int (nI q)), (4, .int (nI e9)), (5, .int (if cut q = true then 1 else 0)), (6, .int 0), (7, .int 0)]) dL_acts_399 (Nat.le_of_ble_eq_true rfl) rfl ?_
    have hc2 := hFl_del (i := q) hc
    have L : (sW X l (zRA 70 3 30) D 8 0 0 432 [(0, .ref a_o), (1, .ref qw), (2, .ref a_g), (3, .int (nI q)), (4, .int (nI e9)), (5, .int (if cut q = true then 1 else 0)), (6, .int (nI (cnt nl (sdel cut q))))] [] (Wo ++ (([(q_k, .inl (cT 0, np, .inl kn))] : va_W) ++ (([(q_s, .inl (cT 0, 100, .inl spv))] : va_W) ++ (zWb cT qw q_l q_b q_a q_k q_s (nI np) (nI nl) (nI rounds) (nI calls) bs bg bc nl nb na A_l A_b A_a f0 f1 f2 f3 (upd f4 q 0) f5 vb vw ++ (([(a_g, .inl (cT 0, 1, .inl gv))] : va_W) ++ ([]))))))) → ∀ (d l0 s9 : Nat), l0 ≤ nl → nl - l0 < d → s9 = nsum (sdel cut q) (fun _ => 1) l0 → sW X l (zRA 70 3 30) D 8 0 0 401 [(0, .ref a_o), (1, .ref qw), (2, .ref a_g), (3, .int (nI q)), (4, .int (nI e9)), (5, .int (if cut q = true then 1 else 0)), (6, .int (nI s9)), (7, .int (nI l0))] [] (Wo ++ (([(q_k, .inl (cT 0, np, .inl kn))] : va_W) ++ (([(q_s, .inl (cT 0, 100, .inl spv))] : va_W) ++ (zWb cT qw q_l q_b q_a q_k q_s (nI np) (nI nl) (nI rounds) (nI calls) bs bg bc nl nb na A_l A_b A_a f0 f1 f2 f3 (upd f4 q 0) f5 vb vw ++ (([(a_g, .inl (cT 0, 1, .inl gv))] : va_W) ++ ([])))))) := by
      intro kk d
      induction d with
      | zero => intro l0 s9 h1 h2; omega
      | succ d ih =>
        intro l0 s9 h1 h2 h3
        refine xi_iload C 7 dL_acts_401 rfl ?_
        refine xi_aload_n C 1 dL_acts_403 rfl ?_
        refine xi_get C zkX12 1 _ zlL_56 (by decide) (zap2 rfl (zap2 rfl (zap2 rfl (zap1 (zWb_w))))) rfl dL_acts_404 ?_
        refine xi_icmp_ge C (tgt := 432) dL_acts_407 rfl (fun c75 => ?_) (fun c75 => ?_)
        · have e := nll c75 (by omega) (by omega)
          have e2 : l0 = nl := by omega
          rw [h3, e2, nsum_cnt hnl]
          refine xi_drop (L2 := [(0, .ref a_o), (1, .ref qw), (2, .ref a_g), (3, .int (nI q)), (4, .int (nI e9)), (5, .int (if cut q = true then 1 else 0)), (6, .int (nI (cnt nl (sdel cut q))))]) [0, 1, 2, 3, 4, 5, 6] rfl ?_
          exact kk
        · have hl := nln c75 (by omega) (by omega)
          refine xi_aload_n C 1 dL_acts_410 rfl ?_
          refine xi_get C zkX12 4 _ zlL_75 (by decide) (zap2 rfl (zap2 rfl (zap2 rfl (zap1 (zWb_w))))) rfl dL_acts_411 ?_
          refine xi_iload C 7 dL_acts_414 rfl ?_
          refine xw_aald C _ 7 (zap2 rfl (zap2 rfl (zap2 rfl (zap1 (zWb_ar))))) rfl (by omega) (by decide) (if_pos hl) dL_acts_416 ?_
          refine xi_get C zkX11 4 _ zlL_152 (by decide) (zap2 rfl (zap2 rfl (zap2 rfl (zap1 (zWb_l hl))))) rfl dL_acts_417 ?_
          refine xi_rwi (y := (if sdel cut q l0 = true then 1 else 0)) (hc2 l0 hl) ?_
          cases hb9 : sdel cut q l0 with
          | true =>
            refine xi_rwi (y := 1) ifT ?_
            refine xi_if_eq C (tgt := 426) dL_acts_420 rfl (fun c76 => False.elim ((fun z : (1 : Int32) = 0 => one0 z) c76)) (fun c76 => ?_)
            refine xi_iinc C (v := nI (s9 + 1)) 6 [1, 2, 3, 4, 5, 6, 0, 7] (L2 := [(0, .ref a_o), (1, .ref qw), (2, .ref a_g), (3, .int (nI q)), (4, .int (nI e9)), (5, .int (if cut q = true then 1 else 0)), (6, .int (nI (s9 + 1))), (7, .int (nI l0))]) dL_acts_423 rfl (nI_1 s9) (Nat.le_of_ble_eq_true rfl) rfl ?_
            refine xi_iinc C (v := nI (l0 + 1)) 7 [1, 2, 3, 4, 5, 6, 7, 0] (L2 := [(0, .ref a_o), (1, .ref qw), (2, .ref a_g), (3, .int (nI q)), (4, .int (nI e9)), (5, .int (if cut q = true then 1 else 0)), (6, .int (nI (s9 + 1))), (7, .int (nI (l0 + 1)))]) dL_acts_426 rfl (nI_1 l0) (Nat.le_of_ble_eq_true rfl) rfl ?_
            refine xi_goto C (tgt := 401) dL_acts_429 rfl ?_
            exact ih (l0 + 1) (s9 + 1) (by omega) (by omega) (by show _ = nsum (sdel cut q) (fun _ => 1) l0 + (if sdel cut q l0 = true then 1 else 0); rw [hb9, ifT, h3])
          | false =>
            refine xi_rwi (y := 0) ifF ?_
            refine xi_if_eq C (tgt := 426) dL_acts_420 rfl (fun c77 => ?_) (fun c77 => False.elim ((fun z : ¬ ((0 : Int32) = 0) => z rfl) c77))
            refine xi_iinc C (v := nI (l0 + 1)) 7 [1, 2, 3, 4, 5, 6, 7, 0] (L2 := [(0, .ref a_o), (1, .ref qw), (2, .ref a_g), (3, .int (nI q)), (4, .int (nI e9)), (5, .int (if cut q = true then 1 else 0)), (6, .int (nI s9)), (7, .int (nI (l0 + 1)))]) dL_acts_426 rfl (nI_1 l0) (Nat.le_of_ble_eq_true rfl) rfl ?_
            refine xi_goto C (tgt := 401) dL_acts_429 rfl ?_
            exact ih (l0 + 1) s9 (by omega) (by omega) (by show _ = nsum (sdel cut q) (fun _ => 1) l0 + (if sdel cut q l0 = true then 1 else 0); rw [hb9, ifF, Nat.add_zero, h3])
    refine L ?_ (nl + 1) 0 0 (Nat.zero_le _) (by omega) rfl
    refine xi_aload_n C 0 dL_acts_432 rfl ?_
    refine xi_iload_n C 3 dL_acts_433 rfl ?_
    cases hb9 : cut q with
    | true =>
      skip
      refine xi_callEH C (kL_mends l D cT hO hq hb9) (([(q_k, .inl (cT 0, np, .inl kn))] : va_W) ++ (([(q_s, .inl (cT 0, 100, .inl spv))] : va_W) ++ (zWb cT qw q_l q_b q_a q_k q_s (nI np) (nI nl) (nI rounds) (nI calls) bs bg bc nl nb na A_l A_b A_a f0 f1 f2 f3 (upd f4 q 0) f5 vb vw ++ (([(a_g, .inl (cT 0, 1, .inl gv))] : va_W) ++ ([]))))) (by have h := permX (bs := [Wo, ([(q_k, .inl (cT 0, np, .inl kn))] : va_W), ([(q_s, .inl (cT 0, 100, .inl spv))] : va_W), zWb cT qw q_l q_b q_a q_k q_s (nI np) (nI nl) (nI rounds) (nI calls) bs bg bc nl nb na A_l A_b A_a f0 f1 f2 f3 (upd f4 q 0) f5 vb vw, ([(a_g, .inl (cT 0, 1, .inl gv))] : va_W)]) (A := [Wo]) (B := [([(q_k, .inl (cT 0, np, .inl kn))] : va_W), ([(q_s, .inl (cT 0, 100, .inl spv))] : va_W), zWb cT qw q_l q_b q_a q_k q_s (nI np) (nI nl) (nI rounds) (nI calls) bs bg bc nl nb na A_l A_b A_a f0 f1 f2 f3 (upd f4 q 0) f5 vb vw, ([(a_g, .inl (cT 0, 1, .inl gv))] : va_W)]) (n := 5) rfl [0, 1, 2, 3, 4] rfl (by decide) flat1; simp only [List.flatten_cons, List.flatten_nil] at h; exact h) zcL_mends zmL_158L zshL_mends (zrE rfl rfl) ⟨Nat.le_of_ble_eq_true rfl, Nat.le_of_ble_eq_true rfl⟩ rfl rfl (Nat.le_of_ble_eq_true rfl) dL_acts_434 (fun v78 W79 hv80 _ => ?_)
      obtain ⟨rfl, hO81⟩ := hv80
      refine xi_eqw (ws2 := W79 ++ (([(q_k, .inl (cT 0, np, .inl kn))] : va_W) ++ (([(q_s, .inl (cT 0, 100, .inl spv))] : va_W) ++ (zWb cT qw q_l q_b q_a q_k q_s (nI np) (nI nl) (nI rounds) (nI calls) bs bg bc nl nb na A_l A_b A_a f0 f1 f2 f3 (upd f4 q 0) f5 vb vw ++ (([(a_g, .inl (cT 0, 1, .inl gv))] : va_W) ++ ([])))))) rfl ?_
      refine xi_iload C 5 dL_acts_437 rfl ?_
      refine xi_rwi (y := 1) ifT ?_
      refine xi_if_eq C (tgt := 447) dL_acts_439 rfl (fun c82 => False.elim ((fun z : (1 : Int32) = 0 => one0 z) c82)) (fun c82 => ?_)
      refine xi_iload C 6 dL_acts_442 rfl ?_
      refine xi_goto C (tgt := 449) dL_acts_444 rfl ?_
      refine xi_icmp_ne C (tgt := 456) dL_acts_449 rfl (fun c83 => False.elim ((fun z => z rfl) c83)) (fun c83 => ?_)
      refine xi_iconst C (v := 1) dL_acts_452 rfl ?_
      refine xi_goto C (tgt := 457) dL_acts_453 rfl ?_
      refine xi_wide (k2 := 3) (n2 := 30) (by decide) (by decide) ?_
      exact hR _ _ _ (sdel cut q) S k rounds calls sp dL_acts_457 (by omega) ⟨W79, q_l, q_b, q_a, q_k, q_s, A_l, A_b, A_a, bs, bg, bc, f0, f1, f2, f3, (upd f4 q 0), f5, vb, vw, kn, spv, gv, hO81, ⟨hE, hc2, hS, hb, ha, hk, hsp, (fun l hl z => hcS l hl (by
          by_cases e : l = q
          · rw [e, sdel_eq] at z; exact nofalse z
          · rw [sdel_ne e] at z; exact z))⟩, List.Perm.refl _⟩
    | false =>
      refine xi_callEH C (kL_mends_E l hls D cT hO hq hb9) (([(q_k, .inl (cT 0, np, .inl kn))] : va_W) ++ (([(q_s, .inl (cT 0, 100, .inl spv))] : va_W) ++ (zWb cT qw q_l q_b q_a q_k q_s (nI np) (nI nl) (nI rounds) (nI calls) bs bg bc nl nb na A_l A_b A_a f0 f1 f2 f3 (upd f4 q 0) f5 vb vw ++ (([(a_g, .inl (cT 0, 1, .inl gv))] : va_W) ++ ([]))))) (by have h := permX (bs := [Wo, ([(q_k, .inl (cT 0, np, .inl kn))] : va_W), ([(q_s, .inl (cT 0, 100, .inl spv))] : va_W), zWb cT qw q_l q_b q_a q_k q_s (nI np) (nI nl) (nI rounds) (nI calls) bs bg bc nl nb na A_l A_b A_a f0 f1 f2 f3 (upd f4 q 0) f5 vb vw, ([(a_g, .inl (cT 0, 1, .inl gv))] : va_W)]) (A := [Wo]) (B := [([(q_k, .inl (cT 0, np, .inl kn))] : va_W), ([(q_s, .inl (cT 0, 100, .inl spv))] : va_W), zWb cT qw q_l q_b q_a q_k q_s (nI np) (nI nl) (nI rounds) (nI calls) bs bg bc nl nb na A_l A_b A_a f0 f1 f2 f3 (upd f4 q 0) f5 vb vw, ([(a_g, .inl (cT 0, 1, .inl gv))] : va_W)]) (n := 5) rfl [0, 1, 2, 3, 4] rfl (by decide) flat1; simp only [List.flatten_cons, List.flatten_nil] at h; exact h) zcL_mends zmL_158L zshL_mends (zrA rfl rfl) ⟨Nat.le_of_ble_eq_true rfl, Nat.le_of_ble_eq_true rfl⟩ rfl rfl (Nat.le_of_ble_eq_true rfl) dL_acts_434 (fun v84 W85 hv86 _ => ?_)
      obtain ⟨rfl, hO87⟩ := hv86
      refine xi_eqw (ws2 := W85 ++ (([(q_k, .inl (cT 0, np, .inl kn))] : va_W) ++ (([(q_s, .inl (cT 0, 100, .inl spv))] : va_W) ++ (zWb cT qw q_l q_b q_a q_k q_s (nI np) (nI nl) (nI rounds) (nI calls) bs bg bc nl nb na A_l A_b A_a f0 f1 f2 f3 (upd f4 q 0) f5 vb vw ++ (([(a_g, .inl (cT 0, 1, .inl gv))] : va_W) ++ ([])))))) rfl ?_
      refine xi_iload C 5 dL_acts_437 rfl ?_
      refine xi_rwi (y := 0) ifF ?_
      refine xi_if_eq C (tgt := 447) dL_acts_439 rfl (fun c88 => ?_) (fun c88 => False.elim ((fun z : ¬ ((0 : Int32) = 0) => z rfl) c88))
      refine xi_bipush C (v := (-3)) dL_acts_447 rfl ?_
      refine xi_icmp_ne C (tgt := 456) dL_acts_449 rfl (fun c89 => False.elim ((fun z => z rfl) c89)) (fun c89 => ?_)
      refine xi_iconst C (v := 1) dL_acts_452 rfl ?_
      refine xi_goto C (tgt := 457) dL_acts_453 rfl ?_
      have hcc : hFl nl cut (upd f4 q 0) := fun i hi => by
        by_cases e : i = q
        · rw [e, pk_us, hb9]; rfl
        · rw [pk_un e]
          exact hc i hi
      refine xi_wide (k2 := 3) (n2 := 30) (by decide) (by decide) ?_
      exact hR _ _ _ cut S k rounds calls sp dL_acts_457 (by omega) ⟨W85, q_l, q_b, q_a, q_k, q_s, A_l, A_b, A_a, bs, bg, bc, f0, f1, f2, f3, (upd f4 q 0), f5, vb, vw, kn, spv, gv, hO87, ⟨hE, hcc, hS, hb, ha, hk, hsp, hcS⟩, List.Perm.refl _⟩
