/-! the web drawn: what it is made of -/
set_option maxRecDepth 100000 in
set_option maxHeartbeats 4000000 in
theorem kX11_init (l : Launch) (D : va_G) (cT : Nat → ClassId) {ql : Nat} : sE l yX11_init (zw yX11_init cX11_init 1 none) (zRA 1 0 0) 0 0 none D cT [.ref ql] (([(ql, .inr (11, [.int 0, .int 0, .int 0, .int 0, .int 0, .int 0]))] : va_W)) (fun r W => r = none ∧ W = ([(ql, .inr (11, [.int 0, .int 0, .int 0, .int 0, .int 0, .int 0]))] : va_W)) := by
  refine sE_void rfl (Nat.le_of_ble_eq_true rfl) ?_
  intro X C _ hE
  refine xi_eqw (ws2 := ([(ql, .inr (11, [.int 0, .int 0, .int 0, .int 0, .int 0, .int 0]))] : va_W) ++ ([])) (by first | rfl | simp only [List.append_assoc, List.nil_append, List.append_nil, List.cons_append]) ?_
  refine xi_drop (L2 := [(0, .ref ql)]) [0] rfl ?_
  refine xi_aload_n C 0 dX11_init_0 rfl ?_
  refine xi_objinit C (zm3 (i := 110) rfl rfl) (zm1 (i := 37) rfl rfl) (zm1 (i := 38) rfl rfl) ⟨Nat.le_of_ble_eq_true rfl, Nat.le_of_ble_eq_true rfl⟩ (Nat.le_of_ble_eq_true rfl) dX11_init_1 ?_
  exact hE _ _ _ dX11_init_4 ⟨rfl, rfl⟩
set_option maxRecDepth 100000 in
set_option maxHeartbeats 4000000 in
theorem kX12_init (l : Launch) (D : va_G) (cT : Nat → ClassId) {qw : Nat} : sE l yX12_init (zw yX12_init cX12_init 1 none) (zRA 2 2 124) 2 124 none D cT [.ref qw] (([(qw, .inr (12, [.int 0, .int 0, .int 0, .int 0, .null, .null, .null, .null, .null, .int 0, .int 0, .int 0]))] : va_W)) (fun r W => ∃ q_l q_s : Nat, r = none ∧ W = ([(qw, .inr (12, [.int 0, .int 0, .int 0, .int 0, .ref q_l, .null, .null, .null, .ref q_s, .int 0, .int 0, .int 0]))] : va_W) ++ (([(q_l, .inl (cT 7, 24, .inr (.inr (.inr (.inr (fun _ => none))))))] : va_W) ++ (([(q_s, .inl (cT 0, 100, .inl (fun _ => 0)))] : va_W) ++ ([])))) := by
  refine sE_void rfl (Nat.le_of_ble_eq_true rfl) ?_
  intro X C hI hE
  refine xi_eqw (ws2 := ([(qw, .inr (12, [.int 0, .int 0, .int 0, .int 0, .null, .null, .null, .null, .null, .int 0, .int 0, .int 0]))] : va_W) ++ ([])) (by first | rfl | simp only [List.append_assoc, List.nil_append, List.append_nil, List.cons_append]) ?_
  refine xi_drop (L2 := [(0, .ref qw)]) [0] rfl ?_
  refine xi_aload_n C 0 dX12_init_0 rfl ?_
  refine xi_objinit C (zm2 (i := 122) rfl rfl) (zm1 (i := 37) rfl rfl) (zm1 (i := 38) rfl rfl) ⟨Nat.le_of_ble_eq_true rfl, Nat.le_of_ble_eq_true rfl⟩ (Nat.le_of_ble_eq_true rfl) dX12_init_1 ?_
  refine xi_aload_n C 0 dX12_init_4 rfl ?_
  refine xi_bipush C (v := 24) dX12_init_5 rfl ?_
  refine xi_anewL C (N := 24) zclX12_7 (by decide) rfl (by decide) (Nat.le_of_ble_eq_true rfl) (Nat.le_of_ble_eq_true rfl) dX12_init_7 (fun q_l => ?_)
  refine xi_eqw (ws2 := ([(qw, .inr (12, [.int 0, .int 0, .int 0, .int 0, .null, .null, .null, .null, .null, .int 0, .int 0, .int 0]))] : va_W) ++ (([(q_l, .inl (cT 7, 24, .inr (.inr (.inr (.inr (fun _ => none))))))] : va_W) ++ ([]))) (by simp only [List.append_assoc, List.nil_append, List.append_nil]) ?_
  refine xi_putF C (hI rfl) zkX12 4 _ (zm2 (i := 132) rfl rfl) (by decide) (zap1 ((rfl : (([(qw, .inr (12, [.int 0, .int 0, .int 0, .int 0, .null, .null, .null, .null, .null, .int 0, .int 0, .int 0]))] : va_W) : va_W)[0]? = some _))) rfl rfl rfl rfl (Nat.le_of_ble_eq_true rfl) dX12_init_10 (ws2 := ([(qw, .inr (12, [.int 0, .int 0, .int 0, .int 0, .ref q_l, .null, .null, .null, .null, .int 0, .int 0, .int 0]))] : va_W) ++ (([(q_l, .inl (cT 7, 24, .inr (.inr (.inr (.inr (fun _ => none))))))] : va_W) ++ ([]))) (zse1 (Nat.zero_lt_succ _) rfl) ?_
  refine xi_aload_n C 0 dX12_init_13 rfl ?_
  refine xi_bipush C (v := 100) dX12_init_14 rfl ?_
  refine xi_newaI C (N := 100) (zm1 (i := 71) rfl rfl) (by decide) rfl (by decide) (Nat.le_of_ble_eq_true rfl) (Nat.le_of_ble_eq_true rfl) dX12_init_16 (fun q_s => ?_)
  refine xi_eqw (ws2 := ([(qw, .inr (12, [.int 0, .int 0, .int 0, .int 0, .ref q_l, .null, .null, .null, .null, .int 0, .int 0, .int 0]))] : va_W) ++ (([(q_l, .inl (cT 7, 24, .inr (.inr (.inr (.inr (fun _ => none))))))] : va_W) ++ (([(q_s, .inl (cT 0, 100, .inl (fun _ => 0)))] : va_W) ++ ([])))) (by simp only [List.append_assoc, List.nil_append, List.append_nil]) ?_
  refine xi_putF C (hI rfl) zkX12 8 _ (zm2 (i := 140) rfl rfl) (by decide) (zap1 ((rfl : (([(qw, .inr (12, [.int 0, .int 0, .int 0, .int 0, .ref q_l, .null, .null, .null, .null, .int 0, .int 0, .int 0]))] : va_W) : va_W)[0]? = some _))) rfl rfl rfl rfl (Nat.le_of_ble_eq_true rfl) dX12_init_18 (ws2 := ([(qw, .inr (12, [.int 0, .int 0, .int 0, .int 0, .ref q_l, .null, .null, .null, .ref q_s, .int 0, .int 0, .int 0]))] : va_W) ++ (([(q_l, .inl (cT 7, 24, .inr (.inr (.inr (.inr (fun _ => none))))))] : va_W) ++ (([(q_s, .inl (cT 0, 100, .inl (fun _ => 0)))] : va_W) ++ ([])))) (zse1 (Nat.zero_lt_succ _) rfl) ?_
  exact hE _ _ _ dX12_init_21 ⟨q_l, q_s, rfl, rfl⟩
