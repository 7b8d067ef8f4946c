set_option maxRecDepth 100000 in
set_option maxHeartbeats 4000000 in
theorem kL_draw (l : Launch) (D : va_G) (cT : Nat → ClassId) (a : Nat) (v : Nat → Int32) {m : Nat} (hm0 : 0 < m) (hm : m < 1000) : sE l yL_draw (zw yL_draw cL_draw 2 (some .int)) (zR 1) 0 0 (some .int) D cT [.ref a, .int (nI m)] [(a, .inl (cT 0, 1, .inl v))] (fun r W => ∃ (d : Nat) (v2 : Nat → Int32), d < m ∧ r = some (.int (nI d)) ∧ W = [(a, .inl (cT 0, 1, .inl v2))]) := by
  refine sE_int rfl (Nat.le_of_ble_eq_true rfl) ?_
  intro X C hE
  refine xi_eqw (ws2 := ([(a, .inl (cT 0, 1, .inl v))] : va_W) ++ ([])) rfl ?_
  refine xi_drop (L2 := [(0, .ref a), (1, .int (nI m))]) [0, 1] rfl ?_
  refine xi_aload_n C 0 dL_draw_0 rfl ?_
  refine xi_iconst C (v := 0) dL_draw_1 rfl ?_
  refine xi_aload_n C 0 dL_draw_2 rfl ?_
  refine xi_iconst C (v := 0) dL_draw_3 rfl ?_
  refine xi_rwi (y := nI 0) (show (0 : Int32) = nI 0 from rfl) ?_
  refine xw_iald C _ (zap1 ((rfl : (([(a, .inl (cT 0, 1, .inl v))] : va_W) : va_W)[0]? = some _))) Nat.zero_lt_one (by decide) dL_draw_4 ?_
  refine xi_ldc C (v := 1664525) zcoL_23 dL_draw_5 ?_
  refine xi_imul C dL_draw_7 ?_
  refine xi_ldc C (v := 1013904223) zcoL_24 dL_draw_8 ?_
  refine xi_iadd C dL_draw_10 ?_
  refine xi_topi (fun x1 ex1 => ?_)
  refine xi_rwi2 (show (0 : Int32) = nI 0 from rfl) ?_
  refine xw_iast C _ (zap1 ((rfl : (([(a, .inl (cT 0, 1, .inl v))] : va_W) : va_W)[0]? = some _))) Nat.zero_lt_one (by decide) dL_draw_11 (ws2 := ([(a, .inl (cT 0, 1, .inl (upd v 0 x1)))] : va_W) ++ ([])) (zse1 (Nat.zero_lt_succ _) rfl) ?_
  refine xi_aload_n C 0 dL_draw_12 rfl ?_
  refine xi_iconst C (v := 0) dL_draw_13 rfl ?_
  refine xi_rwi (y := nI 0) (show (0 : Int32) = nI 0 from rfl) ?_
  refine xw_iald C _ (zap1 ((rfl : (([(a, .inl (cT 0, 1, .inl (upd v 0 x1)))] : va_W) : va_W)[0]? = some _))) Nat.zero_lt_one (by decide) dL_draw_14 ?_
  refine xi_rwi (y := x1) pk_us ?_
  refine xi_bipush C (v := 8) dL_draw_15 rfl ?_
  obtain ⟨e, he, e1⟩ := ushr8 x1
  refine xi_iushr C dL_draw_17 ?_
  refine xi_rwi (y := nI e) e1 ?_
  refine xi_iload_n C 1 dL_draw_18 rfl ?_
  refine xi_irem C dL_draw_19 (nI_ne0 hm0 (by omega)) ?_
  refine xi_rwi (y := nI (e % m)) (pk_rem (by omega) hm0 (by omega)) ?_
  exact hE _ _ _ _ dL_draw_20 ⟨e % m, _, Nat.mod_lt _ hm0, rfl, rfl⟩
