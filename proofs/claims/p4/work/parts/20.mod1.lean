def fX11_isIn (x0 : Int32) (x1 : Int32) : Int32 := if ((x0 >>> (x1 &&& 31)) &&& 1) = 1 then (1 : Int32) else (0 : Int32)
set_option maxRecDepth 100000 in
set_option maxHeartbeats 4000000 in
theorem kX11_isIn (l : Launch) (D : va_G) (cT : Nat → ClassId) (x0 : Int32) (x1 : Int32) (r : Int32) (h : fX11_isIn x0 x1 = r) : sM l yX11_isIn cX11_isIn 2 (some .boolean) (zR 1) D cT [.int x0, .int x1] [] (some (.int r)) [] := by
  refine sM_bool rfl (Nat.le_of_ble_eq_true rfl) ?_
  intro X C hE
  refine xi_drop (L2 := [(0, .int x0), (1, .int x1)]) [0, 1] rfl ?_
  refine xi_iload_n C 0 dX11_isIn_0 rfl ?_
  refine xi_iload_n C 1 dX11_isIn_1 rfl ?_
  refine xi_ishr C dX11_isIn_2 ?_
  refine xi_iconst C (v := 1) dX11_isIn_3 rfl ?_
  refine xi_iand C dX11_isIn_4 ?_
  refine xi_iconst C (v := 1) dX11_isIn_5 rfl ?_
  refine xi_icmp_ne C (tgt := 13) dX11_isIn_6 rfl (fun c1 => ?_) (fun c1 => ?_)
  · replace h := (if_neg c1).symm.trans h
    refine xi_iconst C (v := 0) dX11_isIn_13 rfl ?_
    subst h
    exact hE _ _ _ dX11_isIn_14 rfl rfl
  · replace h := (if_pos c1).symm.trans h
    refine xi_iconst C (v := 1) dX11_isIn_9 rfl ?_
    refine xi_goto C (tgt := 14) dX11_isIn_10 rfl ?_
    subst h
    exact hE _ _ _ dX11_isIn_14 rfl rfl
def fX11_within (x0 : Int32) (x1 : Int32) (x2 : Int32) : Int32 := if x0 < x1 then (0 : Int32) else if x2 < x0 then (0 : Int32) else (1 : Int32)
set_option maxRecDepth 100000 in
set_option maxHeartbeats 4000000 in
theorem kX11_within (l : Launch) (D : va_G) (cT : Nat → ClassId) (x0 : Int32) (x1 : Int32) (x2 : Int32) (r : Int32) (h : fX11_within x0 x1 x2 = r) : sM l yX11_within cX11_within 3 (some .boolean) (zR 1) D cT [.int x0, .int x1, .int x2] [] (some (.int r)) [] := by
  refine sM_bool rfl (Nat.le_of_ble_eq_true rfl) ?_
  intro X C hE
  refine xi_drop (L2 := [(0, .int x0), (1, .int x1), (2, .int x2)]) [0, 1, 2] rfl ?_
  refine xi_iload_n C 0 dX11_within_0 rfl ?_
  refine xi_iload_n C 1 dX11_within_1 rfl ?_
  refine xi_icmp_lt C (tgt := 14) dX11_within_2 rfl (fun c1 => ?_) (fun c1 => ?_)
  · replace h := (if_pos c1).symm.trans h
    refine xi_iconst C (v := 0) dX11_within_14 rfl ?_
    subst h
    exact hE _ _ _ dX11_within_15 rfl rfl
  · replace h := (if_neg c1).symm.trans h
    refine xi_iload_n C 0 dX11_within_5 rfl ?_
    refine xi_iload_n C 2 dX11_within_6 rfl ?_
    refine xi_icmp_gt C (tgt := 14) dX11_within_7 rfl (fun c2 => ?_) (fun c2 => ?_)
    · replace h := (if_pos c2).symm.trans h
      refine xi_iconst C (v := 0) dX11_within_14 rfl ?_
      subst h
      exact hE _ _ _ dX11_within_15 rfl rfl
    · replace h := (if_neg c2).symm.trans h
      refine xi_iconst C (v := 1) dX11_within_10 rfl ?_
      refine xi_goto C (tgt := 15) dX11_within_11 rfl ?_
      subst h
      exact hE _ _ _ dX11_within_15 rfl rfl
def fX11_includes_b3 (N_p0 : Nat) (p0 : Nat → Int32) (x1 : Int32) (x2 : Int32) (x3 : Int32) : Nat → Int32 → Option Int32
  | 0, _ => none
  | n + 1, y4 => if x1 ≤ y4 then some (0 : Int32) else gd (3 * y4) N_p0 (if (p0 (3 * y4).toNatClampNeg) = x2 then gd ((3 * y4) + 1) N_p0 (gd ((3 * y4) + 2) N_p0 (if (fX11_within x3 (p0 ((3 * y4) + 1).toNatClampNeg) (p0 ((3 * y4) + 2).toNatClampNeg)) = 0 then (fX11_includes_b3 N_p0 p0 x1 x2 x3 n) (y4 + 1) else some (1 : Int32))) else (fX11_includes_b3 N_p0 p0 x1 x2 x3 n) (y4 + 1))
theorem fX11_includes_b3_0 (N_p0 : Nat) (p0 : Nat → Int32) (x1 : Int32) (x2 : Int32) (x3 : Int32) (y4 : Int32) : fX11_includes_b3 N_p0 p0 x1 x2 x3 0 y4 = none := rfl
theorem fX11_includes_b3_s (N_p0 : Nat) (p0 : Nat → Int32) (x1 : Int32) (x2 : Int32) (x3 : Int32) (n : Nat) (y4 : Int32) : fX11_includes_b3 N_p0 p0 x1 x2 x3 (n + 1) y4 = (if x1 ≤ y4 then some (0 : Int32) else gd (3 * y4) N_p0 (if (p0 (3 * y4).toNatClampNeg) = x2 then gd ((3 * y4) + 1) N_p0 (gd ((3 * y4) + 2) N_p0 (if (fX11_within x3 (p0 ((3 * y4) + 1).toNatClampNeg) (p0 ((3 * y4) + 2).toNatClampNeg)) = 0 then (fX11_includes_b3 N_p0 p0 x1 x2 x3 n) (y4 + 1) else some (1 : Int32))) else (fX11_includes_b3 N_p0 p0 x1 x2 x3 n) (y4 + 1))) := rfl
def fX11_includes (N_p0 : Nat) (p0 : Nat → Int32) (x1 : Int32) (x2 : Int32) (x3 : Int32) : Option Int32 := fX11_includes_b3 N_p0 p0 x1 x2 x3 FU 0
set_option maxRecDepth 100000 in
set_option maxHeartbeats 4000000 in
theorem kX11_includes (l : Launch) (D : va_G) (cT : Nat → ClassId) (a_p0 : Nat) (N_p0 : Nat) (p0 : Nat → Int32) (x1 : Int32) (x2 : Int32) (x3 : Int32) (r : Int32) (h : fX11_includes N_p0 p0 x1 x2 x3 = some r) : sM l yX11_includes cX11_includes 5 (some .boolean) (zR 2) D cT [.ref a_p0, .int x1, .int x2, .int x3] [(a_p0, .inl (cT 0, N_p0, .inl p0))] (some (.int r)) [(a_p0, .inl (cT 0, N_p0, .inl p0))] := by
  refine sM_bool rfl (Nat.le_of_ble_eq_true rfl) ?_
  intro X C hE
  have B3 : ∀ (n : Nat) (y4 : Int32), fX11_includes_b3 N_p0 p0 x1 x2 x3 n y4 = some r → sW X l (zR 2) D 5 0 0 3 [(0, .ref a_p0), (1, .int x1), (2, .int x2), (3, .int x3), (4, .int y4)] [] [(a_p0, .inl (cT 0, N_p0, .inl p0))] := by
    intro n
    induction n with
    | zero =>
      intro y4 h
      exact zno ((fX11_includes_b3_0 _ _ _ _ _ _).symm.trans h)
    | succ n ih =>
      intro y4 h
      replace h := (fX11_includes_b3_s _ _ _ _ _ _ _).symm.trans h
      refine xi_iload C 4 dX11_includes_3 rfl ?_
      refine xi_iload_n C 1 dX11_includes_5 rfl ?_
      refine xi_icmp_ge C (tgt := 50) dX11_includes_6 rfl (fun c1 => ?_) (fun c1 => ?_)
      · replace h := (if_pos c1).symm.trans h
        refine xi_iconst C (v := 0) dX11_includes_50 rfl ?_
        obtain rfl := Option.some.inj h
        exact hE _ _ _ dX11_includes_51 rfl rfl
      · replace h := (if_neg c1).symm.trans h
        refine xi_aload_n C 0 dX11_includes_9 rfl ?_
        refine xi_iconst C (v := 3) dX11_includes_10 rfl ?_
        refine xi_iload C 4 dX11_includes_11 rfl ?_
        refine xi_imul C dX11_includes_13 ?_
        replace h := ig h
        obtain ⟨c2, h⟩ := h
        refine xi_iald C 0 rfl c2 dX11_includes_14 ?_
        refine xi_iload_n C 2 dX11_includes_15 rfl ?_
        refine xi_icmp_ne C (tgt := 44) dX11_includes_16 rfl (fun c3 => ?_) (fun c3 => ?_)
        · replace h := (if_neg c3).symm.trans h
          refine xi_iinc C (v := y4 + 1) 4 [1, 2, 3, 4, 0] (L2 := [(0, .ref a_p0), (1, .int x1), (2, .int x2), (3, .int x3), (4, .int (y4 + 1))]) dX11_includes_44 rfl rfl (Nat.le_of_ble_eq_true rfl) rfl ?_
          refine xi_goto C (tgt := 3) dX11_includes_47 rfl ?_
          exact ih (y4 + 1) h
        · replace h := (if_pos c3).symm.trans h
          refine xi_iload_n C 3 dX11_includes_19 rfl ?_
          refine xi_aload_n C 0 dX11_includes_20 rfl ?_
          refine xi_iconst C (v := 3) dX11_includes_21 rfl ?_
          refine xi_iload C 4 dX11_includes_22 rfl ?_
          refine xi_imul C dX11_includes_24 ?_
          refine xi_iconst C (v := 1) dX11_includes_25 rfl ?_
          refine xi_iadd C dX11_includes_26 ?_
          replace h := ig h
          obtain ⟨c4, h⟩ := h
          refine xi_iald C 0 rfl c4 dX11_includes_27 ?_
          refine xi_aload_n C 0 dX11_includes_28 rfl ?_
          refine xi_iconst C (v := 3) dX11_includes_29 rfl ?_
          refine xi_iload C 4 dX11_includes_30 rfl ?_
          refine xi_imul C dX11_includes_32 ?_
          refine xi_iconst C (v := 2) dX11_includes_33 rfl ?_
          refine xi_iadd C dX11_includes_34 ?_
          replace h := ig h
          obtain ⟨c5, h⟩ := h
          refine xi_iald C 0 rfl c5 dX11_includes_35 ?_
          refine xi_callSr C (kX11_within l D cT x3 (p0 ((3 * y4) + 1).toNatClampNeg) (p0 ((3 * y4) + 2).toNatClampNeg) (fX11_within x3 (p0 ((3 * y4) + 1).toNatClampNeg) (p0 ((3 * y4) + 2).toNatClampNeg)) rfl) zcX11_within zmX11_113 zsX11_within (zr rfl rfl) z00 rfl [] rfl rfl rfl (Nat.le_of_ble_eq_true rfl) dX11_includes_36 (fun z8 => ?_)
          refine xi_if_eq C (tgt := 44) dX11_includes_39 rfl (fun c9 => ?_) (fun c9 => ?_)
          · replace h := (if_pos c9).symm.trans h
            refine xi_iinc C (v := y4 + 1) 4 [1, 2, 3, 4, 0] (L2 := [(0, .ref a_p0), (1, .int x1), (2, .int x2), (3, .int x3), (4, .int (y4 + 1))]) dX11_includes_44 rfl rfl (Nat.le_of_ble_eq_true rfl) rfl ?_
            refine xi_goto C (tgt := 3) dX11_includes_47 rfl ?_
            exact ih (y4 + 1) h
          · replace h := (if_neg c9).symm.trans h
            refine xi_iconst C (v := 1) dX11_includes_42 rfl ?_
            obtain rfl := Option.some.inj h
            exact hE _ _ _ dX11_includes_43 rfl rfl
  refine xi_drop (L2 := [(0, .ref a_p0), (1, .int x1), (2, .int x2), (3, .int x3)]) [0, 1, 2, 3] rfl ?_
  refine xi_iconst C (v := 0) dX11_includes_0 rfl ?_
  refine xi_istore C [1, 2, 3, 4, 0] (L2 := [(0, .ref a_p0), (1, .int x1), (2, .int x2), (3, .int x3), (4, .int 0)]) dX11_includes_1 (Nat.le_of_ble_eq_true rfl) rfl ?_
  exact B3 FU 0 h
def fX11_canCall (t_now : Nat → Int32) (t_told : Nat → Int32) (t_one : Nat → Int32) (t_other : Nat → Int32) (t_broken : Nat → Int32) (t_away : Nat → Int32) (x1 : Int32) (x2 : Int32) : Option Int32 := if (fX11_isIn (t_now 3) x1) = 0 then (fX11_includes 72 t_broken (t_told 2) x1 x2).bind (fun u5 => if u5 = 0 then gd x1 48 ((fX11_includes 72 t_away (t_told 3) (t_one x1.toNatClampNeg) x2).bind (fun u10 => if u10 = 0 then (fX11_includes 72 t_away (t_told 3) (t_other x1.toNatClampNeg) x2).bind (fun u14 => if u14 = 0 then some (1 : Int32) else some (0 : Int32)) else some (0 : Int32))) else some (0 : Int32)) else some (0 : Int32)
set_option maxRecDepth 100000 in
set_option maxHeartbeats 4000000 in
theorem kX11_canCall (l : Launch) (D : va_G) (cT : Nat → ClassId) (a_t : Nat) (a_t_now : Nat) (a_t_told : Nat) (a_t_one : Nat) (a_t_other : Nat) (a_t_forth : Nat) (a_t_cost : Nat) (a_t_broken : Nat) (a_t_away : Nat) (a_t_text : Nat) (a_t_worth : Nat) (a_t_choice : Nat) (a_t_thought : Nat) (a_t_before : Nat) (a_t_deep : Nat) (a_t_price : Nat) (a_t_undo : Nat) (a_t_slots : Nat) (a_t_isSaved : Nat) (t_thrown : Int32) (t_length : Int32) (t_textSize : Int32) (t_start : Int32) (t_next : Int32) (t_token : Int32) (t_value : Int32) (t_error : Int32) (t_errorAt : Int32) (t_number : Int32) (t_isFirst : Int32) (t_limitNow : Int32) (t_undos : Int32) (t_now : Nat → Int32) (t_told : Nat → Int32) (t_one : Nat → Int32) (t_other : Nat → Int32) (t_broken : Nat → Int32) (t_away : Nat → Int32) (x1 : Int32) (x2 : Int32) (r : Int32) (h : fX11_canCall t_now t_told t_one t_other t_broken t_away x1 x2 = some r) : sM l yX11_canCall cX11_canCall 3 (some .boolean) (zR 3) D cT [.ref a_t, .int x1, .int x2] [(a_t, .inr (11, [.int t_thrown, .ref a_t_now, .ref a_t_told, .ref a_t_one, .ref a_t_other, .ref a_t_forth, .ref a_t_cost, .ref a_t_broken, .ref a_t_away, .ref a_t_text, .int t_length, .int t_textSize, .int t_start, .int t_next, .int t_token, .int t_value, .int t_error, .int t_errorAt, .int t_number, .int t_isFirst, .ref a_t_worth, .ref a_t_choice, .ref a_t_thought, .ref a_t_before, .ref a_t_deep, .int t_limitNow, .ref a_t_price, .int t_undos, .ref a_t_undo, .ref a_t_slots, .ref a_t_isSaved])), (a_t_now, .inl (cT 0, 514, .inl t_now)), (a_t_told, .inl (cT 0, 8, .inl t_told)), (a_t_one, .inl (cT 0, 48, .inl t_one)), (a_t_other, .inl (cT 0, 48, .inl t_other)), (a_t_broken, .inl (cT 0, 72, .inl t_broken)), (a_t_away, .inl (cT 0, 72, .inl t_away))] (some (.int r)) [(a_t, .inr (11, [.int t_thrown, .ref a_t_now, .ref a_t_told, .ref a_t_one, .ref a_t_other, .ref a_t_forth, .ref a_t_cost, .ref a_t_broken, .ref a_t_away, .ref a_t_text, .int t_length, .int t_textSize, .int t_start, .int t_next, .int t_token, .int t_value, .int t_error, .int t_errorAt, .int t_number, .int t_isFirst, .ref a_t_worth, .ref a_t_choice, .ref a_t_thought, .ref a_t_before, .ref a_t_deep, .int t_limitNow, .ref a_t_price, .int t_undos, .ref a_t_undo, .ref a_t_slots, .ref a_t_isSaved])), (a_t_now, .inl (cT 0, 514, .inl t_now)), (a_t_told, .inl (cT 0, 8, .inl t_told)), (a_t_one, .inl (cT 0, 48, .inl t_one)), (a_t_other, .inl (cT 0, 48, .inl t_other)), (a_t_broken, .inl (cT 0, 72, .inl t_broken)), (a_t_away, .inl (cT 0, 72, .inl t_away))] := by
  refine sM_bool rfl (Nat.le_of_ble_eq_true rfl) ?_
  intro X C hE
  refine xi_drop (L2 := [(0, .ref a_t), (1, .int x1), (2, .int x2)]) [0, 1, 2] rfl ?_
  refine xi_aload_n C 0 dX11_canCall_0 rfl ?_
  refine xi_get C zkX11 1 0 zlX11_7 (by decide) rfl rfl dX11_canCall_1 ?_
  refine xi_iconst C (v := 3) dX11_canCall_4 rfl ?_
  refine xi_iald C 1 rfl (zv (by decide)) dX11_canCall_5 ?_
  refine xi_iload_n C 1 dX11_canCall_6 rfl ?_
  refine xi_callSr C (kX11_isIn l D cT (t_now 3) x1 (fX11_isIn (t_now 3) x1) rfl) zcX11_isIn zmX11_201 zsX11_isIn (zr rfl rfl) z00 rfl [] rfl rfl rfl (Nat.le_of_ble_eq_true rfl) dX11_canCall_7 (fun z3 => ?_)
  refine xi_if_ne C (tgt := 31) dX11_canCall_10 rfl (fun c4 => ?_) (fun c4 => ?_)
  · replace h := (if_neg c4).symm.trans h
    refine xi_iconst C (v := 0) dX11_canCall_31 rfl ?_
    obtain rfl := Option.some.inj h
    exact hE _ _ _ dX11_canCall_32 rfl rfl
  · replace h := (if_pos c4).symm.trans h
    refine xi_aload_n C 0 dX11_canCall_13 rfl ?_
    refine xi_get C zkX11 7 0 zlX11_28 (by decide) rfl rfl dX11_canCall_14 ?_
    refine xi_aload_n C 0 dX11_canCall_17 rfl ?_
    refine xi_get C zkX11 2 0 zlX11_13 (by decide) rfl rfl dX11_canCall_18 ?_
    refine xi_iconst C (v := 2) dX11_canCall_21 rfl ?_
    refine xi_iald C 2 rfl (zv (by decide)) dX11_canCall_22 ?_
    refine xi_iload_n C 1 dX11_canCall_23 rfl ?_
    refine xi_iload_n C 2 dX11_canCall_24 rfl ?_
    replace h := ob h
    obtain ⟨u5, hu6, h⟩ := h
    refine xi_callSr C (kX11_includes l D cT a_t_broken 72 t_broken (t_told 2) x1 x2 u5 hu6) zcX11_includes zmX11_204 zsX11_includes (zr rfl rfl) z00 rfl [5] rfl rfl rfl (Nat.le_of_ble_eq_true rfl) dX11_canCall_25 (fun z7 => ?_)
    refine xi_if_eq C (tgt := 33) dX11_canCall_28 rfl (fun c8 => ?_) (fun c8 => ?_)
    · replace h := (if_pos c8).symm.trans h
      refine xi_aload_n C 0 dX11_canCall_33 rfl ?_
      refine xi_get C zkX11 8 0 zlX11_31 (by decide) rfl rfl dX11_canCall_34 ?_
      refine xi_aload_n C 0 dX11_canCall_37 rfl ?_
      refine xi_get C zkX11 2 0 zlX11_13 (by decide) rfl rfl dX11_canCall_38 ?_
      refine xi_iconst C (v := 3) dX11_canCall_41 rfl ?_
      refine xi_iald C 2 rfl (zv (by decide)) dX11_canCall_42 ?_
      refine xi_aload_n C 0 dX11_canCall_43 rfl ?_
      refine xi_get C zkX11 3 0 zlX11_16 (by decide) rfl rfl dX11_canCall_44 ?_
      refine xi_iload_n C 1 dX11_canCall_47 rfl ?_
      replace h := ig h
      obtain ⟨c9, h⟩ := h
      refine xi_iald C 3 rfl c9 dX11_canCall_48 ?_
      refine xi_iload_n C 2 dX11_canCall_49 rfl ?_
      replace h := ob h
      obtain ⟨u10, hu11, h⟩ := h
      refine xi_callSr C (kX11_includes l D cT a_t_away 72 t_away (t_told 3) (t_one x1.toNatClampNeg) x2 u10 hu11) zcX11_includes zmX11_204 zsX11_includes (zr rfl rfl) z00 rfl [6] rfl rfl rfl (Nat.le_of_ble_eq_true rfl) dX11_canCall_50 (fun z12 => ?_)
      refine xi_if_ne C (tgt := 83) dX11_canCall_53 rfl (fun c13 => ?_) (fun c13 => ?_)
      · replace h := (if_neg c13).symm.trans h
        refine xi_iconst C (v := 0) dX11_canCall_83 rfl ?_
        obtain rfl := Option.some.inj h
        exact hE _ _ _ dX11_canCall_84 rfl rfl
      · replace h := (if_pos c13).symm.trans h
        refine xi_aload_n C 0 dX11_canCall_56 rfl ?_
        refine xi_get C zkX11 8 0 zlX11_31 (by decide) rfl rfl dX11_canCall_57 ?_
        refine xi_aload_n C 0 dX11_canCall_60 rfl ?_
        refine xi_get C zkX11 2 0 zlX11_13 (by decide) rfl rfl dX11_canCall_61 ?_
        refine xi_iconst C (v := 3) dX11_canCall_64 rfl ?_
        refine xi_iald C 2 rfl (zv (by decide)) dX11_canCall_65 ?_
        refine xi_aload_n C 0 dX11_canCall_66 rfl ?_
        refine xi_get C zkX11 4 0 zlX11_19 (by decide) rfl rfl dX11_canCall_67 ?_
        refine xi_iload_n C 1 dX11_canCall_70 rfl ?_
        refine xi_iald C 4 rfl c9 dX11_canCall_71 ?_
        refine xi_iload_n C 2 dX11_canCall_72 rfl ?_
        replace h := ob h
        obtain ⟨u14, hu15, h⟩ := h
        refine xi_callSr C (kX11_includes l D cT a_t_away 72 t_away (t_told 3) (t_other x1.toNatClampNeg) x2 u14 hu15) zcX11_includes zmX11_204 zsX11_includes (zr rfl rfl) z00 rfl [6] rfl rfl rfl (Nat.le_of_ble_eq_true rfl) dX11_canCall_73 (fun z16 => ?_)
        refine xi_if_ne C (tgt := 83) dX11_canCall_76 rfl (fun c17 => ?_) (fun c17 => ?_)
        · replace h := (if_neg c17).symm.trans h
          refine xi_iconst C (v := 0) dX11_canCall_83 rfl ?_
          obtain rfl := Option.some.inj h
          exact hE _ _ _ dX11_canCall_84 rfl rfl
        · replace h := (if_pos c17).symm.trans h
          refine xi_iconst C (v := 1) dX11_canCall_79 rfl ?_
          refine xi_goto C (tgt := 84) dX11_canCall_80 rfl ?_
          obtain rfl := Option.some.inj h
          exact hE _ _ _ dX11_canCall_84 rfl rfl
    · replace h := (if_neg c8).symm.trans h
      refine xi_iconst C (v := 0) dX11_canCall_31 rfl ?_
      obtain rfl := Option.some.inj h
      exact hE _ _ _ dX11_canCall_32 rfl rfl
def fX11_all (t_told : Nat → Int32) : Option Int32 := some ((1 <<< ((t_told 0) &&& 31)) - 1)
set_option maxRecDepth 100000 in
set_option maxHeartbeats 4000000 in
theorem kX11_all (l : Launch) (D : va_G) (cT : Nat → ClassId) (a_t : Nat) (a_t_now : Nat) (a_t_told : Nat) (a_t_one : Nat) (a_t_other : Nat) (a_t_forth : Nat) (a_t_cost : Nat) (a_t_broken : Nat) (a_t_away : Nat) (a_t_text : Nat) (a_t_worth : Nat) (a_t_choice : Nat) (a_t_thought : Nat) (a_t_before : Nat) (a_t_deep : Nat) (a_t_price : Nat) (a_t_undo : Nat) (a_t_slots : Nat) (a_t_isSaved : Nat) (t_thrown : Int32) (t_length : Int32) (t_textSize : Int32) (t_start : Int32) (t_next : Int32) (t_token : Int32) (t_value : Int32) (t_error : Int32) (t_errorAt : Int32) (t_number : Int32) (t_isFirst : Int32) (t_limitNow : Int32) (t_undos : Int32) (t_told : Nat → Int32) (r : Int32) (h : fX11_all t_told = some r) : sM l yX11_all cX11_all 1 (some .int) (zR 1) D cT [.ref a_t] [(a_t, .inr (11, [.int t_thrown, .ref a_t_now, .ref a_t_told, .ref a_t_one, .ref a_t_other, .ref a_t_forth, .ref a_t_cost, .ref a_t_broken, .ref a_t_away, .ref a_t_text, .int t_length, .int t_textSize, .int t_start, .int t_next, .int t_token, .int t_value, .int t_error, .int t_errorAt, .int t_number, .int t_isFirst, .ref a_t_worth, .ref a_t_choice, .ref a_t_thought, .ref a_t_before, .ref a_t_deep, .int t_limitNow, .ref a_t_price, .int t_undos, .ref a_t_undo, .ref a_t_slots, .ref a_t_isSaved])), (a_t_told, .inl (cT 0, 8, .inl t_told))] (some (.int r)) [(a_t, .inr (11, [.int t_thrown, .ref a_t_now, .ref a_t_told, .ref a_t_one, .ref a_t_other, .ref a_t_forth, .ref a_t_cost, .ref a_t_broken, .ref a_t_away, .ref a_t_text, .int t_length, .int t_textSize, .int t_start, .int t_next, .int t_token, .int t_value, .int t_error, .int t_errorAt, .int t_number, .int t_isFirst, .ref a_t_worth, .ref a_t_choice, .ref a_t_thought, .ref a_t_before, .ref a_t_deep, .int t_limitNow, .ref a_t_price, .int t_undos, .ref a_t_undo, .ref a_t_slots, .ref a_t_isSaved])), (a_t_told, .inl (cT 0, 8, .inl t_told))] := by
  refine sM_int rfl (Nat.le_of_ble_eq_true rfl) ?_
  intro X C hE
  refine xi_drop (L2 := [(0, .ref a_t)]) [0] rfl ?_
  refine xi_iconst C (v := 1) dX11_all_0 rfl ?_
  refine xi_aload_n C 0 dX11_all_1 rfl ?_
  refine xi_get C zkX11 2 0 zlX11_13 (by decide) rfl rfl dX11_all_2 ?_
  refine xi_iconst C (v := 0) dX11_all_5 rfl ?_
  refine xi_iald C 1 rfl (zv (by decide)) dX11_all_6 ?_
  refine xi_ishl C dX11_all_7 ?_
  refine xi_iconst C (v := 1) dX11_all_8 rfl ?_
  refine xi_isub C dX11_all_9 ?_
  obtain rfl := Option.some.inj h
  exact hE _ _ _ dX11_all_10 rfl
def fX11_knowersIn_b35 (K6 : Int32 → Int32 → Option Int32) (y5 : Int32) (s0 : Int32) (s1 : Int32) : Option Int32 := K6 (s1 ||| s0) (y5 + 1)
def fX11_knowersIn_b6 (N_p0 : Nat) (p0 : Nat → Int32) (x1 : Int32) (x2 : Int32) (x3 : Int32) : Nat → Int32 → Int32 → Option Int32
  | 0, _, _ => none
  | n + 1, y4, y5 => if x2 ≤ y5 then some y4 else gd (x1 + y5) N_p0 (if (fX11_isIn (p0 (x1 + y5).toNatClampNeg) x3) = 0 then fX11_knowersIn_b35 (fX11_knowersIn_b6 N_p0 p0 x1 x2 x3 n) y5 0 y4 else fX11_knowersIn_b35 (fX11_knowersIn_b6 N_p0 p0 x1 x2 x3 n) y5 (1 <<< (y5 &&& 31)) y4)
theorem fX11_knowersIn_b6_0 (N_p0 : Nat) (p0 : Nat → Int32) (x1 : Int32) (x2 : Int32) (x3 : Int32) (y4 : Int32) (y5 : Int32) : fX11_knowersIn_b6 N_p0 p0 x1 x2 x3 0 y4 y5 = none := rfl
theorem fX11_knowersIn_b6_s (N_p0 : Nat) (p0 : Nat → Int32) (x1 : Int32) (x2 : Int32) (x3 : Int32) (n : Nat) (y4 : Int32) (y5 : Int32) : fX11_knowersIn_b6 N_p0 p0 x1 x2 x3 (n + 1) y4 y5 = (if x2 ≤ y5 then some y4 else gd (x1 + y5) N_p0 (if (fX11_isIn (p0 (x1 + y5).toNatClampNeg) x3) = 0 then fX11_knowersIn_b35 (fX11_knowersIn_b6 N_p0 p0 x1 x2 x3 n) y5 0 y4 else fX11_knowersIn_b35 (fX11_knowersIn_b6 N_p0 p0 x1 x2 x3 n) y5 (1 <<< (y5 &&& 31)) y4)) := rfl
def fX11_knowersIn (N_p0 : Nat) (p0 : Nat → Int32) (x1 : Int32) (x2 : Int32) (x3 : Int32) : Option Int32 := fX11_knowersIn_b6 N_p0 p0 x1 x2 x3 FU 0 0
set_option maxRecDepth 100000 in
set_option maxHeartbeats 4000000 in
theorem kX11_knowersIn (l : Launch) (D : va_G) (cT : Nat → ClassId) (a_p0 : Nat) (N_p0 : Nat) (p0 : Nat → Int32) (x1 : Int32) (x2 : Int32) (x3 : Int32) (r : Int32) (h : fX11_knowersIn N_p0 p0 x1 x2 x3 = some r) : sM l yX11_knowersIn cX11_knowersIn 6 (some .int) (zR 2) D cT [.ref a_p0, .int x1, .int x2, .int x3] [(a_p0, .inl (cT 0, N_p0, .inl p0))] (some (.int r)) [(a_p0, .inl (cT 0, N_p0, .inl p0))] := by
  refine sM_int rfl (Nat.le_of_ble_eq_true rfl) ?_
  intro X C hE
  have B35 : ∀ (K6 : Int32 → Int32 → Option Int32) (hK6 : ∀ (y4 : Int32) (y5 : Int32), K6 y4 y5 = some r → sW X l (zR 2) D 6 0 0 6 [(0, .ref a_p0), (1, .int x1), (2, .int x2), (3, .int x3), (4, .int y4), (5, .int y5)] [] [(a_p0, .inl (cT 0, N_p0, .inl p0))]) (y5 : Int32) (s0 : Int32) (s1 : Int32), fX11_knowersIn_b35 K6 y5 s0 s1 = some r → sW X l (zR 2) D 6 0 0 35 [(0, .ref a_p0), (1, .int x1), (2, .int x2), (3, .int x3), (5, .int y5)] [.int s0, .int s1] [(a_p0, .inl (cT 0, N_p0, .inl p0))] := by
    intro K6 hK6 y5 s0 s1 h
    refine xi_ior C dX11_knowersIn_35 ?_
    refine xi_istore C [1, 2, 3, 4, 0, 5] (L2 := [(0, .ref a_p0), (1, .int x1), (2, .int x2), (3, .int x3), (4, .int (s1 ||| s0)), (5, .int y5)]) dX11_knowersIn_36 (Nat.le_of_ble_eq_true rfl) rfl ?_
    refine xi_iinc C (v := y5 + 1) 5 [1, 2, 3, 4, 5, 0] (L2 := [(0, .ref a_p0), (1, .int x1), (2, .int x2), (3, .int x3), (4, .int (s1 ||| s0)), (5, .int (y5 + 1))]) dX11_knowersIn_38 rfl rfl (Nat.le_of_ble_eq_true rfl) rfl ?_
    refine xi_goto C (tgt := 6) dX11_knowersIn_41 rfl ?_
    exact hK6 (s1 ||| s0) (y5 + 1) h
  have B6 : ∀ (n : Nat) (y4 : Int32) (y5 : Int32), fX11_knowersIn_b6 N_p0 p0 x1 x2 x3 n y4 y5 = some r → sW X l (zR 2) D 6 0 0 6 [(0, .ref a_p0), (1, .int x1), (2, .int x2), (3, .int x3), (4, .int y4), (5, .int y5)] [] [(a_p0, .inl (cT 0, N_p0, .inl p0))] := by
    intro n
    induction n with
    | zero =>
      intro y4 y5 h
      exact zno ((fX11_knowersIn_b6_0 _ _ _ _ _ _ _).symm.trans h)
    | succ n ih =>
      intro y4 y5 h
      replace h := (fX11_knowersIn_b6_s _ _ _ _ _ _ _ _).symm.trans h
      refine xi_iload C 5 dX11_knowersIn_6 rfl ?_
      refine xi_iload_n C 2 dX11_knowersIn_8 rfl ?_
      refine xi_icmp_ge C (tgt := 44) dX11_knowersIn_9 rfl (fun c1 => ?_) (fun c1 => ?_)
      · replace h := (if_pos c1).symm.trans h
        refine xi_iload C 4 dX11_knowersIn_44 rfl ?_
        obtain rfl := Option.some.inj h
        exact hE _ _ _ dX11_knowersIn_46 rfl
      · replace h := (if_neg c1).symm.trans h
        refine xi_iload C 4 dX11_knowersIn_12 rfl ?_
        refine xi_aload_n C 0 dX11_knowersIn_14 rfl ?_
        refine xi_iload_n C 1 dX11_knowersIn_15 rfl ?_
        refine xi_iload C 5 dX11_knowersIn_16 rfl ?_
        refine xi_iadd C dX11_knowersIn_18 ?_
        replace h := ig h
        obtain ⟨c2, h⟩ := h
        refine xi_iald C 0 rfl c2 dX11_knowersIn_19 ?_
        refine xi_iload_n C 3 dX11_knowersIn_20 rfl ?_
        refine xi_callSr C (kX11_isIn l D cT (p0 (x1 + y5).toNatClampNeg) x3 (fX11_isIn (p0 (x1 + y5).toNatClampNeg) x3) rfl) zcX11_isIn zmX11_201 zsX11_isIn (zr rfl rfl) z00 rfl [] rfl rfl rfl (Nat.le_of_ble_eq_true rfl) dX11_knowersIn_21 (fun z5 => ?_)
        refine xi_if_eq C (tgt := 34) dX11_knowersIn_24 rfl (fun c6 => ?_) (fun c6 => ?_)
        · replace h := (if_pos c6).symm.trans h
          refine xi_iconst C (v := 0) dX11_knowersIn_34 rfl ?_
          refine xi_drop (L2 := [(0, .ref a_p0), (1, .int x1), (2, .int x2), (3, .int x3), (5, .int y5)]) [0, 1, 2, 3, 5] rfl ?_
          exact B35 (fX11_knowersIn_b6 N_p0 p0 x1 x2 x3 n) ih y5 0 y4 h
        · replace h := (if_neg c6).symm.trans h
          refine xi_iconst C (v := 1) dX11_knowersIn_27 rfl ?_
          refine xi_iload C 5 dX11_knowersIn_28 rfl ?_
          refine xi_ishl C dX11_knowersIn_30 ?_
          refine xi_goto C (tgt := 35) dX11_knowersIn_31 rfl ?_
          refine xi_drop (L2 := [(0, .ref a_p0), (1, .int x1), (2, .int x2), (3, .int x3), (5, .int y5)]) [0, 1, 2, 3, 5] rfl ?_
          exact B35 (fX11_knowersIn_b6 N_p0 p0 x1 x2 x3 n) ih y5 (1 <<< (y5 &&& 31)) y4 h
  refine xi_drop (L2 := [(0, .ref a_p0), (1, .int x1), (2, .int x2), (3, .int x3)]) [0, 1, 2, 3] rfl ?_
  refine xi_iconst C (v := 0) dX11_knowersIn_0 rfl ?_
  refine xi_istore C [1, 2, 3, 4, 0] (L2 := [(0, .ref a_p0), (1, .int x1), (2, .int x2), (3, .int x3), (4, .int 0)]) dX11_knowersIn_1 (Nat.le_of_ble_eq_true rfl) rfl ?_
  refine xi_iconst C (v := 0) dX11_knowersIn_3 rfl ?_
  refine xi_istore C [1, 2, 3, 4, 5, 0] (L2 := [(0, .ref a_p0), (1, .int x1), (2, .int x2), (3, .int x3), (4, .int 0), (5, .int 0)]) dX11_knowersIn_4 (Nat.le_of_ble_eq_true rfl) rfl ?_
  exact B6 FU 0 0 h
def fX11_many_b4 : Nat → Int32 → Int32 → Option Int32
  | 0, _, _ => none
  | n + 1, y1, y2 => if y2 = 0 then some y1 else (fX11_many_b4 n) (y1 + 1) (y2 &&& (y2 - 1))
theorem fX11_many_b4_0 (y1 : Int32) (y2 : Int32) : fX11_many_b4 0 y1 y2 = none := rfl
theorem fX11_many_b4_s (n : Nat) (y1 : Int32) (y2 : Int32) : fX11_many_b4 (n + 1) y1 y2 = (if y2 = 0 then some y1 else (fX11_many_b4 n) (y1 + 1) (y2 &&& (y2 - 1))) := rfl
def fX11_many (x0 : Int32) : Option Int32 := fX11_many_b4 FU 0 x0
set_option maxRecDepth 100000 in
set_option maxHeartbeats 4000000 in
theorem kX11_many (l : Launch) (D : va_G) (cT : Nat → ClassId) (x0 : Int32) (r : Int32) (h : fX11_many x0 = some r) : sM l yX11_many cX11_many 3 (some .int) (zR 1) D cT [.int x0] [] (some (.int r)) [] := by
  refine sM_int rfl (Nat.le_of_ble_eq_true rfl) ?_
  intro X C hE
  have B4 : ∀ (n : Nat) (y1 : Int32) (y2 : Int32), fX11_many_b4 n y1 y2 = some r → sW X l (zR 1) D 3 0 0 4 [(1, .int y1), (2, .int y2)] [] [] := by
    intro n
    induction n with
    | zero =>
      intro y1 y2 h
      exact zno ((fX11_many_b4_0 _ _).symm.trans h)
    | succ n ih =>
      intro y1 y2 h
      replace h := (fX11_many_b4_s _ _ _).symm.trans h
      refine xi_iload_n C 1 dX11_many_4 rfl ?_
      refine xi_if_eq C (tgt := 20) dX11_many_5 rfl (fun c1 => ?_) (fun c1 => ?_)
      · replace h := (if_pos c1).symm.trans h
        refine xi_iload_n C 0 dX11_many_20 rfl ?_
        obtain rfl := Option.some.inj h
        exact hE _ _ _ dX11_many_21 rfl
      · replace h := (if_neg c1).symm.trans h
        refine xi_iinc C (v := y1 + 1) 0 [0, 1] (L2 := [(1, .int (y1 + 1)), (2, .int y2)]) dX11_many_8 rfl rfl (Nat.le_of_ble_eq_true rfl) rfl ?_
        refine xi_iload_n C 1 dX11_many_11 rfl ?_
        refine xi_iload_n C 1 dX11_many_12 rfl ?_
        refine xi_iconst C (v := 1) dX11_many_13 rfl ?_
        refine xi_isub C dX11_many_14 ?_
        refine xi_iand C dX11_many_15 ?_
        refine xi_istore_n C [1, 0] (L2 := [(1, .int (y1 + 1)), (2, .int (y2 &&& (y2 - 1)))]) dX11_many_16 (Nat.le_of_ble_eq_true rfl) rfl ?_
        refine xi_goto C (tgt := 4) dX11_many_17 rfl ?_
        exact ih (y1 + 1) (y2 &&& (y2 - 1)) h
  refine xi_drop (L2 := [(0, .int x0)]) [0] rfl ?_
  refine xi_iconst C (v := 0) dX11_many_0 rfl ?_
  refine xi_istore_n C [1, 0] (L2 := [(0, .int x0), (1, .int 0)]) dX11_many_1 (Nat.le_of_ble_eq_true rfl) rfl ?_
  refine xi_iload_n C 0 dX11_many_2 rfl ?_
  refine xi_istore_n C [1, 2, 0] (L2 := [(0, .int x0), (1, .int 0), (2, .int x0)]) dX11_many_3 (Nat.le_of_ble_eq_true rfl) rfl ?_
  refine xi_drop (L2 := [(1, .int 0), (2, .int x0)]) [1, 2] rfl ?_
  exact B4 FU 0 x0 h
def fX11_lowest_b2 (x0 : Int32) : Nat → Int32 → Option Int32
  | 0, _ => none
  | n + 1, y1 => if (fX11_isIn x0 y1) = 0 then (fX11_lowest_b2 x0 n) (y1 + 1) else some y1
theorem fX11_lowest_b2_0 (x0 : Int32) (y1 : Int32) : fX11_lowest_b2 x0 0 y1 = none := rfl
theorem fX11_lowest_b2_s (x0 : Int32) (n : Nat) (y1 : Int32) : fX11_lowest_b2 x0 (n + 1) y1 = (if (fX11_isIn x0 y1) = 0 then (fX11_lowest_b2 x0 n) (y1 + 1) else some y1) := rfl
def fX11_lowest (x0 : Int32) : Option Int32 := fX11_lowest_b2 x0 FU 0
set_option maxRecDepth 100000 in
set_option maxHeartbeats 4000000 in
theorem kX11_lowest (l : Launch) (D : va_G) (cT : Nat → ClassId) (x0 : Int32) (r : Int32) (h : fX11_lowest x0 = some r) : sM l yX11_lowest cX11_lowest 2 (some .int) (zR 2) D cT [.int x0] [] (some (.int r)) [] := by
  refine sM_int rfl (Nat.le_of_ble_eq_true rfl) ?_
  intro X C hE
  have B2 : ∀ (n : Nat) (y1 : Int32), fX11_lowest_b2 x0 n y1 = some r → sW X l (zR 2) D 2 0 0 2 [(0, .int x0), (1, .int y1)] [] [] := by
    intro n
    induction n with
    | zero =>
      intro y1 h
      exact zno ((fX11_lowest_b2_0 _ _).symm.trans h)
    | succ n ih =>
      intro y1 h
      replace h := (fX11_lowest_b2_s _ _ _).symm.trans h
      refine xi_iload_n C 0 dX11_lowest_2 rfl ?_
      refine xi_iload_n C 1 dX11_lowest_3 rfl ?_
      refine xi_callSr C (kX11_isIn l D cT x0 y1 (fX11_isIn x0 y1) rfl) zcX11_isIn zmX11_201 zsX11_isIn (zr rfl rfl) z00 rfl [] rfl rfl rfl (Nat.le_of_ble_eq_true rfl) dX11_lowest_4 (fun z3 => ?_)
      refine xi_if_ne C (tgt := 16) dX11_lowest_7 rfl (fun c4 => ?_) (fun c4 => ?_)
      · replace h := (if_neg c4).symm.trans h
        refine xi_iload_n C 1 dX11_lowest_16 rfl ?_
        obtain rfl := Option.some.inj h
        exact hE _ _ _ dX11_lowest_17 rfl
      · replace h := (if_pos c4).symm.trans h
        refine xi_iinc C (v := y1 + 1) 1 [1, 0] (L2 := [(0, .int x0), (1, .int (y1 + 1))]) dX11_lowest_10 rfl rfl (Nat.le_of_ble_eq_true rfl) rfl ?_
        refine xi_goto C (tgt := 2) dX11_lowest_13 rfl ?_
        exact ih (y1 + 1) h
  refine xi_drop (L2 := [(0, .int x0)]) [0] rfl ?_
  refine xi_iconst C (v := 0) dX11_lowest_0 rfl ?_
  refine xi_istore_n C [1, 0] (L2 := [(0, .int x0), (1, .int 0)]) dX11_lowest_1 (Nat.le_of_ble_eq_true rfl) rfl ?_
  exact B2 FU 0 h
def fX11_throwsIf_b16 (t_thrown : Int32) : Int32 × Int32 := if t_thrown ≤ 0 then (0, t_thrown) else (1, t_thrown)
def fX11_throwsIf (t_thrown : Int32) (x1 : Int32) (x2 : Int32) : Int32 × Int32 := if t_thrown = 0 then if x1 = 0 then fX11_throwsIf_b16 t_thrown else fX11_throwsIf_b16 x2 else fX11_throwsIf_b16 t_thrown
set_option maxRecDepth 100000 in
set_option maxHeartbeats 4000000 in
theorem kX11_throwsIf (l : Launch) (D : va_G) (cT : Nat → ClassId) (a_t : Nat) (a_t_now : Nat) (a_t_told : Nat) (a_t_one : Nat) (a_t_other : Nat) (a_t_forth : Nat) (a_t_cost : Nat) (a_t_broken : Nat) (a_t_away : Nat) (a_t_text : Nat) (a_t_worth : Nat) (a_t_choice : Nat) (a_t_thought : Nat) (a_t_before : Nat) (a_t_deep : Nat) (a_t_price : Nat) (a_t_undo : Nat) (a_t_slots : Nat) (a_t_isSaved : Nat) (t_thrown : Int32) (t_length : Int32) (t_textSize : Int32) (t_start : Int32) (t_next : Int32) (t_token : Int32) (t_value : Int32) (t_error : Int32) (t_errorAt : Int32) (t_number : Int32) (t_isFirst : Int32) (t_limitNow : Int32) (t_undos : Int32) (x1 : Int32) (x2 : Int32) (r : Int32 × Int32) (h : fX11_throwsIf t_thrown x1 x2 = r) : sM l yX11_throwsIf cX11_throwsIf 3 (some .boolean) (zR 1) D cT [.ref a_t, .int x1, .int x2] [(a_t, .inr (11, [.int t_thrown, .ref a_t_now, .ref a_t_told, .ref a_t_one, .ref a_t_other, .ref a_t_forth, .ref a_t_cost, .ref a_t_broken, .ref a_t_away, .ref a_t_text, .int t_length, .int t_textSize, .int t_start, .int t_next, .int t_token, .int t_value, .int t_error, .int t_errorAt, .int t_number, .int t_isFirst, .ref a_t_worth, .ref a_t_choice, .ref a_t_thought, .ref a_t_before, .ref a_t_deep, .int t_limitNow, .ref a_t_price, .int t_undos, .ref a_t_undo, .ref a_t_slots, .ref a_t_isSaved]))] (some (.int r.1)) [(a_t, .inr (11, [.int r.2, .ref a_t_now, .ref a_t_told, .ref a_t_one, .ref a_t_other, .ref a_t_forth, .ref a_t_cost, .ref a_t_broken, .ref a_t_away, .ref a_t_text, .int t_length, .int t_textSize, .int t_start, .int t_next, .int t_token, .int t_value, .int t_error, .int t_errorAt, .int t_number, .int t_isFirst, .ref a_t_worth, .ref a_t_choice, .ref a_t_thought, .ref a_t_before, .ref a_t_deep, .int t_limitNow, .ref a_t_price, .int t_undos, .ref a_t_undo, .ref a_t_slots, .ref a_t_isSaved]))] := by
  refine sM_bool rfl (Nat.le_of_ble_eq_true rfl) ?_
  intro X C hE
  have B16 : ∀ (t_thrown : Int32), fX11_throwsIf_b16 t_thrown = r → sW X l (zR 1) D 3 0 0 16 [(0, .ref a_t)] [] [(a_t, .inr (11, [.int t_thrown, .ref a_t_now, .ref a_t_told, .ref a_t_one, .ref a_t_other, .ref a_t_forth, .ref a_t_cost, .ref a_t_broken, .ref a_t_away, .ref a_t_text, .int t_length, .int t_textSize, .int t_start, .int t_next, .int t_token, .int t_value, .int t_error, .int t_errorAt, .int t_number, .int t_isFirst, .ref a_t_worth, .ref a_t_choice, .ref a_t_thought, .ref a_t_before, .ref a_t_deep, .int t_limitNow, .ref a_t_price, .int t_undos, .ref a_t_undo, .ref a_t_slots, .ref a_t_isSaved]))] := by
    intro t_thrown h
    refine xi_aload_n C 0 dX11_throwsIf_16 rfl ?_
    refine xi_get C zkX11 0 0 zlX11_80 (by decide) rfl rfl dX11_throwsIf_17 ?_
    refine xi_if_le C (tgt := 27) dX11_throwsIf_20 rfl (fun c2 => ?_) (fun c2 => ?_)
    · replace h := (if_pos c2).symm.trans h
      refine xi_iconst C (v := 0) dX11_throwsIf_27 rfl ?_
      subst h
      exact hE _ _ _ dX11_throwsIf_28 rfl rfl
    · replace h := (if_neg c2).symm.trans h
      refine xi_iconst C (v := 1) dX11_throwsIf_23 rfl ?_
      refine xi_goto C (tgt := 28) dX11_throwsIf_24 rfl ?_
      subst h
      exact hE _ _ _ dX11_throwsIf_28 rfl rfl
  refine xi_drop (L2 := [(0, .ref a_t), (1, .int x1), (2, .int x2)]) [0, 1, 2] rfl ?_
  refine xi_aload_n C 0 dX11_throwsIf_0 rfl ?_
  refine xi_get C zkX11 0 0 zlX11_80 (by decide) rfl rfl dX11_throwsIf_1 ?_
  refine xi_if_ne C (tgt := 16) dX11_throwsIf_4 rfl (fun c1 => ?_) (fun c1 => ?_)
  · replace h := (if_neg c1).symm.trans h
    refine xi_drop (L2 := [(0, .ref a_t)]) [0] rfl ?_
    exact B16 t_thrown h
  · replace h := (if_pos c1).symm.trans h
    refine xi_iload_n C 1 dX11_throwsIf_7 rfl ?_
    refine xi_if_eq C (tgt := 16) dX11_throwsIf_8 rfl (fun c3 => ?_) (fun c3 => ?_)
    · replace h := (if_pos c3).symm.trans h
      refine xi_drop (L2 := [(0, .ref a_t)]) [0] rfl ?_
      exact B16 t_thrown h
    · replace h := (if_neg c3).symm.trans h
      refine xi_aload_n C 0 dX11_throwsIf_11 rfl ?_
      refine xi_iload_n C 2 dX11_throwsIf_12 rfl ?_
      refine xi_put C zkX11 0 0 zlX11_80 (by decide) rfl rfl rfl rfl (Nat.le_of_ble_eq_true rfl) dX11_throwsIf_13 (ws2 := [(a_t, .inr (11, [.int x2, .ref a_t_now, .ref a_t_told, .ref a_t_one, .ref a_t_other, .ref a_t_forth, .ref a_t_cost, .ref a_t_broken, .ref a_t_away, .ref a_t_text, .int t_length, .int t_textSize, .int t_start, .int t_next, .int t_token, .int t_value, .int t_error, .int t_errorAt, .int t_number, .int t_isFirst, .ref a_t_worth, .ref a_t_choice, .ref a_t_thought, .ref a_t_before, .ref a_t_deep, .int t_limitNow, .ref a_t_price, .int t_undos, .ref a_t_undo, .ref a_t_slots, .ref a_t_isSaved]))]) rfl ?_
      refine xi_drop (L2 := [(0, .ref a_t)]) [0] rfl ?_
      exact B16 x2 h
def fX11_lifts_b2 (N_p0 : Nat) : Nat → Int32 → (Nat → Int32) → Option ((Nat → Int32))
  | 0, _, _ => none
  | n + 1, y1, p0 => if ((nI N_p0) / 2) ≤ y1 then some p0 else gd (((nI N_p0) / 2) + y1) N_p0 (gd y1 N_p0 ((fX11_lifts_b2 N_p0 n) (y1 + 1) (upd p0 y1.toNatClampNeg (p0 (((nI N_p0) / 2) + y1).toNatClampNeg))))
theorem fX11_lifts_b2_0 (N_p0 : Nat) (y1 : Int32) (p0 : Nat → Int32) : fX11_lifts_b2 N_p0 0 y1 p0 = none := rfl
theorem fX11_lifts_b2_s (N_p0 : Nat) (n : Nat) (y1 : Int32) (p0 : Nat → Int32) : fX11_lifts_b2 N_p0 (n + 1) y1 p0 = (if ((nI N_p0) / 2) ≤ y1 then some p0 else gd (((nI N_p0) / 2) + y1) N_p0 (gd y1 N_p0 ((fX11_lifts_b2 N_p0 n) (y1 + 1) (upd p0 y1.toNatClampNeg (p0 (((nI N_p0) / 2) + y1).toNatClampNeg))))) := rfl
def fX11_lifts (N_p0 : Nat) (p0 : Nat → Int32) : Option ((Nat → Int32)) := fX11_lifts_b2 N_p0 FU 0 p0
set_option maxRecDepth 100000 in
set_option maxHeartbeats 4000000 in
theorem kX11_lifts (l : Launch) (D : va_G) (cT : Nat → ClassId) (a_p0 : Nat) (N_p0 : Nat) (p0 : Nat → Int32) (r : (Nat → Int32)) (h : fX11_lifts N_p0 p0 = some r) : sM l yX11_lifts cX11_lifts 2 none (zR 1) D cT [.ref a_p0] [(a_p0, .inl (cT 0, N_p0, .inl p0))] none [(a_p0, .inl (cT 0, N_p0, .inl r))] := by
  refine sM_void rfl (Nat.le_of_ble_eq_true rfl) ?_
  intro X C hE
  have B2 : ∀ (n : Nat) (y1 : Int32) (p0 : Nat → Int32), fX11_lifts_b2 N_p0 n y1 p0 = some r → sW X l (zR 1) D 2 0 0 2 [(0, .ref a_p0), (1, .int y1)] [] [(a_p0, .inl (cT 0, N_p0, .inl p0))] := by
    intro n
    induction n with
    | zero =>
      intro y1 p0 h
      exact zno ((fX11_lifts_b2_0 _ _ _).symm.trans h)
    | succ n ih =>
      intro y1 p0 h
      replace h := (fX11_lifts_b2_s _ _ _ _).symm.trans h
      refine xi_iload_n C 1 dX11_lifts_2 rfl ?_
      refine xi_aload_n C 0 dX11_lifts_3 rfl ?_
      refine xi_alen C (v := nI N_p0) 0 0 rfl rfl rfl dX11_lifts_4 ?_
      refine xi_iconst C (v := 2) dX11_lifts_5 rfl ?_
      refine xi_idiv C dX11_lifts_6 (by decide) ?_
      refine xi_icmp_ge C (tgt := 27) dX11_lifts_7 rfl (fun c1 => ?_) (fun c1 => ?_)
      · replace h := (if_pos c1).symm.trans h
        obtain rfl := Option.some.inj h
        exact hE _ _ dX11_lifts_27 rfl
      · replace h := (if_neg c1).symm.trans h
        refine xi_aload_n C 0 dX11_lifts_10 rfl ?_
        refine xi_iload_n C 1 dX11_lifts_11 rfl ?_
        refine xi_aload_n C 0 dX11_lifts_12 rfl ?_
        refine xi_aload_n C 0 dX11_lifts_13 rfl ?_
        refine xi_alen C (v := nI N_p0) 0 0 rfl rfl rfl dX11_lifts_14 ?_
        refine xi_iconst C (v := 2) dX11_lifts_15 rfl ?_
        refine xi_idiv C dX11_lifts_16 (by decide) ?_
        refine xi_iload_n C 1 dX11_lifts_17 rfl ?_
        refine xi_iadd C dX11_lifts_18 ?_
        replace h := ig h
        obtain ⟨c2, h⟩ := h
        refine xi_iald C 0 rfl c2 dX11_lifts_19 ?_
        replace h := ig h
        obtain ⟨c3, h⟩ := h
        refine xi_iast C 0 rfl c3 dX11_lifts_20 (ws2 := [(a_p0, .inl (cT 0, N_p0, .inl (upd p0 y1.toNatClampNeg (p0 (((nI N_p0) / 2) + y1).toNatClampNeg))))]) rfl ?_
        refine xi_iinc C (v := y1 + 1) 1 [1, 0] (L2 := [(0, .ref a_p0), (1, .int (y1 + 1))]) dX11_lifts_21 rfl rfl (Nat.le_of_ble_eq_true rfl) rfl ?_
        refine xi_goto C (tgt := 2) dX11_lifts_24 rfl ?_
        exact ih (y1 + 1) (upd p0 y1.toNatClampNeg (p0 (((nI N_p0) / 2) + y1).toNatClampNeg)) h
  refine xi_drop (L2 := [(0, .ref a_p0)]) [0] rfl ?_
  refine xi_iconst C (v := 0) dX11_lifts_0 rfl ?_
  refine xi_istore_n C [1, 0] (L2 := [(0, .ref a_p0), (1, .int 0)]) dX11_lifts_1 (Nat.le_of_ble_eq_true rfl) rfl ?_
  exact B2 FU 0 p0 h
def fX11_liftsAll (t_told : Nat → Int32) (t_one : Nat → Int32) (t_other : Nat → Int32) (t_forth : Nat → Int32) (t_cost : Nat → Int32) (t_broken : Nat → Int32) (t_away : Nat → Int32) : Option ((Nat → Int32) × (Nat → Int32) × (Nat → Int32) × (Nat → Int32) × (Nat → Int32) × (Nat → Int32) × (Nat → Int32)) := (fX11_lifts 8 t_told).bind (fun u1 => (fX11_lifts 48 t_one).bind (fun u4 => (fX11_lifts 48 t_other).bind (fun u7 => (fX11_lifts 48 t_forth).bind (fun u10 => (fX11_lifts 48 t_cost).bind (fun u13 => (fX11_lifts 72 t_broken).bind (fun u16 => (fX11_lifts 72 t_away).bind (fun u19 => some (u1, u4, u7, u10, u13, u16, u19))))))))
set_option maxRecDepth 100000 in
set_option maxHeartbeats 4000000 in
theorem kX11_liftsAll (l : Launch) (D : va_G) (cT : Nat → ClassId) (a_t : Nat) (a_t_now : Nat) (a_t_told : Nat) (a_t_one : Nat) (a_t_other : Nat) (a_t_forth : Nat) (a_t_cost : Nat) (a_t_broken : Nat) (a_t_away : Nat) (a_t_text : Nat) (a_t_worth : Nat) (a_t_choice : Nat) (a_t_thought : Nat) (a_t_before : Nat) (a_t_deep : Nat) (a_t_price : Nat) (a_t_undo : Nat) (a_t_slots : Nat) (a_t_isSaved : Nat) (t_thrown : Int32) (t_length : Int32) (t_textSize : Int32) (t_start : Int32) (t_next : Int32) (t_token : Int32) (t_value : Int32) (t_error : Int32) (t_errorAt : Int32) (t_number : Int32) (t_isFirst : Int32) (t_limitNow : Int32) (t_undos : Int32) (t_told : Nat → Int32) (t_one : Nat → Int32) (t_other : Nat → Int32) (t_forth : Nat → Int32) (t_cost : Nat → Int32) (t_broken : Nat → Int32) (t_away : Nat → Int32) (r : (Nat → Int32) × (Nat → Int32) × (Nat → Int32) × (Nat → Int32) × (Nat → Int32) × (Nat → Int32) × (Nat → Int32)) (h : fX11_liftsAll t_told t_one t_other t_forth t_cost t_broken t_away = some r) : sM l yX11_liftsAll cX11_liftsAll 1 none (zR 2) D cT [.ref a_t] [(a_t, .inr (11, [.int t_thrown, .ref a_t_now, .ref a_t_told, .ref a_t_one, .ref a_t_other, .ref a_t_forth, .ref a_t_cost, .ref a_t_broken, .ref a_t_away, .ref a_t_text, .int t_length, .int t_textSize, .int t_start, .int t_next, .int t_token, .int t_value, .int t_error, .int t_errorAt, .int t_number, .int t_isFirst, .ref a_t_worth, .ref a_t_choice, .ref a_t_thought, .ref a_t_before, .ref a_t_deep, .int t_limitNow, .ref a_t_price, .int t_undos, .ref a_t_undo, .ref a_t_slots, .ref a_t_isSaved])), (a_t_told, .inl (cT 0, 8, .inl t_told)), (a_t_one, .inl (cT 0, 48, .inl t_one)), (a_t_other, .inl (cT 0, 48, .inl t_other)), (a_t_forth, .inl (cT 0, 48, .inl t_forth)), (a_t_cost, .inl (cT 0, 48, .inl t_cost)), (a_t_broken, .inl (cT 0, 72, .inl t_broken)), (a_t_away, .inl (cT 0, 72, .inl t_away))] none [(a_t, .inr (11, [.int t_thrown, .ref a_t_now, .ref a_t_told, .ref a_t_one, .ref a_t_other, .ref a_t_forth, .ref a_t_cost, .ref a_t_broken, .ref a_t_away, .ref a_t_text, .int t_length, .int t_textSize, .int t_start, .int t_next, .int t_token, .int t_value, .int t_error, .int t_errorAt, .int t_number, .int t_isFirst, .ref a_t_worth, .ref a_t_choice, .ref a_t_thought, .ref a_t_before, .ref a_t_deep, .int t_limitNow, .ref a_t_price, .int t_undos, .ref a_t_undo, .ref a_t_slots, .ref a_t_isSaved])), (a_t_told, .inl (cT 0, 8, .inl r.1)), (a_t_one, .inl (cT 0, 48, .inl r.2.1)), (a_t_other, .inl (cT 0, 48, .inl r.2.2.1)), (a_t_forth, .inl (cT 0, 48, .inl r.2.2.2.1)), (a_t_cost, .inl (cT 0, 48, .inl r.2.2.2.2.1)), (a_t_broken, .inl (cT 0, 72, .inl r.2.2.2.2.2.1)), (a_t_away, .inl (cT 0, 72, .inl r.2.2.2.2.2.2))] := by
  refine sM_void rfl (Nat.le_of_ble_eq_true rfl) ?_
  intro X C hE
  refine xi_drop (L2 := [(0, .ref a_t)]) [0] rfl ?_
  refine xi_aload_n C 0 dX11_liftsAll_0 rfl ?_
  refine xi_get C zkX11 2 0 zlX11_13 (by decide) rfl rfl dX11_liftsAll_1 ?_
  replace h := ob h
  obtain ⟨u1, hu2, h⟩ := h
  refine xi_callS C (kX11_lifts l D cT a_t_told 8 t_told u1 hu2) zcX11_lifts zmX11_83 zsX11_lifts (zr rfl rfl) z00 rfl [1] rfl rfl rfl [none, some 0, none, none, none, none, none, none] (by decide +kernel) (ws2 := [(a_t, .inr (11, [.int t_thrown, .ref a_t_now, .ref a_t_told, .ref a_t_one, .ref a_t_other, .ref a_t_forth, .ref a_t_cost, .ref a_t_broken, .ref a_t_away, .ref a_t_text, .int t_length, .int t_textSize, .int t_start, .int t_next, .int t_token, .int t_value, .int t_error, .int t_errorAt, .int t_number, .int t_isFirst, .ref a_t_worth, .ref a_t_choice, .ref a_t_thought, .ref a_t_before, .ref a_t_deep, .int t_limitNow, .ref a_t_price, .int t_undos, .ref a_t_undo, .ref a_t_slots, .ref a_t_isSaved])), (a_t_told, .inl (cT 0, 8, .inl u1)), (a_t_one, .inl (cT 0, 48, .inl t_one)), (a_t_other, .inl (cT 0, 48, .inl t_other)), (a_t_forth, .inl (cT 0, 48, .inl t_forth)), (a_t_cost, .inl (cT 0, 48, .inl t_cost)), (a_t_broken, .inl (cT 0, 72, .inl t_broken)), (a_t_away, .inl (cT 0, 72, .inl t_away))]) rfl rfl (Nat.le_of_ble_eq_true rfl) dX11_liftsAll_4 (fun z3 => ?_)
  refine xi_aload_n C 0 dX11_liftsAll_7 rfl ?_
  refine xi_get C zkX11 3 0 zlX11_16 (by decide) rfl rfl dX11_liftsAll_8 ?_
  replace h := ob h
  obtain ⟨u4, hu5, h⟩ := h
  refine xi_callS C (kX11_lifts l D cT a_t_one 48 t_one u4 hu5) zcX11_lifts zmX11_83 zsX11_lifts (zr rfl rfl) z00 rfl [2] rfl rfl rfl [none, none, some 0, none, none, none, none, none] (by decide +kernel) (ws2 := [(a_t, .inr (11, [.int t_thrown, .ref a_t_now, .ref a_t_told, .ref a_t_one, .ref a_t_other, .ref a_t_forth, .ref a_t_cost, .ref a_t_broken, .ref a_t_away, .ref a_t_text, .int t_length, .int t_textSize, .int t_start, .int t_next, .int t_token, .int t_value, .int t_error, .int t_errorAt, .int t_number, .int t_isFirst, .ref a_t_worth, .ref a_t_choice, .ref a_t_thought, .ref a_t_before, .ref a_t_deep, .int t_limitNow, .ref a_t_price, .int t_undos, .ref a_t_undo, .ref a_t_slots, .ref a_t_isSaved])), (a_t_told, .inl (cT 0, 8, .inl u1)), (a_t_one, .inl (cT 0, 48, .inl u4)), (a_t_other, .inl (cT 0, 48, .inl t_other)), (a_t_forth, .inl (cT 0, 48, .inl t_forth)), (a_t_cost, .inl (cT 0, 48, .inl t_cost)), (a_t_broken, .inl (cT 0, 72, .inl t_broken)), (a_t_away, .inl (cT 0, 72, .inl t_away))]) rfl rfl (Nat.le_of_ble_eq_true rfl) dX11_liftsAll_11 (fun z6 => ?_)
  refine xi_aload_n C 0 dX11_liftsAll_14 rfl ?_
  refine xi_get C zkX11 4 0 zlX11_19 (by decide) rfl rfl dX11_liftsAll_15 ?_
  replace h := ob h
  obtain ⟨u7, hu8, h⟩ := h
  refine xi_callS C (kX11_lifts l D cT a_t_other 48 t_other u7 hu8) zcX11_lifts zmX11_83 zsX11_lifts (zr rfl rfl) z00 rfl [3] rfl rfl rfl [none, none, none, some 0, none, none, none, none] (by decide +kernel) (ws2 := [(a_t, .inr (11, [.int t_thrown, .ref a_t_now, .ref a_t_told, .ref a_t_one, .ref a_t_other, .ref a_t_forth, .ref a_t_cost, .ref a_t_broken, .ref a_t_away, .ref a_t_text, .int t_length, .int t_textSize, .int t_start, .int t_next, .int t_token, .int t_value, .int t_error, .int t_errorAt, .int t_number, .int t_isFirst, .ref a_t_worth, .ref a_t_choice, .ref a_t_thought, .ref a_t_before, .ref a_t_deep, .int t_limitNow, .ref a_t_price, .int t_undos, .ref a_t_undo, .ref a_t_slots, .ref a_t_isSaved])), (a_t_told, .inl (cT 0, 8, .inl u1)), (a_t_one, .inl (cT 0, 48, .inl u4)), (a_t_other, .inl (cT 0, 48, .inl u7)), (a_t_forth, .inl (cT 0, 48, .inl t_forth)), (a_t_cost, .inl (cT 0, 48, .inl t_cost)), (a_t_broken, .inl (cT 0, 72, .inl t_broken)), (a_t_away, .inl (cT 0, 72, .inl t_away))]) rfl rfl (Nat.le_of_ble_eq_true rfl) dX11_liftsAll_18 (fun z9 => ?_)
  refine xi_aload_n C 0 dX11_liftsAll_21 rfl ?_
  refine xi_get C zkX11 5 0 zlX11_22 (by decide) rfl rfl dX11_liftsAll_22 ?_
  replace h := ob h
  obtain ⟨u10, hu11, h⟩ := h
  refine xi_callS C (kX11_lifts l D cT a_t_forth 48 t_forth u10 hu11) zcX11_lifts zmX11_83 zsX11_lifts (zr rfl rfl) z00 rfl [4] rfl rfl rfl [none, none, none, none, some 0, none, none, none] (by decide +kernel) (ws2 := [(a_t, .inr (11, [.int t_thrown, .ref a_t_now, .ref a_t_told, .ref a_t_one, .ref a_t_other, .ref a_t_forth, .ref a_t_cost, .ref a_t_broken, .ref a_t_away, .ref a_t_text, .int t_length, .int t_textSize, .int t_start, .int t_next, .int t_token, .int t_value, .int t_error, .int t_errorAt, .int t_number, .int t_isFirst, .ref a_t_worth, .ref a_t_choice, .ref a_t_thought, .ref a_t_before, .ref a_t_deep, .int t_limitNow, .ref a_t_price, .int t_undos, .ref a_t_undo, .ref a_t_slots, .ref a_t_isSaved])), (a_t_told, .inl (cT 0, 8, .inl u1)), (a_t_one, .inl (cT 0, 48, .inl u4)), (a_t_other, .inl (cT 0, 48, .inl u7)), (a_t_forth, .inl (cT 0, 48, .inl u10)), (a_t_cost, .inl (cT 0, 48, .inl t_cost)), (a_t_broken, .inl (cT 0, 72, .inl t_broken)), (a_t_away, .inl (cT 0, 72, .inl t_away))]) rfl rfl (Nat.le_of_ble_eq_true rfl) dX11_liftsAll_25 (fun z12 => ?_)
  refine xi_aload_n C 0 dX11_liftsAll_28 rfl ?_
  refine xi_get C zkX11 6 0 zlX11_25 (by decide) rfl rfl dX11_liftsAll_29 ?_
  replace h := ob h
  obtain ⟨u13, hu14, h⟩ := h
  refine xi_callS C (kX11_lifts l D cT a_t_cost 48 t_cost u13 hu14) zcX11_lifts zmX11_83 zsX11_lifts (zr rfl rfl) z00 rfl [5] rfl rfl rfl [none, none, none, none, none, some 0, none, none] (by decide +kernel) (ws2 := [(a_t, .inr (11, [.int t_thrown, .ref a_t_now, .ref a_t_told, .ref a_t_one, .ref a_t_other, .ref a_t_forth, .ref a_t_cost, .ref a_t_broken, .ref a_t_away, .ref a_t_text, .int t_length, .int t_textSize, .int t_start, .int t_next, .int t_token, .int t_value, .int t_error, .int t_errorAt, .int t_number, .int t_isFirst, .ref a_t_worth, .ref a_t_choice, .ref a_t_thought, .ref a_t_before, .ref a_t_deep, .int t_limitNow, .ref a_t_price, .int t_undos, .ref a_t_undo, .ref a_t_slots, .ref a_t_isSaved])), (a_t_told, .inl (cT 0, 8, .inl u1)), (a_t_one, .inl (cT 0, 48, .inl u4)), (a_t_other, .inl (cT 0, 48, .inl u7)), (a_t_forth, .inl (cT 0, 48, .inl u10)), (a_t_cost, .inl (cT 0, 48, .inl u13)), (a_t_broken, .inl (cT 0, 72, .inl t_broken)), (a_t_away, .inl (cT 0, 72, .inl t_away))]) rfl rfl (Nat.le_of_ble_eq_true rfl) dX11_liftsAll_32 (fun z15 => ?_)
  refine xi_aload_n C 0 dX11_liftsAll_35 rfl ?_
  refine xi_get C zkX11 7 0 zlX11_28 (by decide) rfl rfl dX11_liftsAll_36 ?_
  replace h := ob h
  obtain ⟨u16, hu17, h⟩ := h
  refine xi_callS C (kX11_lifts l D cT a_t_broken 72 t_broken u16 hu17) zcX11_lifts zmX11_83 zsX11_lifts (zr rfl rfl) z00 rfl [6] rfl rfl rfl [none, none, none, none, none, none, some 0, none] (by decide +kernel) (ws2 := [(a_t, .inr (11, [.int t_thrown, .ref a_t_now, .ref a_t_told, .ref a_t_one, .ref a_t_other, .ref a_t_forth, .ref a_t_cost, .ref a_t_broken, .ref a_t_away, .ref a_t_text, .int t_length, .int t_textSize, .int t_start, .int t_next, .int t_token, .int t_value, .int t_error, .int t_errorAt, .int t_number, .int t_isFirst, .ref a_t_worth, .ref a_t_choice, .ref a_t_thought, .ref a_t_before, .ref a_t_deep, .int t_limitNow, .ref a_t_price, .int t_undos, .ref a_t_undo, .ref a_t_slots, .ref a_t_isSaved])), (a_t_told, .inl (cT 0, 8, .inl u1)), (a_t_one, .inl (cT 0, 48, .inl u4)), (a_t_other, .inl (cT 0, 48, .inl u7)), (a_t_forth, .inl (cT 0, 48, .inl u10)), (a_t_cost, .inl (cT 0, 48, .inl u13)), (a_t_broken, .inl (cT 0, 72, .inl u16)), (a_t_away, .inl (cT 0, 72, .inl t_away))]) rfl rfl (Nat.le_of_ble_eq_true rfl) dX11_liftsAll_39 (fun z18 => ?_)
  refine xi_aload_n C 0 dX11_liftsAll_42 rfl ?_
  refine xi_get C zkX11 8 0 zlX11_31 (by decide) rfl rfl dX11_liftsAll_43 ?_
  replace h := ob h
  obtain ⟨u19, hu20, h⟩ := h
  refine xi_callS C (kX11_lifts l D cT a_t_away 72 t_away u19 hu20) zcX11_lifts zmX11_83 zsX11_lifts (zr rfl rfl) z00 rfl [7] rfl rfl rfl [none, none, none, none, none, none, none, some 0] (by decide +kernel) (ws2 := [(a_t, .inr (11, [.int t_thrown, .ref a_t_now, .ref a_t_told, .ref a_t_one, .ref a_t_other, .ref a_t_forth, .ref a_t_cost, .ref a_t_broken, .ref a_t_away, .ref a_t_text, .int t_length, .int t_textSize, .int t_start, .int t_next, .int t_token, .int t_value, .int t_error, .int t_errorAt, .int t_number, .int t_isFirst, .ref a_t_worth, .ref a_t_choice, .ref a_t_thought, .ref a_t_before, .ref a_t_deep, .int t_limitNow, .ref a_t_price, .int t_undos, .ref a_t_undo, .ref a_t_slots, .ref a_t_isSaved])), (a_t_told, .inl (cT 0, 8, .inl u1)), (a_t_one, .inl (cT 0, 48, .inl u4)), (a_t_other, .inl (cT 0, 48, .inl u7)), (a_t_forth, .inl (cT 0, 48, .inl u10)), (a_t_cost, .inl (cT 0, 48, .inl u13)), (a_t_broken, .inl (cT 0, 72, .inl u16)), (a_t_away, .inl (cT 0, 72, .inl u19))]) rfl rfl (Nat.le_of_ble_eq_true rfl) dX11_liftsAll_46 (fun z21 => ?_)
  obtain rfl := Option.some.inj h
  exact hE _ _ dX11_liftsAll_49 rfl
def fX11_clearDraft (t_told : Nat → Int32) : Option ((Nat → Int32)) := some (upd (upd (upd (upd t_told 4 4) 5 0) 6 0) 7 0)
set_option maxRecDepth 100000 in
set_option maxHeartbeats 4000000 in
theorem kX11_clearDraft (l : Launch) (D : va_G) (cT : Nat → ClassId) (a_t : Nat) (a_t_now : Nat) (a_t_told : Nat) (a_t_one : Nat) (a_t_other : Nat) (a_t_forth : Nat) (a_t_cost : Nat) (a_t_broken : Nat) (a_t_away : Nat) (a_t_text : Nat) (a_t_worth : Nat) (a_t_choice : Nat) (a_t_thought : Nat) (a_t_before : Nat) (a_t_deep : Nat) (a_t_price : Nat) (a_t_undo : Nat) (a_t_slots : Nat) (a_t_isSaved : Nat) (t_thrown : Int32) (t_length : Int32) (t_textSize : Int32) (t_start : Int32) (t_next : Int32) (t_token : Int32) (t_value : Int32) (t_error : Int32) (t_errorAt : Int32) (t_number : Int32) (t_isFirst : Int32) (t_limitNow : Int32) (t_undos : Int32) (t_told : Nat → Int32) (r : (Nat → Int32)) (h : fX11_clearDraft t_told = some r) : sM l yX11_clearDraft cX11_clearDraft 1 none (zR 1) D cT [.ref a_t] [(a_t, .inr (11, [.int t_thrown, .ref a_t_now, .ref a_t_told, .ref a_t_one, .ref a_t_other, .ref a_t_forth, .ref a_t_cost, .ref a_t_broken, .ref a_t_away, .ref a_t_text, .int t_length, .int t_textSize, .int t_start, .int t_next, .int t_token, .int t_value, .int t_error, .int t_errorAt, .int t_number, .int t_isFirst, .ref a_t_worth, .ref a_t_choice, .ref a_t_thought, .ref a_t_before, .ref a_t_deep, .int t_limitNow, .ref a_t_price, .int t_undos, .ref a_t_undo, .ref a_t_slots, .ref a_t_isSaved])), (a_t_told, .inl (cT 0, 8, .inl t_told))] none [(a_t, .inr (11, [.int t_thrown, .ref a_t_now, .ref a_t_told, .ref a_t_one, .ref a_t_other, .ref a_t_forth, .ref a_t_cost, .ref a_t_broken, .ref a_t_away, .ref a_t_text, .int t_length, .int t_textSize, .int t_start, .int t_next, .int t_token, .int t_value, .int t_error, .int t_errorAt, .int t_number, .int t_isFirst, .ref a_t_worth, .ref a_t_choice, .ref a_t_thought, .ref a_t_before, .ref a_t_deep, .int t_limitNow, .ref a_t_price, .int t_undos, .ref a_t_undo, .ref a_t_slots, .ref a_t_isSaved])), (a_t_told, .inl (cT 0, 8, .inl r))] := by
  refine sM_void rfl (Nat.le_of_ble_eq_true rfl) ?_
  intro X C hE
  refine xi_drop (L2 := [(0, .ref a_t)]) [0] rfl ?_
  refine xi_aload_n C 0 dX11_clearDraft_0 rfl ?_
  refine xi_get C zkX11 2 0 zlX11_13 (by decide) rfl rfl dX11_clearDraft_1 ?_
  refine xi_iconst C (v := 4) dX11_clearDraft_4 rfl ?_
  refine xi_iconst C (v := 4) dX11_clearDraft_5 rfl ?_
  refine xi_iast C 1 rfl (zv (by decide)) dX11_clearDraft_6 (ws2 := [(a_t, .inr (11, [.int t_thrown, .ref a_t_now, .ref a_t_told, .ref a_t_one, .ref a_t_other, .ref a_t_forth, .ref a_t_cost, .ref a_t_broken, .ref a_t_away, .ref a_t_text, .int t_length, .int t_textSize, .int t_start, .int t_next, .int t_token, .int t_value, .int t_error, .int t_errorAt, .int t_number, .int t_isFirst, .ref a_t_worth, .ref a_t_choice, .ref a_t_thought, .ref a_t_before, .ref a_t_deep, .int t_limitNow, .ref a_t_price, .int t_undos, .ref a_t_undo, .ref a_t_slots, .ref a_t_isSaved])), (a_t_told, .inl (cT 0, 8, .inl (upd t_told 4 4)))]) rfl ?_
  refine xi_aload_n C 0 dX11_clearDraft_7 rfl ?_
  refine xi_get C zkX11 2 0 zlX11_13 (by decide) rfl rfl dX11_clearDraft_8 ?_
  refine xi_iconst C (v := 5) dX11_clearDraft_11 rfl ?_
  refine xi_iconst C (v := 0) dX11_clearDraft_12 rfl ?_
  refine xi_iast C 1 rfl (zv (by decide)) dX11_clearDraft_13 (ws2 := [(a_t, .inr (11, [.int t_thrown, .ref a_t_now, .ref a_t_told, .ref a_t_one, .ref a_t_other, .ref a_t_forth, .ref a_t_cost, .ref a_t_broken, .ref a_t_away, .ref a_t_text, .int t_length, .int t_textSize, .int t_start, .int t_next, .int t_token, .int t_value, .int t_error, .int t_errorAt, .int t_number, .int t_isFirst, .ref a_t_worth, .ref a_t_choice, .ref a_t_thought, .ref a_t_before, .ref a_t_deep, .int t_limitNow, .ref a_t_price, .int t_undos, .ref a_t_undo, .ref a_t_slots, .ref a_t_isSaved])), (a_t_told, .inl (cT 0, 8, .inl (upd (upd t_told 4 4) 5 0)))]) rfl ?_
  refine xi_aload_n C 0 dX11_clearDraft_14 rfl ?_
  refine xi_get C zkX11 2 0 zlX11_13 (by decide) rfl rfl dX11_clearDraft_15 ?_
  refine xi_bipush C (v := 6) dX11_clearDraft_18 rfl ?_
  refine xi_iconst C (v := 0) dX11_clearDraft_20 rfl ?_
  refine xi_iast C 1 rfl (zv (by decide)) dX11_clearDraft_21 (ws2 := [(a_t, .inr (11, [.int t_thrown, .ref a_t_now, .ref a_t_told, .ref a_t_one, .ref a_t_other, .ref a_t_forth, .ref a_t_cost, .ref a_t_broken, .ref a_t_away, .ref a_t_text, .int t_length, .int t_textSize, .int t_start, .int t_next, .int t_token, .int t_value, .int t_error, .int t_errorAt, .int t_number, .int t_isFirst, .ref a_t_worth, .ref a_t_choice, .ref a_t_thought, .ref a_t_before, .ref a_t_deep, .int t_limitNow, .ref a_t_price, .int t_undos, .ref a_t_undo, .ref a_t_slots, .ref a_t_isSaved])), (a_t_told, .inl (cT 0, 8, .inl (upd (upd (upd t_told 4 4) 5 0) 6 0)))]) rfl ?_
  refine xi_aload_n C 0 dX11_clearDraft_22 rfl ?_
  refine xi_get C zkX11 2 0 zlX11_13 (by decide) rfl rfl dX11_clearDraft_23 ?_
  refine xi_bipush C (v := 7) dX11_clearDraft_26 rfl ?_
  refine xi_iconst C (v := 0) dX11_clearDraft_28 rfl ?_
  refine xi_iast C 1 rfl (zv (by decide)) dX11_clearDraft_29 (ws2 := [(a_t, .inr (11, [.int t_thrown, .ref a_t_now, .ref a_t_told, .ref a_t_one, .ref a_t_other, .ref a_t_forth, .ref a_t_cost, .ref a_t_broken, .ref a_t_away, .ref a_t_text, .int t_length, .int t_textSize, .int t_start, .int t_next, .int t_token, .int t_value, .int t_error, .int t_errorAt, .int t_number, .int t_isFirst, .ref a_t_worth, .ref a_t_choice, .ref a_t_thought, .ref a_t_before, .ref a_t_deep, .int t_limitNow, .ref a_t_price, .int t_undos, .ref a_t_undo, .ref a_t_slots, .ref a_t_isSaved])), (a_t_told, .inl (cT 0, 8, .inl (upd (upd (upd (upd t_told 4 4) 5 0) 6 0) 7 0)))]) rfl ?_
  obtain rfl := Option.some.inj h
  exact hE _ _ dX11_clearDraft_30 rfl
def fX11_bytesOf_b3 (x1 : Int32) : Nat → Int32 → Int32 → (Nat → Int32) → Option (Int32 × (Nat → Int32))
  | 0, _, _, _ => none
  | n + 1, y2, t_length, t_text => if y2 < 0 then some (t_length, t_text) else gd t_length 500 ((fX11_bytesOf_b3 x1 n) (y2 + (-8)) (t_length + 1) (upd t_text t_length.toNatClampNeg (vp_nar .byte ((x1 >>> (y2 &&& 31)).toInt8.toInt32))))
theorem fX11_bytesOf_b3_0 (x1 : Int32) (y2 : Int32) (t_length : Int32) (t_text : Nat → Int32) : fX11_bytesOf_b3 x1 0 y2 t_length t_text = none := rfl
theorem fX11_bytesOf_b3_s (x1 : Int32) (n : Nat) (y2 : Int32) (t_length : Int32) (t_text : Nat → Int32) : fX11_bytesOf_b3 x1 (n + 1) y2 t_length t_text = (if y2 < 0 then some (t_length, t_text) else gd t_length 500 ((fX11_bytesOf_b3 x1 n) (y2 + (-8)) (t_length + 1) (upd t_text t_length.toNatClampNeg (vp_nar .byte ((x1 >>> (y2 &&& 31)).toInt8.toInt32))))) := rfl
def fX11_bytesOf (t_length : Int32) (t_text : Nat → Int32) (x1 : Int32) : Option (Int32 × (Nat → Int32)) := fX11_bytesOf_b3 x1 FU 24 t_length t_text
set_option maxRecDepth 100000 in
set_option maxHeartbeats 4000000 in
theorem kX11_bytesOf (l : Launch) (D : va_G) (cT : Nat → ClassId) (a_t : Nat) (a_t_now : Nat) (a_t_told : Nat) (a_t_one : Nat) (a_t_other : Nat) (a_t_forth : Nat) (a_t_cost : Nat) (a_t_broken : Nat) (a_t_away : Nat) (a_t_text : Nat) (a_t_worth : Nat) (a_t_choice : Nat) (a_t_thought : Nat) (a_t_before : Nat) (a_t_deep : Nat) (a_t_price : Nat) (a_t_undo : Nat) (a_t_slots : Nat) (a_t_isSaved : Nat) (t_thrown : Int32) (t_length : Int32) (t_textSize : Int32) (t_start : Int32) (t_next : Int32) (t_token : Int32) (t_value : Int32) (t_error : Int32) (t_errorAt : Int32) (t_number : Int32) (t_isFirst : Int32) (t_limitNow : Int32) (t_undos : Int32) (t_text : Nat → Int32) (x1 : Int32) (r : Int32 × (Nat → Int32)) (h : fX11_bytesOf t_length t_text x1 = some r) : sM l yX11_bytesOf cX11_bytesOf 3 none (zR 1) D cT [.ref a_t, .int x1] [(a_t, .inr (11, [.int t_thrown, .ref a_t_now, .ref a_t_told, .ref a_t_one, .ref a_t_other, .ref a_t_forth, .ref a_t_cost, .ref a_t_broken, .ref a_t_away, .ref a_t_text, .int t_length, .int t_textSize, .int t_start, .int t_next, .int t_token, .int t_value, .int t_error, .int t_errorAt, .int t_number, .int t_isFirst, .ref a_t_worth, .ref a_t_choice, .ref a_t_thought, .ref a_t_before, .ref a_t_deep, .int t_limitNow, .ref a_t_price, .int t_undos, .ref a_t_undo, .ref a_t_slots, .ref a_t_isSaved])), (a_t_text, .inl (cT 2, 500, .inl t_text))] none [(a_t, .inr (11, [.int t_thrown, .ref a_t_now, .ref a_t_told, .ref a_t_one, .ref a_t_other, .ref a_t_forth, .ref a_t_cost, .ref a_t_broken, .ref a_t_away, .ref a_t_text, .int r.1, .int t_textSize, .int t_start, .int t_next, .int t_token, .int t_value, .int t_error, .int t_errorAt, .int t_number, .int t_isFirst, .ref a_t_worth, .ref a_t_choice, .ref a_t_thought, .ref a_t_before, .ref a_t_deep, .int t_limitNow, .ref a_t_price, .int t_undos, .ref a_t_undo, .ref a_t_slots, .ref a_t_isSaved])), (a_t_text, .inl (cT 2, 500, .inl r.2))] := by
  refine sM_void rfl (Nat.le_of_ble_eq_true rfl) ?_
  intro X C hE
  have B3 : ∀ (n : Nat) (y2 : Int32) (t_length : Int32) (t_text : Nat → Int32), fX11_bytesOf_b3 x1 n y2 t_length t_text = some r → sW X l (zR 1) D 3 0 0 3 [(0, .ref a_t), (1, .int x1), (2, .int y2)] [] [(a_t, .inr (11, [.int t_thrown, .ref a_t_now, .ref a_t_told, .ref a_t_one, .ref a_t_other, .ref a_t_forth, .ref a_t_cost, .ref a_t_broken, .ref a_t_away, .ref a_t_text, .int t_length, .int t_textSize, .int t_start, .int t_next, .int t_token, .int t_value, .int t_error, .int t_errorAt, .int t_number, .int t_isFirst, .ref a_t_worth, .ref a_t_choice, .ref a_t_thought, .ref a_t_before, .ref a_t_deep, .int t_limitNow, .ref a_t_price, .int t_undos, .ref a_t_undo, .ref a_t_slots, .ref a_t_isSaved])), (a_t_text, .inl (cT 2, 500, .inl t_text))] := by
    intro n
    induction n with
    | zero =>
      intro y2 t_length t_text h
      exact zno ((fX11_bytesOf_b3_0 _ _ _ _).symm.trans h)
    | succ n ih =>
      intro y2 t_length t_text h
      replace h := (fX11_bytesOf_b3_s _ _ _ _ _).symm.trans h
      refine xi_iload_n C 2 dX11_bytesOf_3 rfl ?_
      refine xi_if_lt C (tgt := 36) dX11_bytesOf_4 rfl (fun c1 => ?_) (fun c1 => ?_)
      · replace h := (if_pos c1).symm.trans h
        obtain rfl := Option.some.inj h
        exact hE _ _ dX11_bytesOf_36 rfl
      · replace h := (if_neg c1).symm.trans h
        refine xi_aload_n C 0 dX11_bytesOf_7 rfl ?_
        refine xi_get C zkX11 9 0 zlX11_34 (by decide) rfl rfl dX11_bytesOf_8 ?_
        refine xi_aload_n C 0 dX11_bytesOf_11 rfl ?_
        refine xi_get C zkX11 10 0 zlX11_87 (by decide) rfl rfl dX11_bytesOf_12 ?_
        refine xi_iload_n C 1 dX11_bytesOf_15 rfl ?_
        refine xi_iload_n C 2 dX11_bytesOf_16 rfl ?_
        refine xi_ishr C dX11_bytesOf_17 ?_
        refine xi_i2b C dX11_bytesOf_18 ?_
        replace h := ig h
        obtain ⟨c2, h⟩ := h
        refine xi_bast C 1 rfl c2 dX11_bytesOf_19 (ws2 := [(a_t, .inr (11, [.int t_thrown, .ref a_t_now, .ref a_t_told, .ref a_t_one, .ref a_t_other, .ref a_t_forth, .ref a_t_cost, .ref a_t_broken, .ref a_t_away, .ref a_t_text, .int t_length, .int t_textSize, .int t_start, .int t_next, .int t_token, .int t_value, .int t_error, .int t_errorAt, .int t_number, .int t_isFirst, .ref a_t_worth, .ref a_t_choice, .ref a_t_thought, .ref a_t_before, .ref a_t_deep, .int t_limitNow, .ref a_t_price, .int t_undos, .ref a_t_undo, .ref a_t_slots, .ref a_t_isSaved])), (a_t_text, .inl (cT 2, 500, .inl (upd t_text t_length.toNatClampNeg (vp_nar .byte ((x1 >>> (y2 &&& 31)).toInt8.toInt32)))))]) rfl ?_
        refine xi_aload_n C 0 dX11_bytesOf_20 rfl ?_
        refine xi_dup C dX11_bytesOf_21 rfl ?_
        refine xi_get C zkX11 10 0 zlX11_87 (by decide) rfl rfl dX11_bytesOf_22 ?_
        refine xi_iconst C (v := 1) dX11_bytesOf_25 rfl ?_
        refine xi_iadd C dX11_bytesOf_26 ?_
        refine xi_put C zkX11 10 0 zlX11_87 (by decide) rfl rfl rfl rfl (Nat.le_of_ble_eq_true rfl) dX11_bytesOf_27 (ws2 := [(a_t, .inr (11, [.int t_thrown, .ref a_t_now, .ref a_t_told, .ref a_t_one, .ref a_t_other, .ref a_t_forth, .ref a_t_cost, .ref a_t_broken, .ref a_t_away, .ref a_t_text, .int (t_length + 1), .int t_textSize, .int t_start, .int t_next, .int t_token, .int t_value, .int t_error, .int t_errorAt, .int t_number, .int t_isFirst, .ref a_t_worth, .ref a_t_choice, .ref a_t_thought, .ref a_t_before, .ref a_t_deep, .int t_limitNow, .ref a_t_price, .int t_undos, .ref a_t_undo, .ref a_t_slots, .ref a_t_isSaved])), (a_t_text, .inl (cT 2, 500, .inl (upd t_text t_length.toNatClampNeg (vp_nar .byte ((x1 >>> (y2 &&& 31)).toInt8.toInt32)))))]) rfl ?_
        refine xi_iinc C (v := y2 + (-8)) 2 [1, 2, 0] (L2 := [(0, .ref a_t), (1, .int x1), (2, .int (y2 + (-8)))]) dX11_bytesOf_30 rfl rfl (Nat.le_of_ble_eq_true rfl) rfl ?_
        refine xi_goto C (tgt := 3) dX11_bytesOf_33 rfl ?_
        exact ih (y2 + (-8)) (t_length + 1) (upd t_text t_length.toNatClampNeg (vp_nar .byte ((x1 >>> (y2 &&& 31)).toInt8.toInt32))) h
  refine xi_drop (L2 := [(0, .ref a_t), (1, .int x1)]) [0, 1] rfl ?_
  refine xi_bipush C (v := 24) dX11_bytesOf_0 rfl ?_
  refine xi_istore_n C [1, 2, 0] (L2 := [(0, .ref a_t), (1, .int x1), (2, .int 24)]) dX11_bytesOf_2 (Nat.le_of_ble_eq_true rfl) rfl ?_
  exact B3 FU 24 t_length t_text h
def fX11_append (t_length : Int32) (t_text : Nat → Int32) (x1 : Int32) (x2 : Int32) (x3 : Int32) (x4 : Int32) (x5 : Int32) : Option (Int32 × Int32 × Int32 × (Nat → Int32)) := if (t_length + 20) ≤ 500 then (fX11_bytesOf t_length t_text x1).bind (fun u2 => (fX11_bytesOf u2.1 u2.2 x2).bind (fun u5 => (fX11_bytesOf u5.1 u5.2 x3).bind (fun u8 => (fX11_bytesOf u8.1 u8.2 x4).bind (fun u11 => (fX11_bytesOf u11.1 u11.2 x5).bind (fun u14 => some (u14.1, 0, u14.1, u14.2)))))) else some ((-1), 0, t_length, t_text)
set_option maxRecDepth 100000 in
set_option maxHeartbeats 4000000 in
theorem kX11_append (l : Launch) (D : va_G) (cT : Nat → ClassId) (a_t : Nat) (a_t_now : Nat) (a_t_told : Nat) (a_t_one : Nat) (a_t_other : Nat) (a_t_forth : Nat) (a_t_cost : Nat) (a_t_broken : Nat) (a_t_away : Nat) (a_t_text : Nat) (a_t_worth : Nat) (a_t_choice : Nat) (a_t_thought : Nat) (a_t_before : Nat) (a_t_deep : Nat) (a_t_price : Nat) (a_t_undo : Nat) (a_t_slots : Nat) (a_t_isSaved : Nat) (t_thrown : Int32) (t_length : Int32) (t_textSize : Int32) (t_start : Int32) (t_next : Int32) (t_token : Int32) (t_value : Int32) (t_error : Int32) (t_errorAt : Int32) (t_number : Int32) (t_isFirst : Int32) (t_limitNow : Int32) (t_undos : Int32) (t_text : Nat → Int32) (x1 : Int32) (x2 : Int32) (x3 : Int32) (x4 : Int32) (x5 : Int32) (r : Int32 × Int32 × Int32 × (Nat → Int32)) (h : fX11_append t_length t_text x1 x2 x3 x4 x5 = some r) : sM l yX11_append cX11_append 6 (some .int) (zR 2) D cT [.ref a_t, .int x1, .int x2, .int x3, .int x4, .int x5] [(a_t, .inr (11, [.int t_thrown, .ref a_t_now, .ref a_t_told, .ref a_t_one, .ref a_t_other, .ref a_t_forth, .ref a_t_cost, .ref a_t_broken, .ref a_t_away, .ref a_t_text, .int t_length, .int t_textSize, .int t_start, .int t_next, .int t_token, .int t_value, .int t_error, .int t_errorAt, .int t_number, .int t_isFirst, .ref a_t_worth, .ref a_t_choice, .ref a_t_thought, .ref a_t_before, .ref a_t_deep, .int t_limitNow, .ref a_t_price, .int t_undos, .ref a_t_undo, .ref a_t_slots, .ref a_t_isSaved])), (a_t_text, .inl (cT 2, 500, .inl t_text))] (some (.int r.1)) [(a_t, .inr (11, [.int r.2.1, .ref a_t_now, .ref a_t_told, .ref a_t_one, .ref a_t_other, .ref a_t_forth, .ref a_t_cost, .ref a_t_broken, .ref a_t_away, .ref a_t_text, .int r.2.2.1, .int t_textSize, .int t_start, .int t_next, .int t_token, .int t_value, .int t_error, .int t_errorAt, .int t_number, .int t_isFirst, .ref a_t_worth, .ref a_t_choice, .ref a_t_thought, .ref a_t_before, .ref a_t_deep, .int t_limitNow, .ref a_t_price, .int t_undos, .ref a_t_undo, .ref a_t_slots, .ref a_t_isSaved])), (a_t_text, .inl (cT 2, 500, .inl r.2.2.2))] := by
  refine sM_int rfl (Nat.le_of_ble_eq_true rfl) ?_
  intro X C hE
  refine xi_drop (L2 := [(0, .ref a_t), (1, .int x1), (2, .int x2), (3, .int x3), (4, .int x4), (5, .int x5)]) [0, 1, 2, 3, 4, 5] rfl ?_
  refine xi_aload_n C 0 dX11_append_0 rfl ?_
  refine xi_iconst C (v := 0) dX11_append_1 rfl ?_
  refine xi_put C zkX11 0 0 zlX11_80 (by decide) rfl rfl rfl rfl (Nat.le_of_ble_eq_true rfl) dX11_append_2 (ws2 := [(a_t, .inr (11, [.int 0, .ref a_t_now, .ref a_t_told, .ref a_t_one, .ref a_t_other, .ref a_t_forth, .ref a_t_cost, .ref a_t_broken, .ref a_t_away, .ref a_t_text, .int t_length, .int t_textSize, .int t_start, .int t_next, .int t_token, .int t_value, .int t_error, .int t_errorAt, .int t_number, .int t_isFirst, .ref a_t_worth, .ref a_t_choice, .ref a_t_thought, .ref a_t_before, .ref a_t_deep, .int t_limitNow, .ref a_t_price, .int t_undos, .ref a_t_undo, .ref a_t_slots, .ref a_t_isSaved])), (a_t_text, .inl (cT 2, 500, .inl t_text))]) rfl ?_
  refine xi_aload_n C 0 dX11_append_5 rfl ?_
  refine xi_get C zkX11 10 0 zlX11_87 (by decide) rfl rfl dX11_append_6 ?_
  refine xi_bipush C (v := 20) dX11_append_9 rfl ?_
  refine xi_iadd C dX11_append_11 ?_
  refine xi_sipush C (v := 500) dX11_append_12 rfl ?_
  refine xi_icmp_le C (tgt := 20) dX11_append_15 rfl (fun c1 => ?_) (fun c1 => ?_)
  · replace h := (if_pos c1).symm.trans h
    refine xi_aload_n C 0 dX11_append_20 rfl ?_
    refine xi_iload_n C 1 dX11_append_21 rfl ?_
    replace h := ob h
    obtain ⟨u2, hu3, h⟩ := h
    refine xi_callV C (kX11_bytesOf l D cT a_t a_t_now a_t_told a_t_one a_t_other a_t_forth a_t_cost a_t_broken a_t_away a_t_text a_t_worth a_t_choice a_t_thought a_t_before a_t_deep a_t_price a_t_undo a_t_slots a_t_isSaved 0 t_length t_textSize t_start t_next t_token t_value t_error t_errorAt t_number t_isFirst t_limitNow t_undos t_text x1 u2 hu3) zcX11_bytesOf zmX11_90 ziX11_bytesOf (zr rfl rfl) z00 rfl [0, 1] rfl rfl rfl [some 0, some 1] (by decide +kernel) (ws2 := [(a_t, .inr (11, [.int 0, .ref a_t_now, .ref a_t_told, .ref a_t_one, .ref a_t_other, .ref a_t_forth, .ref a_t_cost, .ref a_t_broken, .ref a_t_away, .ref a_t_text, .int u2.1, .int t_textSize, .int t_start, .int t_next, .int t_token, .int t_value, .int t_error, .int t_errorAt, .int t_number, .int t_isFirst, .ref a_t_worth, .ref a_t_choice, .ref a_t_thought, .ref a_t_before, .ref a_t_deep, .int t_limitNow, .ref a_t_price, .int t_undos, .ref a_t_undo, .ref a_t_slots, .ref a_t_isSaved])), (a_t_text, .inl (cT 2, 500, .inl u2.2))]) rfl zkX11.1 (qr := 0) rfl rfl (Nat.le_of_ble_eq_true rfl) dX11_append_22 (fun z4 => ?_)
    refine xi_aload_n C 0 dX11_append_25 rfl ?_
    refine xi_iload_n C 2 dX11_append_26 rfl ?_
    replace h := ob h
    obtain ⟨u5, hu6, h⟩ := h
    refine xi_callV C (kX11_bytesOf l D cT a_t a_t_now a_t_told a_t_one a_t_other a_t_forth a_t_cost a_t_broken a_t_away a_t_text a_t_worth a_t_choice a_t_thought a_t_before a_t_deep a_t_price a_t_undo a_t_slots a_t_isSaved 0 u2.1 t_textSize t_start t_next t_token t_value t_error t_errorAt t_number t_isFirst t_limitNow t_undos u2.2 x2 u5 hu6) zcX11_bytesOf zmX11_90 ziX11_bytesOf (zr rfl rfl) z00 rfl [0, 1] rfl rfl rfl [some 0, some 1] (by decide +kernel) (ws2 := [(a_t, .inr (11, [.int 0, .ref a_t_now, .ref a_t_told, .ref a_t_one, .ref a_t_other, .ref a_t_forth, .ref a_t_cost, .ref a_t_broken, .ref a_t_away, .ref a_t_text, .int u5.1, .int t_textSize, .int t_start, .int t_next, .int t_token, .int t_value, .int t_error, .int t_errorAt, .int t_number, .int t_isFirst, .ref a_t_worth, .ref a_t_choice, .ref a_t_thought, .ref a_t_before, .ref a_t_deep, .int t_limitNow, .ref a_t_price, .int t_undos, .ref a_t_undo, .ref a_t_slots, .ref a_t_isSaved])), (a_t_text, .inl (cT 2, 500, .inl u5.2))]) rfl zkX11.1 (qr := 0) rfl rfl (Nat.le_of_ble_eq_true rfl) dX11_append_27 (fun z7 => ?_)
    refine xi_aload_n C 0 dX11_append_30 rfl ?_
    refine xi_iload_n C 3 dX11_append_31 rfl ?_
    replace h := ob h
    obtain ⟨u8, hu9, h⟩ := h
    refine xi_callV C (kX11_bytesOf l D cT a_t a_t_now a_t_told a_t_one a_t_other a_t_forth a_t_cost a_t_broken a_t_away a_t_text a_t_worth a_t_choice a_t_thought a_t_before a_t_deep a_t_price a_t_undo a_t_slots a_t_isSaved 0 u5.1 t_textSize t_start t_next t_token t_value t_error t_errorAt t_number t_isFirst t_limitNow t_undos u5.2 x3 u8 hu9) zcX11_bytesOf zmX11_90 ziX11_bytesOf (zr rfl rfl) z00 rfl [0, 1] rfl rfl rfl [some 0, some 1] (by decide +kernel) (ws2 := [(a_t, .inr (11, [.int 0, .ref a_t_now, .ref a_t_told, .ref a_t_one, .ref a_t_other, .ref a_t_forth, .ref a_t_cost, .ref a_t_broken, .ref a_t_away, .ref a_t_text, .int u8.1, .int t_textSize, .int t_start, .int t_next, .int t_token, .int t_value, .int t_error, .int t_errorAt, .int t_number, .int t_isFirst, .ref a_t_worth, .ref a_t_choice, .ref a_t_thought, .ref a_t_before, .ref a_t_deep, .int t_limitNow, .ref a_t_price, .int t_undos, .ref a_t_undo, .ref a_t_slots, .ref a_t_isSaved])), (a_t_text, .inl (cT 2, 500, .inl u8.2))]) rfl zkX11.1 (qr := 0) rfl rfl (Nat.le_of_ble_eq_true rfl) dX11_append_32 (fun z10 => ?_)
    refine xi_aload_n C 0 dX11_append_35 rfl ?_
    refine xi_iload C 4 dX11_append_36 rfl ?_
    replace h := ob h
    obtain ⟨u11, hu12, h⟩ := h
    refine xi_callV C (kX11_bytesOf l D cT a_t a_t_now a_t_told a_t_one a_t_other a_t_forth a_t_cost a_t_broken a_t_away a_t_text a_t_worth a_t_choice a_t_thought a_t_before a_t_deep a_t_price a_t_undo a_t_slots a_t_isSaved 0 u8.1 t_textSize t_start t_next t_token t_value t_error t_errorAt t_number t_isFirst t_limitNow t_undos u8.2 x4 u11 hu12) zcX11_bytesOf zmX11_90 ziX11_bytesOf (zr rfl rfl) z00 rfl [0, 1] rfl rfl rfl [some 0, some 1] (by decide +kernel) (ws2 := [(a_t, .inr (11, [.int 0, .ref a_t_now, .ref a_t_told, .ref a_t_one, .ref a_t_other, .ref a_t_forth, .ref a_t_cost, .ref a_t_broken, .ref a_t_away, .ref a_t_text, .int u11.1, .int t_textSize, .int t_start, .int t_next, .int t_token, .int t_value, .int t_error, .int t_errorAt, .int t_number, .int t_isFirst, .ref a_t_worth, .ref a_t_choice, .ref a_t_thought, .ref a_t_before, .ref a_t_deep, .int t_limitNow, .ref a_t_price, .int t_undos, .ref a_t_undo, .ref a_t_slots, .ref a_t_isSaved])), (a_t_text, .inl (cT 2, 500, .inl u11.2))]) rfl zkX11.1 (qr := 0) rfl rfl (Nat.le_of_ble_eq_true rfl) dX11_append_38 (fun z13 => ?_)
    refine xi_aload_n C 0 dX11_append_41 rfl ?_
    refine xi_iload C 5 dX11_append_42 rfl ?_
    replace h := ob h
    obtain ⟨u14, hu15, h⟩ := h
    refine xi_callV C (kX11_bytesOf l D cT a_t a_t_now a_t_told a_t_one a_t_other a_t_forth a_t_cost a_t_broken a_t_away a_t_text a_t_worth a_t_choice a_t_thought a_t_before a_t_deep a_t_price a_t_undo a_t_slots a_t_isSaved 0 u11.1 t_textSize t_start t_next t_token t_value t_error t_errorAt t_number t_isFirst t_limitNow t_undos u11.2 x5 u14 hu15) zcX11_bytesOf zmX11_90 ziX11_bytesOf (zr rfl rfl) z00 rfl [0, 1] rfl rfl rfl [some 0, some 1] (by decide +kernel) (ws2 := [(a_t, .inr (11, [.int 0, .ref a_t_now, .ref a_t_told, .ref a_t_one, .ref a_t_other, .ref a_t_forth, .ref a_t_cost, .ref a_t_broken, .ref a_t_away, .ref a_t_text, .int u14.1, .int t_textSize, .int t_start, .int t_next, .int t_token, .int t_value, .int t_error, .int t_errorAt, .int t_number, .int t_isFirst, .ref a_t_worth, .ref a_t_choice, .ref a_t_thought, .ref a_t_before, .ref a_t_deep, .int t_limitNow, .ref a_t_price, .int t_undos, .ref a_t_undo, .ref a_t_slots, .ref a_t_isSaved])), (a_t_text, .inl (cT 2, 500, .inl u14.2))]) rfl zkX11.1 (qr := 0) rfl rfl (Nat.le_of_ble_eq_true rfl) dX11_append_44 (fun z16 => ?_)
    refine xi_aload_n C 0 dX11_append_47 rfl ?_
    refine xi_get C zkX11 10 0 zlX11_87 (by decide) rfl rfl dX11_append_48 ?_
    obtain rfl := Option.some.inj h
    exact hE _ _ _ dX11_append_51 rfl
  · replace h := (if_neg c1).symm.trans h
    refine xi_iconst C (v := (-1)) dX11_append_18 rfl ?_
    obtain rfl := Option.some.inj h
    exact hE _ _ _ dX11_append_19 rfl
def fX11_byteAt (t_textSize : Int32) (t_text : Nat → Int32) (x1 : Int32) : Option Int32 := if t_textSize ≤ x1 then some ((-1) : Int32) else gd x1 500 (some ((t_text x1.toNatClampNeg) &&& 255))
set_option maxRecDepth 100000 in
set_option maxHeartbeats 4000000 in
theorem kX11_byteAt (l : Launch) (D : va_G) (cT : Nat → ClassId) (a_t : Nat) (a_t_now : Nat) (a_t_told : Nat) (a_t_one : Nat) (a_t_other : Nat) (a_t_forth : Nat) (a_t_cost : Nat) (a_t_broken : Nat) (a_t_away : Nat) (a_t_text : Nat) (a_t_worth : Nat) (a_t_choice : Nat) (a_t_thought : Nat) (a_t_before : Nat) (a_t_deep : Nat) (a_t_price : Nat) (a_t_undo : Nat) (a_t_slots : Nat) (a_t_isSaved : Nat) (t_thrown : Int32) (t_length : Int32) (t_textSize : Int32) (t_start : Int32) (t_next : Int32) (t_token : Int32) (t_value : Int32) (t_error : Int32) (t_errorAt : Int32) (t_number : Int32) (t_isFirst : Int32) (t_limitNow : Int32) (t_undos : Int32) (t_text : Nat → Int32) (x1 : Int32) (r : Int32) (h : fX11_byteAt t_textSize t_text x1 = some r) : sM l yX11_byteAt cX11_byteAt 2 (some .int) (zR 1) D cT [.ref a_t, .int x1] [(a_t, .inr (11, [.int t_thrown, .ref a_t_now, .ref a_t_told, .ref a_t_one, .ref a_t_other, .ref a_t_forth, .ref a_t_cost, .ref a_t_broken, .ref a_t_away, .ref a_t_text, .int t_length, .int t_textSize, .int t_start, .int t_next, .int t_token, .int t_value, .int t_error, .int t_errorAt, .int t_number, .int t_isFirst, .ref a_t_worth, .ref a_t_choice, .ref a_t_thought, .ref a_t_before, .ref a_t_deep, .int t_limitNow, .ref a_t_price, .int t_undos, .ref a_t_undo, .ref a_t_slots, .ref a_t_isSaved])), (a_t_text, .inl (cT 2, 500, .inl t_text))] (some (.int r)) [(a_t, .inr (11, [.int t_thrown, .ref a_t_now, .ref a_t_told, .ref a_t_one, .ref a_t_other, .ref a_t_forth, .ref a_t_cost, .ref a_t_broken, .ref a_t_away, .ref a_t_text, .int t_length, .int t_textSize, .int t_start, .int t_next, .int t_token, .int t_value, .int t_error, .int t_errorAt, .int t_number, .int t_isFirst, .ref a_t_worth, .ref a_t_choice, .ref a_t_thought, .ref a_t_before, .ref a_t_deep, .int t_limitNow, .ref a_t_price, .int t_undos, .ref a_t_undo, .ref a_t_slots, .ref a_t_isSaved])), (a_t_text, .inl (cT 2, 500, .inl t_text))] := by
  refine sM_int rfl (Nat.le_of_ble_eq_true rfl) ?_
  intro X C hE
  refine xi_drop (L2 := [(0, .ref a_t), (1, .int x1)]) [0, 1] rfl ?_
  refine xi_iload_n C 1 dX11_byteAt_0 rfl ?_
  refine xi_aload_n C 0 dX11_byteAt_1 rfl ?_
  refine xi_get C zkX11 11 0 zlX11_94 (by decide) rfl rfl dX11_byteAt_2 ?_
  refine xi_icmp_ge C (tgt := 21) dX11_byteAt_5 rfl (fun c1 => ?_) (fun c1 => ?_)
  · replace h := (if_pos c1).symm.trans h
    refine xi_iconst C (v := (-1)) dX11_byteAt_21 rfl ?_
    obtain rfl := Option.some.inj h
    exact hE _ _ _ dX11_byteAt_22 rfl
  · replace h := (if_neg c1).symm.trans h
    refine xi_aload_n C 0 dX11_byteAt_8 rfl ?_
    refine xi_get C zkX11 9 0 zlX11_34 (by decide) rfl rfl dX11_byteAt_9 ?_
    refine xi_iload_n C 1 dX11_byteAt_12 rfl ?_
    replace h := ig h
    obtain ⟨c2, h⟩ := h
    refine xi_bald C 1 rfl c2 dX11_byteAt_13 ?_
    refine xi_sipush C (v := 255) dX11_byteAt_14 rfl ?_
    refine xi_iand C dX11_byteAt_17 ?_
    refine xi_goto C (tgt := 22) dX11_byteAt_18 rfl ?_
    obtain rfl := Option.some.inj h
    exact hE _ _ _ dX11_byteAt_22 rfl
def fX11_advance_b26 (K0 : Int32 → Int32 → Int32 → Int32 → Option (Int32 × Int32 × Int32 × Int32)) (t_start : Int32) (t_next : Int32) (t_token : Int32) (t_value : Int32) : Option (Int32 × Int32 × Int32 × Int32) := K0 t_start (t_next + 1) t_token t_value
def fX11_advance_b274 (s0 : Int32) (t_start : Int32) (t_next : Int32) (t_value : Int32) : Option (Int32 × Int32 × Int32 × Int32) := some (t_start, t_next, s0, t_value)
def fX11_advance_b246 (s0 : Int32) (t_start : Int32) (t_next : Int32) (t_value : Int32) : Option (Int32 × Int32 × Int32 × Int32) := some (t_start, t_next, s0, t_value)
def fX11_advance_b227 (t_start : Int32) (t_next : Int32) (t_value : Int32) : Option (Int32 × Int32 × Int32 × Int32) := if (t_next - t_start) ≤ 4 then fX11_advance_b246 2 t_start t_next t_value else fX11_advance_b246 4 t_start t_next t_value
def fX11_advance_b211 (K153 : Int32 → Int32 → Int32 → Int32 → Option (Int32 × Int32 × Int32 × Int32)) (s0 : Int32) (t_start : Int32) (t_next : Int32) (t_token : Int32) : Option (Int32 × Int32 × Int32 × Int32) := K153 t_start (t_next + 1) t_token s0
def fX11_advance_b153 (t_textSize : Int32) (t_text : Nat → Int32) : Nat → Int32 → Int32 → Int32 → Int32 → Option (Int32 × Int32 × Int32 × Int32)
  | 0, _, _, _, _ => none
  | n + 1, t_start, t_next, t_token, t_value => (fX11_byteAt t_textSize t_text t_next).bind (fun u22 => if (fX11_within u22 48 57) = 0 then fX11_advance_b227 t_start t_next t_value else if 4 ≤ (t_next - t_start) then fX11_advance_b211 (fX11_advance_b153 t_textSize t_text n) t_value t_start t_next t_token else (fX11_byteAt t_textSize t_text t_next).bind (fun u31 => fX11_advance_b211 (fX11_advance_b153 t_textSize t_text n) (((10 * t_value) + u31) - 48) t_start t_next t_token))
theorem fX11_advance_b153_0 (t_textSize : Int32) (t_text : Nat → Int32) (t_start : Int32) (t_next : Int32) (t_token : Int32) (t_value : Int32) : fX11_advance_b153 t_textSize t_text 0 t_start t_next t_token t_value = none := rfl
theorem fX11_advance_b153_s (t_textSize : Int32) (t_text : Nat → Int32) (n : Nat) (t_start : Int32) (t_next : Int32) (t_token : Int32) (t_value : Int32) : fX11_advance_b153 t_textSize t_text (n + 1) t_start t_next t_token t_value = ((fX11_byteAt t_textSize t_text t_next).bind (fun u22 => if (fX11_within u22 48 57) = 0 then fX11_advance_b227 t_start t_next t_value else if 4 ≤ (t_next - t_start) then fX11_advance_b211 (fX11_advance_b153 t_textSize t_text n) t_value t_start t_next t_token else (fX11_byteAt t_textSize t_text t_next).bind (fun u31 => fX11_advance_b211 (fX11_advance_b153 t_textSize t_text n) (((10 * t_value) + u31) - 48) t_start t_next t_token))) := rfl
def fX11_advance_b136 (s0 : Int32) (t_start : Int32) (t_next : Int32) (t_value : Int32) : Option (Int32 × Int32 × Int32 × Int32) := some (t_start, t_next, s0, t_value)
def fX11_advance_b116 (t_start : Int32) (t_next : Int32) (t_value : Int32) : Option (Int32 × Int32 × Int32 × Int32) := if (t_next - t_start) ≤ 8 then fX11_advance_b136 1 t_start t_next t_value else fX11_advance_b136 4 t_start t_next t_value
def fX11_advance_b85 (t_textSize : Int32) (t_text : Nat → Int32) : Nat → Int32 → Int32 → Int32 → Int32 → Option (Int32 × Int32 × Int32 × Int32)
  | 0, _, _, _, _ => none
  | n + 1, t_start, t_next, t_token, t_value => (fX11_byteAt t_textSize t_text t_next).bind (fun u34 => if (fX11_within u34 97 122) = 0 then fX11_advance_b116 t_start t_next t_value else (fX11_advance_b85 t_textSize t_text n) t_start (t_next + 1) t_token t_value)
theorem fX11_advance_b85_0 (t_textSize : Int32) (t_text : Nat → Int32) (t_start : Int32) (t_next : Int32) (t_token : Int32) (t_value : Int32) : fX11_advance_b85 t_textSize t_text 0 t_start t_next t_token t_value = none := rfl
theorem fX11_advance_b85_s (t_textSize : Int32) (t_text : Nat → Int32) (n : Nat) (t_start : Int32) (t_next : Int32) (t_token : Int32) (t_value : Int32) : fX11_advance_b85 t_textSize t_text (n + 1) t_start t_next t_token t_value = ((fX11_byteAt t_textSize t_text t_next).bind (fun u34 => if (fX11_within u34 97 122) = 0 then fX11_advance_b116 t_start t_next t_value else (fX11_advance_b85 t_textSize t_text n) t_start (t_next + 1) t_token t_value)) := rfl
def fX11_advance_b39 (t_textSize : Int32) (t_text : Nat → Int32) (t_next : Int32) (t_token : Int32) : Option (Int32 × Int32 × Int32 × Int32) := (fX11_byteAt t_textSize t_text t_next).bind (fun u9 => if u9 = (-1) then some (t_next, t_next, 0, 0) else if (fX11_within u9 97 122) = 0 then if (fX11_within u9 48 57) = 0 then if u9 = 59 then fX11_advance_b274 3 t_next (t_next + 1) 0 else fX11_advance_b274 4 t_next (t_next + 1) 0 else fX11_advance_b153 t_textSize t_text FU t_next t_next t_token 0 else fX11_advance_b85 t_textSize t_text FU t_next t_next t_token 0)
def fX11_advance_b0 (t_textSize : Int32) (t_text : Nat → Int32) : Nat → Int32 → Int32 → Int32 → Int32 → Option (Int32 × Int32 × Int32 × Int32)
  | 0, _, _, _, _ => none
  | n + 1, t_start, t_next, t_token, t_value => (fX11_byteAt t_textSize t_text t_next).bind (fun u1 => if u1 = 32 then fX11_advance_b26 (fX11_advance_b0 t_textSize t_text n) t_start t_next t_token t_value else (fX11_byteAt t_textSize t_text t_next).bind (fun u5 => if u5 = 10 then fX11_advance_b26 (fX11_advance_b0 t_textSize t_text n) t_start t_next t_token t_value else fX11_advance_b39 t_textSize t_text t_next t_token))
theorem fX11_advance_b0_0 (t_textSize : Int32) (t_text : Nat → Int32) (t_start : Int32) (t_next : Int32) (t_token : Int32) (t_value : Int32) : fX11_advance_b0 t_textSize t_text 0 t_start t_next t_token t_value = none := rfl
theorem fX11_advance_b0_s (t_textSize : Int32) (t_text : Nat → Int32) (n : Nat) (t_start : Int32) (t_next : Int32) (t_token : Int32) (t_value : Int32) : fX11_advance_b0 t_textSize t_text (n + 1) t_start t_next t_token t_value = ((fX11_byteAt t_textSize t_text t_next).bind (fun u1 => if u1 = 32 then fX11_advance_b26 (fX11_advance_b0 t_textSize t_text n) t_start t_next t_token t_value else (fX11_byteAt t_textSize t_text t_next).bind (fun u5 => if u5 = 10 then fX11_advance_b26 (fX11_advance_b0 t_textSize t_text n) t_start t_next t_token t_value else fX11_advance_b39 t_textSize t_text t_next t_token))) := rfl
def fX11_advance (t_textSize : Int32) (t_start : Int32) (t_next : Int32) (t_token : Int32) (t_value : Int32) (t_text : Nat → Int32) : Option (Int32 × Int32 × Int32 × Int32) := fX11_advance_b0 t_textSize t_text FU t_start t_next t_token t_value
set_option maxRecDepth 100000 in
set_option maxHeartbeats 4000000 in
theorem kX11_advance (l : Launch) (D : va_G) (cT : Nat → ClassId) (a_t : Nat) (a_t_now : Nat) (a_t_told : Nat) (a_t_one : Nat) (a_t_other : Nat) (a_t_forth : Nat) (a_t_cost : Nat) (a_t_broken : Nat) (a_t_away : Nat) (a_t_text : Nat) (a_t_worth : Nat) (a_t_choice : Nat) (a_t_thought : Nat) (a_t_before : Nat) (a_t_deep : Nat) (a_t_price : Nat) (a_t_undo : Nat) (a_t_slots : Nat) (a_t_isSaved : Nat) (t_thrown : Int32) (t_length : Int32) (t_textSize : Int32) (t_start : Int32) (t_next : Int32) (t_token : Int32) (t_value : Int32) (t_error : Int32) (t_errorAt : Int32) (t_number : Int32) (t_isFirst : Int32) (t_limitNow : Int32) (t_undos : Int32) (t_text : Nat → Int32) (r : Int32 × Int32 × Int32 × Int32) (h : fX11_advance t_textSize t_start t_next t_token t_value t_text = some r) : sM l yX11_advance cX11_advance 2 none (zR 2) D cT [.ref a_t] [(a_t, .inr (11, [.int t_thrown, .ref a_t_now, .ref a_t_told, .ref a_t_one, .ref a_t_other, .ref a_t_forth, .ref a_t_cost, .ref a_t_broken, .ref a_t_away, .ref a_t_text, .int t_length, .int t_textSize, .int t_start, .int t_next, .int t_token, .int t_value, .int t_error, .int t_errorAt, .int t_number, .int t_isFirst, .ref a_t_worth, .ref a_t_choice, .ref a_t_thought, .ref a_t_before, .ref a_t_deep, .int t_limitNow, .ref a_t_price, .int t_undos, .ref a_t_undo, .ref a_t_slots, .ref a_t_isSaved])), (a_t_text, .inl (cT 2, 500, .inl t_text))] none [(a_t, .inr (11, [.int t_thrown, .ref a_t_now, .ref a_t_told, .ref a_t_one, .ref a_t_other, .ref a_t_forth, .ref a_t_cost, .ref a_t_broken, .ref a_t_away, .ref a_t_text, .int t_length, .int t_textSize, .int r.1, .int r.2.1, .int r.2.2.1, .int r.2.2.2, .int t_error, .int t_errorAt, .int t_number, .int t_isFirst, .ref a_t_worth, .ref a_t_choice, .ref a_t_thought, .ref a_t_before, .ref a_t_deep, .int t_limitNow, .ref a_t_price, .int t_undos, .ref a_t_undo, .ref a_t_slots, .ref a_t_isSaved])), (a_t_text, .inl (cT 2, 500, .inl t_text))] := by
  refine sM_void rfl (Nat.le_of_ble_eq_true rfl) ?_
  intro X C hE
  have B26 : ∀ (K0 : Int32 → Int32 → Int32 → Int32 → Option (Int32 × Int32 × Int32 × Int32)) (hK0 : ∀ (t_start : Int32) (t_next : Int32) (t_token : Int32) (t_value : Int32), K0 t_start t_next t_token t_value = some r → sW X l (zR 2) D 2 0 0 0 [(0, .ref a_t)] [] [(a_t, .inr (11, [.int t_thrown, .ref a_t_now, .ref a_t_told, .ref a_t_one, .ref a_t_other, .ref a_t_forth, .ref a_t_cost, .ref a_t_broken, .ref a_t_away, .ref a_t_text, .int t_length, .int t_textSize, .int t_start, .int t_next, .int t_token, .int t_value, .int t_error, .int t_errorAt, .int t_number, .int t_isFirst, .ref a_t_worth, .ref a_t_choice, .ref a_t_thought, .ref a_t_before, .ref a_t_deep, .int t_limitNow, .ref a_t_price, .int t_undos, .ref a_t_undo, .ref a_t_slots, .ref a_t_isSaved])), (a_t_text, .inl (cT 2, 500, .inl t_text))]) (t_start : Int32) (t_next : Int32) (t_token : Int32) (t_value : Int32), fX11_advance_b26 K0 t_start t_next t_token t_value = some r → sW X l (zR 2) D 2 0 0 26 [(0, .ref a_t)] [] [(a_t, .inr (11, [.int t_thrown, .ref a_t_now, .ref a_t_told, .ref a_t_one, .ref a_t_other, .ref a_t_forth, .ref a_t_cost, .ref a_t_broken, .ref a_t_away, .ref a_t_text, .int t_length, .int t_textSize, .int t_start, .int t_next, .int t_token, .int t_value, .int t_error, .int t_errorAt, .int t_number, .int t_isFirst, .ref a_t_worth, .ref a_t_choice, .ref a_t_thought, .ref a_t_before, .ref a_t_deep, .int t_limitNow, .ref a_t_price, .int t_undos, .ref a_t_undo, .ref a_t_slots, .ref a_t_isSaved])), (a_t_text, .inl (cT 2, 500, .inl t_text))] := by
    intro K0 hK0 t_start t_next t_token t_value h
    refine xi_aload_n C 0 dX11_advance_26 rfl ?_
    refine xi_dup C dX11_advance_27 rfl ?_
    refine xi_get C zkX11 13 0 zlX11_97 (by decide) rfl rfl dX11_advance_28 ?_
    refine xi_iconst C (v := 1) dX11_advance_31 rfl ?_
    refine xi_iadd C dX11_advance_32 ?_
    refine xi_put C zkX11 13 0 zlX11_97 (by decide) rfl rfl rfl rfl (Nat.le_of_ble_eq_true rfl) dX11_advance_33 (ws2 := [(a_t, .inr (11, [.int t_thrown, .ref a_t_now, .ref a_t_told, .ref a_t_one, .ref a_t_other, .ref a_t_forth, .ref a_t_cost, .ref a_t_broken, .ref a_t_away, .ref a_t_text, .int t_length, .int t_textSize, .int t_start, .int (t_next + 1), .int t_token, .int t_value, .int t_error, .int t_errorAt, .int t_number, .int t_isFirst, .ref a_t_worth, .ref a_t_choice, .ref a_t_thought, .ref a_t_before, .ref a_t_deep, .int t_limitNow, .ref a_t_price, .int t_undos, .ref a_t_undo, .ref a_t_slots, .ref a_t_isSaved])), (a_t_text, .inl (cT 2, 500, .inl t_text))]) rfl ?_
    refine xi_goto C (tgt := 0) dX11_advance_36 rfl ?_
    exact hK0 t_start (t_next + 1) t_token t_value h
  have B274 : ∀ (s0 : Int32) (t_start : Int32) (t_next : Int32) (t_token : Int32) (t_value : Int32), fX11_advance_b274 s0 t_start t_next t_value = some r → sW X l (zR 2) D 2 0 0 274 [] [.int s0, .ref a_t] [(a_t, .inr (11, [.int t_thrown, .ref a_t_now, .ref a_t_told, .ref a_t_one, .ref a_t_other, .ref a_t_forth, .ref a_t_cost, .ref a_t_broken, .ref a_t_away, .ref a_t_text, .int t_length, .int t_textSize, .int t_start, .int t_next, .int t_token, .int t_value, .int t_error, .int t_errorAt, .int t_number, .int t_isFirst, .ref a_t_worth, .ref a_t_choice, .ref a_t_thought, .ref a_t_before, .ref a_t_deep, .int t_limitNow, .ref a_t_price, .int t_undos, .ref a_t_undo, .ref a_t_slots, .ref a_t_isSaved])), (a_t_text, .inl (cT 2, 500, .inl t_text))] := by
    intro s0 t_start t_next t_token t_value h
    refine xi_put C zkX11 14 0 zlX11_110 (by decide) rfl rfl rfl rfl (Nat.le_of_ble_eq_true rfl) dX11_advance_274 (ws2 := [(a_t, .inr (11, [.int t_thrown, .ref a_t_now, .ref a_t_told, .ref a_t_one, .ref a_t_other, .ref a_t_forth, .ref a_t_cost, .ref a_t_broken, .ref a_t_away, .ref a_t_text, .int t_length, .int t_textSize, .int t_start, .int t_next, .int s0, .int t_value, .int t_error, .int t_errorAt, .int t_number, .int t_isFirst, .ref a_t_worth, .ref a_t_choice, .ref a_t_thought, .ref a_t_before, .ref a_t_deep, .int t_limitNow, .ref a_t_price, .int t_undos, .ref a_t_undo, .ref a_t_slots, .ref a_t_isSaved])), (a_t_text, .inl (cT 2, 500, .inl t_text))]) rfl ?_
    obtain rfl := Option.some.inj h
    exact hE _ _ dX11_advance_277 rfl
  have B246 : ∀ (s0 : Int32) (t_start : Int32) (t_next : Int32) (t_token : Int32) (t_value : Int32), fX11_advance_b246 s0 t_start t_next t_value = some r → sW X l (zR 2) D 2 0 0 246 [] [.int s0, .ref a_t] [(a_t, .inr (11, [.int t_thrown, .ref a_t_now, .ref a_t_told, .ref a_t_one, .ref a_t_other, .ref a_t_forth, .ref a_t_cost, .ref a_t_broken, .ref a_t_away, .ref a_t_text, .int t_length, .int t_textSize, .int t_start, .int t_next, .int t_token, .int t_value, .int t_error, .int t_errorAt, .int t_number, .int t_isFirst, .ref a_t_worth, .ref a_t_choice, .ref a_t_thought, .ref a_t_before, .ref a_t_deep, .int t_limitNow, .ref a_t_price, .int t_undos, .ref a_t_undo, .ref a_t_slots, .ref a_t_isSaved])), (a_t_text, .inl (cT 2, 500, .inl t_text))] := by
    intro s0 t_start t_next t_token t_value h
    refine xi_put C zkX11 14 0 zlX11_110 (by decide) rfl rfl rfl rfl (Nat.le_of_ble_eq_true rfl) dX11_advance_246 (ws2 := [(a_t, .inr (11, [.int t_thrown, .ref a_t_now, .ref a_t_told, .ref a_t_one, .ref a_t_other, .ref a_t_forth, .ref a_t_cost, .ref a_t_broken, .ref a_t_away, .ref a_t_text, .int t_length, .int t_textSize, .int t_start, .int t_next, .int s0, .int t_value, .int t_error, .int t_errorAt, .int t_number, .int t_isFirst, .ref a_t_worth, .ref a_t_choice, .ref a_t_thought, .ref a_t_before, .ref a_t_deep, .int t_limitNow, .ref a_t_price, .int t_undos, .ref a_t_undo, .ref a_t_slots, .ref a_t_isSaved])), (a_t_text, .inl (cT 2, 500, .inl t_text))]) rfl ?_
    refine xi_goto C (tgt := 277) dX11_advance_249 rfl ?_
    obtain rfl := Option.some.inj h
    exact hE _ _ dX11_advance_277 rfl
  have B227 : ∀ (t_start : Int32) (t_next : Int32) (t_token : Int32) (t_value : Int32), fX11_advance_b227 t_start t_next t_value = some r → sW X l (zR 2) D 2 0 0 227 [(0, .ref a_t)] [] [(a_t, .inr (11, [.int t_thrown, .ref a_t_now, .ref a_t_told, .ref a_t_one, .ref a_t_other, .ref a_t_forth, .ref a_t_cost, .ref a_t_broken, .ref a_t_away, .ref a_t_text, .int t_length, .int t_textSize, .int t_start, .int t_next, .int t_token, .int t_value, .int t_error, .int t_errorAt, .int t_number, .int t_isFirst, .ref a_t_worth, .ref a_t_choice, .ref a_t_thought, .ref a_t_before, .ref a_t_deep, .int t_limitNow, .ref a_t_price, .int t_undos, .ref a_t_undo, .ref a_t_slots, .ref a_t_isSaved])), (a_t_text, .inl (cT 2, 500, .inl t_text))] := by
    intro t_start t_next t_token t_value h
    refine xi_aload_n C 0 dX11_advance_227 rfl ?_
    refine xi_aload_n C 0 dX11_advance_228 rfl ?_
    refine xi_get C zkX11 13 0 zlX11_97 (by decide) rfl rfl dX11_advance_229 ?_
    refine xi_aload_n C 0 dX11_advance_232 rfl ?_
    refine xi_get C zkX11 12 0 zlX11_104 (by decide) rfl rfl dX11_advance_233 ?_
    refine xi_isub C dX11_advance_236 ?_
    refine xi_iconst C (v := 4) dX11_advance_237 rfl ?_
    refine xi_icmp_le C (tgt := 245) dX11_advance_238 rfl (fun c29 => ?_) (fun c29 => ?_)
    · replace h := (if_pos c29).symm.trans h
      refine xi_iconst C (v := 2) dX11_advance_245 rfl ?_
      refine xi_drop (L2 := []) [] rfl ?_
      exact B246 2 t_start t_next t_token t_value h
    · replace h := (if_neg c29).symm.trans h
      refine xi_iconst C (v := 4) dX11_advance_241 rfl ?_
      refine xi_goto C (tgt := 246) dX11_advance_242 rfl ?_
      refine xi_drop (L2 := []) [] rfl ?_
      exact B246 4 t_start t_next t_token t_value h
  have B211 : ∀ (K153 : Int32 → Int32 → Int32 → Int32 → Option (Int32 × Int32 × Int32 × Int32)) (hK153 : ∀ (t_start : Int32) (t_next : Int32) (t_token : Int32) (t_value : Int32), K153 t_start t_next t_token t_value = some r → sW X l (zR 2) D 2 0 0 153 [(0, .ref a_t)] [] [(a_t, .inr (11, [.int t_thrown, .ref a_t_now, .ref a_t_told, .ref a_t_one, .ref a_t_other, .ref a_t_forth, .ref a_t_cost, .ref a_t_broken, .ref a_t_away, .ref a_t_text, .int t_length, .int t_textSize, .int t_start, .int t_next, .int t_token, .int t_value, .int t_error, .int t_errorAt, .int t_number, .int t_isFirst, .ref a_t_worth, .ref a_t_choice, .ref a_t_thought, .ref a_t_before, .ref a_t_deep, .int t_limitNow, .ref a_t_price, .int t_undos, .ref a_t_undo, .ref a_t_slots, .ref a_t_isSaved])), (a_t_text, .inl (cT 2, 500, .inl t_text))]) (s0 : Int32) (t_start : Int32) (t_next : Int32) (t_token : Int32) (t_value : Int32), fX11_advance_b211 K153 s0 t_start t_next t_token = some r → sW X l (zR 2) D 2 0 0 211 [(0, .ref a_t)] [.int s0, .ref a_t] [(a_t, .inr (11, [.int t_thrown, .ref a_t_now, .ref a_t_told, .ref a_t_one, .ref a_t_other, .ref a_t_forth, .ref a_t_cost, .ref a_t_broken, .ref a_t_away, .ref a_t_text, .int t_length, .int t_textSize, .int t_start, .int t_next, .int t_token, .int t_value, .int t_error, .int t_errorAt, .int t_number, .int t_isFirst, .ref a_t_worth, .ref a_t_choice, .ref a_t_thought, .ref a_t_before, .ref a_t_deep, .int t_limitNow, .ref a_t_price, .int t_undos, .ref a_t_undo, .ref a_t_slots, .ref a_t_isSaved])), (a_t_text, .inl (cT 2, 500, .inl t_text))] := by
    intro K153 hK153 s0 t_start t_next t_token t_value h
    refine xi_put C zkX11 15 0 zlX11_107 (by decide) rfl rfl rfl rfl (Nat.le_of_ble_eq_true rfl) dX11_advance_211 (ws2 := [(a_t, .inr (11, [.int t_thrown, .ref a_t_now, .ref a_t_told, .ref a_t_one, .ref a_t_other, .ref a_t_forth, .ref a_t_cost, .ref a_t_broken, .ref a_t_away, .ref a_t_text, .int t_length, .int t_textSize, .int t_start, .int t_next, .int t_token, .int s0, .int t_error, .int t_errorAt, .int t_number, .int t_isFirst, .ref a_t_worth, .ref a_t_choice, .ref a_t_thought, .ref a_t_before, .ref a_t_deep, .int t_limitNow, .ref a_t_price, .int t_undos, .ref a_t_undo, .ref a_t_slots, .ref a_t_isSaved])), (a_t_text, .inl (cT 2, 500, .inl t_text))]) rfl ?_
    refine xi_aload_n C 0 dX11_advance_214 rfl ?_
    refine xi_dup C dX11_advance_215 rfl ?_
    refine xi_get C zkX11 13 0 zlX11_97 (by decide) rfl rfl dX11_advance_216 ?_
    refine xi_iconst C (v := 1) dX11_advance_219 rfl ?_
    refine xi_iadd C dX11_advance_220 ?_
    refine xi_put C zkX11 13 0 zlX11_97 (by decide) rfl rfl rfl rfl (Nat.le_of_ble_eq_true rfl) dX11_advance_221 (ws2 := [(a_t, .inr (11, [.int t_thrown, .ref a_t_now, .ref a_t_told, .ref a_t_one, .ref a_t_other, .ref a_t_forth, .ref a_t_cost, .ref a_t_broken, .ref a_t_away, .ref a_t_text, .int t_length, .int t_textSize, .int t_start, .int (t_next + 1), .int t_token, .int s0, .int t_error, .int t_errorAt, .int t_number, .int t_isFirst, .ref a_t_worth, .ref a_t_choice, .ref a_t_thought, .ref a_t_before, .ref a_t_deep, .int t_limitNow, .ref a_t_price, .int t_undos, .ref a_t_undo, .ref a_t_slots, .ref a_t_isSaved])), (a_t_text, .inl (cT 2, 500, .inl t_text))]) rfl ?_
    refine xi_goto C (tgt := 153) dX11_advance_224 rfl ?_
    exact hK153 t_start (t_next + 1) t_token s0 h
  have B153 : ∀ (n : Nat) (t_start : Int32) (t_next : Int32) (t_token : Int32) (t_value : Int32), fX11_advance_b153 t_textSize t_text n t_start t_next t_token t_value = some r → sW X l (zR 2) D 2 0 0 153 [(0, .ref a_t)] [] [(a_t, .inr (11, [.int t_thrown, .ref a_t_now, .ref a_t_told, .ref a_t_one, .ref a_t_other, .ref a_t_forth, .ref a_t_cost, .ref a_t_broken, .ref a_t_away, .ref a_t_text, .int t_length, .int t_textSize, .int t_start, .int t_next, .int t_token, .int t_value, .int t_error, .int t_errorAt, .int t_number, .int t_isFirst, .ref a_t_worth, .ref a_t_choice, .ref a_t_thought, .ref a_t_before, .ref a_t_deep, .int t_limitNow, .ref a_t_price, .int t_undos, .ref a_t_undo, .ref a_t_slots, .ref a_t_isSaved])), (a_t_text, .inl (cT 2, 500, .inl t_text))] := by
    intro n
    induction n with
    | zero =>
      intro t_start t_next t_token t_value h
      exact zno ((fX11_advance_b153_0 _ _ _ _ _ _).symm.trans h)
    | succ n ih =>
      intro t_start t_next t_token t_value h
      replace h := (fX11_advance_b153_s _ _ _ _ _ _ _).symm.trans h
      refine xi_aload_n C 0 dX11_advance_153 rfl ?_
      refine xi_aload_n C 0 dX11_advance_154 rfl ?_
      refine xi_get C zkX11 13 0 zlX11_97 (by decide) rfl rfl dX11_advance_155 ?_
      replace h := ob h
      obtain ⟨u22, hu23, h⟩ := h
      refine xi_callVr C (kX11_byteAt l D cT a_t a_t_now a_t_told a_t_one a_t_other a_t_forth a_t_cost a_t_broken a_t_away a_t_text a_t_worth a_t_choice a_t_thought a_t_before a_t_deep a_t_price a_t_undo a_t_slots a_t_isSaved t_thrown t_length t_textSize t_start t_next t_token t_value t_error t_errorAt t_number t_isFirst t_limitNow t_undos t_text t_next u22 hu23) zcX11_byteAt zmX11_100 ziX11_byteAt (zr rfl rfl) z00 rfl [0, 1] rfl rfl zkX11.1 (qr := 0) rfl rfl (Nat.le_of_ble_eq_true rfl) dX11_advance_158 (fun z24 => ?_)
      refine xi_bipush C (v := 48) dX11_advance_161 rfl ?_
      refine xi_bipush C (v := 57) dX11_advance_163 rfl ?_
      refine xi_callSr C (kX11_within l D cT u22 48 57 (fX11_within u22 48 57) rfl) zcX11_within zmX11_113 zsX11_within (zr rfl rfl) z00 rfl [] rfl rfl rfl (Nat.le_of_ble_eq_true rfl) dX11_advance_165 (fun z27 => ?_)
      refine xi_if_eq C (tgt := 227) dX11_advance_168 rfl (fun c28 => ?_) (fun c28 => ?_)
      · replace h := (if_pos c28).symm.trans h
        exact B227 t_start t_next t_token t_value h
      · replace h := (if_neg c28).symm.trans h
        refine xi_aload_n C 0 dX11_advance_171 rfl ?_
        refine xi_aload_n C 0 dX11_advance_172 rfl ?_
        refine xi_get C zkX11 13 0 zlX11_97 (by decide) rfl rfl dX11_advance_173 ?_
        refine xi_aload_n C 0 dX11_advance_176 rfl ?_
        refine xi_get C zkX11 12 0 zlX11_104 (by decide) rfl rfl dX11_advance_177 ?_
        refine xi_isub C dX11_advance_180 ?_
        refine xi_iconst C (v := 4) dX11_advance_181 rfl ?_
        refine xi_icmp_ge C (tgt := 207) dX11_advance_182 rfl (fun c30 => ?_) (fun c30 => ?_)
        · replace h := (if_pos c30).symm.trans h
          refine xi_aload_n C 0 dX11_advance_207 rfl ?_
          refine xi_get C zkX11 15 0 zlX11_107 (by decide) rfl rfl dX11_advance_208 ?_
          exact B211 (fX11_advance_b153 t_textSize t_text n) ih t_value t_start t_next t_token t_value h
        · replace h := (if_neg c30).symm.trans h
          refine xi_bipush C (v := 10) dX11_advance_185 rfl ?_
          refine xi_aload_n C 0 dX11_advance_187 rfl ?_
          refine xi_get C zkX11 15 0 zlX11_107 (by decide) rfl rfl dX11_advance_188 ?_
          refine xi_imul C dX11_advance_191 ?_
          refine xi_aload_n C 0 dX11_advance_192 rfl ?_
          refine xi_aload_n C 0 dX11_advance_193 rfl ?_
          refine xi_get C zkX11 13 0 zlX11_97 (by decide) rfl rfl dX11_advance_194 ?_
          replace h := ob h
          obtain ⟨u31, hu32, h⟩ := h
          refine xi_callVr C (kX11_byteAt l D cT a_t a_t_now a_t_told a_t_one a_t_other a_t_forth a_t_cost a_t_broken a_t_away a_t_text a_t_worth a_t_choice a_t_thought a_t_before a_t_deep a_t_price a_t_undo a_t_slots a_t_isSaved t_thrown t_length t_textSize t_start t_next t_token t_value t_error t_errorAt t_number t_isFirst t_limitNow t_undos t_text t_next u31 hu32) zcX11_byteAt zmX11_100 ziX11_byteAt (zr rfl rfl) z00 rfl [0, 1] rfl rfl zkX11.1 (qr := 0) rfl rfl (Nat.le_of_ble_eq_true rfl) dX11_advance_197 (fun z33 => ?_)
          refine xi_iadd C dX11_advance_200 ?_
          refine xi_bipush C (v := 48) dX11_advance_201 rfl ?_
          refine xi_isub C dX11_advance_203 ?_
          refine xi_goto C (tgt := 211) dX11_advance_204 rfl ?_
          exact B211 (fX11_advance_b153 t_textSize t_text n) ih (((10 * t_value) + u31) - 48) t_start t_next t_token t_value h
  have B136 : ∀ (s0 : Int32) (t_start : Int32) (t_next : Int32) (t_token : Int32) (t_value : Int32), fX11_advance_b136 s0 t_start t_next t_value = some r → sW X l (zR 2) D 2 0 0 136 [] [.int s0, .ref a_t] [(a_t, .inr (11, [.int t_thrown, .ref a_t_now, .ref a_t_told, .ref a_t_one, .ref a_t_other, .ref a_t_forth, .ref a_t_cost, .ref a_t_broken, .ref a_t_away, .ref a_t_text, .int t_length, .int t_textSize, .int t_start, .int t_next, .int t_token, .int t_value, .int t_error, .int t_errorAt, .int t_number, .int t_isFirst, .ref a_t_worth, .ref a_t_choice, .ref a_t_thought, .ref a_t_before, .ref a_t_deep, .int t_limitNow, .ref a_t_price, .int t_undos, .ref a_t_undo, .ref a_t_slots, .ref a_t_isSaved])), (a_t_text, .inl (cT 2, 500, .inl t_text))] := by
    intro s0 t_start t_next t_token t_value h
    refine xi_put C zkX11 14 0 zlX11_110 (by decide) rfl rfl rfl rfl (Nat.le_of_ble_eq_true rfl) dX11_advance_136 (ws2 := [(a_t, .inr (11, [.int t_thrown, .ref a_t_now, .ref a_t_told, .ref a_t_one, .ref a_t_other, .ref a_t_forth, .ref a_t_cost, .ref a_t_broken, .ref a_t_away, .ref a_t_text, .int t_length, .int t_textSize, .int t_start, .int t_next, .int s0, .int t_value, .int t_error, .int t_errorAt, .int t_number, .int t_isFirst, .ref a_t_worth, .ref a_t_choice, .ref a_t_thought, .ref a_t_before, .ref a_t_deep, .int t_limitNow, .ref a_t_price, .int t_undos, .ref a_t_undo, .ref a_t_slots, .ref a_t_isSaved])), (a_t_text, .inl (cT 2, 500, .inl t_text))]) rfl ?_
    refine xi_goto C (tgt := 277) dX11_advance_139 rfl ?_
    obtain rfl := Option.some.inj h
    exact hE _ _ dX11_advance_277 rfl
  have B116 : ∀ (t_start : Int32) (t_next : Int32) (t_token : Int32) (t_value : Int32), fX11_advance_b116 t_start t_next t_value = some r → sW X l (zR 2) D 2 0 0 116 [(0, .ref a_t)] [] [(a_t, .inr (11, [.int t_thrown, .ref a_t_now, .ref a_t_told, .ref a_t_one, .ref a_t_other, .ref a_t_forth, .ref a_t_cost, .ref a_t_broken, .ref a_t_away, .ref a_t_text, .int t_length, .int t_textSize, .int t_start, .int t_next, .int t_token, .int t_value, .int t_error, .int t_errorAt, .int t_number, .int t_isFirst, .ref a_t_worth, .ref a_t_choice, .ref a_t_thought, .ref a_t_before, .ref a_t_deep, .int t_limitNow, .ref a_t_price, .int t_undos, .ref a_t_undo, .ref a_t_slots, .ref a_t_isSaved])), (a_t_text, .inl (cT 2, 500, .inl t_text))] := by
    intro t_start t_next t_token t_value h
    refine xi_aload_n C 0 dX11_advance_116 rfl ?_
    refine xi_aload_n C 0 dX11_advance_117 rfl ?_
    refine xi_get C zkX11 13 0 zlX11_97 (by decide) rfl rfl dX11_advance_118 ?_
    refine xi_aload_n C 0 dX11_advance_121 rfl ?_
    refine xi_get C zkX11 12 0 zlX11_104 (by decide) rfl rfl dX11_advance_122 ?_
    refine xi_isub C dX11_advance_125 ?_
    refine xi_bipush C (v := 8) dX11_advance_126 rfl ?_
    refine xi_icmp_le C (tgt := 135) dX11_advance_128 rfl (fun c41 => ?_) (fun c41 => ?_)
    · replace h := (if_pos c41).symm.trans h
      refine xi_iconst C (v := 1) dX11_advance_135 rfl ?_
      refine xi_drop (L2 := []) [] rfl ?_
      exact B136 1 t_start t_next t_token t_value h
    · replace h := (if_neg c41).symm.trans h
      refine xi_iconst C (v := 4) dX11_advance_131 rfl ?_
      refine xi_goto C (tgt := 136) dX11_advance_132 rfl ?_
      refine xi_drop (L2 := []) [] rfl ?_
      exact B136 4 t_start t_next t_token t_value h
  have B85 : ∀ (n : Nat) (t_start : Int32) (t_next : Int32) (t_token : Int32) (t_value : Int32), fX11_advance_b85 t_textSize t_text n t_start t_next t_token t_value = some r → sW X l (zR 2) D 2 0 0 85 [(0, .ref a_t)] [] [(a_t, .inr (11, [.int t_thrown, .ref a_t_now, .ref a_t_told, .ref a_t_one, .ref a_t_other, .ref a_t_forth, .ref a_t_cost, .ref a_t_broken, .ref a_t_away, .ref a_t_text, .int t_length, .int t_textSize, .int t_start, .int t_next, .int t_token, .int t_value, .int t_error, .int t_errorAt, .int t_number, .int t_isFirst, .ref a_t_worth, .ref a_t_choice, .ref a_t_thought, .ref a_t_before, .ref a_t_deep, .int t_limitNow, .ref a_t_price, .int t_undos, .ref a_t_undo, .ref a_t_slots, .ref a_t_isSaved])), (a_t_text, .inl (cT 2, 500, .inl t_text))] := by
    intro n
    induction n with
    | zero =>
      intro t_start t_next t_token t_value h
      exact zno ((fX11_advance_b85_0 _ _ _ _ _ _).symm.trans h)
    | succ n ih =>
      intro t_start t_next t_token t_value h
      replace h := (fX11_advance_b85_s _ _ _ _ _ _ _).symm.trans h
      refine xi_aload_n C 0 dX11_advance_85 rfl ?_
      refine xi_aload_n C 0 dX11_advance_86 rfl ?_
      refine xi_get C zkX11 13 0 zlX11_97 (by decide) rfl rfl dX11_advance_87 ?_
      replace h := ob h
      obtain ⟨u34, hu35, h⟩ := h
      refine xi_callVr C (kX11_byteAt l D cT a_t a_t_now a_t_told a_t_one a_t_other a_t_forth a_t_cost a_t_broken a_t_away a_t_text a_t_worth a_t_choice a_t_thought a_t_before a_t_deep a_t_price a_t_undo a_t_slots a_t_isSaved t_thrown t_length t_textSize t_start t_next t_token t_value t_error t_errorAt t_number t_isFirst t_limitNow t_undos t_text t_next u34 hu35) zcX11_byteAt zmX11_100 ziX11_byteAt (zr rfl rfl) z00 rfl [0, 1] rfl rfl zkX11.1 (qr := 0) rfl rfl (Nat.le_of_ble_eq_true rfl) dX11_advance_90 (fun z36 => ?_)
      refine xi_bipush C (v := 97) dX11_advance_93 rfl ?_
      refine xi_bipush C (v := 122) dX11_advance_95 rfl ?_
      refine xi_callSr C (kX11_within l D cT u34 97 122 (fX11_within u34 97 122) rfl) zcX11_within zmX11_113 zsX11_within (zr rfl rfl) z00 rfl [] rfl rfl rfl (Nat.le_of_ble_eq_true rfl) dX11_advance_97 (fun z39 => ?_)
      refine xi_if_eq C (tgt := 116) dX11_advance_100 rfl (fun c40 => ?_) (fun c40 => ?_)
      · replace h := (if_pos c40).symm.trans h
        exact B116 t_start t_next t_token t_value h
      · replace h := (if_neg c40).symm.trans h
        refine xi_aload_n C 0 dX11_advance_103 rfl ?_
        refine xi_dup C dX11_advance_104 rfl ?_
        refine xi_get C zkX11 13 0 zlX11_97 (by decide) rfl rfl dX11_advance_105 ?_
        refine xi_iconst C (v := 1) dX11_advance_108 rfl ?_
        refine xi_iadd C dX11_advance_109 ?_
        refine xi_put C zkX11 13 0 zlX11_97 (by decide) rfl rfl rfl rfl (Nat.le_of_ble_eq_true rfl) dX11_advance_110 (ws2 := [(a_t, .inr (11, [.int t_thrown, .ref a_t_now, .ref a_t_told, .ref a_t_one, .ref a_t_other, .ref a_t_forth, .ref a_t_cost, .ref a_t_broken, .ref a_t_away, .ref a_t_text, .int t_length, .int t_textSize, .int t_start, .int (t_next + 1), .int t_token, .int t_value, .int t_error, .int t_errorAt, .int t_number, .int t_isFirst, .ref a_t_worth, .ref a_t_choice, .ref a_t_thought, .ref a_t_before, .ref a_t_deep, .int t_limitNow, .ref a_t_price, .int t_undos, .ref a_t_undo, .ref a_t_slots, .ref a_t_isSaved])), (a_t_text, .inl (cT 2, 500, .inl t_text))]) rfl ?_
        refine xi_goto C (tgt := 85) dX11_advance_113 rfl ?_
        exact ih t_start (t_next + 1) t_token t_value h
  have B39 : ∀ (t_start : Int32) (t_next : Int32) (t_token : Int32) (t_value : Int32), fX11_advance_b39 t_textSize t_text t_next t_token = some r → sW X l (zR 2) D 2 0 0 39 [(0, .ref a_t)] [] [(a_t, .inr (11, [.int t_thrown, .ref a_t_now, .ref a_t_told, .ref a_t_one, .ref a_t_other, .ref a_t_forth, .ref a_t_cost, .ref a_t_broken, .ref a_t_away, .ref a_t_text, .int t_length, .int t_textSize, .int t_start, .int t_next, .int t_token, .int t_value, .int t_error, .int t_errorAt, .int t_number, .int t_isFirst, .ref a_t_worth, .ref a_t_choice, .ref a_t_thought, .ref a_t_before, .ref a_t_deep, .int t_limitNow, .ref a_t_price, .int t_undos, .ref a_t_undo, .ref a_t_slots, .ref a_t_isSaved])), (a_t_text, .inl (cT 2, 500, .inl t_text))] := by
    intro t_start t_next t_token t_value h
    refine xi_aload_n C 0 dX11_advance_39 rfl ?_
    refine xi_aload_n C 0 dX11_advance_40 rfl ?_
    refine xi_get C zkX11 13 0 zlX11_97 (by decide) rfl rfl dX11_advance_41 ?_
    refine xi_put C zkX11 12 0 zlX11_104 (by decide) rfl rfl rfl rfl (Nat.le_of_ble_eq_true rfl) dX11_advance_44 (ws2 := [(a_t, .inr (11, [.int t_thrown, .ref a_t_now, .ref a_t_told, .ref a_t_one, .ref a_t_other, .ref a_t_forth, .ref a_t_cost, .ref a_t_broken, .ref a_t_away, .ref a_t_text, .int t_length, .int t_textSize, .int t_next, .int t_next, .int t_token, .int t_value, .int t_error, .int t_errorAt, .int t_number, .int t_isFirst, .ref a_t_worth, .ref a_t_choice, .ref a_t_thought, .ref a_t_before, .ref a_t_deep, .int t_limitNow, .ref a_t_price, .int t_undos, .ref a_t_undo, .ref a_t_slots, .ref a_t_isSaved])), (a_t_text, .inl (cT 2, 500, .inl t_text))]) rfl ?_
    refine xi_aload_n C 0 dX11_advance_47 rfl ?_
    refine xi_iconst C (v := 0) dX11_advance_48 rfl ?_
    refine xi_put C zkX11 15 0 zlX11_107 (by decide) rfl rfl rfl rfl (Nat.le_of_ble_eq_true rfl) dX11_advance_49 (ws2 := [(a_t, .inr (11, [.int t_thrown, .ref a_t_now, .ref a_t_told, .ref a_t_one, .ref a_t_other, .ref a_t_forth, .ref a_t_cost, .ref a_t_broken, .ref a_t_away, .ref a_t_text, .int t_length, .int t_textSize, .int t_next, .int t_next, .int t_token, .int 0, .int t_error, .int t_errorAt, .int t_number, .int t_isFirst, .ref a_t_worth, .ref a_t_choice, .ref a_t_thought, .ref a_t_before, .ref a_t_deep, .int t_limitNow, .ref a_t_price, .int t_undos, .ref a_t_undo, .ref a_t_slots, .ref a_t_isSaved])), (a_t_text, .inl (cT 2, 500, .inl t_text))]) rfl ?_
    refine xi_aload_n C 0 dX11_advance_52 rfl ?_
    refine xi_aload_n C 0 dX11_advance_53 rfl ?_
    refine xi_get C zkX11 13 0 zlX11_97 (by decide) rfl rfl dX11_advance_54 ?_
    replace h := ob h
    obtain ⟨u9, hu10, h⟩ := h
    refine xi_callVr C (kX11_byteAt l D cT a_t a_t_now a_t_told a_t_one a_t_other a_t_forth a_t_cost a_t_broken a_t_away a_t_text a_t_worth a_t_choice a_t_thought a_t_before a_t_deep a_t_price a_t_undo a_t_slots a_t_isSaved t_thrown t_length t_textSize t_next t_next t_token 0 t_error t_errorAt t_number t_isFirst t_limitNow t_undos t_text t_next u9 hu10) zcX11_byteAt zmX11_100 ziX11_byteAt (zr rfl rfl) z00 rfl [0, 1] rfl rfl zkX11.1 (qr := 0) rfl rfl (Nat.le_of_ble_eq_true rfl) dX11_advance_57 (fun z11 => ?_)
    refine xi_istore_n C [1, 0] (L2 := [(0, .ref a_t), (1, .int u9)]) dX11_advance_60 (Nat.le_of_ble_eq_true rfl) rfl ?_
    refine xi_iload_n C 1 dX11_advance_61 rfl ?_
    refine xi_iconst C (v := (-1)) dX11_advance_62 rfl ?_
    refine xi_icmp_ne C (tgt := 74) dX11_advance_63 rfl (fun c12 => ?_) (fun c12 => ?_)
    · replace h := (if_neg c12).symm.trans h
      refine xi_iload_n C 1 dX11_advance_74 rfl ?_
      refine xi_bipush C (v := 97) dX11_advance_75 rfl ?_
      refine xi_bipush C (v := 122) dX11_advance_77 rfl ?_
      refine xi_callSr C (kX11_within l D cT u9 97 122 (fX11_within u9 97 122) rfl) zcX11_within zmX11_113 zsX11_within (zr rfl rfl) z00 rfl [] rfl rfl rfl (Nat.le_of_ble_eq_true rfl) dX11_advance_79 (fun z15 => ?_)
      refine xi_if_eq C (tgt := 142) dX11_advance_82 rfl (fun c16 => ?_) (fun c16 => ?_)
      · replace h := (if_pos c16).symm.trans h
        refine xi_iload_n C 1 dX11_advance_142 rfl ?_
        refine xi_bipush C (v := 48) dX11_advance_143 rfl ?_
        refine xi_bipush C (v := 57) dX11_advance_145 rfl ?_
        refine xi_callSr C (kX11_within l D cT u9 48 57 (fX11_within u9 48 57) rfl) zcX11_within zmX11_113 zsX11_within (zr rfl rfl) z00 rfl [] rfl rfl rfl (Nat.le_of_ble_eq_true rfl) dX11_advance_147 (fun z19 => ?_)
        refine xi_if_eq C (tgt := 252) dX11_advance_150 rfl (fun c20 => ?_) (fun c20 => ?_)
        · replace h := (if_pos c20).symm.trans h
          refine xi_aload_n C 0 dX11_advance_252 rfl ?_
          refine xi_dup C dX11_advance_253 rfl ?_
          refine xi_get C zkX11 13 0 zlX11_97 (by decide) rfl rfl dX11_advance_254 ?_
          refine xi_iconst C (v := 1) dX11_advance_257 rfl ?_
          refine xi_iadd C dX11_advance_258 ?_
          refine xi_put C zkX11 13 0 zlX11_97 (by decide) rfl rfl rfl rfl (Nat.le_of_ble_eq_true rfl) dX11_advance_259 (ws2 := [(a_t, .inr (11, [.int t_thrown, .ref a_t_now, .ref a_t_told, .ref a_t_one, .ref a_t_other, .ref a_t_forth, .ref a_t_cost, .ref a_t_broken, .ref a_t_away, .ref a_t_text, .int t_length, .int t_textSize, .int t_next, .int (t_next + 1), .int t_token, .int 0, .int t_error, .int t_errorAt, .int t_number, .int t_isFirst, .ref a_t_worth, .ref a_t_choice, .ref a_t_thought, .ref a_t_before, .ref a_t_deep, .int t_limitNow, .ref a_t_price, .int t_undos, .ref a_t_undo, .ref a_t_slots, .ref a_t_isSaved])), (a_t_text, .inl (cT 2, 500, .inl t_text))]) rfl ?_
          refine xi_aload_n C 0 dX11_advance_262 rfl ?_
          refine xi_iload_n C 1 dX11_advance_263 rfl ?_
          refine xi_bipush C (v := 59) dX11_advance_264 rfl ?_
          refine xi_icmp_ne C (tgt := 273) dX11_advance_266 rfl (fun c21 => ?_) (fun c21 => ?_)
          · replace h := (if_neg c21).symm.trans h
            refine xi_iconst C (v := 4) dX11_advance_273 rfl ?_
            refine xi_drop (L2 := []) [] rfl ?_
            exact B274 4 t_next (t_next + 1) t_token 0 h
          · replace h := (if_pos c21).symm.trans h
            refine xi_iconst C (v := 3) dX11_advance_269 rfl ?_
            refine xi_goto C (tgt := 274) dX11_advance_270 rfl ?_
            refine xi_drop (L2 := []) [] rfl ?_
            exact B274 3 t_next (t_next + 1) t_token 0 h
        · replace h := (if_neg c20).symm.trans h
          refine xi_drop (L2 := [(0, .ref a_t)]) [0] rfl ?_
          exact B153 FU t_next t_next t_token 0 h
      · replace h := (if_neg c16).symm.trans h
        refine xi_drop (L2 := [(0, .ref a_t)]) [0] rfl ?_
        exact B85 FU t_next t_next t_token 0 h
    · replace h := (if_pos c12).symm.trans h
      refine xi_aload_n C 0 dX11_advance_66 rfl ?_
      refine xi_iconst C (v := 0) dX11_advance_67 rfl ?_
      refine xi_put C zkX11 14 0 zlX11_110 (by decide) rfl rfl rfl rfl (Nat.le_of_ble_eq_true rfl) dX11_advance_68 (ws2 := [(a_t, .inr (11, [.int t_thrown, .ref a_t_now, .ref a_t_told, .ref a_t_one, .ref a_t_other, .ref a_t_forth, .ref a_t_cost, .ref a_t_broken, .ref a_t_away, .ref a_t_text, .int t_length, .int t_textSize, .int t_next, .int t_next, .int 0, .int 0, .int t_error, .int t_errorAt, .int t_number, .int t_isFirst, .ref a_t_worth, .ref a_t_choice, .ref a_t_thought, .ref a_t_before, .ref a_t_deep, .int t_limitNow, .ref a_t_price, .int t_undos, .ref a_t_undo, .ref a_t_slots, .ref a_t_isSaved])), (a_t_text, .inl (cT 2, 500, .inl t_text))]) rfl ?_
      refine xi_goto C (tgt := 277) dX11_advance_71 rfl ?_
      obtain rfl := Option.some.inj h
      exact hE _ _ dX11_advance_277 rfl
  have B0 : ∀ (n : Nat) (t_start : Int32) (t_next : Int32) (t_token : Int32) (t_value : Int32), fX11_advance_b0 t_textSize t_text n t_start t_next t_token t_value = some r → sW X l (zR 2) D 2 0 0 0 [(0, .ref a_t)] [] [(a_t, .inr (11, [.int t_thrown, .ref a_t_now, .ref a_t_told, .ref a_t_one, .ref a_t_other, .ref a_t_forth, .ref a_t_cost, .ref a_t_broken, .ref a_t_away, .ref a_t_text, .int t_length, .int t_textSize, .int t_start, .int t_next, .int t_token, .int t_value, .int t_error, .int t_errorAt, .int t_number, .int t_isFirst, .ref a_t_worth, .ref a_t_choice, .ref a_t_thought, .ref a_t_before, .ref a_t_deep, .int t_limitNow, .ref a_t_price, .int t_undos, .ref a_t_undo, .ref a_t_slots, .ref a_t_isSaved])), (a_t_text, .inl (cT 2, 500, .inl t_text))] := by
    intro n
    induction n with
    | zero =>
      intro t_start t_next t_token t_value h
      exact zno ((fX11_advance_b0_0 _ _ _ _ _ _).symm.trans h)
    | succ n ih =>
      intro t_start t_next t_token t_value h
      replace h := (fX11_advance_b0_s _ _ _ _ _ _ _).symm.trans h
      refine xi_aload_n C 0 dX11_advance_0 rfl ?_
      refine xi_aload_n C 0 dX11_advance_1 rfl ?_
      refine xi_get C zkX11 13 0 zlX11_97 (by decide) rfl rfl dX11_advance_2 ?_
      replace h := ob h
      obtain ⟨u1, hu2, h⟩ := h
      refine xi_callVr C (kX11_byteAt l D cT a_t a_t_now a_t_told a_t_one a_t_other a_t_forth a_t_cost a_t_broken a_t_away a_t_text a_t_worth a_t_choice a_t_thought a_t_before a_t_deep a_t_price a_t_undo a_t_slots a_t_isSaved t_thrown t_length t_textSize t_start t_next t_token t_value t_error t_errorAt t_number t_isFirst t_limitNow t_undos t_text t_next u1 hu2) zcX11_byteAt zmX11_100 ziX11_byteAt (zr rfl rfl) z00 rfl [0, 1] rfl rfl zkX11.1 (qr := 0) rfl rfl (Nat.le_of_ble_eq_true rfl) dX11_advance_5 (fun z3 => ?_)
      refine xi_bipush C (v := 32) dX11_advance_8 rfl ?_
      refine xi_icmp_eq C (tgt := 26) dX11_advance_10 rfl (fun c4 => ?_) (fun c4 => ?_)
      · replace h := (if_pos c4).symm.trans h
        exact B26 (fX11_advance_b0 t_textSize t_text n) ih t_start t_next t_token t_value h
      · replace h := (if_neg c4).symm.trans h
        refine xi_aload_n C 0 dX11_advance_13 rfl ?_
        refine xi_aload_n C 0 dX11_advance_14 rfl ?_
        refine xi_get C zkX11 13 0 zlX11_97 (by decide) rfl rfl dX11_advance_15 ?_
        replace h := ob h
        obtain ⟨u5, hu6, h⟩ := h
        refine xi_callVr C (kX11_byteAt l D cT a_t a_t_now a_t_told a_t_one a_t_other a_t_forth a_t_cost a_t_broken a_t_away a_t_text a_t_worth a_t_choice a_t_thought a_t_before a_t_deep a_t_price a_t_undo a_t_slots a_t_isSaved t_thrown t_length t_textSize t_start t_next t_token t_value t_error t_errorAt t_number t_isFirst t_limitNow t_undos t_text t_next u5 hu6) zcX11_byteAt zmX11_100 ziX11_byteAt (zr rfl rfl) z00 rfl [0, 1] rfl rfl zkX11.1 (qr := 0) rfl rfl (Nat.le_of_ble_eq_true rfl) dX11_advance_18 (fun z7 => ?_)
        refine xi_bipush C (v := 10) dX11_advance_21 rfl ?_
        refine xi_icmp_ne C (tgt := 39) dX11_advance_23 rfl (fun c8 => ?_) (fun c8 => ?_)
        · replace h := (if_neg c8).symm.trans h
          exact B39 t_start t_next t_token t_value h
        · replace h := (if_pos c8).symm.trans h
          exact B26 (fX11_advance_b0 t_textSize t_text n) ih t_start t_next t_token t_value h
  refine xi_drop (L2 := [(0, .ref a_t)]) [0] rfl ?_
  exact B0 FU t_start t_next t_token t_value h
def fX11_fails (t_start : Int32) (t_error : Int32) (t_errorAt : Int32) (x1 : Int32) : Int32 × Int32 × Int32 := if t_error = 0 then (0, x1, t_start) else (0, t_error, t_errorAt)
set_option maxRecDepth 100000 in
set_option maxHeartbeats 4000000 in
theorem kX11_fails (l : Launch) (D : va_G) (cT : Nat → ClassId) (a_t : Nat) (a_t_now : Nat) (a_t_told : Nat) (a_t_one : Nat) (a_t_other : Nat) (a_t_forth : Nat) (a_t_cost : Nat) (a_t_broken : Nat) (a_t_away : Nat) (a_t_text : Nat) (a_t_worth : Nat) (a_t_choice : Nat) (a_t_thought : Nat) (a_t_before : Nat) (a_t_deep : Nat) (a_t_price : Nat) (a_t_undo : Nat) (a_t_slots : Nat) (a_t_isSaved : Nat) (t_thrown : Int32) (t_length : Int32) (t_textSize : Int32) (t_start : Int32) (t_next : Int32) (t_token : Int32) (t_value : Int32) (t_error : Int32) (t_errorAt : Int32) (t_number : Int32) (t_isFirst : Int32) (t_limitNow : Int32) (t_undos : Int32) (x1 : Int32) (r : Int32 × Int32 × Int32) (h : fX11_fails t_start t_error t_errorAt x1 = r) : sM l yX11_fails cX11_fails 2 (some .boolean) (zR 1) D cT [.ref a_t, .int x1] [(a_t, .inr (11, [.int t_thrown, .ref a_t_now, .ref a_t_told, .ref a_t_one, .ref a_t_other, .ref a_t_forth, .ref a_t_cost, .ref a_t_broken, .ref a_t_away, .ref a_t_text, .int t_length, .int t_textSize, .int t_start, .int t_next, .int t_token, .int t_value, .int t_error, .int t_errorAt, .int t_number, .int t_isFirst, .ref a_t_worth, .ref a_t_choice, .ref a_t_thought, .ref a_t_before, .ref a_t_deep, .int t_limitNow, .ref a_t_price, .int t_undos, .ref a_t_undo, .ref a_t_slots, .ref a_t_isSaved]))] (some (.int r.1)) [(a_t, .inr (11, [.int t_thrown, .ref a_t_now, .ref a_t_told, .ref a_t_one, .ref a_t_other, .ref a_t_forth, .ref a_t_cost, .ref a_t_broken, .ref a_t_away, .ref a_t_text, .int t_length, .int t_textSize, .int t_start, .int t_next, .int t_token, .int t_value, .int r.2.1, .int r.2.2, .int t_number, .int t_isFirst, .ref a_t_worth, .ref a_t_choice, .ref a_t_thought, .ref a_t_before, .ref a_t_deep, .int t_limitNow, .ref a_t_price, .int t_undos, .ref a_t_undo, .ref a_t_slots, .ref a_t_isSaved]))] := by
  refine sM_bool rfl (Nat.le_of_ble_eq_true rfl) ?_
  intro X C hE
  refine xi_drop (L2 := [(0, .ref a_t), (1, .int x1)]) [0, 1] rfl ?_
  refine xi_aload_n C 0 dX11_fails_0 rfl ?_
  refine xi_get C zkX11 16 0 zlX11_126 (by decide) rfl rfl dX11_fails_1 ?_
  refine xi_if_ne C (tgt := 20) dX11_fails_4 rfl (fun c1 => ?_) (fun c1 => ?_)
  · replace h := (if_neg c1).symm.trans h
    refine xi_iconst C (v := 0) dX11_fails_20 rfl ?_
    subst h
    exact hE _ _ _ dX11_fails_21 rfl rfl
  · replace h := (if_pos c1).symm.trans h
    refine xi_aload_n C 0 dX11_fails_7 rfl ?_
    refine xi_iload_n C 1 dX11_fails_8 rfl ?_
    refine xi_put C zkX11 16 0 zlX11_126 (by decide) rfl rfl rfl rfl (Nat.le_of_ble_eq_true rfl) dX11_fails_9 (ws2 := [(a_t, .inr (11, [.int t_thrown, .ref a_t_now, .ref a_t_told, .ref a_t_one, .ref a_t_other, .ref a_t_forth, .ref a_t_cost, .ref a_t_broken, .ref a_t_away, .ref a_t_text, .int t_length, .int t_textSize, .int t_start, .int t_next, .int t_token, .int t_value, .int x1, .int t_errorAt, .int t_number, .int t_isFirst, .ref a_t_worth, .ref a_t_choice, .ref a_t_thought, .ref a_t_before, .ref a_t_deep, .int t_limitNow, .ref a_t_price, .int t_undos, .ref a_t_undo, .ref a_t_slots, .ref a_t_isSaved]))]) rfl ?_
    refine xi_aload_n C 0 dX11_fails_12 rfl ?_
    refine xi_aload_n C 0 dX11_fails_13 rfl ?_
    refine xi_get C zkX11 12 0 zlX11_104 (by decide) rfl rfl dX11_fails_14 ?_
    refine xi_put C zkX11 17 0 zlX11_38 (by decide) rfl rfl rfl rfl (Nat.le_of_ble_eq_true rfl) dX11_fails_17 (ws2 := [(a_t, .inr (11, [.int t_thrown, .ref a_t_now, .ref a_t_told, .ref a_t_one, .ref a_t_other, .ref a_t_forth, .ref a_t_cost, .ref a_t_broken, .ref a_t_away, .ref a_t_text, .int t_length, .int t_textSize, .int t_start, .int t_next, .int t_token, .int t_value, .int x1, .int t_start, .int t_number, .int t_isFirst, .ref a_t_worth, .ref a_t_choice, .ref a_t_thought, .ref a_t_before, .ref a_t_deep, .int t_limitNow, .ref a_t_price, .int t_undos, .ref a_t_undo, .ref a_t_slots, .ref a_t_isSaved]))]) rfl ?_
    refine xi_iconst C (v := 0) dX11_fails_20 rfl ?_
    subst h
    exact hE _ _ _ dX11_fails_21 rfl rfl
def fX11_takes (t_textSize : Int32) (t_start : Int32) (t_next : Int32) (t_token : Int32) (t_value : Int32) (t_error : Int32) (t_errorAt : Int32) (t_number : Int32) (t_text : Nat → Int32) (x1 : Int32) (x2 : Int32) : Option (Int32 × Int32 × Int32 × Int32 × Int32 × Int32 × Int32 × Int32) := if t_token = 2 then if (fX11_within t_value x1 x2) = 0 then nm (fX11_fails t_start t_error t_errorAt 3) (fun u9 => some (u9.1, t_start, t_next, t_token, t_value, u9.2.1, u9.2.2, t_number)) else (fX11_advance t_textSize t_start t_next t_token t_value t_text).bind (fun u6 => some (1, u6.1, u6.2.1, u6.2.2.1, u6.2.2.2, t_error, t_errorAt, t_value)) else nm (fX11_fails t_start t_error t_errorAt 1) (fun u12 => some (u12.1, t_start, t_next, t_token, t_value, u12.2.1, u12.2.2, t_number))
set_option maxRecDepth 100000 in
set_option maxHeartbeats 4000000 in
theorem kX11_takes (l : Launch) (D : va_G) (cT : Nat → ClassId) (a_t : Nat) (a_t_now : Nat) (a_t_told : Nat) (a_t_one : Nat) (a_t_other : Nat) (a_t_forth : Nat) (a_t_cost : Nat) (a_t_broken : Nat) (a_t_away : Nat) (a_t_text : Nat) (a_t_worth : Nat) (a_t_choice : Nat) (a_t_thought : Nat) (a_t_before : Nat) (a_t_deep : Nat) (a_t_price : Nat) (a_t_undo : Nat) (a_t_slots : Nat) (a_t_isSaved : Nat) (t_thrown : Int32) (t_length : Int32) (t_textSize : Int32) (t_start : Int32) (t_next : Int32) (t_token : Int32) (t_value : Int32) (t_error : Int32) (t_errorAt : Int32) (t_number : Int32) (t_isFirst : Int32) (t_limitNow : Int32) (t_undos : Int32) (t_text : Nat → Int32) (x1 : Int32) (x2 : Int32) (r : Int32 × Int32 × Int32 × Int32 × Int32 × Int32 × Int32 × Int32) (h : fX11_takes t_textSize t_start t_next t_token t_value t_error t_errorAt t_number t_text x1 x2 = some r) : sM l yX11_takes cX11_takes 3 (some .boolean) (zR 3) D cT [.ref a_t, .int x1, .int x2] [(a_t, .inr (11, [.int t_thrown, .ref a_t_now, .ref a_t_told, .ref a_t_one, .ref a_t_other, .ref a_t_forth, .ref a_t_cost, .ref a_t_broken, .ref a_t_away, .ref a_t_text, .int t_length, .int t_textSize, .int t_start, .int t_next, .int t_token, .int t_value, .int t_error, .int t_errorAt, .int t_number, .int t_isFirst, .ref a_t_worth, .ref a_t_choice, .ref a_t_thought, .ref a_t_before, .ref a_t_deep, .int t_limitNow, .ref a_t_price, .int t_undos, .ref a_t_undo, .ref a_t_slots, .ref a_t_isSaved])), (a_t_text, .inl (cT 2, 500, .inl t_text))] (some (.int r.1)) [(a_t, .inr (11, [.int t_thrown, .ref a_t_now, .ref a_t_told, .ref a_t_one, .ref a_t_other, .ref a_t_forth, .ref a_t_cost, .ref a_t_broken, .ref a_t_away, .ref a_t_text, .int t_length, .int t_textSize, .int r.2.1, .int r.2.2.1, .int r.2.2.2.1, .int r.2.2.2.2.1, .int r.2.2.2.2.2.1, .int r.2.2.2.2.2.2.1, .int r.2.2.2.2.2.2.2, .int t_isFirst, .ref a_t_worth, .ref a_t_choice, .ref a_t_thought, .ref a_t_before, .ref a_t_deep, .int t_limitNow, .ref a_t_price, .int t_undos, .ref a_t_undo, .ref a_t_slots, .ref a_t_isSaved])), (a_t_text, .inl (cT 2, 500, .inl t_text))] := by
  refine sM_bool rfl (Nat.le_of_ble_eq_true rfl) ?_
  intro X C hE
  refine xi_drop (L2 := [(0, .ref a_t), (1, .int x1), (2, .int x2)]) [0, 1, 2] rfl ?_
  refine xi_aload_n C 0 dX11_takes_0 rfl ?_
  refine xi_get C zkX11 14 0 zlX11_110 (by decide) rfl rfl dX11_takes_1 ?_
  refine xi_iconst C (v := 2) dX11_takes_4 rfl ?_
  refine xi_icmp_eq C (tgt := 14) dX11_takes_5 rfl (fun c1 => ?_) (fun c1 => ?_)
  · replace h := (if_pos c1).symm.trans h
    refine xi_aload_n C 0 dX11_takes_14 rfl ?_
    refine xi_get C zkX11 15 0 zlX11_107 (by decide) rfl rfl dX11_takes_15 ?_
    refine xi_iload_n C 1 dX11_takes_18 rfl ?_
    refine xi_iload_n C 2 dX11_takes_19 rfl ?_
    refine xi_callSr C (kX11_within l D cT t_value x1 x2 (fX11_within t_value x1 x2) rfl) zcX11_within zmX11_113 zsX11_within (zr rfl rfl) z00 rfl [] rfl rfl rfl (Nat.le_of_ble_eq_true rfl) dX11_takes_20 (fun z4 => ?_)
    refine xi_if_ne C (tgt := 32) dX11_takes_23 rfl (fun c5 => ?_) (fun c5 => ?_)
    · replace h := (if_neg c5).symm.trans h
      refine xi_aload_n C 0 dX11_takes_32 rfl ?_
      refine xi_aload_n C 0 dX11_takes_33 rfl ?_
      refine xi_get C zkX11 15 0 zlX11_107 (by decide) rfl rfl dX11_takes_34 ?_
      refine xi_put C zkX11 18 0 zlX11_133 (by decide) rfl rfl rfl rfl (Nat.le_of_ble_eq_true rfl) dX11_takes_37 (ws2 := [(a_t, .inr (11, [.int t_thrown, .ref a_t_now, .ref a_t_told, .ref a_t_one, .ref a_t_other, .ref a_t_forth, .ref a_t_cost, .ref a_t_broken, .ref a_t_away, .ref a_t_text, .int t_length, .int t_textSize, .int t_start, .int t_next, .int t_token, .int t_value, .int t_error, .int t_errorAt, .int t_value, .int t_isFirst, .ref a_t_worth, .ref a_t_choice, .ref a_t_thought, .ref a_t_before, .ref a_t_deep, .int t_limitNow, .ref a_t_price, .int t_undos, .ref a_t_undo, .ref a_t_slots, .ref a_t_isSaved])), (a_t_text, .inl (cT 2, 500, .inl t_text))]) rfl ?_
      refine xi_aload_n C 0 dX11_takes_40 rfl ?_
      replace h := ob h
      obtain ⟨u6, hu7, h⟩ := h
      refine xi_callV C (kX11_advance l D cT a_t a_t_now a_t_told a_t_one a_t_other a_t_forth a_t_cost a_t_broken a_t_away a_t_text a_t_worth a_t_choice a_t_thought a_t_before a_t_deep a_t_price a_t_undo a_t_slots a_t_isSaved t_thrown t_length t_textSize t_start t_next t_token t_value t_error t_errorAt t_value t_isFirst t_limitNow t_undos t_text u6 hu7) zcX11_advance zmX11_136 ziX11_advance (zr rfl rfl) z00 rfl [0, 1] rfl rfl rfl [some 0, some 1] (by decide +kernel) (ws2 := [(a_t, .inr (11, [.int t_thrown, .ref a_t_now, .ref a_t_told, .ref a_t_one, .ref a_t_other, .ref a_t_forth, .ref a_t_cost, .ref a_t_broken, .ref a_t_away, .ref a_t_text, .int t_length, .int t_textSize, .int u6.1, .int u6.2.1, .int u6.2.2.1, .int u6.2.2.2, .int t_error, .int t_errorAt, .int t_value, .int t_isFirst, .ref a_t_worth, .ref a_t_choice, .ref a_t_thought, .ref a_t_before, .ref a_t_deep, .int t_limitNow, .ref a_t_price, .int t_undos, .ref a_t_undo, .ref a_t_slots, .ref a_t_isSaved])), (a_t_text, .inl (cT 2, 500, .inl t_text))]) rfl zkX11.1 (qr := 0) rfl rfl (Nat.le_of_ble_eq_true rfl) dX11_takes_41 (fun z8 => ?_)
      refine xi_iconst C (v := 1) dX11_takes_44 rfl ?_
      obtain rfl := Option.some.inj h
      exact hE _ _ _ dX11_takes_45 rfl rfl
    · replace h := (if_pos c5).symm.trans h
      refine xi_aload_n C 0 dX11_takes_26 rfl ?_
      refine xi_iconst C (v := 3) dX11_takes_27 rfl ?_
      obtain ⟨u9, hu10⟩ : ∃ z, z = fX11_fails t_start t_error t_errorAt 3 := ⟨_, rfl⟩
      replace h := nmE hu10 h
      refine xi_callV C (kX11_fails l D cT a_t a_t_now a_t_told a_t_one a_t_other a_t_forth a_t_cost a_t_broken a_t_away a_t_text a_t_worth a_t_choice a_t_thought a_t_before a_t_deep a_t_price a_t_undo a_t_slots a_t_isSaved t_thrown t_length t_textSize t_start t_next t_token t_value t_error t_errorAt t_number t_isFirst t_limitNow t_undos 3 u9 hu10.symm) zcX11_fails zmX11_129 ziX11_fails (zr rfl rfl) z00 rfl [0] rfl rfl rfl [some 0, none] (by decide +kernel) (ws2 := [(a_t, .inr (11, [.int t_thrown, .ref a_t_now, .ref a_t_told, .ref a_t_one, .ref a_t_other, .ref a_t_forth, .ref a_t_cost, .ref a_t_broken, .ref a_t_away, .ref a_t_text, .int t_length, .int t_textSize, .int t_start, .int t_next, .int t_token, .int t_value, .int u9.2.1, .int u9.2.2, .int t_number, .int t_isFirst, .ref a_t_worth, .ref a_t_choice, .ref a_t_thought, .ref a_t_before, .ref a_t_deep, .int t_limitNow, .ref a_t_price, .int t_undos, .ref a_t_undo, .ref a_t_slots, .ref a_t_isSaved])), (a_t_text, .inl (cT 2, 500, .inl t_text))]) rfl zkX11.1 (qr := 0) rfl rfl (Nat.le_of_ble_eq_true rfl) dX11_takes_28 (fun z11 => ?_)
      obtain rfl := Option.some.inj h
      exact hE _ _ _ dX11_takes_31 rfl (z11 _ rfl _ rfl)
  · replace h := (if_neg c1).symm.trans h
    refine xi_aload_n C 0 dX11_takes_8 rfl ?_
    refine xi_iconst C (v := 1) dX11_takes_9 rfl ?_
    obtain ⟨u12, hu13⟩ : ∃ z, z = fX11_fails t_start t_error t_errorAt 1 := ⟨_, rfl⟩
    replace h := nmE hu13 h
    refine xi_callV C (kX11_fails l D cT a_t a_t_now a_t_told a_t_one a_t_other a_t_forth a_t_cost a_t_broken a_t_away a_t_text a_t_worth a_t_choice a_t_thought a_t_before a_t_deep a_t_price a_t_undo a_t_slots a_t_isSaved t_thrown t_length t_textSize t_start t_next t_token t_value t_error t_errorAt t_number t_isFirst t_limitNow t_undos 1 u12 hu13.symm) zcX11_fails zmX11_129 ziX11_fails (zr rfl rfl) z00 rfl [0] rfl rfl rfl [some 0, none] (by decide +kernel) (ws2 := [(a_t, .inr (11, [.int t_thrown, .ref a_t_now, .ref a_t_told, .ref a_t_one, .ref a_t_other, .ref a_t_forth, .ref a_t_cost, .ref a_t_broken, .ref a_t_away, .ref a_t_text, .int t_length, .int t_textSize, .int t_start, .int t_next, .int t_token, .int t_value, .int u12.2.1, .int u12.2.2, .int t_number, .int t_isFirst, .ref a_t_worth, .ref a_t_choice, .ref a_t_thought, .ref a_t_before, .ref a_t_deep, .int t_limitNow, .ref a_t_price, .int t_undos, .ref a_t_undo, .ref a_t_slots, .ref a_t_isSaved])), (a_t_text, .inl (cT 2, 500, .inl t_text))]) rfl zkX11.1 (qr := 0) rfl rfl (Nat.le_of_ble_eq_true rfl) dX11_takes_10 (fun z14 => ?_)
    obtain rfl := Option.some.inj h
    exact hE _ _ _ dX11_takes_13 rfl (z14 _ rfl _ rfl)
def fX11_starts (t_textSize : Int32) (t_start : Int32) (t_next : Int32) (t_token : Int32) (t_value : Int32) (t_error : Int32) (t_errorAt : Int32) (t_text : Nat → Int32) (x1 : Int32) (x2 : Int32) : Option (Int32 × Int32 × Int32 × Int32 × Int32 × Int32 × Int32) := if x2 = 0 then nm (fX11_fails t_start t_error t_errorAt x1) (fun u5 => some (u5.1, t_start, t_next, t_token, t_value, u5.2.1, u5.2.2)) else (fX11_advance t_textSize t_start t_next t_token t_value t_text).bind (fun u2 => some (1, u2.1, u2.2.1, u2.2.2.1, u2.2.2.2, t_error, t_errorAt))
set_option maxRecDepth 100000 in
set_option maxHeartbeats 4000000 in
theorem kX11_starts (l : Launch) (D : va_G) (cT : Nat → ClassId) (a_t : Nat) (a_t_now : Nat) (a_t_told : Nat) (a_t_one : Nat) (a_t_other : Nat) (a_t_forth : Nat) (a_t_cost : Nat) (a_t_broken : Nat) (a_t_away : Nat) (a_t_text : Nat) (a_t_worth : Nat) (a_t_choice : Nat) (a_t_thought : Nat) (a_t_before : Nat) (a_t_deep : Nat) (a_t_price : Nat) (a_t_undo : Nat) (a_t_slots : Nat) (a_t_isSaved : Nat) (t_thrown : Int32) (t_length : Int32) (t_textSize : Int32) (t_start : Int32) (t_next : Int32) (t_token : Int32) (t_value : Int32) (t_error : Int32) (t_errorAt : Int32) (t_number : Int32) (t_isFirst : Int32) (t_limitNow : Int32) (t_undos : Int32) (t_text : Nat → Int32) (x1 : Int32) (x2 : Int32) (r : Int32 × Int32 × Int32 × Int32 × Int32 × Int32 × Int32) (h : fX11_starts t_textSize t_start t_next t_token t_value t_error t_errorAt t_text x1 x2 = some r) : sM l yX11_starts cX11_starts 3 (some .boolean) (zR 3) D cT [.ref a_t, .int x1, .int x2] [(a_t, .inr (11, [.int t_thrown, .ref a_t_now, .ref a_t_told, .ref a_t_one, .ref a_t_other, .ref a_t_forth, .ref a_t_cost, .ref a_t_broken, .ref a_t_away, .ref a_t_text, .int t_length, .int t_textSize, .int t_start, .int t_next, .int t_token, .int t_value, .int t_error, .int t_errorAt, .int t_number, .int t_isFirst, .ref a_t_worth, .ref a_t_choice, .ref a_t_thought, .ref a_t_before, .ref a_t_deep, .int t_limitNow, .ref a_t_price, .int t_undos, .ref a_t_undo, .ref a_t_slots, .ref a_t_isSaved])), (a_t_text, .inl (cT 2, 500, .inl t_text))] (some (.int r.1)) [(a_t, .inr (11, [.int t_thrown, .ref a_t_now, .ref a_t_told, .ref a_t_one, .ref a_t_other, .ref a_t_forth, .ref a_t_cost, .ref a_t_broken, .ref a_t_away, .ref a_t_text, .int t_length, .int t_textSize, .int r.2.1, .int r.2.2.1, .int r.2.2.2.1, .int r.2.2.2.2.1, .int r.2.2.2.2.2.1, .int r.2.2.2.2.2.2, .int t_number, .int t_isFirst, .ref a_t_worth, .ref a_t_choice, .ref a_t_thought, .ref a_t_before, .ref a_t_deep, .int t_limitNow, .ref a_t_price, .int t_undos, .ref a_t_undo, .ref a_t_slots, .ref a_t_isSaved])), (a_t_text, .inl (cT 2, 500, .inl t_text))] := by
  refine sM_bool rfl (Nat.le_of_ble_eq_true rfl) ?_
  intro X C hE
  refine xi_drop (L2 := [(0, .ref a_t), (1, .int x1), (2, .int x2)]) [0, 1, 2] rfl ?_
  refine xi_iload_n C 2 dX11_starts_0 rfl ?_
  refine xi_if_ne C (tgt := 10) dX11_starts_1 rfl (fun c1 => ?_) (fun c1 => ?_)
  · replace h := (if_neg c1).symm.trans h
    refine xi_aload_n C 0 dX11_starts_10 rfl ?_
    replace h := ob h
    obtain ⟨u2, hu3, h⟩ := h
    refine xi_callV C (kX11_advance l D cT a_t a_t_now a_t_told a_t_one a_t_other a_t_forth a_t_cost a_t_broken a_t_away a_t_text a_t_worth a_t_choice a_t_thought a_t_before a_t_deep a_t_price a_t_undo a_t_slots a_t_isSaved t_thrown t_length t_textSize t_start t_next t_token t_value t_error t_errorAt t_number t_isFirst t_limitNow t_undos t_text u2 hu3) zcX11_advance zmX11_136 ziX11_advance (zr rfl rfl) z00 rfl [0, 1] rfl rfl rfl [some 0, some 1] (by decide +kernel) (ws2 := [(a_t, .inr (11, [.int t_thrown, .ref a_t_now, .ref a_t_told, .ref a_t_one, .ref a_t_other, .ref a_t_forth, .ref a_t_cost, .ref a_t_broken, .ref a_t_away, .ref a_t_text, .int t_length, .int t_textSize, .int u2.1, .int u2.2.1, .int u2.2.2.1, .int u2.2.2.2, .int t_error, .int t_errorAt, .int t_number, .int t_isFirst, .ref a_t_worth, .ref a_t_choice, .ref a_t_thought, .ref a_t_before, .ref a_t_deep, .int t_limitNow, .ref a_t_price, .int t_undos, .ref a_t_undo, .ref a_t_slots, .ref a_t_isSaved])), (a_t_text, .inl (cT 2, 500, .inl t_text))]) rfl zkX11.1 (qr := 0) rfl rfl (Nat.le_of_ble_eq_true rfl) dX11_starts_11 (fun z4 => ?_)
    refine xi_iconst C (v := 1) dX11_starts_14 rfl ?_
    obtain rfl := Option.some.inj h
    exact hE _ _ _ dX11_starts_15 rfl rfl
  · replace h := (if_pos c1).symm.trans h
    refine xi_aload_n C 0 dX11_starts_4 rfl ?_
    refine xi_iload_n C 1 dX11_starts_5 rfl ?_
    obtain ⟨u5, hu6⟩ : ∃ z, z = fX11_fails t_start t_error t_errorAt x1 := ⟨_, rfl⟩
    replace h := nmE hu6 h
    refine xi_callV C (kX11_fails l D cT a_t a_t_now a_t_told a_t_one a_t_other a_t_forth a_t_cost a_t_broken a_t_away a_t_text a_t_worth a_t_choice a_t_thought a_t_before a_t_deep a_t_price a_t_undo a_t_slots a_t_isSaved t_thrown t_length t_textSize t_start t_next t_token t_value t_error t_errorAt t_number t_isFirst t_limitNow t_undos x1 u5 hu6.symm) zcX11_fails zmX11_129 ziX11_fails (zr rfl rfl) z00 rfl [0] rfl rfl rfl [some 0, none] (by decide +kernel) (ws2 := [(a_t, .inr (11, [.int t_thrown, .ref a_t_now, .ref a_t_told, .ref a_t_one, .ref a_t_other, .ref a_t_forth, .ref a_t_cost, .ref a_t_broken, .ref a_t_away, .ref a_t_text, .int t_length, .int t_textSize, .int t_start, .int t_next, .int t_token, .int t_value, .int u5.2.1, .int u5.2.2, .int t_number, .int t_isFirst, .ref a_t_worth, .ref a_t_choice, .ref a_t_thought, .ref a_t_before, .ref a_t_deep, .int t_limitNow, .ref a_t_price, .int t_undos, .ref a_t_undo, .ref a_t_slots, .ref a_t_isSaved])), (a_t_text, .inl (cT 2, 500, .inl t_text))]) rfl zkX11.1 (qr := 0) rfl rfl (Nat.le_of_ble_eq_true rfl) dX11_starts_6 (fun z7 => ?_)
    obtain rfl := Option.some.inj h
    exact hE _ _ _ dX11_starts_9 rfl (z7 _ rfl _ rfl)
def fX11_puts (N_p1 : Nat) (t_textSize : Int32) (t_start : Int32) (t_next : Int32) (t_token : Int32) (t_value : Int32) (t_error : Int32) (t_errorAt : Int32) (t_number : Int32) (t_text : Nat → Int32) (p1 : Nat → Int32) (x2 : Int32) (x3 : Int32) (x4 : Int32) : Option (Int32 × Int32 × Int32 × Int32 × Int32 × Int32 × Int32 × Int32 × (Nat → Int32)) := (fX11_takes t_textSize t_start t_next t_token t_value t_error t_errorAt t_number t_text x3 x4).bind (fun u1 => if u1.1 = 0 then some (0, u1.2.1, u1.2.2.1, u1.2.2.2.1, u1.2.2.2.2.1, u1.2.2.2.2.2.1, u1.2.2.2.2.2.2.1, u1.2.2.2.2.2.2.2, p1) else gd (((nI N_p1) / 2) + x2) N_p1 (some (1, u1.2.1, u1.2.2.1, u1.2.2.2.1, u1.2.2.2.2.1, u1.2.2.2.2.2.1, u1.2.2.2.2.2.2.1, u1.2.2.2.2.2.2.2, upd p1 (((nI N_p1) / 2) + x2).toNatClampNeg u1.2.2.2.2.2.2.2)))
set_option maxRecDepth 100000 in
set_option maxHeartbeats 4000000 in
theorem kX11_puts (l : Launch) (D : va_G) (cT : Nat → ClassId) (a_t : Nat) (a_t_now : Nat) (a_t_told : Nat) (a_t_one : Nat) (a_t_other : Nat) (a_t_forth : Nat) (a_t_cost : Nat) (a_t_broken : Nat) (a_t_away : Nat) (a_t_text : Nat) (a_t_worth : Nat) (a_t_choice : Nat) (a_t_thought : Nat) (a_t_before : Nat) (a_t_deep : Nat) (a_t_price : Nat) (a_t_undo : Nat) (a_t_slots : Nat) (a_t_isSaved : Nat) (a_p1 : Nat) (N_p1 : Nat) (t_thrown : Int32) (t_length : Int32) (t_textSize : Int32) (t_start : Int32) (t_next : Int32) (t_token : Int32) (t_value : Int32) (t_error : Int32) (t_errorAt : Int32) (t_number : Int32) (t_isFirst : Int32) (t_limitNow : Int32) (t_undos : Int32) (t_text : Nat → Int32) (p1 : Nat → Int32) (x2 : Int32) (x3 : Int32) (x4 : Int32) (r : Int32 × Int32 × Int32 × Int32 × Int32 × Int32 × Int32 × Int32 × (Nat → Int32)) (h : fX11_puts N_p1 t_textSize t_start t_next t_token t_value t_error t_errorAt t_number t_text p1 x2 x3 x4 = some r) : sM l yX11_puts cX11_puts 5 (some .boolean) (zR 4) D cT [.ref a_t, .ref a_p1, .int x2, .int x3, .int x4] [(a_t, .inr (11, [.int t_thrown, .ref a_t_now, .ref a_t_told, .ref a_t_one, .ref a_t_other, .ref a_t_forth, .ref a_t_cost, .ref a_t_broken, .ref a_t_away, .ref a_t_text, .int t_length, .int t_textSize, .int t_start, .int t_next, .int t_token, .int t_value, .int t_error, .int t_errorAt, .int t_number, .int t_isFirst, .ref a_t_worth, .ref a_t_choice, .ref a_t_thought, .ref a_t_before, .ref a_t_deep, .int t_limitNow, .ref a_t_price, .int t_undos, .ref a_t_undo, .ref a_t_slots, .ref a_t_isSaved])), (a_t_text, .inl (cT 2, 500, .inl t_text)), (a_p1, .inl (cT 0, N_p1, .inl p1))] (some (.int r.1)) [(a_t, .inr (11, [.int t_thrown, .ref a_t_now, .ref a_t_told, .ref a_t_one, .ref a_t_other, .ref a_t_forth, .ref a_t_cost, .ref a_t_broken, .ref a_t_away, .ref a_t_text, .int t_length, .int t_textSize, .int r.2.1, .int r.2.2.1, .int r.2.2.2.1, .int r.2.2.2.2.1, .int r.2.2.2.2.2.1, .int r.2.2.2.2.2.2.1, .int r.2.2.2.2.2.2.2.1, .int t_isFirst, .ref a_t_worth, .ref a_t_choice, .ref a_t_thought, .ref a_t_before, .ref a_t_deep, .int t_limitNow, .ref a_t_price, .int t_undos, .ref a_t_undo, .ref a_t_slots, .ref a_t_isSaved])), (a_t_text, .inl (cT 2, 500, .inl t_text)), (a_p1, .inl (cT 0, N_p1, .inl r.2.2.2.2.2.2.2.2))] := by
  refine sM_bool rfl (Nat.le_of_ble_eq_true rfl) ?_
  intro X C hE
  refine xi_drop (L2 := [(0, .ref a_t), (1, .ref a_p1), (2, .int x2), (3, .int x3), (4, .int x4)]) [0, 1, 2, 3, 4] rfl ?_
  refine xi_aload_n C 0 dX11_puts_0 rfl ?_
  refine xi_iload_n C 3 dX11_puts_1 rfl ?_
  refine xi_iload C 4 dX11_puts_2 rfl ?_
  replace h := ob h
  obtain ⟨u1, hu2, h⟩ := h
  refine xi_callV C (kX11_takes l D cT a_t a_t_now a_t_told a_t_one a_t_other a_t_forth a_t_cost a_t_broken a_t_away a_t_text a_t_worth a_t_choice a_t_thought a_t_before a_t_deep a_t_price a_t_undo a_t_slots a_t_isSaved t_thrown t_length t_textSize t_start t_next t_token t_value t_error t_errorAt t_number t_isFirst t_limitNow t_undos t_text x3 x4 u1 hu2) zcX11_takes zmX11_139 ziX11_takes (zr rfl rfl) z00 rfl [0, 1] rfl rfl rfl [some 0, some 1, none] (by decide +kernel) (ws2 := [(a_t, .inr (11, [.int t_thrown, .ref a_t_now, .ref a_t_told, .ref a_t_one, .ref a_t_other, .ref a_t_forth, .ref a_t_cost, .ref a_t_broken, .ref a_t_away, .ref a_t_text, .int t_length, .int t_textSize, .int u1.2.1, .int u1.2.2.1, .int u1.2.2.2.1, .int u1.2.2.2.2.1, .int u1.2.2.2.2.2.1, .int u1.2.2.2.2.2.2.1, .int u1.2.2.2.2.2.2.2, .int t_isFirst, .ref a_t_worth, .ref a_t_choice, .ref a_t_thought, .ref a_t_before, .ref a_t_deep, .int t_limitNow, .ref a_t_price, .int t_undos, .ref a_t_undo, .ref a_t_slots, .ref a_t_isSaved])), (a_t_text, .inl (cT 2, 500, .inl t_text)), (a_p1, .inl (cT 0, N_p1, .inl p1))]) rfl zkX11.1 (qr := 0) rfl rfl (Nat.le_of_ble_eq_true rfl) dX11_puts_4 (fun z3 => ?_)
  refine xi_if_ne C (tgt := 12) dX11_puts_7 rfl (fun c4 => ?_) (fun c4 => ?_)
  · replace h := (if_neg c4).symm.trans h
    refine xi_aload_n C 1 dX11_puts_12 rfl ?_
    refine xi_aload_n C 1 dX11_puts_13 rfl ?_
    refine xi_alen C (v := nI N_p1) 2 0 rfl rfl rfl dX11_puts_14 ?_
    refine xi_iconst C (v := 2) dX11_puts_15 rfl ?_
    refine xi_idiv C dX11_puts_16 (by decide) ?_
    refine xi_iload_n C 2 dX11_puts_17 rfl ?_
    refine xi_iadd C dX11_puts_18 ?_
    refine xi_aload_n C 0 dX11_puts_19 rfl ?_
    refine xi_get C zkX11 18 0 zlX11_133 (by decide) rfl rfl dX11_puts_20 ?_
    replace h := ig h
    obtain ⟨c5, h⟩ := h
    refine xi_iast C 2 rfl c5 dX11_puts_23 (ws2 := [(a_t, .inr (11, [.int t_thrown, .ref a_t_now, .ref a_t_told, .ref a_t_one, .ref a_t_other, .ref a_t_forth, .ref a_t_cost, .ref a_t_broken, .ref a_t_away, .ref a_t_text, .int t_length, .int t_textSize, .int u1.2.1, .int u1.2.2.1, .int u1.2.2.2.1, .int u1.2.2.2.2.1, .int u1.2.2.2.2.2.1, .int u1.2.2.2.2.2.2.1, .int u1.2.2.2.2.2.2.2, .int t_isFirst, .ref a_t_worth, .ref a_t_choice, .ref a_t_thought, .ref a_t_before, .ref a_t_deep, .int t_limitNow, .ref a_t_price, .int t_undos, .ref a_t_undo, .ref a_t_slots, .ref a_t_isSaved])), (a_t_text, .inl (cT 2, 500, .inl t_text)), (a_p1, .inl (cT 0, N_p1, .inl (upd p1 (((nI N_p1) / 2) + x2).toNatClampNeg u1.2.2.2.2.2.2.2)))]) rfl ?_
    refine xi_iconst C (v := 1) dX11_puts_24 rfl ?_
    obtain rfl := Option.some.inj h
    exact hE _ _ _ dX11_puts_25 rfl rfl
  · replace h := (if_pos c4).symm.trans h
    refine xi_iconst C (v := 0) dX11_puts_10 rfl ?_
    obtain rfl := Option.some.inj h
    exact hE _ _ _ dX11_puts_11 rfl rfl
def fX11_span_b24 (N_p1 : Nat) (t_textSize : Int32) (t_text : Nat → Int32) (x2 : Int32) (x3 : Int32) (y4 : Int32) (s0 : Int32) (s1 : Int32) (t_start : Int32) (t_next : Int32) (t_token : Int32) (t_value : Int32) (t_error : Int32) (t_errorAt : Int32) (t_number : Int32) (t_told : Nat → Int32) (p1 : Nat → Int32) : Option (Int32 × Int32 × Int32 × Int32 × Int32 × Int32 × Int32 × Int32 × (Nat → Int32) × (Nat → Int32)) := (fX11_starts t_textSize t_start t_next t_token t_value t_error t_errorAt t_text s1 s0).bind (fun u3 => if u3.1 = 0 then some (0, u3.2.1, u3.2.2.1, u3.2.2.2.1, u3.2.2.2.2.1, u3.2.2.2.2.2.1, u3.2.2.2.2.2.2, t_number, t_told, p1) else (fX11_puts N_p1 t_textSize u3.2.1 u3.2.2.1 u3.2.2.2.1 u3.2.2.2.2.1 u3.2.2.2.2.2.1 u3.2.2.2.2.2.2 t_number t_text p1 (3 * y4) 0 (x3 - 1)).bind (fun u7 => if u7.1 = 0 then some (0, u7.2.1, u7.2.2.1, u7.2.2.2.1, u7.2.2.2.2.1, u7.2.2.2.2.2.1, u7.2.2.2.2.2.2.1, u7.2.2.2.2.2.2.2.1, t_told, u7.2.2.2.2.2.2.2.2) else (fX11_puts N_p1 t_textSize u7.2.1 u7.2.2.1 u7.2.2.2.1 u7.2.2.2.2.1 u7.2.2.2.2.2.1 u7.2.2.2.2.2.2.1 u7.2.2.2.2.2.2.2.1 t_text u7.2.2.2.2.2.2.2.2 ((3 * y4) + 1) 1 999).bind (fun u11 => if u11.1 = 0 then some (0, u11.2.1, u11.2.2.1, u11.2.2.2.1, u11.2.2.2.2.1, u11.2.2.2.2.2.1, u11.2.2.2.2.2.2.1, u11.2.2.2.2.2.2.2.1, t_told, u11.2.2.2.2.2.2.2.2) else (fX11_puts N_p1 t_textSize u11.2.1 u11.2.2.1 u11.2.2.2.1 u11.2.2.2.2.1 u11.2.2.2.2.2.1 u11.2.2.2.2.2.2.1 u11.2.2.2.2.2.2.2.1 t_text u11.2.2.2.2.2.2.2.2 ((3 * y4) + 2) u11.2.2.2.2.2.2.2.1 999).bind (fun u15 => if u15.1 = 0 then some (0, u15.2.1, u15.2.2.1, u15.2.2.2.1, u15.2.2.2.2.1, u15.2.2.2.2.2.1, u15.2.2.2.2.2.2.1, u15.2.2.2.2.2.2.2.1, t_told, u15.2.2.2.2.2.2.2.2) else gd (4 + x2) 8 (some (1, u15.2.1, u15.2.2.1, u15.2.2.2.1, u15.2.2.2.2.1, u15.2.2.2.2.2.1, u15.2.2.2.2.2.2.1, u15.2.2.2.2.2.2.2.1, upd t_told (4 + x2).toNatClampNeg ((t_told (4 + x2).toNatClampNeg) + 1), u15.2.2.2.2.2.2.2.2))))))
def fX11_span (N_p1 : Nat) (t_textSize : Int32) (t_start : Int32) (t_next : Int32) (t_token : Int32) (t_value : Int32) (t_error : Int32) (t_errorAt : Int32) (t_number : Int32) (t_told : Nat → Int32) (t_text : Nat → Int32) (p1 : Nat → Int32) (x2 : Int32) (x3 : Int32) : Option (Int32 × Int32 × Int32 × Int32 × Int32 × Int32 × Int32 × Int32 × (Nat → Int32) × (Nat → Int32)) := gd (4 + x2) 8 (if 12 ≤ (t_told (4 + x2).toNatClampNeg) then fX11_span_b24 N_p1 t_textSize t_text x2 x3 (t_told (4 + x2).toNatClampNeg) 0 4 t_start t_next t_token t_value t_error t_errorAt t_number t_told p1 else fX11_span_b24 N_p1 t_textSize t_text x2 x3 (t_told (4 + x2).toNatClampNeg) 1 4 t_start t_next t_token t_value t_error t_errorAt t_number t_told p1)
set_option maxRecDepth 100000 in
set_option maxHeartbeats 4000000 in
theorem kX11_span (l : Launch) (D : va_G) (cT : Nat → ClassId) (a_t : Nat) (a_t_now : Nat) (a_t_told : Nat) (a_t_one : Nat) (a_t_other : Nat) (a_t_forth : Nat) (a_t_cost : Nat) (a_t_broken : Nat) (a_t_away : Nat) (a_t_text : Nat) (a_t_worth : Nat) (a_t_choice : Nat) (a_t_thought : Nat) (a_t_before : Nat) (a_t_deep : Nat) (a_t_price : Nat) (a_t_undo : Nat) (a_t_slots : Nat) (a_t_isSaved : Nat) (a_p1 : Nat) (N_p1 : Nat) (t_thrown : Int32) (t_length : Int32) (t_textSize : Int32) (t_start : Int32) (t_next : Int32) (t_token : Int32) (t_value : Int32) (t_error : Int32) (t_errorAt : Int32) (t_number : Int32) (t_isFirst : Int32) (t_limitNow : Int32) (t_undos : Int32) (t_told : Nat → Int32) (t_text : Nat → Int32) (p1 : Nat → Int32) (x2 : Int32) (x3 : Int32) (r : Int32 × Int32 × Int32 × Int32 × Int32 × Int32 × Int32 × Int32 × (Nat → Int32) × (Nat → Int32)) (h : fX11_span N_p1 t_textSize t_start t_next t_token t_value t_error t_errorAt t_number t_told t_text p1 x2 x3 = some r) : sM l yX11_span cX11_span 5 (some .boolean) (zR 5) D cT [.ref a_t, .ref a_p1, .int x2, .int x3] [(a_t, .inr (11, [.int t_thrown, .ref a_t_now, .ref a_t_told, .ref a_t_one, .ref a_t_other, .ref a_t_forth, .ref a_t_cost, .ref a_t_broken, .ref a_t_away, .ref a_t_text, .int t_length, .int t_textSize, .int t_start, .int t_next, .int t_token, .int t_value, .int t_error, .int t_errorAt, .int t_number, .int t_isFirst, .ref a_t_worth, .ref a_t_choice, .ref a_t_thought, .ref a_t_before, .ref a_t_deep, .int t_limitNow, .ref a_t_price, .int t_undos, .ref a_t_undo, .ref a_t_slots, .ref a_t_isSaved])), (a_t_told, .inl (cT 0, 8, .inl t_told)), (a_t_text, .inl (cT 2, 500, .inl t_text)), (a_p1, .inl (cT 0, N_p1, .inl p1))] (some (.int r.1)) [(a_t, .inr (11, [.int t_thrown, .ref a_t_now, .ref a_t_told, .ref a_t_one, .ref a_t_other, .ref a_t_forth, .ref a_t_cost, .ref a_t_broken, .ref a_t_away, .ref a_t_text, .int t_length, .int t_textSize, .int r.2.1, .int r.2.2.1, .int r.2.2.2.1, .int r.2.2.2.2.1, .int r.2.2.2.2.2.1, .int r.2.2.2.2.2.2.1, .int r.2.2.2.2.2.2.2.1, .int t_isFirst, .ref a_t_worth, .ref a_t_choice, .ref a_t_thought, .ref a_t_before, .ref a_t_deep, .int t_limitNow, .ref a_t_price, .int t_undos, .ref a_t_undo, .ref a_t_slots, .ref a_t_isSaved])), (a_t_told, .inl (cT 0, 8, .inl r.2.2.2.2.2.2.2.2.1)), (a_t_text, .inl (cT 2, 500, .inl t_text)), (a_p1, .inl (cT 0, N_p1, .inl r.2.2.2.2.2.2.2.2.2))] := by
  refine sM_bool rfl (Nat.le_of_ble_eq_true rfl) ?_
  intro X C hE
  have B24 : ∀ (y4 : Int32) (s0 : Int32) (s1 : Int32) (t_start : Int32) (t_next : Int32) (t_token : Int32) (t_value : Int32) (t_error : Int32) (t_errorAt : Int32) (t_number : Int32) (t_told : Nat → Int32) (p1 : Nat → Int32), fX11_span_b24 N_p1 t_textSize t_text x2 x3 y4 s0 s1 t_start t_next t_token t_value t_error t_errorAt t_number t_told p1 = some r → sW X l (zR 5) D 5 0 0 24 [(0, .ref a_t), (1, .ref a_p1), (2, .int x2), (3, .int x3), (4, .int y4)] [.int s0, .int s1, .ref a_t] [(a_t, .inr (11, [.int t_thrown, .ref a_t_now, .ref a_t_told, .ref a_t_one, .ref a_t_other, .ref a_t_forth, .ref a_t_cost, .ref a_t_broken, .ref a_t_away, .ref a_t_text, .int t_length, .int t_textSize, .int t_start, .int t_next, .int t_token, .int t_value, .int t_error, .int t_errorAt, .int t_number, .int t_isFirst, .ref a_t_worth, .ref a_t_choice, .ref a_t_thought, .ref a_t_before, .ref a_t_deep, .int t_limitNow, .ref a_t_price, .int t_undos, .ref a_t_undo, .ref a_t_slots, .ref a_t_isSaved])), (a_t_told, .inl (cT 0, 8, .inl t_told)), (a_t_text, .inl (cT 2, 500, .inl t_text)), (a_p1, .inl (cT 0, N_p1, .inl p1))] := by
    intro y4 s0 s1 t_start t_next t_token t_value t_error t_errorAt t_number t_told p1 h
    replace h := ob h
    obtain ⟨u3, hu4, h⟩ := h
    refine xi_callV C (kX11_starts l D cT a_t a_t_now a_t_told a_t_one a_t_other a_t_forth a_t_cost a_t_broken a_t_away a_t_text a_t_worth a_t_choice a_t_thought a_t_before a_t_deep a_t_price a_t_undo a_t_slots a_t_isSaved t_thrown t_length t_textSize t_start t_next t_token t_value t_error t_errorAt t_number t_isFirst t_limitNow t_undos t_text s1 s0 u3 hu4) zcX11_starts zmX11_143 ziX11_starts (zr rfl rfl) z00 rfl [0, 2] rfl rfl rfl [some 0, none, some 1, none] (by decide +kernel) (ws2 := [(a_t, .inr (11, [.int t_thrown, .ref a_t_now, .ref a_t_told, .ref a_t_one, .ref a_t_other, .ref a_t_forth, .ref a_t_cost, .ref a_t_broken, .ref a_t_away, .ref a_t_text, .int t_length, .int t_textSize, .int u3.2.1, .int u3.2.2.1, .int u3.2.2.2.1, .int u3.2.2.2.2.1, .int u3.2.2.2.2.2.1, .int u3.2.2.2.2.2.2, .int t_number, .int t_isFirst, .ref a_t_worth, .ref a_t_choice, .ref a_t_thought, .ref a_t_before, .ref a_t_deep, .int t_limitNow, .ref a_t_price, .int t_undos, .ref a_t_undo, .ref a_t_slots, .ref a_t_isSaved])), (a_t_told, .inl (cT 0, 8, .inl t_told)), (a_t_text, .inl (cT 2, 500, .inl t_text)), (a_p1, .inl (cT 0, N_p1, .inl p1))]) rfl zkX11.1 (qr := 0) rfl rfl (Nat.le_of_ble_eq_true rfl) dX11_span_24 (fun z5 => ?_)
    refine xi_if_eq C (tgt := 85) dX11_span_27 rfl (fun c6 => ?_) (fun c6 => ?_)
    · replace h := (if_pos c6).symm.trans h
      refine xi_iconst C (v := 0) dX11_span_85 rfl ?_
      obtain rfl := Option.some.inj h
      exact hE _ _ _ dX11_span_86 rfl rfl
    · replace h := (if_neg c6).symm.trans h
      refine xi_aload_n C 0 dX11_span_30 rfl ?_
      refine xi_aload_n C 1 dX11_span_31 rfl ?_
      refine xi_iconst C (v := 3) dX11_span_32 rfl ?_
      refine xi_iload C 4 dX11_span_33 rfl ?_
      refine xi_imul C dX11_span_35 ?_
      refine xi_iconst C (v := 0) dX11_span_36 rfl ?_
      refine xi_iload_n C 3 dX11_span_37 rfl ?_
      refine xi_iconst C (v := 1) dX11_span_38 rfl ?_
      refine xi_isub C dX11_span_39 ?_
      replace h := ob h
      obtain ⟨u7, hu8, h⟩ := h
      refine xi_callV C (kX11_puts l D cT a_t a_t_now a_t_told a_t_one a_t_other a_t_forth a_t_cost a_t_broken a_t_away a_t_text a_t_worth a_t_choice a_t_thought a_t_before a_t_deep a_t_price a_t_undo a_t_slots a_t_isSaved a_p1 N_p1 t_thrown t_length t_textSize u3.2.1 u3.2.2.1 u3.2.2.2.1 u3.2.2.2.2.1 u3.2.2.2.2.2.1 u3.2.2.2.2.2.2 t_number t_isFirst t_limitNow t_undos t_text p1 (3 * y4) 0 (x3 - 1) u7 hu8) zcX11_puts zmX11_147 ziX11_puts (zr rfl rfl) z00 rfl [0, 2, 3] rfl rfl rfl [some 0, none, some 1, some 2] (by decide +kernel) (ws2 := [(a_t, .inr (11, [.int t_thrown, .ref a_t_now, .ref a_t_told, .ref a_t_one, .ref a_t_other, .ref a_t_forth, .ref a_t_cost, .ref a_t_broken, .ref a_t_away, .ref a_t_text, .int t_length, .int t_textSize, .int u7.2.1, .int u7.2.2.1, .int u7.2.2.2.1, .int u7.2.2.2.2.1, .int u7.2.2.2.2.2.1, .int u7.2.2.2.2.2.2.1, .int u7.2.2.2.2.2.2.2.1, .int t_isFirst, .ref a_t_worth, .ref a_t_choice, .ref a_t_thought, .ref a_t_before, .ref a_t_deep, .int t_limitNow, .ref a_t_price, .int t_undos, .ref a_t_undo, .ref a_t_slots, .ref a_t_isSaved])), (a_t_told, .inl (cT 0, 8, .inl t_told)), (a_t_text, .inl (cT 2, 500, .inl t_text)), (a_p1, .inl (cT 0, N_p1, .inl u7.2.2.2.2.2.2.2.2))]) rfl zkX11.1 (qr := 0) rfl rfl (Nat.le_of_ble_eq_true rfl) dX11_span_40 (fun z9 => ?_)
      refine xi_if_eq C (tgt := 85) dX11_span_43 rfl (fun c10 => ?_) (fun c10 => ?_)
      · replace h := (if_pos c10).symm.trans h
        refine xi_iconst C (v := 0) dX11_span_85 rfl ?_
        obtain rfl := Option.some.inj h
        exact hE _ _ _ dX11_span_86 rfl rfl
      · replace h := (if_neg c10).symm.trans h
        refine xi_aload_n C 0 dX11_span_46 rfl ?_
        refine xi_aload_n C 1 dX11_span_47 rfl ?_
        refine xi_iconst C (v := 3) dX11_span_48 rfl ?_
        refine xi_iload C 4 dX11_span_49 rfl ?_
        refine xi_imul C dX11_span_51 ?_
        refine xi_iconst C (v := 1) dX11_span_52 rfl ?_
        refine xi_iadd C dX11_span_53 ?_
        refine xi_iconst C (v := 1) dX11_span_54 rfl ?_
        refine xi_sipush C (v := 999) dX11_span_55 rfl ?_
        replace h := ob h
        obtain ⟨u11, hu12, h⟩ := h
        refine xi_callV C (kX11_puts l D cT a_t a_t_now a_t_told a_t_one a_t_other a_t_forth a_t_cost a_t_broken a_t_away a_t_text a_t_worth a_t_choice a_t_thought a_t_before a_t_deep a_t_price a_t_undo a_t_slots a_t_isSaved a_p1 N_p1 t_thrown t_length t_textSize u7.2.1 u7.2.2.1 u7.2.2.2.1 u7.2.2.2.2.1 u7.2.2.2.2.2.1 u7.2.2.2.2.2.2.1 u7.2.2.2.2.2.2.2.1 t_isFirst t_limitNow t_undos t_text u7.2.2.2.2.2.2.2.2 ((3 * y4) + 1) 1 999 u11 hu12) zcX11_puts zmX11_147 ziX11_puts (zr rfl rfl) z00 rfl [0, 2, 3] rfl rfl rfl [some 0, none, some 1, some 2] (by decide +kernel) (ws2 := [(a_t, .inr (11, [.int t_thrown, .ref a_t_now, .ref a_t_told, .ref a_t_one, .ref a_t_other, .ref a_t_forth, .ref a_t_cost, .ref a_t_broken, .ref a_t_away, .ref a_t_text, .int t_length, .int t_textSize, .int u11.2.1, .int u11.2.2.1, .int u11.2.2.2.1, .int u11.2.2.2.2.1, .int u11.2.2.2.2.2.1, .int u11.2.2.2.2.2.2.1, .int u11.2.2.2.2.2.2.2.1, .int t_isFirst, .ref a_t_worth, .ref a_t_choice, .ref a_t_thought, .ref a_t_before, .ref a_t_deep, .int t_limitNow, .ref a_t_price, .int t_undos, .ref a_t_undo, .ref a_t_slots, .ref a_t_isSaved])), (a_t_told, .inl (cT 0, 8, .inl t_told)), (a_t_text, .inl (cT 2, 500, .inl t_text)), (a_p1, .inl (cT 0, N_p1, .inl u11.2.2.2.2.2.2.2.2))]) rfl zkX11.1 (qr := 0) rfl rfl (Nat.le_of_ble_eq_true rfl) dX11_span_58 (fun z13 => ?_)
        refine xi_if_eq C (tgt := 85) dX11_span_61 rfl (fun c14 => ?_) (fun c14 => ?_)
        · replace h := (if_pos c14).symm.trans h
          refine xi_iconst C (v := 0) dX11_span_85 rfl ?_
          obtain rfl := Option.some.inj h
          exact hE _ _ _ dX11_span_86 rfl rfl
        · replace h := (if_neg c14).symm.trans h
          refine xi_aload_n C 0 dX11_span_64 rfl ?_
          refine xi_aload_n C 1 dX11_span_65 rfl ?_
          refine xi_iconst C (v := 3) dX11_span_66 rfl ?_
          refine xi_iload C 4 dX11_span_67 rfl ?_
          refine xi_imul C dX11_span_69 ?_
          refine xi_iconst C (v := 2) dX11_span_70 rfl ?_
          refine xi_iadd C dX11_span_71 ?_
          refine xi_aload_n C 0 dX11_span_72 rfl ?_
          refine xi_get C zkX11 18 0 zlX11_133 (by decide) rfl rfl dX11_span_73 ?_
          refine xi_sipush C (v := 999) dX11_span_76 rfl ?_
          replace h := ob h
          obtain ⟨u15, hu16, h⟩ := h
          refine xi_callV C (kX11_puts l D cT a_t a_t_now a_t_told a_t_one a_t_other a_t_forth a_t_cost a_t_broken a_t_away a_t_text a_t_worth a_t_choice a_t_thought a_t_before a_t_deep a_t_price a_t_undo a_t_slots a_t_isSaved a_p1 N_p1 t_thrown t_length t_textSize u11.2.1 u11.2.2.1 u11.2.2.2.1 u11.2.2.2.2.1 u11.2.2.2.2.2.1 u11.2.2.2.2.2.2.1 u11.2.2.2.2.2.2.2.1 t_isFirst t_limitNow t_undos t_text u11.2.2.2.2.2.2.2.2 ((3 * y4) + 2) u11.2.2.2.2.2.2.2.1 999 u15 hu16) zcX11_puts zmX11_147 ziX11_puts (zr rfl rfl) z00 rfl [0, 2, 3] rfl rfl rfl [some 0, none, some 1, some 2] (by decide +kernel) (ws2 := [(a_t, .inr (11, [.int t_thrown, .ref a_t_now, .ref a_t_told, .ref a_t_one, .ref a_t_other, .ref a_t_forth, .ref a_t_cost, .ref a_t_broken, .ref a_t_away, .ref a_t_text, .int t_length, .int t_textSize, .int u15.2.1, .int u15.2.2.1, .int u15.2.2.2.1, .int u15.2.2.2.2.1, .int u15.2.2.2.2.2.1, .int u15.2.2.2.2.2.2.1, .int u15.2.2.2.2.2.2.2.1, .int t_isFirst, .ref a_t_worth, .ref a_t_choice, .ref a_t_thought, .ref a_t_before, .ref a_t_deep, .int t_limitNow, .ref a_t_price, .int t_undos, .ref a_t_undo, .ref a_t_slots, .ref a_t_isSaved])), (a_t_told, .inl (cT 0, 8, .inl t_told)), (a_t_text, .inl (cT 2, 500, .inl t_text)), (a_p1, .inl (cT 0, N_p1, .inl u15.2.2.2.2.2.2.2.2))]) rfl zkX11.1 (qr := 0) rfl rfl (Nat.le_of_ble_eq_true rfl) dX11_span_79 (fun z17 => ?_)
          refine xi_if_ne C (tgt := 87) dX11_span_82 rfl (fun c18 => ?_) (fun c18 => ?_)
          · replace h := (if_neg c18).symm.trans h
            refine xi_aload_n C 0 dX11_span_87 rfl ?_
            refine xi_get C zkX11 2 0 zlX11_13 (by decide) rfl rfl dX11_span_88 ?_
            refine xi_iconst C (v := 4) dX11_span_91 rfl ?_
            refine xi_iload_n C 2 dX11_span_92 rfl ?_
            refine xi_iadd C dX11_span_93 ?_
            refine xi_dup2 C dX11_span_94 rfl rfl ?_
            replace h := ig h
            obtain ⟨c19, h⟩ := h
            refine xi_iald C 1 rfl c19 dX11_span_95 ?_
            refine xi_iconst C (v := 1) dX11_span_96 rfl ?_
            refine xi_iadd C dX11_span_97 ?_
            refine xi_iast C 1 rfl c19 dX11_span_98 (ws2 := [(a_t, .inr (11, [.int t_thrown, .ref a_t_now, .ref a_t_told, .ref a_t_one, .ref a_t_other, .ref a_t_forth, .ref a_t_cost, .ref a_t_broken, .ref a_t_away, .ref a_t_text, .int t_length, .int t_textSize, .int u15.2.1, .int u15.2.2.1, .int u15.2.2.2.1, .int u15.2.2.2.2.1, .int u15.2.2.2.2.2.1, .int u15.2.2.2.2.2.2.1, .int u15.2.2.2.2.2.2.2.1, .int t_isFirst, .ref a_t_worth, .ref a_t_choice, .ref a_t_thought, .ref a_t_before, .ref a_t_deep, .int t_limitNow, .ref a_t_price, .int t_undos, .ref a_t_undo, .ref a_t_slots, .ref a_t_isSaved])), (a_t_told, .inl (cT 0, 8, .inl (upd t_told (4 + x2).toNatClampNeg ((t_told (4 + x2).toNatClampNeg) + 1)))), (a_t_text, .inl (cT 2, 500, .inl t_text)), (a_p1, .inl (cT 0, N_p1, .inl u15.2.2.2.2.2.2.2.2))]) rfl ?_
            refine xi_iconst C (v := 1) dX11_span_99 rfl ?_
            obtain rfl := Option.some.inj h
            exact hE _ _ _ dX11_span_100 rfl rfl
          · replace h := (if_pos c18).symm.trans h
            refine xi_iconst C (v := 0) dX11_span_85 rfl ?_
            obtain rfl := Option.some.inj h
            exact hE _ _ _ dX11_span_86 rfl rfl
  refine xi_drop (L2 := [(0, .ref a_t), (1, .ref a_p1), (2, .int x2), (3, .int x3)]) [0, 1, 2, 3] rfl ?_
  refine xi_aload_n C 0 dX11_span_0 rfl ?_
  refine xi_get C zkX11 2 0 zlX11_13 (by decide) rfl rfl dX11_span_1 ?_
  refine xi_iconst C (v := 4) dX11_span_4 rfl ?_
  refine xi_iload_n C 2 dX11_span_5 rfl ?_
  refine xi_iadd C dX11_span_6 ?_
  replace h := ig h
  obtain ⟨c1, h⟩ := h
  refine xi_iald C 1 rfl c1 dX11_span_7 ?_
  refine xi_istore C [1, 2, 3, 4, 0] (L2 := [(0, .ref a_t), (1, .ref a_p1), (2, .int x2), (3, .int x3), (4, .int (t_told (4 + x2).toNatClampNeg))]) dX11_span_8 (Nat.le_of_ble_eq_true rfl) rfl ?_
  refine xi_aload_n C 0 dX11_span_10 rfl ?_
  refine xi_iconst C (v := 4) dX11_span_11 rfl ?_
  refine xi_iload C 4 dX11_span_12 rfl ?_
  refine xi_bipush C (v := 12) dX11_span_14 rfl ?_
  refine xi_icmp_ge C (tgt := 23) dX11_span_16 rfl (fun c2 => ?_) (fun c2 => ?_)
  · replace h := (if_pos c2).symm.trans h
    refine xi_iconst C (v := 0) dX11_span_23 rfl ?_
    exact B24 (t_told (4 + x2).toNatClampNeg) 0 4 t_start t_next t_token t_value t_error t_errorAt t_number t_told p1 h
  · replace h := (if_neg c2).symm.trans h
    refine xi_iconst C (v := 1) dX11_span_19 rfl ?_
    refine xi_goto C (tgt := 24) dX11_span_20 rfl ?_
    exact B24 (t_told (4 + x2).toNatClampNeg) 1 4 t_start t_next t_token t_value t_error t_errorAt t_number t_told p1 h
def fX11_closes (t_textSize : Int32) (t_start : Int32) (t_next : Int32) (t_token : Int32) (t_value : Int32) (t_error : Int32) (t_errorAt : Int32) (t_text : Nat → Int32) : Option (Int32 × Int32 × Int32 × Int32 × Int32 × Int32 × Int32 × Int32) := if t_token = 3 then (fX11_advance t_textSize t_start t_next t_token t_value t_text).bind (fun u2 => some (1, u2.1, u2.2.1, u2.2.2.1, u2.2.2.2, t_error, t_errorAt, 0)) else nm (fX11_fails t_start t_error t_errorAt 1) (fun u5 => some (u5.1, t_start, t_next, t_token, t_value, u5.2.1, u5.2.2, 0))
set_option maxRecDepth 100000 in
set_option maxHeartbeats 4000000 in
theorem kX11_closes (l : Launch) (D : va_G) (cT : Nat → ClassId) (a_t : Nat) (a_t_now : Nat) (a_t_told : Nat) (a_t_one : Nat) (a_t_other : Nat) (a_t_forth : Nat) (a_t_cost : Nat) (a_t_broken : Nat) (a_t_away : Nat) (a_t_text : Nat) (a_t_worth : Nat) (a_t_choice : Nat) (a_t_thought : Nat) (a_t_before : Nat) (a_t_deep : Nat) (a_t_price : Nat) (a_t_undo : Nat) (a_t_slots : Nat) (a_t_isSaved : Nat) (t_thrown : Int32) (t_length : Int32) (t_textSize : Int32) (t_start : Int32) (t_next : Int32) (t_token : Int32) (t_value : Int32) (t_error : Int32) (t_errorAt : Int32) (t_number : Int32) (t_isFirst : Int32) (t_limitNow : Int32) (t_undos : Int32) (t_text : Nat → Int32) (r : Int32 × Int32 × Int32 × Int32 × Int32 × Int32 × Int32 × Int32) (h : fX11_closes t_textSize t_start t_next t_token t_value t_error t_errorAt t_text = some r) : sM l yX11_closes cX11_closes 1 (some .boolean) (zR 3) D cT [.ref a_t] [(a_t, .inr (11, [.int t_thrown, .ref a_t_now, .ref a_t_told, .ref a_t_one, .ref a_t_other, .ref a_t_forth, .ref a_t_cost, .ref a_t_broken, .ref a_t_away, .ref a_t_text, .int t_length, .int t_textSize, .int t_start, .int t_next, .int t_token, .int t_value, .int t_error, .int t_errorAt, .int t_number, .int t_isFirst, .ref a_t_worth, .ref a_t_choice, .ref a_t_thought, .ref a_t_before, .ref a_t_deep, .int t_limitNow, .ref a_t_price, .int t_undos, .ref a_t_undo, .ref a_t_slots, .ref a_t_isSaved])), (a_t_text, .inl (cT 2, 500, .inl t_text))] (some (.int r.1)) [(a_t, .inr (11, [.int t_thrown, .ref a_t_now, .ref a_t_told, .ref a_t_one, .ref a_t_other, .ref a_t_forth, .ref a_t_cost, .ref a_t_broken, .ref a_t_away, .ref a_t_text, .int t_length, .int t_textSize, .int r.2.1, .int r.2.2.1, .int r.2.2.2.1, .int r.2.2.2.2.1, .int r.2.2.2.2.2.1, .int r.2.2.2.2.2.2.1, .int t_number, .int r.2.2.2.2.2.2.2, .ref a_t_worth, .ref a_t_choice, .ref a_t_thought, .ref a_t_before, .ref a_t_deep, .int t_limitNow, .ref a_t_price, .int t_undos, .ref a_t_undo, .ref a_t_slots, .ref a_t_isSaved])), (a_t_text, .inl (cT 2, 500, .inl t_text))] := by
  refine sM_bool rfl (Nat.le_of_ble_eq_true rfl) ?_
  intro X C hE
  refine xi_drop (L2 := [(0, .ref a_t)]) [0] rfl ?_
  refine xi_aload_n C 0 dX11_closes_0 rfl ?_
  refine xi_iconst C (v := 0) dX11_closes_1 rfl ?_
  refine xi_put C zkX11 19 0 zlX11_160 (by decide) rfl rfl rfl rfl (Nat.le_of_ble_eq_true rfl) dX11_closes_2 (ws2 := [(a_t, .inr (11, [.int t_thrown, .ref a_t_now, .ref a_t_told, .ref a_t_one, .ref a_t_other, .ref a_t_forth, .ref a_t_cost, .ref a_t_broken, .ref a_t_away, .ref a_t_text, .int t_length, .int t_textSize, .int t_start, .int t_next, .int t_token, .int t_value, .int t_error, .int t_errorAt, .int t_number, .int 0, .ref a_t_worth, .ref a_t_choice, .ref a_t_thought, .ref a_t_before, .ref a_t_deep, .int t_limitNow, .ref a_t_price, .int t_undos, .ref a_t_undo, .ref a_t_slots, .ref a_t_isSaved])), (a_t_text, .inl (cT 2, 500, .inl t_text))]) rfl ?_
  refine xi_aload_n C 0 dX11_closes_5 rfl ?_
  refine xi_get C zkX11 14 0 zlX11_110 (by decide) rfl rfl dX11_closes_6 ?_
  refine xi_iconst C (v := 3) dX11_closes_9 rfl ?_
  refine xi_icmp_eq C (tgt := 19) dX11_closes_10 rfl (fun c1 => ?_) (fun c1 => ?_)
  · replace h := (if_pos c1).symm.trans h
    refine xi_aload_n C 0 dX11_closes_19 rfl ?_
    replace h := ob h
    obtain ⟨u2, hu3, h⟩ := h
    refine xi_callV C (kX11_advance l D cT a_t a_t_now a_t_told a_t_one a_t_other a_t_forth a_t_cost a_t_broken a_t_away a_t_text a_t_worth a_t_choice a_t_thought a_t_before a_t_deep a_t_price a_t_undo a_t_slots a_t_isSaved t_thrown t_length t_textSize t_start t_next t_token t_value t_error t_errorAt t_number 0 t_limitNow t_undos t_text u2 hu3) zcX11_advance zmX11_136 ziX11_advance (zr rfl rfl) z00 rfl [0, 1] rfl rfl rfl [some 0, some 1] (by decide +kernel) (ws2 := [(a_t, .inr (11, [.int t_thrown, .ref a_t_now, .ref a_t_told, .ref a_t_one, .ref a_t_other, .ref a_t_forth, .ref a_t_cost, .ref a_t_broken, .ref a_t_away, .ref a_t_text, .int t_length, .int t_textSize, .int u2.1, .int u2.2.1, .int u2.2.2.1, .int u2.2.2.2, .int t_error, .int t_errorAt, .int t_number, .int 0, .ref a_t_worth, .ref a_t_choice, .ref a_t_thought, .ref a_t_before, .ref a_t_deep, .int t_limitNow, .ref a_t_price, .int t_undos, .ref a_t_undo, .ref a_t_slots, .ref a_t_isSaved])), (a_t_text, .inl (cT 2, 500, .inl t_text))]) rfl zkX11.1 (qr := 0) rfl rfl (Nat.le_of_ble_eq_true rfl) dX11_closes_20 (fun z4 => ?_)
    refine xi_iconst C (v := 1) dX11_closes_23 rfl ?_
    obtain rfl := Option.some.inj h
    exact hE _ _ _ dX11_closes_24 rfl rfl
  · replace h := (if_neg c1).symm.trans h
    refine xi_aload_n C 0 dX11_closes_13 rfl ?_
    refine xi_iconst C (v := 1) dX11_closes_14 rfl ?_
    obtain ⟨u5, hu6⟩ : ∃ z, z = fX11_fails t_start t_error t_errorAt 1 := ⟨_, rfl⟩
    replace h := nmE hu6 h
    refine xi_callV C (kX11_fails l D cT a_t a_t_now a_t_told a_t_one a_t_other a_t_forth a_t_cost a_t_broken a_t_away a_t_text a_t_worth a_t_choice a_t_thought a_t_before a_t_deep a_t_price a_t_undo a_t_slots a_t_isSaved t_thrown t_length t_textSize t_start t_next t_token t_value t_error t_errorAt t_number 0 t_limitNow t_undos 1 u5 hu6.symm) zcX11_fails zmX11_129 ziX11_fails (zr rfl rfl) z00 rfl [0] rfl rfl rfl [some 0, none] (by decide +kernel) (ws2 := [(a_t, .inr (11, [.int t_thrown, .ref a_t_now, .ref a_t_told, .ref a_t_one, .ref a_t_other, .ref a_t_forth, .ref a_t_cost, .ref a_t_broken, .ref a_t_away, .ref a_t_text, .int t_length, .int t_textSize, .int t_start, .int t_next, .int t_token, .int t_value, .int u5.2.1, .int u5.2.2, .int t_number, .int 0, .ref a_t_worth, .ref a_t_choice, .ref a_t_thought, .ref a_t_before, .ref a_t_deep, .int t_limitNow, .ref a_t_price, .int t_undos, .ref a_t_undo, .ref a_t_slots, .ref a_t_isSaved])), (a_t_text, .inl (cT 2, 500, .inl t_text))]) rfl zkX11.1 (qr := 0) rfl rfl (Nat.le_of_ble_eq_true rfl) dX11_closes_15 (fun z7 => ?_)
    obtain rfl := Option.some.inj h
    exact hE _ _ _ dX11_closes_18 rfl (z7 _ rfl _ rfl)
def fX11_begins_b51 (t_now : Nat → Int32) (t_isSaved : Nat → Int32) : Option (Int32 × (Nat → Int32) × (Nat → Int32)) := some (0, t_now, upd (upd t_isSaved 0 (vp_nar .boolean 0)) 1 (vp_nar .boolean 0))
def fX11_begins_b24 (t_told : Nat → Int32) : Nat → Int32 → Int32 → (Nat → Int32) → (Nat → Int32) → Option (Int32 × (Nat → Int32) × (Nat → Int32))
  | 0, _, _, _, _ => none
  | n + 1, y1, t_undos, t_now, t_isSaved => if (t_told 0) ≤ y1 then fX11_begins_b51 t_now t_isSaved else gd (4 + y1) 514 ((fX11_begins_b24 t_told n) (y1 + 1) t_undos (upd t_now (4 + y1).toNatClampNeg (1 <<< (y1 &&& 31))) t_isSaved)
theorem fX11_begins_b24_0 (t_told : Nat → Int32) (y1 : Int32) (t_undos : Int32) (t_now : Nat → Int32) (t_isSaved : Nat → Int32) : fX11_begins_b24 t_told 0 y1 t_undos t_now t_isSaved = none := rfl
theorem fX11_begins_b24_s (t_told : Nat → Int32) (n : Nat) (y1 : Int32) (t_undos : Int32) (t_now : Nat → Int32) (t_isSaved : Nat → Int32) : fX11_begins_b24 t_told (n + 1) y1 t_undos t_now t_isSaved = (if (t_told 0) ≤ y1 then fX11_begins_b51 t_now t_isSaved else gd (4 + y1) 514 ((fX11_begins_b24 t_told n) (y1 + 1) t_undos (upd t_now (4 + y1).toNatClampNeg (1 <<< (y1 &&& 31))) t_isSaved)) := rfl
def fX11_begins_b2 (t_told : Nat → Int32) : Nat → Int32 → Int32 → (Nat → Int32) → (Nat → Int32) → Option (Int32 × (Nat → Int32) × (Nat → Int32))
  | 0, _, _, _, _ => none
  | n + 1, y1, t_undos, t_now, t_isSaved => if 514 ≤ y1 then fX11_begins_b24 t_told FU 0 t_undos t_now t_isSaved else gd y1 514 ((fX11_begins_b2 t_told n) (y1 + 1) t_undos (upd t_now y1.toNatClampNeg 0) t_isSaved)
theorem fX11_begins_b2_0 (t_told : Nat → Int32) (y1 : Int32) (t_undos : Int32) (t_now : Nat → Int32) (t_isSaved : Nat → Int32) : fX11_begins_b2 t_told 0 y1 t_undos t_now t_isSaved = none := rfl
theorem fX11_begins_b2_s (t_told : Nat → Int32) (n : Nat) (y1 : Int32) (t_undos : Int32) (t_now : Nat → Int32) (t_isSaved : Nat → Int32) : fX11_begins_b2 t_told (n + 1) y1 t_undos t_now t_isSaved = (if 514 ≤ y1 then fX11_begins_b24 t_told FU 0 t_undos t_now t_isSaved else gd y1 514 ((fX11_begins_b2 t_told n) (y1 + 1) t_undos (upd t_now y1.toNatClampNeg 0) t_isSaved)) := rfl
def fX11_begins (t_undos : Int32) (t_now : Nat → Int32) (t_told : Nat → Int32) (t_isSaved : Nat → Int32) : Option (Int32 × (Nat → Int32) × (Nat → Int32)) := fX11_begins_b2 t_told FU 0 t_undos t_now t_isSaved
set_option maxRecDepth 100000 in
set_option maxHeartbeats 4000000 in
theorem kX11_begins (l : Launch) (D : va_G) (cT : Nat → ClassId) (a_t : Nat) (a_t_now : Nat) (a_t_told : Nat) (a_t_one : Nat) (a_t_other : Nat) (a_t_forth : Nat) (a_t_cost : Nat) (a_t_broken : Nat) (a_t_away : Nat) (a_t_text : Nat) (a_t_worth : Nat) (a_t_choice : Nat) (a_t_thought : Nat) (a_t_before : Nat) (a_t_deep : Nat) (a_t_price : Nat) (a_t_undo : Nat) (a_t_slots : Nat) (a_t_isSaved : Nat) (t_thrown : Int32) (t_length : Int32) (t_textSize : Int32) (t_start : Int32) (t_next : Int32) (t_token : Int32) (t_value : Int32) (t_error : Int32) (t_errorAt : Int32) (t_number : Int32) (t_isFirst : Int32) (t_limitNow : Int32) (t_undos : Int32) (t_now : Nat → Int32) (t_told : Nat → Int32) (t_isSaved : Nat → Int32) (r : Int32 × (Nat → Int32) × (Nat → Int32)) (h : fX11_begins t_undos t_now t_told t_isSaved = some r) : sM l yX11_begins cX11_begins 2 none (zR 1) D cT [.ref a_t] [(a_t, .inr (11, [.int t_thrown, .ref a_t_now, .ref a_t_told, .ref a_t_one, .ref a_t_other, .ref a_t_forth, .ref a_t_cost, .ref a_t_broken, .ref a_t_away, .ref a_t_text, .int t_length, .int t_textSize, .int t_start, .int t_next, .int t_token, .int t_value, .int t_error, .int t_errorAt, .int t_number, .int t_isFirst, .ref a_t_worth, .ref a_t_choice, .ref a_t_thought, .ref a_t_before, .ref a_t_deep, .int t_limitNow, .ref a_t_price, .int t_undos, .ref a_t_undo, .ref a_t_slots, .ref a_t_isSaved])), (a_t_now, .inl (cT 0, 514, .inl t_now)), (a_t_told, .inl (cT 0, 8, .inl t_told)), (a_t_isSaved, .inl (cT 3, 2, .inl t_isSaved))] none [(a_t, .inr (11, [.int t_thrown, .ref a_t_now, .ref a_t_told, .ref a_t_one, .ref a_t_other, .ref a_t_forth, .ref a_t_cost, .ref a_t_broken, .ref a_t_away, .ref a_t_text, .int t_length, .int t_textSize, .int t_start, .int t_next, .int t_token, .int t_value, .int t_error, .int t_errorAt, .int t_number, .int t_isFirst, .ref a_t_worth, .ref a_t_choice, .ref a_t_thought, .ref a_t_before, .ref a_t_deep, .int t_limitNow, .ref a_t_price, .int r.1, .ref a_t_undo, .ref a_t_slots, .ref a_t_isSaved])), (a_t_now, .inl (cT 0, 514, .inl r.2.1)), (a_t_told, .inl (cT 0, 8, .inl t_told)), (a_t_isSaved, .inl (cT 3, 2, .inl r.2.2))] := by
  refine sM_void rfl (Nat.le_of_ble_eq_true rfl) ?_
  intro X C hE
  have B51 : ∀ (t_undos : Int32) (t_now : Nat → Int32) (t_isSaved : Nat → Int32), fX11_begins_b51 t_now t_isSaved = some r → sW X l (zR 1) D 2 0 0 51 [(0, .ref a_t)] [] [(a_t, .inr (11, [.int t_thrown, .ref a_t_now, .ref a_t_told, .ref a_t_one, .ref a_t_other, .ref a_t_forth, .ref a_t_cost, .ref a_t_broken, .ref a_t_away, .ref a_t_text, .int t_length, .int t_textSize, .int t_start, .int t_next, .int t_token, .int t_value, .int t_error, .int t_errorAt, .int t_number, .int t_isFirst, .ref a_t_worth, .ref a_t_choice, .ref a_t_thought, .ref a_t_before, .ref a_t_deep, .int t_limitNow, .ref a_t_price, .int t_undos, .ref a_t_undo, .ref a_t_slots, .ref a_t_isSaved])), (a_t_now, .inl (cT 0, 514, .inl t_now)), (a_t_told, .inl (cT 0, 8, .inl t_told)), (a_t_isSaved, .inl (cT 3, 2, .inl t_isSaved))] := by
    intro t_undos t_now t_isSaved h
    refine xi_aload_n C 0 dX11_begins_51 rfl ?_
    refine xi_iconst C (v := 0) dX11_begins_52 rfl ?_
    refine xi_put C zkX11 27 0 zlX11_186 (by decide) rfl rfl rfl rfl (Nat.le_of_ble_eq_true rfl) dX11_begins_53 (ws2 := [(a_t, .inr (11, [.int t_thrown, .ref a_t_now, .ref a_t_told, .ref a_t_one, .ref a_t_other, .ref a_t_forth, .ref a_t_cost, .ref a_t_broken, .ref a_t_away, .ref a_t_text, .int t_length, .int t_textSize, .int t_start, .int t_next, .int t_token, .int t_value, .int t_error, .int t_errorAt, .int t_number, .int t_isFirst, .ref a_t_worth, .ref a_t_choice, .ref a_t_thought, .ref a_t_before, .ref a_t_deep, .int t_limitNow, .ref a_t_price, .int 0, .ref a_t_undo, .ref a_t_slots, .ref a_t_isSaved])), (a_t_now, .inl (cT 0, 514, .inl t_now)), (a_t_told, .inl (cT 0, 8, .inl t_told)), (a_t_isSaved, .inl (cT 3, 2, .inl t_isSaved))]) rfl ?_
    refine xi_aload_n C 0 dX11_begins_56 rfl ?_
    refine xi_get C zkX11 30 0 zlX11_67 (by decide) rfl rfl dX11_begins_57 ?_
    refine xi_iconst C (v := 0) dX11_begins_60 rfl ?_
    refine xi_iconst C (v := 0) dX11_begins_61 rfl ?_
    refine xi_zast C 3 rfl (zv (by decide)) dX11_begins_62 (ws2 := [(a_t, .inr (11, [.int t_thrown, .ref a_t_now, .ref a_t_told, .ref a_t_one, .ref a_t_other, .ref a_t_forth, .ref a_t_cost, .ref a_t_broken, .ref a_t_away, .ref a_t_text, .int t_length, .int t_textSize, .int t_start, .int t_next, .int t_token, .int t_value, .int t_error, .int t_errorAt, .int t_number, .int t_isFirst, .ref a_t_worth, .ref a_t_choice, .ref a_t_thought, .ref a_t_before, .ref a_t_deep, .int t_limitNow, .ref a_t_price, .int 0, .ref a_t_undo, .ref a_t_slots, .ref a_t_isSaved])), (a_t_now, .inl (cT 0, 514, .inl t_now)), (a_t_told, .inl (cT 0, 8, .inl t_told)), (a_t_isSaved, .inl (cT 3, 2, .inl (upd t_isSaved 0 (vp_nar .boolean 0))))]) rfl ?_
    refine xi_aload_n C 0 dX11_begins_63 rfl ?_
    refine xi_get C zkX11 30 0 zlX11_67 (by decide) rfl rfl dX11_begins_64 ?_
    refine xi_iconst C (v := 1) dX11_begins_67 rfl ?_
    refine xi_iconst C (v := 0) dX11_begins_68 rfl ?_
    refine xi_zast C 3 rfl (zv (by decide)) dX11_begins_69 (ws2 := [(a_t, .inr (11, [.int t_thrown, .ref a_t_now, .ref a_t_told, .ref a_t_one, .ref a_t_other, .ref a_t_forth, .ref a_t_cost, .ref a_t_broken, .ref a_t_away, .ref a_t_text, .int t_length, .int t_textSize, .int t_start, .int t_next, .int t_token, .int t_value, .int t_error, .int t_errorAt, .int t_number, .int t_isFirst, .ref a_t_worth, .ref a_t_choice, .ref a_t_thought, .ref a_t_before, .ref a_t_deep, .int t_limitNow, .ref a_t_price, .int 0, .ref a_t_undo, .ref a_t_slots, .ref a_t_isSaved])), (a_t_now, .inl (cT 0, 514, .inl t_now)), (a_t_told, .inl (cT 0, 8, .inl t_told)), (a_t_isSaved, .inl (cT 3, 2, .inl (upd (upd t_isSaved 0 (vp_nar .boolean 0)) 1 (vp_nar .boolean 0))))]) rfl ?_
    obtain rfl := Option.some.inj h
    exact hE _ _ dX11_begins_70 rfl
  have B24 : ∀ (n : Nat) (y1 : Int32) (t_undos : Int32) (t_now : Nat → Int32) (t_isSaved : Nat → Int32), fX11_begins_b24 t_told n y1 t_undos t_now t_isSaved = some r → sW X l (zR 1) D 2 0 0 24 [(0, .ref a_t), (1, .int y1)] [] [(a_t, .inr (11, [.int t_thrown, .ref a_t_now, .ref a_t_told, .ref a_t_one, .ref a_t_other, .ref a_t_forth, .ref a_t_cost, .ref a_t_broken, .ref a_t_away, .ref a_t_text, .int t_length, .int t_textSize, .int t_start, .int t_next, .int t_token, .int t_value, .int t_error, .int t_errorAt, .int t_number, .int t_isFirst, .ref a_t_worth, .ref a_t_choice, .ref a_t_thought, .ref a_t_before, .ref a_t_deep, .int t_limitNow, .ref a_t_price, .int t_undos, .ref a_t_undo, .ref a_t_slots, .ref a_t_isSaved])), (a_t_now, .inl (cT 0, 514, .inl t_now)), (a_t_told, .inl (cT 0, 8, .inl t_told)), (a_t_isSaved, .inl (cT 3, 2, .inl t_isSaved))] := by
    intro n
    induction n with
    | zero =>
      intro y1 t_undos t_now t_isSaved h
      exact zno ((fX11_begins_b24_0 _ _ _ _ _).symm.trans h)
    | succ n ih =>
      intro y1 t_undos t_now t_isSaved h
      replace h := (fX11_begins_b24_s _ _ _ _ _ _).symm.trans h
      refine xi_iload_n C 1 dX11_begins_24 rfl ?_
      refine xi_aload_n C 0 dX11_begins_25 rfl ?_
      refine xi_get C zkX11 2 0 zlX11_13 (by decide) rfl rfl dX11_begins_26 ?_
      refine xi_iconst C (v := 0) dX11_begins_29 rfl ?_
      refine xi_iald C 2 rfl (zv (by decide)) dX11_begins_30 ?_
      refine xi_icmp_ge C (tgt := 51) dX11_begins_31 rfl (fun c2 => ?_) (fun c2 => ?_)
      · replace h := (if_pos c2).symm.trans h
        refine xi_drop (L2 := [(0, .ref a_t)]) [0] rfl ?_
        exact B51 t_undos t_now t_isSaved h
      · replace h := (if_neg c2).symm.trans h
        refine xi_aload_n C 0 dX11_begins_34 rfl ?_
        refine xi_get C zkX11 1 0 zlX11_7 (by decide) rfl rfl dX11_begins_35 ?_
        refine xi_iconst C (v := 4) dX11_begins_38 rfl ?_
        refine xi_iload_n C 1 dX11_begins_39 rfl ?_
        refine xi_iadd C dX11_begins_40 ?_
        refine xi_iconst C (v := 1) dX11_begins_41 rfl ?_
        refine xi_iload_n C 1 dX11_begins_42 rfl ?_
        refine xi_ishl C dX11_begins_43 ?_
        replace h := ig h
        obtain ⟨c3, h⟩ := h
        refine xi_iast C 1 rfl c3 dX11_begins_44 (ws2 := [(a_t, .inr (11, [.int t_thrown, .ref a_t_now, .ref a_t_told, .ref a_t_one, .ref a_t_other, .ref a_t_forth, .ref a_t_cost, .ref a_t_broken, .ref a_t_away, .ref a_t_text, .int t_length, .int t_textSize, .int t_start, .int t_next, .int t_token, .int t_value, .int t_error, .int t_errorAt, .int t_number, .int t_isFirst, .ref a_t_worth, .ref a_t_choice, .ref a_t_thought, .ref a_t_before, .ref a_t_deep, .int t_limitNow, .ref a_t_price, .int t_undos, .ref a_t_undo, .ref a_t_slots, .ref a_t_isSaved])), (a_t_now, .inl (cT 0, 514, .inl (upd t_now (4 + y1).toNatClampNeg (1 <<< (y1 &&& 31))))), (a_t_told, .inl (cT 0, 8, .inl t_told)), (a_t_isSaved, .inl (cT 3, 2, .inl t_isSaved))]) rfl ?_
        refine xi_iinc C (v := y1 + 1) 1 [1, 0] (L2 := [(0, .ref a_t), (1, .int (y1 + 1))]) dX11_begins_45 rfl rfl (Nat.le_of_ble_eq_true rfl) rfl ?_
        refine xi_goto C (tgt := 24) dX11_begins_48 rfl ?_
        exact ih (y1 + 1) t_undos (upd t_now (4 + y1).toNatClampNeg (1 <<< (y1 &&& 31))) t_isSaved h
  have B2 : ∀ (n : Nat) (y1 : Int32) (t_undos : Int32) (t_now : Nat → Int32) (t_isSaved : Nat → Int32), fX11_begins_b2 t_told n y1 t_undos t_now t_isSaved = some r → sW X l (zR 1) D 2 0 0 2 [(0, .ref a_t), (1, .int y1)] [] [(a_t, .inr (11, [.int t_thrown, .ref a_t_now, .ref a_t_told, .ref a_t_one, .ref a_t_other, .ref a_t_forth, .ref a_t_cost, .ref a_t_broken, .ref a_t_away, .ref a_t_text, .int t_length, .int t_textSize, .int t_start, .int t_next, .int t_token, .int t_value, .int t_error, .int t_errorAt, .int t_number, .int t_isFirst, .ref a_t_worth, .ref a_t_choice, .ref a_t_thought, .ref a_t_before, .ref a_t_deep, .int t_limitNow, .ref a_t_price, .int t_undos, .ref a_t_undo, .ref a_t_slots, .ref a_t_isSaved])), (a_t_now, .inl (cT 0, 514, .inl t_now)), (a_t_told, .inl (cT 0, 8, .inl t_told)), (a_t_isSaved, .inl (cT 3, 2, .inl t_isSaved))] := by
    intro n
    induction n with
    | zero =>
      intro y1 t_undos t_now t_isSaved h
      exact zno ((fX11_begins_b2_0 _ _ _ _ _).symm.trans h)
    | succ n ih =>
      intro y1 t_undos t_now t_isSaved h
      replace h := (fX11_begins_b2_s _ _ _ _ _ _).symm.trans h
      refine xi_iload_n C 1 dX11_begins_2 rfl ?_
      refine xi_sipush C (v := 514) dX11_begins_3 rfl ?_
      refine xi_icmp_ge C (tgt := 22) dX11_begins_6 rfl (fun c1 => ?_) (fun c1 => ?_)
      · replace h := (if_pos c1).symm.trans h
        refine xi_iconst C (v := 0) dX11_begins_22 rfl ?_
        refine xi_istore_n C [1, 0] (L2 := [(0, .ref a_t), (1, .int 0)]) dX11_begins_23 (Nat.le_of_ble_eq_true rfl) rfl ?_
        exact B24 FU 0 t_undos t_now t_isSaved h
      · replace h := (if_neg c1).symm.trans h
        refine xi_aload_n C 0 dX11_begins_9 rfl ?_
        refine xi_get C zkX11 1 0 zlX11_7 (by decide) rfl rfl dX11_begins_10 ?_
        refine xi_iload_n C 1 dX11_begins_13 rfl ?_
        refine xi_iconst C (v := 0) dX11_begins_14 rfl ?_
        replace h := ig h
        obtain ⟨c4, h⟩ := h
        refine xi_iast C 1 rfl c4 dX11_begins_15 (ws2 := [(a_t, .inr (11, [.int t_thrown, .ref a_t_now, .ref a_t_told, .ref a_t_one, .ref a_t_other, .ref a_t_forth, .ref a_t_cost, .ref a_t_broken, .ref a_t_away, .ref a_t_text, .int t_length, .int t_textSize, .int t_start, .int t_next, .int t_token, .int t_value, .int t_error, .int t_errorAt, .int t_number, .int t_isFirst, .ref a_t_worth, .ref a_t_choice, .ref a_t_thought, .ref a_t_before, .ref a_t_deep, .int t_limitNow, .ref a_t_price, .int t_undos, .ref a_t_undo, .ref a_t_slots, .ref a_t_isSaved])), (a_t_now, .inl (cT 0, 514, .inl (upd t_now y1.toNatClampNeg 0))), (a_t_told, .inl (cT 0, 8, .inl t_told)), (a_t_isSaved, .inl (cT 3, 2, .inl t_isSaved))]) rfl ?_
        refine xi_iinc C (v := y1 + 1) 1 [1, 0] (L2 := [(0, .ref a_t), (1, .int (y1 + 1))]) dX11_begins_16 rfl rfl (Nat.le_of_ble_eq_true rfl) rfl ?_
        refine xi_goto C (tgt := 2) dX11_begins_19 rfl ?_
        exact ih (y1 + 1) t_undos (upd t_now y1.toNatClampNeg 0) t_isSaved h
  refine xi_drop (L2 := [(0, .ref a_t)]) [0] rfl ?_
  refine xi_iconst C (v := 0) dX11_begins_0 rfl ?_
  refine xi_istore_n C [1, 0] (L2 := [(0, .ref a_t), (1, .int 0)]) dX11_begins_1 (Nat.le_of_ble_eq_true rfl) rfl ?_
  exact B2 FU 0 t_undos t_now t_isSaved h
def fX11_errorPosition (t_errorAt : Int32) : Int32 × Int32 := (t_errorAt, 0)
set_option maxRecDepth 100000 in
set_option maxHeartbeats 4000000 in
theorem kX11_errorPosition (l : Launch) (D : va_G) (cT : Nat → ClassId) (a_t : Nat) (a_t_now : Nat) (a_t_told : Nat) (a_t_one : Nat) (a_t_other : Nat) (a_t_forth : Nat) (a_t_cost : Nat) (a_t_broken : Nat) (a_t_away : Nat) (a_t_text : Nat) (a_t_worth : Nat) (a_t_choice : Nat) (a_t_thought : Nat) (a_t_before : Nat) (a_t_deep : Nat) (a_t_price : Nat) (a_t_undo : Nat) (a_t_slots : Nat) (a_t_isSaved : Nat) (t_thrown : Int32) (t_length : Int32) (t_textSize : Int32) (t_start : Int32) (t_next : Int32) (t_token : Int32) (t_value : Int32) (t_error : Int32) (t_errorAt : Int32) (t_number : Int32) (t_isFirst : Int32) (t_limitNow : Int32) (t_undos : Int32) (r : Int32 × Int32) (h : fX11_errorPosition t_errorAt = r) : sM l yX11_errorPosition cX11_errorPosition 1 (some .int) (zR 1) D cT [.ref a_t] [(a_t, .inr (11, [.int t_thrown, .ref a_t_now, .ref a_t_told, .ref a_t_one, .ref a_t_other, .ref a_t_forth, .ref a_t_cost, .ref a_t_broken, .ref a_t_away, .ref a_t_text, .int t_length, .int t_textSize, .int t_start, .int t_next, .int t_token, .int t_value, .int t_error, .int t_errorAt, .int t_number, .int t_isFirst, .ref a_t_worth, .ref a_t_choice, .ref a_t_thought, .ref a_t_before, .ref a_t_deep, .int t_limitNow, .ref a_t_price, .int t_undos, .ref a_t_undo, .ref a_t_slots, .ref a_t_isSaved]))] (some (.int r.1)) [(a_t, .inr (11, [.int r.2, .ref a_t_now, .ref a_t_told, .ref a_t_one, .ref a_t_other, .ref a_t_forth, .ref a_t_cost, .ref a_t_broken, .ref a_t_away, .ref a_t_text, .int t_length, .int t_textSize, .int t_start, .int t_next, .int t_token, .int t_value, .int t_error, .int t_errorAt, .int t_number, .int t_isFirst, .ref a_t_worth, .ref a_t_choice, .ref a_t_thought, .ref a_t_before, .ref a_t_deep, .int t_limitNow, .ref a_t_price, .int t_undos, .ref a_t_undo, .ref a_t_slots, .ref a_t_isSaved]))] := by
  refine sM_int rfl (Nat.le_of_ble_eq_true rfl) ?_
  intro X C hE
  refine xi_drop (L2 := [(0, .ref a_t)]) [0] rfl ?_
  refine xi_aload_n C 0 dX11_errorPosition_0 rfl ?_
  refine xi_iconst C (v := 0) dX11_errorPosition_1 rfl ?_
  refine xi_put C zkX11 0 0 zlX11_80 (by decide) rfl rfl rfl rfl (Nat.le_of_ble_eq_true rfl) dX11_errorPosition_2 (ws2 := [(a_t, .inr (11, [.int 0, .ref a_t_now, .ref a_t_told, .ref a_t_one, .ref a_t_other, .ref a_t_forth, .ref a_t_cost, .ref a_t_broken, .ref a_t_away, .ref a_t_text, .int t_length, .int t_textSize, .int t_start, .int t_next, .int t_token, .int t_value, .int t_error, .int t_errorAt, .int t_number, .int t_isFirst, .ref a_t_worth, .ref a_t_choice, .ref a_t_thought, .ref a_t_before, .ref a_t_deep, .int t_limitNow, .ref a_t_price, .int t_undos, .ref a_t_undo, .ref a_t_slots, .ref a_t_isSaved]))]) rfl ?_
  refine xi_aload_n C 0 dX11_errorPosition_5 rfl ?_
  refine xi_get C zkX11 17 0 zlX11_38 (by decide) rfl rfl dX11_errorPosition_6 ?_
  subst h
  exact hE _ _ _ dX11_errorPosition_9 rfl
def fX11_no_b17 (s0 : Int32) (t_thrown : Int32) : Int32 × Int32 := nm (fX11_throwsIf t_thrown s0 1) (fun u5 => (u5.1, u5.2))
def fX11_no (t_thrown : Int32) (x1 : Int32) (x2 : Int32) : Int32 × Int32 := if (fX11_within x1 0 (x2 - 1)) = 0 then fX11_no_b17 1 t_thrown else fX11_no_b17 0 t_thrown
set_option maxRecDepth 100000 in
set_option maxHeartbeats 4000000 in
theorem kX11_no (l : Launch) (D : va_G) (cT : Nat → ClassId) (a_t : Nat) (a_t_now : Nat) (a_t_told : Nat) (a_t_one : Nat) (a_t_other : Nat) (a_t_forth : Nat) (a_t_cost : Nat) (a_t_broken : Nat) (a_t_away : Nat) (a_t_text : Nat) (a_t_worth : Nat) (a_t_choice : Nat) (a_t_thought : Nat) (a_t_before : Nat) (a_t_deep : Nat) (a_t_price : Nat) (a_t_undo : Nat) (a_t_slots : Nat) (a_t_isSaved : Nat) (t_thrown : Int32) (t_length : Int32) (t_textSize : Int32) (t_start : Int32) (t_next : Int32) (t_token : Int32) (t_value : Int32) (t_error : Int32) (t_errorAt : Int32) (t_number : Int32) (t_isFirst : Int32) (t_limitNow : Int32) (t_undos : Int32) (x1 : Int32) (x2 : Int32) (r : Int32 × Int32) (h : fX11_no t_thrown x1 x2 = r) : sM l yX11_no cX11_no 3 (some .boolean) (zR 2) D cT [.ref a_t, .int x1, .int x2] [(a_t, .inr (11, [.int t_thrown, .ref a_t_now, .ref a_t_told, .ref a_t_one, .ref a_t_other, .ref a_t_forth, .ref a_t_cost, .ref a_t_broken, .ref a_t_away, .ref a_t_text, .int t_length, .int t_textSize, .int t_start, .int t_next, .int t_token, .int t_value, .int t_error, .int t_errorAt, .int t_number, .int t_isFirst, .ref a_t_worth, .ref a_t_choice, .ref a_t_thought, .ref a_t_before, .ref a_t_deep, .int t_limitNow, .ref a_t_price, .int t_undos, .ref a_t_undo, .ref a_t_slots, .ref a_t_isSaved]))] (some (.int r.1)) [(a_t, .inr (11, [.int r.2, .ref a_t_now, .ref a_t_told, .ref a_t_one, .ref a_t_other, .ref a_t_forth, .ref a_t_cost, .ref a_t_broken, .ref a_t_away, .ref a_t_text, .int t_length, .int t_textSize, .int t_start, .int t_next, .int t_token, .int t_value, .int t_error, .int t_errorAt, .int t_number, .int t_isFirst, .ref a_t_worth, .ref a_t_choice, .ref a_t_thought, .ref a_t_before, .ref a_t_deep, .int t_limitNow, .ref a_t_price, .int t_undos, .ref a_t_undo, .ref a_t_slots, .ref a_t_isSaved]))] := by
  refine sM_bool rfl (Nat.le_of_ble_eq_true rfl) ?_
  intro X C hE
  have B17 : ∀ (s0 : Int32) (t_thrown : Int32), fX11_no_b17 s0 t_thrown = r → sW X l (zR 2) D 3 0 0 17 [] [.int s0, .ref a_t] [(a_t, .inr (11, [.int t_thrown, .ref a_t_now, .ref a_t_told, .ref a_t_one, .ref a_t_other, .ref a_t_forth, .ref a_t_cost, .ref a_t_broken, .ref a_t_away, .ref a_t_text, .int t_length, .int t_textSize, .int t_start, .int t_next, .int t_token, .int t_value, .int t_error, .int t_errorAt, .int t_number, .int t_isFirst, .ref a_t_worth, .ref a_t_choice, .ref a_t_thought, .ref a_t_before, .ref a_t_deep, .int t_limitNow, .ref a_t_price, .int t_undos, .ref a_t_undo, .ref a_t_slots, .ref a_t_isSaved]))] := by
    intro s0 t_thrown h
    refine xi_iconst C (v := 1) dX11_no_17 rfl ?_
    obtain ⟨u5, hu6⟩ : ∃ z, z = fX11_throwsIf t_thrown s0 1 := ⟨_, rfl⟩
    replace h := nmE hu6 h
    refine xi_callV C (kX11_throwsIf l D cT a_t a_t_now a_t_told a_t_one a_t_other a_t_forth a_t_cost a_t_broken a_t_away a_t_text a_t_worth a_t_choice a_t_thought a_t_before a_t_deep a_t_price a_t_undo a_t_slots a_t_isSaved t_thrown t_length t_textSize t_start t_next t_token t_value t_error t_errorAt t_number t_isFirst t_limitNow t_undos s0 1 u5 hu6.symm) zcX11_throwsIf zmX11_176 ziX11_throwsIf (zr rfl rfl) z00 rfl [0] rfl rfl rfl [some 0] (by decide +kernel) (ws2 := [(a_t, .inr (11, [.int u5.2, .ref a_t_now, .ref a_t_told, .ref a_t_one, .ref a_t_other, .ref a_t_forth, .ref a_t_cost, .ref a_t_broken, .ref a_t_away, .ref a_t_text, .int t_length, .int t_textSize, .int t_start, .int t_next, .int t_token, .int t_value, .int t_error, .int t_errorAt, .int t_number, .int t_isFirst, .ref a_t_worth, .ref a_t_choice, .ref a_t_thought, .ref a_t_before, .ref a_t_deep, .int t_limitNow, .ref a_t_price, .int t_undos, .ref a_t_undo, .ref a_t_slots, .ref a_t_isSaved]))]) rfl zkX11.1 (qr := 0) rfl rfl (Nat.le_of_ble_eq_true rfl) dX11_no_18 (fun z7 => ?_)
    subst h
    exact hE _ _ _ dX11_no_21 rfl (z7 _ rfl _ rfl)
  refine xi_drop (L2 := [(0, .ref a_t), (1, .int x1), (2, .int x2)]) [0, 1, 2] rfl ?_
  refine xi_aload_n C 0 dX11_no_0 rfl ?_
  refine xi_iload_n C 1 dX11_no_1 rfl ?_
  refine xi_iconst C (v := 0) dX11_no_2 rfl ?_
  refine xi_iload_n C 2 dX11_no_3 rfl ?_
  refine xi_iconst C (v := 1) dX11_no_4 rfl ?_
  refine xi_isub C dX11_no_5 ?_
  refine xi_callSr C (kX11_within l D cT x1 0 (x2 - 1) (fX11_within x1 0 (x2 - 1)) rfl) zcX11_within zmX11_113 zsX11_within (zr rfl rfl) z00 rfl [] rfl rfl rfl (Nat.le_of_ble_eq_true rfl) dX11_no_6 (fun z3 => ?_)
  refine xi_if_ne C (tgt := 16) dX11_no_9 rfl (fun c4 => ?_) (fun c4 => ?_)
  · replace h := (if_neg c4).symm.trans h
    refine xi_iconst C (v := 0) dX11_no_16 rfl ?_
    refine xi_drop (L2 := []) [] rfl ?_
    exact B17 0 t_thrown h
  · replace h := (if_pos c4).symm.trans h
    refine xi_iconst C (v := 1) dX11_no_12 rfl ?_
    refine xi_goto C (tgt := 17) dX11_no_13 rfl ?_
    refine xi_drop (L2 := []) [] rfl ?_
    exact B17 1 t_thrown h
def fX11_noLine (t_told : Nat → Int32) (x1 : Int32) : Option (Int32 × Int32) := nm (fX11_no 0 x1 (t_told 1)) (fun u1 => some (u1.1, u1.2))
set_option maxRecDepth 100000 in
set_option maxHeartbeats 4000000 in
theorem kX11_noLine (l : Launch) (D : va_G) (cT : Nat → ClassId) (a_t : Nat) (a_t_now : Nat) (a_t_told : Nat) (a_t_one : Nat) (a_t_other : Nat) (a_t_forth : Nat) (a_t_cost : Nat) (a_t_broken : Nat) (a_t_away : Nat) (a_t_text : Nat) (a_t_worth : Nat) (a_t_choice : Nat) (a_t_thought : Nat) (a_t_before : Nat) (a_t_deep : Nat) (a_t_price : Nat) (a_t_undo : Nat) (a_t_slots : Nat) (a_t_isSaved : Nat) (t_thrown : Int32) (t_length : Int32) (t_textSize : Int32) (t_start : Int32) (t_next : Int32) (t_token : Int32) (t_value : Int32) (t_error : Int32) (t_errorAt : Int32) (t_number : Int32) (t_isFirst : Int32) (t_limitNow : Int32) (t_undos : Int32) (t_told : Nat → Int32) (x1 : Int32) (r : Int32 × Int32) (h : fX11_noLine t_told x1 = some r) : sM l yX11_noLine cX11_noLine 2 (some .boolean) (zR 3) D cT [.ref a_t, .int x1] [(a_t, .inr (11, [.int t_thrown, .ref a_t_now, .ref a_t_told, .ref a_t_one, .ref a_t_other, .ref a_t_forth, .ref a_t_cost, .ref a_t_broken, .ref a_t_away, .ref a_t_text, .int t_length, .int t_textSize, .int t_start, .int t_next, .int t_token, .int t_value, .int t_error, .int t_errorAt, .int t_number, .int t_isFirst, .ref a_t_worth, .ref a_t_choice, .ref a_t_thought, .ref a_t_before, .ref a_t_deep, .int t_limitNow, .ref a_t_price, .int t_undos, .ref a_t_undo, .ref a_t_slots, .ref a_t_isSaved])), (a_t_told, .inl (cT 0, 8, .inl t_told))] (some (.int r.1)) [(a_t, .inr (11, [.int r.2, .ref a_t_now, .ref a_t_told, .ref a_t_one, .ref a_t_other, .ref a_t_forth, .ref a_t_cost, .ref a_t_broken, .ref a_t_away, .ref a_t_text, .int t_length, .int t_textSize, .int t_start, .int t_next, .int t_token, .int t_value, .int t_error, .int t_errorAt, .int t_number, .int t_isFirst, .ref a_t_worth, .ref a_t_choice, .ref a_t_thought, .ref a_t_before, .ref a_t_deep, .int t_limitNow, .ref a_t_price, .int t_undos, .ref a_t_undo, .ref a_t_slots, .ref a_t_isSaved])), (a_t_told, .inl (cT 0, 8, .inl t_told))] := by
  refine sM_bool rfl (Nat.le_of_ble_eq_true rfl) ?_
  intro X C hE
  refine xi_drop (L2 := [(0, .ref a_t), (1, .int x1)]) [0, 1] rfl ?_
  refine xi_aload_n C 0 dX11_noLine_0 rfl ?_
  refine xi_iconst C (v := 0) dX11_noLine_1 rfl ?_
  refine xi_put C zkX11 0 0 zlX11_80 (by decide) rfl rfl rfl rfl (Nat.le_of_ble_eq_true rfl) dX11_noLine_2 (ws2 := [(a_t, .inr (11, [.int 0, .ref a_t_now, .ref a_t_told, .ref a_t_one, .ref a_t_other, .ref a_t_forth, .ref a_t_cost, .ref a_t_broken, .ref a_t_away, .ref a_t_text, .int t_length, .int t_textSize, .int t_start, .int t_next, .int t_token, .int t_value, .int t_error, .int t_errorAt, .int t_number, .int t_isFirst, .ref a_t_worth, .ref a_t_choice, .ref a_t_thought, .ref a_t_before, .ref a_t_deep, .int t_limitNow, .ref a_t_price, .int t_undos, .ref a_t_undo, .ref a_t_slots, .ref a_t_isSaved])), (a_t_told, .inl (cT 0, 8, .inl t_told))]) rfl ?_
  refine xi_aload_n C 0 dX11_noLine_5 rfl ?_
  refine xi_iload_n C 1 dX11_noLine_6 rfl ?_
  refine xi_aload_n C 0 dX11_noLine_7 rfl ?_
  refine xi_get C zkX11 2 0 zlX11_13 (by decide) rfl rfl dX11_noLine_8 ?_
  refine xi_iconst C (v := 1) dX11_noLine_11 rfl ?_
  refine xi_iald C 1 rfl (zv (by decide)) dX11_noLine_12 ?_
  obtain ⟨u1, hu2⟩ : ∃ z, z = fX11_no 0 x1 (t_told 1) := ⟨_, rfl⟩
  replace h := nmE hu2 h
  refine xi_callV C (kX11_no l D cT a_t a_t_now a_t_told a_t_one a_t_other a_t_forth a_t_cost a_t_broken a_t_away a_t_text a_t_worth a_t_choice a_t_thought a_t_before a_t_deep a_t_price a_t_undo a_t_slots a_t_isSaved 0 t_length t_textSize t_start t_next t_token t_value t_error t_errorAt t_number t_isFirst t_limitNow t_undos x1 (t_told 1) u1 hu2.symm) zcX11_no zmX11_189 ziX11_no (zr rfl rfl) z00 rfl [0] rfl rfl rfl [some 0, none] (by decide +kernel) (ws2 := [(a_t, .inr (11, [.int u1.2, .ref a_t_now, .ref a_t_told, .ref a_t_one, .ref a_t_other, .ref a_t_forth, .ref a_t_cost, .ref a_t_broken, .ref a_t_away, .ref a_t_text, .int t_length, .int t_textSize, .int t_start, .int t_next, .int t_token, .int t_value, .int t_error, .int t_errorAt, .int t_number, .int t_isFirst, .ref a_t_worth, .ref a_t_choice, .ref a_t_thought, .ref a_t_before, .ref a_t_deep, .int t_limitNow, .ref a_t_price, .int t_undos, .ref a_t_undo, .ref a_t_slots, .ref a_t_isSaved])), (a_t_told, .inl (cT 0, 8, .inl t_told))]) rfl zkX11.1 (qr := 0) rfl rfl (Nat.le_of_ble_eq_true rfl) dX11_noLine_13 (fun z3 => ?_)
  obtain rfl := Option.some.inj h
  exact hE _ _ _ dX11_noLine_16 rfl (z3 _ rfl _ rfl)
def fX11_noPerson (t_told : Nat → Int32) (x1 : Int32) : Option (Int32 × Int32) := nm (fX11_no 0 x1 (t_told 0)) (fun u1 => some (u1.1, u1.2))
set_option maxRecDepth 100000 in
set_option maxHeartbeats 4000000 in
theorem kX11_noPerson (l : Launch) (D : va_G) (cT : Nat → ClassId) (a_t : Nat) (a_t_now : Nat) (a_t_told : Nat) (a_t_one : Nat) (a_t_other : Nat) (a_t_forth : Nat) (a_t_cost : Nat) (a_t_broken : Nat) (a_t_away : Nat) (a_t_text : Nat) (a_t_worth : Nat) (a_t_choice : Nat) (a_t_thought : Nat) (a_t_before : Nat) (a_t_deep : Nat) (a_t_price : Nat) (a_t_undo : Nat) (a_t_slots : Nat) (a_t_isSaved : Nat) (t_thrown : Int32) (t_length : Int32) (t_textSize : Int32) (t_start : Int32) (t_next : Int32) (t_token : Int32) (t_value : Int32) (t_error : Int32) (t_errorAt : Int32) (t_number : Int32) (t_isFirst : Int32) (t_limitNow : Int32) (t_undos : Int32) (t_told : Nat → Int32) (x1 : Int32) (r : Int32 × Int32) (h : fX11_noPerson t_told x1 = some r) : sM l yX11_noPerson cX11_noPerson 2 (some .boolean) (zR 3) D cT [.ref a_t, .int x1] [(a_t, .inr (11, [.int t_thrown, .ref a_t_now, .ref a_t_told, .ref a_t_one, .ref a_t_other, .ref a_t_forth, .ref a_t_cost, .ref a_t_broken, .ref a_t_away, .ref a_t_text, .int t_length, .int t_textSize, .int t_start, .int t_next, .int t_token, .int t_value, .int t_error, .int t_errorAt, .int t_number, .int t_isFirst, .ref a_t_worth, .ref a_t_choice, .ref a_t_thought, .ref a_t_before, .ref a_t_deep, .int t_limitNow, .ref a_t_price, .int t_undos, .ref a_t_undo, .ref a_t_slots, .ref a_t_isSaved])), (a_t_told, .inl (cT 0, 8, .inl t_told))] (some (.int r.1)) [(a_t, .inr (11, [.int r.2, .ref a_t_now, .ref a_t_told, .ref a_t_one, .ref a_t_other, .ref a_t_forth, .ref a_t_cost, .ref a_t_broken, .ref a_t_away, .ref a_t_text, .int t_length, .int t_textSize, .int t_start, .int t_next, .int t_token, .int t_value, .int t_error, .int t_errorAt, .int t_number, .int t_isFirst, .ref a_t_worth, .ref a_t_choice, .ref a_t_thought, .ref a_t_before, .ref a_t_deep, .int t_limitNow, .ref a_t_price, .int t_undos, .ref a_t_undo, .ref a_t_slots, .ref a_t_isSaved])), (a_t_told, .inl (cT 0, 8, .inl t_told))] := by
  refine sM_bool rfl (Nat.le_of_ble_eq_true rfl) ?_
  intro X C hE
  refine xi_drop (L2 := [(0, .ref a_t), (1, .int x1)]) [0, 1] rfl ?_
  refine xi_aload_n C 0 dX11_noPerson_0 rfl ?_
  refine xi_iconst C (v := 0) dX11_noPerson_1 rfl ?_
  refine xi_put C zkX11 0 0 zlX11_80 (by decide) rfl rfl rfl rfl (Nat.le_of_ble_eq_true rfl) dX11_noPerson_2 (ws2 := [(a_t, .inr (11, [.int 0, .ref a_t_now, .ref a_t_told, .ref a_t_one, .ref a_t_other, .ref a_t_forth, .ref a_t_cost, .ref a_t_broken, .ref a_t_away, .ref a_t_text, .int t_length, .int t_textSize, .int t_start, .int t_next, .int t_token, .int t_value, .int t_error, .int t_errorAt, .int t_number, .int t_isFirst, .ref a_t_worth, .ref a_t_choice, .ref a_t_thought, .ref a_t_before, .ref a_t_deep, .int t_limitNow, .ref a_t_price, .int t_undos, .ref a_t_undo, .ref a_t_slots, .ref a_t_isSaved])), (a_t_told, .inl (cT 0, 8, .inl t_told))]) rfl ?_
  refine xi_aload_n C 0 dX11_noPerson_5 rfl ?_
  refine xi_iload_n C 1 dX11_noPerson_6 rfl ?_
  refine xi_aload_n C 0 dX11_noPerson_7 rfl ?_
  refine xi_get C zkX11 2 0 zlX11_13 (by decide) rfl rfl dX11_noPerson_8 ?_
  refine xi_iconst C (v := 0) dX11_noPerson_11 rfl ?_
  refine xi_iald C 1 rfl (zv (by decide)) dX11_noPerson_12 ?_
  obtain ⟨u1, hu2⟩ : ∃ z, z = fX11_no 0 x1 (t_told 0) := ⟨_, rfl⟩
  replace h := nmE hu2 h
  refine xi_callV C (kX11_no l D cT a_t a_t_now a_t_told a_t_one a_t_other a_t_forth a_t_cost a_t_broken a_t_away a_t_text a_t_worth a_t_choice a_t_thought a_t_before a_t_deep a_t_price a_t_undo a_t_slots a_t_isSaved 0 t_length t_textSize t_start t_next t_token t_value t_error t_errorAt t_number t_isFirst t_limitNow t_undos x1 (t_told 0) u1 hu2.symm) zcX11_no zmX11_189 ziX11_no (zr rfl rfl) z00 rfl [0] rfl rfl rfl [some 0, none] (by decide +kernel) (ws2 := [(a_t, .inr (11, [.int u1.2, .ref a_t_now, .ref a_t_told, .ref a_t_one, .ref a_t_other, .ref a_t_forth, .ref a_t_cost, .ref a_t_broken, .ref a_t_away, .ref a_t_text, .int t_length, .int t_textSize, .int t_start, .int t_next, .int t_token, .int t_value, .int t_error, .int t_errorAt, .int t_number, .int t_isFirst, .ref a_t_worth, .ref a_t_choice, .ref a_t_thought, .ref a_t_before, .ref a_t_deep, .int t_limitNow, .ref a_t_price, .int t_undos, .ref a_t_undo, .ref a_t_slots, .ref a_t_isSaved])), (a_t_told, .inl (cT 0, 8, .inl t_told))]) rfl zkX11.1 (qr := 0) rfl rfl (Nat.le_of_ble_eq_true rfl) dX11_noPerson_13 (fun z3 => ?_)
  obtain rfl := Option.some.inj h
  exact hE _ _ _ dX11_noPerson_16 rfl (z3 _ rfl _ rfl)
def fX11_size_b20 (t_now : Nat → Int32) (t_told : Nat → Int32) (x1 : Int32) (s0 : Int32) (t_thrown : Int32) : Option (Int32 × Int32) := nm (fX11_throwsIf t_thrown s0 1) (fun u5 => if u5.1 = 0 then if x1 = 0 then some (t_told 0, u5.2) else if x1 = 1 then some (t_told 1, u5.2) else if x1 = 2 then some (t_now 0, u5.2) else if x1 = 3 then some (t_now 1, u5.2) else if x1 = 4 then (fX11_many (t_now 2)).bind (fun u14 => some (u14, u5.2)) else (fX11_many (t_now 3)).bind (fun u17 => some (u17, u5.2)) else some (0, u5.2))
def fX11_size (t_now : Nat → Int32) (t_told : Nat → Int32) (x1 : Int32) : Option (Int32 × Int32) := if (fX11_within x1 0 5) = 0 then fX11_size_b20 t_now t_told x1 1 0 else fX11_size_b20 t_now t_told x1 0 0
set_option maxRecDepth 100000 in
set_option maxHeartbeats 4000000 in
theorem kX11_size (l : Launch) (D : va_G) (cT : Nat → ClassId) (a_t : Nat) (a_t_now : Nat) (a_t_told : Nat) (a_t_one : Nat) (a_t_other : Nat) (a_t_forth : Nat) (a_t_cost : Nat) (a_t_broken : Nat) (a_t_away : Nat) (a_t_text : Nat) (a_t_worth : Nat) (a_t_choice : Nat) (a_t_thought : Nat) (a_t_before : Nat) (a_t_deep : Nat) (a_t_price : Nat) (a_t_undo : Nat) (a_t_slots : Nat) (a_t_isSaved : Nat) (t_thrown : Int32) (t_length : Int32) (t_textSize : Int32) (t_start : Int32) (t_next : Int32) (t_token : Int32) (t_value : Int32) (t_error : Int32) (t_errorAt : Int32) (t_number : Int32) (t_isFirst : Int32) (t_limitNow : Int32) (t_undos : Int32) (t_now : Nat → Int32) (t_told : Nat → Int32) (x1 : Int32) (r : Int32 × Int32) (h : fX11_size t_now t_told x1 = some r) : sM l yX11_size cX11_size 2 (some .int) (zR 2) D cT [.ref a_t, .int x1] [(a_t, .inr (11, [.int t_thrown, .ref a_t_now, .ref a_t_told, .ref a_t_one, .ref a_t_other, .ref a_t_forth, .ref a_t_cost, .ref a_t_broken, .ref a_t_away, .ref a_t_text, .int t_length, .int t_textSize, .int t_start, .int t_next, .int t_token, .int t_value, .int t_error, .int t_errorAt, .int t_number, .int t_isFirst, .ref a_t_worth, .ref a_t_choice, .ref a_t_thought, .ref a_t_before, .ref a_t_deep, .int t_limitNow, .ref a_t_price, .int t_undos, .ref a_t_undo, .ref a_t_slots, .ref a_t_isSaved])), (a_t_now, .inl (cT 0, 514, .inl t_now)), (a_t_told, .inl (cT 0, 8, .inl t_told))] (some (.int r.1)) [(a_t, .inr (11, [.int r.2, .ref a_t_now, .ref a_t_told, .ref a_t_one, .ref a_t_other, .ref a_t_forth, .ref a_t_cost, .ref a_t_broken, .ref a_t_away, .ref a_t_text, .int t_length, .int t_textSize, .int t_start, .int t_next, .int t_token, .int t_value, .int t_error, .int t_errorAt, .int t_number, .int t_isFirst, .ref a_t_worth, .ref a_t_choice, .ref a_t_thought, .ref a_t_before, .ref a_t_deep, .int t_limitNow, .ref a_t_price, .int t_undos, .ref a_t_undo, .ref a_t_slots, .ref a_t_isSaved])), (a_t_now, .inl (cT 0, 514, .inl t_now)), (a_t_told, .inl (cT 0, 8, .inl t_told))] := by
  refine sM_int rfl (Nat.le_of_ble_eq_true rfl) ?_
  intro X C hE
  have B20 : ∀ (s0 : Int32) (t_thrown : Int32), fX11_size_b20 t_now t_told x1 s0 t_thrown = some r → sW X l (zR 2) D 2 0 0 20 [(0, .ref a_t), (1, .int x1)] [.int s0, .ref a_t] [(a_t, .inr (11, [.int t_thrown, .ref a_t_now, .ref a_t_told, .ref a_t_one, .ref a_t_other, .ref a_t_forth, .ref a_t_cost, .ref a_t_broken, .ref a_t_away, .ref a_t_text, .int t_length, .int t_textSize, .int t_start, .int t_next, .int t_token, .int t_value, .int t_error, .int t_errorAt, .int t_number, .int t_isFirst, .ref a_t_worth, .ref a_t_choice, .ref a_t_thought, .ref a_t_before, .ref a_t_deep, .int t_limitNow, .ref a_t_price, .int t_undos, .ref a_t_undo, .ref a_t_slots, .ref a_t_isSaved])), (a_t_now, .inl (cT 0, 514, .inl t_now)), (a_t_told, .inl (cT 0, 8, .inl t_told))] := by
    intro s0 t_thrown h
    refine xi_iconst C (v := 1) dX11_size_20 rfl ?_
    obtain ⟨u5, hu6⟩ : ∃ z, z = fX11_throwsIf t_thrown s0 1 := ⟨_, rfl⟩
    replace h := nmE hu6 h
    refine xi_callV C (kX11_throwsIf l D cT a_t a_t_now a_t_told a_t_one a_t_other a_t_forth a_t_cost a_t_broken a_t_away a_t_text a_t_worth a_t_choice a_t_thought a_t_before a_t_deep a_t_price a_t_undo a_t_slots a_t_isSaved t_thrown t_length t_textSize t_start t_next t_token t_value t_error t_errorAt t_number t_isFirst t_limitNow t_undos s0 1 u5 hu6.symm) zcX11_throwsIf zmX11_176 ziX11_throwsIf (zr rfl rfl) z00 rfl [0] rfl rfl rfl [some 0, none, none] (by decide +kernel) (ws2 := [(a_t, .inr (11, [.int u5.2, .ref a_t_now, .ref a_t_told, .ref a_t_one, .ref a_t_other, .ref a_t_forth, .ref a_t_cost, .ref a_t_broken, .ref a_t_away, .ref a_t_text, .int t_length, .int t_textSize, .int t_start, .int t_next, .int t_token, .int t_value, .int t_error, .int t_errorAt, .int t_number, .int t_isFirst, .ref a_t_worth, .ref a_t_choice, .ref a_t_thought, .ref a_t_before, .ref a_t_deep, .int t_limitNow, .ref a_t_price, .int t_undos, .ref a_t_undo, .ref a_t_slots, .ref a_t_isSaved])), (a_t_now, .inl (cT 0, 514, .inl t_now)), (a_t_told, .inl (cT 0, 8, .inl t_told))]) rfl zkX11.1 (qr := 0) rfl rfl (Nat.le_of_ble_eq_true rfl) dX11_size_21 (fun z7 => ?_)
    refine xi_if_eq C (tgt := 29) dX11_size_24 rfl (fun c8 => ?_) (fun c8 => ?_)
    · replace h := (if_pos c8).symm.trans h
      refine xi_iload_n C 1 dX11_size_29 rfl ?_
      by_cases c9 : x1 = 0
      · replace h := (if_pos c9).symm.trans h
        refine xi_tabEq C 0 c9 dX11_size_30 (by decide) (by decide) rfl (tgt := 64) rfl ?_
        refine xi_aload_n C 0 dX11_size_64 rfl ?_
        refine xi_get C zkX11 2 0 zlX11_13 (by decide) rfl rfl dX11_size_65 ?_
        refine xi_iconst C (v := 0) dX11_size_68 rfl ?_
        refine xi_iald C 2 rfl (zv (by decide)) dX11_size_69 ?_
        obtain rfl := Option.some.inj h
        exact hE _ _ _ dX11_size_70 rfl
      · replace h := (if_neg c9).symm.trans h
        by_cases c10 : x1 = 1
        · replace h := (if_pos c10).symm.trans h
          refine xi_tabEq C 1 c10 dX11_size_30 (by decide) (by decide) rfl (tgt := 71) rfl ?_
          refine xi_aload_n C 0 dX11_size_71 rfl ?_
          refine xi_get C zkX11 2 0 zlX11_13 (by decide) rfl rfl dX11_size_72 ?_
          refine xi_iconst C (v := 1) dX11_size_75 rfl ?_
          refine xi_iald C 2 rfl (zv (by decide)) dX11_size_76 ?_
          obtain rfl := Option.some.inj h
          exact hE _ _ _ dX11_size_77 rfl
        · replace h := (if_neg c10).symm.trans h
          by_cases c11 : x1 = 2
          · replace h := (if_pos c11).symm.trans h
            refine xi_tabEq C 2 c11 dX11_size_30 (by decide) (by decide) rfl (tgt := 78) rfl ?_
            refine xi_aload_n C 0 dX11_size_78 rfl ?_
            refine xi_get C zkX11 1 0 zlX11_7 (by decide) rfl rfl dX11_size_79 ?_
            refine xi_iconst C (v := 0) dX11_size_82 rfl ?_
            refine xi_iald C 1 rfl (zv (by decide)) dX11_size_83 ?_
            obtain rfl := Option.some.inj h
            exact hE _ _ _ dX11_size_84 rfl
          · replace h := (if_neg c11).symm.trans h
            by_cases c12 : x1 = 3
            · replace h := (if_pos c12).symm.trans h
              refine xi_tabEq C 3 c12 dX11_size_30 (by decide) (by decide) rfl (tgt := 85) rfl ?_
              refine xi_aload_n C 0 dX11_size_85 rfl ?_
              refine xi_get C zkX11 1 0 zlX11_7 (by decide) rfl rfl dX11_size_86 ?_
              refine xi_iconst C (v := 1) dX11_size_89 rfl ?_
              refine xi_iald C 1 rfl (zv (by decide)) dX11_size_90 ?_
              obtain rfl := Option.some.inj h
              exact hE _ _ _ dX11_size_91 rfl
            · replace h := (if_neg c12).symm.trans h
              by_cases c13 : x1 = 4
              · replace h := (if_pos c13).symm.trans h
                refine xi_tabEq C 4 c13 dX11_size_30 (by decide) (by decide) rfl (tgt := 92) rfl ?_
                refine xi_aload_n C 0 dX11_size_92 rfl ?_
                refine xi_get C zkX11 1 0 zlX11_7 (by decide) rfl rfl dX11_size_93 ?_
                refine xi_iconst C (v := 2) dX11_size_96 rfl ?_
                refine xi_iald C 1 rfl (zv (by decide)) dX11_size_97 ?_
                replace h := ob h
                obtain ⟨u14, hu15, h⟩ := h
                refine xi_callSr C (kX11_many l D cT (t_now 2) u14 hu15) zcX11_many zmX11_192 zsX11_many (zr rfl rfl) z00 rfl [] rfl rfl rfl (Nat.le_of_ble_eq_true rfl) dX11_size_98 (fun z16 => ?_)
                obtain rfl := Option.some.inj h
                exact hE _ _ _ dX11_size_101 rfl
              · replace h := (if_neg c13).symm.trans h
                refine xi_tableOut C dX11_size_30 (ztab (by decide) (by decide) (fun i hi => zsw5 i hi c9 c10 c11 c12 c13)) (tgt := 102) rfl ?_
                refine xi_aload_n C 0 dX11_size_102 rfl ?_
                refine xi_get C zkX11 1 0 zlX11_7 (by decide) rfl rfl dX11_size_103 ?_
                refine xi_iconst C (v := 3) dX11_size_106 rfl ?_
                refine xi_iald C 1 rfl (zv (by decide)) dX11_size_107 ?_
                replace h := ob h
                obtain ⟨u17, hu18, h⟩ := h
                refine xi_callSr C (kX11_many l D cT (t_now 3) u17 hu18) zcX11_many zmX11_192 zsX11_many (zr rfl rfl) z00 rfl [] rfl rfl rfl (Nat.le_of_ble_eq_true rfl) dX11_size_108 (fun z19 => ?_)
                obtain rfl := Option.some.inj h
                exact hE _ _ _ dX11_size_111 rfl
    · replace h := (if_neg c8).symm.trans h
      refine xi_iconst C (v := 0) dX11_size_27 rfl ?_
      obtain rfl := Option.some.inj h
      exact hE _ _ _ dX11_size_28 rfl
  refine xi_drop (L2 := [(0, .ref a_t), (1, .int x1)]) [0, 1] rfl ?_
  refine xi_aload_n C 0 dX11_size_0 rfl ?_
  refine xi_iconst C (v := 0) dX11_size_1 rfl ?_
  refine xi_put C zkX11 0 0 zlX11_80 (by decide) rfl rfl rfl rfl (Nat.le_of_ble_eq_true rfl) dX11_size_2 (ws2 := [(a_t, .inr (11, [.int 0, .ref a_t_now, .ref a_t_told, .ref a_t_one, .ref a_t_other, .ref a_t_forth, .ref a_t_cost, .ref a_t_broken, .ref a_t_away, .ref a_t_text, .int t_length, .int t_textSize, .int t_start, .int t_next, .int t_token, .int t_value, .int t_error, .int t_errorAt, .int t_number, .int t_isFirst, .ref a_t_worth, .ref a_t_choice, .ref a_t_thought, .ref a_t_before, .ref a_t_deep, .int t_limitNow, .ref a_t_price, .int t_undos, .ref a_t_undo, .ref a_t_slots, .ref a_t_isSaved])), (a_t_now, .inl (cT 0, 514, .inl t_now)), (a_t_told, .inl (cT 0, 8, .inl t_told))]) rfl ?_
  refine xi_aload_n C 0 dX11_size_5 rfl ?_
  refine xi_iload_n C 1 dX11_size_6 rfl ?_
  refine xi_iconst C (v := 0) dX11_size_7 rfl ?_
  refine xi_iconst C (v := 5) dX11_size_8 rfl ?_
  refine xi_callSr C (kX11_within l D cT x1 0 5 (fX11_within x1 0 5) rfl) zcX11_within zmX11_113 zsX11_within (zr rfl rfl) z00 rfl [] rfl rfl rfl (Nat.le_of_ble_eq_true rfl) dX11_size_9 (fun z3 => ?_)
  refine xi_if_ne C (tgt := 19) dX11_size_12 rfl (fun c4 => ?_) (fun c4 => ?_)
  · replace h := (if_neg c4).symm.trans h
    refine xi_iconst C (v := 0) dX11_size_19 rfl ?_
    exact B20 0 0 h
  · replace h := (if_pos c4).symm.trans h
    refine xi_iconst C (v := 1) dX11_size_15 rfl ?_
    refine xi_goto C (tgt := 20) dX11_size_16 rfl ?_
    exact B20 1 0 h
def fX11_brokenOf_b32 (K4 : Int32 → Int32 → Option Int32) (y3 : Int32) (s0 : Int32) (s1 : Int32) : Option Int32 := K4 (s1 + s0) (y3 + 1)
def fX11_brokenOf_b4 (t_told : Nat → Int32) (t_broken : Nat → Int32) (x1 : Int32) : Nat → Int32 → Int32 → Option Int32
  | 0, _, _ => none
  | n + 1, y2, y3 => if (t_told 2) ≤ y3 then some y2 else gd (3 * y3) 72 (if (t_broken (3 * y3).toNatClampNeg) = x1 then fX11_brokenOf_b32 (fX11_brokenOf_b4 t_told t_broken x1 n) y3 1 y2 else fX11_brokenOf_b32 (fX11_brokenOf_b4 t_told t_broken x1 n) y3 0 y2)
theorem fX11_brokenOf_b4_0 (t_told : Nat → Int32) (t_broken : Nat → Int32) (x1 : Int32) (y2 : Int32) (y3 : Int32) : fX11_brokenOf_b4 t_told t_broken x1 0 y2 y3 = none := rfl
theorem fX11_brokenOf_b4_s (t_told : Nat → Int32) (t_broken : Nat → Int32) (x1 : Int32) (n : Nat) (y2 : Int32) (y3 : Int32) : fX11_brokenOf_b4 t_told t_broken x1 (n + 1) y2 y3 = (if (t_told 2) ≤ y3 then some y2 else gd (3 * y3) 72 (if (t_broken (3 * y3).toNatClampNeg) = x1 then fX11_brokenOf_b32 (fX11_brokenOf_b4 t_told t_broken x1 n) y3 1 y2 else fX11_brokenOf_b32 (fX11_brokenOf_b4 t_told t_broken x1 n) y3 0 y2)) := rfl
def fX11_brokenOf (t_told : Nat → Int32) (t_broken : Nat → Int32) (x1 : Int32) : Option Int32 := fX11_brokenOf_b4 t_told t_broken x1 FU 0 0
set_option maxRecDepth 100000 in
set_option maxHeartbeats 4000000 in
theorem kX11_brokenOf (l : Launch) (D : va_G) (cT : Nat → ClassId) (a_t : Nat) (a_t_now : Nat) (a_t_told : Nat) (a_t_one : Nat) (a_t_other : Nat) (a_t_forth : Nat) (a_t_cost : Nat) (a_t_broken : Nat) (a_t_away : Nat) (a_t_text : Nat) (a_t_worth : Nat) (a_t_choice : Nat) (a_t_thought : Nat) (a_t_before : Nat) (a_t_deep : Nat) (a_t_price : Nat) (a_t_undo : Nat) (a_t_slots : Nat) (a_t_isSaved : Nat) (t_thrown : Int32) (t_length : Int32) (t_textSize : Int32) (t_start : Int32) (t_next : Int32) (t_token : Int32) (t_value : Int32) (t_error : Int32) (t_errorAt : Int32) (t_number : Int32) (t_isFirst : Int32) (t_limitNow : Int32) (t_undos : Int32) (t_told : Nat → Int32) (t_broken : Nat → Int32) (x1 : Int32) (r : Int32) (h : fX11_brokenOf t_told t_broken x1 = some r) : sM l yX11_brokenOf cX11_brokenOf 4 (some .int) (zR 1) D cT [.ref a_t, .int x1] [(a_t, .inr (11, [.int t_thrown, .ref a_t_now, .ref a_t_told, .ref a_t_one, .ref a_t_other, .ref a_t_forth, .ref a_t_cost, .ref a_t_broken, .ref a_t_away, .ref a_t_text, .int t_length, .int t_textSize, .int t_start, .int t_next, .int t_token, .int t_value, .int t_error, .int t_errorAt, .int t_number, .int t_isFirst, .ref a_t_worth, .ref a_t_choice, .ref a_t_thought, .ref a_t_before, .ref a_t_deep, .int t_limitNow, .ref a_t_price, .int t_undos, .ref a_t_undo, .ref a_t_slots, .ref a_t_isSaved])), (a_t_told, .inl (cT 0, 8, .inl t_told)), (a_t_broken, .inl (cT 0, 72, .inl t_broken))] (some (.int r)) [(a_t, .inr (11, [.int t_thrown, .ref a_t_now, .ref a_t_told, .ref a_t_one, .ref a_t_other, .ref a_t_forth, .ref a_t_cost, .ref a_t_broken, .ref a_t_away, .ref a_t_text, .int t_length, .int t_textSize, .int t_start, .int t_next, .int t_token, .int t_value, .int t_error, .int t_errorAt, .int t_number, .int t_isFirst, .ref a_t_worth, .ref a_t_choice, .ref a_t_thought, .ref a_t_before, .ref a_t_deep, .int t_limitNow, .ref a_t_price, .int t_undos, .ref a_t_undo, .ref a_t_slots, .ref a_t_isSaved])), (a_t_told, .inl (cT 0, 8, .inl t_told)), (a_t_broken, .inl (cT 0, 72, .inl t_broken))] := by
  refine sM_int rfl (Nat.le_of_ble_eq_true rfl) ?_
  intro X C hE
  have B32 : ∀ (K4 : Int32 → Int32 → Option Int32) (hK4 : ∀ (y2 : Int32) (y3 : Int32), K4 y2 y3 = some r → sW X l (zR 1) D 4 0 0 4 [(0, .ref a_t), (1, .int x1), (2, .int y2), (3, .int y3)] [] [(a_t, .inr (11, [.int t_thrown, .ref a_t_now, .ref a_t_told, .ref a_t_one, .ref a_t_other, .ref a_t_forth, .ref a_t_cost, .ref a_t_broken, .ref a_t_away, .ref a_t_text, .int t_length, .int t_textSize, .int t_start, .int t_next, .int t_token, .int t_value, .int t_error, .int t_errorAt, .int t_number, .int t_isFirst, .ref a_t_worth, .ref a_t_choice, .ref a_t_thought, .ref a_t_before, .ref a_t_deep, .int t_limitNow, .ref a_t_price, .int t_undos, .ref a_t_undo, .ref a_t_slots, .ref a_t_isSaved])), (a_t_told, .inl (cT 0, 8, .inl t_told)), (a_t_broken, .inl (cT 0, 72, .inl t_broken))]) (y3 : Int32) (s0 : Int32) (s1 : Int32), fX11_brokenOf_b32 K4 y3 s0 s1 = some r → sW X l (zR 1) D 4 0 0 32 [(0, .ref a_t), (1, .int x1), (3, .int y3)] [.int s0, .int s1] [(a_t, .inr (11, [.int t_thrown, .ref a_t_now, .ref a_t_told, .ref a_t_one, .ref a_t_other, .ref a_t_forth, .ref a_t_cost, .ref a_t_broken, .ref a_t_away, .ref a_t_text, .int t_length, .int t_textSize, .int t_start, .int t_next, .int t_token, .int t_value, .int t_error, .int t_errorAt, .int t_number, .int t_isFirst, .ref a_t_worth, .ref a_t_choice, .ref a_t_thought, .ref a_t_before, .ref a_t_deep, .int t_limitNow, .ref a_t_price, .int t_undos, .ref a_t_undo, .ref a_t_slots, .ref a_t_isSaved])), (a_t_told, .inl (cT 0, 8, .inl t_told)), (a_t_broken, .inl (cT 0, 72, .inl t_broken))] := by
    intro K4 hK4 y3 s0 s1 h
    refine xi_iadd C dX11_brokenOf_32 ?_
    refine xi_istore_n C [1, 2, 0, 3] (L2 := [(0, .ref a_t), (1, .int x1), (2, .int (s1 + s0)), (3, .int y3)]) dX11_brokenOf_33 (Nat.le_of_ble_eq_true rfl) rfl ?_
    refine xi_iinc C (v := y3 + 1) 3 [1, 2, 3, 0] (L2 := [(0, .ref a_t), (1, .int x1), (2, .int (s1 + s0)), (3, .int (y3 + 1))]) dX11_brokenOf_34 rfl rfl (Nat.le_of_ble_eq_true rfl) rfl ?_
    refine xi_goto C (tgt := 4) dX11_brokenOf_37 rfl ?_
    exact hK4 (s1 + s0) (y3 + 1) h
  have B4 : ∀ (n : Nat) (y2 : Int32) (y3 : Int32), fX11_brokenOf_b4 t_told t_broken x1 n y2 y3 = some r → sW X l (zR 1) D 4 0 0 4 [(0, .ref a_t), (1, .int x1), (2, .int y2), (3, .int y3)] [] [(a_t, .inr (11, [.int t_thrown, .ref a_t_now, .ref a_t_told, .ref a_t_one, .ref a_t_other, .ref a_t_forth, .ref a_t_cost, .ref a_t_broken, .ref a_t_away, .ref a_t_text, .int t_length, .int t_textSize, .int t_start, .int t_next, .int t_token, .int t_value, .int t_error, .int t_errorAt, .int t_number, .int t_isFirst, .ref a_t_worth, .ref a_t_choice, .ref a_t_thought, .ref a_t_before, .ref a_t_deep, .int t_limitNow, .ref a_t_price, .int t_undos, .ref a_t_undo, .ref a_t_slots, .ref a_t_isSaved])), (a_t_told, .inl (cT 0, 8, .inl t_told)), (a_t_broken, .inl (cT 0, 72, .inl t_broken))] := by
    intro n
    induction n with
    | zero =>
      intro y2 y3 h
      exact zno ((fX11_brokenOf_b4_0 _ _ _ _ _).symm.trans h)
    | succ n ih =>
      intro y2 y3 h
      replace h := (fX11_brokenOf_b4_s _ _ _ _ _ _).symm.trans h
      refine xi_iload_n C 3 dX11_brokenOf_4 rfl ?_
      refine xi_aload_n C 0 dX11_brokenOf_5 rfl ?_
      refine xi_get C zkX11 2 0 zlX11_13 (by decide) rfl rfl dX11_brokenOf_6 ?_
      refine xi_iconst C (v := 2) dX11_brokenOf_9 rfl ?_
      refine xi_iald C 1 rfl (zv (by decide)) dX11_brokenOf_10 ?_
      refine xi_icmp_ge C (tgt := 40) dX11_brokenOf_11 rfl (fun c1 => ?_) (fun c1 => ?_)
      · replace h := (if_pos c1).symm.trans h
        refine xi_iload_n C 2 dX11_brokenOf_40 rfl ?_
        obtain rfl := Option.some.inj h
        exact hE _ _ _ dX11_brokenOf_41 rfl
      · replace h := (if_neg c1).symm.trans h
        refine xi_iload_n C 2 dX11_brokenOf_14 rfl ?_
        refine xi_aload_n C 0 dX11_brokenOf_15 rfl ?_
        refine xi_get C zkX11 7 0 zlX11_28 (by decide) rfl rfl dX11_brokenOf_16 ?_
        refine xi_iconst C (v := 3) dX11_brokenOf_19 rfl ?_
        refine xi_iload_n C 3 dX11_brokenOf_20 rfl ?_
        refine xi_imul C dX11_brokenOf_21 ?_
        replace h := ig h
        obtain ⟨c2, h⟩ := h
        refine xi_iald C 2 rfl c2 dX11_brokenOf_22 ?_
        refine xi_iload_n C 1 dX11_brokenOf_23 rfl ?_
        refine xi_icmp_ne C (tgt := 31) dX11_brokenOf_24 rfl (fun c3 => ?_) (fun c3 => ?_)
        · replace h := (if_neg c3).symm.trans h
          refine xi_iconst C (v := 0) dX11_brokenOf_31 rfl ?_
          refine xi_drop (L2 := [(0, .ref a_t), (1, .int x1), (3, .int y3)]) [0, 1, 3] rfl ?_
          exact B32 (fX11_brokenOf_b4 t_told t_broken x1 n) ih y3 0 y2 h
        · replace h := (if_pos c3).symm.trans h
          refine xi_iconst C (v := 1) dX11_brokenOf_27 rfl ?_
          refine xi_goto C (tgt := 32) dX11_brokenOf_28 rfl ?_
          refine xi_drop (L2 := [(0, .ref a_t), (1, .int x1), (3, .int y3)]) [0, 1, 3] rfl ?_
          exact B32 (fX11_brokenOf_b4 t_told t_broken x1 n) ih y3 1 y2 h
  refine xi_drop (L2 := [(0, .ref a_t), (1, .int x1)]) [0, 1] rfl ?_
  refine xi_iconst C (v := 0) dX11_brokenOf_0 rfl ?_
  refine xi_istore_n C [1, 2, 0] (L2 := [(0, .ref a_t), (1, .int x1), (2, .int 0)]) dX11_brokenOf_1 (Nat.le_of_ble_eq_true rfl) rfl ?_
  refine xi_iconst C (v := 0) dX11_brokenOf_2 rfl ?_
  refine xi_istore_n C [1, 2, 3, 0] (L2 := [(0, .ref a_t), (1, .int x1), (2, .int 0), (3, .int 0)]) dX11_brokenOf_3 (Nat.le_of_ble_eq_true rfl) rfl ?_
  exact B4 FU 0 0 h
def fX11_line_b24 (t_now : Nat → Int32) (t_told : Nat → Int32) (t_one : Nat → Int32) (t_other : Nat → Int32) (t_forth : Nat → Int32) (t_cost : Nat → Int32) (t_broken : Nat → Int32) (x1 : Int32) (x2 : Int32) (s0 : Int32) (t_thrown : Int32) : Option (Int32 × Int32) := nm (fX11_throwsIf t_thrown s0 2) (fun u9 => if u9.1 = 0 then if x2 = 0 then gd x1 48 (some (t_one x1.toNatClampNeg, u9.2)) else if x2 = 1 then gd x1 48 (some (t_other x1.toNatClampNeg, u9.2)) else if x2 = 2 then gd x1 48 (some (t_forth x1.toNatClampNeg, u9.2)) else if x2 = 3 then gd x1 48 (some (t_cost x1.toNatClampNeg, u9.2)) else if x2 = 4 then some (((t_now 3) >>> (x1 &&& 31)) &&& 1, u9.2) else if x2 = 5 then some (((t_now 2) >>> (x1 &&& 31)) &&& 1, u9.2) else (fX11_brokenOf t_told t_broken x1).bind (fun u23 => some (u23, u9.2)) else some (0, u9.2))
def fX11_line (t_now : Nat → Int32) (t_told : Nat → Int32) (t_one : Nat → Int32) (t_other : Nat → Int32) (t_forth : Nat → Int32) (t_cost : Nat → Int32) (t_broken : Nat → Int32) (x1 : Int32) (x2 : Int32) : Option (Int32 × Int32) := (fX11_noLine t_told x1).bind (fun u1 => if u1.1 = 0 then if (fX11_within x2 0 6) = 0 then fX11_line_b24 t_now t_told t_one t_other t_forth t_cost t_broken x1 x2 1 u1.2 else fX11_line_b24 t_now t_told t_one t_other t_forth t_cost t_broken x1 x2 0 u1.2 else some (0, u1.2))
set_option maxRecDepth 100000 in
set_option maxHeartbeats 4000000 in
theorem kX11_line (l : Launch) (D : va_G) (cT : Nat → ClassId) (a_t : Nat) (a_t_now : Nat) (a_t_told : Nat) (a_t_one : Nat) (a_t_other : Nat) (a_t_forth : Nat) (a_t_cost : Nat) (a_t_broken : Nat) (a_t_away : Nat) (a_t_text : Nat) (a_t_worth : Nat) (a_t_choice : Nat) (a_t_thought : Nat) (a_t_before : Nat) (a_t_deep : Nat) (a_t_price : Nat) (a_t_undo : Nat) (a_t_slots : Nat) (a_t_isSaved : Nat) (t_thrown : Int32) (t_length : Int32) (t_textSize : Int32) (t_start : Int32) (t_next : Int32) (t_token : Int32) (t_value : Int32) (t_error : Int32) (t_errorAt : Int32) (t_number : Int32) (t_isFirst : Int32) (t_limitNow : Int32) (t_undos : Int32) (t_now : Nat → Int32) (t_told : Nat → Int32) (t_one : Nat → Int32) (t_other : Nat → Int32) (t_forth : Nat → Int32) (t_cost : Nat → Int32) (t_broken : Nat → Int32) (x1 : Int32) (x2 : Int32) (r : Int32 × Int32) (h : fX11_line t_now t_told t_one t_other t_forth t_cost t_broken x1 x2 = some r) : sM l yX11_line cX11_line 3 (some .int) (zR 4) D cT [.ref a_t, .int x1, .int x2] [(a_t, .inr (11, [.int t_thrown, .ref a_t_now, .ref a_t_told, .ref a_t_one, .ref a_t_other, .ref a_t_forth, .ref a_t_cost, .ref a_t_broken, .ref a_t_away, .ref a_t_text, .int t_length, .int t_textSize, .int t_start, .int t_next, .int t_token, .int t_value, .int t_error, .int t_errorAt, .int t_number, .int t_isFirst, .ref a_t_worth, .ref a_t_choice, .ref a_t_thought, .ref a_t_before, .ref a_t_deep, .int t_limitNow, .ref a_t_price, .int t_undos, .ref a_t_undo, .ref a_t_slots, .ref a_t_isSaved])), (a_t_now, .inl (cT 0, 514, .inl t_now)), (a_t_told, .inl (cT 0, 8, .inl t_told)), (a_t_one, .inl (cT 0, 48, .inl t_one)), (a_t_other, .inl (cT 0, 48, .inl t_other)), (a_t_forth, .inl (cT 0, 48, .inl t_forth)), (a_t_cost, .inl (cT 0, 48, .inl t_cost)), (a_t_broken, .inl (cT 0, 72, .inl t_broken))] (some (.int r.1)) [(a_t, .inr (11, [.int r.2, .ref a_t_now, .ref a_t_told, .ref a_t_one, .ref a_t_other, .ref a_t_forth, .ref a_t_cost, .ref a_t_broken, .ref a_t_away, .ref a_t_text, .int t_length, .int t_textSize, .int t_start, .int t_next, .int t_token, .int t_value, .int t_error, .int t_errorAt, .int t_number, .int t_isFirst, .ref a_t_worth, .ref a_t_choice, .ref a_t_thought, .ref a_t_before, .ref a_t_deep, .int t_limitNow, .ref a_t_price, .int t_undos, .ref a_t_undo, .ref a_t_slots, .ref a_t_isSaved])), (a_t_now, .inl (cT 0, 514, .inl t_now)), (a_t_told, .inl (cT 0, 8, .inl t_told)), (a_t_one, .inl (cT 0, 48, .inl t_one)), (a_t_other, .inl (cT 0, 48, .inl t_other)), (a_t_forth, .inl (cT 0, 48, .inl t_forth)), (a_t_cost, .inl (cT 0, 48, .inl t_cost)), (a_t_broken, .inl (cT 0, 72, .inl t_broken))] := by
  refine sM_int rfl (Nat.le_of_ble_eq_true rfl) ?_
  intro X C hE
  have B24 : ∀ (s0 : Int32) (t_thrown : Int32), fX11_line_b24 t_now t_told t_one t_other t_forth t_cost t_broken x1 x2 s0 t_thrown = some r → sW X l (zR 4) D 3 0 0 24 [(0, .ref a_t), (1, .int x1), (2, .int x2)] [.int s0, .ref a_t] [(a_t, .inr (11, [.int t_thrown, .ref a_t_now, .ref a_t_told, .ref a_t_one, .ref a_t_other, .ref a_t_forth, .ref a_t_cost, .ref a_t_broken, .ref a_t_away, .ref a_t_text, .int t_length, .int t_textSize, .int t_start, .int t_next, .int t_token, .int t_value, .int t_error, .int t_errorAt, .int t_number, .int t_isFirst, .ref a_t_worth, .ref a_t_choice, .ref a_t_thought, .ref a_t_before, .ref a_t_deep, .int t_limitNow, .ref a_t_price, .int t_undos, .ref a_t_undo, .ref a_t_slots, .ref a_t_isSaved])), (a_t_now, .inl (cT 0, 514, .inl t_now)), (a_t_told, .inl (cT 0, 8, .inl t_told)), (a_t_one, .inl (cT 0, 48, .inl t_one)), (a_t_other, .inl (cT 0, 48, .inl t_other)), (a_t_forth, .inl (cT 0, 48, .inl t_forth)), (a_t_cost, .inl (cT 0, 48, .inl t_cost)), (a_t_broken, .inl (cT 0, 72, .inl t_broken))] := by
    intro s0 t_thrown h
    refine xi_iconst C (v := 2) dX11_line_24 rfl ?_
    obtain ⟨u9, hu10⟩ : ∃ z, z = fX11_throwsIf t_thrown s0 2 := ⟨_, rfl⟩
    replace h := nmE hu10 h
    refine xi_callV C (kX11_throwsIf l D cT a_t a_t_now a_t_told a_t_one a_t_other a_t_forth a_t_cost a_t_broken a_t_away a_t_text a_t_worth a_t_choice a_t_thought a_t_before a_t_deep a_t_price a_t_undo a_t_slots a_t_isSaved t_thrown t_length t_textSize t_start t_next t_token t_value t_error t_errorAt t_number t_isFirst t_limitNow t_undos s0 2 u9 hu10.symm) zcX11_throwsIf zmX11_176 ziX11_throwsIf (zr rfl rfl) z00 rfl [0] rfl rfl rfl [some 0, none, none, none, none, none, none, none] (by decide +kernel) (ws2 := [(a_t, .inr (11, [.int u9.2, .ref a_t_now, .ref a_t_told, .ref a_t_one, .ref a_t_other, .ref a_t_forth, .ref a_t_cost, .ref a_t_broken, .ref a_t_away, .ref a_t_text, .int t_length, .int t_textSize, .int t_start, .int t_next, .int t_token, .int t_value, .int t_error, .int t_errorAt, .int t_number, .int t_isFirst, .ref a_t_worth, .ref a_t_choice, .ref a_t_thought, .ref a_t_before, .ref a_t_deep, .int t_limitNow, .ref a_t_price, .int t_undos, .ref a_t_undo, .ref a_t_slots, .ref a_t_isSaved])), (a_t_now, .inl (cT 0, 514, .inl t_now)), (a_t_told, .inl (cT 0, 8, .inl t_told)), (a_t_one, .inl (cT 0, 48, .inl t_one)), (a_t_other, .inl (cT 0, 48, .inl t_other)), (a_t_forth, .inl (cT 0, 48, .inl t_forth)), (a_t_cost, .inl (cT 0, 48, .inl t_cost)), (a_t_broken, .inl (cT 0, 72, .inl t_broken))]) rfl zkX11.1 (qr := 0) rfl rfl (Nat.le_of_ble_eq_true rfl) dX11_line_25 (fun z11 => ?_)
    refine xi_if_eq C (tgt := 33) dX11_line_28 rfl (fun c12 => ?_) (fun c12 => ?_)
    · replace h := (if_pos c12).symm.trans h
      refine xi_iload_n C 2 dX11_line_33 rfl ?_
      by_cases c13 : x2 = 0
      · replace h := (if_pos c13).symm.trans h
        refine xi_tabEq C 0 c13 dX11_line_34 (by decide) (by decide) rfl (tgt := 72) rfl ?_
        refine xi_aload_n C 0 dX11_line_72 rfl ?_
        refine xi_get C zkX11 3 0 zlX11_16 (by decide) rfl rfl dX11_line_73 ?_
        refine xi_iload_n C 1 dX11_line_76 rfl ?_
        replace h := ig h
        obtain ⟨c14, h⟩ := h
        refine xi_iald C 3 rfl c14 dX11_line_77 ?_
        obtain rfl := Option.some.inj h
        exact hE _ _ _ dX11_line_78 rfl
      · replace h := (if_neg c13).symm.trans h
        by_cases c15 : x2 = 1
        · replace h := (if_pos c15).symm.trans h
          refine xi_tabEq C 1 c15 dX11_line_34 (by decide) (by decide) rfl (tgt := 79) rfl ?_
          refine xi_aload_n C 0 dX11_line_79 rfl ?_
          refine xi_get C zkX11 4 0 zlX11_19 (by decide) rfl rfl dX11_line_80 ?_
          refine xi_iload_n C 1 dX11_line_83 rfl ?_
          replace h := ig h
          obtain ⟨c16, h⟩ := h
          refine xi_iald C 4 rfl c16 dX11_line_84 ?_
          obtain rfl := Option.some.inj h
          exact hE _ _ _ dX11_line_85 rfl
        · replace h := (if_neg c15).symm.trans h
          by_cases c17 : x2 = 2
          · replace h := (if_pos c17).symm.trans h
            refine xi_tabEq C 2 c17 dX11_line_34 (by decide) (by decide) rfl (tgt := 86) rfl ?_
            refine xi_aload_n C 0 dX11_line_86 rfl ?_
            refine xi_get C zkX11 5 0 zlX11_22 (by decide) rfl rfl dX11_line_87 ?_
            refine xi_iload_n C 1 dX11_line_90 rfl ?_
            replace h := ig h
            obtain ⟨c18, h⟩ := h
            refine xi_iald C 5 rfl c18 dX11_line_91 ?_
            obtain rfl := Option.some.inj h
            exact hE _ _ _ dX11_line_92 rfl
          · replace h := (if_neg c17).symm.trans h
            by_cases c19 : x2 = 3
            · replace h := (if_pos c19).symm.trans h
              refine xi_tabEq C 3 c19 dX11_line_34 (by decide) (by decide) rfl (tgt := 93) rfl ?_
              refine xi_aload_n C 0 dX11_line_93 rfl ?_
              refine xi_get C zkX11 6 0 zlX11_25 (by decide) rfl rfl dX11_line_94 ?_
              refine xi_iload_n C 1 dX11_line_97 rfl ?_
              replace h := ig h
              obtain ⟨c20, h⟩ := h
              refine xi_iald C 6 rfl c20 dX11_line_98 ?_
              obtain rfl := Option.some.inj h
              exact hE _ _ _ dX11_line_99 rfl
            · replace h := (if_neg c19).symm.trans h
              by_cases c21 : x2 = 4
              · replace h := (if_pos c21).symm.trans h
                refine xi_tabEq C 4 c21 dX11_line_34 (by decide) (by decide) rfl (tgt := 100) rfl ?_
                refine xi_aload_n C 0 dX11_line_100 rfl ?_
                refine xi_get C zkX11 1 0 zlX11_7 (by decide) rfl rfl dX11_line_101 ?_
                refine xi_iconst C (v := 3) dX11_line_104 rfl ?_
                refine xi_iald C 1 rfl (zv (by decide)) dX11_line_105 ?_
                refine xi_iload_n C 1 dX11_line_106 rfl ?_
                refine xi_ishr C dX11_line_107 ?_
                refine xi_iconst C (v := 1) dX11_line_108 rfl ?_
                refine xi_iand C dX11_line_109 ?_
                obtain rfl := Option.some.inj h
                exact hE _ _ _ dX11_line_110 rfl
              · replace h := (if_neg c21).symm.trans h
                by_cases c22 : x2 = 5
                · replace h := (if_pos c22).symm.trans h
                  refine xi_tabEq C 5 c22 dX11_line_34 (by decide) (by decide) rfl (tgt := 111) rfl ?_
                  refine xi_aload_n C 0 dX11_line_111 rfl ?_
                  refine xi_get C zkX11 1 0 zlX11_7 (by decide) rfl rfl dX11_line_112 ?_
                  refine xi_iconst C (v := 2) dX11_line_115 rfl ?_
                  refine xi_iald C 1 rfl (zv (by decide)) dX11_line_116 ?_
                  refine xi_iload_n C 1 dX11_line_117 rfl ?_
                  refine xi_ishr C dX11_line_118 ?_
                  refine xi_iconst C (v := 1) dX11_line_119 rfl ?_
                  refine xi_iand C dX11_line_120 ?_
                  obtain rfl := Option.some.inj h
                  exact hE _ _ _ dX11_line_121 rfl
                · replace h := (if_neg c22).symm.trans h
                  refine xi_tableOut C dX11_line_34 (ztab (by decide) (by decide) (fun i hi => zsw6 i hi c13 c15 c17 c19 c21 c22)) (tgt := 122) rfl ?_
                  refine xi_aload_n C 0 dX11_line_122 rfl ?_
                  refine xi_iload_n C 1 dX11_line_123 rfl ?_
                  replace h := ob h
                  obtain ⟨u23, hu24, h⟩ := h
                  refine xi_callVr C (kX11_brokenOf l D cT a_t a_t_now a_t_told a_t_one a_t_other a_t_forth a_t_cost a_t_broken a_t_away a_t_text a_t_worth a_t_choice a_t_thought a_t_before a_t_deep a_t_price a_t_undo a_t_slots a_t_isSaved u9.2 t_length t_textSize t_start t_next t_token t_value t_error t_errorAt t_number t_isFirst t_limitNow t_undos t_told t_broken x1 u23 hu24) zcX11_brokenOf zmX11_198 ziX11_brokenOf (zr rfl rfl) z00 rfl [0, 2, 7] rfl rfl zkX11.1 (qr := 0) rfl rfl (Nat.le_of_ble_eq_true rfl) dX11_line_124 (fun z25 => ?_)
                  obtain rfl := Option.some.inj h
                  exact hE _ _ _ dX11_line_127 rfl
    · replace h := (if_neg c12).symm.trans h
      refine xi_iconst C (v := 0) dX11_line_31 rfl ?_
      obtain rfl := Option.some.inj h
      exact hE _ _ _ dX11_line_32 rfl
  refine xi_drop (L2 := [(0, .ref a_t), (1, .int x1), (2, .int x2)]) [0, 1, 2] rfl ?_
  refine xi_aload_n C 0 dX11_line_0 rfl ?_
  refine xi_iload_n C 1 dX11_line_1 rfl ?_
  replace h := ob h
  obtain ⟨u1, hu2, h⟩ := h
  refine xi_callV C (kX11_noLine l D cT a_t a_t_now a_t_told a_t_one a_t_other a_t_forth a_t_cost a_t_broken a_t_away a_t_text a_t_worth a_t_choice a_t_thought a_t_before a_t_deep a_t_price a_t_undo a_t_slots a_t_isSaved t_thrown t_length t_textSize t_start t_next t_token t_value t_error t_errorAt t_number t_isFirst t_limitNow t_undos t_told x1 u1 hu2) zcX11_noLine zmX11_195 ziX11_noLine (zr rfl rfl) z00 rfl [0, 2] rfl rfl rfl [some 0, none, some 1, none, none, none, none, none] (by decide +kernel) (ws2 := [(a_t, .inr (11, [.int u1.2, .ref a_t_now, .ref a_t_told, .ref a_t_one, .ref a_t_other, .ref a_t_forth, .ref a_t_cost, .ref a_t_broken, .ref a_t_away, .ref a_t_text, .int t_length, .int t_textSize, .int t_start, .int t_next, .int t_token, .int t_value, .int t_error, .int t_errorAt, .int t_number, .int t_isFirst, .ref a_t_worth, .ref a_t_choice, .ref a_t_thought, .ref a_t_before, .ref a_t_deep, .int t_limitNow, .ref a_t_price, .int t_undos, .ref a_t_undo, .ref a_t_slots, .ref a_t_isSaved])), (a_t_now, .inl (cT 0, 514, .inl t_now)), (a_t_told, .inl (cT 0, 8, .inl t_told)), (a_t_one, .inl (cT 0, 48, .inl t_one)), (a_t_other, .inl (cT 0, 48, .inl t_other)), (a_t_forth, .inl (cT 0, 48, .inl t_forth)), (a_t_cost, .inl (cT 0, 48, .inl t_cost)), (a_t_broken, .inl (cT 0, 72, .inl t_broken))]) rfl zkX11.1 (qr := 0) rfl rfl (Nat.le_of_ble_eq_true rfl) dX11_line_2 (fun z3 => ?_)
  refine xi_if_ne C (tgt := 31) dX11_line_5 rfl (fun c4 => ?_) (fun c4 => ?_)
  · replace h := (if_neg c4).symm.trans h
    refine xi_iconst C (v := 0) dX11_line_31 rfl ?_
    obtain rfl := Option.some.inj h
    exact hE _ _ _ dX11_line_32 rfl
  · replace h := (if_pos c4).symm.trans h
    refine xi_aload_n C 0 dX11_line_8 rfl ?_
    refine xi_iload_n C 2 dX11_line_9 rfl ?_
    refine xi_iconst C (v := 0) dX11_line_10 rfl ?_
    refine xi_bipush C (v := 6) dX11_line_11 rfl ?_
    refine xi_callSr C (kX11_within l D cT x2 0 6 (fX11_within x2 0 6) rfl) zcX11_within zmX11_113 zsX11_within (zr rfl rfl) z00 rfl [] rfl rfl rfl (Nat.le_of_ble_eq_true rfl) dX11_line_13 (fun z7 => ?_)
    refine xi_if_ne C (tgt := 23) dX11_line_16 rfl (fun c8 => ?_) (fun c8 => ?_)
    · replace h := (if_neg c8).symm.trans h
      refine xi_iconst C (v := 0) dX11_line_23 rfl ?_
      exact B24 0 u1.2 h
    · replace h := (if_pos c8).symm.trans h
      refine xi_iconst C (v := 1) dX11_line_19 rfl ?_
      refine xi_goto C (tgt := 24) dX11_line_20 rfl ?_
      exact B24 1 u1.2 h
def fX11_isUsable_b25 (t_now : Nat → Int32) (t_told : Nat → Int32) (t_one : Nat → Int32) (t_other : Nat → Int32) (t_broken : Nat → Int32) (t_away : Nat → Int32) (x1 : Int32) (x2 : Int32) (s0 : Int32) (t_thrown : Int32) : Option (Int32 × Int32) := nm (fX11_throwsIf t_thrown s0 2) (fun u9 => if u9.1 = 0 then (fX11_canCall t_now t_told t_one t_other t_broken t_away x1 x2).bind (fun u13 => if u13 = 0 then some (0, u9.2) else some (1, u9.2)) else some (0, u9.2))
def fX11_isUsable (t_now : Nat → Int32) (t_told : Nat → Int32) (t_one : Nat → Int32) (t_other : Nat → Int32) (t_broken : Nat → Int32) (t_away : Nat → Int32) (x1 : Int32) (x2 : Int32) : Option (Int32 × Int32) := (fX11_noLine t_told x1).bind (fun u1 => if u1.1 = 0 then if (fX11_within x2 1 9999) = 0 then fX11_isUsable_b25 t_now t_told t_one t_other t_broken t_away x1 x2 1 u1.2 else fX11_isUsable_b25 t_now t_told t_one t_other t_broken t_away x1 x2 0 u1.2 else some (0, u1.2))
set_option maxRecDepth 100000 in
set_option maxHeartbeats 4000000 in
theorem kX11_isUsable (l : Launch) (D : va_G) (cT : Nat → ClassId) (a_t : Nat) (a_t_now : Nat) (a_t_told : Nat) (a_t_one : Nat) (a_t_other : Nat) (a_t_forth : Nat) (a_t_cost : Nat) (a_t_broken : Nat) (a_t_away : Nat) (a_t_text : Nat) (a_t_worth : Nat) (a_t_choice : Nat) (a_t_thought : Nat) (a_t_before : Nat) (a_t_deep : Nat) (a_t_price : Nat) (a_t_undo : Nat) (a_t_slots : Nat) (a_t_isSaved : Nat) (t_thrown : Int32) (t_length : Int32) (t_textSize : Int32) (t_start : Int32) (t_next : Int32) (t_token : Int32) (t_value : Int32) (t_error : Int32) (t_errorAt : Int32) (t_number : Int32) (t_isFirst : Int32) (t_limitNow : Int32) (t_undos : Int32) (t_now : Nat → Int32) (t_told : Nat → Int32) (t_one : Nat → Int32) (t_other : Nat → Int32) (t_broken : Nat → Int32) (t_away : Nat → Int32) (x1 : Int32) (x2 : Int32) (r : Int32 × Int32) (h : fX11_isUsable t_now t_told t_one t_other t_broken t_away x1 x2 = some r) : sM l yX11_isUsable cX11_isUsable 3 (some .boolean) (zR 4) D cT [.ref a_t, .int x1, .int x2] [(a_t, .inr (11, [.int t_thrown, .ref a_t_now, .ref a_t_told, .ref a_t_one, .ref a_t_other, .ref a_t_forth, .ref a_t_cost, .ref a_t_broken, .ref a_t_away, .ref a_t_text, .int t_length, .int t_textSize, .int t_start, .int t_next, .int t_token, .int t_value, .int t_error, .int t_errorAt, .int t_number, .int t_isFirst, .ref a_t_worth, .ref a_t_choice, .ref a_t_thought, .ref a_t_before, .ref a_t_deep, .int t_limitNow, .ref a_t_price, .int t_undos, .ref a_t_undo, .ref a_t_slots, .ref a_t_isSaved])), (a_t_now, .inl (cT 0, 514, .inl t_now)), (a_t_told, .inl (cT 0, 8, .inl t_told)), (a_t_one, .inl (cT 0, 48, .inl t_one)), (a_t_other, .inl (cT 0, 48, .inl t_other)), (a_t_broken, .inl (cT 0, 72, .inl t_broken)), (a_t_away, .inl (cT 0, 72, .inl t_away))] (some (.int r.1)) [(a_t, .inr (11, [.int r.2, .ref a_t_now, .ref a_t_told, .ref a_t_one, .ref a_t_other, .ref a_t_forth, .ref a_t_cost, .ref a_t_broken, .ref a_t_away, .ref a_t_text, .int t_length, .int t_textSize, .int t_start, .int t_next, .int t_token, .int t_value, .int t_error, .int t_errorAt, .int t_number, .int t_isFirst, .ref a_t_worth, .ref a_t_choice, .ref a_t_thought, .ref a_t_before, .ref a_t_deep, .int t_limitNow, .ref a_t_price, .int t_undos, .ref a_t_undo, .ref a_t_slots, .ref a_t_isSaved])), (a_t_now, .inl (cT 0, 514, .inl t_now)), (a_t_told, .inl (cT 0, 8, .inl t_told)), (a_t_one, .inl (cT 0, 48, .inl t_one)), (a_t_other, .inl (cT 0, 48, .inl t_other)), (a_t_broken, .inl (cT 0, 72, .inl t_broken)), (a_t_away, .inl (cT 0, 72, .inl t_away))] := by
  refine sM_bool rfl (Nat.le_of_ble_eq_true rfl) ?_
  intro X C hE
  have B25 : ∀ (s0 : Int32) (t_thrown : Int32), fX11_isUsable_b25 t_now t_told t_one t_other t_broken t_away x1 x2 s0 t_thrown = some r → sW X l (zR 4) D 3 0 0 25 [(0, .ref a_t), (1, .int x1), (2, .int x2)] [.int s0, .ref a_t] [(a_t, .inr (11, [.int t_thrown, .ref a_t_now, .ref a_t_told, .ref a_t_one, .ref a_t_other, .ref a_t_forth, .ref a_t_cost, .ref a_t_broken, .ref a_t_away, .ref a_t_text, .int t_length, .int t_textSize, .int t_start, .int t_next, .int t_token, .int t_value, .int t_error, .int t_errorAt, .int t_number, .int t_isFirst, .ref a_t_worth, .ref a_t_choice, .ref a_t_thought, .ref a_t_before, .ref a_t_deep, .int t_limitNow, .ref a_t_price, .int t_undos, .ref a_t_undo, .ref a_t_slots, .ref a_t_isSaved])), (a_t_now, .inl (cT 0, 514, .inl t_now)), (a_t_told, .inl (cT 0, 8, .inl t_told)), (a_t_one, .inl (cT 0, 48, .inl t_one)), (a_t_other, .inl (cT 0, 48, .inl t_other)), (a_t_broken, .inl (cT 0, 72, .inl t_broken)), (a_t_away, .inl (cT 0, 72, .inl t_away))] := by
    intro s0 t_thrown h
    refine xi_iconst C (v := 2) dX11_isUsable_25 rfl ?_
    obtain ⟨u9, hu10⟩ : ∃ z, z = fX11_throwsIf t_thrown s0 2 := ⟨_, rfl⟩
    replace h := nmE hu10 h
    refine xi_callV C (kX11_throwsIf l D cT a_t a_t_now a_t_told a_t_one a_t_other a_t_forth a_t_cost a_t_broken a_t_away a_t_text a_t_worth a_t_choice a_t_thought a_t_before a_t_deep a_t_price a_t_undo a_t_slots a_t_isSaved t_thrown t_length t_textSize t_start t_next t_token t_value t_error t_errorAt t_number t_isFirst t_limitNow t_undos s0 2 u9 hu10.symm) zcX11_throwsIf zmX11_176 ziX11_throwsIf (zr rfl rfl) z00 rfl [0] rfl rfl rfl [some 0, none, none, none, none, none, none] (by decide +kernel) (ws2 := [(a_t, .inr (11, [.int u9.2, .ref a_t_now, .ref a_t_told, .ref a_t_one, .ref a_t_other, .ref a_t_forth, .ref a_t_cost, .ref a_t_broken, .ref a_t_away, .ref a_t_text, .int t_length, .int t_textSize, .int t_start, .int t_next, .int t_token, .int t_value, .int t_error, .int t_errorAt, .int t_number, .int t_isFirst, .ref a_t_worth, .ref a_t_choice, .ref a_t_thought, .ref a_t_before, .ref a_t_deep, .int t_limitNow, .ref a_t_price, .int t_undos, .ref a_t_undo, .ref a_t_slots, .ref a_t_isSaved])), (a_t_now, .inl (cT 0, 514, .inl t_now)), (a_t_told, .inl (cT 0, 8, .inl t_told)), (a_t_one, .inl (cT 0, 48, .inl t_one)), (a_t_other, .inl (cT 0, 48, .inl t_other)), (a_t_broken, .inl (cT 0, 72, .inl t_broken)), (a_t_away, .inl (cT 0, 72, .inl t_away))]) rfl zkX11.1 (qr := 0) rfl rfl (Nat.le_of_ble_eq_true rfl) dX11_isUsable_26 (fun z11 => ?_)
    refine xi_if_ne C (tgt := 45) dX11_isUsable_29 rfl (fun c12 => ?_) (fun c12 => ?_)
    · replace h := (if_neg c12).symm.trans h
      refine xi_iconst C (v := 0) dX11_isUsable_45 rfl ?_
      obtain rfl := Option.some.inj h
      exact hE _ _ _ dX11_isUsable_46 rfl rfl
    · replace h := (if_pos c12).symm.trans h
      refine xi_aload_n C 0 dX11_isUsable_32 rfl ?_
      refine xi_iload_n C 1 dX11_isUsable_33 rfl ?_
      refine xi_iload_n C 2 dX11_isUsable_34 rfl ?_
      replace h := ob h
      obtain ⟨u13, hu14, h⟩ := h
      refine xi_callVr C (kX11_canCall l D cT a_t a_t_now a_t_told a_t_one a_t_other a_t_forth a_t_cost a_t_broken a_t_away a_t_text a_t_worth a_t_choice a_t_thought a_t_before a_t_deep a_t_price a_t_undo a_t_slots a_t_isSaved u9.2 t_length t_textSize t_start t_next t_token t_value t_error t_errorAt t_number t_isFirst t_limitNow t_undos t_now t_told t_one t_other t_broken t_away x1 x2 u13 hu14) zcX11_canCall zmX11_207 ziX11_canCall (zr rfl rfl) z00 rfl [0, 1, 2, 3, 4, 5, 6] rfl rfl zkX11.1 (qr := 0) rfl rfl (Nat.le_of_ble_eq_true rfl) dX11_isUsable_35 (fun z15 => ?_)
      refine xi_if_eq C (tgt := 45) dX11_isUsable_38 rfl (fun c16 => ?_) (fun c16 => ?_)
      · replace h := (if_pos c16).symm.trans h
        refine xi_iconst C (v := 0) dX11_isUsable_45 rfl ?_
        obtain rfl := Option.some.inj h
        exact hE _ _ _ dX11_isUsable_46 rfl rfl
      · replace h := (if_neg c16).symm.trans h
        refine xi_iconst C (v := 1) dX11_isUsable_41 rfl ?_
        refine xi_goto C (tgt := 46) dX11_isUsable_42 rfl ?_
        obtain rfl := Option.some.inj h
        exact hE _ _ _ dX11_isUsable_46 rfl rfl
  refine xi_drop (L2 := [(0, .ref a_t), (1, .int x1), (2, .int x2)]) [0, 1, 2] rfl ?_
  refine xi_aload_n C 0 dX11_isUsable_0 rfl ?_
  refine xi_iload_n C 1 dX11_isUsable_1 rfl ?_
  replace h := ob h
  obtain ⟨u1, hu2, h⟩ := h
  refine xi_callV C (kX11_noLine l D cT a_t a_t_now a_t_told a_t_one a_t_other a_t_forth a_t_cost a_t_broken a_t_away a_t_text a_t_worth a_t_choice a_t_thought a_t_before a_t_deep a_t_price a_t_undo a_t_slots a_t_isSaved t_thrown t_length t_textSize t_start t_next t_token t_value t_error t_errorAt t_number t_isFirst t_limitNow t_undos t_told x1 u1 hu2) zcX11_noLine zmX11_195 ziX11_noLine (zr rfl rfl) z00 rfl [0, 2] rfl rfl rfl [some 0, none, some 1, none, none, none, none] (by decide +kernel) (ws2 := [(a_t, .inr (11, [.int u1.2, .ref a_t_now, .ref a_t_told, .ref a_t_one, .ref a_t_other, .ref a_t_forth, .ref a_t_cost, .ref a_t_broken, .ref a_t_away, .ref a_t_text, .int t_length, .int t_textSize, .int t_start, .int t_next, .int t_token, .int t_value, .int t_error, .int t_errorAt, .int t_number, .int t_isFirst, .ref a_t_worth, .ref a_t_choice, .ref a_t_thought, .ref a_t_before, .ref a_t_deep, .int t_limitNow, .ref a_t_price, .int t_undos, .ref a_t_undo, .ref a_t_slots, .ref a_t_isSaved])), (a_t_now, .inl (cT 0, 514, .inl t_now)), (a_t_told, .inl (cT 0, 8, .inl t_told)), (a_t_one, .inl (cT 0, 48, .inl t_one)), (a_t_other, .inl (cT 0, 48, .inl t_other)), (a_t_broken, .inl (cT 0, 72, .inl t_broken)), (a_t_away, .inl (cT 0, 72, .inl t_away))]) rfl zkX11.1 (qr := 0) rfl rfl (Nat.le_of_ble_eq_true rfl) dX11_isUsable_2 (fun z3 => ?_)
  refine xi_if_ne C (tgt := 45) dX11_isUsable_5 rfl (fun c4 => ?_) (fun c4 => ?_)
  · replace h := (if_neg c4).symm.trans h
    refine xi_iconst C (v := 0) dX11_isUsable_45 rfl ?_
    obtain rfl := Option.some.inj h
    exact hE _ _ _ dX11_isUsable_46 rfl rfl
  · replace h := (if_pos c4).symm.trans h
    refine xi_aload_n C 0 dX11_isUsable_8 rfl ?_
    refine xi_iload_n C 2 dX11_isUsable_9 rfl ?_
    refine xi_iconst C (v := 1) dX11_isUsable_10 rfl ?_
    refine xi_sipush C (v := 9999) dX11_isUsable_11 rfl ?_
    refine xi_callSr C (kX11_within l D cT x2 1 9999 (fX11_within x2 1 9999) rfl) zcX11_within zmX11_113 zsX11_within (zr rfl rfl) z00 rfl [] rfl rfl rfl (Nat.le_of_ble_eq_true rfl) dX11_isUsable_14 (fun z7 => ?_)
    refine xi_if_ne C (tgt := 24) dX11_isUsable_17 rfl (fun c8 => ?_) (fun c8 => ?_)
    · replace h := (if_neg c8).symm.trans h
      refine xi_iconst C (v := 0) dX11_isUsable_24 rfl ?_
      exact B25 0 u1.2 h
    · replace h := (if_pos c8).symm.trans h
      refine xi_iconst C (v := 1) dX11_isUsable_20 rfl ?_
      refine xi_goto C (tgt := 25) dX11_isUsable_21 rfl ?_
      exact B25 1 u1.2 h
def fX11_cheapestLine_b108 (x1 : Int32) (K27 : Int32 → Int32 → Int32 → Option (Int32 × Int32)) (y2 : Int32) (y3 : Int32) (y4 : Int32) (t_thrown : Int32) : Option (Int32 × Int32) := if y4 = x1 then K27 y3 (y3 + 1) t_thrown else K27 y2 (y3 + 1) t_thrown
def fX11_cheapestLine_b99 (K43 : Int32 → Int32 → Int32 → Int32 → Int32 → Option (Int32 × Int32)) (y2 : Int32) (y3 : Int32) (y5 : Int32) (s0 : Int32) (s1 : Int32) (t_thrown : Int32) : Option (Int32 × Int32) := K43 y2 y3 (s1 + s0) (y5 + 1) t_thrown
def fX11_cheapestLine_b94 (K43 : Int32 → Int32 → Int32 → Int32 → Int32 → Option (Int32 × Int32)) (y2 : Int32) (y3 : Int32) (y5 : Int32) (s0 : Int32) (t_thrown : Int32) : Option (Int32 × Int32) := fX11_cheapestLine_b99 K43 y2 y3 y5 1 s0 t_thrown
def fX11_cheapestLine_b98 (K43 : Int32 → Int32 → Int32 → Int32 → Int32 → Option (Int32 × Int32)) (y2 : Int32) (y3 : Int32) (y5 : Int32) (s0 : Int32) (t_thrown : Int32) : Option (Int32 × Int32) := fX11_cheapestLine_b99 K43 y2 y3 y5 0 s0 t_thrown
def fX11_cheapestLine_b43 (t_told : Nat → Int32) (t_cost : Nat → Int32) (x1 : Int32) (K27 : Int32 → Int32 → Int32 → Option (Int32 × Int32)) : Nat → Int32 → Int32 → Int32 → Int32 → Int32 → Option (Int32 × Int32)
  | 0, _, _, _, _, _ => none
  | n + 1, y2, y3, y4, y5, t_thrown => if (t_told 1) ≤ y5 then fX11_cheapestLine_b108 x1 K27 y2 y3 y4 t_thrown else gd y5 48 (gd y3 48 (if (t_cost y5.toNatClampNeg) < (t_cost y3.toNatClampNeg) then fX11_cheapestLine_b94 (fX11_cheapestLine_b43 t_told t_cost x1 K27 n) y2 y3 y5 y4 t_thrown else if (t_cost y5.toNatClampNeg) = (t_cost y3.toNatClampNeg) then if y3 ≤ y5 then fX11_cheapestLine_b98 (fX11_cheapestLine_b43 t_told t_cost x1 K27 n) y2 y3 y5 y4 t_thrown else fX11_cheapestLine_b94 (fX11_cheapestLine_b43 t_told t_cost x1 K27 n) y2 y3 y5 y4 t_thrown else fX11_cheapestLine_b98 (fX11_cheapestLine_b43 t_told t_cost x1 K27 n) y2 y3 y5 y4 t_thrown))
theorem fX11_cheapestLine_b43_0 (t_told : Nat → Int32) (t_cost : Nat → Int32) (x1 : Int32) (K27 : Int32 → Int32 → Int32 → Option (Int32 × Int32)) (y2 : Int32) (y3 : Int32) (y4 : Int32) (y5 : Int32) (t_thrown : Int32) : fX11_cheapestLine_b43 t_told t_cost x1 K27 0 y2 y3 y4 y5 t_thrown = none := rfl
theorem fX11_cheapestLine_b43_s (t_told : Nat → Int32) (t_cost : Nat → Int32) (x1 : Int32) (K27 : Int32 → Int32 → Int32 → Option (Int32 × Int32)) (n : Nat) (y2 : Int32) (y3 : Int32) (y4 : Int32) (y5 : Int32) (t_thrown : Int32) : fX11_cheapestLine_b43 t_told t_cost x1 K27 (n + 1) y2 y3 y4 y5 t_thrown = (if (t_told 1) ≤ y5 then fX11_cheapestLine_b108 x1 K27 y2 y3 y4 t_thrown else gd y5 48 (gd y3 48 (if (t_cost y5.toNatClampNeg) < (t_cost y3.toNatClampNeg) then fX11_cheapestLine_b94 (fX11_cheapestLine_b43 t_told t_cost x1 K27 n) y2 y3 y5 y4 t_thrown else if (t_cost y5.toNatClampNeg) = (t_cost y3.toNatClampNeg) then if y3 ≤ y5 then fX11_cheapestLine_b98 (fX11_cheapestLine_b43 t_told t_cost x1 K27 n) y2 y3 y5 y4 t_thrown else fX11_cheapestLine_b94 (fX11_cheapestLine_b43 t_told t_cost x1 K27 n) y2 y3 y5 y4 t_thrown else fX11_cheapestLine_b98 (fX11_cheapestLine_b43 t_told t_cost x1 K27 n) y2 y3 y5 y4 t_thrown))) := rfl
def fX11_cheapestLine_b27 (t_told : Nat → Int32) (t_cost : Nat → Int32) (x1 : Int32) : Nat → Int32 → Int32 → Int32 → Option (Int32 × Int32)
  | 0, _, _, _ => none
  | n + 1, y2, y3, t_thrown => if (t_told 1) ≤ y3 then some (y2, t_thrown) else fX11_cheapestLine_b43 t_told t_cost x1 (fX11_cheapestLine_b27 t_told t_cost x1 n) FU y2 y3 0 0 t_thrown
theorem fX11_cheapestLine_b27_0 (t_told : Nat → Int32) (t_cost : Nat → Int32) (x1 : Int32) (y2 : Int32) (y3 : Int32) (t_thrown : Int32) : fX11_cheapestLine_b27 t_told t_cost x1 0 y2 y3 t_thrown = none := rfl
theorem fX11_cheapestLine_b27_s (t_told : Nat → Int32) (t_cost : Nat → Int32) (x1 : Int32) (n : Nat) (y2 : Int32) (y3 : Int32) (t_thrown : Int32) : fX11_cheapestLine_b27 t_told t_cost x1 (n + 1) y2 y3 t_thrown = (if (t_told 1) ≤ y3 then some (y2, t_thrown) else fX11_cheapestLine_b43 t_told t_cost x1 (fX11_cheapestLine_b27 t_told t_cost x1 n) FU y2 y3 0 0 t_thrown) := rfl
def fX11_cheapestLine (t_told : Nat → Int32) (t_cost : Nat → Int32) (x1 : Int32) : Option (Int32 × Int32) := if (fX11_within x1 0 ((t_told 1) - 1)) = 0 then some ((-1), 0) else fX11_cheapestLine_b27 t_told t_cost x1 FU (-1) 0 0
set_option maxRecDepth 100000 in
set_option maxHeartbeats 4000000 in
theorem kX11_cheapestLine (l : Launch) (D : va_G) (cT : Nat → ClassId) (a_t : Nat) (a_t_now : Nat) (a_t_told : Nat) (a_t_one : Nat) (a_t_other : Nat) (a_t_forth : Nat) (a_t_cost : Nat) (a_t_broken : Nat) (a_t_away : Nat) (a_t_text : Nat) (a_t_worth : Nat) (a_t_choice : Nat) (a_t_thought : Nat) (a_t_before : Nat) (a_t_deep : Nat) (a_t_price : Nat) (a_t_undo : Nat) (a_t_slots : Nat) (a_t_isSaved : Nat) (t_thrown : Int32) (t_length : Int32) (t_textSize : Int32) (t_start : Int32) (t_next : Int32) (t_token : Int32) (t_value : Int32) (t_error : Int32) (t_errorAt : Int32) (t_number : Int32) (t_isFirst : Int32) (t_limitNow : Int32) (t_undos : Int32) (t_told : Nat → Int32) (t_cost : Nat → Int32) (x1 : Int32) (r : Int32 × Int32) (h : fX11_cheapestLine t_told t_cost x1 = some r) : sM l yX11_cheapestLine cX11_cheapestLine 6 (some .int) (zR 2) D cT [.ref a_t, .int x1] [(a_t, .inr (11, [.int t_thrown, .ref a_t_now, .ref a_t_told, .ref a_t_one, .ref a_t_other, .ref a_t_forth, .ref a_t_cost, .ref a_t_broken, .ref a_t_away, .ref a_t_text, .int t_length, .int t_textSize, .int t_start, .int t_next, .int t_token, .int t_value, .int t_error, .int t_errorAt, .int t_number, .int t_isFirst, .ref a_t_worth, .ref a_t_choice, .ref a_t_thought, .ref a_t_before, .ref a_t_deep, .int t_limitNow, .ref a_t_price, .int t_undos, .ref a_t_undo, .ref a_t_slots, .ref a_t_isSaved])), (a_t_told, .inl (cT 0, 8, .inl t_told)), (a_t_cost, .inl (cT 0, 48, .inl t_cost))] (some (.int r.1)) [(a_t, .inr (11, [.int r.2, .ref a_t_now, .ref a_t_told, .ref a_t_one, .ref a_t_other, .ref a_t_forth, .ref a_t_cost, .ref a_t_broken, .ref a_t_away, .ref a_t_text, .int t_length, .int t_textSize, .int t_start, .int t_next, .int t_token, .int t_value, .int t_error, .int t_errorAt, .int t_number, .int t_isFirst, .ref a_t_worth, .ref a_t_choice, .ref a_t_thought, .ref a_t_before, .ref a_t_deep, .int t_limitNow, .ref a_t_price, .int t_undos, .ref a_t_undo, .ref a_t_slots, .ref a_t_isSaved])), (a_t_told, .inl (cT 0, 8, .inl t_told)), (a_t_cost, .inl (cT 0, 48, .inl t_cost))] := by
  refine sM_int rfl (Nat.le_of_ble_eq_true rfl) ?_
  intro X C hE
  have B108 : ∀ (K27 : Int32 → Int32 → Int32 → Option (Int32 × Int32)) (hK27 : ∀ (y2 : Int32) (y3 : Int32) (t_thrown : Int32), K27 y2 y3 t_thrown = some r → sW X l (zR 2) D 6 0 0 27 [(0, .ref a_t), (1, .int x1), (2, .int y2), (3, .int y3)] [] [(a_t, .inr (11, [.int t_thrown, .ref a_t_now, .ref a_t_told, .ref a_t_one, .ref a_t_other, .ref a_t_forth, .ref a_t_cost, .ref a_t_broken, .ref a_t_away, .ref a_t_text, .int t_length, .int t_textSize, .int t_start, .int t_next, .int t_token, .int t_value, .int t_error, .int t_errorAt, .int t_number, .int t_isFirst, .ref a_t_worth, .ref a_t_choice, .ref a_t_thought, .ref a_t_before, .ref a_t_deep, .int t_limitNow, .ref a_t_price, .int t_undos, .ref a_t_undo, .ref a_t_slots, .ref a_t_isSaved])), (a_t_told, .inl (cT 0, 8, .inl t_told)), (a_t_cost, .inl (cT 0, 48, .inl t_cost))]) (y2 : Int32) (y3 : Int32) (y4 : Int32) (t_thrown : Int32), fX11_cheapestLine_b108 x1 K27 y2 y3 y4 t_thrown = some r → sW X l (zR 2) D 6 0 0 108 [(0, .ref a_t), (1, .int x1), (2, .int y2), (3, .int y3), (4, .int y4)] [] [(a_t, .inr (11, [.int t_thrown, .ref a_t_now, .ref a_t_told, .ref a_t_one, .ref a_t_other, .ref a_t_forth, .ref a_t_cost, .ref a_t_broken, .ref a_t_away, .ref a_t_text, .int t_length, .int t_textSize, .int t_start, .int t_next, .int t_token, .int t_value, .int t_error, .int t_errorAt, .int t_number, .int t_isFirst, .ref a_t_worth, .ref a_t_choice, .ref a_t_thought, .ref a_t_before, .ref a_t_deep, .int t_limitNow, .ref a_t_price, .int t_undos, .ref a_t_undo, .ref a_t_slots, .ref a_t_isSaved])), (a_t_told, .inl (cT 0, 8, .inl t_told)), (a_t_cost, .inl (cT 0, 48, .inl t_cost))] := by
    intro K27 hK27 y2 y3 y4 t_thrown h
    refine xi_iload C 4 dX11_cheapestLine_108 rfl ?_
    refine xi_iload_n C 1 dX11_cheapestLine_110 rfl ?_
    refine xi_icmp_ne C (tgt := 118) dX11_cheapestLine_111 rfl (fun c7 => ?_) (fun c7 => ?_)
    · replace h := (if_neg c7).symm.trans h
      refine xi_iload_n C 2 dX11_cheapestLine_118 rfl ?_
      refine xi_istore_n C [1, 2, 0, 3, 4] (L2 := [(0, .ref a_t), (1, .int x1), (2, .int y2), (3, .int y3), (4, .int y4)]) dX11_cheapestLine_119 (Nat.le_of_ble_eq_true rfl) rfl ?_
      refine xi_iinc C (v := y3 + 1) 3 [1, 2, 3, 0, 4] (L2 := [(0, .ref a_t), (1, .int x1), (2, .int y2), (3, .int (y3 + 1)), (4, .int y4)]) dX11_cheapestLine_120 rfl rfl (Nat.le_of_ble_eq_true rfl) rfl ?_
      refine xi_goto C (tgt := 27) dX11_cheapestLine_123 rfl ?_
      refine xi_drop (L2 := [(0, .ref a_t), (1, .int x1), (2, .int y2), (3, .int (y3 + 1))]) [0, 1, 2, 3] rfl ?_
      exact hK27 y2 (y3 + 1) t_thrown h
    · replace h := (if_pos c7).symm.trans h
      refine xi_iload_n C 3 dX11_cheapestLine_114 rfl ?_
      refine xi_goto C (tgt := 119) dX11_cheapestLine_115 rfl ?_
      refine xi_istore_n C [1, 2, 0, 3, 4] (L2 := [(0, .ref a_t), (1, .int x1), (2, .int y3), (3, .int y3), (4, .int y4)]) dX11_cheapestLine_119 (Nat.le_of_ble_eq_true rfl) rfl ?_
      refine xi_iinc C (v := y3 + 1) 3 [1, 2, 3, 0, 4] (L2 := [(0, .ref a_t), (1, .int x1), (2, .int y3), (3, .int (y3 + 1)), (4, .int y4)]) dX11_cheapestLine_120 rfl rfl (Nat.le_of_ble_eq_true rfl) rfl ?_
      refine xi_goto C (tgt := 27) dX11_cheapestLine_123 rfl ?_
      refine xi_drop (L2 := [(0, .ref a_t), (1, .int x1), (2, .int y3), (3, .int (y3 + 1))]) [0, 1, 2, 3] rfl ?_
      exact hK27 y3 (y3 + 1) t_thrown h
  have B99 : ∀ (K27 : Int32 → Int32 → Int32 → Option (Int32 × Int32)) (hK27 : ∀ (y2 : Int32) (y3 : Int32) (t_thrown : Int32), K27 y2 y3 t_thrown = some r → sW X l (zR 2) D 6 0 0 27 [(0, .ref a_t), (1, .int x1), (2, .int y2), (3, .int y3)] [] [(a_t, .inr (11, [.int t_thrown, .ref a_t_now, .ref a_t_told, .ref a_t_one, .ref a_t_other, .ref a_t_forth, .ref a_t_cost, .ref a_t_broken, .ref a_t_away, .ref a_t_text, .int t_length, .int t_textSize, .int t_start, .int t_next, .int t_token, .int t_value, .int t_error, .int t_errorAt, .int t_number, .int t_isFirst, .ref a_t_worth, .ref a_t_choice, .ref a_t_thought, .ref a_t_before, .ref a_t_deep, .int t_limitNow, .ref a_t_price, .int t_undos, .ref a_t_undo, .ref a_t_slots, .ref a_t_isSaved])), (a_t_told, .inl (cT 0, 8, .inl t_told)), (a_t_cost, .inl (cT 0, 48, .inl t_cost))]) (K43 : Int32 → Int32 → Int32 → Int32 → Int32 → Option (Int32 × Int32)) (hK43 : ∀ (y2 : Int32) (y3 : Int32) (y4 : Int32) (y5 : Int32) (t_thrown : Int32), K43 y2 y3 y4 y5 t_thrown = some r → sW X l (zR 2) D 6 0 0 43 [(0, .ref a_t), (1, .int x1), (2, .int y2), (3, .int y3), (4, .int y4), (5, .int y5)] [] [(a_t, .inr (11, [.int t_thrown, .ref a_t_now, .ref a_t_told, .ref a_t_one, .ref a_t_other, .ref a_t_forth, .ref a_t_cost, .ref a_t_broken, .ref a_t_away, .ref a_t_text, .int t_length, .int t_textSize, .int t_start, .int t_next, .int t_token, .int t_value, .int t_error, .int t_errorAt, .int t_number, .int t_isFirst, .ref a_t_worth, .ref a_t_choice, .ref a_t_thought, .ref a_t_before, .ref a_t_deep, .int t_limitNow, .ref a_t_price, .int t_undos, .ref a_t_undo, .ref a_t_slots, .ref a_t_isSaved])), (a_t_told, .inl (cT 0, 8, .inl t_told)), (a_t_cost, .inl (cT 0, 48, .inl t_cost))]) (y2 : Int32) (y3 : Int32) (y5 : Int32) (s0 : Int32) (s1 : Int32) (t_thrown : Int32), fX11_cheapestLine_b99 K43 y2 y3 y5 s0 s1 t_thrown = some r → sW X l (zR 2) D 6 0 0 99 [(0, .ref a_t), (1, .int x1), (2, .int y2), (3, .int y3), (5, .int y5)] [.int s0, .int s1] [(a_t, .inr (11, [.int t_thrown, .ref a_t_now, .ref a_t_told, .ref a_t_one, .ref a_t_other, .ref a_t_forth, .ref a_t_cost, .ref a_t_broken, .ref a_t_away, .ref a_t_text, .int t_length, .int t_textSize, .int t_start, .int t_next, .int t_token, .int t_value, .int t_error, .int t_errorAt, .int t_number, .int t_isFirst, .ref a_t_worth, .ref a_t_choice, .ref a_t_thought, .ref a_t_before, .ref a_t_deep, .int t_limitNow, .ref a_t_price, .int t_undos, .ref a_t_undo, .ref a_t_slots, .ref a_t_isSaved])), (a_t_told, .inl (cT 0, 8, .inl t_told)), (a_t_cost, .inl (cT 0, 48, .inl t_cost))] := by
    intro K27 hK27 K43 hK43 y2 y3 y5 s0 s1 t_thrown h
    refine xi_iadd C dX11_cheapestLine_99 ?_
    refine xi_istore C [1, 2, 3, 4, 0, 5] (L2 := [(0, .ref a_t), (1, .int x1), (2, .int y2), (3, .int y3), (4, .int (s1 + s0)), (5, .int y5)]) dX11_cheapestLine_100 (Nat.le_of_ble_eq_true rfl) rfl ?_
    refine xi_iinc C (v := y5 + 1) 5 [1, 2, 3, 4, 5, 0] (L2 := [(0, .ref a_t), (1, .int x1), (2, .int y2), (3, .int y3), (4, .int (s1 + s0)), (5, .int (y5 + 1))]) dX11_cheapestLine_102 rfl rfl (Nat.le_of_ble_eq_true rfl) rfl ?_
    refine xi_goto C (tgt := 43) dX11_cheapestLine_105 rfl ?_
    exact hK43 y2 y3 (s1 + s0) (y5 + 1) t_thrown h
  have B94 : ∀ (K27 : Int32 → Int32 → Int32 → Option (Int32 × Int32)) (hK27 : ∀ (y2 : Int32) (y3 : Int32) (t_thrown : Int32), K27 y2 y3 t_thrown = some r → sW X l (zR 2) D 6 0 0 27 [(0, .ref a_t), (1, .int x1), (2, .int y2), (3, .int y3)] [] [(a_t, .inr (11, [.int t_thrown, .ref a_t_now, .ref a_t_told, .ref a_t_one, .ref a_t_other, .ref a_t_forth, .ref a_t_cost, .ref a_t_broken, .ref a_t_away, .ref a_t_text, .int t_length, .int t_textSize, .int t_start, .int t_next, .int t_token, .int t_value, .int t_error, .int t_errorAt, .int t_number, .int t_isFirst, .ref a_t_worth, .ref a_t_choice, .ref a_t_thought, .ref a_t_before, .ref a_t_deep, .int t_limitNow, .ref a_t_price, .int t_undos, .ref a_t_undo, .ref a_t_slots, .ref a_t_isSaved])), (a_t_told, .inl (cT 0, 8, .inl t_told)), (a_t_cost, .inl (cT 0, 48, .inl t_cost))]) (K43 : Int32 → Int32 → Int32 → Int32 → Int32 → Option (Int32 × Int32)) (hK43 : ∀ (y2 : Int32) (y3 : Int32) (y4 : Int32) (y5 : Int32) (t_thrown : Int32), K43 y2 y3 y4 y5 t_thrown = some r → sW X l (zR 2) D 6 0 0 43 [(0, .ref a_t), (1, .int x1), (2, .int y2), (3, .int y3), (4, .int y4), (5, .int y5)] [] [(a_t, .inr (11, [.int t_thrown, .ref a_t_now, .ref a_t_told, .ref a_t_one, .ref a_t_other, .ref a_t_forth, .ref a_t_cost, .ref a_t_broken, .ref a_t_away, .ref a_t_text, .int t_length, .int t_textSize, .int t_start, .int t_next, .int t_token, .int t_value, .int t_error, .int t_errorAt, .int t_number, .int t_isFirst, .ref a_t_worth, .ref a_t_choice, .ref a_t_thought, .ref a_t_before, .ref a_t_deep, .int t_limitNow, .ref a_t_price, .int t_undos, .ref a_t_undo, .ref a_t_slots, .ref a_t_isSaved])), (a_t_told, .inl (cT 0, 8, .inl t_told)), (a_t_cost, .inl (cT 0, 48, .inl t_cost))]) (y2 : Int32) (y3 : Int32) (y5 : Int32) (s0 : Int32) (t_thrown : Int32), fX11_cheapestLine_b94 K43 y2 y3 y5 s0 t_thrown = some r → sW X l (zR 2) D 6 0 0 94 [(0, .ref a_t), (1, .int x1), (2, .int y2), (3, .int y3), (5, .int y5)] [.int s0] [(a_t, .inr (11, [.int t_thrown, .ref a_t_now, .ref a_t_told, .ref a_t_one, .ref a_t_other, .ref a_t_forth, .ref a_t_cost, .ref a_t_broken, .ref a_t_away, .ref a_t_text, .int t_length, .int t_textSize, .int t_start, .int t_next, .int t_token, .int t_value, .int t_error, .int t_errorAt, .int t_number, .int t_isFirst, .ref a_t_worth, .ref a_t_choice, .ref a_t_thought, .ref a_t_before, .ref a_t_deep, .int t_limitNow, .ref a_t_price, .int t_undos, .ref a_t_undo, .ref a_t_slots, .ref a_t_isSaved])), (a_t_told, .inl (cT 0, 8, .inl t_told)), (a_t_cost, .inl (cT 0, 48, .inl t_cost))] := by
    intro K27 hK27 K43 hK43 y2 y3 y5 s0 t_thrown h
    refine xi_iconst C (v := 1) dX11_cheapestLine_94 rfl ?_
    refine xi_goto C (tgt := 99) dX11_cheapestLine_95 rfl ?_
    exact B99 K27 hK27 K43 hK43 y2 y3 y5 1 s0 t_thrown h
  have B98 : ∀ (K27 : Int32 → Int32 → Int32 → Option (Int32 × Int32)) (hK27 : ∀ (y2 : Int32) (y3 : Int32) (t_thrown : Int32), K27 y2 y3 t_thrown = some r → sW X l (zR 2) D 6 0 0 27 [(0, .ref a_t), (1, .int x1), (2, .int y2), (3, .int y3)] [] [(a_t, .inr (11, [.int t_thrown, .ref a_t_now, .ref a_t_told, .ref a_t_one, .ref a_t_other, .ref a_t_forth, .ref a_t_cost, .ref a_t_broken, .ref a_t_away, .ref a_t_text, .int t_length, .int t_textSize, .int t_start, .int t_next, .int t_token, .int t_value, .int t_error, .int t_errorAt, .int t_number, .int t_isFirst, .ref a_t_worth, .ref a_t_choice, .ref a_t_thought, .ref a_t_before, .ref a_t_deep, .int t_limitNow, .ref a_t_price, .int t_undos, .ref a_t_undo, .ref a_t_slots, .ref a_t_isSaved])), (a_t_told, .inl (cT 0, 8, .inl t_told)), (a_t_cost, .inl (cT 0, 48, .inl t_cost))]) (K43 : Int32 → Int32 → Int32 → Int32 → Int32 → Option (Int32 × Int32)) (hK43 : ∀ (y2 : Int32) (y3 : Int32) (y4 : Int32) (y5 : Int32) (t_thrown : Int32), K43 y2 y3 y4 y5 t_thrown = some r → sW X l (zR 2) D 6 0 0 43 [(0, .ref a_t), (1, .int x1), (2, .int y2), (3, .int y3), (4, .int y4), (5, .int y5)] [] [(a_t, .inr (11, [.int t_thrown, .ref a_t_now, .ref a_t_told, .ref a_t_one, .ref a_t_other, .ref a_t_forth, .ref a_t_cost, .ref a_t_broken, .ref a_t_away, .ref a_t_text, .int t_length, .int t_textSize, .int t_start, .int t_next, .int t_token, .int t_value, .int t_error, .int t_errorAt, .int t_number, .int t_isFirst, .ref a_t_worth, .ref a_t_choice, .ref a_t_thought, .ref a_t_before, .ref a_t_deep, .int t_limitNow, .ref a_t_price, .int t_undos, .ref a_t_undo, .ref a_t_slots, .ref a_t_isSaved])), (a_t_told, .inl (cT 0, 8, .inl t_told)), (a_t_cost, .inl (cT 0, 48, .inl t_cost))]) (y2 : Int32) (y3 : Int32) (y5 : Int32) (s0 : Int32) (t_thrown : Int32), fX11_cheapestLine_b98 K43 y2 y3 y5 s0 t_thrown = some r → sW X l (zR 2) D 6 0 0 98 [(0, .ref a_t), (1, .int x1), (2, .int y2), (3, .int y3), (5, .int y5)] [.int s0] [(a_t, .inr (11, [.int t_thrown, .ref a_t_now, .ref a_t_told, .ref a_t_one, .ref a_t_other, .ref a_t_forth, .ref a_t_cost, .ref a_t_broken, .ref a_t_away, .ref a_t_text, .int t_length, .int t_textSize, .int t_start, .int t_next, .int t_token, .int t_value, .int t_error, .int t_errorAt, .int t_number, .int t_isFirst, .ref a_t_worth, .ref a_t_choice, .ref a_t_thought, .ref a_t_before, .ref a_t_deep, .int t_limitNow, .ref a_t_price, .int t_undos, .ref a_t_undo, .ref a_t_slots, .ref a_t_isSaved])), (a_t_told, .inl (cT 0, 8, .inl t_told)), (a_t_cost, .inl (cT 0, 48, .inl t_cost))] := by
    intro K27 hK27 K43 hK43 y2 y3 y5 s0 t_thrown h
    refine xi_iconst C (v := 0) dX11_cheapestLine_98 rfl ?_
    exact B99 K27 hK27 K43 hK43 y2 y3 y5 0 s0 t_thrown h
  have B43 : ∀ (K27 : Int32 → Int32 → Int32 → Option (Int32 × Int32)) (hK27 : ∀ (y2 : Int32) (y3 : Int32) (t_thrown : Int32), K27 y2 y3 t_thrown = some r → sW X l (zR 2) D 6 0 0 27 [(0, .ref a_t), (1, .int x1), (2, .int y2), (3, .int y3)] [] [(a_t, .inr (11, [.int t_thrown, .ref a_t_now, .ref a_t_told, .ref a_t_one, .ref a_t_other, .ref a_t_forth, .ref a_t_cost, .ref a_t_broken, .ref a_t_away, .ref a_t_text, .int t_length, .int t_textSize, .int t_start, .int t_next, .int t_token, .int t_value, .int t_error, .int t_errorAt, .int t_number, .int t_isFirst, .ref a_t_worth, .ref a_t_choice, .ref a_t_thought, .ref a_t_before, .ref a_t_deep, .int t_limitNow, .ref a_t_price, .int t_undos, .ref a_t_undo, .ref a_t_slots, .ref a_t_isSaved])), (a_t_told, .inl (cT 0, 8, .inl t_told)), (a_t_cost, .inl (cT 0, 48, .inl t_cost))]) (n : Nat) (y2 : Int32) (y3 : Int32) (y4 : Int32) (y5 : Int32) (t_thrown : Int32), fX11_cheapestLine_b43 t_told t_cost x1 K27 n y2 y3 y4 y5 t_thrown = some r → sW X l (zR 2) D 6 0 0 43 [(0, .ref a_t), (1, .int x1), (2, .int y2), (3, .int y3), (4, .int y4), (5, .int y5)] [] [(a_t, .inr (11, [.int t_thrown, .ref a_t_now, .ref a_t_told, .ref a_t_one, .ref a_t_other, .ref a_t_forth, .ref a_t_cost, .ref a_t_broken, .ref a_t_away, .ref a_t_text, .int t_length, .int t_textSize, .int t_start, .int t_next, .int t_token, .int t_value, .int t_error, .int t_errorAt, .int t_number, .int t_isFirst, .ref a_t_worth, .ref a_t_choice, .ref a_t_thought, .ref a_t_before, .ref a_t_deep, .int t_limitNow, .ref a_t_price, .int t_undos, .ref a_t_undo, .ref a_t_slots, .ref a_t_isSaved])), (a_t_told, .inl (cT 0, 8, .inl t_told)), (a_t_cost, .inl (cT 0, 48, .inl t_cost))] := by
    intro K27 hK27 n
    induction n with
    | zero =>
      intro y2 y3 y4 y5 t_thrown h
      exact zno ((fX11_cheapestLine_b43_0 _ _ _ _ _ _ _ _ _).symm.trans h)
    | succ n ih =>
      intro y2 y3 y4 y5 t_thrown h
      replace h := (fX11_cheapestLine_b43_s _ _ _ _ _ _ _ _ _ _).symm.trans h
      refine xi_iload C 5 dX11_cheapestLine_43 rfl ?_
      refine xi_aload_n C 0 dX11_cheapestLine_45 rfl ?_
      refine xi_get C zkX11 2 0 zlX11_13 (by decide) rfl rfl dX11_cheapestLine_46 ?_
      refine xi_iconst C (v := 1) dX11_cheapestLine_49 rfl ?_
      refine xi_iald C 1 rfl (zv (by decide)) dX11_cheapestLine_50 ?_
      refine xi_icmp_ge C (tgt := 108) dX11_cheapestLine_51 rfl (fun c6 => ?_) (fun c6 => ?_)
      · replace h := (if_pos c6).symm.trans h
        refine xi_drop (L2 := [(0, .ref a_t), (1, .int x1), (2, .int y2), (3, .int y3), (4, .int y4)]) [0, 1, 2, 3, 4] rfl ?_
        exact B108 K27 hK27 y2 y3 y4 t_thrown h
      · replace h := (if_neg c6).symm.trans h
        refine xi_iload C 4 dX11_cheapestLine_54 rfl ?_
        refine xi_aload_n C 0 dX11_cheapestLine_56 rfl ?_
        refine xi_get C zkX11 6 0 zlX11_25 (by decide) rfl rfl dX11_cheapestLine_57 ?_
        refine xi_iload C 5 dX11_cheapestLine_60 rfl ?_
        replace h := ig h
        obtain ⟨c8, h⟩ := h
        refine xi_iald C 2 rfl c8 dX11_cheapestLine_62 ?_
        refine xi_aload_n C 0 dX11_cheapestLine_63 rfl ?_
        refine xi_get C zkX11 6 0 zlX11_25 (by decide) rfl rfl dX11_cheapestLine_64 ?_
        refine xi_iload_n C 3 dX11_cheapestLine_67 rfl ?_
        replace h := ig h
        obtain ⟨c9, h⟩ := h
        refine xi_iald C 2 rfl c9 dX11_cheapestLine_68 ?_
        refine xi_icmp_lt C (tgt := 94) dX11_cheapestLine_69 rfl (fun c10 => ?_) (fun c10 => ?_)
        · replace h := (if_pos c10).symm.trans h
          refine xi_drop (L2 := [(0, .ref a_t), (1, .int x1), (2, .int y2), (3, .int y3), (5, .int y5)]) [0, 1, 2, 3, 5] rfl ?_
          exact B94 K27 hK27 (fX11_cheapestLine_b43 t_told t_cost x1 K27 n) ih y2 y3 y5 y4 t_thrown h
        · replace h := (if_neg c10).symm.trans h
          refine xi_aload_n C 0 dX11_cheapestLine_72 rfl ?_
          refine xi_get C zkX11 6 0 zlX11_25 (by decide) rfl rfl dX11_cheapestLine_73 ?_
          refine xi_iload C 5 dX11_cheapestLine_76 rfl ?_
          refine xi_iald C 2 rfl c8 dX11_cheapestLine_78 ?_
          refine xi_aload_n C 0 dX11_cheapestLine_79 rfl ?_
          refine xi_get C zkX11 6 0 zlX11_25 (by decide) rfl rfl dX11_cheapestLine_80 ?_
          refine xi_iload_n C 3 dX11_cheapestLine_83 rfl ?_
          refine xi_iald C 2 rfl c9 dX11_cheapestLine_84 ?_
          refine xi_icmp_ne C (tgt := 98) dX11_cheapestLine_85 rfl (fun c11 => ?_) (fun c11 => ?_)
          · replace h := (if_neg c11).symm.trans h
            refine xi_drop (L2 := [(0, .ref a_t), (1, .int x1), (2, .int y2), (3, .int y3), (5, .int y5)]) [0, 1, 2, 3, 5] rfl ?_
            exact B98 K27 hK27 (fX11_cheapestLine_b43 t_told t_cost x1 K27 n) ih y2 y3 y5 y4 t_thrown h
          · replace h := (if_pos c11).symm.trans h
            refine xi_iload C 5 dX11_cheapestLine_88 rfl ?_
            refine xi_iload_n C 3 dX11_cheapestLine_90 rfl ?_
            refine xi_icmp_ge C (tgt := 98) dX11_cheapestLine_91 rfl (fun c12 => ?_) (fun c12 => ?_)
            · replace h := (if_pos c12).symm.trans h
              refine xi_drop (L2 := [(0, .ref a_t), (1, .int x1), (2, .int y2), (3, .int y3), (5, .int y5)]) [0, 1, 2, 3, 5] rfl ?_
              exact B98 K27 hK27 (fX11_cheapestLine_b43 t_told t_cost x1 K27 n) ih y2 y3 y5 y4 t_thrown h
            · replace h := (if_neg c12).symm.trans h
              refine xi_drop (L2 := [(0, .ref a_t), (1, .int x1), (2, .int y2), (3, .int y3), (5, .int y5)]) [0, 1, 2, 3, 5] rfl ?_
              exact B94 K27 hK27 (fX11_cheapestLine_b43 t_told t_cost x1 K27 n) ih y2 y3 y5 y4 t_thrown h
  have B27 : ∀ (n : Nat) (y2 : Int32) (y3 : Int32) (t_thrown : Int32), fX11_cheapestLine_b27 t_told t_cost x1 n y2 y3 t_thrown = some r → sW X l (zR 2) D 6 0 0 27 [(0, .ref a_t), (1, .int x1), (2, .int y2), (3, .int y3)] [] [(a_t, .inr (11, [.int t_thrown, .ref a_t_now, .ref a_t_told, .ref a_t_one, .ref a_t_other, .ref a_t_forth, .ref a_t_cost, .ref a_t_broken, .ref a_t_away, .ref a_t_text, .int t_length, .int t_textSize, .int t_start, .int t_next, .int t_token, .int t_value, .int t_error, .int t_errorAt, .int t_number, .int t_isFirst, .ref a_t_worth, .ref a_t_choice, .ref a_t_thought, .ref a_t_before, .ref a_t_deep, .int t_limitNow, .ref a_t_price, .int t_undos, .ref a_t_undo, .ref a_t_slots, .ref a_t_isSaved])), (a_t_told, .inl (cT 0, 8, .inl t_told)), (a_t_cost, .inl (cT 0, 48, .inl t_cost))] := by
    intro n
    induction n with
    | zero =>
      intro y2 y3 t_thrown h
      exact zno ((fX11_cheapestLine_b27_0 _ _ _ _ _ _).symm.trans h)
    | succ n ih =>
      intro y2 y3 t_thrown h
      replace h := (fX11_cheapestLine_b27_s _ _ _ _ _ _ _).symm.trans h
      refine xi_iload_n C 3 dX11_cheapestLine_27 rfl ?_
      refine xi_aload_n C 0 dX11_cheapestLine_28 rfl ?_
      refine xi_get C zkX11 2 0 zlX11_13 (by decide) rfl rfl dX11_cheapestLine_29 ?_
      refine xi_iconst C (v := 1) dX11_cheapestLine_32 rfl ?_
      refine xi_iald C 1 rfl (zv (by decide)) dX11_cheapestLine_33 ?_
      refine xi_icmp_ge C (tgt := 126) dX11_cheapestLine_34 rfl (fun c5 => ?_) (fun c5 => ?_)
      · replace h := (if_pos c5).symm.trans h
        refine xi_iload_n C 2 dX11_cheapestLine_126 rfl ?_
        obtain rfl := Option.some.inj h
        exact hE _ _ _ dX11_cheapestLine_127 rfl
      · replace h := (if_neg c5).symm.trans h
        refine xi_iconst C (v := 0) dX11_cheapestLine_37 rfl ?_
        refine xi_istore C [1, 2, 3, 4, 0] (L2 := [(0, .ref a_t), (1, .int x1), (2, .int y2), (3, .int y3), (4, .int 0)]) dX11_cheapestLine_38 (Nat.le_of_ble_eq_true rfl) rfl ?_
        refine xi_iconst C (v := 0) dX11_cheapestLine_40 rfl ?_
        refine xi_istore C [1, 2, 3, 4, 5, 0] (L2 := [(0, .ref a_t), (1, .int x1), (2, .int y2), (3, .int y3), (4, .int 0), (5, .int 0)]) dX11_cheapestLine_41 (Nat.le_of_ble_eq_true rfl) rfl ?_
        exact B43 (fX11_cheapestLine_b27 t_told t_cost x1 n) ih FU y2 y3 0 0 t_thrown h
  refine xi_drop (L2 := [(0, .ref a_t), (1, .int x1)]) [0, 1] rfl ?_
  refine xi_aload_n C 0 dX11_cheapestLine_0 rfl ?_
  refine xi_iconst C (v := 0) dX11_cheapestLine_1 rfl ?_
  refine xi_put C zkX11 0 0 zlX11_80 (by decide) rfl rfl rfl rfl (Nat.le_of_ble_eq_true rfl) dX11_cheapestLine_2 (ws2 := [(a_t, .inr (11, [.int 0, .ref a_t_now, .ref a_t_told, .ref a_t_one, .ref a_t_other, .ref a_t_forth, .ref a_t_cost, .ref a_t_broken, .ref a_t_away, .ref a_t_text, .int t_length, .int t_textSize, .int t_start, .int t_next, .int t_token, .int t_value, .int t_error, .int t_errorAt, .int t_number, .int t_isFirst, .ref a_t_worth, .ref a_t_choice, .ref a_t_thought, .ref a_t_before, .ref a_t_deep, .int t_limitNow, .ref a_t_price, .int t_undos, .ref a_t_undo, .ref a_t_slots, .ref a_t_isSaved])), (a_t_told, .inl (cT 0, 8, .inl t_told)), (a_t_cost, .inl (cT 0, 48, .inl t_cost))]) rfl ?_
  refine xi_iload_n C 1 dX11_cheapestLine_5 rfl ?_
  refine xi_iconst C (v := 0) dX11_cheapestLine_6 rfl ?_
  refine xi_aload_n C 0 dX11_cheapestLine_7 rfl ?_
  refine xi_get C zkX11 2 0 zlX11_13 (by decide) rfl rfl dX11_cheapestLine_8 ?_
  refine xi_iconst C (v := 1) dX11_cheapestLine_11 rfl ?_
  refine xi_iald C 1 rfl (zv (by decide)) dX11_cheapestLine_12 ?_
  refine xi_iconst C (v := 1) dX11_cheapestLine_13 rfl ?_
  refine xi_isub C dX11_cheapestLine_14 ?_
  refine xi_callSr C (kX11_within l D cT x1 0 ((t_told 1) - 1) (fX11_within x1 0 ((t_told 1) - 1)) rfl) zcX11_within zmX11_113 zsX11_within (zr rfl rfl) z00 rfl [] rfl rfl rfl (Nat.le_of_ble_eq_true rfl) dX11_cheapestLine_15 (fun z3 => ?_)
  refine xi_if_ne C (tgt := 23) dX11_cheapestLine_18 rfl (fun c4 => ?_) (fun c4 => ?_)
  · replace h := (if_neg c4).symm.trans h
    refine xi_iconst C (v := (-1)) dX11_cheapestLine_23 rfl ?_
    refine xi_istore_n C [1, 2, 0] (L2 := [(0, .ref a_t), (1, .int x1), (2, .int (-1))]) dX11_cheapestLine_24 (Nat.le_of_ble_eq_true rfl) rfl ?_
    refine xi_iconst C (v := 0) dX11_cheapestLine_25 rfl ?_
    refine xi_istore_n C [1, 2, 3, 0] (L2 := [(0, .ref a_t), (1, .int x1), (2, .int (-1)), (3, .int 0)]) dX11_cheapestLine_26 (Nat.le_of_ble_eq_true rfl) rfl ?_
    exact B27 FU (-1) 0 0 h
  · replace h := (if_pos c4).symm.trans h
    refine xi_iconst C (v := (-1)) dX11_cheapestLine_21 rfl ?_
    obtain rfl := Option.some.inj h
    exact hE _ _ _ dX11_cheapestLine_22 rfl
def fX11_known (t_now : Nat → Int32) (t_told : Nat → Int32) (x1 : Int32) : Option (Int32 × Int32) := (fX11_noPerson t_told x1).bind (fun u1 => if u1.1 = 0 then gd (4 + x1) 514 (some (t_now (4 + x1).toNatClampNeg, u1.2)) else some (0, u1.2))
set_option maxRecDepth 100000 in
set_option maxHeartbeats 4000000 in
theorem kX11_known (l : Launch) (D : va_G) (cT : Nat → ClassId) (a_t : Nat) (a_t_now : Nat) (a_t_told : Nat) (a_t_one : Nat) (a_t_other : Nat) (a_t_forth : Nat) (a_t_cost : Nat) (a_t_broken : Nat) (a_t_away : Nat) (a_t_text : Nat) (a_t_worth : Nat) (a_t_choice : Nat) (a_t_thought : Nat) (a_t_before : Nat) (a_t_deep : Nat) (a_t_price : Nat) (a_t_undo : Nat) (a_t_slots : Nat) (a_t_isSaved : Nat) (t_thrown : Int32) (t_length : Int32) (t_textSize : Int32) (t_start : Int32) (t_next : Int32) (t_token : Int32) (t_value : Int32) (t_error : Int32) (t_errorAt : Int32) (t_number : Int32) (t_isFirst : Int32) (t_limitNow : Int32) (t_undos : Int32) (t_now : Nat → Int32) (t_told : Nat → Int32) (x1 : Int32) (r : Int32 × Int32) (h : fX11_known t_now t_told x1 = some r) : sM l yX11_known cX11_known 2 (some .int) (zR 4) D cT [.ref a_t, .int x1] [(a_t, .inr (11, [.int t_thrown, .ref a_t_now, .ref a_t_told, .ref a_t_one, .ref a_t_other, .ref a_t_forth, .ref a_t_cost, .ref a_t_broken, .ref a_t_away, .ref a_t_text, .int t_length, .int t_textSize, .int t_start, .int t_next, .int t_token, .int t_value, .int t_error, .int t_errorAt, .int t_number, .int t_isFirst, .ref a_t_worth, .ref a_t_choice, .ref a_t_thought, .ref a_t_before, .ref a_t_deep, .int t_limitNow, .ref a_t_price, .int t_undos, .ref a_t_undo, .ref a_t_slots, .ref a_t_isSaved])), (a_t_now, .inl (cT 0, 514, .inl t_now)), (a_t_told, .inl (cT 0, 8, .inl t_told))] (some (.int r.1)) [(a_t, .inr (11, [.int r.2, .ref a_t_now, .ref a_t_told, .ref a_t_one, .ref a_t_other, .ref a_t_forth, .ref a_t_cost, .ref a_t_broken, .ref a_t_away, .ref a_t_text, .int t_length, .int t_textSize, .int t_start, .int t_next, .int t_token, .int t_value, .int t_error, .int t_errorAt, .int t_number, .int t_isFirst, .ref a_t_worth, .ref a_t_choice, .ref a_t_thought, .ref a_t_before, .ref a_t_deep, .int t_limitNow, .ref a_t_price, .int t_undos, .ref a_t_undo, .ref a_t_slots, .ref a_t_isSaved])), (a_t_now, .inl (cT 0, 514, .inl t_now)), (a_t_told, .inl (cT 0, 8, .inl t_told))] := by
  refine sM_int rfl (Nat.le_of_ble_eq_true rfl) ?_
  intro X C hE
  refine xi_drop (L2 := [(0, .ref a_t), (1, .int x1)]) [0, 1] rfl ?_
  refine xi_aload_n C 0 dX11_known_0 rfl ?_
  refine xi_iload_n C 1 dX11_known_1 rfl ?_
  replace h := ob h
  obtain ⟨u1, hu2, h⟩ := h
  refine xi_callV C (kX11_noPerson l D cT a_t a_t_now a_t_told a_t_one a_t_other a_t_forth a_t_cost a_t_broken a_t_away a_t_text a_t_worth a_t_choice a_t_thought a_t_before a_t_deep a_t_price a_t_undo a_t_slots a_t_isSaved t_thrown t_length t_textSize t_start t_next t_token t_value t_error t_errorAt t_number t_isFirst t_limitNow t_undos t_told x1 u1 hu2) zcX11_noPerson zmX11_210 ziX11_noPerson (zr rfl rfl) z00 rfl [0, 2] rfl rfl rfl [some 0, none, some 1] (by decide +kernel) (ws2 := [(a_t, .inr (11, [.int u1.2, .ref a_t_now, .ref a_t_told, .ref a_t_one, .ref a_t_other, .ref a_t_forth, .ref a_t_cost, .ref a_t_broken, .ref a_t_away, .ref a_t_text, .int t_length, .int t_textSize, .int t_start, .int t_next, .int t_token, .int t_value, .int t_error, .int t_errorAt, .int t_number, .int t_isFirst, .ref a_t_worth, .ref a_t_choice, .ref a_t_thought, .ref a_t_before, .ref a_t_deep, .int t_limitNow, .ref a_t_price, .int t_undos, .ref a_t_undo, .ref a_t_slots, .ref a_t_isSaved])), (a_t_now, .inl (cT 0, 514, .inl t_now)), (a_t_told, .inl (cT 0, 8, .inl t_told))]) rfl zkX11.1 (qr := 0) rfl rfl (Nat.le_of_ble_eq_true rfl) dX11_known_2 (fun z3 => ?_)
  refine xi_if_eq C (tgt := 12) dX11_known_5 rfl (fun c4 => ?_) (fun c4 => ?_)
  · replace h := (if_pos c4).symm.trans h
    refine xi_aload_n C 0 dX11_known_12 rfl ?_
    refine xi_get C zkX11 1 0 zlX11_7 (by decide) rfl rfl dX11_known_13 ?_
    refine xi_iconst C (v := 4) dX11_known_16 rfl ?_
    refine xi_iload_n C 1 dX11_known_17 rfl ?_
    refine xi_iadd C dX11_known_18 ?_
    replace h := ig h
    obtain ⟨c5, h⟩ := h
    refine xi_iald C 1 rfl c5 dX11_known_19 ?_
    obtain rfl := Option.some.inj h
    exact hE _ _ _ dX11_known_20 rfl
  · replace h := (if_neg c4).symm.trans h
    refine xi_iconst C (v := 0) dX11_known_8 rfl ?_
    refine xi_goto C (tgt := 20) dX11_known_9 rfl ?_
    obtain rfl := Option.some.inj h
    exact hE _ _ _ dX11_known_20 rfl
def fX11_knowersOf (t_now : Nat → Int32) (t_told : Nat → Int32) (x1 : Int32) : Option Int32 := (fX11_knowersIn 514 t_now 4 (t_told 0) x1).bind (fun u1 => some u1)
set_option maxRecDepth 100000 in
set_option maxHeartbeats 4000000 in
theorem kX11_knowersOf (l : Launch) (D : va_G) (cT : Nat → ClassId) (a_t : Nat) (a_t_now : Nat) (a_t_told : Nat) (a_t_one : Nat) (a_t_other : Nat) (a_t_forth : Nat) (a_t_cost : Nat) (a_t_broken : Nat) (a_t_away : Nat) (a_t_text : Nat) (a_t_worth : Nat) (a_t_choice : Nat) (a_t_thought : Nat) (a_t_before : Nat) (a_t_deep : Nat) (a_t_price : Nat) (a_t_undo : Nat) (a_t_slots : Nat) (a_t_isSaved : Nat) (t_thrown : Int32) (t_length : Int32) (t_textSize : Int32) (t_start : Int32) (t_next : Int32) (t_token : Int32) (t_value : Int32) (t_error : Int32) (t_errorAt : Int32) (t_number : Int32) (t_isFirst : Int32) (t_limitNow : Int32) (t_undos : Int32) (t_now : Nat → Int32) (t_told : Nat → Int32) (x1 : Int32) (r : Int32) (h : fX11_knowersOf t_now t_told x1 = some r) : sM l yX11_knowersOf cX11_knowersOf 2 (some .int) (zR 3) D cT [.ref a_t, .int x1] [(a_t, .inr (11, [.int t_thrown, .ref a_t_now, .ref a_t_told, .ref a_t_one, .ref a_t_other, .ref a_t_forth, .ref a_t_cost, .ref a_t_broken, .ref a_t_away, .ref a_t_text, .int t_length, .int t_textSize, .int t_start, .int t_next, .int t_token, .int t_value, .int t_error, .int t_errorAt, .int t_number, .int t_isFirst, .ref a_t_worth, .ref a_t_choice, .ref a_t_thought, .ref a_t_before, .ref a_t_deep, .int t_limitNow, .ref a_t_price, .int t_undos, .ref a_t_undo, .ref a_t_slots, .ref a_t_isSaved])), (a_t_now, .inl (cT 0, 514, .inl t_now)), (a_t_told, .inl (cT 0, 8, .inl t_told))] (some (.int r)) [(a_t, .inr (11, [.int t_thrown, .ref a_t_now, .ref a_t_told, .ref a_t_one, .ref a_t_other, .ref a_t_forth, .ref a_t_cost, .ref a_t_broken, .ref a_t_away, .ref a_t_text, .int t_length, .int t_textSize, .int t_start, .int t_next, .int t_token, .int t_value, .int t_error, .int t_errorAt, .int t_number, .int t_isFirst, .ref a_t_worth, .ref a_t_choice, .ref a_t_thought, .ref a_t_before, .ref a_t_deep, .int t_limitNow, .ref a_t_price, .int t_undos, .ref a_t_undo, .ref a_t_slots, .ref a_t_isSaved])), (a_t_now, .inl (cT 0, 514, .inl t_now)), (a_t_told, .inl (cT 0, 8, .inl t_told))] := by
  refine sM_int rfl (Nat.le_of_ble_eq_true rfl) ?_
  intro X C hE
  refine xi_drop (L2 := [(0, .ref a_t), (1, .int x1)]) [0, 1] rfl ?_
  refine xi_aload_n C 0 dX11_knowersOf_0 rfl ?_
  refine xi_get C zkX11 1 0 zlX11_7 (by decide) rfl rfl dX11_knowersOf_1 ?_
  refine xi_iconst C (v := 4) dX11_knowersOf_4 rfl ?_
  refine xi_aload_n C 0 dX11_knowersOf_5 rfl ?_
  refine xi_get C zkX11 2 0 zlX11_13 (by decide) rfl rfl dX11_knowersOf_6 ?_
  refine xi_iconst C (v := 0) dX11_knowersOf_9 rfl ?_
  refine xi_iald C 2 rfl (zv (by decide)) dX11_knowersOf_10 ?_
  refine xi_iload_n C 1 dX11_knowersOf_11 rfl ?_
  replace h := ob h
  obtain ⟨u1, hu2, h⟩ := h
  refine xi_callSr C (kX11_knowersIn l D cT a_t_now 514 t_now 4 (t_told 0) x1 u1 hu2) zcX11_knowersIn zmX11_213 zsX11_knowersIn (zr rfl rfl) z00 rfl [1] rfl rfl rfl (Nat.le_of_ble_eq_true rfl) dX11_knowersOf_12 (fun z3 => ?_)
  obtain rfl := Option.some.inj h
  exact hE _ _ _ dX11_knowersOf_15 rfl
def fX11_knowers (t_now : Nat → Int32) (t_told : Nat → Int32) (x1 : Int32) : Option (Int32 × Int32) := (fX11_noPerson t_told x1).bind (fun u1 => if u1.1 = 0 then (fX11_knowersOf t_now t_told x1).bind (fun u5 => some (u5, u1.2)) else some (0, u1.2))
set_option maxRecDepth 100000 in
set_option maxHeartbeats 4000000 in
theorem kX11_knowers (l : Launch) (D : va_G) (cT : Nat → ClassId) (a_t : Nat) (a_t_now : Nat) (a_t_told : Nat) (a_t_one : Nat) (a_t_other : Nat) (a_t_forth : Nat) (a_t_cost : Nat) (a_t_broken : Nat) (a_t_away : Nat) (a_t_text : Nat) (a_t_worth : Nat) (a_t_choice : Nat) (a_t_thought : Nat) (a_t_before : Nat) (a_t_deep : Nat) (a_t_price : Nat) (a_t_undo : Nat) (a_t_slots : Nat) (a_t_isSaved : Nat) (t_thrown : Int32) (t_length : Int32) (t_textSize : Int32) (t_start : Int32) (t_next : Int32) (t_token : Int32) (t_value : Int32) (t_error : Int32) (t_errorAt : Int32) (t_number : Int32) (t_isFirst : Int32) (t_limitNow : Int32) (t_undos : Int32) (t_now : Nat → Int32) (t_told : Nat → Int32) (x1 : Int32) (r : Int32 × Int32) (h : fX11_knowers t_now t_told x1 = some r) : sM l yX11_knowers cX11_knowers 2 (some .int) (zR 4) D cT [.ref a_t, .int x1] [(a_t, .inr (11, [.int t_thrown, .ref a_t_now, .ref a_t_told, .ref a_t_one, .ref a_t_other, .ref a_t_forth, .ref a_t_cost, .ref a_t_broken, .ref a_t_away, .ref a_t_text, .int t_length, .int t_textSize, .int t_start, .int t_next, .int t_token, .int t_value, .int t_error, .int t_errorAt, .int t_number, .int t_isFirst, .ref a_t_worth, .ref a_t_choice, .ref a_t_thought, .ref a_t_before, .ref a_t_deep, .int t_limitNow, .ref a_t_price, .int t_undos, .ref a_t_undo, .ref a_t_slots, .ref a_t_isSaved])), (a_t_now, .inl (cT 0, 514, .inl t_now)), (a_t_told, .inl (cT 0, 8, .inl t_told))] (some (.int r.1)) [(a_t, .inr (11, [.int r.2, .ref a_t_now, .ref a_t_told, .ref a_t_one, .ref a_t_other, .ref a_t_forth, .ref a_t_cost, .ref a_t_broken, .ref a_t_away, .ref a_t_text, .int t_length, .int t_textSize, .int t_start, .int t_next, .int t_token, .int t_value, .int t_error, .int t_errorAt, .int t_number, .int t_isFirst, .ref a_t_worth, .ref a_t_choice, .ref a_t_thought, .ref a_t_before, .ref a_t_deep, .int t_limitNow, .ref a_t_price, .int t_undos, .ref a_t_undo, .ref a_t_slots, .ref a_t_isSaved])), (a_t_now, .inl (cT 0, 514, .inl t_now)), (a_t_told, .inl (cT 0, 8, .inl t_told))] := by
  refine sM_int rfl (Nat.le_of_ble_eq_true rfl) ?_
  intro X C hE
  refine xi_drop (L2 := [(0, .ref a_t), (1, .int x1)]) [0, 1] rfl ?_
  refine xi_aload_n C 0 dX11_knowers_0 rfl ?_
  refine xi_iload_n C 1 dX11_knowers_1 rfl ?_
  replace h := ob h
  obtain ⟨u1, hu2, h⟩ := h
  refine xi_callV C (kX11_noPerson l D cT a_t a_t_now a_t_told a_t_one a_t_other a_t_forth a_t_cost a_t_broken a_t_away a_t_text a_t_worth a_t_choice a_t_thought a_t_before a_t_deep a_t_price a_t_undo a_t_slots a_t_isSaved t_thrown t_length t_textSize t_start t_next t_token t_value t_error t_errorAt t_number t_isFirst t_limitNow t_undos t_told x1 u1 hu2) zcX11_noPerson zmX11_210 ziX11_noPerson (zr rfl rfl) z00 rfl [0, 2] rfl rfl rfl [some 0, none, some 1] (by decide +kernel) (ws2 := [(a_t, .inr (11, [.int u1.2, .ref a_t_now, .ref a_t_told, .ref a_t_one, .ref a_t_other, .ref a_t_forth, .ref a_t_cost, .ref a_t_broken, .ref a_t_away, .ref a_t_text, .int t_length, .int t_textSize, .int t_start, .int t_next, .int t_token, .int t_value, .int t_error, .int t_errorAt, .int t_number, .int t_isFirst, .ref a_t_worth, .ref a_t_choice, .ref a_t_thought, .ref a_t_before, .ref a_t_deep, .int t_limitNow, .ref a_t_price, .int t_undos, .ref a_t_undo, .ref a_t_slots, .ref a_t_isSaved])), (a_t_now, .inl (cT 0, 514, .inl t_now)), (a_t_told, .inl (cT 0, 8, .inl t_told))]) rfl zkX11.1 (qr := 0) rfl rfl (Nat.le_of_ble_eq_true rfl) dX11_knowers_2 (fun z3 => ?_)
  refine xi_if_eq C (tgt := 12) dX11_knowers_5 rfl (fun c4 => ?_) (fun c4 => ?_)
  · replace h := (if_pos c4).symm.trans h
    refine xi_aload_n C 0 dX11_knowers_12 rfl ?_
    refine xi_iload_n C 1 dX11_knowers_13 rfl ?_
    replace h := ob h
    obtain ⟨u5, hu6, h⟩ := h
    refine xi_callVr C (kX11_knowersOf l D cT a_t a_t_now a_t_told a_t_one a_t_other a_t_forth a_t_cost a_t_broken a_t_away a_t_text a_t_worth a_t_choice a_t_thought a_t_before a_t_deep a_t_price a_t_undo a_t_slots a_t_isSaved u1.2 t_length t_textSize t_start t_next t_token t_value t_error t_errorAt t_number t_isFirst t_limitNow t_undos t_now t_told x1 u5 hu6) zcX11_knowersOf zmX11_217 ziX11_knowersOf (zr rfl rfl) z00 rfl [0, 1, 2] rfl rfl zkX11.1 (qr := 0) rfl rfl (Nat.le_of_ble_eq_true rfl) dX11_knowers_14 (fun z7 => ?_)
    obtain rfl := Option.some.inj h
    exact hE _ _ _ dX11_knowers_17 rfl
  · replace h := (if_neg c4).symm.trans h
    refine xi_iconst C (v := 0) dX11_knowers_8 rfl ?_
    refine xi_goto C (tgt := 17) dX11_knowers_9 rfl ?_
    obtain rfl := Option.some.inj h
    exact hE _ _ _ dX11_knowers_17 rfl
def fX11_missingIn_b5 (N_p1 : Nat) (t_told : Nat → Int32) (p1 : Nat → Int32) (x2 : Int32) : Nat → Int32 → Int32 → Option Int32
  | 0, _, _ => none
  | n + 1, y3, y4 => if (t_told 0) ≤ y4 then some y3 else gd (x2 + y4) N_p1 ((fX11_many (p1 (x2 + y4).toNatClampNeg)).bind (fun u3 => (fX11_missingIn_b5 N_p1 t_told p1 x2 n) (y3 + ((t_told 0) - u3)) (y4 + 1)))
theorem fX11_missingIn_b5_0 (N_p1 : Nat) (t_told : Nat → Int32) (p1 : Nat → Int32) (x2 : Int32) (y3 : Int32) (y4 : Int32) : fX11_missingIn_b5 N_p1 t_told p1 x2 0 y3 y4 = none := rfl
theorem fX11_missingIn_b5_s (N_p1 : Nat) (t_told : Nat → Int32) (p1 : Nat → Int32) (x2 : Int32) (n : Nat) (y3 : Int32) (y4 : Int32) : fX11_missingIn_b5 N_p1 t_told p1 x2 (n + 1) y3 y4 = (if (t_told 0) ≤ y4 then some y3 else gd (x2 + y4) N_p1 ((fX11_many (p1 (x2 + y4).toNatClampNeg)).bind (fun u3 => (fX11_missingIn_b5 N_p1 t_told p1 x2 n) (y3 + ((t_told 0) - u3)) (y4 + 1)))) := rfl
def fX11_missingIn (N_p1 : Nat) (t_told : Nat → Int32) (p1 : Nat → Int32) (x2 : Int32) : Option Int32 := fX11_missingIn_b5 N_p1 t_told p1 x2 FU 0 0
set_option maxRecDepth 100000 in
set_option maxHeartbeats 4000000 in
theorem kX11_missingIn (l : Launch) (D : va_G) (cT : Nat → ClassId) (a_t : Nat) (a_t_now : Nat) (a_t_told : Nat) (a_t_one : Nat) (a_t_other : Nat) (a_t_forth : Nat) (a_t_cost : Nat) (a_t_broken : Nat) (a_t_away : Nat) (a_t_text : Nat) (a_t_worth : Nat) (a_t_choice : Nat) (a_t_thought : Nat) (a_t_before : Nat) (a_t_deep : Nat) (a_t_price : Nat) (a_t_undo : Nat) (a_t_slots : Nat) (a_t_isSaved : Nat) (a_p1 : Nat) (N_p1 : Nat) (t_thrown : Int32) (t_length : Int32) (t_textSize : Int32) (t_start : Int32) (t_next : Int32) (t_token : Int32) (t_value : Int32) (t_error : Int32) (t_errorAt : Int32) (t_number : Int32) (t_isFirst : Int32) (t_limitNow : Int32) (t_undos : Int32) (t_told : Nat → Int32) (p1 : Nat → Int32) (x2 : Int32) (r : Int32) (h : fX11_missingIn N_p1 t_told p1 x2 = some r) : sM l yX11_missingIn cX11_missingIn 5 (some .int) (zR 2) D cT [.ref a_t, .ref a_p1, .int x2] [(a_t, .inr (11, [.int t_thrown, .ref a_t_now, .ref a_t_told, .ref a_t_one, .ref a_t_other, .ref a_t_forth, .ref a_t_cost, .ref a_t_broken, .ref a_t_away, .ref a_t_text, .int t_length, .int t_textSize, .int t_start, .int t_next, .int t_token, .int t_value, .int t_error, .int t_errorAt, .int t_number, .int t_isFirst, .ref a_t_worth, .ref a_t_choice, .ref a_t_thought, .ref a_t_before, .ref a_t_deep, .int t_limitNow, .ref a_t_price, .int t_undos, .ref a_t_undo, .ref a_t_slots, .ref a_t_isSaved])), (a_t_told, .inl (cT 0, 8, .inl t_told)), (a_p1, .inl (cT 0, N_p1, .inl p1))] (some (.int r)) [(a_t, .inr (11, [.int t_thrown, .ref a_t_now, .ref a_t_told, .ref a_t_one, .ref a_t_other, .ref a_t_forth, .ref a_t_cost, .ref a_t_broken, .ref a_t_away, .ref a_t_text, .int t_length, .int t_textSize, .int t_start, .int t_next, .int t_token, .int t_value, .int t_error, .int t_errorAt, .int t_number, .int t_isFirst, .ref a_t_worth, .ref a_t_choice, .ref a_t_thought, .ref a_t_before, .ref a_t_deep, .int t_limitNow, .ref a_t_price, .int t_undos, .ref a_t_undo, .ref a_t_slots, .ref a_t_isSaved])), (a_t_told, .inl (cT 0, 8, .inl t_told)), (a_p1, .inl (cT 0, N_p1, .inl p1))] := by
  refine sM_int rfl (Nat.le_of_ble_eq_true rfl) ?_
  intro X C hE
  have B5 : ∀ (n : Nat) (y3 : Int32) (y4 : Int32), fX11_missingIn_b5 N_p1 t_told p1 x2 n y3 y4 = some r → sW X l (zR 2) D 5 0 0 5 [(0, .ref a_t), (1, .ref a_p1), (2, .int x2), (3, .int y3), (4, .int y4)] [] [(a_t, .inr (11, [.int t_thrown, .ref a_t_now, .ref a_t_told, .ref a_t_one, .ref a_t_other, .ref a_t_forth, .ref a_t_cost, .ref a_t_broken, .ref a_t_away, .ref a_t_text, .int t_length, .int t_textSize, .int t_start, .int t_next, .int t_token, .int t_value, .int t_error, .int t_errorAt, .int t_number, .int t_isFirst, .ref a_t_worth, .ref a_t_choice, .ref a_t_thought, .ref a_t_before, .ref a_t_deep, .int t_limitNow, .ref a_t_price, .int t_undos, .ref a_t_undo, .ref a_t_slots, .ref a_t_isSaved])), (a_t_told, .inl (cT 0, 8, .inl t_told)), (a_p1, .inl (cT 0, N_p1, .inl p1))] := by
    intro n
    induction n with
    | zero =>
      intro y3 y4 h
      exact zno ((fX11_missingIn_b5_0 _ _ _ _ _ _).symm.trans h)
    | succ n ih =>
      intro y3 y4 h
      replace h := (fX11_missingIn_b5_s _ _ _ _ _ _ _).symm.trans h
      refine xi_iload C 4 dX11_missingIn_5 rfl ?_
      refine xi_aload_n C 0 dX11_missingIn_7 rfl ?_
      refine xi_get C zkX11 2 0 zlX11_13 (by decide) rfl rfl dX11_missingIn_8 ?_
      refine xi_iconst C (v := 0) dX11_missingIn_11 rfl ?_
      refine xi_iald C 1 rfl (zv (by decide)) dX11_missingIn_12 ?_
      refine xi_icmp_ge C (tgt := 41) dX11_missingIn_13 rfl (fun c1 => ?_) (fun c1 => ?_)
      · replace h := (if_pos c1).symm.trans h
        refine xi_iload_n C 3 dX11_missingIn_41 rfl ?_
        obtain rfl := Option.some.inj h
        exact hE _ _ _ dX11_missingIn_42 rfl
      · replace h := (if_neg c1).symm.trans h
        refine xi_iload_n C 3 dX11_missingIn_16 rfl ?_
        refine xi_aload_n C 0 dX11_missingIn_17 rfl ?_
        refine xi_get C zkX11 2 0 zlX11_13 (by decide) rfl rfl dX11_missingIn_18 ?_
        refine xi_iconst C (v := 0) dX11_missingIn_21 rfl ?_
        refine xi_iald C 1 rfl (zv (by decide)) dX11_missingIn_22 ?_
        refine xi_aload_n C 1 dX11_missingIn_23 rfl ?_
        refine xi_iload_n C 2 dX11_missingIn_24 rfl ?_
        refine xi_iload C 4 dX11_missingIn_25 rfl ?_
        refine xi_iadd C dX11_missingIn_27 ?_
        replace h := ig h
        obtain ⟨c2, h⟩ := h
        refine xi_iald C 2 rfl c2 dX11_missingIn_28 ?_
        replace h := ob h
        obtain ⟨u3, hu4, h⟩ := h
        refine xi_callSr C (kX11_many l D cT (p1 (x2 + y4).toNatClampNeg) u3 hu4) zcX11_many zmX11_192 zsX11_many (zr rfl rfl) z00 rfl [] rfl rfl rfl (Nat.le_of_ble_eq_true rfl) dX11_missingIn_29 (fun z5 => ?_)
        refine xi_isub C dX11_missingIn_32 ?_
        refine xi_iadd C dX11_missingIn_33 ?_
        refine xi_istore_n C [1, 2, 3, 0, 4] (L2 := [(0, .ref a_t), (1, .ref a_p1), (2, .int x2), (3, .int (y3 + ((t_told 0) - u3))), (4, .int y4)]) dX11_missingIn_34 (Nat.le_of_ble_eq_true rfl) rfl ?_
        refine xi_iinc C (v := y4 + 1) 4 [1, 2, 3, 4, 0] (L2 := [(0, .ref a_t), (1, .ref a_p1), (2, .int x2), (3, .int (y3 + ((t_told 0) - u3))), (4, .int (y4 + 1))]) dX11_missingIn_35 rfl rfl (Nat.le_of_ble_eq_true rfl) rfl ?_
        refine xi_goto C (tgt := 5) dX11_missingIn_38 rfl ?_
        exact ih (y3 + ((t_told 0) - u3)) (y4 + 1) h
  refine xi_drop (L2 := [(0, .ref a_t), (1, .ref a_p1), (2, .int x2)]) [0, 1, 2] rfl ?_
  refine xi_iconst C (v := 0) dX11_missingIn_0 rfl ?_
  refine xi_istore_n C [1, 2, 3, 0] (L2 := [(0, .ref a_t), (1, .ref a_p1), (2, .int x2), (3, .int 0)]) dX11_missingIn_1 (Nat.le_of_ble_eq_true rfl) rfl ?_
  refine xi_iconst C (v := 0) dX11_missingIn_2 rfl ?_
  refine xi_istore C [1, 2, 3, 4, 0] (L2 := [(0, .ref a_t), (1, .ref a_p1), (2, .int x2), (3, .int 0), (4, .int 0)]) dX11_missingIn_3 (Nat.le_of_ble_eq_true rfl) rfl ?_
  exact B5 FU 0 0 h
def fX11_missing (t_now : Nat → Int32) (t_told : Nat → Int32) : Option (Int32 × Int32) := (fX11_missingIn 514 t_told t_now 4).bind (fun u1 => some (u1, 0))
set_option maxRecDepth 100000 in
set_option maxHeartbeats 4000000 in
theorem kX11_missing (l : Launch) (D : va_G) (cT : Nat → ClassId) (a_t : Nat) (a_t_now : Nat) (a_t_told : Nat) (a_t_one : Nat) (a_t_other : Nat) (a_t_forth : Nat) (a_t_cost : Nat) (a_t_broken : Nat) (a_t_away : Nat) (a_t_text : Nat) (a_t_worth : Nat) (a_t_choice : Nat) (a_t_thought : Nat) (a_t_before : Nat) (a_t_deep : Nat) (a_t_price : Nat) (a_t_undo : Nat) (a_t_slots : Nat) (a_t_isSaved : Nat) (t_thrown : Int32) (t_length : Int32) (t_textSize : Int32) (t_start : Int32) (t_next : Int32) (t_token : Int32) (t_value : Int32) (t_error : Int32) (t_errorAt : Int32) (t_number : Int32) (t_isFirst : Int32) (t_limitNow : Int32) (t_undos : Int32) (t_now : Nat → Int32) (t_told : Nat → Int32) (r : Int32 × Int32) (h : fX11_missing t_now t_told = some r) : sM l yX11_missing cX11_missing 1 (some .int) (zR 3) D cT [.ref a_t] [(a_t, .inr (11, [.int t_thrown, .ref a_t_now, .ref a_t_told, .ref a_t_one, .ref a_t_other, .ref a_t_forth, .ref a_t_cost, .ref a_t_broken, .ref a_t_away, .ref a_t_text, .int t_length, .int t_textSize, .int t_start, .int t_next, .int t_token, .int t_value, .int t_error, .int t_errorAt, .int t_number, .int t_isFirst, .ref a_t_worth, .ref a_t_choice, .ref a_t_thought, .ref a_t_before, .ref a_t_deep, .int t_limitNow, .ref a_t_price, .int t_undos, .ref a_t_undo, .ref a_t_slots, .ref a_t_isSaved])), (a_t_now, .inl (cT 0, 514, .inl t_now)), (a_t_told, .inl (cT 0, 8, .inl t_told))] (some (.int r.1)) [(a_t, .inr (11, [.int r.2, .ref a_t_now, .ref a_t_told, .ref a_t_one, .ref a_t_other, .ref a_t_forth, .ref a_t_cost, .ref a_t_broken, .ref a_t_away, .ref a_t_text, .int t_length, .int t_textSize, .int t_start, .int t_next, .int t_token, .int t_value, .int t_error, .int t_errorAt, .int t_number, .int t_isFirst, .ref a_t_worth, .ref a_t_choice, .ref a_t_thought, .ref a_t_before, .ref a_t_deep, .int t_limitNow, .ref a_t_price, .int t_undos, .ref a_t_undo, .ref a_t_slots, .ref a_t_isSaved])), (a_t_now, .inl (cT 0, 514, .inl t_now)), (a_t_told, .inl (cT 0, 8, .inl t_told))] := by
  refine sM_int rfl (Nat.le_of_ble_eq_true rfl) ?_
  intro X C hE
  refine xi_drop (L2 := [(0, .ref a_t)]) [0] rfl ?_
  refine xi_aload_n C 0 dX11_missing_0 rfl ?_
  refine xi_iconst C (v := 0) dX11_missing_1 rfl ?_
  refine xi_put C zkX11 0 0 zlX11_80 (by decide) rfl rfl rfl rfl (Nat.le_of_ble_eq_true rfl) dX11_missing_2 (ws2 := [(a_t, .inr (11, [.int 0, .ref a_t_now, .ref a_t_told, .ref a_t_one, .ref a_t_other, .ref a_t_forth, .ref a_t_cost, .ref a_t_broken, .ref a_t_away, .ref a_t_text, .int t_length, .int t_textSize, .int t_start, .int t_next, .int t_token, .int t_value, .int t_error, .int t_errorAt, .int t_number, .int t_isFirst, .ref a_t_worth, .ref a_t_choice, .ref a_t_thought, .ref a_t_before, .ref a_t_deep, .int t_limitNow, .ref a_t_price, .int t_undos, .ref a_t_undo, .ref a_t_slots, .ref a_t_isSaved])), (a_t_now, .inl (cT 0, 514, .inl t_now)), (a_t_told, .inl (cT 0, 8, .inl t_told))]) rfl ?_
  refine xi_aload_n C 0 dX11_missing_5 rfl ?_
  refine xi_aload_n C 0 dX11_missing_6 rfl ?_
  refine xi_get C zkX11 1 0 zlX11_7 (by decide) rfl rfl dX11_missing_7 ?_
  refine xi_iconst C (v := 4) dX11_missing_10 rfl ?_
  replace h := ob h
  obtain ⟨u1, hu2, h⟩ := h
  refine xi_callVr C (kX11_missingIn l D cT a_t a_t_now a_t_told a_t_one a_t_other a_t_forth a_t_cost a_t_broken a_t_away a_t_text a_t_worth a_t_choice a_t_thought a_t_before a_t_deep a_t_price a_t_undo a_t_slots a_t_isSaved a_t_now 514 0 t_length t_textSize t_start t_next t_token t_value t_error t_errorAt t_number t_isFirst t_limitNow t_undos t_told t_now 4 u1 hu2) zcX11_missingIn zmX11_220 ziX11_missingIn (zr rfl rfl) z00 rfl [0, 2, 1] rfl rfl zkX11.1 (qr := 0) rfl rfl (Nat.le_of_ble_eq_true rfl) dX11_missing_11 (fun z3 => ?_)
  obtain rfl := Option.some.inj h
  exact hE _ _ _ dX11_missing_14 rfl
def fX11_partner_b55 (t_one : Nat → Int32) (t_other : Nat → Int32) (x1 : Int32) (y2 : Int32) (t_thrown : Int32) : Option (Int32 × Int32) := gd y2 48 (some (((t_one y2.toNatClampNeg) + (t_other y2.toNatClampNeg)) - x1, t_thrown))
def fX11_partner_b12 (t_now : Nat → Int32) (t_told : Nat → Int32) (t_one : Nat → Int32) (t_other : Nat → Int32) (x1 : Int32) : Nat → Int32 → Int32 → Option (Int32 × Int32)
  | 0, _, _ => none
  | n + 1, y2, t_thrown => if (t_told 1) ≤ y2 then some ((-1), t_thrown) else if (fX11_isIn (t_now 2) y2) = 0 then (fX11_partner_b12 t_now t_told t_one t_other x1 n) (y2 + 1) t_thrown else gd y2 48 (if (t_one y2.toNatClampNeg) = x1 then fX11_partner_b55 t_one t_other x1 y2 t_thrown else if (t_other y2.toNatClampNeg) = x1 then fX11_partner_b55 t_one t_other x1 y2 t_thrown else (fX11_partner_b12 t_now t_told t_one t_other x1 n) (y2 + 1) t_thrown)
theorem fX11_partner_b12_0 (t_now : Nat → Int32) (t_told : Nat → Int32) (t_one : Nat → Int32) (t_other : Nat → Int32) (x1 : Int32) (y2 : Int32) (t_thrown : Int32) : fX11_partner_b12 t_now t_told t_one t_other x1 0 y2 t_thrown = none := rfl
theorem fX11_partner_b12_s (t_now : Nat → Int32) (t_told : Nat → Int32) (t_one : Nat → Int32) (t_other : Nat → Int32) (x1 : Int32) (n : Nat) (y2 : Int32) (t_thrown : Int32) : fX11_partner_b12 t_now t_told t_one t_other x1 (n + 1) y2 t_thrown = (if (t_told 1) ≤ y2 then some ((-1), t_thrown) else if (fX11_isIn (t_now 2) y2) = 0 then (fX11_partner_b12 t_now t_told t_one t_other x1 n) (y2 + 1) t_thrown else gd y2 48 (if (t_one y2.toNatClampNeg) = x1 then fX11_partner_b55 t_one t_other x1 y2 t_thrown else if (t_other y2.toNatClampNeg) = x1 then fX11_partner_b55 t_one t_other x1 y2 t_thrown else (fX11_partner_b12 t_now t_told t_one t_other x1 n) (y2 + 1) t_thrown)) := rfl
def fX11_partner (t_now : Nat → Int32) (t_told : Nat → Int32) (t_one : Nat → Int32) (t_other : Nat → Int32) (x1 : Int32) : Option (Int32 × Int32) := (fX11_noPerson t_told x1).bind (fun u1 => if u1.1 = 0 then fX11_partner_b12 t_now t_told t_one t_other x1 FU 0 u1.2 else some (0, u1.2))
set_option maxRecDepth 100000 in
set_option maxHeartbeats 4000000 in
theorem kX11_partner (l : Launch) (D : va_G) (cT : Nat → ClassId) (a_t : Nat) (a_t_now : Nat) (a_t_told : Nat) (a_t_one : Nat) (a_t_other : Nat) (a_t_forth : Nat) (a_t_cost : Nat) (a_t_broken : Nat) (a_t_away : Nat) (a_t_text : Nat) (a_t_worth : Nat) (a_t_choice : Nat) (a_t_thought : Nat) (a_t_before : Nat) (a_t_deep : Nat) (a_t_price : Nat) (a_t_undo : Nat) (a_t_slots : Nat) (a_t_isSaved : Nat) (t_thrown : Int32) (t_length : Int32) (t_textSize : Int32) (t_start : Int32) (t_next : Int32) (t_token : Int32) (t_value : Int32) (t_error : Int32) (t_errorAt : Int32) (t_number : Int32) (t_isFirst : Int32) (t_limitNow : Int32) (t_undos : Int32) (t_now : Nat → Int32) (t_told : Nat → Int32) (t_one : Nat → Int32) (t_other : Nat → Int32) (x1 : Int32) (r : Int32 × Int32) (h : fX11_partner t_now t_told t_one t_other x1 = some r) : sM l yX11_partner cX11_partner 3 (some .int) (zR 4) D cT [.ref a_t, .int x1] [(a_t, .inr (11, [.int t_thrown, .ref a_t_now, .ref a_t_told, .ref a_t_one, .ref a_t_other, .ref a_t_forth, .ref a_t_cost, .ref a_t_broken, .ref a_t_away, .ref a_t_text, .int t_length, .int t_textSize, .int t_start, .int t_next, .int t_token, .int t_value, .int t_error, .int t_errorAt, .int t_number, .int t_isFirst, .ref a_t_worth, .ref a_t_choice, .ref a_t_thought, .ref a_t_before, .ref a_t_deep, .int t_limitNow, .ref a_t_price, .int t_undos, .ref a_t_undo, .ref a_t_slots, .ref a_t_isSaved])), (a_t_now, .inl (cT 0, 514, .inl t_now)), (a_t_told, .inl (cT 0, 8, .inl t_told)), (a_t_one, .inl (cT 0, 48, .inl t_one)), (a_t_other, .inl (cT 0, 48, .inl t_other))] (some (.int r.1)) [(a_t, .inr (11, [.int r.2, .ref a_t_now, .ref a_t_told, .ref a_t_one, .ref a_t_other, .ref a_t_forth, .ref a_t_cost, .ref a_t_broken, .ref a_t_away, .ref a_t_text, .int t_length, .int t_textSize, .int t_start, .int t_next, .int t_token, .int t_value, .int t_error, .int t_errorAt, .int t_number, .int t_isFirst, .ref a_t_worth, .ref a_t_choice, .ref a_t_thought, .ref a_t_before, .ref a_t_deep, .int t_limitNow, .ref a_t_price, .int t_undos, .ref a_t_undo, .ref a_t_slots, .ref a_t_isSaved])), (a_t_now, .inl (cT 0, 514, .inl t_now)), (a_t_told, .inl (cT 0, 8, .inl t_told)), (a_t_one, .inl (cT 0, 48, .inl t_one)), (a_t_other, .inl (cT 0, 48, .inl t_other))] := by
  refine sM_int rfl (Nat.le_of_ble_eq_true rfl) ?_
  intro X C hE
  have B55 : ∀ (y2 : Int32) (t_thrown : Int32), fX11_partner_b55 t_one t_other x1 y2 t_thrown = some r → sW X l (zR 4) D 3 0 0 55 [(0, .ref a_t), (1, .int x1), (2, .int y2)] [] [(a_t, .inr (11, [.int t_thrown, .ref a_t_now, .ref a_t_told, .ref a_t_one, .ref a_t_other, .ref a_t_forth, .ref a_t_cost, .ref a_t_broken, .ref a_t_away, .ref a_t_text, .int t_length, .int t_textSize, .int t_start, .int t_next, .int t_token, .int t_value, .int t_error, .int t_errorAt, .int t_number, .int t_isFirst, .ref a_t_worth, .ref a_t_choice, .ref a_t_thought, .ref a_t_before, .ref a_t_deep, .int t_limitNow, .ref a_t_price, .int t_undos, .ref a_t_undo, .ref a_t_slots, .ref a_t_isSaved])), (a_t_now, .inl (cT 0, 514, .inl t_now)), (a_t_told, .inl (cT 0, 8, .inl t_told)), (a_t_one, .inl (cT 0, 48, .inl t_one)), (a_t_other, .inl (cT 0, 48, .inl t_other))] := by
    intro y2 t_thrown h
    refine xi_aload_n C 0 dX11_partner_55 rfl ?_
    refine xi_get C zkX11 3 0 zlX11_16 (by decide) rfl rfl dX11_partner_56 ?_
    refine xi_iload_n C 2 dX11_partner_59 rfl ?_
    replace h := ig h
    obtain ⟨c12, h⟩ := h
    refine xi_iald C 3 rfl c12 dX11_partner_60 ?_
    refine xi_aload_n C 0 dX11_partner_61 rfl ?_
    refine xi_get C zkX11 4 0 zlX11_19 (by decide) rfl rfl dX11_partner_62 ?_
    refine xi_iload_n C 2 dX11_partner_65 rfl ?_
    refine xi_iald C 4 rfl c12 dX11_partner_66 ?_
    refine xi_iadd C dX11_partner_67 ?_
    refine xi_iload_n C 1 dX11_partner_68 rfl ?_
    refine xi_isub C dX11_partner_69 ?_
    obtain rfl := Option.some.inj h
    exact hE _ _ _ dX11_partner_70 rfl
  have B12 : ∀ (n : Nat) (y2 : Int32) (t_thrown : Int32), fX11_partner_b12 t_now t_told t_one t_other x1 n y2 t_thrown = some r → sW X l (zR 4) D 3 0 0 12 [(0, .ref a_t), (1, .int x1), (2, .int y2)] [] [(a_t, .inr (11, [.int t_thrown, .ref a_t_now, .ref a_t_told, .ref a_t_one, .ref a_t_other, .ref a_t_forth, .ref a_t_cost, .ref a_t_broken, .ref a_t_away, .ref a_t_text, .int t_length, .int t_textSize, .int t_start, .int t_next, .int t_token, .int t_value, .int t_error, .int t_errorAt, .int t_number, .int t_isFirst, .ref a_t_worth, .ref a_t_choice, .ref a_t_thought, .ref a_t_before, .ref a_t_deep, .int t_limitNow, .ref a_t_price, .int t_undos, .ref a_t_undo, .ref a_t_slots, .ref a_t_isSaved])), (a_t_now, .inl (cT 0, 514, .inl t_now)), (a_t_told, .inl (cT 0, 8, .inl t_told)), (a_t_one, .inl (cT 0, 48, .inl t_one)), (a_t_other, .inl (cT 0, 48, .inl t_other))] := by
    intro n
    induction n with
    | zero =>
      intro y2 t_thrown h
      exact zno ((fX11_partner_b12_0 _ _ _ _ _ _ _).symm.trans h)
    | succ n ih =>
      intro y2 t_thrown h
      replace h := (fX11_partner_b12_s _ _ _ _ _ _ _ _).symm.trans h
      refine xi_iload_n C 2 dX11_partner_12 rfl ?_
      refine xi_aload_n C 0 dX11_partner_13 rfl ?_
      refine xi_get C zkX11 2 0 zlX11_13 (by decide) rfl rfl dX11_partner_14 ?_
      refine xi_iconst C (v := 1) dX11_partner_17 rfl ?_
      refine xi_iald C 2 rfl (zv (by decide)) dX11_partner_18 ?_
      refine xi_icmp_ge C (tgt := 77) dX11_partner_19 rfl (fun c5 => ?_) (fun c5 => ?_)
      · replace h := (if_pos c5).symm.trans h
        refine xi_iconst C (v := (-1)) dX11_partner_77 rfl ?_
        obtain rfl := Option.some.inj h
        exact hE _ _ _ dX11_partner_78 rfl
      · replace h := (if_neg c5).symm.trans h
        refine xi_aload_n C 0 dX11_partner_22 rfl ?_
        refine xi_get C zkX11 1 0 zlX11_7 (by decide) rfl rfl dX11_partner_23 ?_
        refine xi_iconst C (v := 2) dX11_partner_26 rfl ?_
        refine xi_iald C 1 rfl (zv (by decide)) dX11_partner_27 ?_
        refine xi_iload_n C 2 dX11_partner_28 rfl ?_
        refine xi_callSr C (kX11_isIn l D cT (t_now 2) y2 (fX11_isIn (t_now 2) y2) rfl) zcX11_isIn zmX11_201 zsX11_isIn (zr rfl rfl) z00 rfl [] rfl rfl rfl (Nat.le_of_ble_eq_true rfl) dX11_partner_29 (fun z8 => ?_)
        refine xi_if_eq C (tgt := 71) dX11_partner_32 rfl (fun c9 => ?_) (fun c9 => ?_)
        · replace h := (if_pos c9).symm.trans h
          refine xi_iinc C (v := y2 + 1) 2 [1, 2, 0] (L2 := [(0, .ref a_t), (1, .int x1), (2, .int (y2 + 1))]) dX11_partner_71 rfl rfl (Nat.le_of_ble_eq_true rfl) rfl ?_
          refine xi_goto C (tgt := 12) dX11_partner_74 rfl ?_
          exact ih (y2 + 1) t_thrown h
        · replace h := (if_neg c9).symm.trans h
          refine xi_aload_n C 0 dX11_partner_35 rfl ?_
          refine xi_get C zkX11 3 0 zlX11_16 (by decide) rfl rfl dX11_partner_36 ?_
          refine xi_iload_n C 2 dX11_partner_39 rfl ?_
          replace h := ig h
          obtain ⟨c10, h⟩ := h
          refine xi_iald C 3 rfl c10 dX11_partner_40 ?_
          refine xi_iload_n C 1 dX11_partner_41 rfl ?_
          refine xi_icmp_eq C (tgt := 55) dX11_partner_42 rfl (fun c11 => ?_) (fun c11 => ?_)
          · replace h := (if_pos c11).symm.trans h
            exact B55 y2 t_thrown h
          · replace h := (if_neg c11).symm.trans h
            refine xi_aload_n C 0 dX11_partner_45 rfl ?_
            refine xi_get C zkX11 4 0 zlX11_19 (by decide) rfl rfl dX11_partner_46 ?_
            refine xi_iload_n C 2 dX11_partner_49 rfl ?_
            refine xi_iald C 4 rfl c10 dX11_partner_50 ?_
            refine xi_iload_n C 1 dX11_partner_51 rfl ?_
            refine xi_icmp_ne C (tgt := 71) dX11_partner_52 rfl (fun c13 => ?_) (fun c13 => ?_)
            · replace h := (if_neg c13).symm.trans h
              refine xi_iinc C (v := y2 + 1) 2 [1, 2, 0] (L2 := [(0, .ref a_t), (1, .int x1), (2, .int (y2 + 1))]) dX11_partner_71 rfl rfl (Nat.le_of_ble_eq_true rfl) rfl ?_
              refine xi_goto C (tgt := 12) dX11_partner_74 rfl ?_
              exact ih (y2 + 1) t_thrown h
            · replace h := (if_pos c13).symm.trans h
              exact B55 y2 t_thrown h
  refine xi_drop (L2 := [(0, .ref a_t), (1, .int x1)]) [0, 1] rfl ?_
  refine xi_aload_n C 0 dX11_partner_0 rfl ?_
  refine xi_iload_n C 1 dX11_partner_1 rfl ?_
  replace h := ob h
  obtain ⟨u1, hu2, h⟩ := h
  refine xi_callV C (kX11_noPerson l D cT a_t a_t_now a_t_told a_t_one a_t_other a_t_forth a_t_cost a_t_broken a_t_away a_t_text a_t_worth a_t_choice a_t_thought a_t_before a_t_deep a_t_price a_t_undo a_t_slots a_t_isSaved t_thrown t_length t_textSize t_start t_next t_token t_value t_error t_errorAt t_number t_isFirst t_limitNow t_undos t_told x1 u1 hu2) zcX11_noPerson zmX11_210 ziX11_noPerson (zr rfl rfl) z00 rfl [0, 2] rfl rfl rfl [some 0, none, some 1, none, none] (by decide +kernel) (ws2 := [(a_t, .inr (11, [.int u1.2, .ref a_t_now, .ref a_t_told, .ref a_t_one, .ref a_t_other, .ref a_t_forth, .ref a_t_cost, .ref a_t_broken, .ref a_t_away, .ref a_t_text, .int t_length, .int t_textSize, .int t_start, .int t_next, .int t_token, .int t_value, .int t_error, .int t_errorAt, .int t_number, .int t_isFirst, .ref a_t_worth, .ref a_t_choice, .ref a_t_thought, .ref a_t_before, .ref a_t_deep, .int t_limitNow, .ref a_t_price, .int t_undos, .ref a_t_undo, .ref a_t_slots, .ref a_t_isSaved])), (a_t_now, .inl (cT 0, 514, .inl t_now)), (a_t_told, .inl (cT 0, 8, .inl t_told)), (a_t_one, .inl (cT 0, 48, .inl t_one)), (a_t_other, .inl (cT 0, 48, .inl t_other))]) rfl zkX11.1 (qr := 0) rfl rfl (Nat.le_of_ble_eq_true rfl) dX11_partner_2 (fun z3 => ?_)
  refine xi_if_eq C (tgt := 10) dX11_partner_5 rfl (fun c4 => ?_) (fun c4 => ?_)
  · replace h := (if_pos c4).symm.trans h
    refine xi_iconst C (v := 0) dX11_partner_10 rfl ?_
    refine xi_istore_n C [1, 2, 0] (L2 := [(0, .ref a_t), (1, .int x1), (2, .int 0)]) dX11_partner_11 (Nat.le_of_ble_eq_true rfl) rfl ?_
    exact B12 FU 0 u1.2 h
  · replace h := (if_neg c4).symm.trans h
    refine xi_iconst C (v := 0) dX11_partner_8 rfl ?_
    obtain rfl := Option.some.inj h
    exact hE _ _ _ dX11_partner_9 rfl
def fX11_arranged (t_now : Nat → Int32) : Option (Int32 × Int32) := some (t_now 2, 0)
set_option maxRecDepth 100000 in
set_option maxHeartbeats 4000000 in
theorem kX11_arranged (l : Launch) (D : va_G) (cT : Nat → ClassId) (a_t : Nat) (a_t_now : Nat) (a_t_told : Nat) (a_t_one : Nat) (a_t_other : Nat) (a_t_forth : Nat) (a_t_cost : Nat) (a_t_broken : Nat) (a_t_away : Nat) (a_t_text : Nat) (a_t_worth : Nat) (a_t_choice : Nat) (a_t_thought : Nat) (a_t_before : Nat) (a_t_deep : Nat) (a_t_price : Nat) (a_t_undo : Nat) (a_t_slots : Nat) (a_t_isSaved : Nat) (t_thrown : Int32) (t_length : Int32) (t_textSize : Int32) (t_start : Int32) (t_next : Int32) (t_token : Int32) (t_value : Int32) (t_error : Int32) (t_errorAt : Int32) (t_number : Int32) (t_isFirst : Int32) (t_limitNow : Int32) (t_undos : Int32) (t_now : Nat → Int32) (r : Int32 × Int32) (h : fX11_arranged t_now = some r) : sM l yX11_arranged cX11_arranged 1 (some .int) (zR 1) D cT [.ref a_t] [(a_t, .inr (11, [.int t_thrown, .ref a_t_now, .ref a_t_told, .ref a_t_one, .ref a_t_other, .ref a_t_forth, .ref a_t_cost, .ref a_t_broken, .ref a_t_away, .ref a_t_text, .int t_length, .int t_textSize, .int t_start, .int t_next, .int t_token, .int t_value, .int t_error, .int t_errorAt, .int t_number, .int t_isFirst, .ref a_t_worth, .ref a_t_choice, .ref a_t_thought, .ref a_t_before, .ref a_t_deep, .int t_limitNow, .ref a_t_price, .int t_undos, .ref a_t_undo, .ref a_t_slots, .ref a_t_isSaved])), (a_t_now, .inl (cT 0, 514, .inl t_now))] (some (.int r.1)) [(a_t, .inr (11, [.int r.2, .ref a_t_now, .ref a_t_told, .ref a_t_one, .ref a_t_other, .ref a_t_forth, .ref a_t_cost, .ref a_t_broken, .ref a_t_away, .ref a_t_text, .int t_length, .int t_textSize, .int t_start, .int t_next, .int t_token, .int t_value, .int t_error, .int t_errorAt, .int t_number, .int t_isFirst, .ref a_t_worth, .ref a_t_choice, .ref a_t_thought, .ref a_t_before, .ref a_t_deep, .int t_limitNow, .ref a_t_price, .int t_undos, .ref a_t_undo, .ref a_t_slots, .ref a_t_isSaved])), (a_t_now, .inl (cT 0, 514, .inl t_now))] := by
  refine sM_int rfl (Nat.le_of_ble_eq_true rfl) ?_
  intro X C hE
  refine xi_drop (L2 := [(0, .ref a_t)]) [0] rfl ?_
  refine xi_aload_n C 0 dX11_arranged_0 rfl ?_
  refine xi_iconst C (v := 0) dX11_arranged_1 rfl ?_
  refine xi_put C zkX11 0 0 zlX11_80 (by decide) rfl rfl rfl rfl (Nat.le_of_ble_eq_true rfl) dX11_arranged_2 (ws2 := [(a_t, .inr (11, [.int 0, .ref a_t_now, .ref a_t_told, .ref a_t_one, .ref a_t_other, .ref a_t_forth, .ref a_t_cost, .ref a_t_broken, .ref a_t_away, .ref a_t_text, .int t_length, .int t_textSize, .int t_start, .int t_next, .int t_token, .int t_value, .int t_error, .int t_errorAt, .int t_number, .int t_isFirst, .ref a_t_worth, .ref a_t_choice, .ref a_t_thought, .ref a_t_before, .ref a_t_deep, .int t_limitNow, .ref a_t_price, .int t_undos, .ref a_t_undo, .ref a_t_slots, .ref a_t_isSaved])), (a_t_now, .inl (cT 0, 514, .inl t_now))]) rfl ?_
  refine xi_aload_n C 0 dX11_arranged_5 rfl ?_
  refine xi_get C zkX11 1 0 zlX11_7 (by decide) rfl rfl dX11_arranged_6 ?_
  refine xi_iconst C (v := 2) dX11_arranged_9 rfl ?_
  refine xi_iald C 1 rfl (zv (by decide)) dX11_arranged_10 ?_
  obtain rfl := Option.some.inj h
  exact hE _ _ _ dX11_arranged_11 rfl
def fX11_gainOf_b58 (s0 : Int32) (s1 : Int32) : Option Int32 := some (s1 + s0)
def fX11_gainOf (N_p2 : Nat) (t_one : Nat → Int32) (t_other : Nat → Int32) (t_forth : Nat → Int32) (p2 : Nat → Int32) (x1 : Int32) (x3 : Int32) : Option Int32 := gd x1 48 (gd (x3 + (t_one x1.toNatClampNeg)) N_p2 (nm (p2 (x3 + (t_one x1.toNatClampNeg)).toNatClampNeg) (fun w3 => gd (x3 + (t_other x1.toNatClampNeg)) N_p2 (nm (p2 (x3 + (t_other x1.toNatClampNeg)).toNatClampNeg) (fun w5 => (fX11_many (w3 &&& (w5 ^^^ (-1)))).bind (fun u6 => if (t_forth x1.toNatClampNeg) = 1 then fX11_gainOf_b58 0 u6 else (fX11_many (w5 &&& (w3 ^^^ (-1)))).bind (fun u10 => fX11_gainOf_b58 u10 u6)))))))
set_option maxRecDepth 100000 in
set_option maxHeartbeats 4000000 in
theorem kX11_gainOf (l : Launch) (D : va_G) (cT : Nat → ClassId) (a_t : Nat) (a_t_now : Nat) (a_t_told : Nat) (a_t_one : Nat) (a_t_other : Nat) (a_t_forth : Nat) (a_t_cost : Nat) (a_t_broken : Nat) (a_t_away : Nat) (a_t_text : Nat) (a_t_worth : Nat) (a_t_choice : Nat) (a_t_thought : Nat) (a_t_before : Nat) (a_t_deep : Nat) (a_t_price : Nat) (a_t_undo : Nat) (a_t_slots : Nat) (a_t_isSaved : Nat) (a_p2 : Nat) (N_p2 : Nat) (t_thrown : Int32) (t_length : Int32) (t_textSize : Int32) (t_start : Int32) (t_next : Int32) (t_token : Int32) (t_value : Int32) (t_error : Int32) (t_errorAt : Int32) (t_number : Int32) (t_isFirst : Int32) (t_limitNow : Int32) (t_undos : Int32) (t_one : Nat → Int32) (t_other : Nat → Int32) (t_forth : Nat → Int32) (p2 : Nat → Int32) (x1 : Int32) (x3 : Int32) (r : Int32) (h : fX11_gainOf N_p2 t_one t_other t_forth p2 x1 x3 = some r) : sM l yX11_gainOf cX11_gainOf 6 (some .int) (zR 2) D cT [.ref a_t, .int x1, .ref a_p2, .int x3] [(a_t, .inr (11, [.int t_thrown, .ref a_t_now, .ref a_t_told, .ref a_t_one, .ref a_t_other, .ref a_t_forth, .ref a_t_cost, .ref a_t_broken, .ref a_t_away, .ref a_t_text, .int t_length, .int t_textSize, .int t_start, .int t_next, .int t_token, .int t_value, .int t_error, .int t_errorAt, .int t_number, .int t_isFirst, .ref a_t_worth, .ref a_t_choice, .ref a_t_thought, .ref a_t_before, .ref a_t_deep, .int t_limitNow, .ref a_t_price, .int t_undos, .ref a_t_undo, .ref a_t_slots, .ref a_t_isSaved])), (a_t_one, .inl (cT 0, 48, .inl t_one)), (a_t_other, .inl (cT 0, 48, .inl t_other)), (a_t_forth, .inl (cT 0, 48, .inl t_forth)), (a_p2, .inl (cT 0, N_p2, .inl p2))] (some (.int r)) [(a_t, .inr (11, [.int t_thrown, .ref a_t_now, .ref a_t_told, .ref a_t_one, .ref a_t_other, .ref a_t_forth, .ref a_t_cost, .ref a_t_broken, .ref a_t_away, .ref a_t_text, .int t_length, .int t_textSize, .int t_start, .int t_next, .int t_token, .int t_value, .int t_error, .int t_errorAt, .int t_number, .int t_isFirst, .ref a_t_worth, .ref a_t_choice, .ref a_t_thought, .ref a_t_before, .ref a_t_deep, .int t_limitNow, .ref a_t_price, .int t_undos, .ref a_t_undo, .ref a_t_slots, .ref a_t_isSaved])), (a_t_one, .inl (cT 0, 48, .inl t_one)), (a_t_other, .inl (cT 0, 48, .inl t_other)), (a_t_forth, .inl (cT 0, 48, .inl t_forth)), (a_p2, .inl (cT 0, N_p2, .inl p2))] := by
  refine sM_int rfl (Nat.le_of_ble_eq_true rfl) ?_
  intro X C hE
  have B58 : ∀ (s0 : Int32) (s1 : Int32), fX11_gainOf_b58 s0 s1 = some r → sW X l (zR 2) D 6 0 0 58 [] [.int s0, .int s1] [(a_t, .inr (11, [.int t_thrown, .ref a_t_now, .ref a_t_told, .ref a_t_one, .ref a_t_other, .ref a_t_forth, .ref a_t_cost, .ref a_t_broken, .ref a_t_away, .ref a_t_text, .int t_length, .int t_textSize, .int t_start, .int t_next, .int t_token, .int t_value, .int t_error, .int t_errorAt, .int t_number, .int t_isFirst, .ref a_t_worth, .ref a_t_choice, .ref a_t_thought, .ref a_t_before, .ref a_t_deep, .int t_limitNow, .ref a_t_price, .int t_undos, .ref a_t_undo, .ref a_t_slots, .ref a_t_isSaved])), (a_t_one, .inl (cT 0, 48, .inl t_one)), (a_t_other, .inl (cT 0, 48, .inl t_other)), (a_t_forth, .inl (cT 0, 48, .inl t_forth)), (a_p2, .inl (cT 0, N_p2, .inl p2))] := by
    intro s0 s1 h
    refine xi_iadd C dX11_gainOf_58 ?_
    obtain rfl := Option.some.inj h
    exact hE _ _ _ dX11_gainOf_59 rfl
  refine xi_drop (L2 := [(0, .ref a_t), (1, .int x1), (2, .ref a_p2), (3, .int x3)]) [0, 1, 2, 3] rfl ?_
  refine xi_aload_n C 2 dX11_gainOf_0 rfl ?_
  refine xi_iload_n C 3 dX11_gainOf_1 rfl ?_
  refine xi_aload_n C 0 dX11_gainOf_2 rfl ?_
  refine xi_get C zkX11 3 0 zlX11_16 (by decide) rfl rfl dX11_gainOf_3 ?_
  refine xi_iload_n C 1 dX11_gainOf_6 rfl ?_
  replace h := ig h
  obtain ⟨c1, h⟩ := h
  refine xi_iald C 1 rfl c1 dX11_gainOf_7 ?_
  refine xi_iadd C dX11_gainOf_8 ?_
  replace h := ig h
  obtain ⟨c2, h⟩ := h
  refine xi_iald C 4 rfl c2 dX11_gainOf_9 ?_
  refine xi_topi (fun w3 ew3 => ?_)
  replace h := nmE ew3 h
  refine xi_istore C [1, 2, 3, 4, 0] (L2 := [(0, .ref a_t), (1, .int x1), (2, .ref a_p2), (3, .int x3), (4, .int w3)]) dX11_gainOf_10 (Nat.le_of_ble_eq_true rfl) rfl ?_
  refine xi_aload_n C 2 dX11_gainOf_12 rfl ?_
  refine xi_iload_n C 3 dX11_gainOf_13 rfl ?_
  refine xi_aload_n C 0 dX11_gainOf_14 rfl ?_
  refine xi_get C zkX11 4 0 zlX11_19 (by decide) rfl rfl dX11_gainOf_15 ?_
  refine xi_iload_n C 1 dX11_gainOf_18 rfl ?_
  refine xi_iald C 2 rfl c1 dX11_gainOf_19 ?_
  refine xi_iadd C dX11_gainOf_20 ?_
  replace h := ig h
  obtain ⟨c4, h⟩ := h
  refine xi_iald C 4 rfl c4 dX11_gainOf_21 ?_
  refine xi_topi (fun w5 ew5 => ?_)
  replace h := nmE ew5 h
  refine xi_istore C [1, 2, 3, 4, 5, 0] (L2 := [(0, .ref a_t), (1, .int x1), (2, .ref a_p2), (3, .int x3), (4, .int w3), (5, .int w5)]) dX11_gainOf_22 (Nat.le_of_ble_eq_true rfl) rfl ?_
  refine xi_iload C 4 dX11_gainOf_24 rfl ?_
  refine xi_iload C 5 dX11_gainOf_26 rfl ?_
  refine xi_iconst C (v := (-1)) dX11_gainOf_28 rfl ?_
  refine xi_ixor C dX11_gainOf_29 ?_
  refine xi_iand C dX11_gainOf_30 ?_
  replace h := ob h
  obtain ⟨u6, hu7, h⟩ := h
  refine xi_callSr C (kX11_many l D cT (w3 &&& (w5 ^^^ (-1))) u6 hu7) zcX11_many zmX11_192 zsX11_many (zr rfl rfl) z00 rfl [] rfl rfl rfl (Nat.le_of_ble_eq_true rfl) dX11_gainOf_31 (fun z8 => ?_)
  refine xi_aload_n C 0 dX11_gainOf_34 rfl ?_
  refine xi_get C zkX11 5 0 zlX11_22 (by decide) rfl rfl dX11_gainOf_35 ?_
  refine xi_iload_n C 1 dX11_gainOf_38 rfl ?_
  refine xi_iald C 3 rfl c1 dX11_gainOf_39 ?_
  refine xi_iconst C (v := 1) dX11_gainOf_40 rfl ?_
  refine xi_icmp_ne C (tgt := 48) dX11_gainOf_41 rfl (fun c9 => ?_) (fun c9 => ?_)
  · replace h := (if_neg c9).symm.trans h
    refine xi_iload C 5 dX11_gainOf_48 rfl ?_
    refine xi_iload C 4 dX11_gainOf_50 rfl ?_
    refine xi_iconst C (v := (-1)) dX11_gainOf_52 rfl ?_
    refine xi_ixor C dX11_gainOf_53 ?_
    refine xi_iand C dX11_gainOf_54 ?_
    replace h := ob h
    obtain ⟨u10, hu11, h⟩ := h
    refine xi_callSr C (kX11_many l D cT (w5 &&& (w3 ^^^ (-1))) u10 hu11) zcX11_many zmX11_192 zsX11_many (zr rfl rfl) z00 rfl [] rfl rfl rfl (Nat.le_of_ble_eq_true rfl) dX11_gainOf_55 (fun z12 => ?_)
    refine xi_drop (L2 := []) [] rfl ?_
    exact B58 u10 u6 h
  · replace h := (if_pos c9).symm.trans h
    refine xi_iconst C (v := 0) dX11_gainOf_44 rfl ?_
    refine xi_goto C (tgt := 58) dX11_gainOf_45 rfl ?_
    refine xi_drop (L2 := []) [] rfl ?_
    exact B58 0 u6 h
def fX11_gainNow_b42 (K4 : Int32 → Int32 → Option Int32) (y2 : Int32) (s0 : Int32) (s1 : Int32) : Option Int32 := K4 (s1 + s0) (y2 + 1)
def fX11_gainNow_b4 (t_now : Nat → Int32) (t_told : Nat → Int32) (t_one : Nat → Int32) (t_other : Nat → Int32) (t_forth : Nat → Int32) : Nat → Int32 → Int32 → Option Int32
  | 0, _, _ => none
  | n + 1, y1, y2 => if (t_told 1) ≤ y2 then some y1 else if (fX11_isIn (t_now 2) y2) = 0 then fX11_gainNow_b42 (fX11_gainNow_b4 t_now t_told t_one t_other t_forth n) y2 0 y1 else (fX11_gainOf 514 t_one t_other t_forth t_now y2 4).bind (fun u6 => fX11_gainNow_b42 (fX11_gainNow_b4 t_now t_told t_one t_other t_forth n) y2 u6 y1)
theorem fX11_gainNow_b4_0 (t_now : Nat → Int32) (t_told : Nat → Int32) (t_one : Nat → Int32) (t_other : Nat → Int32) (t_forth : Nat → Int32) (y1 : Int32) (y2 : Int32) : fX11_gainNow_b4 t_now t_told t_one t_other t_forth 0 y1 y2 = none := rfl
theorem fX11_gainNow_b4_s (t_now : Nat → Int32) (t_told : Nat → Int32) (t_one : Nat → Int32) (t_other : Nat → Int32) (t_forth : Nat → Int32) (n : Nat) (y1 : Int32) (y2 : Int32) : fX11_gainNow_b4 t_now t_told t_one t_other t_forth (n + 1) y1 y2 = (if (t_told 1) ≤ y2 then some y1 else if (fX11_isIn (t_now 2) y2) = 0 then fX11_gainNow_b42 (fX11_gainNow_b4 t_now t_told t_one t_other t_forth n) y2 0 y1 else (fX11_gainOf 514 t_one t_other t_forth t_now y2 4).bind (fun u6 => fX11_gainNow_b42 (fX11_gainNow_b4 t_now t_told t_one t_other t_forth n) y2 u6 y1)) := rfl
def fX11_gainNow (t_now : Nat → Int32) (t_told : Nat → Int32) (t_one : Nat → Int32) (t_other : Nat → Int32) (t_forth : Nat → Int32) : Option Int32 := fX11_gainNow_b4 t_now t_told t_one t_other t_forth FU 0 0
set_option maxRecDepth 100000 in
set_option maxHeartbeats 4000000 in
theorem kX11_gainNow (l : Launch) (D : va_G) (cT : Nat → ClassId) (a_t : Nat) (a_t_now : Nat) (a_t_told : Nat) (a_t_one : Nat) (a_t_other : Nat) (a_t_forth : Nat) (a_t_cost : Nat) (a_t_broken : Nat) (a_t_away : Nat) (a_t_text : Nat) (a_t_worth : Nat) (a_t_choice : Nat) (a_t_thought : Nat) (a_t_before : Nat) (a_t_deep : Nat) (a_t_price : Nat) (a_t_undo : Nat) (a_t_slots : Nat) (a_t_isSaved : Nat) (t_thrown : Int32) (t_length : Int32) (t_textSize : Int32) (t_start : Int32) (t_next : Int32) (t_token : Int32) (t_value : Int32) (t_error : Int32) (t_errorAt : Int32) (t_number : Int32) (t_isFirst : Int32) (t_limitNow : Int32) (t_undos : Int32) (t_now : Nat → Int32) (t_told : Nat → Int32) (t_one : Nat → Int32) (t_other : Nat → Int32) (t_forth : Nat → Int32) (r : Int32) (h : fX11_gainNow t_now t_told t_one t_other t_forth = some r) : sM l yX11_gainNow cX11_gainNow 3 (some .int) (zR 3) D cT [.ref a_t] [(a_t, .inr (11, [.int t_thrown, .ref a_t_now, .ref a_t_told, .ref a_t_one, .ref a_t_other, .ref a_t_forth, .ref a_t_cost, .ref a_t_broken, .ref a_t_away, .ref a_t_text, .int t_length, .int t_textSize, .int t_start, .int t_next, .int t_token, .int t_value, .int t_error, .int t_errorAt, .int t_number, .int t_isFirst, .ref a_t_worth, .ref a_t_choice, .ref a_t_thought, .ref a_t_before, .ref a_t_deep, .int t_limitNow, .ref a_t_price, .int t_undos, .ref a_t_undo, .ref a_t_slots, .ref a_t_isSaved])), (a_t_now, .inl (cT 0, 514, .inl t_now)), (a_t_told, .inl (cT 0, 8, .inl t_told)), (a_t_one, .inl (cT 0, 48, .inl t_one)), (a_t_other, .inl (cT 0, 48, .inl t_other)), (a_t_forth, .inl (cT 0, 48, .inl t_forth))] (some (.int r)) [(a_t, .inr (11, [.int t_thrown, .ref a_t_now, .ref a_t_told, .ref a_t_one, .ref a_t_other, .ref a_t_forth, .ref a_t_cost, .ref a_t_broken, .ref a_t_away, .ref a_t_text, .int t_length, .int t_textSize, .int t_start, .int t_next, .int t_token, .int t_value, .int t_error, .int t_errorAt, .int t_number, .int t_isFirst, .ref a_t_worth, .ref a_t_choice, .ref a_t_thought, .ref a_t_before, .ref a_t_deep, .int t_limitNow, .ref a_t_price, .int t_undos, .ref a_t_undo, .ref a_t_slots, .ref a_t_isSaved])), (a_t_now, .inl (cT 0, 514, .inl t_now)), (a_t_told, .inl (cT 0, 8, .inl t_told)), (a_t_one, .inl (cT 0, 48, .inl t_one)), (a_t_other, .inl (cT 0, 48, .inl t_other)), (a_t_forth, .inl (cT 0, 48, .inl t_forth))] := by
  refine sM_int rfl (Nat.le_of_ble_eq_true rfl) ?_
  intro X C hE
  have B42 : ∀ (K4 : Int32 → Int32 → Option Int32) (hK4 : ∀ (y1 : Int32) (y2 : Int32), K4 y1 y2 = some r → sW X l (zR 3) D 3 0 0 4 [(0, .ref a_t), (1, .int y1), (2, .int y2)] [] [(a_t, .inr (11, [.int t_thrown, .ref a_t_now, .ref a_t_told, .ref a_t_one, .ref a_t_other, .ref a_t_forth, .ref a_t_cost, .ref a_t_broken, .ref a_t_away, .ref a_t_text, .int t_length, .int t_textSize, .int t_start, .int t_next, .int t_token, .int t_value, .int t_error, .int t_errorAt, .int t_number, .int t_isFirst, .ref a_t_worth, .ref a_t_choice, .ref a_t_thought, .ref a_t_before, .ref a_t_deep, .int t_limitNow, .ref a_t_price, .int t_undos, .ref a_t_undo, .ref a_t_slots, .ref a_t_isSaved])), (a_t_now, .inl (cT 0, 514, .inl t_now)), (a_t_told, .inl (cT 0, 8, .inl t_told)), (a_t_one, .inl (cT 0, 48, .inl t_one)), (a_t_other, .inl (cT 0, 48, .inl t_other)), (a_t_forth, .inl (cT 0, 48, .inl t_forth))]) (y2 : Int32) (s0 : Int32) (s1 : Int32), fX11_gainNow_b42 K4 y2 s0 s1 = some r → sW X l (zR 3) D 3 0 0 42 [(0, .ref a_t), (2, .int y2)] [.int s0, .int s1] [(a_t, .inr (11, [.int t_thrown, .ref a_t_now, .ref a_t_told, .ref a_t_one, .ref a_t_other, .ref a_t_forth, .ref a_t_cost, .ref a_t_broken, .ref a_t_away, .ref a_t_text, .int t_length, .int t_textSize, .int t_start, .int t_next, .int t_token, .int t_value, .int t_error, .int t_errorAt, .int t_number, .int t_isFirst, .ref a_t_worth, .ref a_t_choice, .ref a_t_thought, .ref a_t_before, .ref a_t_deep, .int t_limitNow, .ref a_t_price, .int t_undos, .ref a_t_undo, .ref a_t_slots, .ref a_t_isSaved])), (a_t_now, .inl (cT 0, 514, .inl t_now)), (a_t_told, .inl (cT 0, 8, .inl t_told)), (a_t_one, .inl (cT 0, 48, .inl t_one)), (a_t_other, .inl (cT 0, 48, .inl t_other)), (a_t_forth, .inl (cT 0, 48, .inl t_forth))] := by
    intro K4 hK4 y2 s0 s1 h
    refine xi_iadd C dX11_gainNow_42 ?_
    refine xi_istore_n C [1, 0, 2] (L2 := [(0, .ref a_t), (1, .int (s1 + s0)), (2, .int y2)]) dX11_gainNow_43 (Nat.le_of_ble_eq_true rfl) rfl ?_
    refine xi_iinc C (v := y2 + 1) 2 [1, 2, 0] (L2 := [(0, .ref a_t), (1, .int (s1 + s0)), (2, .int (y2 + 1))]) dX11_gainNow_44 rfl rfl (Nat.le_of_ble_eq_true rfl) rfl ?_
    refine xi_goto C (tgt := 4) dX11_gainNow_47 rfl ?_
    exact hK4 (s1 + s0) (y2 + 1) h
  have B4 : ∀ (n : Nat) (y1 : Int32) (y2 : Int32), fX11_gainNow_b4 t_now t_told t_one t_other t_forth n y1 y2 = some r → sW X l (zR 3) D 3 0 0 4 [(0, .ref a_t), (1, .int y1), (2, .int y2)] [] [(a_t, .inr (11, [.int t_thrown, .ref a_t_now, .ref a_t_told, .ref a_t_one, .ref a_t_other, .ref a_t_forth, .ref a_t_cost, .ref a_t_broken, .ref a_t_away, .ref a_t_text, .int t_length, .int t_textSize, .int t_start, .int t_next, .int t_token, .int t_value, .int t_error, .int t_errorAt, .int t_number, .int t_isFirst, .ref a_t_worth, .ref a_t_choice, .ref a_t_thought, .ref a_t_before, .ref a_t_deep, .int t_limitNow, .ref a_t_price, .int t_undos, .ref a_t_undo, .ref a_t_slots, .ref a_t_isSaved])), (a_t_now, .inl (cT 0, 514, .inl t_now)), (a_t_told, .inl (cT 0, 8, .inl t_told)), (a_t_one, .inl (cT 0, 48, .inl t_one)), (a_t_other, .inl (cT 0, 48, .inl t_other)), (a_t_forth, .inl (cT 0, 48, .inl t_forth))] := by
    intro n
    induction n with
    | zero =>
      intro y1 y2 h
      exact zno ((fX11_gainNow_b4_0 _ _ _ _ _ _ _).symm.trans h)
    | succ n ih =>
      intro y1 y2 h
      replace h := (fX11_gainNow_b4_s _ _ _ _ _ _ _ _).symm.trans h
      refine xi_iload_n C 2 dX11_gainNow_4 rfl ?_
      refine xi_aload_n C 0 dX11_gainNow_5 rfl ?_
      refine xi_get C zkX11 2 0 zlX11_13 (by decide) rfl rfl dX11_gainNow_6 ?_
      refine xi_iconst C (v := 1) dX11_gainNow_9 rfl ?_
      refine xi_iald C 2 rfl (zv (by decide)) dX11_gainNow_10 ?_
      refine xi_icmp_ge C (tgt := 50) dX11_gainNow_11 rfl (fun c1 => ?_) (fun c1 => ?_)
      · replace h := (if_pos c1).symm.trans h
        refine xi_iload_n C 1 dX11_gainNow_50 rfl ?_
        obtain rfl := Option.some.inj h
        exact hE _ _ _ dX11_gainNow_51 rfl
      · replace h := (if_neg c1).symm.trans h
        refine xi_iload_n C 1 dX11_gainNow_14 rfl ?_
        refine xi_aload_n C 0 dX11_gainNow_15 rfl ?_
        refine xi_get C zkX11 1 0 zlX11_7 (by decide) rfl rfl dX11_gainNow_16 ?_
        refine xi_iconst C (v := 2) dX11_gainNow_19 rfl ?_
        refine xi_iald C 1 rfl (zv (by decide)) dX11_gainNow_20 ?_
        refine xi_iload_n C 2 dX11_gainNow_21 rfl ?_
        refine xi_callSr C (kX11_isIn l D cT (t_now 2) y2 (fX11_isIn (t_now 2) y2) rfl) zcX11_isIn zmX11_201 zsX11_isIn (zr rfl rfl) z00 rfl [] rfl rfl rfl (Nat.le_of_ble_eq_true rfl) dX11_gainNow_22 (fun z4 => ?_)
        refine xi_if_eq C (tgt := 41) dX11_gainNow_25 rfl (fun c5 => ?_) (fun c5 => ?_)
        · replace h := (if_pos c5).symm.trans h
          refine xi_iconst C (v := 0) dX11_gainNow_41 rfl ?_
          refine xi_drop (L2 := [(0, .ref a_t), (2, .int y2)]) [0, 2] rfl ?_
          exact B42 (fX11_gainNow_b4 t_now t_told t_one t_other t_forth n) ih y2 0 y1 h
        · replace h := (if_neg c5).symm.trans h
          refine xi_aload_n C 0 dX11_gainNow_28 rfl ?_
          refine xi_iload_n C 2 dX11_gainNow_29 rfl ?_
          refine xi_aload_n C 0 dX11_gainNow_30 rfl ?_
          refine xi_get C zkX11 1 0 zlX11_7 (by decide) rfl rfl dX11_gainNow_31 ?_
          refine xi_iconst C (v := 4) dX11_gainNow_34 rfl ?_
          replace h := ob h
          obtain ⟨u6, hu7, h⟩ := h
          refine xi_callVr C (kX11_gainOf l D cT a_t a_t_now a_t_told a_t_one a_t_other a_t_forth a_t_cost a_t_broken a_t_away a_t_text a_t_worth a_t_choice a_t_thought a_t_before a_t_deep a_t_price a_t_undo a_t_slots a_t_isSaved a_t_now 514 t_thrown t_length t_textSize t_start t_next t_token t_value t_error t_errorAt t_number t_isFirst t_limitNow t_undos t_one t_other t_forth t_now y2 4 u6 hu7) zcX11_gainOf zmX11_224 ziX11_gainOf (zr rfl rfl) z00 rfl [0, 3, 4, 5, 1] rfl rfl zkX11.1 (qr := 0) rfl rfl (Nat.le_of_ble_eq_true rfl) dX11_gainNow_35 (fun z8 => ?_)
          refine xi_goto C (tgt := 42) dX11_gainNow_38 rfl ?_
          refine xi_drop (L2 := [(0, .ref a_t), (2, .int y2)]) [0, 2] rfl ?_
          exact B42 (fX11_gainNow_b4 t_now t_told t_one t_other t_forth n) ih y2 u6 y1 h
  refine xi_drop (L2 := [(0, .ref a_t)]) [0] rfl ?_
  refine xi_iconst C (v := 0) dX11_gainNow_0 rfl ?_
  refine xi_istore_n C [1, 0] (L2 := [(0, .ref a_t), (1, .int 0)]) dX11_gainNow_1 (Nat.le_of_ble_eq_true rfl) rfl ?_
  refine xi_iconst C (v := 0) dX11_gainNow_2 rfl ?_
  refine xi_istore_n C [1, 2, 0] (L2 := [(0, .ref a_t), (1, .int 0), (2, .int 0)]) dX11_gainNow_3 (Nat.le_of_ble_eq_true rfl) rfl ?_
  exact B4 FU 0 0 h
def fX11_gain (t_now : Nat → Int32) (t_told : Nat → Int32) (t_one : Nat → Int32) (t_other : Nat → Int32) (t_forth : Nat → Int32) : Option (Int32 × Int32) := (fX11_gainNow t_now t_told t_one t_other t_forth).bind (fun u1 => some (u1, 0))
set_option maxRecDepth 100000 in
set_option maxHeartbeats 4000000 in
theorem kX11_gain (l : Launch) (D : va_G) (cT : Nat → ClassId) (a_t : Nat) (a_t_now : Nat) (a_t_told : Nat) (a_t_one : Nat) (a_t_other : Nat) (a_t_forth : Nat) (a_t_cost : Nat) (a_t_broken : Nat) (a_t_away : Nat) (a_t_text : Nat) (a_t_worth : Nat) (a_t_choice : Nat) (a_t_thought : Nat) (a_t_before : Nat) (a_t_deep : Nat) (a_t_price : Nat) (a_t_undo : Nat) (a_t_slots : Nat) (a_t_isSaved : Nat) (t_thrown : Int32) (t_length : Int32) (t_textSize : Int32) (t_start : Int32) (t_next : Int32) (t_token : Int32) (t_value : Int32) (t_error : Int32) (t_errorAt : Int32) (t_number : Int32) (t_isFirst : Int32) (t_limitNow : Int32) (t_undos : Int32) (t_now : Nat → Int32) (t_told : Nat → Int32) (t_one : Nat → Int32) (t_other : Nat → Int32) (t_forth : Nat → Int32) (r : Int32 × Int32) (h : fX11_gain t_now t_told t_one t_other t_forth = some r) : sM l yX11_gain cX11_gain 1 (some .int) (zR 4) D cT [.ref a_t] [(a_t, .inr (11, [.int t_thrown, .ref a_t_now, .ref a_t_told, .ref a_t_one, .ref a_t_other, .ref a_t_forth, .ref a_t_cost, .ref a_t_broken, .ref a_t_away, .ref a_t_text, .int t_length, .int t_textSize, .int t_start, .int t_next, .int t_token, .int t_value, .int t_error, .int t_errorAt, .int t_number, .int t_isFirst, .ref a_t_worth, .ref a_t_choice, .ref a_t_thought, .ref a_t_before, .ref a_t_deep, .int t_limitNow, .ref a_t_price, .int t_undos, .ref a_t_undo, .ref a_t_slots, .ref a_t_isSaved])), (a_t_now, .inl (cT 0, 514, .inl t_now)), (a_t_told, .inl (cT 0, 8, .inl t_told)), (a_t_one, .inl (cT 0, 48, .inl t_one)), (a_t_other, .inl (cT 0, 48, .inl t_other)), (a_t_forth, .inl (cT 0, 48, .inl t_forth))] (some (.int r.1)) [(a_t, .inr (11, [.int r.2, .ref a_t_now, .ref a_t_told, .ref a_t_one, .ref a_t_other, .ref a_t_forth, .ref a_t_cost, .ref a_t_broken, .ref a_t_away, .ref a_t_text, .int t_length, .int t_textSize, .int t_start, .int t_next, .int t_token, .int t_value, .int t_error, .int t_errorAt, .int t_number, .int t_isFirst, .ref a_t_worth, .ref a_t_choice, .ref a_t_thought, .ref a_t_before, .ref a_t_deep, .int t_limitNow, .ref a_t_price, .int t_undos, .ref a_t_undo, .ref a_t_slots, .ref a_t_isSaved])), (a_t_now, .inl (cT 0, 514, .inl t_now)), (a_t_told, .inl (cT 0, 8, .inl t_told)), (a_t_one, .inl (cT 0, 48, .inl t_one)), (a_t_other, .inl (cT 0, 48, .inl t_other)), (a_t_forth, .inl (cT 0, 48, .inl t_forth))] := by
  refine sM_int rfl (Nat.le_of_ble_eq_true rfl) ?_
  intro X C hE
  refine xi_drop (L2 := [(0, .ref a_t)]) [0] rfl ?_
  refine xi_aload_n C 0 dX11_gain_0 rfl ?_
  refine xi_iconst C (v := 0) dX11_gain_1 rfl ?_
  refine xi_put C zkX11 0 0 zlX11_80 (by decide) rfl rfl rfl rfl (Nat.le_of_ble_eq_true rfl) dX11_gain_2 (ws2 := [(a_t, .inr (11, [.int 0, .ref a_t_now, .ref a_t_told, .ref a_t_one, .ref a_t_other, .ref a_t_forth, .ref a_t_cost, .ref a_t_broken, .ref a_t_away, .ref a_t_text, .int t_length, .int t_textSize, .int t_start, .int t_next, .int t_token, .int t_value, .int t_error, .int t_errorAt, .int t_number, .int t_isFirst, .ref a_t_worth, .ref a_t_choice, .ref a_t_thought, .ref a_t_before, .ref a_t_deep, .int t_limitNow, .ref a_t_price, .int t_undos, .ref a_t_undo, .ref a_t_slots, .ref a_t_isSaved])), (a_t_now, .inl (cT 0, 514, .inl t_now)), (a_t_told, .inl (cT 0, 8, .inl t_told)), (a_t_one, .inl (cT 0, 48, .inl t_one)), (a_t_other, .inl (cT 0, 48, .inl t_other)), (a_t_forth, .inl (cT 0, 48, .inl t_forth))]) rfl ?_
  refine xi_aload_n C 0 dX11_gain_5 rfl ?_
  replace h := ob h
  obtain ⟨u1, hu2, h⟩ := h
  refine xi_callVr C (kX11_gainNow l D cT a_t a_t_now a_t_told a_t_one a_t_other a_t_forth a_t_cost a_t_broken a_t_away a_t_text a_t_worth a_t_choice a_t_thought a_t_before a_t_deep a_t_price a_t_undo a_t_slots a_t_isSaved 0 t_length t_textSize t_start t_next t_token t_value t_error t_errorAt t_number t_isFirst t_limitNow t_undos t_now t_told t_one t_other t_forth u1 hu2) zcX11_gainNow zmX11_228 ziX11_gainNow (zr rfl rfl) z00 rfl [0, 1, 2, 3, 4, 5] rfl rfl zkX11.1 (qr := 0) rfl rfl (Nat.le_of_ble_eq_true rfl) dX11_gain_6 (fun z3 => ?_)
  obtain rfl := Option.some.inj h
  exact hE _ _ _ dX11_gain_9 rfl
def fX11_spent_b57 (t_now : Nat → Int32) (s0 : Int32) (s1 : Int32) (t_thrown : Int32) : Option (Int32 × Int32) := gd (s1 + s0) 514 (some (t_now (s1 + s0).toNatClampNeg, t_thrown))
def fX11_spent_b22 (t_now : Nat → Int32) (x1 : Int32) (s0 : Int32) (t_thrown : Int32) : Option (Int32 × Int32) := nm (fX11_throwsIf t_thrown s0 1) (fun u5 => if u5.1 = 0 then if (t_now 0) ≤ x1 then fX11_spent_b57 t_now (t_now 0) 14 u5.2 else fX11_spent_b57 t_now x1 14 u5.2 else some (0, u5.2))
def fX11_spent (t_now : Nat → Int32) (x1 : Int32) : Option (Int32 × Int32) := if (fX11_within x1 0 9999) = 0 then fX11_spent_b22 t_now x1 1 0 else fX11_spent_b22 t_now x1 0 0
set_option maxRecDepth 100000 in
set_option maxHeartbeats 4000000 in
theorem kX11_spent (l : Launch) (D : va_G) (cT : Nat → ClassId) (a_t : Nat) (a_t_now : Nat) (a_t_told : Nat) (a_t_one : Nat) (a_t_other : Nat) (a_t_forth : Nat) (a_t_cost : Nat) (a_t_broken : Nat) (a_t_away : Nat) (a_t_text : Nat) (a_t_worth : Nat) (a_t_choice : Nat) (a_t_thought : Nat) (a_t_before : Nat) (a_t_deep : Nat) (a_t_price : Nat) (a_t_undo : Nat) (a_t_slots : Nat) (a_t_isSaved : Nat) (t_thrown : Int32) (t_length : Int32) (t_textSize : Int32) (t_start : Int32) (t_next : Int32) (t_token : Int32) (t_value : Int32) (t_error : Int32) (t_errorAt : Int32) (t_number : Int32) (t_isFirst : Int32) (t_limitNow : Int32) (t_undos : Int32) (t_now : Nat → Int32) (x1 : Int32) (r : Int32 × Int32) (h : fX11_spent t_now x1 = some r) : sM l yX11_spent cX11_spent 2 (some .int) (zR 2) D cT [.ref a_t, .int x1] [(a_t, .inr (11, [.int t_thrown, .ref a_t_now, .ref a_t_told, .ref a_t_one, .ref a_t_other, .ref a_t_forth, .ref a_t_cost, .ref a_t_broken, .ref a_t_away, .ref a_t_text, .int t_length, .int t_textSize, .int t_start, .int t_next, .int t_token, .int t_value, .int t_error, .int t_errorAt, .int t_number, .int t_isFirst, .ref a_t_worth, .ref a_t_choice, .ref a_t_thought, .ref a_t_before, .ref a_t_deep, .int t_limitNow, .ref a_t_price, .int t_undos, .ref a_t_undo, .ref a_t_slots, .ref a_t_isSaved])), (a_t_now, .inl (cT 0, 514, .inl t_now))] (some (.int r.1)) [(a_t, .inr (11, [.int r.2, .ref a_t_now, .ref a_t_told, .ref a_t_one, .ref a_t_other, .ref a_t_forth, .ref a_t_cost, .ref a_t_broken, .ref a_t_away, .ref a_t_text, .int t_length, .int t_textSize, .int t_start, .int t_next, .int t_token, .int t_value, .int t_error, .int t_errorAt, .int t_number, .int t_isFirst, .ref a_t_worth, .ref a_t_choice, .ref a_t_thought, .ref a_t_before, .ref a_t_deep, .int t_limitNow, .ref a_t_price, .int t_undos, .ref a_t_undo, .ref a_t_slots, .ref a_t_isSaved])), (a_t_now, .inl (cT 0, 514, .inl t_now))] := by
  refine sM_int rfl (Nat.le_of_ble_eq_true rfl) ?_
  intro X C hE
  have B57 : ∀ (s0 : Int32) (s1 : Int32) (t_thrown : Int32), fX11_spent_b57 t_now s0 s1 t_thrown = some r → sW X l (zR 2) D 2 0 0 57 [] [.int s0, .int s1, .ref a_t_now] [(a_t, .inr (11, [.int t_thrown, .ref a_t_now, .ref a_t_told, .ref a_t_one, .ref a_t_other, .ref a_t_forth, .ref a_t_cost, .ref a_t_broken, .ref a_t_away, .ref a_t_text, .int t_length, .int t_textSize, .int t_start, .int t_next, .int t_token, .int t_value, .int t_error, .int t_errorAt, .int t_number, .int t_isFirst, .ref a_t_worth, .ref a_t_choice, .ref a_t_thought, .ref a_t_before, .ref a_t_deep, .int t_limitNow, .ref a_t_price, .int t_undos, .ref a_t_undo, .ref a_t_slots, .ref a_t_isSaved])), (a_t_now, .inl (cT 0, 514, .inl t_now))] := by
    intro s0 s1 t_thrown h
    refine xi_iadd C dX11_spent_57 ?_
    replace h := ig h
    obtain ⟨c10, h⟩ := h
    refine xi_iald C 1 rfl c10 dX11_spent_58 ?_
    obtain rfl := Option.some.inj h
    exact hE _ _ _ dX11_spent_59 rfl
  have B22 : ∀ (s0 : Int32) (t_thrown : Int32), fX11_spent_b22 t_now x1 s0 t_thrown = some r → sW X l (zR 2) D 2 0 0 22 [(0, .ref a_t), (1, .int x1)] [.int s0, .ref a_t] [(a_t, .inr (11, [.int t_thrown, .ref a_t_now, .ref a_t_told, .ref a_t_one, .ref a_t_other, .ref a_t_forth, .ref a_t_cost, .ref a_t_broken, .ref a_t_away, .ref a_t_text, .int t_length, .int t_textSize, .int t_start, .int t_next, .int t_token, .int t_value, .int t_error, .int t_errorAt, .int t_number, .int t_isFirst, .ref a_t_worth, .ref a_t_choice, .ref a_t_thought, .ref a_t_before, .ref a_t_deep, .int t_limitNow, .ref a_t_price, .int t_undos, .ref a_t_undo, .ref a_t_slots, .ref a_t_isSaved])), (a_t_now, .inl (cT 0, 514, .inl t_now))] := by
    intro s0 t_thrown h
    refine xi_iconst C (v := 1) dX11_spent_22 rfl ?_
    obtain ⟨u5, hu6⟩ : ∃ z, z = fX11_throwsIf t_thrown s0 1 := ⟨_, rfl⟩
    replace h := nmE hu6 h
    refine xi_callV C (kX11_throwsIf l D cT a_t a_t_now a_t_told a_t_one a_t_other a_t_forth a_t_cost a_t_broken a_t_away a_t_text a_t_worth a_t_choice a_t_thought a_t_before a_t_deep a_t_price a_t_undo a_t_slots a_t_isSaved t_thrown t_length t_textSize t_start t_next t_token t_value t_error t_errorAt t_number t_isFirst t_limitNow t_undos s0 1 u5 hu6.symm) zcX11_throwsIf zmX11_176 ziX11_throwsIf (zr rfl rfl) z00 rfl [0] rfl rfl rfl [some 0, none] (by decide +kernel) (ws2 := [(a_t, .inr (11, [.int u5.2, .ref a_t_now, .ref a_t_told, .ref a_t_one, .ref a_t_other, .ref a_t_forth, .ref a_t_cost, .ref a_t_broken, .ref a_t_away, .ref a_t_text, .int t_length, .int t_textSize, .int t_start, .int t_next, .int t_token, .int t_value, .int t_error, .int t_errorAt, .int t_number, .int t_isFirst, .ref a_t_worth, .ref a_t_choice, .ref a_t_thought, .ref a_t_before, .ref a_t_deep, .int t_limitNow, .ref a_t_price, .int t_undos, .ref a_t_undo, .ref a_t_slots, .ref a_t_isSaved])), (a_t_now, .inl (cT 0, 514, .inl t_now))]) rfl zkX11.1 (qr := 0) rfl rfl (Nat.le_of_ble_eq_true rfl) dX11_spent_23 (fun z7 => ?_)
    refine xi_if_eq C (tgt := 31) dX11_spent_26 rfl (fun c8 => ?_) (fun c8 => ?_)
    · replace h := (if_pos c8).symm.trans h
      refine xi_aload_n C 0 dX11_spent_31 rfl ?_
      refine xi_get C zkX11 1 0 zlX11_7 (by decide) rfl rfl dX11_spent_32 ?_
      refine xi_bipush C (v := 14) dX11_spent_35 rfl ?_
      refine xi_iload_n C 1 dX11_spent_37 rfl ?_
      refine xi_aload_n C 0 dX11_spent_38 rfl ?_
      refine xi_get C zkX11 1 0 zlX11_7 (by decide) rfl rfl dX11_spent_39 ?_
      refine xi_iconst C (v := 0) dX11_spent_42 rfl ?_
      refine xi_iald C 1 rfl (zv (by decide)) dX11_spent_43 ?_
      refine xi_icmp_ge C (tgt := 51) dX11_spent_44 rfl (fun c9 => ?_) (fun c9 => ?_)
      · replace h := (if_pos c9).symm.trans h
        refine xi_aload_n C 0 dX11_spent_51 rfl ?_
        refine xi_get C zkX11 1 0 zlX11_7 (by decide) rfl rfl dX11_spent_52 ?_
        refine xi_iconst C (v := 0) dX11_spent_55 rfl ?_
        refine xi_iald C 1 rfl (zv (by decide)) dX11_spent_56 ?_
        refine xi_drop (L2 := []) [] rfl ?_
        exact B57 (t_now 0) 14 u5.2 h
      · replace h := (if_neg c9).symm.trans h
        refine xi_iload_n C 1 dX11_spent_47 rfl ?_
        refine xi_goto C (tgt := 57) dX11_spent_48 rfl ?_
        refine xi_drop (L2 := []) [] rfl ?_
        exact B57 x1 14 u5.2 h
    · replace h := (if_neg c8).symm.trans h
      refine xi_iconst C (v := 0) dX11_spent_29 rfl ?_
      obtain rfl := Option.some.inj h
      exact hE _ _ _ dX11_spent_30 rfl
  refine xi_drop (L2 := [(0, .ref a_t), (1, .int x1)]) [0, 1] rfl ?_
  refine xi_aload_n C 0 dX11_spent_0 rfl ?_
  refine xi_iconst C (v := 0) dX11_spent_1 rfl ?_
  refine xi_put C zkX11 0 0 zlX11_80 (by decide) rfl rfl rfl rfl (Nat.le_of_ble_eq_true rfl) dX11_spent_2 (ws2 := [(a_t, .inr (11, [.int 0, .ref a_t_now, .ref a_t_told, .ref a_t_one, .ref a_t_other, .ref a_t_forth, .ref a_t_cost, .ref a_t_broken, .ref a_t_away, .ref a_t_text, .int t_length, .int t_textSize, .int t_start, .int t_next, .int t_token, .int t_value, .int t_error, .int t_errorAt, .int t_number, .int t_isFirst, .ref a_t_worth, .ref a_t_choice, .ref a_t_thought, .ref a_t_before, .ref a_t_deep, .int t_limitNow, .ref a_t_price, .int t_undos, .ref a_t_undo, .ref a_t_slots, .ref a_t_isSaved])), (a_t_now, .inl (cT 0, 514, .inl t_now))]) rfl ?_
  refine xi_aload_n C 0 dX11_spent_5 rfl ?_
  refine xi_iload_n C 1 dX11_spent_6 rfl ?_
  refine xi_iconst C (v := 0) dX11_spent_7 rfl ?_
  refine xi_sipush C (v := 9999) dX11_spent_8 rfl ?_
  refine xi_callSr C (kX11_within l D cT x1 0 9999 (fX11_within x1 0 9999) rfl) zcX11_within zmX11_113 zsX11_within (zr rfl rfl) z00 rfl [] rfl rfl rfl (Nat.le_of_ble_eq_true rfl) dX11_spent_11 (fun z3 => ?_)
  refine xi_if_ne C (tgt := 21) dX11_spent_14 rfl (fun c4 => ?_) (fun c4 => ?_)
  · replace h := (if_neg c4).symm.trans h
    refine xi_iconst C (v := 0) dX11_spent_21 rfl ?_
    exact B22 0 0 h
  · replace h := (if_pos c4).symm.trans h
    refine xi_iconst C (v := 1) dX11_spent_17 rfl ?_
    refine xi_goto C (tgt := 22) dX11_spent_18 rfl ?_
    exact B22 1 0 h
def fX11_costOf_b33 (K4 : Int32 → Int32 → Option Int32) (y3 : Int32) (s0 : Int32) (s1 : Int32) : Option Int32 := K4 (s1 + s0) (y3 + 1)
def fX11_costOf_b4 (t_told : Nat → Int32) (t_cost : Nat → Int32) (x1 : Int32) : Nat → Int32 → Int32 → Option Int32
  | 0, _, _ => none
  | n + 1, y2, y3 => if (t_told 1) ≤ y3 then some y2 else if (fX11_isIn x1 y3) = 0 then fX11_costOf_b33 (fX11_costOf_b4 t_told t_cost x1 n) y3 0 y2 else gd y3 48 (fX11_costOf_b33 (fX11_costOf_b4 t_told t_cost x1 n) y3 (t_cost y3.toNatClampNeg) y2)
theorem fX11_costOf_b4_0 (t_told : Nat → Int32) (t_cost : Nat → Int32) (x1 : Int32) (y2 : Int32) (y3 : Int32) : fX11_costOf_b4 t_told t_cost x1 0 y2 y3 = none := rfl
theorem fX11_costOf_b4_s (t_told : Nat → Int32) (t_cost : Nat → Int32) (x1 : Int32) (n : Nat) (y2 : Int32) (y3 : Int32) : fX11_costOf_b4 t_told t_cost x1 (n + 1) y2 y3 = (if (t_told 1) ≤ y3 then some y2 else if (fX11_isIn x1 y3) = 0 then fX11_costOf_b33 (fX11_costOf_b4 t_told t_cost x1 n) y3 0 y2 else gd y3 48 (fX11_costOf_b33 (fX11_costOf_b4 t_told t_cost x1 n) y3 (t_cost y3.toNatClampNeg) y2)) := rfl
def fX11_costOf (t_told : Nat → Int32) (t_cost : Nat → Int32) (x1 : Int32) : Option Int32 := fX11_costOf_b4 t_told t_cost x1 FU 0 0
set_option maxRecDepth 100000 in
set_option maxHeartbeats 4000000 in
theorem kX11_costOf (l : Launch) (D : va_G) (cT : Nat → ClassId) (a_t : Nat) (a_t_now : Nat) (a_t_told : Nat) (a_t_one : Nat) (a_t_other : Nat) (a_t_forth : Nat) (a_t_cost : Nat) (a_t_broken : Nat) (a_t_away : Nat) (a_t_text : Nat) (a_t_worth : Nat) (a_t_choice : Nat) (a_t_thought : Nat) (a_t_before : Nat) (a_t_deep : Nat) (a_t_price : Nat) (a_t_undo : Nat) (a_t_slots : Nat) (a_t_isSaved : Nat) (t_thrown : Int32) (t_length : Int32) (t_textSize : Int32) (t_start : Int32) (t_next : Int32) (t_token : Int32) (t_value : Int32) (t_error : Int32) (t_errorAt : Int32) (t_number : Int32) (t_isFirst : Int32) (t_limitNow : Int32) (t_undos : Int32) (t_told : Nat → Int32) (t_cost : Nat → Int32) (x1 : Int32) (r : Int32) (h : fX11_costOf t_told t_cost x1 = some r) : sM l yX11_costOf cX11_costOf 4 (some .int) (zR 2) D cT [.ref a_t, .int x1] [(a_t, .inr (11, [.int t_thrown, .ref a_t_now, .ref a_t_told, .ref a_t_one, .ref a_t_other, .ref a_t_forth, .ref a_t_cost, .ref a_t_broken, .ref a_t_away, .ref a_t_text, .int t_length, .int t_textSize, .int t_start, .int t_next, .int t_token, .int t_value, .int t_error, .int t_errorAt, .int t_number, .int t_isFirst, .ref a_t_worth, .ref a_t_choice, .ref a_t_thought, .ref a_t_before, .ref a_t_deep, .int t_limitNow, .ref a_t_price, .int t_undos, .ref a_t_undo, .ref a_t_slots, .ref a_t_isSaved])), (a_t_told, .inl (cT 0, 8, .inl t_told)), (a_t_cost, .inl (cT 0, 48, .inl t_cost))] (some (.int r)) [(a_t, .inr (11, [.int t_thrown, .ref a_t_now, .ref a_t_told, .ref a_t_one, .ref a_t_other, .ref a_t_forth, .ref a_t_cost, .ref a_t_broken, .ref a_t_away, .ref a_t_text, .int t_length, .int t_textSize, .int t_start, .int t_next, .int t_token, .int t_value, .int t_error, .int t_errorAt, .int t_number, .int t_isFirst, .ref a_t_worth, .ref a_t_choice, .ref a_t_thought, .ref a_t_before, .ref a_t_deep, .int t_limitNow, .ref a_t_price, .int t_undos, .ref a_t_undo, .ref a_t_slots, .ref a_t_isSaved])), (a_t_told, .inl (cT 0, 8, .inl t_told)), (a_t_cost, .inl (cT 0, 48, .inl t_cost))] := by
  refine sM_int rfl (Nat.le_of_ble_eq_true rfl) ?_
  intro X C hE
  have B33 : ∀ (K4 : Int32 → Int32 → Option Int32) (hK4 : ∀ (y2 : Int32) (y3 : Int32), K4 y2 y3 = some r → sW X l (zR 2) D 4 0 0 4 [(0, .ref a_t), (1, .int x1), (2, .int y2), (3, .int y3)] [] [(a_t, .inr (11, [.int t_thrown, .ref a_t_now, .ref a_t_told, .ref a_t_one, .ref a_t_other, .ref a_t_forth, .ref a_t_cost, .ref a_t_broken, .ref a_t_away, .ref a_t_text, .int t_length, .int t_textSize, .int t_start, .int t_next, .int t_token, .int t_value, .int t_error, .int t_errorAt, .int t_number, .int t_isFirst, .ref a_t_worth, .ref a_t_choice, .ref a_t_thought, .ref a_t_before, .ref a_t_deep, .int t_limitNow, .ref a_t_price, .int t_undos, .ref a_t_undo, .ref a_t_slots, .ref a_t_isSaved])), (a_t_told, .inl (cT 0, 8, .inl t_told)), (a_t_cost, .inl (cT 0, 48, .inl t_cost))]) (y3 : Int32) (s0 : Int32) (s1 : Int32), fX11_costOf_b33 K4 y3 s0 s1 = some r → sW X l (zR 2) D 4 0 0 33 [(0, .ref a_t), (1, .int x1), (3, .int y3)] [.int s0, .int s1] [(a_t, .inr (11, [.int t_thrown, .ref a_t_now, .ref a_t_told, .ref a_t_one, .ref a_t_other, .ref a_t_forth, .ref a_t_cost, .ref a_t_broken, .ref a_t_away, .ref a_t_text, .int t_length, .int t_textSize, .int t_start, .int t_next, .int t_token, .int t_value, .int t_error, .int t_errorAt, .int t_number, .int t_isFirst, .ref a_t_worth, .ref a_t_choice, .ref a_t_thought, .ref a_t_before, .ref a_t_deep, .int t_limitNow, .ref a_t_price, .int t_undos, .ref a_t_undo, .ref a_t_slots, .ref a_t_isSaved])), (a_t_told, .inl (cT 0, 8, .inl t_told)), (a_t_cost, .inl (cT 0, 48, .inl t_cost))] := by
    intro K4 hK4 y3 s0 s1 h
    refine xi_iadd C dX11_costOf_33 ?_
    refine xi_istore_n C [1, 2, 0, 3] (L2 := [(0, .ref a_t), (1, .int x1), (2, .int (s1 + s0)), (3, .int y3)]) dX11_costOf_34 (Nat.le_of_ble_eq_true rfl) rfl ?_
    refine xi_iinc C (v := y3 + 1) 3 [1, 2, 3, 0] (L2 := [(0, .ref a_t), (1, .int x1), (2, .int (s1 + s0)), (3, .int (y3 + 1))]) dX11_costOf_35 rfl rfl (Nat.le_of_ble_eq_true rfl) rfl ?_
    refine xi_goto C (tgt := 4) dX11_costOf_38 rfl ?_
    exact hK4 (s1 + s0) (y3 + 1) h
  have B4 : ∀ (n : Nat) (y2 : Int32) (y3 : Int32), fX11_costOf_b4 t_told t_cost x1 n y2 y3 = some r → sW X l (zR 2) D 4 0 0 4 [(0, .ref a_t), (1, .int x1), (2, .int y2), (3, .int y3)] [] [(a_t, .inr (11, [.int t_thrown, .ref a_t_now, .ref a_t_told, .ref a_t_one, .ref a_t_other, .ref a_t_forth, .ref a_t_cost, .ref a_t_broken, .ref a_t_away, .ref a_t_text, .int t_length, .int t_textSize, .int t_start, .int t_next, .int t_token, .int t_value, .int t_error, .int t_errorAt, .int t_number, .int t_isFirst, .ref a_t_worth, .ref a_t_choice, .ref a_t_thought, .ref a_t_before, .ref a_t_deep, .int t_limitNow, .ref a_t_price, .int t_undos, .ref a_t_undo, .ref a_t_slots, .ref a_t_isSaved])), (a_t_told, .inl (cT 0, 8, .inl t_told)), (a_t_cost, .inl (cT 0, 48, .inl t_cost))] := by
    intro n
    induction n with
    | zero =>
      intro y2 y3 h
      exact zno ((fX11_costOf_b4_0 _ _ _ _ _).symm.trans h)
    | succ n ih =>
      intro y2 y3 h
      replace h := (fX11_costOf_b4_s _ _ _ _ _ _).symm.trans h
      refine xi_iload_n C 3 dX11_costOf_4 rfl ?_
      refine xi_aload_n C 0 dX11_costOf_5 rfl ?_
      refine xi_get C zkX11 2 0 zlX11_13 (by decide) rfl rfl dX11_costOf_6 ?_
      refine xi_iconst C (v := 1) dX11_costOf_9 rfl ?_
      refine xi_iald C 1 rfl (zv (by decide)) dX11_costOf_10 ?_
      refine xi_icmp_ge C (tgt := 41) dX11_costOf_11 rfl (fun c1 => ?_) (fun c1 => ?_)
      · replace h := (if_pos c1).symm.trans h
        refine xi_iload_n C 2 dX11_costOf_41 rfl ?_
        obtain rfl := Option.some.inj h
        exact hE _ _ _ dX11_costOf_42 rfl
      · replace h := (if_neg c1).symm.trans h
        refine xi_iload_n C 2 dX11_costOf_14 rfl ?_
        refine xi_iload_n C 1 dX11_costOf_15 rfl ?_
        refine xi_iload_n C 3 dX11_costOf_16 rfl ?_
        refine xi_callSr C (kX11_isIn l D cT x1 y3 (fX11_isIn x1 y3) rfl) zcX11_isIn zmX11_201 zsX11_isIn (zr rfl rfl) z00 rfl [] rfl rfl rfl (Nat.le_of_ble_eq_true rfl) dX11_costOf_17 (fun z4 => ?_)
        refine xi_if_eq C (tgt := 32) dX11_costOf_20 rfl (fun c5 => ?_) (fun c5 => ?_)
        · replace h := (if_pos c5).symm.trans h
          refine xi_iconst C (v := 0) dX11_costOf_32 rfl ?_
          refine xi_drop (L2 := [(0, .ref a_t), (1, .int x1), (3, .int y3)]) [0, 1, 3] rfl ?_
          exact B33 (fX11_costOf_b4 t_told t_cost x1 n) ih y3 0 y2 h
        · replace h := (if_neg c5).symm.trans h
          refine xi_aload_n C 0 dX11_costOf_23 rfl ?_
          refine xi_get C zkX11 6 0 zlX11_25 (by decide) rfl rfl dX11_costOf_24 ?_
          refine xi_iload_n C 3 dX11_costOf_27 rfl ?_
          replace h := ig h
          obtain ⟨c6, h⟩ := h
          refine xi_iald C 2 rfl c6 dX11_costOf_28 ?_
          refine xi_goto C (tgt := 33) dX11_costOf_29 rfl ?_
          refine xi_drop (L2 := [(0, .ref a_t), (1, .int x1), (3, .int y3)]) [0, 1, 3] rfl ?_
          exact B33 (fX11_costOf_b4 t_told t_cost x1 n) ih y3 (t_cost y3.toNatClampNeg) y2 h
  refine xi_drop (L2 := [(0, .ref a_t), (1, .int x1)]) [0, 1] rfl ?_
  refine xi_iconst C (v := 0) dX11_costOf_0 rfl ?_
  refine xi_istore_n C [1, 2, 0] (L2 := [(0, .ref a_t), (1, .int x1), (2, .int 0)]) dX11_costOf_1 (Nat.le_of_ble_eq_true rfl) rfl ?_
  refine xi_iconst C (v := 0) dX11_costOf_2 rfl ?_
  refine xi_istore_n C [1, 2, 3, 0] (L2 := [(0, .ref a_t), (1, .int x1), (2, .int 0), (3, .int 0)]) dX11_costOf_3 (Nat.le_of_ble_eq_true rfl) rfl ?_
  exact B4 FU 0 0 h
