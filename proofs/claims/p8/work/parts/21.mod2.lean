def fX11_waysOf_b140 (y4 : Int32) : Option Int32 := if (fX11_isIn y4 3) = 0 then some y4 else some (8 : Int32)
def fX11_waysOf_b131 (K6 : Int32 → Int32 → Option Int32) (y5 : Int32) (s0 : Int32) (s1 : Int32) : Option Int32 := K6 (s1 ||| s0) (y5 + 1)
def fX11_waysOf_b85 (t_now : Nat → Int32) (t_told : Nat → Int32) (t_one : Nat → Int32) (t_other : Nat → Int32) (t_forth : Nat → Int32) (t_broken : Nat → Int32) (t_away : Nat → Int32) (x1 : Int32) (K6 : Int32 → Int32 → Option Int32) (y4 : Int32) (y5 : Int32) (y6 : Int32) : Option Int32 := (fX11_canCall t_now t_told t_one t_other t_broken t_away y5 (((t_now 0) + x1) + 1)).bind (fun u11 => if u11 = 0 then K6 y4 (y5 + 1) else gd y5 48 (if (t_forth y5.toNatClampNeg) = 0 then fX11_waysOf_b131 K6 y5 8 y4 else if y6 = 0 then fX11_waysOf_b131 K6 y5 4 y4 else fX11_waysOf_b131 K6 y5 2 y4))
def fX11_waysOf_b73 (t_now : Nat → Int32) (t_told : Nat → Int32) (t_one : Nat → Int32) (t_other : Nat → Int32) (t_forth : Nat → Int32) (t_broken : Nat → Int32) (t_away : Nat → Int32) (x1 : Int32) (K6 : Int32 → Int32 → Option Int32) (y4 : Int32) (y5 : Int32) (y6 : Int32) (s0 : Int32) : Option Int32 := if y6 = 0 then if s0 = 0 then K6 y4 (y5 + 1) else fX11_waysOf_b85 t_now t_told t_one t_other t_forth t_broken t_away x1 K6 y4 y5 y6 else fX11_waysOf_b85 t_now t_told t_one t_other t_forth t_broken t_away x1 K6 y4 y5 y6
def fX11_waysOf_b72 (t_now : Nat → Int32) (t_told : Nat → Int32) (t_one : Nat → Int32) (t_other : Nat → Int32) (t_forth : Nat → Int32) (t_broken : Nat → Int32) (t_away : Nat → Int32) (x1 : Int32) (K6 : Int32 → Int32 → Option Int32) (y4 : Int32) (y5 : Int32) (y6 : Int32) : Option Int32 := fX11_waysOf_b73 t_now t_told t_one t_other t_forth t_broken t_away x1 K6 y4 y5 y6 0
def fX11_waysOf_b44 (t_now : Nat → Int32) (t_told : Nat → Int32) (t_one : Nat → Int32) (t_other : Nat → Int32) (t_forth : Nat → Int32) (t_broken : Nat → Int32) (t_away : Nat → Int32) (x1 : Int32) (x2 : Int32) (x3 : Int32) (K6 : Int32 → Int32 → Option Int32) (y4 : Int32) (y5 : Int32) (s0 : Int32) : Option Int32 := gd y5 48 (if (t_one y5.toNatClampNeg) = x3 then if (t_other y5.toNatClampNeg) = x2 then fX11_waysOf_b73 t_now t_told t_one t_other t_forth t_broken t_away x1 K6 y4 y5 s0 1 else fX11_waysOf_b72 t_now t_told t_one t_other t_forth t_broken t_away x1 K6 y4 y5 s0 else fX11_waysOf_b72 t_now t_told t_one t_other t_forth t_broken t_away x1 K6 y4 y5 s0)
def fX11_waysOf_b43 (t_now : Nat → Int32) (t_told : Nat → Int32) (t_one : Nat → Int32) (t_other : Nat → Int32) (t_forth : Nat → Int32) (t_broken : Nat → Int32) (t_away : Nat → Int32) (x1 : Int32) (x2 : Int32) (x3 : Int32) (K6 : Int32 → Int32 → Option Int32) (y4 : Int32) (y5 : Int32) : Option Int32 := fX11_waysOf_b44 t_now t_told t_one t_other t_forth t_broken t_away x1 x2 x3 K6 y4 y5 0
def fX11_waysOf_b6 (t_now : Nat → Int32) (t_told : Nat → Int32) (t_one : Nat → Int32) (t_other : Nat → Int32) (t_forth : Nat → Int32) (t_broken : Nat → Int32) (t_away : Nat → Int32) (x1 : Int32) (x2 : Int32) (x3 : Int32) : Nat → Int32 → Int32 → Option Int32
  | 0, _, _ => none
  | n + 1, y4, y5 => if (t_told 1) ≤ y5 then fX11_waysOf_b140 y4 else gd y5 48 (if (t_one y5.toNatClampNeg) = x2 then if (t_other y5.toNatClampNeg) = x3 then fX11_waysOf_b44 t_now t_told t_one t_other t_forth t_broken t_away x1 x2 x3 (fX11_waysOf_b6 t_now t_told t_one t_other t_forth t_broken t_away x1 x2 x3 n) y4 y5 1 else fX11_waysOf_b43 t_now t_told t_one t_other t_forth t_broken t_away x1 x2 x3 (fX11_waysOf_b6 t_now t_told t_one t_other t_forth t_broken t_away x1 x2 x3 n) y4 y5 else fX11_waysOf_b43 t_now t_told t_one t_other t_forth t_broken t_away x1 x2 x3 (fX11_waysOf_b6 t_now t_told t_one t_other t_forth t_broken t_away x1 x2 x3 n) y4 y5)
theorem fX11_waysOf_b6_0 (t_now : Nat → Int32) (t_told : Nat → Int32) (t_one : Nat → Int32) (t_other : Nat → Int32) (t_forth : Nat → Int32) (t_broken : Nat → Int32) (t_away : Nat → Int32) (x1 : Int32) (x2 : Int32) (x3 : Int32) (y4 : Int32) (y5 : Int32) : fX11_waysOf_b6 t_now t_told t_one t_other t_forth t_broken t_away x1 x2 x3 0 y4 y5 = none := rfl
theorem fX11_waysOf_b6_s (t_now : Nat → Int32) (t_told : Nat → Int32) (t_one : Nat → Int32) (t_other : Nat → Int32) (t_forth : Nat → Int32) (t_broken : Nat → Int32) (t_away : Nat → Int32) (x1 : Int32) (x2 : Int32) (x3 : Int32) (n : Nat) (y4 : Int32) (y5 : Int32) : fX11_waysOf_b6 t_now t_told t_one t_other t_forth t_broken t_away x1 x2 x3 (n + 1) y4 y5 = (if (t_told 1) ≤ y5 then fX11_waysOf_b140 y4 else gd y5 48 (if (t_one y5.toNatClampNeg) = x2 then if (t_other y5.toNatClampNeg) = x3 then fX11_waysOf_b44 t_now t_told t_one t_other t_forth t_broken t_away x1 x2 x3 (fX11_waysOf_b6 t_now t_told t_one t_other t_forth t_broken t_away x1 x2 x3 n) y4 y5 1 else fX11_waysOf_b43 t_now t_told t_one t_other t_forth t_broken t_away x1 x2 x3 (fX11_waysOf_b6 t_now t_told t_one t_other t_forth t_broken t_away x1 x2 x3 n) y4 y5 else fX11_waysOf_b43 t_now t_told t_one t_other t_forth t_broken t_away x1 x2 x3 (fX11_waysOf_b6 t_now t_told t_one t_other t_forth t_broken t_away x1 x2 x3 n) y4 y5)) := rfl
def fX11_waysOf (t_now : Nat → Int32) (t_told : Nat → Int32) (t_one : Nat → Int32) (t_other : Nat → Int32) (t_forth : Nat → Int32) (t_broken : Nat → Int32) (t_away : Nat → Int32) (x1 : Int32) (x2 : Int32) (x3 : Int32) : Option Int32 := fX11_waysOf_b6 t_now t_told t_one t_other t_forth t_broken t_away x1 x2 x3 FU 0 0
set_option maxRecDepth 100000 in
set_option maxHeartbeats 4000000 in
theorem kX11_waysOf (l : Launch) (D : va_G) (cT : Nat → ClassId) (a_t : Nat) (a_t_now : Nat) (a_t_told : Nat) (a_t_one : Nat) (a_t_other : Nat) (a_t_forth : Nat) (a_t_cost : Nat) (a_t_broken : Nat) (a_t_away : Nat) (a_t_text : Nat) (a_t_worth : Nat) (a_t_choice : Nat) (a_t_thought : Nat) (a_t_before : Nat) (a_t_deep : Nat) (a_t_price : Nat) (a_t_undo : Nat) (a_t_slots : Nat) (a_t_isSaved : Nat) (t_thrown : Int32) (t_length : Int32) (t_textSize : Int32) (t_start : Int32) (t_next : Int32) (t_token : Int32) (t_value : Int32) (t_error : Int32) (t_errorAt : Int32) (t_number : Int32) (t_isFirst : Int32) (t_limitNow : Int32) (t_undos : Int32) (t_now : Nat → Int32) (t_told : Nat → Int32) (t_one : Nat → Int32) (t_other : Nat → Int32) (t_forth : Nat → Int32) (t_broken : Nat → Int32) (t_away : Nat → Int32) (x1 : Int32) (x2 : Int32) (x3 : Int32) (r : Int32) (h : fX11_waysOf t_now t_told t_one t_other t_forth t_broken t_away x1 x2 x3 = some r) : sM l yX11_waysOf cX11_waysOf 8 (some .int) (zR 4) D cT [.ref a_t, .int x1, .int x2, .int x3] [(a_t, .inr (11, [.int t_thrown, .ref a_t_now, .ref a_t_told, .ref a_t_one, .ref a_t_other, .ref a_t_forth, .ref a_t_cost, .ref a_t_broken, .ref a_t_away, .ref a_t_text, .int t_length, .int t_textSize, .int t_start, .int t_next, .int t_token, .int t_value, .int t_error, .int t_errorAt, .int t_number, .int t_isFirst, .ref a_t_worth, .ref a_t_choice, .ref a_t_thought, .ref a_t_before, .ref a_t_deep, .int t_limitNow, .ref a_t_price, .int t_undos, .ref a_t_undo, .ref a_t_slots, .ref a_t_isSaved])), (a_t_now, .inl (cT 0, 514, .inl t_now)), (a_t_told, .inl (cT 0, 8, .inl t_told)), (a_t_one, .inl (cT 0, 48, .inl t_one)), (a_t_other, .inl (cT 0, 48, .inl t_other)), (a_t_forth, .inl (cT 0, 48, .inl t_forth)), (a_t_broken, .inl (cT 0, 72, .inl t_broken)), (a_t_away, .inl (cT 0, 72, .inl t_away))] (some (.int r)) [(a_t, .inr (11, [.int t_thrown, .ref a_t_now, .ref a_t_told, .ref a_t_one, .ref a_t_other, .ref a_t_forth, .ref a_t_cost, .ref a_t_broken, .ref a_t_away, .ref a_t_text, .int t_length, .int t_textSize, .int t_start, .int t_next, .int t_token, .int t_value, .int t_error, .int t_errorAt, .int t_number, .int t_isFirst, .ref a_t_worth, .ref a_t_choice, .ref a_t_thought, .ref a_t_before, .ref a_t_deep, .int t_limitNow, .ref a_t_price, .int t_undos, .ref a_t_undo, .ref a_t_slots, .ref a_t_isSaved])), (a_t_now, .inl (cT 0, 514, .inl t_now)), (a_t_told, .inl (cT 0, 8, .inl t_told)), (a_t_one, .inl (cT 0, 48, .inl t_one)), (a_t_other, .inl (cT 0, 48, .inl t_other)), (a_t_forth, .inl (cT 0, 48, .inl t_forth)), (a_t_broken, .inl (cT 0, 72, .inl t_broken)), (a_t_away, .inl (cT 0, 72, .inl t_away))] := by
  refine sM_int rfl (Nat.le_of_ble_eq_true rfl) ?_
  intro X C hE
  have B140 : ∀ (y4 : Int32), fX11_waysOf_b140 y4 = some r → sW X l (zR 4) D 8 0 0 140 [(4, .int y4)] [] [(a_t, .inr (11, [.int t_thrown, .ref a_t_now, .ref a_t_told, .ref a_t_one, .ref a_t_other, .ref a_t_forth, .ref a_t_cost, .ref a_t_broken, .ref a_t_away, .ref a_t_text, .int t_length, .int t_textSize, .int t_start, .int t_next, .int t_token, .int t_value, .int t_error, .int t_errorAt, .int t_number, .int t_isFirst, .ref a_t_worth, .ref a_t_choice, .ref a_t_thought, .ref a_t_before, .ref a_t_deep, .int t_limitNow, .ref a_t_price, .int t_undos, .ref a_t_undo, .ref a_t_slots, .ref a_t_isSaved])), (a_t_now, .inl (cT 0, 514, .inl t_now)), (a_t_told, .inl (cT 0, 8, .inl t_told)), (a_t_one, .inl (cT 0, 48, .inl t_one)), (a_t_other, .inl (cT 0, 48, .inl t_other)), (a_t_forth, .inl (cT 0, 48, .inl t_forth)), (a_t_broken, .inl (cT 0, 72, .inl t_broken)), (a_t_away, .inl (cT 0, 72, .inl t_away))] := by
    intro y4 h
    refine xi_iload C 0 dX11_waysOf_140 rfl ?_
    refine xi_iconst C (v := 3) dX11_waysOf_142 rfl ?_
    refine xi_callSr C (kX11_isIn l D cT y4 3 (fX11_isIn y4 3) rfl) zcX11_isIn zmX11_201 zsX11_isIn (zr rfl rfl) z00 rfl [] rfl rfl rfl (Nat.le_of_ble_eq_true rfl) dX11_waysOf_143 (fun z4 => ?_)
    refine xi_if_eq C (tgt := 154) dX11_waysOf_146 rfl (fun c5 => ?_) (fun c5 => ?_)
    · replace h := (if_pos c5).symm.trans h
      refine xi_iload C 0 dX11_waysOf_154 rfl ?_
      obtain rfl := Option.some.inj h
      exact hE _ _ _ dX11_waysOf_156 rfl
    · replace h := (if_neg c5).symm.trans h
      refine xi_bipush C (v := 8) dX11_waysOf_149 rfl ?_
      refine xi_goto C (tgt := 156) dX11_waysOf_151 rfl ?_
      obtain rfl := Option.some.inj h
      exact hE _ _ _ dX11_waysOf_156 rfl
  have B131 : ∀ (K6 : Int32 → Int32 → Option Int32) (hK6 : ∀ (y4 : Int32) (y5 : Int32), K6 y4 y5 = some r → sW X l (zR 4) D 8 0 0 6 [(0, .ref a_t), (1, .int x1), (2, .int x2), (3, .int x3), (4, .int y4), (5, .int y5)] [] [(a_t, .inr (11, [.int t_thrown, .ref a_t_now, .ref a_t_told, .ref a_t_one, .ref a_t_other, .ref a_t_forth, .ref a_t_cost, .ref a_t_broken, .ref a_t_away, .ref a_t_text, .int t_length, .int t_textSize, .int t_start, .int t_next, .int t_token, .int t_value, .int t_error, .int t_errorAt, .int t_number, .int t_isFirst, .ref a_t_worth, .ref a_t_choice, .ref a_t_thought, .ref a_t_before, .ref a_t_deep, .int t_limitNow, .ref a_t_price, .int t_undos, .ref a_t_undo, .ref a_t_slots, .ref a_t_isSaved])), (a_t_now, .inl (cT 0, 514, .inl t_now)), (a_t_told, .inl (cT 0, 8, .inl t_told)), (a_t_one, .inl (cT 0, 48, .inl t_one)), (a_t_other, .inl (cT 0, 48, .inl t_other)), (a_t_forth, .inl (cT 0, 48, .inl t_forth)), (a_t_broken, .inl (cT 0, 72, .inl t_broken)), (a_t_away, .inl (cT 0, 72, .inl t_away))]) (y5 : Int32) (s0 : Int32) (s1 : Int32), fX11_waysOf_b131 K6 y5 s0 s1 = some r → sW X l (zR 4) D 8 0 0 131 [(0, .ref a_t), (1, .int x1), (2, .int x2), (3, .int x3), (5, .int y5)] [.int s0, .int s1] [(a_t, .inr (11, [.int t_thrown, .ref a_t_now, .ref a_t_told, .ref a_t_one, .ref a_t_other, .ref a_t_forth, .ref a_t_cost, .ref a_t_broken, .ref a_t_away, .ref a_t_text, .int t_length, .int t_textSize, .int t_start, .int t_next, .int t_token, .int t_value, .int t_error, .int t_errorAt, .int t_number, .int t_isFirst, .ref a_t_worth, .ref a_t_choice, .ref a_t_thought, .ref a_t_before, .ref a_t_deep, .int t_limitNow, .ref a_t_price, .int t_undos, .ref a_t_undo, .ref a_t_slots, .ref a_t_isSaved])), (a_t_now, .inl (cT 0, 514, .inl t_now)), (a_t_told, .inl (cT 0, 8, .inl t_told)), (a_t_one, .inl (cT 0, 48, .inl t_one)), (a_t_other, .inl (cT 0, 48, .inl t_other)), (a_t_forth, .inl (cT 0, 48, .inl t_forth)), (a_t_broken, .inl (cT 0, 72, .inl t_broken)), (a_t_away, .inl (cT 0, 72, .inl t_away))] := by
    intro K6 hK6 y5 s0 s1 h
    refine xi_ior C dX11_waysOf_131 ?_
    refine xi_istore C [1, 2, 3, 4, 0, 5] (L2 := [(0, .ref a_t), (1, .int x1), (2, .int x2), (3, .int x3), (4, .int (s1 ||| s0)), (5, .int y5)]) dX11_waysOf_132 (Nat.le_of_ble_eq_true rfl) rfl ?_
    refine xi_iinc C (v := y5 + 1) 5 [1, 2, 3, 4, 5, 0] (L2 := [(0, .ref a_t), (1, .int x1), (2, .int x2), (3, .int x3), (4, .int (s1 ||| s0)), (5, .int (y5 + 1))]) dX11_waysOf_134 rfl rfl (Nat.le_of_ble_eq_true rfl) rfl ?_
    refine xi_goto C (tgt := 6) dX11_waysOf_137 rfl ?_
    exact hK6 (s1 ||| s0) (y5 + 1) h
  have B85 : ∀ (K6 : Int32 → Int32 → Option Int32) (hK6 : ∀ (y4 : Int32) (y5 : Int32), K6 y4 y5 = some r → sW X l (zR 4) D 8 0 0 6 [(0, .ref a_t), (1, .int x1), (2, .int x2), (3, .int x3), (4, .int y4), (5, .int y5)] [] [(a_t, .inr (11, [.int t_thrown, .ref a_t_now, .ref a_t_told, .ref a_t_one, .ref a_t_other, .ref a_t_forth, .ref a_t_cost, .ref a_t_broken, .ref a_t_away, .ref a_t_text, .int t_length, .int t_textSize, .int t_start, .int t_next, .int t_token, .int t_value, .int t_error, .int t_errorAt, .int t_number, .int t_isFirst, .ref a_t_worth, .ref a_t_choice, .ref a_t_thought, .ref a_t_before, .ref a_t_deep, .int t_limitNow, .ref a_t_price, .int t_undos, .ref a_t_undo, .ref a_t_slots, .ref a_t_isSaved])), (a_t_now, .inl (cT 0, 514, .inl t_now)), (a_t_told, .inl (cT 0, 8, .inl t_told)), (a_t_one, .inl (cT 0, 48, .inl t_one)), (a_t_other, .inl (cT 0, 48, .inl t_other)), (a_t_forth, .inl (cT 0, 48, .inl t_forth)), (a_t_broken, .inl (cT 0, 72, .inl t_broken)), (a_t_away, .inl (cT 0, 72, .inl t_away))]) (y4 : Int32) (y5 : Int32) (y6 : Int32), fX11_waysOf_b85 t_now t_told t_one t_other t_forth t_broken t_away x1 K6 y4 y5 y6 = some r → sW X l (zR 4) D 8 0 0 85 [(0, .ref a_t), (1, .int x1), (2, .int x2), (3, .int x3), (4, .int y4), (5, .int y5), (6, .int y6)] [] [(a_t, .inr (11, [.int t_thrown, .ref a_t_now, .ref a_t_told, .ref a_t_one, .ref a_t_other, .ref a_t_forth, .ref a_t_cost, .ref a_t_broken, .ref a_t_away, .ref a_t_text, .int t_length, .int t_textSize, .int t_start, .int t_next, .int t_token, .int t_value, .int t_error, .int t_errorAt, .int t_number, .int t_isFirst, .ref a_t_worth, .ref a_t_choice, .ref a_t_thought, .ref a_t_before, .ref a_t_deep, .int t_limitNow, .ref a_t_price, .int t_undos, .ref a_t_undo, .ref a_t_slots, .ref a_t_isSaved])), (a_t_now, .inl (cT 0, 514, .inl t_now)), (a_t_told, .inl (cT 0, 8, .inl t_told)), (a_t_one, .inl (cT 0, 48, .inl t_one)), (a_t_other, .inl (cT 0, 48, .inl t_other)), (a_t_forth, .inl (cT 0, 48, .inl t_forth)), (a_t_broken, .inl (cT 0, 72, .inl t_broken)), (a_t_away, .inl (cT 0, 72, .inl t_away))] := by
    intro K6 hK6 y4 y5 y6 h
    refine xi_aload_n C 0 dX11_waysOf_85 rfl ?_
    refine xi_iload C 5 dX11_waysOf_86 rfl ?_
    refine xi_aload_n C 0 dX11_waysOf_88 rfl ?_
    refine xi_get C zkX11 1 0 zlX11_7 (by decide) rfl rfl dX11_waysOf_89 ?_
    refine xi_iconst C (v := 0) dX11_waysOf_92 rfl ?_
    refine xi_iald C 1 rfl (zv (by decide)) dX11_waysOf_93 ?_
    refine xi_iload_n C 1 dX11_waysOf_94 rfl ?_
    refine xi_iadd C dX11_waysOf_95 ?_
    refine xi_iconst C (v := 1) dX11_waysOf_96 rfl ?_
    refine xi_iadd C dX11_waysOf_97 ?_
    replace h := ob h
    obtain ⟨u11, hu12, h⟩ := h
    refine xi_callVr C (kX11_canCall l D cT a_t a_t_now a_t_told a_t_one a_t_other a_t_forth a_t_cost a_t_broken a_t_away a_t_text a_t_worth a_t_choice a_t_thought a_t_before a_t_deep a_t_price a_t_undo a_t_slots a_t_isSaved t_thrown t_length t_textSize t_start t_next t_token t_value t_error t_errorAt t_number t_isFirst t_limitNow t_undos t_now t_told t_one t_other t_broken t_away y5 (((t_now 0) + x1) + 1) u11 hu12) zcX11_canCall zmX11_207 ziX11_canCall (zr rfl rfl) z00 rfl [0, 1, 2, 3, 4, 6, 7] rfl rfl zkX11.1 (qr := 0) rfl rfl (Nat.le_of_ble_eq_true rfl) dX11_waysOf_98 (fun z13 => ?_)
    refine xi_if_eq C (tgt := 134) dX11_waysOf_101 rfl (fun c14 => ?_) (fun c14 => ?_)
    · replace h := (if_pos c14).symm.trans h
      refine xi_iinc C (v := y5 + 1) 5 [1, 2, 3, 4, 5, 0, 6] (L2 := [(0, .ref a_t), (1, .int x1), (2, .int x2), (3, .int x3), (4, .int y4), (5, .int (y5 + 1)), (6, .int y6)]) dX11_waysOf_134 rfl rfl (Nat.le_of_ble_eq_true rfl) rfl ?_
      refine xi_goto C (tgt := 6) dX11_waysOf_137 rfl ?_
      refine xi_drop (L2 := [(0, .ref a_t), (1, .int x1), (2, .int x2), (3, .int x3), (4, .int y4), (5, .int (y5 + 1))]) [0, 1, 2, 3, 4, 5] rfl ?_
      exact hK6 y4 (y5 + 1) h
    · replace h := (if_neg c14).symm.trans h
      refine xi_iload C 4 dX11_waysOf_104 rfl ?_
      refine xi_aload_n C 0 dX11_waysOf_106 rfl ?_
      refine xi_get C zkX11 5 0 zlX11_22 (by decide) rfl rfl dX11_waysOf_107 ?_
      refine xi_iload C 5 dX11_waysOf_110 rfl ?_
      replace h := ig h
      obtain ⟨c15, h⟩ := h
      refine xi_iald C 5 rfl c15 dX11_waysOf_112 ?_
      refine xi_if_ne C (tgt := 121) dX11_waysOf_113 rfl (fun c16 => ?_) (fun c16 => ?_)
      · replace h := (if_neg c16).symm.trans h
        refine xi_iload C 6 dX11_waysOf_121 rfl ?_
        refine xi_if_eq C (tgt := 130) dX11_waysOf_123 rfl (fun c17 => ?_) (fun c17 => ?_)
        · replace h := (if_pos c17).symm.trans h
          refine xi_iconst C (v := 4) dX11_waysOf_130 rfl ?_
          refine xi_drop (L2 := [(0, .ref a_t), (1, .int x1), (2, .int x2), (3, .int x3), (5, .int y5)]) [0, 1, 2, 3, 5] rfl ?_
          exact B131 K6 hK6 y5 4 y4 h
        · replace h := (if_neg c17).symm.trans h
          refine xi_iconst C (v := 2) dX11_waysOf_126 rfl ?_
          refine xi_goto C (tgt := 131) dX11_waysOf_127 rfl ?_
          refine xi_drop (L2 := [(0, .ref a_t), (1, .int x1), (2, .int x2), (3, .int x3), (5, .int y5)]) [0, 1, 2, 3, 5] rfl ?_
          exact B131 K6 hK6 y5 2 y4 h
      · replace h := (if_pos c16).symm.trans h
        refine xi_bipush C (v := 8) dX11_waysOf_116 rfl ?_
        refine xi_goto C (tgt := 131) dX11_waysOf_118 rfl ?_
        refine xi_drop (L2 := [(0, .ref a_t), (1, .int x1), (2, .int x2), (3, .int x3), (5, .int y5)]) [0, 1, 2, 3, 5] rfl ?_
        exact B131 K6 hK6 y5 8 y4 h
  have B73 : ∀ (K6 : Int32 → Int32 → Option Int32) (hK6 : ∀ (y4 : Int32) (y5 : Int32), K6 y4 y5 = some r → sW X l (zR 4) D 8 0 0 6 [(0, .ref a_t), (1, .int x1), (2, .int x2), (3, .int x3), (4, .int y4), (5, .int y5)] [] [(a_t, .inr (11, [.int t_thrown, .ref a_t_now, .ref a_t_told, .ref a_t_one, .ref a_t_other, .ref a_t_forth, .ref a_t_cost, .ref a_t_broken, .ref a_t_away, .ref a_t_text, .int t_length, .int t_textSize, .int t_start, .int t_next, .int t_token, .int t_value, .int t_error, .int t_errorAt, .int t_number, .int t_isFirst, .ref a_t_worth, .ref a_t_choice, .ref a_t_thought, .ref a_t_before, .ref a_t_deep, .int t_limitNow, .ref a_t_price, .int t_undos, .ref a_t_undo, .ref a_t_slots, .ref a_t_isSaved])), (a_t_now, .inl (cT 0, 514, .inl t_now)), (a_t_told, .inl (cT 0, 8, .inl t_told)), (a_t_one, .inl (cT 0, 48, .inl t_one)), (a_t_other, .inl (cT 0, 48, .inl t_other)), (a_t_forth, .inl (cT 0, 48, .inl t_forth)), (a_t_broken, .inl (cT 0, 72, .inl t_broken)), (a_t_away, .inl (cT 0, 72, .inl t_away))]) (y4 : Int32) (y5 : Int32) (y6 : Int32) (s0 : Int32), fX11_waysOf_b73 t_now t_told t_one t_other t_forth t_broken t_away x1 K6 y4 y5 y6 s0 = some r → sW X l (zR 4) D 8 0 0 73 [(0, .ref a_t), (1, .int x1), (2, .int x2), (3, .int x3), (4, .int y4), (5, .int y5), (6, .int y6)] [.int s0] [(a_t, .inr (11, [.int t_thrown, .ref a_t_now, .ref a_t_told, .ref a_t_one, .ref a_t_other, .ref a_t_forth, .ref a_t_cost, .ref a_t_broken, .ref a_t_away, .ref a_t_text, .int t_length, .int t_textSize, .int t_start, .int t_next, .int t_token, .int t_value, .int t_error, .int t_errorAt, .int t_number, .int t_isFirst, .ref a_t_worth, .ref a_t_choice, .ref a_t_thought, .ref a_t_before, .ref a_t_deep, .int t_limitNow, .ref a_t_price, .int t_undos, .ref a_t_undo, .ref a_t_slots, .ref a_t_isSaved])), (a_t_now, .inl (cT 0, 514, .inl t_now)), (a_t_told, .inl (cT 0, 8, .inl t_told)), (a_t_one, .inl (cT 0, 48, .inl t_one)), (a_t_other, .inl (cT 0, 48, .inl t_other)), (a_t_forth, .inl (cT 0, 48, .inl t_forth)), (a_t_broken, .inl (cT 0, 72, .inl t_broken)), (a_t_away, .inl (cT 0, 72, .inl t_away))] := by
    intro K6 hK6 y4 y5 y6 s0 h
    refine xi_istore C [1, 2, 3, 4, 5, 6, 7, 0] (L2 := [(0, .ref a_t), (1, .int x1), (2, .int x2), (3, .int x3), (4, .int y4), (5, .int y5), (6, .int y6), (7, .int s0)]) dX11_waysOf_73 (Nat.le_of_ble_eq_true rfl) rfl ?_
    refine xi_iload C 6 dX11_waysOf_75 rfl ?_
    refine xi_if_ne C (tgt := 85) dX11_waysOf_77 rfl (fun c10 => ?_) (fun c10 => ?_)
    · replace h := (if_neg c10).symm.trans h
      refine xi_drop (L2 := [(0, .ref a_t), (1, .int x1), (2, .int x2), (3, .int x3), (4, .int y4), (5, .int y5), (6, .int y6)]) [0, 1, 2, 3, 4, 5, 6] rfl ?_
      exact B85 K6 hK6 y4 y5 y6 h
    · replace h := (if_pos c10).symm.trans h
      refine xi_iload C 7 dX11_waysOf_80 rfl ?_
      refine xi_if_eq C (tgt := 134) dX11_waysOf_82 rfl (fun c18 => ?_) (fun c18 => ?_)
      · replace h := (if_pos c18).symm.trans h
        refine xi_iinc C (v := y5 + 1) 5 [1, 2, 3, 4, 5, 0, 6, 7] (L2 := [(0, .ref a_t), (1, .int x1), (2, .int x2), (3, .int x3), (4, .int y4), (5, .int (y5 + 1)), (6, .int y6), (7, .int s0)]) dX11_waysOf_134 rfl rfl (Nat.le_of_ble_eq_true rfl) rfl ?_
        refine xi_goto C (tgt := 6) dX11_waysOf_137 rfl ?_
        refine xi_drop (L2 := [(0, .ref a_t), (1, .int x1), (2, .int x2), (3, .int x3), (4, .int y4), (5, .int (y5 + 1))]) [0, 1, 2, 3, 4, 5] rfl ?_
        exact hK6 y4 (y5 + 1) h
      · replace h := (if_neg c18).symm.trans h
        refine xi_drop (L2 := [(0, .ref a_t), (1, .int x1), (2, .int x2), (3, .int x3), (4, .int y4), (5, .int y5), (6, .int y6)]) [0, 1, 2, 3, 4, 5, 6] rfl ?_
        exact B85 K6 hK6 y4 y5 y6 h
  have B72 : ∀ (K6 : Int32 → Int32 → Option Int32) (hK6 : ∀ (y4 : Int32) (y5 : Int32), K6 y4 y5 = some r → sW X l (zR 4) D 8 0 0 6 [(0, .ref a_t), (1, .int x1), (2, .int x2), (3, .int x3), (4, .int y4), (5, .int y5)] [] [(a_t, .inr (11, [.int t_thrown, .ref a_t_now, .ref a_t_told, .ref a_t_one, .ref a_t_other, .ref a_t_forth, .ref a_t_cost, .ref a_t_broken, .ref a_t_away, .ref a_t_text, .int t_length, .int t_textSize, .int t_start, .int t_next, .int t_token, .int t_value, .int t_error, .int t_errorAt, .int t_number, .int t_isFirst, .ref a_t_worth, .ref a_t_choice, .ref a_t_thought, .ref a_t_before, .ref a_t_deep, .int t_limitNow, .ref a_t_price, .int t_undos, .ref a_t_undo, .ref a_t_slots, .ref a_t_isSaved])), (a_t_now, .inl (cT 0, 514, .inl t_now)), (a_t_told, .inl (cT 0, 8, .inl t_told)), (a_t_one, .inl (cT 0, 48, .inl t_one)), (a_t_other, .inl (cT 0, 48, .inl t_other)), (a_t_forth, .inl (cT 0, 48, .inl t_forth)), (a_t_broken, .inl (cT 0, 72, .inl t_broken)), (a_t_away, .inl (cT 0, 72, .inl t_away))]) (y4 : Int32) (y5 : Int32) (y6 : Int32), fX11_waysOf_b72 t_now t_told t_one t_other t_forth t_broken t_away x1 K6 y4 y5 y6 = some r → sW X l (zR 4) D 8 0 0 72 [(0, .ref a_t), (1, .int x1), (2, .int x2), (3, .int x3), (4, .int y4), (5, .int y5), (6, .int y6)] [] [(a_t, .inr (11, [.int t_thrown, .ref a_t_now, .ref a_t_told, .ref a_t_one, .ref a_t_other, .ref a_t_forth, .ref a_t_cost, .ref a_t_broken, .ref a_t_away, .ref a_t_text, .int t_length, .int t_textSize, .int t_start, .int t_next, .int t_token, .int t_value, .int t_error, .int t_errorAt, .int t_number, .int t_isFirst, .ref a_t_worth, .ref a_t_choice, .ref a_t_thought, .ref a_t_before, .ref a_t_deep, .int t_limitNow, .ref a_t_price, .int t_undos, .ref a_t_undo, .ref a_t_slots, .ref a_t_isSaved])), (a_t_now, .inl (cT 0, 514, .inl t_now)), (a_t_told, .inl (cT 0, 8, .inl t_told)), (a_t_one, .inl (cT 0, 48, .inl t_one)), (a_t_other, .inl (cT 0, 48, .inl t_other)), (a_t_forth, .inl (cT 0, 48, .inl t_forth)), (a_t_broken, .inl (cT 0, 72, .inl t_broken)), (a_t_away, .inl (cT 0, 72, .inl t_away))] := by
    intro K6 hK6 y4 y5 y6 h
    refine xi_iconst C (v := 0) dX11_waysOf_72 rfl ?_
    exact B73 K6 hK6 y4 y5 y6 0 h
  have B44 : ∀ (K6 : Int32 → Int32 → Option Int32) (hK6 : ∀ (y4 : Int32) (y5 : Int32), K6 y4 y5 = some r → sW X l (zR 4) D 8 0 0 6 [(0, .ref a_t), (1, .int x1), (2, .int x2), (3, .int x3), (4, .int y4), (5, .int y5)] [] [(a_t, .inr (11, [.int t_thrown, .ref a_t_now, .ref a_t_told, .ref a_t_one, .ref a_t_other, .ref a_t_forth, .ref a_t_cost, .ref a_t_broken, .ref a_t_away, .ref a_t_text, .int t_length, .int t_textSize, .int t_start, .int t_next, .int t_token, .int t_value, .int t_error, .int t_errorAt, .int t_number, .int t_isFirst, .ref a_t_worth, .ref a_t_choice, .ref a_t_thought, .ref a_t_before, .ref a_t_deep, .int t_limitNow, .ref a_t_price, .int t_undos, .ref a_t_undo, .ref a_t_slots, .ref a_t_isSaved])), (a_t_now, .inl (cT 0, 514, .inl t_now)), (a_t_told, .inl (cT 0, 8, .inl t_told)), (a_t_one, .inl (cT 0, 48, .inl t_one)), (a_t_other, .inl (cT 0, 48, .inl t_other)), (a_t_forth, .inl (cT 0, 48, .inl t_forth)), (a_t_broken, .inl (cT 0, 72, .inl t_broken)), (a_t_away, .inl (cT 0, 72, .inl t_away))]) (y4 : Int32) (y5 : Int32) (s0 : Int32), fX11_waysOf_b44 t_now t_told t_one t_other t_forth t_broken t_away x1 x2 x3 K6 y4 y5 s0 = some r → sW X l (zR 4) D 8 0 0 44 [(0, .ref a_t), (1, .int x1), (2, .int x2), (3, .int x3), (4, .int y4), (5, .int y5)] [.int s0] [(a_t, .inr (11, [.int t_thrown, .ref a_t_now, .ref a_t_told, .ref a_t_one, .ref a_t_other, .ref a_t_forth, .ref a_t_cost, .ref a_t_broken, .ref a_t_away, .ref a_t_text, .int t_length, .int t_textSize, .int t_start, .int t_next, .int t_token, .int t_value, .int t_error, .int t_errorAt, .int t_number, .int t_isFirst, .ref a_t_worth, .ref a_t_choice, .ref a_t_thought, .ref a_t_before, .ref a_t_deep, .int t_limitNow, .ref a_t_price, .int t_undos, .ref a_t_undo, .ref a_t_slots, .ref a_t_isSaved])), (a_t_now, .inl (cT 0, 514, .inl t_now)), (a_t_told, .inl (cT 0, 8, .inl t_told)), (a_t_one, .inl (cT 0, 48, .inl t_one)), (a_t_other, .inl (cT 0, 48, .inl t_other)), (a_t_forth, .inl (cT 0, 48, .inl t_forth)), (a_t_broken, .inl (cT 0, 72, .inl t_broken)), (a_t_away, .inl (cT 0, 72, .inl t_away))] := by
    intro K6 hK6 y4 y5 s0 h
    refine xi_istore C [1, 2, 3, 4, 5, 6, 0] (L2 := [(0, .ref a_t), (1, .int x1), (2, .int x2), (3, .int x3), (4, .int y4), (5, .int y5), (6, .int s0)]) dX11_waysOf_44 (Nat.le_of_ble_eq_true rfl) rfl ?_
    refine xi_aload_n C 0 dX11_waysOf_46 rfl ?_
    refine xi_get C zkX11 3 0 zlX11_16 (by decide) rfl rfl dX11_waysOf_47 ?_
    refine xi_iload C 5 dX11_waysOf_50 rfl ?_
    replace h := ig h
    obtain ⟨c8, h⟩ := h
    refine xi_iald C 3 rfl c8 dX11_waysOf_52 ?_
    refine xi_iload_n C 3 dX11_waysOf_53 rfl ?_
    refine xi_icmp_ne C (tgt := 72) dX11_waysOf_54 rfl (fun c9 => ?_) (fun c9 => ?_)
    · replace h := (if_neg c9).symm.trans h
      exact B72 K6 hK6 y4 y5 s0 h
    · replace h := (if_pos c9).symm.trans h
      refine xi_aload_n C 0 dX11_waysOf_57 rfl ?_
      refine xi_get C zkX11 4 0 zlX11_19 (by decide) rfl rfl dX11_waysOf_58 ?_
      refine xi_iload C 5 dX11_waysOf_61 rfl ?_
      refine xi_iald C 4 rfl c8 dX11_waysOf_63 ?_
      refine xi_iload_n C 2 dX11_waysOf_64 rfl ?_
      refine xi_icmp_ne C (tgt := 72) dX11_waysOf_65 rfl (fun c19 => ?_) (fun c19 => ?_)
      · replace h := (if_neg c19).symm.trans h
        exact B72 K6 hK6 y4 y5 s0 h
      · replace h := (if_pos c19).symm.trans h
        refine xi_iconst C (v := 1) dX11_waysOf_68 rfl ?_
        refine xi_goto C (tgt := 73) dX11_waysOf_69 rfl ?_
        exact B73 K6 hK6 y4 y5 s0 1 h
  have B43 : ∀ (K6 : Int32 → Int32 → Option Int32) (hK6 : ∀ (y4 : Int32) (y5 : Int32), K6 y4 y5 = some r → sW X l (zR 4) D 8 0 0 6 [(0, .ref a_t), (1, .int x1), (2, .int x2), (3, .int x3), (4, .int y4), (5, .int y5)] [] [(a_t, .inr (11, [.int t_thrown, .ref a_t_now, .ref a_t_told, .ref a_t_one, .ref a_t_other, .ref a_t_forth, .ref a_t_cost, .ref a_t_broken, .ref a_t_away, .ref a_t_text, .int t_length, .int t_textSize, .int t_start, .int t_next, .int t_token, .int t_value, .int t_error, .int t_errorAt, .int t_number, .int t_isFirst, .ref a_t_worth, .ref a_t_choice, .ref a_t_thought, .ref a_t_before, .ref a_t_deep, .int t_limitNow, .ref a_t_price, .int t_undos, .ref a_t_undo, .ref a_t_slots, .ref a_t_isSaved])), (a_t_now, .inl (cT 0, 514, .inl t_now)), (a_t_told, .inl (cT 0, 8, .inl t_told)), (a_t_one, .inl (cT 0, 48, .inl t_one)), (a_t_other, .inl (cT 0, 48, .inl t_other)), (a_t_forth, .inl (cT 0, 48, .inl t_forth)), (a_t_broken, .inl (cT 0, 72, .inl t_broken)), (a_t_away, .inl (cT 0, 72, .inl t_away))]) (y4 : Int32) (y5 : Int32), fX11_waysOf_b43 t_now t_told t_one t_other t_forth t_broken t_away x1 x2 x3 K6 y4 y5 = some r → sW X l (zR 4) D 8 0 0 43 [(0, .ref a_t), (1, .int x1), (2, .int x2), (3, .int x3), (4, .int y4), (5, .int y5)] [] [(a_t, .inr (11, [.int t_thrown, .ref a_t_now, .ref a_t_told, .ref a_t_one, .ref a_t_other, .ref a_t_forth, .ref a_t_cost, .ref a_t_broken, .ref a_t_away, .ref a_t_text, .int t_length, .int t_textSize, .int t_start, .int t_next, .int t_token, .int t_value, .int t_error, .int t_errorAt, .int t_number, .int t_isFirst, .ref a_t_worth, .ref a_t_choice, .ref a_t_thought, .ref a_t_before, .ref a_t_deep, .int t_limitNow, .ref a_t_price, .int t_undos, .ref a_t_undo, .ref a_t_slots, .ref a_t_isSaved])), (a_t_now, .inl (cT 0, 514, .inl t_now)), (a_t_told, .inl (cT 0, 8, .inl t_told)), (a_t_one, .inl (cT 0, 48, .inl t_one)), (a_t_other, .inl (cT 0, 48, .inl t_other)), (a_t_forth, .inl (cT 0, 48, .inl t_forth)), (a_t_broken, .inl (cT 0, 72, .inl t_broken)), (a_t_away, .inl (cT 0, 72, .inl t_away))] := by
    intro K6 hK6 y4 y5 h
    refine xi_iconst C (v := 0) dX11_waysOf_43 rfl ?_
    exact B44 K6 hK6 y4 y5 0 h
  have B6 : ∀ (n : Nat) (y4 : Int32) (y5 : Int32), fX11_waysOf_b6 t_now t_told t_one t_other t_forth t_broken t_away x1 x2 x3 n y4 y5 = some r → sW X l (zR 4) D 8 0 0 6 [(0, .ref a_t), (1, .int x1), (2, .int x2), (3, .int x3), (4, .int y4), (5, .int y5)] [] [(a_t, .inr (11, [.int t_thrown, .ref a_t_now, .ref a_t_told, .ref a_t_one, .ref a_t_other, .ref a_t_forth, .ref a_t_cost, .ref a_t_broken, .ref a_t_away, .ref a_t_text, .int t_length, .int t_textSize, .int t_start, .int t_next, .int t_token, .int t_value, .int t_error, .int t_errorAt, .int t_number, .int t_isFirst, .ref a_t_worth, .ref a_t_choice, .ref a_t_thought, .ref a_t_before, .ref a_t_deep, .int t_limitNow, .ref a_t_price, .int t_undos, .ref a_t_undo, .ref a_t_slots, .ref a_t_isSaved])), (a_t_now, .inl (cT 0, 514, .inl t_now)), (a_t_told, .inl (cT 0, 8, .inl t_told)), (a_t_one, .inl (cT 0, 48, .inl t_one)), (a_t_other, .inl (cT 0, 48, .inl t_other)), (a_t_forth, .inl (cT 0, 48, .inl t_forth)), (a_t_broken, .inl (cT 0, 72, .inl t_broken)), (a_t_away, .inl (cT 0, 72, .inl t_away))] := by
    intro n
    induction n with
    | zero =>
      intro y4 y5 h
      exact zno ((fX11_waysOf_b6_0 _ _ _ _ _ _ _ _ _ _ _ _).symm.trans h)
    | succ n ih =>
      intro y4 y5 h
      replace h := (fX11_waysOf_b6_s _ _ _ _ _ _ _ _ _ _ _ _ _).symm.trans h
      refine xi_iload C 5 dX11_waysOf_6 rfl ?_
      refine xi_aload_n C 0 dX11_waysOf_8 rfl ?_
      refine xi_get C zkX11 2 0 zlX11_13 (by decide) rfl rfl dX11_waysOf_9 ?_
      refine xi_iconst C (v := 1) dX11_waysOf_12 rfl ?_
      refine xi_iald C 2 rfl (zv (by decide)) dX11_waysOf_13 ?_
      refine xi_icmp_ge C (tgt := 140) dX11_waysOf_14 rfl (fun c1 => ?_) (fun c1 => ?_)
      · replace h := (if_pos c1).symm.trans h
        refine xi_drop (L2 := [(4, .int y4)]) [4] rfl ?_
        exact B140 y4 h
      · replace h := (if_neg c1).symm.trans h
        refine xi_aload_n C 0 dX11_waysOf_17 rfl ?_
        refine xi_get C zkX11 3 0 zlX11_16 (by decide) rfl rfl dX11_waysOf_18 ?_
        refine xi_iload C 5 dX11_waysOf_21 rfl ?_
        replace h := ig h
        obtain ⟨c6, h⟩ := h
        refine xi_iald C 3 rfl c6 dX11_waysOf_23 ?_
        refine xi_iload_n C 2 dX11_waysOf_24 rfl ?_
        refine xi_icmp_ne C (tgt := 43) dX11_waysOf_25 rfl (fun c7 => ?_) (fun c7 => ?_)
        · replace h := (if_neg c7).symm.trans h
          exact B43 (fX11_waysOf_b6 t_now t_told t_one t_other t_forth t_broken t_away x1 x2 x3 n) ih y4 y5 h
        · replace h := (if_pos c7).symm.trans h
          refine xi_aload_n C 0 dX11_waysOf_28 rfl ?_
          refine xi_get C zkX11 4 0 zlX11_19 (by decide) rfl rfl dX11_waysOf_29 ?_
          refine xi_iload C 5 dX11_waysOf_32 rfl ?_
          refine xi_iald C 4 rfl c6 dX11_waysOf_34 ?_
          refine xi_iload_n C 3 dX11_waysOf_35 rfl ?_
          refine xi_icmp_ne C (tgt := 43) dX11_waysOf_36 rfl (fun c20 => ?_) (fun c20 => ?_)
          · replace h := (if_neg c20).symm.trans h
            exact B43 (fX11_waysOf_b6 t_now t_told t_one t_other t_forth t_broken t_away x1 x2 x3 n) ih y4 y5 h
          · replace h := (if_pos c20).symm.trans h
            refine xi_iconst C (v := 1) dX11_waysOf_39 rfl ?_
            refine xi_goto C (tgt := 44) dX11_waysOf_40 rfl ?_
            exact B44 (fX11_waysOf_b6 t_now t_told t_one t_other t_forth t_broken t_away x1 x2 x3 n) ih y4 y5 1 h
  refine xi_drop (L2 := [(0, .ref a_t), (1, .int x1), (2, .int x2), (3, .int x3)]) [0, 1, 2, 3] rfl ?_
  refine xi_iconst C (v := 0) dX11_waysOf_0 rfl ?_
  refine xi_istore C [1, 2, 3, 4, 0] (L2 := [(0, .ref a_t), (1, .int x1), (2, .int x2), (3, .int x3), (4, .int 0)]) dX11_waysOf_1 (Nat.le_of_ble_eq_true rfl) rfl ?_
  refine xi_iconst C (v := 0) dX11_waysOf_3 rfl ?_
  refine xi_istore C [1, 2, 3, 4, 5, 0] (L2 := [(0, .ref a_t), (1, .int x1), (2, .int x2), (3, .int x3), (4, .int 0), (5, .int 0)]) dX11_waysOf_4 (Nat.le_of_ble_eq_true rfl) rfl ?_
  exact B6 FU 0 0 h
def fX11_isIdle_b17 (t_now : Nat → Int32) (t_told : Nat → Int32) (t_one : Nat → Int32) (t_other : Nat → Int32) (t_forth : Nat → Int32) (t_broken : Nat → Int32) (t_away : Nat → Int32) (x1 : Int32) (x2 : Int32) (K2 : Int32 → Option Int32) : Nat → Int32 → Int32 → Option Int32
  | 0, _, _ => none
  | n + 1, y3, y4 => if (t_told 0) ≤ y4 then K2 (y3 + 1) else if (fX11_isIn x2 y3) = 0 then K2 (y3 + 1) else if (fX11_isIn x2 y4) = 0 then (fX11_isIdle_b17 t_now t_told t_one t_other t_forth t_broken t_away x1 x2 K2 n) y3 (y4 + 1) else (fX11_waysOf t_now t_told t_one t_other t_forth t_broken t_away x1 y3 y4).bind (fun u11 => if u11 = 0 then (fX11_isIdle_b17 t_now t_told t_one t_other t_forth t_broken t_away x1 x2 K2 n) y3 (y4 + 1) else some (1 : Int32))
theorem fX11_isIdle_b17_0 (t_now : Nat → Int32) (t_told : Nat → Int32) (t_one : Nat → Int32) (t_other : Nat → Int32) (t_forth : Nat → Int32) (t_broken : Nat → Int32) (t_away : Nat → Int32) (x1 : Int32) (x2 : Int32) (K2 : Int32 → Option Int32) (y3 : Int32) (y4 : Int32) : fX11_isIdle_b17 t_now t_told t_one t_other t_forth t_broken t_away x1 x2 K2 0 y3 y4 = none := rfl
theorem fX11_isIdle_b17_s (t_now : Nat → Int32) (t_told : Nat → Int32) (t_one : Nat → Int32) (t_other : Nat → Int32) (t_forth : Nat → Int32) (t_broken : Nat → Int32) (t_away : Nat → Int32) (x1 : Int32) (x2 : Int32) (K2 : Int32 → Option Int32) (n : Nat) (y3 : Int32) (y4 : Int32) : fX11_isIdle_b17 t_now t_told t_one t_other t_forth t_broken t_away x1 x2 K2 (n + 1) y3 y4 = (if (t_told 0) ≤ y4 then K2 (y3 + 1) else if (fX11_isIn x2 y3) = 0 then K2 (y3 + 1) else if (fX11_isIn x2 y4) = 0 then (fX11_isIdle_b17 t_now t_told t_one t_other t_forth t_broken t_away x1 x2 K2 n) y3 (y4 + 1) else (fX11_waysOf t_now t_told t_one t_other t_forth t_broken t_away x1 y3 y4).bind (fun u11 => if u11 = 0 then (fX11_isIdle_b17 t_now t_told t_one t_other t_forth t_broken t_away x1 x2 K2 n) y3 (y4 + 1) else some (1 : Int32))) := rfl
def fX11_isIdle_b2 (t_now : Nat → Int32) (t_told : Nat → Int32) (t_one : Nat → Int32) (t_other : Nat → Int32) (t_forth : Nat → Int32) (t_broken : Nat → Int32) (t_away : Nat → Int32) (x1 : Int32) (x2 : Int32) : Nat → Int32 → Option Int32
  | 0, _ => none
  | n + 1, y3 => if (t_told 0) ≤ y3 then some (0 : Int32) else fX11_isIdle_b17 t_now t_told t_one t_other t_forth t_broken t_away x1 x2 (fX11_isIdle_b2 t_now t_told t_one t_other t_forth t_broken t_away x1 x2 n) FU y3 (y3 + 1)
theorem fX11_isIdle_b2_0 (t_now : Nat → Int32) (t_told : Nat → Int32) (t_one : Nat → Int32) (t_other : Nat → Int32) (t_forth : Nat → Int32) (t_broken : Nat → Int32) (t_away : Nat → Int32) (x1 : Int32) (x2 : Int32) (y3 : Int32) : fX11_isIdle_b2 t_now t_told t_one t_other t_forth t_broken t_away x1 x2 0 y3 = none := rfl
theorem fX11_isIdle_b2_s (t_now : Nat → Int32) (t_told : Nat → Int32) (t_one : Nat → Int32) (t_other : Nat → Int32) (t_forth : Nat → Int32) (t_broken : Nat → Int32) (t_away : Nat → Int32) (x1 : Int32) (x2 : Int32) (n : Nat) (y3 : Int32) : fX11_isIdle_b2 t_now t_told t_one t_other t_forth t_broken t_away x1 x2 (n + 1) y3 = (if (t_told 0) ≤ y3 then some (0 : Int32) else fX11_isIdle_b17 t_now t_told t_one t_other t_forth t_broken t_away x1 x2 (fX11_isIdle_b2 t_now t_told t_one t_other t_forth t_broken t_away x1 x2 n) FU y3 (y3 + 1)) := rfl
def fX11_isIdle (t_now : Nat → Int32) (t_told : Nat → Int32) (t_one : Nat → Int32) (t_other : Nat → Int32) (t_forth : Nat → Int32) (t_broken : Nat → Int32) (t_away : Nat → Int32) (x1 : Int32) (x2 : Int32) : Option Int32 := fX11_isIdle_b2 t_now t_told t_one t_other t_forth t_broken t_away x1 x2 FU 0
set_option maxRecDepth 100000 in
set_option maxHeartbeats 4000000 in
theorem kX11_isIdle (l : Launch) (D : va_G) (cT : Nat → ClassId) (a_t : Nat) (a_t_now : Nat) (a_t_told : Nat) (a_t_one : Nat) (a_t_other : Nat) (a_t_forth : Nat) (a_t_cost : Nat) (a_t_broken : Nat) (a_t_away : Nat) (a_t_text : Nat) (a_t_worth : Nat) (a_t_choice : Nat) (a_t_thought : Nat) (a_t_before : Nat) (a_t_deep : Nat) (a_t_price : Nat) (a_t_undo : Nat) (a_t_slots : Nat) (a_t_isSaved : Nat) (t_thrown : Int32) (t_length : Int32) (t_textSize : Int32) (t_start : Int32) (t_next : Int32) (t_token : Int32) (t_value : Int32) (t_error : Int32) (t_errorAt : Int32) (t_number : Int32) (t_isFirst : Int32) (t_limitNow : Int32) (t_undos : Int32) (t_now : Nat → Int32) (t_told : Nat → Int32) (t_one : Nat → Int32) (t_other : Nat → Int32) (t_forth : Nat → Int32) (t_broken : Nat → Int32) (t_away : Nat → Int32) (x1 : Int32) (x2 : Int32) (r : Int32) (h : fX11_isIdle t_now t_told t_one t_other t_forth t_broken t_away x1 x2 = some r) : sM l yX11_isIdle cX11_isIdle 5 (some .boolean) (zR 5) D cT [.ref a_t, .int x1, .int x2] [(a_t, .inr (11, [.int t_thrown, .ref a_t_now, .ref a_t_told, .ref a_t_one, .ref a_t_other, .ref a_t_forth, .ref a_t_cost, .ref a_t_broken, .ref a_t_away, .ref a_t_text, .int t_length, .int t_textSize, .int t_start, .int t_next, .int t_token, .int t_value, .int t_error, .int t_errorAt, .int t_number, .int t_isFirst, .ref a_t_worth, .ref a_t_choice, .ref a_t_thought, .ref a_t_before, .ref a_t_deep, .int t_limitNow, .ref a_t_price, .int t_undos, .ref a_t_undo, .ref a_t_slots, .ref a_t_isSaved])), (a_t_now, .inl (cT 0, 514, .inl t_now)), (a_t_told, .inl (cT 0, 8, .inl t_told)), (a_t_one, .inl (cT 0, 48, .inl t_one)), (a_t_other, .inl (cT 0, 48, .inl t_other)), (a_t_forth, .inl (cT 0, 48, .inl t_forth)), (a_t_broken, .inl (cT 0, 72, .inl t_broken)), (a_t_away, .inl (cT 0, 72, .inl t_away))] (some (.int r)) [(a_t, .inr (11, [.int t_thrown, .ref a_t_now, .ref a_t_told, .ref a_t_one, .ref a_t_other, .ref a_t_forth, .ref a_t_cost, .ref a_t_broken, .ref a_t_away, .ref a_t_text, .int t_length, .int t_textSize, .int t_start, .int t_next, .int t_token, .int t_value, .int t_error, .int t_errorAt, .int t_number, .int t_isFirst, .ref a_t_worth, .ref a_t_choice, .ref a_t_thought, .ref a_t_before, .ref a_t_deep, .int t_limitNow, .ref a_t_price, .int t_undos, .ref a_t_undo, .ref a_t_slots, .ref a_t_isSaved])), (a_t_now, .inl (cT 0, 514, .inl t_now)), (a_t_told, .inl (cT 0, 8, .inl t_told)), (a_t_one, .inl (cT 0, 48, .inl t_one)), (a_t_other, .inl (cT 0, 48, .inl t_other)), (a_t_forth, .inl (cT 0, 48, .inl t_forth)), (a_t_broken, .inl (cT 0, 72, .inl t_broken)), (a_t_away, .inl (cT 0, 72, .inl t_away))] := by
  refine sM_bool rfl (Nat.le_of_ble_eq_true rfl) ?_
  intro X C hE
  have B17 : ∀ (K2 : Int32 → Option Int32) (hK2 : ∀ (y3 : Int32), K2 y3 = some r → sW X l (zR 5) D 5 0 0 2 [(0, .ref a_t), (1, .int x1), (2, .int x2), (3, .int y3)] [] [(a_t, .inr (11, [.int t_thrown, .ref a_t_now, .ref a_t_told, .ref a_t_one, .ref a_t_other, .ref a_t_forth, .ref a_t_cost, .ref a_t_broken, .ref a_t_away, .ref a_t_text, .int t_length, .int t_textSize, .int t_start, .int t_next, .int t_token, .int t_value, .int t_error, .int t_errorAt, .int t_number, .int t_isFirst, .ref a_t_worth, .ref a_t_choice, .ref a_t_thought, .ref a_t_before, .ref a_t_deep, .int t_limitNow, .ref a_t_price, .int t_undos, .ref a_t_undo, .ref a_t_slots, .ref a_t_isSaved])), (a_t_now, .inl (cT 0, 514, .inl t_now)), (a_t_told, .inl (cT 0, 8, .inl t_told)), (a_t_one, .inl (cT 0, 48, .inl t_one)), (a_t_other, .inl (cT 0, 48, .inl t_other)), (a_t_forth, .inl (cT 0, 48, .inl t_forth)), (a_t_broken, .inl (cT 0, 72, .inl t_broken)), (a_t_away, .inl (cT 0, 72, .inl t_away))]) (n : Nat) (y3 : Int32) (y4 : Int32), fX11_isIdle_b17 t_now t_told t_one t_other t_forth t_broken t_away x1 x2 K2 n y3 y4 = some r → sW X l (zR 5) D 5 0 0 17 [(0, .ref a_t), (1, .int x1), (2, .int x2), (3, .int y3), (4, .int y4)] [] [(a_t, .inr (11, [.int t_thrown, .ref a_t_now, .ref a_t_told, .ref a_t_one, .ref a_t_other, .ref a_t_forth, .ref a_t_cost, .ref a_t_broken, .ref a_t_away, .ref a_t_text, .int t_length, .int t_textSize, .int t_start, .int t_next, .int t_token, .int t_value, .int t_error, .int t_errorAt, .int t_number, .int t_isFirst, .ref a_t_worth, .ref a_t_choice, .ref a_t_thought, .ref a_t_before, .ref a_t_deep, .int t_limitNow, .ref a_t_price, .int t_undos, .ref a_t_undo, .ref a_t_slots, .ref a_t_isSaved])), (a_t_now, .inl (cT 0, 514, .inl t_now)), (a_t_told, .inl (cT 0, 8, .inl t_told)), (a_t_one, .inl (cT 0, 48, .inl t_one)), (a_t_other, .inl (cT 0, 48, .inl t_other)), (a_t_forth, .inl (cT 0, 48, .inl t_forth)), (a_t_broken, .inl (cT 0, 72, .inl t_broken)), (a_t_away, .inl (cT 0, 72, .inl t_away))] := by
    intro K2 hK2 n
    induction n with
    | zero =>
      intro y3 y4 h
      exact zno ((fX11_isIdle_b17_0 _ _ _ _ _ _ _ _ _ _ _ _).symm.trans h)
    | succ n ih =>
      intro y3 y4 h
      replace h := (fX11_isIdle_b17_s _ _ _ _ _ _ _ _ _ _ _ _ _).symm.trans h
      refine xi_iload C 4 dX11_isIdle_17 rfl ?_
      refine xi_aload_n C 0 dX11_isIdle_19 rfl ?_
      refine xi_get C zkX11 2 0 zlX11_13 (by decide) rfl rfl dX11_isIdle_20 ?_
      refine xi_iconst C (v := 0) dX11_isIdle_23 rfl ?_
      refine xi_iald C 2 rfl (zv (by decide)) dX11_isIdle_24 ?_
      refine xi_icmp_ge C (tgt := 64) dX11_isIdle_25 rfl (fun c2 => ?_) (fun c2 => ?_)
      · replace h := (if_pos c2).symm.trans h
        refine xi_iinc C (v := y3 + 1) 3 [1, 2, 3, 0, 4] (L2 := [(0, .ref a_t), (1, .int x1), (2, .int x2), (3, .int (y3 + 1)), (4, .int y4)]) dX11_isIdle_64 rfl rfl (Nat.le_of_ble_eq_true rfl) rfl ?_
        refine xi_goto C (tgt := 2) dX11_isIdle_67 rfl ?_
        refine xi_drop (L2 := [(0, .ref a_t), (1, .int x1), (2, .int x2), (3, .int (y3 + 1))]) [0, 1, 2, 3] rfl ?_
        exact hK2 (y3 + 1) h
      · replace h := (if_neg c2).symm.trans h
        refine xi_iload_n C 2 dX11_isIdle_28 rfl ?_
        refine xi_iload_n C 3 dX11_isIdle_29 rfl ?_
        refine xi_callSr C (kX11_isIn l D cT x2 y3 (fX11_isIn x2 y3) rfl) zcX11_isIn zmX11_201 zsX11_isIn (zr rfl rfl) z00 rfl [] rfl rfl rfl (Nat.le_of_ble_eq_true rfl) dX11_isIdle_30 (fun z5 => ?_)
        refine xi_if_eq C (tgt := 64) dX11_isIdle_33 rfl (fun c6 => ?_) (fun c6 => ?_)
        · replace h := (if_pos c6).symm.trans h
          refine xi_iinc C (v := y3 + 1) 3 [1, 2, 3, 0, 4] (L2 := [(0, .ref a_t), (1, .int x1), (2, .int x2), (3, .int (y3 + 1)), (4, .int y4)]) dX11_isIdle_64 rfl rfl (Nat.le_of_ble_eq_true rfl) rfl ?_
          refine xi_goto C (tgt := 2) dX11_isIdle_67 rfl ?_
          refine xi_drop (L2 := [(0, .ref a_t), (1, .int x1), (2, .int x2), (3, .int (y3 + 1))]) [0, 1, 2, 3] rfl ?_
          exact hK2 (y3 + 1) h
        · replace h := (if_neg c6).symm.trans h
          refine xi_iload_n C 2 dX11_isIdle_36 rfl ?_
          refine xi_iload C 4 dX11_isIdle_37 rfl ?_
          refine xi_callSr C (kX11_isIn l D cT x2 y4 (fX11_isIn x2 y4) rfl) zcX11_isIn zmX11_201 zsX11_isIn (zr rfl rfl) z00 rfl [] rfl rfl rfl (Nat.le_of_ble_eq_true rfl) dX11_isIdle_39 (fun z9 => ?_)
          refine xi_if_eq C (tgt := 58) dX11_isIdle_42 rfl (fun c10 => ?_) (fun c10 => ?_)
          · replace h := (if_pos c10).symm.trans h
            refine xi_iinc C (v := y4 + 1) 4 [1, 2, 3, 4, 0] (L2 := [(0, .ref a_t), (1, .int x1), (2, .int x2), (3, .int y3), (4, .int (y4 + 1))]) dX11_isIdle_58 rfl rfl (Nat.le_of_ble_eq_true rfl) rfl ?_
            refine xi_goto C (tgt := 17) dX11_isIdle_61 rfl ?_
            exact ih y3 (y4 + 1) h
          · replace h := (if_neg c10).symm.trans h
            refine xi_aload_n C 0 dX11_isIdle_45 rfl ?_
            refine xi_iload_n C 1 dX11_isIdle_46 rfl ?_
            refine xi_iload_n C 3 dX11_isIdle_47 rfl ?_
            refine xi_iload C 4 dX11_isIdle_48 rfl ?_
            replace h := ob h
            obtain ⟨u11, hu12, h⟩ := h
            refine xi_callVr C (kX11_waysOf l D cT a_t a_t_now a_t_told a_t_one a_t_other a_t_forth a_t_cost a_t_broken a_t_away a_t_text a_t_worth a_t_choice a_t_thought a_t_before a_t_deep a_t_price a_t_undo a_t_slots a_t_isSaved t_thrown t_length t_textSize t_start t_next t_token t_value t_error t_errorAt t_number t_isFirst t_limitNow t_undos t_now t_told t_one t_other t_forth t_broken t_away x1 y3 y4 u11 hu12) zcX11_waysOf zmX11_270 ziX11_waysOf (zr rfl rfl) z00 rfl [0, 1, 2, 3, 4, 5, 6, 7] rfl rfl zkX11.1 (qr := 0) rfl rfl (Nat.le_of_ble_eq_true rfl) dX11_isIdle_50 (fun z13 => ?_)
            refine xi_if_eq C (tgt := 58) dX11_isIdle_53 rfl (fun c14 => ?_) (fun c14 => ?_)
            · replace h := (if_pos c14).symm.trans h
              refine xi_iinc C (v := y4 + 1) 4 [1, 2, 3, 4, 0] (L2 := [(0, .ref a_t), (1, .int x1), (2, .int x2), (3, .int y3), (4, .int (y4 + 1))]) dX11_isIdle_58 rfl rfl (Nat.le_of_ble_eq_true rfl) rfl ?_
              refine xi_goto C (tgt := 17) dX11_isIdle_61 rfl ?_
              exact ih y3 (y4 + 1) h
            · replace h := (if_neg c14).symm.trans h
              refine xi_iconst C (v := 1) dX11_isIdle_56 rfl ?_
              obtain rfl := Option.some.inj h
              exact hE _ _ _ dX11_isIdle_57 rfl rfl
  have B2 : ∀ (n : Nat) (y3 : Int32), fX11_isIdle_b2 t_now t_told t_one t_other t_forth t_broken t_away x1 x2 n y3 = some r → sW X l (zR 5) D 5 0 0 2 [(0, .ref a_t), (1, .int x1), (2, .int x2), (3, .int y3)] [] [(a_t, .inr (11, [.int t_thrown, .ref a_t_now, .ref a_t_told, .ref a_t_one, .ref a_t_other, .ref a_t_forth, .ref a_t_cost, .ref a_t_broken, .ref a_t_away, .ref a_t_text, .int t_length, .int t_textSize, .int t_start, .int t_next, .int t_token, .int t_value, .int t_error, .int t_errorAt, .int t_number, .int t_isFirst, .ref a_t_worth, .ref a_t_choice, .ref a_t_thought, .ref a_t_before, .ref a_t_deep, .int t_limitNow, .ref a_t_price, .int t_undos, .ref a_t_undo, .ref a_t_slots, .ref a_t_isSaved])), (a_t_now, .inl (cT 0, 514, .inl t_now)), (a_t_told, .inl (cT 0, 8, .inl t_told)), (a_t_one, .inl (cT 0, 48, .inl t_one)), (a_t_other, .inl (cT 0, 48, .inl t_other)), (a_t_forth, .inl (cT 0, 48, .inl t_forth)), (a_t_broken, .inl (cT 0, 72, .inl t_broken)), (a_t_away, .inl (cT 0, 72, .inl t_away))] := by
    intro n
    induction n with
    | zero =>
      intro y3 h
      exact zno ((fX11_isIdle_b2_0 _ _ _ _ _ _ _ _ _ _).symm.trans h)
    | succ n ih =>
      intro y3 h
      replace h := (fX11_isIdle_b2_s _ _ _ _ _ _ _ _ _ _ _).symm.trans h
      refine xi_iload_n C 3 dX11_isIdle_2 rfl ?_
      refine xi_aload_n C 0 dX11_isIdle_3 rfl ?_
      refine xi_get C zkX11 2 0 zlX11_13 (by decide) rfl rfl dX11_isIdle_4 ?_
      refine xi_iconst C (v := 0) dX11_isIdle_7 rfl ?_
      refine xi_iald C 2 rfl (zv (by decide)) dX11_isIdle_8 ?_
      refine xi_icmp_ge C (tgt := 70) dX11_isIdle_9 rfl (fun c1 => ?_) (fun c1 => ?_)
      · replace h := (if_pos c1).symm.trans h
        refine xi_iconst C (v := 0) dX11_isIdle_70 rfl ?_
        obtain rfl := Option.some.inj h
        exact hE _ _ _ dX11_isIdle_71 rfl rfl
      · replace h := (if_neg c1).symm.trans h
        refine xi_iload_n C 3 dX11_isIdle_12 rfl ?_
        refine xi_iconst C (v := 1) dX11_isIdle_13 rfl ?_
        refine xi_iadd C dX11_isIdle_14 ?_
        refine xi_istore C [1, 2, 3, 4, 0] (L2 := [(0, .ref a_t), (1, .int x1), (2, .int x2), (3, .int y3), (4, .int (y3 + 1))]) dX11_isIdle_15 (Nat.le_of_ble_eq_true rfl) rfl ?_
        exact B17 (fX11_isIdle_b2 t_now t_told t_one t_other t_forth t_broken t_away x1 x2 n) ih FU y3 (y3 + 1) h
  refine xi_drop (L2 := [(0, .ref a_t), (1, .int x1), (2, .int x2)]) [0, 1, 2] rfl ?_
  refine xi_iconst C (v := 0) dX11_isIdle_0 rfl ?_
  refine xi_istore_n C [1, 2, 3, 0] (L2 := [(0, .ref a_t), (1, .int x1), (2, .int x2), (3, .int 0)]) dX11_isIdle_1 (Nat.le_of_ble_eq_true rfl) rfl ?_
  exact B2 FU 0 h
def fX11_isEnough_b2 (t_told : Nat → Int32) (t_deep : Nat → Int32) (x1 : Int32) : Nat → Int32 → Option Int32
  | 0, _ => none
  | n + 1, y2 => if (t_told 0) ≤ y2 then some (1 : Int32) else gd ((6 * x1) + y2) 36 ((fX11_all t_told).bind (fun u3 => if (t_deep ((6 * x1) + y2).toNatClampNeg) = u3 then (fX11_isEnough_b2 t_told t_deep x1 n) (y2 + 1) else some (0 : Int32)))
theorem fX11_isEnough_b2_0 (t_told : Nat → Int32) (t_deep : Nat → Int32) (x1 : Int32) (y2 : Int32) : fX11_isEnough_b2 t_told t_deep x1 0 y2 = none := rfl
theorem fX11_isEnough_b2_s (t_told : Nat → Int32) (t_deep : Nat → Int32) (x1 : Int32) (n : Nat) (y2 : Int32) : fX11_isEnough_b2 t_told t_deep x1 (n + 1) y2 = (if (t_told 0) ≤ y2 then some (1 : Int32) else gd ((6 * x1) + y2) 36 ((fX11_all t_told).bind (fun u3 => if (t_deep ((6 * x1) + y2).toNatClampNeg) = u3 then (fX11_isEnough_b2 t_told t_deep x1 n) (y2 + 1) else some (0 : Int32)))) := rfl
def fX11_isEnough (t_told : Nat → Int32) (t_deep : Nat → Int32) (x1 : Int32) : Option Int32 := fX11_isEnough_b2 t_told t_deep x1 FU 0
set_option maxRecDepth 100000 in
set_option maxHeartbeats 4000000 in
theorem kX11_isEnough (l : Launch) (D : va_G) (cT : Nat → ClassId) (a_t : Nat) (a_t_now : Nat) (a_t_told : Nat) (a_t_one : Nat) (a_t_other : Nat) (a_t_forth : Nat) (a_t_cost : Nat) (a_t_broken : Nat) (a_t_away : Nat) (a_t_text : Nat) (a_t_worth : Nat) (a_t_choice : Nat) (a_t_thought : Nat) (a_t_before : Nat) (a_t_deep : Nat) (a_t_price : Nat) (a_t_undo : Nat) (a_t_slots : Nat) (a_t_isSaved : Nat) (t_thrown : Int32) (t_length : Int32) (t_textSize : Int32) (t_start : Int32) (t_next : Int32) (t_token : Int32) (t_value : Int32) (t_error : Int32) (t_errorAt : Int32) (t_number : Int32) (t_isFirst : Int32) (t_limitNow : Int32) (t_undos : Int32) (t_told : Nat → Int32) (t_deep : Nat → Int32) (x1 : Int32) (r : Int32) (h : fX11_isEnough t_told t_deep x1 = some r) : sM l yX11_isEnough cX11_isEnough 3 (some .boolean) (zR 2) D cT [.ref a_t, .int x1] [(a_t, .inr (11, [.int t_thrown, .ref a_t_now, .ref a_t_told, .ref a_t_one, .ref a_t_other, .ref a_t_forth, .ref a_t_cost, .ref a_t_broken, .ref a_t_away, .ref a_t_text, .int t_length, .int t_textSize, .int t_start, .int t_next, .int t_token, .int t_value, .int t_error, .int t_errorAt, .int t_number, .int t_isFirst, .ref a_t_worth, .ref a_t_choice, .ref a_t_thought, .ref a_t_before, .ref a_t_deep, .int t_limitNow, .ref a_t_price, .int t_undos, .ref a_t_undo, .ref a_t_slots, .ref a_t_isSaved])), (a_t_told, .inl (cT 0, 8, .inl t_told)), (a_t_deep, .inl (cT 0, 36, .inl t_deep))] (some (.int r)) [(a_t, .inr (11, [.int t_thrown, .ref a_t_now, .ref a_t_told, .ref a_t_one, .ref a_t_other, .ref a_t_forth, .ref a_t_cost, .ref a_t_broken, .ref a_t_away, .ref a_t_text, .int t_length, .int t_textSize, .int t_start, .int t_next, .int t_token, .int t_value, .int t_error, .int t_errorAt, .int t_number, .int t_isFirst, .ref a_t_worth, .ref a_t_choice, .ref a_t_thought, .ref a_t_before, .ref a_t_deep, .int t_limitNow, .ref a_t_price, .int t_undos, .ref a_t_undo, .ref a_t_slots, .ref a_t_isSaved])), (a_t_told, .inl (cT 0, 8, .inl t_told)), (a_t_deep, .inl (cT 0, 36, .inl t_deep))] := by
  refine sM_bool rfl (Nat.le_of_ble_eq_true rfl) ?_
  intro X C hE
  have B2 : ∀ (n : Nat) (y2 : Int32), fX11_isEnough_b2 t_told t_deep x1 n y2 = some r → sW X l (zR 2) D 3 0 0 2 [(0, .ref a_t), (1, .int x1), (2, .int y2)] [] [(a_t, .inr (11, [.int t_thrown, .ref a_t_now, .ref a_t_told, .ref a_t_one, .ref a_t_other, .ref a_t_forth, .ref a_t_cost, .ref a_t_broken, .ref a_t_away, .ref a_t_text, .int t_length, .int t_textSize, .int t_start, .int t_next, .int t_token, .int t_value, .int t_error, .int t_errorAt, .int t_number, .int t_isFirst, .ref a_t_worth, .ref a_t_choice, .ref a_t_thought, .ref a_t_before, .ref a_t_deep, .int t_limitNow, .ref a_t_price, .int t_undos, .ref a_t_undo, .ref a_t_slots, .ref a_t_isSaved])), (a_t_told, .inl (cT 0, 8, .inl t_told)), (a_t_deep, .inl (cT 0, 36, .inl t_deep))] := by
    intro n
    induction n with
    | zero =>
      intro y2 h
      exact zno ((fX11_isEnough_b2_0 _ _ _ _).symm.trans h)
    | succ n ih =>
      intro y2 h
      replace h := (fX11_isEnough_b2_s _ _ _ _ _).symm.trans h
      refine xi_iload_n C 2 dX11_isEnough_2 rfl ?_
      refine xi_aload_n C 0 dX11_isEnough_3 rfl ?_
      refine xi_get C zkX11 2 0 zlX11_13 (by decide) rfl rfl dX11_isEnough_4 ?_
      refine xi_iconst C (v := 0) dX11_isEnough_7 rfl ?_
      refine xi_iald C 1 rfl (zv (by decide)) dX11_isEnough_8 ?_
      refine xi_icmp_ge C (tgt := 38) dX11_isEnough_9 rfl (fun c1 => ?_) (fun c1 => ?_)
      · replace h := (if_pos c1).symm.trans h
        refine xi_iconst C (v := 1) dX11_isEnough_38 rfl ?_
        obtain rfl := Option.some.inj h
        exact hE _ _ _ dX11_isEnough_39 rfl rfl
      · replace h := (if_neg c1).symm.trans h
        refine xi_aload_n C 0 dX11_isEnough_12 rfl ?_
        refine xi_get C zkX11 24 0 zlX11_55 (by decide) rfl rfl dX11_isEnough_13 ?_
        refine xi_bipush C (v := 6) dX11_isEnough_16 rfl ?_
        refine xi_iload_n C 1 dX11_isEnough_18 rfl ?_
        refine xi_imul C dX11_isEnough_19 ?_
        refine xi_iload_n C 2 dX11_isEnough_20 rfl ?_
        refine xi_iadd C dX11_isEnough_21 ?_
        replace h := ig h
        obtain ⟨c2, h⟩ := h
        refine xi_iald C 2 rfl c2 dX11_isEnough_22 ?_
        refine xi_aload_n C 0 dX11_isEnough_23 rfl ?_
        replace h := ob h
        obtain ⟨u3, hu4, h⟩ := h
        refine xi_callVr C (kX11_all l D cT a_t a_t_now a_t_told a_t_one a_t_other a_t_forth a_t_cost a_t_broken a_t_away a_t_text a_t_worth a_t_choice a_t_thought a_t_before a_t_deep a_t_price a_t_undo a_t_slots a_t_isSaved t_thrown t_length t_textSize t_start t_next t_token t_value t_error t_errorAt t_number t_isFirst t_limitNow t_undos t_told u3 hu4) zcX11_all zmX11_231 ziX11_all (zr rfl rfl) z00 rfl [0, 1] rfl rfl zkX11.1 (qr := 0) rfl rfl (Nat.le_of_ble_eq_true rfl) dX11_isEnough_24 (fun z5 => ?_)
        refine xi_icmp_eq C (tgt := 32) dX11_isEnough_27 rfl (fun c6 => ?_) (fun c6 => ?_)
        · replace h := (if_pos c6).symm.trans h
          refine xi_iinc C (v := y2 + 1) 2 [1, 2, 0] (L2 := [(0, .ref a_t), (1, .int x1), (2, .int (y2 + 1))]) dX11_isEnough_32 rfl rfl (Nat.le_of_ble_eq_true rfl) rfl ?_
          refine xi_goto C (tgt := 2) dX11_isEnough_35 rfl ?_
          exact ih (y2 + 1) h
        · replace h := (if_neg c6).symm.trans h
          refine xi_iconst C (v := 0) dX11_isEnough_30 rfl ?_
          obtain rfl := Option.some.inj h
          exact hE _ _ _ dX11_isEnough_31 rfl rfl
  refine xi_drop (L2 := [(0, .ref a_t), (1, .int x1)]) [0, 1] rfl ?_
  refine xi_iconst C (v := 0) dX11_isEnough_0 rfl ?_
  refine xi_istore_n C [1, 2, 0] (L2 := [(0, .ref a_t), (1, .int x1), (2, .int 0)]) dX11_isEnough_1 (Nat.le_of_ble_eq_true rfl) rfl ?_
  exact B2 FU 0 h
def fX11_canBe_b9 (t_told : Nat → Int32) (t_deep : Nat → Int32) (x1 : Int32) : Nat → Int32 → Int32 → Option Int32
  | 0, _, _ => none
  | n + 1, y2, y3 => if (t_told 0) ≤ y3 then some (1 : Int32) else (fX11_knowersIn 36 t_deep (6 * x1) (t_told 0) y3).bind (fun u2 => (fX11_many u2).bind (fun u5 => if (t_told 0) ≤ (u5 <<< (y2 &&& 31)) then (fX11_canBe_b9 t_told t_deep x1 n) y2 (y3 + 1) else some (0 : Int32)))
theorem fX11_canBe_b9_0 (t_told : Nat → Int32) (t_deep : Nat → Int32) (x1 : Int32) (y2 : Int32) (y3 : Int32) : fX11_canBe_b9 t_told t_deep x1 0 y2 y3 = none := rfl
theorem fX11_canBe_b9_s (t_told : Nat → Int32) (t_deep : Nat → Int32) (x1 : Int32) (n : Nat) (y2 : Int32) (y3 : Int32) : fX11_canBe_b9 t_told t_deep x1 (n + 1) y2 y3 = (if (t_told 0) ≤ y3 then some (1 : Int32) else (fX11_knowersIn 36 t_deep (6 * x1) (t_told 0) y3).bind (fun u2 => (fX11_many u2).bind (fun u5 => if (t_told 0) ≤ (u5 <<< (y2 &&& 31)) then (fX11_canBe_b9 t_told t_deep x1 n) y2 (y3 + 1) else some (0 : Int32)))) := rfl
def fX11_canBe (t_limitNow : Int32) (t_told : Nat → Int32) (t_deep : Nat → Int32) (x1 : Int32) : Option Int32 := fX11_canBe_b9 t_told t_deep x1 FU (t_limitNow - x1) 0
set_option maxRecDepth 100000 in
set_option maxHeartbeats 4000000 in
theorem kX11_canBe (l : Launch) (D : va_G) (cT : Nat → ClassId) (a_t : Nat) (a_t_now : Nat) (a_t_told : Nat) (a_t_one : Nat) (a_t_other : Nat) (a_t_forth : Nat) (a_t_cost : Nat) (a_t_broken : Nat) (a_t_away : Nat) (a_t_text : Nat) (a_t_worth : Nat) (a_t_choice : Nat) (a_t_thought : Nat) (a_t_before : Nat) (a_t_deep : Nat) (a_t_price : Nat) (a_t_undo : Nat) (a_t_slots : Nat) (a_t_isSaved : Nat) (t_thrown : Int32) (t_length : Int32) (t_textSize : Int32) (t_start : Int32) (t_next : Int32) (t_token : Int32) (t_value : Int32) (t_error : Int32) (t_errorAt : Int32) (t_number : Int32) (t_isFirst : Int32) (t_limitNow : Int32) (t_undos : Int32) (t_told : Nat → Int32) (t_deep : Nat → Int32) (x1 : Int32) (r : Int32) (h : fX11_canBe t_limitNow t_told t_deep x1 = some r) : sM l yX11_canBe cX11_canBe 4 (some .boolean) (zR 3) D cT [.ref a_t, .int x1] [(a_t, .inr (11, [.int t_thrown, .ref a_t_now, .ref a_t_told, .ref a_t_one, .ref a_t_other, .ref a_t_forth, .ref a_t_cost, .ref a_t_broken, .ref a_t_away, .ref a_t_text, .int t_length, .int t_textSize, .int t_start, .int t_next, .int t_token, .int t_value, .int t_error, .int t_errorAt, .int t_number, .int t_isFirst, .ref a_t_worth, .ref a_t_choice, .ref a_t_thought, .ref a_t_before, .ref a_t_deep, .int t_limitNow, .ref a_t_price, .int t_undos, .ref a_t_undo, .ref a_t_slots, .ref a_t_isSaved])), (a_t_told, .inl (cT 0, 8, .inl t_told)), (a_t_deep, .inl (cT 0, 36, .inl t_deep))] (some (.int r)) [(a_t, .inr (11, [.int t_thrown, .ref a_t_now, .ref a_t_told, .ref a_t_one, .ref a_t_other, .ref a_t_forth, .ref a_t_cost, .ref a_t_broken, .ref a_t_away, .ref a_t_text, .int t_length, .int t_textSize, .int t_start, .int t_next, .int t_token, .int t_value, .int t_error, .int t_errorAt, .int t_number, .int t_isFirst, .ref a_t_worth, .ref a_t_choice, .ref a_t_thought, .ref a_t_before, .ref a_t_deep, .int t_limitNow, .ref a_t_price, .int t_undos, .ref a_t_undo, .ref a_t_slots, .ref a_t_isSaved])), (a_t_told, .inl (cT 0, 8, .inl t_told)), (a_t_deep, .inl (cT 0, 36, .inl t_deep))] := by
  refine sM_bool rfl (Nat.le_of_ble_eq_true rfl) ?_
  intro X C hE
  have B9 : ∀ (n : Nat) (y2 : Int32) (y3 : Int32), fX11_canBe_b9 t_told t_deep x1 n y2 y3 = some r → sW X l (zR 3) D 4 0 0 9 [(0, .ref a_t), (1, .int x1), (2, .int y2), (3, .int y3)] [] [(a_t, .inr (11, [.int t_thrown, .ref a_t_now, .ref a_t_told, .ref a_t_one, .ref a_t_other, .ref a_t_forth, .ref a_t_cost, .ref a_t_broken, .ref a_t_away, .ref a_t_text, .int t_length, .int t_textSize, .int t_start, .int t_next, .int t_token, .int t_value, .int t_error, .int t_errorAt, .int t_number, .int t_isFirst, .ref a_t_worth, .ref a_t_choice, .ref a_t_thought, .ref a_t_before, .ref a_t_deep, .int t_limitNow, .ref a_t_price, .int t_undos, .ref a_t_undo, .ref a_t_slots, .ref a_t_isSaved])), (a_t_told, .inl (cT 0, 8, .inl t_told)), (a_t_deep, .inl (cT 0, 36, .inl t_deep))] := by
    intro n
    induction n with
    | zero =>
      intro y2 y3 h
      exact zno ((fX11_canBe_b9_0 _ _ _ _ _).symm.trans h)
    | succ n ih =>
      intro y2 y3 h
      replace h := (fX11_canBe_b9_s _ _ _ _ _ _).symm.trans h
      refine xi_iload_n C 3 dX11_canBe_9 rfl ?_
      refine xi_aload_n C 0 dX11_canBe_10 rfl ?_
      refine xi_get C zkX11 2 0 zlX11_13 (by decide) rfl rfl dX11_canBe_11 ?_
      refine xi_iconst C (v := 0) dX11_canBe_14 rfl ?_
      refine xi_iald C 1 rfl (zv (by decide)) dX11_canBe_15 ?_
      refine xi_icmp_ge C (tgt := 59) dX11_canBe_16 rfl (fun c1 => ?_) (fun c1 => ?_)
      · replace h := (if_pos c1).symm.trans h
        refine xi_iconst C (v := 1) dX11_canBe_59 rfl ?_
        obtain rfl := Option.some.inj h
        exact hE _ _ _ dX11_canBe_60 rfl rfl
      · replace h := (if_neg c1).symm.trans h
        refine xi_aload_n C 0 dX11_canBe_19 rfl ?_
        refine xi_get C zkX11 24 0 zlX11_55 (by decide) rfl rfl dX11_canBe_20 ?_
        refine xi_bipush C (v := 6) dX11_canBe_23 rfl ?_
        refine xi_iload_n C 1 dX11_canBe_25 rfl ?_
        refine xi_imul C dX11_canBe_26 ?_
        refine xi_aload_n C 0 dX11_canBe_27 rfl ?_
        refine xi_get C zkX11 2 0 zlX11_13 (by decide) rfl rfl dX11_canBe_28 ?_
        refine xi_iconst C (v := 0) dX11_canBe_31 rfl ?_
        refine xi_iald C 1 rfl (zv (by decide)) dX11_canBe_32 ?_
        refine xi_iload_n C 3 dX11_canBe_33 rfl ?_
        replace h := ob h
        obtain ⟨u2, hu3, h⟩ := h
        refine xi_callSr C (kX11_knowersIn l D cT a_t_deep 36 t_deep (6 * x1) (t_told 0) y3 u2 hu3) zcX11_knowersIn zmX11_213 zsX11_knowersIn (zr rfl rfl) z00 rfl [2] rfl rfl rfl (Nat.le_of_ble_eq_true rfl) dX11_canBe_34 (fun z4 => ?_)
        replace h := ob h
        obtain ⟨u5, hu6, h⟩ := h
        refine xi_callSr C (kX11_many l D cT u2 u5 hu6) zcX11_many zmX11_192 zsX11_many (zr rfl rfl) z00 rfl [] rfl rfl rfl (Nat.le_of_ble_eq_true rfl) dX11_canBe_37 (fun z7 => ?_)
        refine xi_iload_n C 2 dX11_canBe_40 rfl ?_
        refine xi_ishl C dX11_canBe_41 ?_
        refine xi_aload_n C 0 dX11_canBe_42 rfl ?_
        refine xi_get C zkX11 2 0 zlX11_13 (by decide) rfl rfl dX11_canBe_43 ?_
        refine xi_iconst C (v := 0) dX11_canBe_46 rfl ?_
        refine xi_iald C 1 rfl (zv (by decide)) dX11_canBe_47 ?_
        refine xi_icmp_ge C (tgt := 53) dX11_canBe_48 rfl (fun c8 => ?_) (fun c8 => ?_)
        · replace h := (if_pos c8).symm.trans h
          refine xi_iinc C (v := y3 + 1) 3 [1, 2, 3, 0] (L2 := [(0, .ref a_t), (1, .int x1), (2, .int y2), (3, .int (y3 + 1))]) dX11_canBe_53 rfl rfl (Nat.le_of_ble_eq_true rfl) rfl ?_
          refine xi_goto C (tgt := 9) dX11_canBe_56 rfl ?_
          exact ih y2 (y3 + 1) h
        · replace h := (if_neg c8).symm.trans h
          refine xi_iconst C (v := 0) dX11_canBe_51 rfl ?_
          obtain rfl := Option.some.inj h
          exact hE _ _ _ dX11_canBe_52 rfl rfl
  refine xi_drop (L2 := [(0, .ref a_t), (1, .int x1)]) [0, 1] rfl ?_
  refine xi_aload_n C 0 dX11_canBe_0 rfl ?_
  refine xi_get C zkX11 25 0 zlX11_252 (by decide) rfl rfl dX11_canBe_1 ?_
  refine xi_iload_n C 1 dX11_canBe_4 rfl ?_
  refine xi_isub C dX11_canBe_5 ?_
  refine xi_istore_n C [1, 2, 0] (L2 := [(0, .ref a_t), (1, .int x1), (2, .int (t_limitNow - x1))]) dX11_canBe_6 (Nat.le_of_ble_eq_true rfl) rfl ?_
  refine xi_iconst C (v := 0) dX11_canBe_7 rfl ?_
  refine xi_istore_n C [1, 2, 3, 0] (L2 := [(0, .ref a_t), (1, .int x1), (2, .int (t_limitNow - x1)), (3, .int 0)]) dX11_canBe_8 (Nat.le_of_ble_eq_true rfl) rfl ?_
  exact B9 FU (t_limitNow - x1) 0 h
def fX11_bestFor_b340 (K270 : Int32 → Int32 → (Nat → Int64) → (Nat → Int32) → Option (Int32 × (Nat → Int64) × (Nat → Int32))) (y4 : Int32) (s0 : Int32) (s1 : Int32) (t_worth : Nat → Int64) (t_choice : Nat → Int32) : Option (Int32 × (Nat → Int64) × (Nat → Int32)) := K270 y4 (s1 - s0) t_worth t_choice
def fX11_bestFor_b300 (t_one : Nat → Int32) (t_other : Nat → Int32) (K270 : Int32 → Int32 → (Nat → Int64) → (Nat → Int32) → Option (Int32 × (Nat → Int64) × (Nat → Int32))) (y5 : Int32) (y6 : Int32) (s0 : Int32) (s1 : Int32) (t_worth : Nat → Int64) (t_choice : Nat → Int32) : Option (Int32 × (Nat → Int64) × (Nat → Int32)) := if y6 = (-1) then (fX11_lowest y5).bind (fun u13 => fX11_bestFor_b340 K270 (s1 ||| s0) (1 <<< (u13 &&& 31)) y5 t_worth t_choice) else gd y6 48 (fX11_bestFor_b340 K270 (s1 ||| s0) ((1 <<< ((t_one y6.toNatClampNeg) &&& 31)) + (1 <<< ((t_other y6.toNatClampNeg) &&& 31))) y5 t_worth t_choice)
def fX11_bestFor_b270 (t_one : Nat → Int32) (t_other : Nat → Int32) : Nat → Int32 → Int32 → (Nat → Int64) → (Nat → Int32) → Option (Int32 × (Nat → Int64) × (Nat → Int32))
  | 0, _, _, _, _ => none
  | n + 1, y4, y5, t_worth, t_choice => if y5 = 0 then some (y4, t_worth, t_choice) else gd y5 1024 (if (t_choice y5.toNatClampNeg) = (-1) then fX11_bestFor_b300 t_one t_other (fX11_bestFor_b270 t_one t_other n) y5 (t_choice y5.toNatClampNeg) 0 y4 t_worth t_choice else fX11_bestFor_b300 t_one t_other (fX11_bestFor_b270 t_one t_other n) y5 (t_choice y5.toNatClampNeg) (1 <<< ((t_choice y5.toNatClampNeg) &&& 31)) y4 t_worth t_choice)
theorem fX11_bestFor_b270_0 (t_one : Nat → Int32) (t_other : Nat → Int32) (y4 : Int32) (y5 : Int32) (t_worth : Nat → Int64) (t_choice : Nat → Int32) : fX11_bestFor_b270 t_one t_other 0 y4 y5 t_worth t_choice = none := rfl
theorem fX11_bestFor_b270_s (t_one : Nat → Int32) (t_other : Nat → Int32) (n : Nat) (y4 : Int32) (y5 : Int32) (t_worth : Nat → Int64) (t_choice : Nat → Int32) : fX11_bestFor_b270 t_one t_other (n + 1) y4 y5 t_worth t_choice = (if y5 = 0 then some (y4, t_worth, t_choice) else gd y5 1024 (if (t_choice y5.toNatClampNeg) = (-1) then fX11_bestFor_b300 t_one t_other (fX11_bestFor_b270 t_one t_other n) y5 (t_choice y5.toNatClampNeg) 0 y4 t_worth t_choice else fX11_bestFor_b300 t_one t_other (fX11_bestFor_b270 t_one t_other n) y5 (t_choice y5.toNatClampNeg) (1 <<< ((t_choice y5.toNatClampNeg) &&& 31)) y4 t_worth t_choice)) := rfl
def fX11_bestFor_b261 (t_told : Nat → Int32) (t_one : Nat → Int32) (t_other : Nat → Int32) (t_worth : Nat → Int64) (t_choice : Nat → Int32) : Option (Int32 × (Nat → Int64) × (Nat → Int32)) := (fX11_all t_told).bind (fun u5 => fX11_bestFor_b270 t_one t_other FU 0 u5 t_worth t_choice)
def fX11_bestFor_b248 (K49 : Int32 → Int32 → Int32 → (Nat → Int64) → (Nat → Int32) → Option (Int32 × (Nat → Int64) × (Nat → Int32))) (y4 : Int32) (y5 : Int32) (y6 : Int32) (s0 : Int64) (s1 : Int32) (t_worth : Nat → Int64) (t_choice : Nat → Int32) : Option (Int32 × (Nat → Int64) × (Nat → Int32)) := gd s1 1024 (K49 y4 y5 (y6 + 1) (vp_updL t_worth s1.toNatClampNeg s0) t_choice)
def fX11_bestFor_b216 (K49 : Int32 → Int32 → Int32 → (Nat → Int64) → (Nat → Int32) → Option (Int32 × (Nat → Int64) × (Nat → Int32))) (y4 : Int32) (y5 : Int32) (y6 : Int32) (y8 : Int64) (s0 : Int32) (s1 : Int32) (t_worth : Nat → Int64) (t_choice : Nat → Int32) : Option (Int32 × (Nat → Int64) × (Nat → Int32)) := gd s1 1024 (gd y4 1024 (if (lg_cmp y8 (t_worth y4.toNatClampNeg)) ≤ 0 then fX11_bestFor_b248 K49 y4 y5 y6 (t_worth y4.toNatClampNeg) y4 t_worth (upd t_choice s1.toNatClampNeg s0) else fX11_bestFor_b248 K49 y4 y5 y6 y8 y4 t_worth (upd t_choice s1.toNatClampNeg s0)))
def fX11_bestFor_b105 (N_p2 : Nat) (t_now : Nat → Int32) (t_told : Nat → Int32) (t_one : Nat → Int32) (t_other : Nat → Int32) (t_forth : Nat → Int32) (t_cost : Nat → Int32) (t_broken : Nat → Int32) (t_away : Nat → Int32) (p2 : Nat → Int32) (x1 : Int32) (x3 : Int32) (K49 : Int32 → Int32 → Int32 → (Nat → Int64) → (Nat → Int32) → Option (Int32 × (Nat → Int64) × (Nat → Int32))) (y4 : Int32) (y5 : Int32) (y6 : Int32) (s0 : Int32) (t_worth : Nat → Int64) (t_choice : Nat → Int32) : Option (Int32 × (Nat → Int64) × (Nat → Int32)) := if s0 = (-1) then K49 y4 y5 (y6 + 1) t_worth t_choice else if (fX11_isIn y4 s0) = 0 then K49 y4 y5 (y6 + 1) t_worth t_choice else (fX11_canCall t_now t_told t_one t_other t_broken t_away y6 x1).bind (fun u30 => if u30 = 0 then K49 y4 y5 (y6 + 1) t_worth t_choice else (fX11_gainOf N_p2 t_one t_other t_forth p2 y6 x3).bind (fun u34 => gd y6 48 (gd ((y4 - (1 <<< (y5 &&& 31))) - (1 <<< (s0 &&& 31))) 1024 (gd y4 1024 (if (lg_cmp ((((u34.toInt64 <<< ((40 : Int32).toInt64 &&& 63)) - (((t_cost y6.toNatClampNeg).toInt64) <<< ((25 : Int32).toInt64 &&& 63))) - (1 <<< (y6.toInt64 &&& 63))) + (t_worth ((y4 - (1 <<< (y5 &&& 31))) - (1 <<< (s0 &&& 31))).toNatClampNeg)) (t_worth y4.toNatClampNeg)) ≤ 0 then fX11_bestFor_b216 K49 y4 y5 y6 ((((u34.toInt64 <<< ((40 : Int32).toInt64 &&& 63)) - (((t_cost y6.toNatClampNeg).toInt64) <<< ((25 : Int32).toInt64 &&& 63))) - (1 <<< (y6.toInt64 &&& 63))) + (t_worth ((y4 - (1 <<< (y5 &&& 31))) - (1 <<< (s0 &&& 31))).toNatClampNeg)) (t_choice y4.toNatClampNeg) y4 t_worth t_choice else fX11_bestFor_b216 K49 y4 y5 y6 ((((u34.toInt64 <<< ((40 : Int32).toInt64 &&& 63)) - (((t_cost y6.toNatClampNeg).toInt64) <<< ((25 : Int32).toInt64 &&& 63))) - (1 <<< (y6.toInt64 &&& 63))) + (t_worth ((y4 - (1 <<< (y5 &&& 31))) - (1 <<< (s0 &&& 31))).toNatClampNeg)) y6 y4 t_worth t_choice)))))
def fX11_bestFor_b49 (N_p2 : Nat) (t_now : Nat → Int32) (t_told : Nat → Int32) (t_one : Nat → Int32) (t_other : Nat → Int32) (t_forth : Nat → Int32) (t_cost : Nat → Int32) (t_broken : Nat → Int32) (t_away : Nat → Int32) (p2 : Nat → Int32) (x1 : Int32) (x3 : Int32) (K3 : Int32 → (Nat → Int64) → (Nat → Int32) → Option (Int32 × (Nat → Int64) × (Nat → Int32))) : Nat → Int32 → Int32 → Int32 → (Nat → Int64) → (Nat → Int32) → Option (Int32 × (Nat → Int64) × (Nat → Int32))
  | 0, _, _, _, _, _ => none
  | n + 1, y4, y5, y6, t_worth, t_choice => if (t_told 1) ≤ y6 then K3 (y4 + 1) t_worth t_choice else gd y6 48 (if (t_one y6.toNatClampNeg) = y5 then fX11_bestFor_b105 N_p2 t_now t_told t_one t_other t_forth t_cost t_broken t_away p2 x1 x3 (fX11_bestFor_b49 N_p2 t_now t_told t_one t_other t_forth t_cost t_broken t_away p2 x1 x3 K3 n) y4 y5 y6 (t_other y6.toNatClampNeg) t_worth t_choice else if (t_other y6.toNatClampNeg) = y5 then fX11_bestFor_b105 N_p2 t_now t_told t_one t_other t_forth t_cost t_broken t_away p2 x1 x3 (fX11_bestFor_b49 N_p2 t_now t_told t_one t_other t_forth t_cost t_broken t_away p2 x1 x3 K3 n) y4 y5 y6 (t_one y6.toNatClampNeg) t_worth t_choice else fX11_bestFor_b105 N_p2 t_now t_told t_one t_other t_forth t_cost t_broken t_away p2 x1 x3 (fX11_bestFor_b49 N_p2 t_now t_told t_one t_other t_forth t_cost t_broken t_away p2 x1 x3 K3 n) y4 y5 y6 (-1) t_worth t_choice)
theorem fX11_bestFor_b49_0 (N_p2 : Nat) (t_now : Nat → Int32) (t_told : Nat → Int32) (t_one : Nat → Int32) (t_other : Nat → Int32) (t_forth : Nat → Int32) (t_cost : Nat → Int32) (t_broken : Nat → Int32) (t_away : Nat → Int32) (p2 : Nat → Int32) (x1 : Int32) (x3 : Int32) (K3 : Int32 → (Nat → Int64) → (Nat → Int32) → Option (Int32 × (Nat → Int64) × (Nat → Int32))) (y4 : Int32) (y5 : Int32) (y6 : Int32) (t_worth : Nat → Int64) (t_choice : Nat → Int32) : fX11_bestFor_b49 N_p2 t_now t_told t_one t_other t_forth t_cost t_broken t_away p2 x1 x3 K3 0 y4 y5 y6 t_worth t_choice = none := rfl
theorem fX11_bestFor_b49_s (N_p2 : Nat) (t_now : Nat → Int32) (t_told : Nat → Int32) (t_one : Nat → Int32) (t_other : Nat → Int32) (t_forth : Nat → Int32) (t_cost : Nat → Int32) (t_broken : Nat → Int32) (t_away : Nat → Int32) (p2 : Nat → Int32) (x1 : Int32) (x3 : Int32) (K3 : Int32 → (Nat → Int64) → (Nat → Int32) → Option (Int32 × (Nat → Int64) × (Nat → Int32))) (n : Nat) (y4 : Int32) (y5 : Int32) (y6 : Int32) (t_worth : Nat → Int64) (t_choice : Nat → Int32) : fX11_bestFor_b49 N_p2 t_now t_told t_one t_other t_forth t_cost t_broken t_away p2 x1 x3 K3 (n + 1) y4 y5 y6 t_worth t_choice = (if (t_told 1) ≤ y6 then K3 (y4 + 1) t_worth t_choice else gd y6 48 (if (t_one y6.toNatClampNeg) = y5 then fX11_bestFor_b105 N_p2 t_now t_told t_one t_other t_forth t_cost t_broken t_away p2 x1 x3 (fX11_bestFor_b49 N_p2 t_now t_told t_one t_other t_forth t_cost t_broken t_away p2 x1 x3 K3 n) y4 y5 y6 (t_other y6.toNatClampNeg) t_worth t_choice else if (t_other y6.toNatClampNeg) = y5 then fX11_bestFor_b105 N_p2 t_now t_told t_one t_other t_forth t_cost t_broken t_away p2 x1 x3 (fX11_bestFor_b49 N_p2 t_now t_told t_one t_other t_forth t_cost t_broken t_away p2 x1 x3 K3 n) y4 y5 y6 (t_one y6.toNatClampNeg) t_worth t_choice else fX11_bestFor_b105 N_p2 t_now t_told t_one t_other t_forth t_cost t_broken t_away p2 x1 x3 (fX11_bestFor_b49 N_p2 t_now t_told t_one t_other t_forth t_cost t_broken t_away p2 x1 x3 K3 n) y4 y5 y6 (-1) t_worth t_choice)) := rfl
def fX11_bestFor_b3 (N_p2 : Nat) (t_now : Nat → Int32) (t_told : Nat → Int32) (t_one : Nat → Int32) (t_other : Nat → Int32) (t_forth : Nat → Int32) (t_cost : Nat → Int32) (t_broken : Nat → Int32) (t_away : Nat → Int32) (p2 : Nat → Int32) (x1 : Int32) (x3 : Int32) : Nat → Int32 → (Nat → Int64) → (Nat → Int32) → Option (Int32 × (Nat → Int64) × (Nat → Int32))
  | 0, _, _, _ => none
  | n + 1, y4, t_worth, t_choice => (fX11_all t_told).bind (fun u1 => if u1 < y4 then fX11_bestFor_b261 t_told t_one t_other t_worth t_choice else (fX11_lowest y4).bind (fun u16 => gd (y4 - (1 <<< (u16 &&& 31))) 1024 (gd y4 1024 (fX11_bestFor_b49 N_p2 t_now t_told t_one t_other t_forth t_cost t_broken t_away p2 x1 x3 (fX11_bestFor_b3 N_p2 t_now t_told t_one t_other t_forth t_cost t_broken t_away p2 x1 x3 n) FU y4 u16 0 (vp_updL t_worth y4.toNatClampNeg (t_worth (y4 - (1 <<< (u16 &&& 31))).toNatClampNeg)) (upd t_choice y4.toNatClampNeg (-1))))))
theorem fX11_bestFor_b3_0 (N_p2 : Nat) (t_now : Nat → Int32) (t_told : Nat → Int32) (t_one : Nat → Int32) (t_other : Nat → Int32) (t_forth : Nat → Int32) (t_cost : Nat → Int32) (t_broken : Nat → Int32) (t_away : Nat → Int32) (p2 : Nat → Int32) (x1 : Int32) (x3 : Int32) (y4 : Int32) (t_worth : Nat → Int64) (t_choice : Nat → Int32) : fX11_bestFor_b3 N_p2 t_now t_told t_one t_other t_forth t_cost t_broken t_away p2 x1 x3 0 y4 t_worth t_choice = none := rfl
theorem fX11_bestFor_b3_s (N_p2 : Nat) (t_now : Nat → Int32) (t_told : Nat → Int32) (t_one : Nat → Int32) (t_other : Nat → Int32) (t_forth : Nat → Int32) (t_cost : Nat → Int32) (t_broken : Nat → Int32) (t_away : Nat → Int32) (p2 : Nat → Int32) (x1 : Int32) (x3 : Int32) (n : Nat) (y4 : Int32) (t_worth : Nat → Int64) (t_choice : Nat → Int32) : fX11_bestFor_b3 N_p2 t_now t_told t_one t_other t_forth t_cost t_broken t_away p2 x1 x3 (n + 1) y4 t_worth t_choice = ((fX11_all t_told).bind (fun u1 => if u1 < y4 then fX11_bestFor_b261 t_told t_one t_other t_worth t_choice else (fX11_lowest y4).bind (fun u16 => gd (y4 - (1 <<< (u16 &&& 31))) 1024 (gd y4 1024 (fX11_bestFor_b49 N_p2 t_now t_told t_one t_other t_forth t_cost t_broken t_away p2 x1 x3 (fX11_bestFor_b3 N_p2 t_now t_told t_one t_other t_forth t_cost t_broken t_away p2 x1 x3 n) FU y4 u16 0 (vp_updL t_worth y4.toNatClampNeg (t_worth (y4 - (1 <<< (u16 &&& 31))).toNatClampNeg)) (upd t_choice y4.toNatClampNeg (-1))))))) := rfl
def fX11_bestFor (N_p2 : Nat) (t_now : Nat → Int32) (t_told : Nat → Int32) (t_one : Nat → Int32) (t_other : Nat → Int32) (t_forth : Nat → Int32) (t_cost : Nat → Int32) (t_broken : Nat → Int32) (t_away : Nat → Int32) (t_worth : Nat → Int64) (t_choice : Nat → Int32) (p2 : Nat → Int32) (x1 : Int32) (x3 : Int32) : Option (Int32 × (Nat → Int64) × (Nat → Int32)) := fX11_bestFor_b3 N_p2 t_now t_told t_one t_other t_forth t_cost t_broken t_away p2 x1 x3 FU 1 t_worth t_choice
set_option maxRecDepth 100000 in
set_option maxHeartbeats 4000000 in
theorem kX11_bestFor (l : Launch) (D : va_G) (cT : Nat → ClassId) (a_t : Nat) (a_t_now : Nat) (a_t_told : Nat) (a_t_one : Nat) (a_t_other : Nat) (a_t_forth : Nat) (a_t_cost : Nat) (a_t_broken : Nat) (a_t_away : Nat) (a_t_text : Nat) (a_t_worth : Nat) (a_t_choice : Nat) (a_t_thought : Nat) (a_t_before : Nat) (a_t_deep : Nat) (a_t_price : Nat) (a_t_undo : Nat) (a_t_slots : Nat) (a_t_isSaved : Nat) (a_p2 : Nat) (N_p2 : Nat) (t_thrown : Int32) (t_length : Int32) (t_textSize : Int32) (t_start : Int32) (t_next : Int32) (t_token : Int32) (t_value : Int32) (t_error : Int32) (t_errorAt : Int32) (t_number : Int32) (t_isFirst : Int32) (t_limitNow : Int32) (t_undos : Int32) (t_now : Nat → Int32) (t_told : Nat → Int32) (t_one : Nat → Int32) (t_other : Nat → Int32) (t_forth : Nat → Int32) (t_cost : Nat → Int32) (t_broken : Nat → Int32) (t_away : Nat → Int32) (t_worth : Nat → Int64) (t_choice : Nat → Int32) (p2 : Nat → Int32) (x1 : Int32) (x3 : Int32) (r : Int32 × (Nat → Int64) × (Nat → Int32)) (h : fX11_bestFor N_p2 t_now t_told t_one t_other t_forth t_cost t_broken t_away t_worth t_choice p2 x1 x3 = some r) : sM l yX11_bestFor cX11_bestFor 10 (some .int) (zR 4) D cT [.ref a_t, .int x1, .ref a_p2, .int x3] [(a_t, .inr (11, [.int t_thrown, .ref a_t_now, .ref a_t_told, .ref a_t_one, .ref a_t_other, .ref a_t_forth, .ref a_t_cost, .ref a_t_broken, .ref a_t_away, .ref a_t_text, .int t_length, .int t_textSize, .int t_start, .int t_next, .int t_token, .int t_value, .int t_error, .int t_errorAt, .int t_number, .int t_isFirst, .ref a_t_worth, .ref a_t_choice, .ref a_t_thought, .ref a_t_before, .ref a_t_deep, .int t_limitNow, .ref a_t_price, .int t_undos, .ref a_t_undo, .ref a_t_slots, .ref a_t_isSaved])), (a_t_now, .inl (cT 0, 514, .inl t_now)), (a_t_told, .inl (cT 0, 8, .inl t_told)), (a_t_one, .inl (cT 0, 48, .inl t_one)), (a_t_other, .inl (cT 0, 48, .inl t_other)), (a_t_forth, .inl (cT 0, 48, .inl t_forth)), (a_t_cost, .inl (cT 0, 48, .inl t_cost)), (a_t_broken, .inl (cT 0, 72, .inl t_broken)), (a_t_away, .inl (cT 0, 72, .inl t_away)), (a_t_worth, .inl (cT 1, 1024, .inr (.inl t_worth))), (a_t_choice, .inl (cT 0, 1024, .inl t_choice)), (a_p2, .inl (cT 0, N_p2, .inl p2))] (some (.int r.1)) [(a_t, .inr (11, [.int t_thrown, .ref a_t_now, .ref a_t_told, .ref a_t_one, .ref a_t_other, .ref a_t_forth, .ref a_t_cost, .ref a_t_broken, .ref a_t_away, .ref a_t_text, .int t_length, .int t_textSize, .int t_start, .int t_next, .int t_token, .int t_value, .int t_error, .int t_errorAt, .int t_number, .int t_isFirst, .ref a_t_worth, .ref a_t_choice, .ref a_t_thought, .ref a_t_before, .ref a_t_deep, .int t_limitNow, .ref a_t_price, .int t_undos, .ref a_t_undo, .ref a_t_slots, .ref a_t_isSaved])), (a_t_now, .inl (cT 0, 514, .inl t_now)), (a_t_told, .inl (cT 0, 8, .inl t_told)), (a_t_one, .inl (cT 0, 48, .inl t_one)), (a_t_other, .inl (cT 0, 48, .inl t_other)), (a_t_forth, .inl (cT 0, 48, .inl t_forth)), (a_t_cost, .inl (cT 0, 48, .inl t_cost)), (a_t_broken, .inl (cT 0, 72, .inl t_broken)), (a_t_away, .inl (cT 0, 72, .inl t_away)), (a_t_worth, .inl (cT 1, 1024, .inr (.inl r.2.1))), (a_t_choice, .inl (cT 0, 1024, .inl r.2.2)), (a_p2, .inl (cT 0, N_p2, .inl p2))] := by
  refine sM_int rfl (Nat.le_of_ble_eq_true rfl) ?_
  intro X C hE
  have B340 : ∀ (K270 : Int32 → Int32 → (Nat → Int64) → (Nat → Int32) → Option (Int32 × (Nat → Int64) × (Nat → Int32))) (hK270 : ∀ (y4 : Int32) (y5 : Int32) (t_worth : Nat → Int64) (t_choice : Nat → Int32), K270 y4 y5 t_worth t_choice = some r → sW X l (zR 4) D 10 0 0 270 [(0, .ref a_t), (4, .int y4), (5, .int y5)] [] [(a_t, .inr (11, [.int t_thrown, .ref a_t_now, .ref a_t_told, .ref a_t_one, .ref a_t_other, .ref a_t_forth, .ref a_t_cost, .ref a_t_broken, .ref a_t_away, .ref a_t_text, .int t_length, .int t_textSize, .int t_start, .int t_next, .int t_token, .int t_value, .int t_error, .int t_errorAt, .int t_number, .int t_isFirst, .ref a_t_worth, .ref a_t_choice, .ref a_t_thought, .ref a_t_before, .ref a_t_deep, .int t_limitNow, .ref a_t_price, .int t_undos, .ref a_t_undo, .ref a_t_slots, .ref a_t_isSaved])), (a_t_now, .inl (cT 0, 514, .inl t_now)), (a_t_told, .inl (cT 0, 8, .inl t_told)), (a_t_one, .inl (cT 0, 48, .inl t_one)), (a_t_other, .inl (cT 0, 48, .inl t_other)), (a_t_forth, .inl (cT 0, 48, .inl t_forth)), (a_t_cost, .inl (cT 0, 48, .inl t_cost)), (a_t_broken, .inl (cT 0, 72, .inl t_broken)), (a_t_away, .inl (cT 0, 72, .inl t_away)), (a_t_worth, .inl (cT 1, 1024, .inr (.inl t_worth))), (a_t_choice, .inl (cT 0, 1024, .inl t_choice)), (a_p2, .inl (cT 0, N_p2, .inl p2))]) (y4 : Int32) (s0 : Int32) (s1 : Int32) (t_worth : Nat → Int64) (t_choice : Nat → Int32), fX11_bestFor_b340 K270 y4 s0 s1 t_worth t_choice = some r → sW X l (zR 4) D 10 0 0 340 [(0, .ref a_t), (4, .int y4)] [.int s0, .int s1] [(a_t, .inr (11, [.int t_thrown, .ref a_t_now, .ref a_t_told, .ref a_t_one, .ref a_t_other, .ref a_t_forth, .ref a_t_cost, .ref a_t_broken, .ref a_t_away, .ref a_t_text, .int t_length, .int t_textSize, .int t_start, .int t_next, .int t_token, .int t_value, .int t_error, .int t_errorAt, .int t_number, .int t_isFirst, .ref a_t_worth, .ref a_t_choice, .ref a_t_thought, .ref a_t_before, .ref a_t_deep, .int t_limitNow, .ref a_t_price, .int t_undos, .ref a_t_undo, .ref a_t_slots, .ref a_t_isSaved])), (a_t_now, .inl (cT 0, 514, .inl t_now)), (a_t_told, .inl (cT 0, 8, .inl t_told)), (a_t_one, .inl (cT 0, 48, .inl t_one)), (a_t_other, .inl (cT 0, 48, .inl t_other)), (a_t_forth, .inl (cT 0, 48, .inl t_forth)), (a_t_cost, .inl (cT 0, 48, .inl t_cost)), (a_t_broken, .inl (cT 0, 72, .inl t_broken)), (a_t_away, .inl (cT 0, 72, .inl t_away)), (a_t_worth, .inl (cT 1, 1024, .inr (.inl t_worth))), (a_t_choice, .inl (cT 0, 1024, .inl t_choice)), (a_p2, .inl (cT 0, N_p2, .inl p2))] := by
    intro K270 hK270 y4 s0 s1 t_worth t_choice h
    refine xi_isub C dX11_bestFor_340 ?_
    refine xi_istore C [1, 2, 0] (L2 := [(0, .ref a_t), (4, .int y4), (5, .int (s1 - s0))]) dX11_bestFor_341 (Nat.le_of_ble_eq_true rfl) rfl ?_
    refine xi_goto C (tgt := 270) dX11_bestFor_343 rfl ?_
    exact hK270 y4 (s1 - s0) t_worth t_choice h
  have B300 : ∀ (K270 : Int32 → Int32 → (Nat → Int64) → (Nat → Int32) → Option (Int32 × (Nat → Int64) × (Nat → Int32))) (hK270 : ∀ (y4 : Int32) (y5 : Int32) (t_worth : Nat → Int64) (t_choice : Nat → Int32), K270 y4 y5 t_worth t_choice = some r → sW X l (zR 4) D 10 0 0 270 [(0, .ref a_t), (4, .int y4), (5, .int y5)] [] [(a_t, .inr (11, [.int t_thrown, .ref a_t_now, .ref a_t_told, .ref a_t_one, .ref a_t_other, .ref a_t_forth, .ref a_t_cost, .ref a_t_broken, .ref a_t_away, .ref a_t_text, .int t_length, .int t_textSize, .int t_start, .int t_next, .int t_token, .int t_value, .int t_error, .int t_errorAt, .int t_number, .int t_isFirst, .ref a_t_worth, .ref a_t_choice, .ref a_t_thought, .ref a_t_before, .ref a_t_deep, .int t_limitNow, .ref a_t_price, .int t_undos, .ref a_t_undo, .ref a_t_slots, .ref a_t_isSaved])), (a_t_now, .inl (cT 0, 514, .inl t_now)), (a_t_told, .inl (cT 0, 8, .inl t_told)), (a_t_one, .inl (cT 0, 48, .inl t_one)), (a_t_other, .inl (cT 0, 48, .inl t_other)), (a_t_forth, .inl (cT 0, 48, .inl t_forth)), (a_t_cost, .inl (cT 0, 48, .inl t_cost)), (a_t_broken, .inl (cT 0, 72, .inl t_broken)), (a_t_away, .inl (cT 0, 72, .inl t_away)), (a_t_worth, .inl (cT 1, 1024, .inr (.inl t_worth))), (a_t_choice, .inl (cT 0, 1024, .inl t_choice)), (a_p2, .inl (cT 0, N_p2, .inl p2))]) (y5 : Int32) (y6 : Int32) (s0 : Int32) (s1 : Int32) (t_worth : Nat → Int64) (t_choice : Nat → Int32), fX11_bestFor_b300 t_one t_other K270 y5 y6 s0 s1 t_worth t_choice = some r → sW X l (zR 4) D 10 0 0 300 [(0, .ref a_t), (5, .int y5), (6, .int y6)] [.int s0, .int s1] [(a_t, .inr (11, [.int t_thrown, .ref a_t_now, .ref a_t_told, .ref a_t_one, .ref a_t_other, .ref a_t_forth, .ref a_t_cost, .ref a_t_broken, .ref a_t_away, .ref a_t_text, .int t_length, .int t_textSize, .int t_start, .int t_next, .int t_token, .int t_value, .int t_error, .int t_errorAt, .int t_number, .int t_isFirst, .ref a_t_worth, .ref a_t_choice, .ref a_t_thought, .ref a_t_before, .ref a_t_deep, .int t_limitNow, .ref a_t_price, .int t_undos, .ref a_t_undo, .ref a_t_slots, .ref a_t_isSaved])), (a_t_now, .inl (cT 0, 514, .inl t_now)), (a_t_told, .inl (cT 0, 8, .inl t_told)), (a_t_one, .inl (cT 0, 48, .inl t_one)), (a_t_other, .inl (cT 0, 48, .inl t_other)), (a_t_forth, .inl (cT 0, 48, .inl t_forth)), (a_t_cost, .inl (cT 0, 48, .inl t_cost)), (a_t_broken, .inl (cT 0, 72, .inl t_broken)), (a_t_away, .inl (cT 0, 72, .inl t_away)), (a_t_worth, .inl (cT 1, 1024, .inr (.inl t_worth))), (a_t_choice, .inl (cT 0, 1024, .inl t_choice)), (a_p2, .inl (cT 0, N_p2, .inl p2))] := by
    intro K270 hK270 y5 y6 s0 s1 t_worth t_choice h
    refine xi_ior C dX11_bestFor_300 ?_
    refine xi_istore C [1, 0, 2, 3] (L2 := [(0, .ref a_t), (4, .int (s1 ||| s0)), (5, .int y5), (6, .int y6)]) dX11_bestFor_301 (Nat.le_of_ble_eq_true rfl) rfl ?_
    refine xi_iload C 2 dX11_bestFor_303 rfl ?_
    refine xi_iload C 3 dX11_bestFor_305 rfl ?_
    refine xi_iconst C (v := (-1)) dX11_bestFor_307 rfl ?_
    refine xi_icmp_ne C (tgt := 321) dX11_bestFor_308 rfl (fun c11 => ?_) (fun c11 => ?_)
    · replace h := (if_neg c11).symm.trans h
      refine xi_iconst C (v := 1) dX11_bestFor_321 rfl ?_
      refine xi_aload_n C 0 dX11_bestFor_322 rfl ?_
      refine xi_get C zkX11 3 0 zlX11_16 (by decide) rfl rfl dX11_bestFor_323 ?_
      refine xi_iload C 3 dX11_bestFor_326 rfl ?_
      replace h := ig h
      obtain ⟨c12, h⟩ := h
      refine xi_iald C 3 rfl c12 dX11_bestFor_328 ?_
      refine xi_ishl C dX11_bestFor_329 ?_
      refine xi_iconst C (v := 1) dX11_bestFor_330 rfl ?_
      refine xi_aload_n C 0 dX11_bestFor_331 rfl ?_
      refine xi_get C zkX11 4 0 zlX11_19 (by decide) rfl rfl dX11_bestFor_332 ?_
      refine xi_iload C 3 dX11_bestFor_335 rfl ?_
      refine xi_iald C 4 rfl c12 dX11_bestFor_337 ?_
      refine xi_ishl C dX11_bestFor_338 ?_
      refine xi_iadd C dX11_bestFor_339 ?_
      refine xi_drop (L2 := [(0, .ref a_t), (4, .int (s1 ||| s0))]) [0, 1] rfl ?_
      exact B340 K270 hK270 (s1 ||| s0) ((1 <<< ((t_one y6.toNatClampNeg) &&& 31)) + (1 <<< ((t_other y6.toNatClampNeg) &&& 31))) y5 t_worth t_choice h
    · replace h := (if_pos c11).symm.trans h
      refine xi_iconst C (v := 1) dX11_bestFor_311 rfl ?_
      refine xi_iload C 2 dX11_bestFor_312 rfl ?_
      replace h := ob h
      obtain ⟨u13, hu14, h⟩ := h
      refine xi_callSr C (kX11_lowest l D cT y5 u13 hu14) zcX11_lowest zmX11_234 zsX11_lowest (zr rfl rfl) z00 rfl [] rfl rfl rfl (Nat.le_of_ble_eq_true rfl) dX11_bestFor_314 (fun z15 => ?_)
      refine xi_ishl C dX11_bestFor_317 ?_
      refine xi_goto C (tgt := 340) dX11_bestFor_318 rfl ?_
      refine xi_drop (L2 := [(0, .ref a_t), (4, .int (s1 ||| s0))]) [0, 1] rfl ?_
      exact B340 K270 hK270 (s1 ||| s0) (1 <<< (u13 &&& 31)) y5 t_worth t_choice h
  have B270 : ∀ (n : Nat) (y4 : Int32) (y5 : Int32) (t_worth : Nat → Int64) (t_choice : Nat → Int32), fX11_bestFor_b270 t_one t_other n y4 y5 t_worth t_choice = some r → sW X l (zR 4) D 10 0 0 270 [(0, .ref a_t), (4, .int y4), (5, .int y5)] [] [(a_t, .inr (11, [.int t_thrown, .ref a_t_now, .ref a_t_told, .ref a_t_one, .ref a_t_other, .ref a_t_forth, .ref a_t_cost, .ref a_t_broken, .ref a_t_away, .ref a_t_text, .int t_length, .int t_textSize, .int t_start, .int t_next, .int t_token, .int t_value, .int t_error, .int t_errorAt, .int t_number, .int t_isFirst, .ref a_t_worth, .ref a_t_choice, .ref a_t_thought, .ref a_t_before, .ref a_t_deep, .int t_limitNow, .ref a_t_price, .int t_undos, .ref a_t_undo, .ref a_t_slots, .ref a_t_isSaved])), (a_t_now, .inl (cT 0, 514, .inl t_now)), (a_t_told, .inl (cT 0, 8, .inl t_told)), (a_t_one, .inl (cT 0, 48, .inl t_one)), (a_t_other, .inl (cT 0, 48, .inl t_other)), (a_t_forth, .inl (cT 0, 48, .inl t_forth)), (a_t_cost, .inl (cT 0, 48, .inl t_cost)), (a_t_broken, .inl (cT 0, 72, .inl t_broken)), (a_t_away, .inl (cT 0, 72, .inl t_away)), (a_t_worth, .inl (cT 1, 1024, .inr (.inl t_worth))), (a_t_choice, .inl (cT 0, 1024, .inl t_choice)), (a_p2, .inl (cT 0, N_p2, .inl p2))] := by
    intro n
    induction n with
    | zero =>
      intro y4 y5 t_worth t_choice h
      exact zno ((fX11_bestFor_b270_0 _ _ _ _ _ _).symm.trans h)
    | succ n ih =>
      intro y4 y5 t_worth t_choice h
      replace h := (fX11_bestFor_b270_s _ _ _ _ _ _ _).symm.trans h
      refine xi_iload C 2 dX11_bestFor_270 rfl ?_
      refine xi_if_eq C (tgt := 346) dX11_bestFor_272 rfl (fun c8 => ?_) (fun c8 => ?_)
      · replace h := (if_pos c8).symm.trans h
        refine xi_iload C 1 dX11_bestFor_346 rfl ?_
        obtain rfl := Option.some.inj h
        exact hE _ _ _ dX11_bestFor_348 rfl
      · replace h := (if_neg c8).symm.trans h
        refine xi_aload_n C 0 dX11_bestFor_275 rfl ?_
        refine xi_get C zkX11 21 0 zlX11_46 (by decide) rfl rfl dX11_bestFor_276 ?_
        refine xi_iload C 2 dX11_bestFor_279 rfl ?_
        replace h := ig h
        obtain ⟨c9, h⟩ := h
        refine xi_iald C 10 rfl c9 dX11_bestFor_281 ?_
        refine xi_istore C [1, 2, 3, 0] (L2 := [(0, .ref a_t), (4, .int y4), (5, .int y5), (6, .int (t_choice y5.toNatClampNeg))]) dX11_bestFor_282 (Nat.le_of_ble_eq_true rfl) rfl ?_
        refine xi_iload C 1 dX11_bestFor_284 rfl ?_
        refine xi_iload C 3 dX11_bestFor_286 rfl ?_
        refine xi_iconst C (v := (-1)) dX11_bestFor_288 rfl ?_
        refine xi_icmp_ne C (tgt := 296) dX11_bestFor_289 rfl (fun c10 => ?_) (fun c10 => ?_)
        · replace h := (if_neg c10).symm.trans h
          refine xi_iconst C (v := 1) dX11_bestFor_296 rfl ?_
          refine xi_iload C 3 dX11_bestFor_297 rfl ?_
          refine xi_ishl C dX11_bestFor_299 ?_
          refine xi_drop (L2 := [(0, .ref a_t), (5, .int y5), (6, .int (t_choice y5.toNatClampNeg))]) [0, 2, 3] rfl ?_
          exact B300 (fX11_bestFor_b270 t_one t_other n) ih y5 (t_choice y5.toNatClampNeg) (1 <<< ((t_choice y5.toNatClampNeg) &&& 31)) y4 t_worth t_choice h
        · replace h := (if_pos c10).symm.trans h
          refine xi_iconst C (v := 0) dX11_bestFor_292 rfl ?_
          refine xi_goto C (tgt := 300) dX11_bestFor_293 rfl ?_
          refine xi_drop (L2 := [(0, .ref a_t), (5, .int y5), (6, .int (t_choice y5.toNatClampNeg))]) [0, 2, 3] rfl ?_
          exact B300 (fX11_bestFor_b270 t_one t_other n) ih y5 (t_choice y5.toNatClampNeg) 0 y4 t_worth t_choice h
  have B261 : ∀ (t_worth : Nat → Int64) (t_choice : Nat → Int32), fX11_bestFor_b261 t_told t_one t_other t_worth t_choice = some r → sW X l (zR 4) D 10 0 0 261 [(0, .ref a_t)] [] [(a_t, .inr (11, [.int t_thrown, .ref a_t_now, .ref a_t_told, .ref a_t_one, .ref a_t_other, .ref a_t_forth, .ref a_t_cost, .ref a_t_broken, .ref a_t_away, .ref a_t_text, .int t_length, .int t_textSize, .int t_start, .int t_next, .int t_token, .int t_value, .int t_error, .int t_errorAt, .int t_number, .int t_isFirst, .ref a_t_worth, .ref a_t_choice, .ref a_t_thought, .ref a_t_before, .ref a_t_deep, .int t_limitNow, .ref a_t_price, .int t_undos, .ref a_t_undo, .ref a_t_slots, .ref a_t_isSaved])), (a_t_now, .inl (cT 0, 514, .inl t_now)), (a_t_told, .inl (cT 0, 8, .inl t_told)), (a_t_one, .inl (cT 0, 48, .inl t_one)), (a_t_other, .inl (cT 0, 48, .inl t_other)), (a_t_forth, .inl (cT 0, 48, .inl t_forth)), (a_t_cost, .inl (cT 0, 48, .inl t_cost)), (a_t_broken, .inl (cT 0, 72, .inl t_broken)), (a_t_away, .inl (cT 0, 72, .inl t_away)), (a_t_worth, .inl (cT 1, 1024, .inr (.inl t_worth))), (a_t_choice, .inl (cT 0, 1024, .inl t_choice)), (a_p2, .inl (cT 0, N_p2, .inl p2))] := by
    intro t_worth t_choice h
    refine xi_iconst C (v := 0) dX11_bestFor_261 rfl ?_
    refine xi_istore C [1, 0] (L2 := [(0, .ref a_t), (4, .int 0)]) dX11_bestFor_262 (Nat.le_of_ble_eq_true rfl) rfl ?_
    refine xi_aload_n C 0 dX11_bestFor_264 rfl ?_
    replace h := ob h
    obtain ⟨u5, hu6, h⟩ := h
    refine xi_callVr C (kX11_all l D cT a_t a_t_now a_t_told a_t_one a_t_other a_t_forth a_t_cost a_t_broken a_t_away a_t_text a_t_worth a_t_choice a_t_thought a_t_before a_t_deep a_t_price a_t_undo a_t_slots a_t_isSaved t_thrown t_length t_textSize t_start t_next t_token t_value t_error t_errorAt t_number t_isFirst t_limitNow t_undos t_told u5 hu6) zcX11_all zmX11_231 ziX11_all (zr rfl rfl) z00 rfl [0, 2] rfl rfl zkX11.1 (qr := 0) rfl rfl (Nat.le_of_ble_eq_true rfl) dX11_bestFor_265 (fun z7 => ?_)
    refine xi_istore C [1, 2, 0] (L2 := [(0, .ref a_t), (4, .int 0), (5, .int u5)]) dX11_bestFor_268 (Nat.le_of_ble_eq_true rfl) rfl ?_
    exact B270 FU 0 u5 t_worth t_choice h
  have B248 : ∀ (K3 : Int32 → (Nat → Int64) → (Nat → Int32) → Option (Int32 × (Nat → Int64) × (Nat → Int32))) (hK3 : ∀ (y4 : Int32) (t_worth : Nat → Int64) (t_choice : Nat → Int32), K3 y4 t_worth t_choice = some r → sW X l (zR 4) D 10 0 0 3 [(0, .ref a_t), (1, .int x1), (2, .ref a_p2), (3, .int x3), (4, .int y4)] [] [(a_t, .inr (11, [.int t_thrown, .ref a_t_now, .ref a_t_told, .ref a_t_one, .ref a_t_other, .ref a_t_forth, .ref a_t_cost, .ref a_t_broken, .ref a_t_away, .ref a_t_text, .int t_length, .int t_textSize, .int t_start, .int t_next, .int t_token, .int t_value, .int t_error, .int t_errorAt, .int t_number, .int t_isFirst, .ref a_t_worth, .ref a_t_choice, .ref a_t_thought, .ref a_t_before, .ref a_t_deep, .int t_limitNow, .ref a_t_price, .int t_undos, .ref a_t_undo, .ref a_t_slots, .ref a_t_isSaved])), (a_t_now, .inl (cT 0, 514, .inl t_now)), (a_t_told, .inl (cT 0, 8, .inl t_told)), (a_t_one, .inl (cT 0, 48, .inl t_one)), (a_t_other, .inl (cT 0, 48, .inl t_other)), (a_t_forth, .inl (cT 0, 48, .inl t_forth)), (a_t_cost, .inl (cT 0, 48, .inl t_cost)), (a_t_broken, .inl (cT 0, 72, .inl t_broken)), (a_t_away, .inl (cT 0, 72, .inl t_away)), (a_t_worth, .inl (cT 1, 1024, .inr (.inl t_worth))), (a_t_choice, .inl (cT 0, 1024, .inl t_choice)), (a_p2, .inl (cT 0, N_p2, .inl p2))]) (K49 : Int32 → Int32 → Int32 → (Nat → Int64) → (Nat → Int32) → Option (Int32 × (Nat → Int64) × (Nat → Int32))) (hK49 : ∀ (y4 : Int32) (y5 : Int32) (y6 : Int32) (t_worth : Nat → Int64) (t_choice : Nat → Int32), K49 y4 y5 y6 t_worth t_choice = some r → sW X l (zR 4) D 10 0 0 49 [(0, .ref a_t), (1, .int x1), (2, .ref a_p2), (3, .int x3), (4, .int y4), (5, .int y5), (6, .int y6)] [] [(a_t, .inr (11, [.int t_thrown, .ref a_t_now, .ref a_t_told, .ref a_t_one, .ref a_t_other, .ref a_t_forth, .ref a_t_cost, .ref a_t_broken, .ref a_t_away, .ref a_t_text, .int t_length, .int t_textSize, .int t_start, .int t_next, .int t_token, .int t_value, .int t_error, .int t_errorAt, .int t_number, .int t_isFirst, .ref a_t_worth, .ref a_t_choice, .ref a_t_thought, .ref a_t_before, .ref a_t_deep, .int t_limitNow, .ref a_t_price, .int t_undos, .ref a_t_undo, .ref a_t_slots, .ref a_t_isSaved])), (a_t_now, .inl (cT 0, 514, .inl t_now)), (a_t_told, .inl (cT 0, 8, .inl t_told)), (a_t_one, .inl (cT 0, 48, .inl t_one)), (a_t_other, .inl (cT 0, 48, .inl t_other)), (a_t_forth, .inl (cT 0, 48, .inl t_forth)), (a_t_cost, .inl (cT 0, 48, .inl t_cost)), (a_t_broken, .inl (cT 0, 72, .inl t_broken)), (a_t_away, .inl (cT 0, 72, .inl t_away)), (a_t_worth, .inl (cT 1, 1024, .inr (.inl t_worth))), (a_t_choice, .inl (cT 0, 1024, .inl t_choice)), (a_p2, .inl (cT 0, N_p2, .inl p2))]) (y4 : Int32) (y5 : Int32) (y6 : Int32) (s0 : Int64) (s1 : Int32) (t_worth : Nat → Int64) (t_choice : Nat → Int32), fX11_bestFor_b248 K49 y4 y5 y6 s0 s1 t_worth t_choice = some r → sW X l (zR 4) D 10 0 0 248 [(0, .ref a_t), (1, .int x1), (2, .ref a_p2), (3, .int x3), (4, .int y4), (5, .int y5), (6, .int y6)] [.long s0, .int s1, .ref a_t_worth] [(a_t, .inr (11, [.int t_thrown, .ref a_t_now, .ref a_t_told, .ref a_t_one, .ref a_t_other, .ref a_t_forth, .ref a_t_cost, .ref a_t_broken, .ref a_t_away, .ref a_t_text, .int t_length, .int t_textSize, .int t_start, .int t_next, .int t_token, .int t_value, .int t_error, .int t_errorAt, .int t_number, .int t_isFirst, .ref a_t_worth, .ref a_t_choice, .ref a_t_thought, .ref a_t_before, .ref a_t_deep, .int t_limitNow, .ref a_t_price, .int t_undos, .ref a_t_undo, .ref a_t_slots, .ref a_t_isSaved])), (a_t_now, .inl (cT 0, 514, .inl t_now)), (a_t_told, .inl (cT 0, 8, .inl t_told)), (a_t_one, .inl (cT 0, 48, .inl t_one)), (a_t_other, .inl (cT 0, 48, .inl t_other)), (a_t_forth, .inl (cT 0, 48, .inl t_forth)), (a_t_cost, .inl (cT 0, 48, .inl t_cost)), (a_t_broken, .inl (cT 0, 72, .inl t_broken)), (a_t_away, .inl (cT 0, 72, .inl t_away)), (a_t_worth, .inl (cT 1, 1024, .inr (.inl t_worth))), (a_t_choice, .inl (cT 0, 1024, .inl t_choice)), (a_p2, .inl (cT 0, N_p2, .inl p2))] := by
    intro K3 hK3 K49 hK49 y4 y5 y6 s0 s1 t_worth t_choice h
    replace h := ig h
    obtain ⟨c44, h⟩ := h
    refine xi_last C 9 rfl c44 dX11_bestFor_248 (ws2 := [(a_t, .inr (11, [.int t_thrown, .ref a_t_now, .ref a_t_told, .ref a_t_one, .ref a_t_other, .ref a_t_forth, .ref a_t_cost, .ref a_t_broken, .ref a_t_away, .ref a_t_text, .int t_length, .int t_textSize, .int t_start, .int t_next, .int t_token, .int t_value, .int t_error, .int t_errorAt, .int t_number, .int t_isFirst, .ref a_t_worth, .ref a_t_choice, .ref a_t_thought, .ref a_t_before, .ref a_t_deep, .int t_limitNow, .ref a_t_price, .int t_undos, .ref a_t_undo, .ref a_t_slots, .ref a_t_isSaved])), (a_t_now, .inl (cT 0, 514, .inl t_now)), (a_t_told, .inl (cT 0, 8, .inl t_told)), (a_t_one, .inl (cT 0, 48, .inl t_one)), (a_t_other, .inl (cT 0, 48, .inl t_other)), (a_t_forth, .inl (cT 0, 48, .inl t_forth)), (a_t_cost, .inl (cT 0, 48, .inl t_cost)), (a_t_broken, .inl (cT 0, 72, .inl t_broken)), (a_t_away, .inl (cT 0, 72, .inl t_away)), (a_t_worth, .inl (cT 1, 1024, .inr (.inl (vp_updL t_worth s1.toNatClampNeg s0)))), (a_t_choice, .inl (cT 0, 1024, .inl t_choice)), (a_p2, .inl (cT 0, N_p2, .inl p2))]) rfl ?_
    refine xi_iinc C (v := y6 + 1) 6 [1, 2, 3, 4, 5, 6, 0] (L2 := [(0, .ref a_t), (1, .int x1), (2, .ref a_p2), (3, .int x3), (4, .int y4), (5, .int y5), (6, .int (y6 + 1))]) dX11_bestFor_249 rfl rfl (Nat.le_of_ble_eq_true rfl) rfl ?_
    refine xi_goto C (tgt := 49) dX11_bestFor_252 rfl ?_
    exact hK49 y4 y5 (y6 + 1) (vp_updL t_worth s1.toNatClampNeg s0) t_choice h
  have B216 : ∀ (K3 : Int32 → (Nat → Int64) → (Nat → Int32) → Option (Int32 × (Nat → Int64) × (Nat → Int32))) (hK3 : ∀ (y4 : Int32) (t_worth : Nat → Int64) (t_choice : Nat → Int32), K3 y4 t_worth t_choice = some r → sW X l (zR 4) D 10 0 0 3 [(0, .ref a_t), (1, .int x1), (2, .ref a_p2), (3, .int x3), (4, .int y4)] [] [(a_t, .inr (11, [.int t_thrown, .ref a_t_now, .ref a_t_told, .ref a_t_one, .ref a_t_other, .ref a_t_forth, .ref a_t_cost, .ref a_t_broken, .ref a_t_away, .ref a_t_text, .int t_length, .int t_textSize, .int t_start, .int t_next, .int t_token, .int t_value, .int t_error, .int t_errorAt, .int t_number, .int t_isFirst, .ref a_t_worth, .ref a_t_choice, .ref a_t_thought, .ref a_t_before, .ref a_t_deep, .int t_limitNow, .ref a_t_price, .int t_undos, .ref a_t_undo, .ref a_t_slots, .ref a_t_isSaved])), (a_t_now, .inl (cT 0, 514, .inl t_now)), (a_t_told, .inl (cT 0, 8, .inl t_told)), (a_t_one, .inl (cT 0, 48, .inl t_one)), (a_t_other, .inl (cT 0, 48, .inl t_other)), (a_t_forth, .inl (cT 0, 48, .inl t_forth)), (a_t_cost, .inl (cT 0, 48, .inl t_cost)), (a_t_broken, .inl (cT 0, 72, .inl t_broken)), (a_t_away, .inl (cT 0, 72, .inl t_away)), (a_t_worth, .inl (cT 1, 1024, .inr (.inl t_worth))), (a_t_choice, .inl (cT 0, 1024, .inl t_choice)), (a_p2, .inl (cT 0, N_p2, .inl p2))]) (K49 : Int32 → Int32 → Int32 → (Nat → Int64) → (Nat → Int32) → Option (Int32 × (Nat → Int64) × (Nat → Int32))) (hK49 : ∀ (y4 : Int32) (y5 : Int32) (y6 : Int32) (t_worth : Nat → Int64) (t_choice : Nat → Int32), K49 y4 y5 y6 t_worth t_choice = some r → sW X l (zR 4) D 10 0 0 49 [(0, .ref a_t), (1, .int x1), (2, .ref a_p2), (3, .int x3), (4, .int y4), (5, .int y5), (6, .int y6)] [] [(a_t, .inr (11, [.int t_thrown, .ref a_t_now, .ref a_t_told, .ref a_t_one, .ref a_t_other, .ref a_t_forth, .ref a_t_cost, .ref a_t_broken, .ref a_t_away, .ref a_t_text, .int t_length, .int t_textSize, .int t_start, .int t_next, .int t_token, .int t_value, .int t_error, .int t_errorAt, .int t_number, .int t_isFirst, .ref a_t_worth, .ref a_t_choice, .ref a_t_thought, .ref a_t_before, .ref a_t_deep, .int t_limitNow, .ref a_t_price, .int t_undos, .ref a_t_undo, .ref a_t_slots, .ref a_t_isSaved])), (a_t_now, .inl (cT 0, 514, .inl t_now)), (a_t_told, .inl (cT 0, 8, .inl t_told)), (a_t_one, .inl (cT 0, 48, .inl t_one)), (a_t_other, .inl (cT 0, 48, .inl t_other)), (a_t_forth, .inl (cT 0, 48, .inl t_forth)), (a_t_cost, .inl (cT 0, 48, .inl t_cost)), (a_t_broken, .inl (cT 0, 72, .inl t_broken)), (a_t_away, .inl (cT 0, 72, .inl t_away)), (a_t_worth, .inl (cT 1, 1024, .inr (.inl t_worth))), (a_t_choice, .inl (cT 0, 1024, .inl t_choice)), (a_p2, .inl (cT 0, N_p2, .inl p2))]) (y4 : Int32) (y5 : Int32) (y6 : Int32) (y8 : Int64) (s0 : Int32) (s1 : Int32) (t_worth : Nat → Int64) (t_choice : Nat → Int32), fX11_bestFor_b216 K49 y4 y5 y6 y8 s0 s1 t_worth t_choice = some r → sW X l (zR 4) D 10 0 0 216 [(0, .ref a_t), (1, .int x1), (2, .ref a_p2), (3, .int x3), (4, .int y4), (5, .int y5), (6, .int y6), (8, .long y8)] [.int s0, .int s1, .ref a_t_choice] [(a_t, .inr (11, [.int t_thrown, .ref a_t_now, .ref a_t_told, .ref a_t_one, .ref a_t_other, .ref a_t_forth, .ref a_t_cost, .ref a_t_broken, .ref a_t_away, .ref a_t_text, .int t_length, .int t_textSize, .int t_start, .int t_next, .int t_token, .int t_value, .int t_error, .int t_errorAt, .int t_number, .int t_isFirst, .ref a_t_worth, .ref a_t_choice, .ref a_t_thought, .ref a_t_before, .ref a_t_deep, .int t_limitNow, .ref a_t_price, .int t_undos, .ref a_t_undo, .ref a_t_slots, .ref a_t_isSaved])), (a_t_now, .inl (cT 0, 514, .inl t_now)), (a_t_told, .inl (cT 0, 8, .inl t_told)), (a_t_one, .inl (cT 0, 48, .inl t_one)), (a_t_other, .inl (cT 0, 48, .inl t_other)), (a_t_forth, .inl (cT 0, 48, .inl t_forth)), (a_t_cost, .inl (cT 0, 48, .inl t_cost)), (a_t_broken, .inl (cT 0, 72, .inl t_broken)), (a_t_away, .inl (cT 0, 72, .inl t_away)), (a_t_worth, .inl (cT 1, 1024, .inr (.inl t_worth))), (a_t_choice, .inl (cT 0, 1024, .inl t_choice)), (a_p2, .inl (cT 0, N_p2, .inl p2))] := by
    intro K3 hK3 K49 hK49 y4 y5 y6 y8 s0 s1 t_worth t_choice h
    replace h := ig h
    obtain ⟨c41, h⟩ := h
    refine xi_iast C 10 rfl c41 dX11_bestFor_216 (ws2 := [(a_t, .inr (11, [.int t_thrown, .ref a_t_now, .ref a_t_told, .ref a_t_one, .ref a_t_other, .ref a_t_forth, .ref a_t_cost, .ref a_t_broken, .ref a_t_away, .ref a_t_text, .int t_length, .int t_textSize, .int t_start, .int t_next, .int t_token, .int t_value, .int t_error, .int t_errorAt, .int t_number, .int t_isFirst, .ref a_t_worth, .ref a_t_choice, .ref a_t_thought, .ref a_t_before, .ref a_t_deep, .int t_limitNow, .ref a_t_price, .int t_undos, .ref a_t_undo, .ref a_t_slots, .ref a_t_isSaved])), (a_t_now, .inl (cT 0, 514, .inl t_now)), (a_t_told, .inl (cT 0, 8, .inl t_told)), (a_t_one, .inl (cT 0, 48, .inl t_one)), (a_t_other, .inl (cT 0, 48, .inl t_other)), (a_t_forth, .inl (cT 0, 48, .inl t_forth)), (a_t_cost, .inl (cT 0, 48, .inl t_cost)), (a_t_broken, .inl (cT 0, 72, .inl t_broken)), (a_t_away, .inl (cT 0, 72, .inl t_away)), (a_t_worth, .inl (cT 1, 1024, .inr (.inl t_worth))), (a_t_choice, .inl (cT 0, 1024, .inl (upd t_choice s1.toNatClampNeg s0))), (a_p2, .inl (cT 0, N_p2, .inl p2))]) rfl ?_
    refine xi_aload_n C 0 dX11_bestFor_217 rfl ?_
    refine xi_get C zkX11 20 0 zlX11_42 (by decide) rfl rfl dX11_bestFor_218 ?_
    refine xi_iload C 4 dX11_bestFor_221 rfl ?_
    refine xi_lload C 7 dX11_bestFor_223 rfl ?_
    refine xi_aload_n C 0 dX11_bestFor_225 rfl ?_
    refine xi_get C zkX11 20 0 zlX11_42 (by decide) rfl rfl dX11_bestFor_226 ?_
    refine xi_iload C 4 dX11_bestFor_229 rfl ?_
    replace h := ig h
    obtain ⟨c42, h⟩ := h
    refine xi_lald C 9 rfl c42 dX11_bestFor_231 ?_
    refine xi_lcmp C dX11_bestFor_232 ?_
    refine xi_if_le C (tgt := 241) dX11_bestFor_233 rfl (fun c43 => ?_) (fun c43 => ?_)
    · replace h := (if_pos c43).symm.trans h
      refine xi_aload_n C 0 dX11_bestFor_241 rfl ?_
      refine xi_get C zkX11 20 0 zlX11_42 (by decide) rfl rfl dX11_bestFor_242 ?_
      refine xi_iload C 4 dX11_bestFor_245 rfl ?_
      refine xi_lald C 9 rfl c42 dX11_bestFor_247 ?_
      refine xi_drop (L2 := [(0, .ref a_t), (1, .int x1), (2, .ref a_p2), (3, .int x3), (4, .int y4), (5, .int y5), (6, .int y6)]) [0, 1, 2, 3, 4, 5, 6] rfl ?_
      exact B248 K3 hK3 K49 hK49 y4 y5 y6 (t_worth y4.toNatClampNeg) y4 t_worth (upd t_choice s1.toNatClampNeg s0) h
    · replace h := (if_neg c43).symm.trans h
      refine xi_lload C 7 dX11_bestFor_236 rfl ?_
      refine xi_goto C (tgt := 248) dX11_bestFor_238 rfl ?_
      refine xi_drop (L2 := [(0, .ref a_t), (1, .int x1), (2, .ref a_p2), (3, .int x3), (4, .int y4), (5, .int y5), (6, .int y6)]) [0, 1, 2, 3, 4, 5, 6] rfl ?_
      exact B248 K3 hK3 K49 hK49 y4 y5 y6 y8 y4 t_worth (upd t_choice s1.toNatClampNeg s0) h
  have B105 : ∀ (K3 : Int32 → (Nat → Int64) → (Nat → Int32) → Option (Int32 × (Nat → Int64) × (Nat → Int32))) (hK3 : ∀ (y4 : Int32) (t_worth : Nat → Int64) (t_choice : Nat → Int32), K3 y4 t_worth t_choice = some r → sW X l (zR 4) D 10 0 0 3 [(0, .ref a_t), (1, .int x1), (2, .ref a_p2), (3, .int x3), (4, .int y4)] [] [(a_t, .inr (11, [.int t_thrown, .ref a_t_now, .ref a_t_told, .ref a_t_one, .ref a_t_other, .ref a_t_forth, .ref a_t_cost, .ref a_t_broken, .ref a_t_away, .ref a_t_text, .int t_length, .int t_textSize, .int t_start, .int t_next, .int t_token, .int t_value, .int t_error, .int t_errorAt, .int t_number, .int t_isFirst, .ref a_t_worth, .ref a_t_choice, .ref a_t_thought, .ref a_t_before, .ref a_t_deep, .int t_limitNow, .ref a_t_price, .int t_undos, .ref a_t_undo, .ref a_t_slots, .ref a_t_isSaved])), (a_t_now, .inl (cT 0, 514, .inl t_now)), (a_t_told, .inl (cT 0, 8, .inl t_told)), (a_t_one, .inl (cT 0, 48, .inl t_one)), (a_t_other, .inl (cT 0, 48, .inl t_other)), (a_t_forth, .inl (cT 0, 48, .inl t_forth)), (a_t_cost, .inl (cT 0, 48, .inl t_cost)), (a_t_broken, .inl (cT 0, 72, .inl t_broken)), (a_t_away, .inl (cT 0, 72, .inl t_away)), (a_t_worth, .inl (cT 1, 1024, .inr (.inl t_worth))), (a_t_choice, .inl (cT 0, 1024, .inl t_choice)), (a_p2, .inl (cT 0, N_p2, .inl p2))]) (K49 : Int32 → Int32 → Int32 → (Nat → Int64) → (Nat → Int32) → Option (Int32 × (Nat → Int64) × (Nat → Int32))) (hK49 : ∀ (y4 : Int32) (y5 : Int32) (y6 : Int32) (t_worth : Nat → Int64) (t_choice : Nat → Int32), K49 y4 y5 y6 t_worth t_choice = some r → sW X l (zR 4) D 10 0 0 49 [(0, .ref a_t), (1, .int x1), (2, .ref a_p2), (3, .int x3), (4, .int y4), (5, .int y5), (6, .int y6)] [] [(a_t, .inr (11, [.int t_thrown, .ref a_t_now, .ref a_t_told, .ref a_t_one, .ref a_t_other, .ref a_t_forth, .ref a_t_cost, .ref a_t_broken, .ref a_t_away, .ref a_t_text, .int t_length, .int t_textSize, .int t_start, .int t_next, .int t_token, .int t_value, .int t_error, .int t_errorAt, .int t_number, .int t_isFirst, .ref a_t_worth, .ref a_t_choice, .ref a_t_thought, .ref a_t_before, .ref a_t_deep, .int t_limitNow, .ref a_t_price, .int t_undos, .ref a_t_undo, .ref a_t_slots, .ref a_t_isSaved])), (a_t_now, .inl (cT 0, 514, .inl t_now)), (a_t_told, .inl (cT 0, 8, .inl t_told)), (a_t_one, .inl (cT 0, 48, .inl t_one)), (a_t_other, .inl (cT 0, 48, .inl t_other)), (a_t_forth, .inl (cT 0, 48, .inl t_forth)), (a_t_cost, .inl (cT 0, 48, .inl t_cost)), (a_t_broken, .inl (cT 0, 72, .inl t_broken)), (a_t_away, .inl (cT 0, 72, .inl t_away)), (a_t_worth, .inl (cT 1, 1024, .inr (.inl t_worth))), (a_t_choice, .inl (cT 0, 1024, .inl t_choice)), (a_p2, .inl (cT 0, N_p2, .inl p2))]) (y4 : Int32) (y5 : Int32) (y6 : Int32) (s0 : Int32) (t_worth : Nat → Int64) (t_choice : Nat → Int32), fX11_bestFor_b105 N_p2 t_now t_told t_one t_other t_forth t_cost t_broken t_away p2 x1 x3 K49 y4 y5 y6 s0 t_worth t_choice = some r → sW X l (zR 4) D 10 0 0 105 [(0, .ref a_t), (1, .int x1), (2, .ref a_p2), (3, .int x3), (4, .int y4), (5, .int y5), (6, .int y6)] [.int s0] [(a_t, .inr (11, [.int t_thrown, .ref a_t_now, .ref a_t_told, .ref a_t_one, .ref a_t_other, .ref a_t_forth, .ref a_t_cost, .ref a_t_broken, .ref a_t_away, .ref a_t_text, .int t_length, .int t_textSize, .int t_start, .int t_next, .int t_token, .int t_value, .int t_error, .int t_errorAt, .int t_number, .int t_isFirst, .ref a_t_worth, .ref a_t_choice, .ref a_t_thought, .ref a_t_before, .ref a_t_deep, .int t_limitNow, .ref a_t_price, .int t_undos, .ref a_t_undo, .ref a_t_slots, .ref a_t_isSaved])), (a_t_now, .inl (cT 0, 514, .inl t_now)), (a_t_told, .inl (cT 0, 8, .inl t_told)), (a_t_one, .inl (cT 0, 48, .inl t_one)), (a_t_other, .inl (cT 0, 48, .inl t_other)), (a_t_forth, .inl (cT 0, 48, .inl t_forth)), (a_t_cost, .inl (cT 0, 48, .inl t_cost)), (a_t_broken, .inl (cT 0, 72, .inl t_broken)), (a_t_away, .inl (cT 0, 72, .inl t_away)), (a_t_worth, .inl (cT 1, 1024, .inr (.inl t_worth))), (a_t_choice, .inl (cT 0, 1024, .inl t_choice)), (a_p2, .inl (cT 0, N_p2, .inl p2))] := by
    intro K3 hK3 K49 hK49 y4 y5 y6 s0 t_worth t_choice h
    refine xi_istore C [1, 2, 3, 4, 5, 6, 7, 0] (L2 := [(0, .ref a_t), (1, .int x1), (2, .ref a_p2), (3, .int x3), (4, .int y4), (5, .int y5), (6, .int y6), (7, .int s0)]) dX11_bestFor_105 (Nat.le_of_ble_eq_true rfl) rfl ?_
    refine xi_iload C 7 dX11_bestFor_107 rfl ?_
    refine xi_iconst C (v := (-1)) dX11_bestFor_109 rfl ?_
    refine xi_icmp_eq C (tgt := 249) dX11_bestFor_110 rfl (fun c25 => ?_) (fun c25 => ?_)
    · replace h := (if_pos c25).symm.trans h
      refine xi_iinc C (v := y6 + 1) 6 [1, 2, 3, 4, 5, 6, 0, 7] (L2 := [(0, .ref a_t), (1, .int x1), (2, .ref a_p2), (3, .int x3), (4, .int y4), (5, .int y5), (6, .int (y6 + 1)), (7, .int s0)]) dX11_bestFor_249 rfl rfl (Nat.le_of_ble_eq_true rfl) rfl ?_
      refine xi_goto C (tgt := 49) dX11_bestFor_252 rfl ?_
      refine xi_drop (L2 := [(0, .ref a_t), (1, .int x1), (2, .ref a_p2), (3, .int x3), (4, .int y4), (5, .int y5), (6, .int (y6 + 1))]) [0, 1, 2, 3, 4, 5, 6] rfl ?_
      exact hK49 y4 y5 (y6 + 1) t_worth t_choice h
    · replace h := (if_neg c25).symm.trans h
      refine xi_iload C 4 dX11_bestFor_113 rfl ?_
      refine xi_iload C 7 dX11_bestFor_115 rfl ?_
      refine xi_callSr C (kX11_isIn l D cT y4 s0 (fX11_isIn y4 s0) rfl) zcX11_isIn zmX11_201 zsX11_isIn (zr rfl rfl) z00 rfl [] rfl rfl rfl (Nat.le_of_ble_eq_true rfl) dX11_bestFor_117 (fun z28 => ?_)
      refine xi_if_eq C (tgt := 249) dX11_bestFor_120 rfl (fun c29 => ?_) (fun c29 => ?_)
      · replace h := (if_pos c29).symm.trans h
        refine xi_iinc C (v := y6 + 1) 6 [1, 2, 3, 4, 5, 6, 0, 7] (L2 := [(0, .ref a_t), (1, .int x1), (2, .ref a_p2), (3, .int x3), (4, .int y4), (5, .int y5), (6, .int (y6 + 1)), (7, .int s0)]) dX11_bestFor_249 rfl rfl (Nat.le_of_ble_eq_true rfl) rfl ?_
        refine xi_goto C (tgt := 49) dX11_bestFor_252 rfl ?_
        refine xi_drop (L2 := [(0, .ref a_t), (1, .int x1), (2, .ref a_p2), (3, .int x3), (4, .int y4), (5, .int y5), (6, .int (y6 + 1))]) [0, 1, 2, 3, 4, 5, 6] rfl ?_
        exact hK49 y4 y5 (y6 + 1) t_worth t_choice h
      · replace h := (if_neg c29).symm.trans h
        refine xi_aload_n C 0 dX11_bestFor_123 rfl ?_
        refine xi_iload C 6 dX11_bestFor_124 rfl ?_
        refine xi_iload_n C 1 dX11_bestFor_126 rfl ?_
        replace h := ob h
        obtain ⟨u30, hu31, h⟩ := h
        refine xi_callVr C (kX11_canCall l D cT a_t a_t_now a_t_told a_t_one a_t_other a_t_forth a_t_cost a_t_broken a_t_away a_t_text a_t_worth a_t_choice a_t_thought a_t_before a_t_deep a_t_price a_t_undo a_t_slots a_t_isSaved t_thrown t_length t_textSize t_start t_next t_token t_value t_error t_errorAt t_number t_isFirst t_limitNow t_undos t_now t_told t_one t_other t_broken t_away y6 x1 u30 hu31) zcX11_canCall zmX11_207 ziX11_canCall (zr rfl rfl) z00 rfl [0, 1, 2, 3, 4, 7, 8] rfl rfl zkX11.1 (qr := 0) rfl rfl (Nat.le_of_ble_eq_true rfl) dX11_bestFor_127 (fun z32 => ?_)
        refine xi_if_ne C (tgt := 136) dX11_bestFor_130 rfl (fun c33 => ?_) (fun c33 => ?_)
        · replace h := (if_neg c33).symm.trans h
          refine xi_aload_n C 0 dX11_bestFor_136 rfl ?_
          refine xi_iload C 6 dX11_bestFor_137 rfl ?_
          refine xi_aload_n C 2 dX11_bestFor_139 rfl ?_
          refine xi_iload_n C 3 dX11_bestFor_140 rfl ?_
          replace h := ob h
          obtain ⟨u34, hu35, h⟩ := h
          refine xi_callVr C (kX11_gainOf l D cT a_t a_t_now a_t_told a_t_one a_t_other a_t_forth a_t_cost a_t_broken a_t_away a_t_text a_t_worth a_t_choice a_t_thought a_t_before a_t_deep a_t_price a_t_undo a_t_slots a_t_isSaved a_p2 N_p2 t_thrown t_length t_textSize t_start t_next t_token t_value t_error t_errorAt t_number t_isFirst t_limitNow t_undos t_one t_other t_forth p2 y6 x3 u34 hu35) zcX11_gainOf zmX11_224 ziX11_gainOf (zr rfl rfl) z00 rfl [0, 3, 4, 5, 11] rfl rfl zkX11.1 (qr := 0) rfl rfl (Nat.le_of_ble_eq_true rfl) dX11_bestFor_141 (fun z36 => ?_)
          refine xi_i2l C dX11_bestFor_144 ?_
          refine xi_bipush C (v := 40) dX11_bestFor_145 rfl ?_
          refine xi_lshl C dX11_bestFor_147 ?_
          refine xi_aload_n C 0 dX11_bestFor_148 rfl ?_
          refine xi_get C zkX11 6 0 zlX11_25 (by decide) rfl rfl dX11_bestFor_149 ?_
          refine xi_iload C 6 dX11_bestFor_152 rfl ?_
          replace h := ig h
          obtain ⟨c37, h⟩ := h
          refine xi_iald C 6 rfl c37 dX11_bestFor_154 ?_
          refine xi_i2l C dX11_bestFor_155 ?_
          refine xi_bipush C (v := 25) dX11_bestFor_156 rfl ?_
          refine xi_lshl C dX11_bestFor_158 ?_
          refine xi_lsub C dX11_bestFor_159 ?_
          refine xi_lconst C (v := 1) dX11_bestFor_160 rfl ?_
          refine xi_iload C 6 dX11_bestFor_161 rfl ?_
          refine xi_lshl C dX11_bestFor_163 ?_
          refine xi_lsub C dX11_bestFor_164 ?_
          refine xi_aload_n C 0 dX11_bestFor_165 rfl ?_
          refine xi_get C zkX11 20 0 zlX11_42 (by decide) rfl rfl dX11_bestFor_166 ?_
          refine xi_iload C 4 dX11_bestFor_169 rfl ?_
          refine xi_iconst C (v := 1) dX11_bestFor_171 rfl ?_
          refine xi_iload C 5 dX11_bestFor_172 rfl ?_
          refine xi_ishl C dX11_bestFor_174 ?_
          refine xi_isub C dX11_bestFor_175 ?_
          refine xi_iconst C (v := 1) dX11_bestFor_176 rfl ?_
          refine xi_iload C 7 dX11_bestFor_177 rfl ?_
          refine xi_ishl C dX11_bestFor_179 ?_
          refine xi_isub C dX11_bestFor_180 ?_
          replace h := ig h
          obtain ⟨c38, h⟩ := h
          refine xi_lald C 9 rfl c38 dX11_bestFor_181 ?_
          refine xi_ladd C dX11_bestFor_182 ?_
          refine xi_lstore C [1, 2, 3, 4, 5, 6, 7, 8, 0] (L2 := [(0, .ref a_t), (1, .int x1), (2, .ref a_p2), (3, .int x3), (4, .int y4), (5, .int y5), (6, .int y6), (7, .int s0), (8, .long ((((u34.toInt64 <<< ((40 : Int32).toInt64 &&& 63)) - (((t_cost y6.toNatClampNeg).toInt64) <<< ((25 : Int32).toInt64 &&& 63))) - (1 <<< (y6.toInt64 &&& 63))) + (t_worth ((y4 - (1 <<< (y5 &&& 31))) - (1 <<< (s0 &&& 31))).toNatClampNeg)))]) dX11_bestFor_183 (Nat.le_of_ble_eq_true rfl) rfl ?_
          refine xi_aload_n C 0 dX11_bestFor_185 rfl ?_
          refine xi_get C zkX11 21 0 zlX11_46 (by decide) rfl rfl dX11_bestFor_186 ?_
          refine xi_iload C 4 dX11_bestFor_189 rfl ?_
          refine xi_lload C 8 dX11_bestFor_191 rfl ?_
          refine xi_aload_n C 0 dX11_bestFor_193 rfl ?_
          refine xi_get C zkX11 20 0 zlX11_42 (by decide) rfl rfl dX11_bestFor_194 ?_
          refine xi_iload C 4 dX11_bestFor_197 rfl ?_
          replace h := ig h
          obtain ⟨c39, h⟩ := h
          refine xi_lald C 9 rfl c39 dX11_bestFor_199 ?_
          refine xi_lcmp C dX11_bestFor_200 ?_
          refine xi_if_le C (tgt := 209) dX11_bestFor_201 rfl (fun c40 => ?_) (fun c40 => ?_)
          · replace h := (if_pos c40).symm.trans h
            refine xi_aload_n C 0 dX11_bestFor_209 rfl ?_
            refine xi_get C zkX11 21 0 zlX11_46 (by decide) rfl rfl dX11_bestFor_210 ?_
            refine xi_iload C 4 dX11_bestFor_213 rfl ?_
            refine xi_iald C 10 rfl c39 dX11_bestFor_215 ?_
            refine xi_drop (L2 := [(0, .ref a_t), (1, .int x1), (2, .ref a_p2), (3, .int x3), (4, .int y4), (5, .int y5), (6, .int y6), (8, .long ((((u34.toInt64 <<< ((40 : Int32).toInt64 &&& 63)) - (((t_cost y6.toNatClampNeg).toInt64) <<< ((25 : Int32).toInt64 &&& 63))) - (1 <<< (y6.toInt64 &&& 63))) + (t_worth ((y4 - (1 <<< (y5 &&& 31))) - (1 <<< (s0 &&& 31))).toNatClampNeg)))]) [0, 1, 2, 3, 4, 5, 6, 8] rfl ?_
            exact B216 K3 hK3 K49 hK49 y4 y5 y6 ((((u34.toInt64 <<< ((40 : Int32).toInt64 &&& 63)) - (((t_cost y6.toNatClampNeg).toInt64) <<< ((25 : Int32).toInt64 &&& 63))) - (1 <<< (y6.toInt64 &&& 63))) + (t_worth ((y4 - (1 <<< (y5 &&& 31))) - (1 <<< (s0 &&& 31))).toNatClampNeg)) (t_choice y4.toNatClampNeg) y4 t_worth t_choice h
          · replace h := (if_neg c40).symm.trans h
            refine xi_iload C 6 dX11_bestFor_204 rfl ?_
            refine xi_goto C (tgt := 216) dX11_bestFor_206 rfl ?_
            refine xi_drop (L2 := [(0, .ref a_t), (1, .int x1), (2, .ref a_p2), (3, .int x3), (4, .int y4), (5, .int y5), (6, .int y6), (8, .long ((((u34.toInt64 <<< ((40 : Int32).toInt64 &&& 63)) - (((t_cost y6.toNatClampNeg).toInt64) <<< ((25 : Int32).toInt64 &&& 63))) - (1 <<< (y6.toInt64 &&& 63))) + (t_worth ((y4 - (1 <<< (y5 &&& 31))) - (1 <<< (s0 &&& 31))).toNatClampNeg)))]) [0, 1, 2, 3, 4, 5, 6, 8] rfl ?_
            exact B216 K3 hK3 K49 hK49 y4 y5 y6 ((((u34.toInt64 <<< ((40 : Int32).toInt64 &&& 63)) - (((t_cost y6.toNatClampNeg).toInt64) <<< ((25 : Int32).toInt64 &&& 63))) - (1 <<< (y6.toInt64 &&& 63))) + (t_worth ((y4 - (1 <<< (y5 &&& 31))) - (1 <<< (s0 &&& 31))).toNatClampNeg)) y6 y4 t_worth t_choice h
        · replace h := (if_pos c33).symm.trans h
          refine xi_goto C (tgt := 249) dX11_bestFor_133 rfl ?_
          refine xi_iinc C (v := y6 + 1) 6 [1, 2, 3, 4, 5, 6, 0, 7] (L2 := [(0, .ref a_t), (1, .int x1), (2, .ref a_p2), (3, .int x3), (4, .int y4), (5, .int y5), (6, .int (y6 + 1)), (7, .int s0)]) dX11_bestFor_249 rfl rfl (Nat.le_of_ble_eq_true rfl) rfl ?_
          refine xi_goto C (tgt := 49) dX11_bestFor_252 rfl ?_
          refine xi_drop (L2 := [(0, .ref a_t), (1, .int x1), (2, .ref a_p2), (3, .int x3), (4, .int y4), (5, .int y5), (6, .int (y6 + 1))]) [0, 1, 2, 3, 4, 5, 6] rfl ?_
          exact hK49 y4 y5 (y6 + 1) t_worth t_choice h
  have B49 : ∀ (K3 : Int32 → (Nat → Int64) → (Nat → Int32) → Option (Int32 × (Nat → Int64) × (Nat → Int32))) (hK3 : ∀ (y4 : Int32) (t_worth : Nat → Int64) (t_choice : Nat → Int32), K3 y4 t_worth t_choice = some r → sW X l (zR 4) D 10 0 0 3 [(0, .ref a_t), (1, .int x1), (2, .ref a_p2), (3, .int x3), (4, .int y4)] [] [(a_t, .inr (11, [.int t_thrown, .ref a_t_now, .ref a_t_told, .ref a_t_one, .ref a_t_other, .ref a_t_forth, .ref a_t_cost, .ref a_t_broken, .ref a_t_away, .ref a_t_text, .int t_length, .int t_textSize, .int t_start, .int t_next, .int t_token, .int t_value, .int t_error, .int t_errorAt, .int t_number, .int t_isFirst, .ref a_t_worth, .ref a_t_choice, .ref a_t_thought, .ref a_t_before, .ref a_t_deep, .int t_limitNow, .ref a_t_price, .int t_undos, .ref a_t_undo, .ref a_t_slots, .ref a_t_isSaved])), (a_t_now, .inl (cT 0, 514, .inl t_now)), (a_t_told, .inl (cT 0, 8, .inl t_told)), (a_t_one, .inl (cT 0, 48, .inl t_one)), (a_t_other, .inl (cT 0, 48, .inl t_other)), (a_t_forth, .inl (cT 0, 48, .inl t_forth)), (a_t_cost, .inl (cT 0, 48, .inl t_cost)), (a_t_broken, .inl (cT 0, 72, .inl t_broken)), (a_t_away, .inl (cT 0, 72, .inl t_away)), (a_t_worth, .inl (cT 1, 1024, .inr (.inl t_worth))), (a_t_choice, .inl (cT 0, 1024, .inl t_choice)), (a_p2, .inl (cT 0, N_p2, .inl p2))]) (n : Nat) (y4 : Int32) (y5 : Int32) (y6 : Int32) (t_worth : Nat → Int64) (t_choice : Nat → Int32), fX11_bestFor_b49 N_p2 t_now t_told t_one t_other t_forth t_cost t_broken t_away p2 x1 x3 K3 n y4 y5 y6 t_worth t_choice = some r → sW X l (zR 4) D 10 0 0 49 [(0, .ref a_t), (1, .int x1), (2, .ref a_p2), (3, .int x3), (4, .int y4), (5, .int y5), (6, .int y6)] [] [(a_t, .inr (11, [.int t_thrown, .ref a_t_now, .ref a_t_told, .ref a_t_one, .ref a_t_other, .ref a_t_forth, .ref a_t_cost, .ref a_t_broken, .ref a_t_away, .ref a_t_text, .int t_length, .int t_textSize, .int t_start, .int t_next, .int t_token, .int t_value, .int t_error, .int t_errorAt, .int t_number, .int t_isFirst, .ref a_t_worth, .ref a_t_choice, .ref a_t_thought, .ref a_t_before, .ref a_t_deep, .int t_limitNow, .ref a_t_price, .int t_undos, .ref a_t_undo, .ref a_t_slots, .ref a_t_isSaved])), (a_t_now, .inl (cT 0, 514, .inl t_now)), (a_t_told, .inl (cT 0, 8, .inl t_told)), (a_t_one, .inl (cT 0, 48, .inl t_one)), (a_t_other, .inl (cT 0, 48, .inl t_other)), (a_t_forth, .inl (cT 0, 48, .inl t_forth)), (a_t_cost, .inl (cT 0, 48, .inl t_cost)), (a_t_broken, .inl (cT 0, 72, .inl t_broken)), (a_t_away, .inl (cT 0, 72, .inl t_away)), (a_t_worth, .inl (cT 1, 1024, .inr (.inl t_worth))), (a_t_choice, .inl (cT 0, 1024, .inl t_choice)), (a_p2, .inl (cT 0, N_p2, .inl p2))] := by
    intro K3 hK3 n
    induction n with
    | zero =>
      intro y4 y5 y6 t_worth t_choice h
      exact zno ((fX11_bestFor_b49_0 _ _ _ _ _ _ _ _ _ _ _ _ _ _ _ _ _ _).symm.trans h)
    | succ n ih =>
      intro y4 y5 y6 t_worth t_choice h
      replace h := (fX11_bestFor_b49_s _ _ _ _ _ _ _ _ _ _ _ _ _ _ _ _ _ _ _).symm.trans h
      refine xi_iload C 6 dX11_bestFor_49 rfl ?_
      refine xi_aload_n C 0 dX11_bestFor_51 rfl ?_
      refine xi_get C zkX11 2 0 zlX11_13 (by decide) rfl rfl dX11_bestFor_52 ?_
      refine xi_iconst C (v := 1) dX11_bestFor_55 rfl ?_
      refine xi_iald C 2 rfl (zv (by decide)) dX11_bestFor_56 ?_
      refine xi_icmp_ge C (tgt := 255) dX11_bestFor_57 rfl (fun c21 => ?_) (fun c21 => ?_)
      · replace h := (if_pos c21).symm.trans h
        refine xi_iinc C (v := y4 + 1) 4 [1, 2, 3, 4, 0, 5, 6] (L2 := [(0, .ref a_t), (1, .int x1), (2, .ref a_p2), (3, .int x3), (4, .int (y4 + 1)), (5, .int y5), (6, .int y6)]) dX11_bestFor_255 rfl rfl (Nat.le_of_ble_eq_true rfl) rfl ?_
        refine xi_goto C (tgt := 3) dX11_bestFor_258 rfl ?_
        refine xi_drop (L2 := [(0, .ref a_t), (1, .int x1), (2, .ref a_p2), (3, .int x3), (4, .int (y4 + 1))]) [0, 1, 2, 3, 4] rfl ?_
        exact hK3 (y4 + 1) t_worth t_choice h
      · replace h := (if_neg c21).symm.trans h
        refine xi_aload_n C 0 dX11_bestFor_60 rfl ?_
        refine xi_get C zkX11 3 0 zlX11_16 (by decide) rfl rfl dX11_bestFor_61 ?_
        refine xi_iload C 6 dX11_bestFor_64 rfl ?_
        replace h := ig h
        obtain ⟨c22, h⟩ := h
        refine xi_iald C 3 rfl c22 dX11_bestFor_66 ?_
        refine xi_iload C 5 dX11_bestFor_67 rfl ?_
        refine xi_icmp_ne C (tgt := 82) dX11_bestFor_69 rfl (fun c23 => ?_) (fun c23 => ?_)
        · replace h := (if_neg c23).symm.trans h
          refine xi_aload_n C 0 dX11_bestFor_82 rfl ?_
          refine xi_get C zkX11 4 0 zlX11_19 (by decide) rfl rfl dX11_bestFor_83 ?_
          refine xi_iload C 6 dX11_bestFor_86 rfl ?_
          refine xi_iald C 4 rfl c22 dX11_bestFor_88 ?_
          refine xi_iload C 5 dX11_bestFor_89 rfl ?_
          refine xi_icmp_ne C (tgt := 104) dX11_bestFor_91 rfl (fun c24 => ?_) (fun c24 => ?_)
          · replace h := (if_neg c24).symm.trans h
            refine xi_iconst C (v := (-1)) dX11_bestFor_104 rfl ?_
            exact B105 K3 hK3 (fX11_bestFor_b49 N_p2 t_now t_told t_one t_other t_forth t_cost t_broken t_away p2 x1 x3 K3 n) ih y4 y5 y6 (-1) t_worth t_choice h
          · replace h := (if_pos c24).symm.trans h
            refine xi_aload_n C 0 dX11_bestFor_94 rfl ?_
            refine xi_get C zkX11 3 0 zlX11_16 (by decide) rfl rfl dX11_bestFor_95 ?_
            refine xi_iload C 6 dX11_bestFor_98 rfl ?_
            refine xi_iald C 3 rfl c22 dX11_bestFor_100 ?_
            refine xi_goto C (tgt := 105) dX11_bestFor_101 rfl ?_
            exact B105 K3 hK3 (fX11_bestFor_b49 N_p2 t_now t_told t_one t_other t_forth t_cost t_broken t_away p2 x1 x3 K3 n) ih y4 y5 y6 (t_one y6.toNatClampNeg) t_worth t_choice h
        · replace h := (if_pos c23).symm.trans h
          refine xi_aload_n C 0 dX11_bestFor_72 rfl ?_
          refine xi_get C zkX11 4 0 zlX11_19 (by decide) rfl rfl dX11_bestFor_73 ?_
          refine xi_iload C 6 dX11_bestFor_76 rfl ?_
          refine xi_iald C 4 rfl c22 dX11_bestFor_78 ?_
          refine xi_goto C (tgt := 105) dX11_bestFor_79 rfl ?_
          exact B105 K3 hK3 (fX11_bestFor_b49 N_p2 t_now t_told t_one t_other t_forth t_cost t_broken t_away p2 x1 x3 K3 n) ih y4 y5 y6 (t_other y6.toNatClampNeg) t_worth t_choice h
  have B3 : ∀ (n : Nat) (y4 : Int32) (t_worth : Nat → Int64) (t_choice : Nat → Int32), fX11_bestFor_b3 N_p2 t_now t_told t_one t_other t_forth t_cost t_broken t_away p2 x1 x3 n y4 t_worth t_choice = some r → sW X l (zR 4) D 10 0 0 3 [(0, .ref a_t), (1, .int x1), (2, .ref a_p2), (3, .int x3), (4, .int y4)] [] [(a_t, .inr (11, [.int t_thrown, .ref a_t_now, .ref a_t_told, .ref a_t_one, .ref a_t_other, .ref a_t_forth, .ref a_t_cost, .ref a_t_broken, .ref a_t_away, .ref a_t_text, .int t_length, .int t_textSize, .int t_start, .int t_next, .int t_token, .int t_value, .int t_error, .int t_errorAt, .int t_number, .int t_isFirst, .ref a_t_worth, .ref a_t_choice, .ref a_t_thought, .ref a_t_before, .ref a_t_deep, .int t_limitNow, .ref a_t_price, .int t_undos, .ref a_t_undo, .ref a_t_slots, .ref a_t_isSaved])), (a_t_now, .inl (cT 0, 514, .inl t_now)), (a_t_told, .inl (cT 0, 8, .inl t_told)), (a_t_one, .inl (cT 0, 48, .inl t_one)), (a_t_other, .inl (cT 0, 48, .inl t_other)), (a_t_forth, .inl (cT 0, 48, .inl t_forth)), (a_t_cost, .inl (cT 0, 48, .inl t_cost)), (a_t_broken, .inl (cT 0, 72, .inl t_broken)), (a_t_away, .inl (cT 0, 72, .inl t_away)), (a_t_worth, .inl (cT 1, 1024, .inr (.inl t_worth))), (a_t_choice, .inl (cT 0, 1024, .inl t_choice)), (a_p2, .inl (cT 0, N_p2, .inl p2))] := by
    intro n
    induction n with
    | zero =>
      intro y4 t_worth t_choice h
      exact zno ((fX11_bestFor_b3_0 _ _ _ _ _ _ _ _ _ _ _ _ _ _ _).symm.trans h)
    | succ n ih =>
      intro y4 t_worth t_choice h
      replace h := (fX11_bestFor_b3_s _ _ _ _ _ _ _ _ _ _ _ _ _ _ _ _).symm.trans h
      refine xi_iload C 4 dX11_bestFor_3 rfl ?_
      refine xi_aload_n C 0 dX11_bestFor_5 rfl ?_
      replace h := ob h
      obtain ⟨u1, hu2, h⟩ := h
      refine xi_callVr C (kX11_all l D cT a_t a_t_now a_t_told a_t_one a_t_other a_t_forth a_t_cost a_t_broken a_t_away a_t_text a_t_worth a_t_choice a_t_thought a_t_before a_t_deep a_t_price a_t_undo a_t_slots a_t_isSaved t_thrown t_length t_textSize t_start t_next t_token t_value t_error t_errorAt t_number t_isFirst t_limitNow t_undos t_told u1 hu2) zcX11_all zmX11_231 ziX11_all (zr rfl rfl) z00 rfl [0, 2] rfl rfl zkX11.1 (qr := 0) rfl rfl (Nat.le_of_ble_eq_true rfl) dX11_bestFor_6 (fun z3 => ?_)
      refine xi_icmp_gt C (tgt := 261) dX11_bestFor_9 rfl (fun c4 => ?_) (fun c4 => ?_)
      · replace h := (if_pos c4).symm.trans h
        refine xi_drop (L2 := [(0, .ref a_t)]) [0] rfl ?_
        exact B261 t_worth t_choice h
      · replace h := (if_neg c4).symm.trans h
        refine xi_iload C 4 dX11_bestFor_12 rfl ?_
        replace h := ob h
        obtain ⟨u16, hu17, h⟩ := h
        refine xi_callSr C (kX11_lowest l D cT y4 u16 hu17) zcX11_lowest zmX11_234 zsX11_lowest (zr rfl rfl) z00 rfl [] rfl rfl rfl (Nat.le_of_ble_eq_true rfl) dX11_bestFor_14 (fun z18 => ?_)
        refine xi_istore C [1, 2, 3, 4, 5, 0] (L2 := [(0, .ref a_t), (1, .int x1), (2, .ref a_p2), (3, .int x3), (4, .int y4), (5, .int u16)]) dX11_bestFor_17 (Nat.le_of_ble_eq_true rfl) rfl ?_
        refine xi_aload_n C 0 dX11_bestFor_19 rfl ?_
        refine xi_get C zkX11 20 0 zlX11_42 (by decide) rfl rfl dX11_bestFor_20 ?_
        refine xi_iload C 4 dX11_bestFor_23 rfl ?_
        refine xi_aload_n C 0 dX11_bestFor_25 rfl ?_
        refine xi_get C zkX11 20 0 zlX11_42 (by decide) rfl rfl dX11_bestFor_26 ?_
        refine xi_iload C 4 dX11_bestFor_29 rfl ?_
        refine xi_iconst C (v := 1) dX11_bestFor_31 rfl ?_
        refine xi_iload C 5 dX11_bestFor_32 rfl ?_
        refine xi_ishl C dX11_bestFor_34 ?_
        refine xi_isub C dX11_bestFor_35 ?_
        replace h := ig h
        obtain ⟨c19, h⟩ := h
        refine xi_lald C 9 rfl c19 dX11_bestFor_36 ?_
        replace h := ig h
        obtain ⟨c20, h⟩ := h
        refine xi_last C 9 rfl c20 dX11_bestFor_37 (ws2 := [(a_t, .inr (11, [.int t_thrown, .ref a_t_now, .ref a_t_told, .ref a_t_one, .ref a_t_other, .ref a_t_forth, .ref a_t_cost, .ref a_t_broken, .ref a_t_away, .ref a_t_text, .int t_length, .int t_textSize, .int t_start, .int t_next, .int t_token, .int t_value, .int t_error, .int t_errorAt, .int t_number, .int t_isFirst, .ref a_t_worth, .ref a_t_choice, .ref a_t_thought, .ref a_t_before, .ref a_t_deep, .int t_limitNow, .ref a_t_price, .int t_undos, .ref a_t_undo, .ref a_t_slots, .ref a_t_isSaved])), (a_t_now, .inl (cT 0, 514, .inl t_now)), (a_t_told, .inl (cT 0, 8, .inl t_told)), (a_t_one, .inl (cT 0, 48, .inl t_one)), (a_t_other, .inl (cT 0, 48, .inl t_other)), (a_t_forth, .inl (cT 0, 48, .inl t_forth)), (a_t_cost, .inl (cT 0, 48, .inl t_cost)), (a_t_broken, .inl (cT 0, 72, .inl t_broken)), (a_t_away, .inl (cT 0, 72, .inl t_away)), (a_t_worth, .inl (cT 1, 1024, .inr (.inl (vp_updL t_worth y4.toNatClampNeg (t_worth (y4 - (1 <<< (u16 &&& 31))).toNatClampNeg))))), (a_t_choice, .inl (cT 0, 1024, .inl t_choice)), (a_p2, .inl (cT 0, N_p2, .inl p2))]) rfl ?_
        refine xi_aload_n C 0 dX11_bestFor_38 rfl ?_
        refine xi_get C zkX11 21 0 zlX11_46 (by decide) rfl rfl dX11_bestFor_39 ?_
        refine xi_iload C 4 dX11_bestFor_42 rfl ?_
        refine xi_iconst C (v := (-1)) dX11_bestFor_44 rfl ?_
        refine xi_iast C 10 rfl c20 dX11_bestFor_45 (ws2 := [(a_t, .inr (11, [.int t_thrown, .ref a_t_now, .ref a_t_told, .ref a_t_one, .ref a_t_other, .ref a_t_forth, .ref a_t_cost, .ref a_t_broken, .ref a_t_away, .ref a_t_text, .int t_length, .int t_textSize, .int t_start, .int t_next, .int t_token, .int t_value, .int t_error, .int t_errorAt, .int t_number, .int t_isFirst, .ref a_t_worth, .ref a_t_choice, .ref a_t_thought, .ref a_t_before, .ref a_t_deep, .int t_limitNow, .ref a_t_price, .int t_undos, .ref a_t_undo, .ref a_t_slots, .ref a_t_isSaved])), (a_t_now, .inl (cT 0, 514, .inl t_now)), (a_t_told, .inl (cT 0, 8, .inl t_told)), (a_t_one, .inl (cT 0, 48, .inl t_one)), (a_t_other, .inl (cT 0, 48, .inl t_other)), (a_t_forth, .inl (cT 0, 48, .inl t_forth)), (a_t_cost, .inl (cT 0, 48, .inl t_cost)), (a_t_broken, .inl (cT 0, 72, .inl t_broken)), (a_t_away, .inl (cT 0, 72, .inl t_away)), (a_t_worth, .inl (cT 1, 1024, .inr (.inl (vp_updL t_worth y4.toNatClampNeg (t_worth (y4 - (1 <<< (u16 &&& 31))).toNatClampNeg))))), (a_t_choice, .inl (cT 0, 1024, .inl (upd t_choice y4.toNatClampNeg (-1)))), (a_p2, .inl (cT 0, N_p2, .inl p2))]) rfl ?_
        refine xi_iconst C (v := 0) dX11_bestFor_46 rfl ?_
        refine xi_istore C [1, 2, 3, 4, 5, 6, 0] (L2 := [(0, .ref a_t), (1, .int x1), (2, .ref a_p2), (3, .int x3), (4, .int y4), (5, .int u16), (6, .int 0)]) dX11_bestFor_47 (Nat.le_of_ble_eq_true rfl) rfl ?_
        exact B49 (fX11_bestFor_b3 N_p2 t_now t_told t_one t_other t_forth t_cost t_broken t_away p2 x1 x3 n) ih FU y4 u16 0 (vp_updL t_worth y4.toNatClampNeg (t_worth (y4 - (1 <<< (u16 &&& 31))).toNatClampNeg)) (upd t_choice y4.toNatClampNeg (-1)) h
  refine xi_drop (L2 := [(0, .ref a_t), (1, .int x1), (2, .ref a_p2), (3, .int x3)]) [0, 1, 2, 3] rfl ?_
  refine xi_iconst C (v := 1) dX11_bestFor_0 rfl ?_
  refine xi_istore C [1, 2, 3, 4, 0] (L2 := [(0, .ref a_t), (1, .int x1), (2, .ref a_p2), (3, .int x3), (4, .int 1)]) dX11_bestFor_1 (Nat.le_of_ble_eq_true rfl) rfl ?_
  exact B3 FU 1 t_worth t_choice h
def fX11_bestFor_p2istnow_b340 (K270 : Int32 → Int32 → (Nat → Int64) → (Nat → Int32) → Option (Int32 × (Nat → Int64) × (Nat → Int32))) (y4 : Int32) (s0 : Int32) (s1 : Int32) (t_worth : Nat → Int64) (t_choice : Nat → Int32) : Option (Int32 × (Nat → Int64) × (Nat → Int32)) := K270 y4 (s1 - s0) t_worth t_choice
def fX11_bestFor_p2istnow_b300 (t_one : Nat → Int32) (t_other : Nat → Int32) (K270 : Int32 → Int32 → (Nat → Int64) → (Nat → Int32) → Option (Int32 × (Nat → Int64) × (Nat → Int32))) (y5 : Int32) (y6 : Int32) (s0 : Int32) (s1 : Int32) (t_worth : Nat → Int64) (t_choice : Nat → Int32) : Option (Int32 × (Nat → Int64) × (Nat → Int32)) := if y6 = (-1) then (fX11_lowest y5).bind (fun u13 => fX11_bestFor_p2istnow_b340 K270 (s1 ||| s0) (1 <<< (u13 &&& 31)) y5 t_worth t_choice) else gd y6 48 (fX11_bestFor_p2istnow_b340 K270 (s1 ||| s0) ((1 <<< ((t_one y6.toNatClampNeg) &&& 31)) + (1 <<< ((t_other y6.toNatClampNeg) &&& 31))) y5 t_worth t_choice)
def fX11_bestFor_p2istnow_b270 (t_one : Nat → Int32) (t_other : Nat → Int32) : Nat → Int32 → Int32 → (Nat → Int64) → (Nat → Int32) → Option (Int32 × (Nat → Int64) × (Nat → Int32))
  | 0, _, _, _, _ => none
  | n + 1, y4, y5, t_worth, t_choice => if y5 = 0 then some (y4, t_worth, t_choice) else gd y5 1024 (if (t_choice y5.toNatClampNeg) = (-1) then fX11_bestFor_p2istnow_b300 t_one t_other (fX11_bestFor_p2istnow_b270 t_one t_other n) y5 (t_choice y5.toNatClampNeg) 0 y4 t_worth t_choice else fX11_bestFor_p2istnow_b300 t_one t_other (fX11_bestFor_p2istnow_b270 t_one t_other n) y5 (t_choice y5.toNatClampNeg) (1 <<< ((t_choice y5.toNatClampNeg) &&& 31)) y4 t_worth t_choice)
theorem fX11_bestFor_p2istnow_b270_0 (t_one : Nat → Int32) (t_other : Nat → Int32) (y4 : Int32) (y5 : Int32) (t_worth : Nat → Int64) (t_choice : Nat → Int32) : fX11_bestFor_p2istnow_b270 t_one t_other 0 y4 y5 t_worth t_choice = none := rfl
theorem fX11_bestFor_p2istnow_b270_s (t_one : Nat → Int32) (t_other : Nat → Int32) (n : Nat) (y4 : Int32) (y5 : Int32) (t_worth : Nat → Int64) (t_choice : Nat → Int32) : fX11_bestFor_p2istnow_b270 t_one t_other (n + 1) y4 y5 t_worth t_choice = (if y5 = 0 then some (y4, t_worth, t_choice) else gd y5 1024 (if (t_choice y5.toNatClampNeg) = (-1) then fX11_bestFor_p2istnow_b300 t_one t_other (fX11_bestFor_p2istnow_b270 t_one t_other n) y5 (t_choice y5.toNatClampNeg) 0 y4 t_worth t_choice else fX11_bestFor_p2istnow_b300 t_one t_other (fX11_bestFor_p2istnow_b270 t_one t_other n) y5 (t_choice y5.toNatClampNeg) (1 <<< ((t_choice y5.toNatClampNeg) &&& 31)) y4 t_worth t_choice)) := rfl
def fX11_bestFor_p2istnow_b261 (t_told : Nat → Int32) (t_one : Nat → Int32) (t_other : Nat → Int32) (t_worth : Nat → Int64) (t_choice : Nat → Int32) : Option (Int32 × (Nat → Int64) × (Nat → Int32)) := (fX11_all t_told).bind (fun u5 => fX11_bestFor_p2istnow_b270 t_one t_other FU 0 u5 t_worth t_choice)
def fX11_bestFor_p2istnow_b248 (K49 : Int32 → Int32 → Int32 → (Nat → Int64) → (Nat → Int32) → Option (Int32 × (Nat → Int64) × (Nat → Int32))) (y4 : Int32) (y5 : Int32) (y6 : Int32) (s0 : Int64) (s1 : Int32) (t_worth : Nat → Int64) (t_choice : Nat → Int32) : Option (Int32 × (Nat → Int64) × (Nat → Int32)) := gd s1 1024 (K49 y4 y5 (y6 + 1) (vp_updL t_worth s1.toNatClampNeg s0) t_choice)
def fX11_bestFor_p2istnow_b216 (K49 : Int32 → Int32 → Int32 → (Nat → Int64) → (Nat → Int32) → Option (Int32 × (Nat → Int64) × (Nat → Int32))) (y4 : Int32) (y5 : Int32) (y6 : Int32) (y8 : Int64) (s0 : Int32) (s1 : Int32) (t_worth : Nat → Int64) (t_choice : Nat → Int32) : Option (Int32 × (Nat → Int64) × (Nat → Int32)) := gd s1 1024 (gd y4 1024 (if (lg_cmp y8 (t_worth y4.toNatClampNeg)) ≤ 0 then fX11_bestFor_p2istnow_b248 K49 y4 y5 y6 (t_worth y4.toNatClampNeg) y4 t_worth (upd t_choice s1.toNatClampNeg s0) else fX11_bestFor_p2istnow_b248 K49 y4 y5 y6 y8 y4 t_worth (upd t_choice s1.toNatClampNeg s0)))
def fX11_bestFor_p2istnow_b105 (t_now : Nat → Int32) (t_told : Nat → Int32) (t_one : Nat → Int32) (t_other : Nat → Int32) (t_forth : Nat → Int32) (t_cost : Nat → Int32) (t_broken : Nat → Int32) (t_away : Nat → Int32) (x1 : Int32) (x3 : Int32) (K49 : Int32 → Int32 → Int32 → (Nat → Int64) → (Nat → Int32) → Option (Int32 × (Nat → Int64) × (Nat → Int32))) (y4 : Int32) (y5 : Int32) (y6 : Int32) (s0 : Int32) (t_worth : Nat → Int64) (t_choice : Nat → Int32) : Option (Int32 × (Nat → Int64) × (Nat → Int32)) := if s0 = (-1) then K49 y4 y5 (y6 + 1) t_worth t_choice else if (fX11_isIn y4 s0) = 0 then K49 y4 y5 (y6 + 1) t_worth t_choice else (fX11_canCall t_now t_told t_one t_other t_broken t_away y6 x1).bind (fun u30 => if u30 = 0 then K49 y4 y5 (y6 + 1) t_worth t_choice else (fX11_gainOf 514 t_one t_other t_forth t_now y6 x3).bind (fun u34 => gd y6 48 (gd ((y4 - (1 <<< (y5 &&& 31))) - (1 <<< (s0 &&& 31))) 1024 (gd y4 1024 (if (lg_cmp ((((u34.toInt64 <<< ((40 : Int32).toInt64 &&& 63)) - (((t_cost y6.toNatClampNeg).toInt64) <<< ((25 : Int32).toInt64 &&& 63))) - (1 <<< (y6.toInt64 &&& 63))) + (t_worth ((y4 - (1 <<< (y5 &&& 31))) - (1 <<< (s0 &&& 31))).toNatClampNeg)) (t_worth y4.toNatClampNeg)) ≤ 0 then fX11_bestFor_p2istnow_b216 K49 y4 y5 y6 ((((u34.toInt64 <<< ((40 : Int32).toInt64 &&& 63)) - (((t_cost y6.toNatClampNeg).toInt64) <<< ((25 : Int32).toInt64 &&& 63))) - (1 <<< (y6.toInt64 &&& 63))) + (t_worth ((y4 - (1 <<< (y5 &&& 31))) - (1 <<< (s0 &&& 31))).toNatClampNeg)) (t_choice y4.toNatClampNeg) y4 t_worth t_choice else fX11_bestFor_p2istnow_b216 K49 y4 y5 y6 ((((u34.toInt64 <<< ((40 : Int32).toInt64 &&& 63)) - (((t_cost y6.toNatClampNeg).toInt64) <<< ((25 : Int32).toInt64 &&& 63))) - (1 <<< (y6.toInt64 &&& 63))) + (t_worth ((y4 - (1 <<< (y5 &&& 31))) - (1 <<< (s0 &&& 31))).toNatClampNeg)) y6 y4 t_worth t_choice)))))
def fX11_bestFor_p2istnow_b49 (t_now : Nat → Int32) (t_told : Nat → Int32) (t_one : Nat → Int32) (t_other : Nat → Int32) (t_forth : Nat → Int32) (t_cost : Nat → Int32) (t_broken : Nat → Int32) (t_away : Nat → Int32) (x1 : Int32) (x3 : Int32) (K3 : Int32 → (Nat → Int64) → (Nat → Int32) → Option (Int32 × (Nat → Int64) × (Nat → Int32))) : Nat → Int32 → Int32 → Int32 → (Nat → Int64) → (Nat → Int32) → Option (Int32 × (Nat → Int64) × (Nat → Int32))
  | 0, _, _, _, _, _ => none
  | n + 1, y4, y5, y6, t_worth, t_choice => if (t_told 1) ≤ y6 then K3 (y4 + 1) t_worth t_choice else gd y6 48 (if (t_one y6.toNatClampNeg) = y5 then fX11_bestFor_p2istnow_b105 t_now t_told t_one t_other t_forth t_cost t_broken t_away x1 x3 (fX11_bestFor_p2istnow_b49 t_now t_told t_one t_other t_forth t_cost t_broken t_away x1 x3 K3 n) y4 y5 y6 (t_other y6.toNatClampNeg) t_worth t_choice else if (t_other y6.toNatClampNeg) = y5 then fX11_bestFor_p2istnow_b105 t_now t_told t_one t_other t_forth t_cost t_broken t_away x1 x3 (fX11_bestFor_p2istnow_b49 t_now t_told t_one t_other t_forth t_cost t_broken t_away x1 x3 K3 n) y4 y5 y6 (t_one y6.toNatClampNeg) t_worth t_choice else fX11_bestFor_p2istnow_b105 t_now t_told t_one t_other t_forth t_cost t_broken t_away x1 x3 (fX11_bestFor_p2istnow_b49 t_now t_told t_one t_other t_forth t_cost t_broken t_away x1 x3 K3 n) y4 y5 y6 (-1) t_worth t_choice)
theorem fX11_bestFor_p2istnow_b49_0 (t_now : Nat → Int32) (t_told : Nat → Int32) (t_one : Nat → Int32) (t_other : Nat → Int32) (t_forth : Nat → Int32) (t_cost : Nat → Int32) (t_broken : Nat → Int32) (t_away : Nat → Int32) (x1 : Int32) (x3 : Int32) (K3 : Int32 → (Nat → Int64) → (Nat → Int32) → Option (Int32 × (Nat → Int64) × (Nat → Int32))) (y4 : Int32) (y5 : Int32) (y6 : Int32) (t_worth : Nat → Int64) (t_choice : Nat → Int32) : fX11_bestFor_p2istnow_b49 t_now t_told t_one t_other t_forth t_cost t_broken t_away x1 x3 K3 0 y4 y5 y6 t_worth t_choice = none := rfl
theorem fX11_bestFor_p2istnow_b49_s (t_now : Nat → Int32) (t_told : Nat → Int32) (t_one : Nat → Int32) (t_other : Nat → Int32) (t_forth : Nat → Int32) (t_cost : Nat → Int32) (t_broken : Nat → Int32) (t_away : Nat → Int32) (x1 : Int32) (x3 : Int32) (K3 : Int32 → (Nat → Int64) → (Nat → Int32) → Option (Int32 × (Nat → Int64) × (Nat → Int32))) (n : Nat) (y4 : Int32) (y5 : Int32) (y6 : Int32) (t_worth : Nat → Int64) (t_choice : Nat → Int32) : fX11_bestFor_p2istnow_b49 t_now t_told t_one t_other t_forth t_cost t_broken t_away x1 x3 K3 (n + 1) y4 y5 y6 t_worth t_choice = (if (t_told 1) ≤ y6 then K3 (y4 + 1) t_worth t_choice else gd y6 48 (if (t_one y6.toNatClampNeg) = y5 then fX11_bestFor_p2istnow_b105 t_now t_told t_one t_other t_forth t_cost t_broken t_away x1 x3 (fX11_bestFor_p2istnow_b49 t_now t_told t_one t_other t_forth t_cost t_broken t_away x1 x3 K3 n) y4 y5 y6 (t_other y6.toNatClampNeg) t_worth t_choice else if (t_other y6.toNatClampNeg) = y5 then fX11_bestFor_p2istnow_b105 t_now t_told t_one t_other t_forth t_cost t_broken t_away x1 x3 (fX11_bestFor_p2istnow_b49 t_now t_told t_one t_other t_forth t_cost t_broken t_away x1 x3 K3 n) y4 y5 y6 (t_one y6.toNatClampNeg) t_worth t_choice else fX11_bestFor_p2istnow_b105 t_now t_told t_one t_other t_forth t_cost t_broken t_away x1 x3 (fX11_bestFor_p2istnow_b49 t_now t_told t_one t_other t_forth t_cost t_broken t_away x1 x3 K3 n) y4 y5 y6 (-1) t_worth t_choice)) := rfl
def fX11_bestFor_p2istnow_b3 (t_now : Nat → Int32) (t_told : Nat → Int32) (t_one : Nat → Int32) (t_other : Nat → Int32) (t_forth : Nat → Int32) (t_cost : Nat → Int32) (t_broken : Nat → Int32) (t_away : Nat → Int32) (x1 : Int32) (x3 : Int32) : Nat → Int32 → (Nat → Int64) → (Nat → Int32) → Option (Int32 × (Nat → Int64) × (Nat → Int32))
  | 0, _, _, _ => none
  | n + 1, y4, t_worth, t_choice => (fX11_all t_told).bind (fun u1 => if u1 < y4 then fX11_bestFor_p2istnow_b261 t_told t_one t_other t_worth t_choice else (fX11_lowest y4).bind (fun u16 => gd (y4 - (1 <<< (u16 &&& 31))) 1024 (gd y4 1024 (fX11_bestFor_p2istnow_b49 t_now t_told t_one t_other t_forth t_cost t_broken t_away x1 x3 (fX11_bestFor_p2istnow_b3 t_now t_told t_one t_other t_forth t_cost t_broken t_away x1 x3 n) FU y4 u16 0 (vp_updL t_worth y4.toNatClampNeg (t_worth (y4 - (1 <<< (u16 &&& 31))).toNatClampNeg)) (upd t_choice y4.toNatClampNeg (-1))))))
theorem fX11_bestFor_p2istnow_b3_0 (t_now : Nat → Int32) (t_told : Nat → Int32) (t_one : Nat → Int32) (t_other : Nat → Int32) (t_forth : Nat → Int32) (t_cost : Nat → Int32) (t_broken : Nat → Int32) (t_away : Nat → Int32) (x1 : Int32) (x3 : Int32) (y4 : Int32) (t_worth : Nat → Int64) (t_choice : Nat → Int32) : fX11_bestFor_p2istnow_b3 t_now t_told t_one t_other t_forth t_cost t_broken t_away x1 x3 0 y4 t_worth t_choice = none := rfl
theorem fX11_bestFor_p2istnow_b3_s (t_now : Nat → Int32) (t_told : Nat → Int32) (t_one : Nat → Int32) (t_other : Nat → Int32) (t_forth : Nat → Int32) (t_cost : Nat → Int32) (t_broken : Nat → Int32) (t_away : Nat → Int32) (x1 : Int32) (x3 : Int32) (n : Nat) (y4 : Int32) (t_worth : Nat → Int64) (t_choice : Nat → Int32) : fX11_bestFor_p2istnow_b3 t_now t_told t_one t_other t_forth t_cost t_broken t_away x1 x3 (n + 1) y4 t_worth t_choice = ((fX11_all t_told).bind (fun u1 => if u1 < y4 then fX11_bestFor_p2istnow_b261 t_told t_one t_other t_worth t_choice else (fX11_lowest y4).bind (fun u16 => gd (y4 - (1 <<< (u16 &&& 31))) 1024 (gd y4 1024 (fX11_bestFor_p2istnow_b49 t_now t_told t_one t_other t_forth t_cost t_broken t_away x1 x3 (fX11_bestFor_p2istnow_b3 t_now t_told t_one t_other t_forth t_cost t_broken t_away x1 x3 n) FU y4 u16 0 (vp_updL t_worth y4.toNatClampNeg (t_worth (y4 - (1 <<< (u16 &&& 31))).toNatClampNeg)) (upd t_choice y4.toNatClampNeg (-1))))))) := rfl
def fX11_bestFor_p2istnow (t_now : Nat → Int32) (t_told : Nat → Int32) (t_one : Nat → Int32) (t_other : Nat → Int32) (t_forth : Nat → Int32) (t_cost : Nat → Int32) (t_broken : Nat → Int32) (t_away : Nat → Int32) (t_worth : Nat → Int64) (t_choice : Nat → Int32) (x1 : Int32) (x3 : Int32) : Option (Int32 × (Nat → Int64) × (Nat → Int32)) := fX11_bestFor_p2istnow_b3 t_now t_told t_one t_other t_forth t_cost t_broken t_away x1 x3 FU 1 t_worth t_choice
set_option maxRecDepth 100000 in
set_option maxHeartbeats 4000000 in
theorem kX11_bestFor_p2istnow (l : Launch) (D : va_G) (cT : Nat → ClassId) (a_t : Nat) (a_t_now : Nat) (a_t_told : Nat) (a_t_one : Nat) (a_t_other : Nat) (a_t_forth : Nat) (a_t_cost : Nat) (a_t_broken : Nat) (a_t_away : Nat) (a_t_text : Nat) (a_t_worth : Nat) (a_t_choice : Nat) (a_t_thought : Nat) (a_t_before : Nat) (a_t_deep : Nat) (a_t_price : Nat) (a_t_undo : Nat) (a_t_slots : Nat) (a_t_isSaved : Nat) (t_thrown : Int32) (t_length : Int32) (t_textSize : Int32) (t_start : Int32) (t_next : Int32) (t_token : Int32) (t_value : Int32) (t_error : Int32) (t_errorAt : Int32) (t_number : Int32) (t_isFirst : Int32) (t_limitNow : Int32) (t_undos : Int32) (t_now : Nat → Int32) (t_told : Nat → Int32) (t_one : Nat → Int32) (t_other : Nat → Int32) (t_forth : Nat → Int32) (t_cost : Nat → Int32) (t_broken : Nat → Int32) (t_away : Nat → Int32) (t_worth : Nat → Int64) (t_choice : Nat → Int32) (x1 : Int32) (x3 : Int32) (r : Int32 × (Nat → Int64) × (Nat → Int32)) (h : fX11_bestFor_p2istnow t_now t_told t_one t_other t_forth t_cost t_broken t_away t_worth t_choice x1 x3 = some r) : sM l yX11_bestFor cX11_bestFor 10 (some .int) (zR 4) D cT [.ref a_t, .int x1, .ref a_t_now, .int x3] [(a_t, .inr (11, [.int t_thrown, .ref a_t_now, .ref a_t_told, .ref a_t_one, .ref a_t_other, .ref a_t_forth, .ref a_t_cost, .ref a_t_broken, .ref a_t_away, .ref a_t_text, .int t_length, .int t_textSize, .int t_start, .int t_next, .int t_token, .int t_value, .int t_error, .int t_errorAt, .int t_number, .int t_isFirst, .ref a_t_worth, .ref a_t_choice, .ref a_t_thought, .ref a_t_before, .ref a_t_deep, .int t_limitNow, .ref a_t_price, .int t_undos, .ref a_t_undo, .ref a_t_slots, .ref a_t_isSaved])), (a_t_now, .inl (cT 0, 514, .inl t_now)), (a_t_told, .inl (cT 0, 8, .inl t_told)), (a_t_one, .inl (cT 0, 48, .inl t_one)), (a_t_other, .inl (cT 0, 48, .inl t_other)), (a_t_forth, .inl (cT 0, 48, .inl t_forth)), (a_t_cost, .inl (cT 0, 48, .inl t_cost)), (a_t_broken, .inl (cT 0, 72, .inl t_broken)), (a_t_away, .inl (cT 0, 72, .inl t_away)), (a_t_worth, .inl (cT 1, 1024, .inr (.inl t_worth))), (a_t_choice, .inl (cT 0, 1024, .inl t_choice))] (some (.int r.1)) [(a_t, .inr (11, [.int t_thrown, .ref a_t_now, .ref a_t_told, .ref a_t_one, .ref a_t_other, .ref a_t_forth, .ref a_t_cost, .ref a_t_broken, .ref a_t_away, .ref a_t_text, .int t_length, .int t_textSize, .int t_start, .int t_next, .int t_token, .int t_value, .int t_error, .int t_errorAt, .int t_number, .int t_isFirst, .ref a_t_worth, .ref a_t_choice, .ref a_t_thought, .ref a_t_before, .ref a_t_deep, .int t_limitNow, .ref a_t_price, .int t_undos, .ref a_t_undo, .ref a_t_slots, .ref a_t_isSaved])), (a_t_now, .inl (cT 0, 514, .inl t_now)), (a_t_told, .inl (cT 0, 8, .inl t_told)), (a_t_one, .inl (cT 0, 48, .inl t_one)), (a_t_other, .inl (cT 0, 48, .inl t_other)), (a_t_forth, .inl (cT 0, 48, .inl t_forth)), (a_t_cost, .inl (cT 0, 48, .inl t_cost)), (a_t_broken, .inl (cT 0, 72, .inl t_broken)), (a_t_away, .inl (cT 0, 72, .inl t_away)), (a_t_worth, .inl (cT 1, 1024, .inr (.inl r.2.1))), (a_t_choice, .inl (cT 0, 1024, .inl r.2.2))] := by
  refine sM_int rfl (Nat.le_of_ble_eq_true rfl) ?_
  intro X C hE
  have B340 : ∀ (K270 : Int32 → Int32 → (Nat → Int64) → (Nat → Int32) → Option (Int32 × (Nat → Int64) × (Nat → Int32))) (hK270 : ∀ (y4 : Int32) (y5 : Int32) (t_worth : Nat → Int64) (t_choice : Nat → Int32), K270 y4 y5 t_worth t_choice = some r → sW X l (zR 4) D 10 0 0 270 [(0, .ref a_t), (4, .int y4), (5, .int y5)] [] [(a_t, .inr (11, [.int t_thrown, .ref a_t_now, .ref a_t_told, .ref a_t_one, .ref a_t_other, .ref a_t_forth, .ref a_t_cost, .ref a_t_broken, .ref a_t_away, .ref a_t_text, .int t_length, .int t_textSize, .int t_start, .int t_next, .int t_token, .int t_value, .int t_error, .int t_errorAt, .int t_number, .int t_isFirst, .ref a_t_worth, .ref a_t_choice, .ref a_t_thought, .ref a_t_before, .ref a_t_deep, .int t_limitNow, .ref a_t_price, .int t_undos, .ref a_t_undo, .ref a_t_slots, .ref a_t_isSaved])), (a_t_now, .inl (cT 0, 514, .inl t_now)), (a_t_told, .inl (cT 0, 8, .inl t_told)), (a_t_one, .inl (cT 0, 48, .inl t_one)), (a_t_other, .inl (cT 0, 48, .inl t_other)), (a_t_forth, .inl (cT 0, 48, .inl t_forth)), (a_t_cost, .inl (cT 0, 48, .inl t_cost)), (a_t_broken, .inl (cT 0, 72, .inl t_broken)), (a_t_away, .inl (cT 0, 72, .inl t_away)), (a_t_worth, .inl (cT 1, 1024, .inr (.inl t_worth))), (a_t_choice, .inl (cT 0, 1024, .inl t_choice))]) (y4 : Int32) (s0 : Int32) (s1 : Int32) (t_worth : Nat → Int64) (t_choice : Nat → Int32), fX11_bestFor_p2istnow_b340 K270 y4 s0 s1 t_worth t_choice = some r → sW X l (zR 4) D 10 0 0 340 [(0, .ref a_t), (4, .int y4)] [.int s0, .int s1] [(a_t, .inr (11, [.int t_thrown, .ref a_t_now, .ref a_t_told, .ref a_t_one, .ref a_t_other, .ref a_t_forth, .ref a_t_cost, .ref a_t_broken, .ref a_t_away, .ref a_t_text, .int t_length, .int t_textSize, .int t_start, .int t_next, .int t_token, .int t_value, .int t_error, .int t_errorAt, .int t_number, .int t_isFirst, .ref a_t_worth, .ref a_t_choice, .ref a_t_thought, .ref a_t_before, .ref a_t_deep, .int t_limitNow, .ref a_t_price, .int t_undos, .ref a_t_undo, .ref a_t_slots, .ref a_t_isSaved])), (a_t_now, .inl (cT 0, 514, .inl t_now)), (a_t_told, .inl (cT 0, 8, .inl t_told)), (a_t_one, .inl (cT 0, 48, .inl t_one)), (a_t_other, .inl (cT 0, 48, .inl t_other)), (a_t_forth, .inl (cT 0, 48, .inl t_forth)), (a_t_cost, .inl (cT 0, 48, .inl t_cost)), (a_t_broken, .inl (cT 0, 72, .inl t_broken)), (a_t_away, .inl (cT 0, 72, .inl t_away)), (a_t_worth, .inl (cT 1, 1024, .inr (.inl t_worth))), (a_t_choice, .inl (cT 0, 1024, .inl t_choice))] := by
    intro K270 hK270 y4 s0 s1 t_worth t_choice h
    refine xi_isub C dX11_bestFor_340 ?_
    refine xi_istore C [1, 2, 0] (L2 := [(0, .ref a_t), (4, .int y4), (5, .int (s1 - s0))]) dX11_bestFor_341 (Nat.le_of_ble_eq_true rfl) rfl ?_
    refine xi_goto C (tgt := 270) dX11_bestFor_343 rfl ?_
    exact hK270 y4 (s1 - s0) t_worth t_choice h
  have B300 : ∀ (K270 : Int32 → Int32 → (Nat → Int64) → (Nat → Int32) → Option (Int32 × (Nat → Int64) × (Nat → Int32))) (hK270 : ∀ (y4 : Int32) (y5 : Int32) (t_worth : Nat → Int64) (t_choice : Nat → Int32), K270 y4 y5 t_worth t_choice = some r → sW X l (zR 4) D 10 0 0 270 [(0, .ref a_t), (4, .int y4), (5, .int y5)] [] [(a_t, .inr (11, [.int t_thrown, .ref a_t_now, .ref a_t_told, .ref a_t_one, .ref a_t_other, .ref a_t_forth, .ref a_t_cost, .ref a_t_broken, .ref a_t_away, .ref a_t_text, .int t_length, .int t_textSize, .int t_start, .int t_next, .int t_token, .int t_value, .int t_error, .int t_errorAt, .int t_number, .int t_isFirst, .ref a_t_worth, .ref a_t_choice, .ref a_t_thought, .ref a_t_before, .ref a_t_deep, .int t_limitNow, .ref a_t_price, .int t_undos, .ref a_t_undo, .ref a_t_slots, .ref a_t_isSaved])), (a_t_now, .inl (cT 0, 514, .inl t_now)), (a_t_told, .inl (cT 0, 8, .inl t_told)), (a_t_one, .inl (cT 0, 48, .inl t_one)), (a_t_other, .inl (cT 0, 48, .inl t_other)), (a_t_forth, .inl (cT 0, 48, .inl t_forth)), (a_t_cost, .inl (cT 0, 48, .inl t_cost)), (a_t_broken, .inl (cT 0, 72, .inl t_broken)), (a_t_away, .inl (cT 0, 72, .inl t_away)), (a_t_worth, .inl (cT 1, 1024, .inr (.inl t_worth))), (a_t_choice, .inl (cT 0, 1024, .inl t_choice))]) (y5 : Int32) (y6 : Int32) (s0 : Int32) (s1 : Int32) (t_worth : Nat → Int64) (t_choice : Nat → Int32), fX11_bestFor_p2istnow_b300 t_one t_other K270 y5 y6 s0 s1 t_worth t_choice = some r → sW X l (zR 4) D 10 0 0 300 [(0, .ref a_t), (5, .int y5), (6, .int y6)] [.int s0, .int s1] [(a_t, .inr (11, [.int t_thrown, .ref a_t_now, .ref a_t_told, .ref a_t_one, .ref a_t_other, .ref a_t_forth, .ref a_t_cost, .ref a_t_broken, .ref a_t_away, .ref a_t_text, .int t_length, .int t_textSize, .int t_start, .int t_next, .int t_token, .int t_value, .int t_error, .int t_errorAt, .int t_number, .int t_isFirst, .ref a_t_worth, .ref a_t_choice, .ref a_t_thought, .ref a_t_before, .ref a_t_deep, .int t_limitNow, .ref a_t_price, .int t_undos, .ref a_t_undo, .ref a_t_slots, .ref a_t_isSaved])), (a_t_now, .inl (cT 0, 514, .inl t_now)), (a_t_told, .inl (cT 0, 8, .inl t_told)), (a_t_one, .inl (cT 0, 48, .inl t_one)), (a_t_other, .inl (cT 0, 48, .inl t_other)), (a_t_forth, .inl (cT 0, 48, .inl t_forth)), (a_t_cost, .inl (cT 0, 48, .inl t_cost)), (a_t_broken, .inl (cT 0, 72, .inl t_broken)), (a_t_away, .inl (cT 0, 72, .inl t_away)), (a_t_worth, .inl (cT 1, 1024, .inr (.inl t_worth))), (a_t_choice, .inl (cT 0, 1024, .inl t_choice))] := by
    intro K270 hK270 y5 y6 s0 s1 t_worth t_choice h
    refine xi_ior C dX11_bestFor_300 ?_
    refine xi_istore C [1, 0, 2, 3] (L2 := [(0, .ref a_t), (4, .int (s1 ||| s0)), (5, .int y5), (6, .int y6)]) dX11_bestFor_301 (Nat.le_of_ble_eq_true rfl) rfl ?_
    refine xi_iload C 2 dX11_bestFor_303 rfl ?_
    refine xi_iload C 3 dX11_bestFor_305 rfl ?_
    refine xi_iconst C (v := (-1)) dX11_bestFor_307 rfl ?_
    refine xi_icmp_ne C (tgt := 321) dX11_bestFor_308 rfl (fun c11 => ?_) (fun c11 => ?_)
    · replace h := (if_neg c11).symm.trans h
      refine xi_iconst C (v := 1) dX11_bestFor_321 rfl ?_
      refine xi_aload_n C 0 dX11_bestFor_322 rfl ?_
      refine xi_get C zkX11 3 0 zlX11_16 (by decide) rfl rfl dX11_bestFor_323 ?_
      refine xi_iload C 3 dX11_bestFor_326 rfl ?_
      replace h := ig h
      obtain ⟨c12, h⟩ := h
      refine xi_iald C 3 rfl c12 dX11_bestFor_328 ?_
      refine xi_ishl C dX11_bestFor_329 ?_
      refine xi_iconst C (v := 1) dX11_bestFor_330 rfl ?_
      refine xi_aload_n C 0 dX11_bestFor_331 rfl ?_
      refine xi_get C zkX11 4 0 zlX11_19 (by decide) rfl rfl dX11_bestFor_332 ?_
      refine xi_iload C 3 dX11_bestFor_335 rfl ?_
      refine xi_iald C 4 rfl c12 dX11_bestFor_337 ?_
      refine xi_ishl C dX11_bestFor_338 ?_
      refine xi_iadd C dX11_bestFor_339 ?_
      refine xi_drop (L2 := [(0, .ref a_t), (4, .int (s1 ||| s0))]) [0, 1] rfl ?_
      exact B340 K270 hK270 (s1 ||| s0) ((1 <<< ((t_one y6.toNatClampNeg) &&& 31)) + (1 <<< ((t_other y6.toNatClampNeg) &&& 31))) y5 t_worth t_choice h
    · replace h := (if_pos c11).symm.trans h
      refine xi_iconst C (v := 1) dX11_bestFor_311 rfl ?_
      refine xi_iload C 2 dX11_bestFor_312 rfl ?_
      replace h := ob h
      obtain ⟨u13, hu14, h⟩ := h
      refine xi_callSr C (kX11_lowest l D cT y5 u13 hu14) zcX11_lowest zmX11_234 zsX11_lowest (zr rfl rfl) z00 rfl [] rfl rfl rfl (Nat.le_of_ble_eq_true rfl) dX11_bestFor_314 (fun z15 => ?_)
      refine xi_ishl C dX11_bestFor_317 ?_
      refine xi_goto C (tgt := 340) dX11_bestFor_318 rfl ?_
      refine xi_drop (L2 := [(0, .ref a_t), (4, .int (s1 ||| s0))]) [0, 1] rfl ?_
      exact B340 K270 hK270 (s1 ||| s0) (1 <<< (u13 &&& 31)) y5 t_worth t_choice h
  have B270 : ∀ (n : Nat) (y4 : Int32) (y5 : Int32) (t_worth : Nat → Int64) (t_choice : Nat → Int32), fX11_bestFor_p2istnow_b270 t_one t_other n y4 y5 t_worth t_choice = some r → sW X l (zR 4) D 10 0 0 270 [(0, .ref a_t), (4, .int y4), (5, .int y5)] [] [(a_t, .inr (11, [.int t_thrown, .ref a_t_now, .ref a_t_told, .ref a_t_one, .ref a_t_other, .ref a_t_forth, .ref a_t_cost, .ref a_t_broken, .ref a_t_away, .ref a_t_text, .int t_length, .int t_textSize, .int t_start, .int t_next, .int t_token, .int t_value, .int t_error, .int t_errorAt, .int t_number, .int t_isFirst, .ref a_t_worth, .ref a_t_choice, .ref a_t_thought, .ref a_t_before, .ref a_t_deep, .int t_limitNow, .ref a_t_price, .int t_undos, .ref a_t_undo, .ref a_t_slots, .ref a_t_isSaved])), (a_t_now, .inl (cT 0, 514, .inl t_now)), (a_t_told, .inl (cT 0, 8, .inl t_told)), (a_t_one, .inl (cT 0, 48, .inl t_one)), (a_t_other, .inl (cT 0, 48, .inl t_other)), (a_t_forth, .inl (cT 0, 48, .inl t_forth)), (a_t_cost, .inl (cT 0, 48, .inl t_cost)), (a_t_broken, .inl (cT 0, 72, .inl t_broken)), (a_t_away, .inl (cT 0, 72, .inl t_away)), (a_t_worth, .inl (cT 1, 1024, .inr (.inl t_worth))), (a_t_choice, .inl (cT 0, 1024, .inl t_choice))] := by
    intro n
    induction n with
    | zero =>
      intro y4 y5 t_worth t_choice h
      exact zno ((fX11_bestFor_p2istnow_b270_0 _ _ _ _ _ _).symm.trans h)
    | succ n ih =>
      intro y4 y5 t_worth t_choice h
      replace h := (fX11_bestFor_p2istnow_b270_s _ _ _ _ _ _ _).symm.trans h
      refine xi_iload C 2 dX11_bestFor_270 rfl ?_
      refine xi_if_eq C (tgt := 346) dX11_bestFor_272 rfl (fun c8 => ?_) (fun c8 => ?_)
      · replace h := (if_pos c8).symm.trans h
        refine xi_iload C 1 dX11_bestFor_346 rfl ?_
        obtain rfl := Option.some.inj h
        exact hE _ _ _ dX11_bestFor_348 rfl
      · replace h := (if_neg c8).symm.trans h
        refine xi_aload_n C 0 dX11_bestFor_275 rfl ?_
        refine xi_get C zkX11 21 0 zlX11_46 (by decide) rfl rfl dX11_bestFor_276 ?_
        refine xi_iload C 2 dX11_bestFor_279 rfl ?_
        replace h := ig h
        obtain ⟨c9, h⟩ := h
        refine xi_iald C 10 rfl c9 dX11_bestFor_281 ?_
        refine xi_istore C [1, 2, 3, 0] (L2 := [(0, .ref a_t), (4, .int y4), (5, .int y5), (6, .int (t_choice y5.toNatClampNeg))]) dX11_bestFor_282 (Nat.le_of_ble_eq_true rfl) rfl ?_
        refine xi_iload C 1 dX11_bestFor_284 rfl ?_
        refine xi_iload C 3 dX11_bestFor_286 rfl ?_
        refine xi_iconst C (v := (-1)) dX11_bestFor_288 rfl ?_
        refine xi_icmp_ne C (tgt := 296) dX11_bestFor_289 rfl (fun c10 => ?_) (fun c10 => ?_)
        · replace h := (if_neg c10).symm.trans h
          refine xi_iconst C (v := 1) dX11_bestFor_296 rfl ?_
          refine xi_iload C 3 dX11_bestFor_297 rfl ?_
          refine xi_ishl C dX11_bestFor_299 ?_
          refine xi_drop (L2 := [(0, .ref a_t), (5, .int y5), (6, .int (t_choice y5.toNatClampNeg))]) [0, 2, 3] rfl ?_
          exact B300 (fX11_bestFor_p2istnow_b270 t_one t_other n) ih y5 (t_choice y5.toNatClampNeg) (1 <<< ((t_choice y5.toNatClampNeg) &&& 31)) y4 t_worth t_choice h
        · replace h := (if_pos c10).symm.trans h
          refine xi_iconst C (v := 0) dX11_bestFor_292 rfl ?_
          refine xi_goto C (tgt := 300) dX11_bestFor_293 rfl ?_
          refine xi_drop (L2 := [(0, .ref a_t), (5, .int y5), (6, .int (t_choice y5.toNatClampNeg))]) [0, 2, 3] rfl ?_
          exact B300 (fX11_bestFor_p2istnow_b270 t_one t_other n) ih y5 (t_choice y5.toNatClampNeg) 0 y4 t_worth t_choice h
  have B261 : ∀ (t_worth : Nat → Int64) (t_choice : Nat → Int32), fX11_bestFor_p2istnow_b261 t_told t_one t_other t_worth t_choice = some r → sW X l (zR 4) D 10 0 0 261 [(0, .ref a_t)] [] [(a_t, .inr (11, [.int t_thrown, .ref a_t_now, .ref a_t_told, .ref a_t_one, .ref a_t_other, .ref a_t_forth, .ref a_t_cost, .ref a_t_broken, .ref a_t_away, .ref a_t_text, .int t_length, .int t_textSize, .int t_start, .int t_next, .int t_token, .int t_value, .int t_error, .int t_errorAt, .int t_number, .int t_isFirst, .ref a_t_worth, .ref a_t_choice, .ref a_t_thought, .ref a_t_before, .ref a_t_deep, .int t_limitNow, .ref a_t_price, .int t_undos, .ref a_t_undo, .ref a_t_slots, .ref a_t_isSaved])), (a_t_now, .inl (cT 0, 514, .inl t_now)), (a_t_told, .inl (cT 0, 8, .inl t_told)), (a_t_one, .inl (cT 0, 48, .inl t_one)), (a_t_other, .inl (cT 0, 48, .inl t_other)), (a_t_forth, .inl (cT 0, 48, .inl t_forth)), (a_t_cost, .inl (cT 0, 48, .inl t_cost)), (a_t_broken, .inl (cT 0, 72, .inl t_broken)), (a_t_away, .inl (cT 0, 72, .inl t_away)), (a_t_worth, .inl (cT 1, 1024, .inr (.inl t_worth))), (a_t_choice, .inl (cT 0, 1024, .inl t_choice))] := by
    intro t_worth t_choice h
    refine xi_iconst C (v := 0) dX11_bestFor_261 rfl ?_
    refine xi_istore C [1, 0] (L2 := [(0, .ref a_t), (4, .int 0)]) dX11_bestFor_262 (Nat.le_of_ble_eq_true rfl) rfl ?_
    refine xi_aload_n C 0 dX11_bestFor_264 rfl ?_
    replace h := ob h
    obtain ⟨u5, hu6, h⟩ := h
    refine xi_callVr C (kX11_all l D cT a_t a_t_now a_t_told a_t_one a_t_other a_t_forth a_t_cost a_t_broken a_t_away a_t_text a_t_worth a_t_choice a_t_thought a_t_before a_t_deep a_t_price a_t_undo a_t_slots a_t_isSaved t_thrown t_length t_textSize t_start t_next t_token t_value t_error t_errorAt t_number t_isFirst t_limitNow t_undos t_told u5 hu6) zcX11_all zmX11_231 ziX11_all (zr rfl rfl) z00 rfl [0, 2] rfl rfl zkX11.1 (qr := 0) rfl rfl (Nat.le_of_ble_eq_true rfl) dX11_bestFor_265 (fun z7 => ?_)
    refine xi_istore C [1, 2, 0] (L2 := [(0, .ref a_t), (4, .int 0), (5, .int u5)]) dX11_bestFor_268 (Nat.le_of_ble_eq_true rfl) rfl ?_
    exact B270 FU 0 u5 t_worth t_choice h
  have B248 : ∀ (K3 : Int32 → (Nat → Int64) → (Nat → Int32) → Option (Int32 × (Nat → Int64) × (Nat → Int32))) (hK3 : ∀ (y4 : Int32) (t_worth : Nat → Int64) (t_choice : Nat → Int32), K3 y4 t_worth t_choice = some r → sW X l (zR 4) D 10 0 0 3 [(0, .ref a_t), (1, .int x1), (2, .ref a_t_now), (3, .int x3), (4, .int y4)] [] [(a_t, .inr (11, [.int t_thrown, .ref a_t_now, .ref a_t_told, .ref a_t_one, .ref a_t_other, .ref a_t_forth, .ref a_t_cost, .ref a_t_broken, .ref a_t_away, .ref a_t_text, .int t_length, .int t_textSize, .int t_start, .int t_next, .int t_token, .int t_value, .int t_error, .int t_errorAt, .int t_number, .int t_isFirst, .ref a_t_worth, .ref a_t_choice, .ref a_t_thought, .ref a_t_before, .ref a_t_deep, .int t_limitNow, .ref a_t_price, .int t_undos, .ref a_t_undo, .ref a_t_slots, .ref a_t_isSaved])), (a_t_now, .inl (cT 0, 514, .inl t_now)), (a_t_told, .inl (cT 0, 8, .inl t_told)), (a_t_one, .inl (cT 0, 48, .inl t_one)), (a_t_other, .inl (cT 0, 48, .inl t_other)), (a_t_forth, .inl (cT 0, 48, .inl t_forth)), (a_t_cost, .inl (cT 0, 48, .inl t_cost)), (a_t_broken, .inl (cT 0, 72, .inl t_broken)), (a_t_away, .inl (cT 0, 72, .inl t_away)), (a_t_worth, .inl (cT 1, 1024, .inr (.inl t_worth))), (a_t_choice, .inl (cT 0, 1024, .inl t_choice))]) (K49 : Int32 → Int32 → Int32 → (Nat → Int64) → (Nat → Int32) → Option (Int32 × (Nat → Int64) × (Nat → Int32))) (hK49 : ∀ (y4 : Int32) (y5 : Int32) (y6 : Int32) (t_worth : Nat → Int64) (t_choice : Nat → Int32), K49 y4 y5 y6 t_worth t_choice = some r → sW X l (zR 4) D 10 0 0 49 [(0, .ref a_t), (1, .int x1), (2, .ref a_t_now), (3, .int x3), (4, .int y4), (5, .int y5), (6, .int y6)] [] [(a_t, .inr (11, [.int t_thrown, .ref a_t_now, .ref a_t_told, .ref a_t_one, .ref a_t_other, .ref a_t_forth, .ref a_t_cost, .ref a_t_broken, .ref a_t_away, .ref a_t_text, .int t_length, .int t_textSize, .int t_start, .int t_next, .int t_token, .int t_value, .int t_error, .int t_errorAt, .int t_number, .int t_isFirst, .ref a_t_worth, .ref a_t_choice, .ref a_t_thought, .ref a_t_before, .ref a_t_deep, .int t_limitNow, .ref a_t_price, .int t_undos, .ref a_t_undo, .ref a_t_slots, .ref a_t_isSaved])), (a_t_now, .inl (cT 0, 514, .inl t_now)), (a_t_told, .inl (cT 0, 8, .inl t_told)), (a_t_one, .inl (cT 0, 48, .inl t_one)), (a_t_other, .inl (cT 0, 48, .inl t_other)), (a_t_forth, .inl (cT 0, 48, .inl t_forth)), (a_t_cost, .inl (cT 0, 48, .inl t_cost)), (a_t_broken, .inl (cT 0, 72, .inl t_broken)), (a_t_away, .inl (cT 0, 72, .inl t_away)), (a_t_worth, .inl (cT 1, 1024, .inr (.inl t_worth))), (a_t_choice, .inl (cT 0, 1024, .inl t_choice))]) (y4 : Int32) (y5 : Int32) (y6 : Int32) (s0 : Int64) (s1 : Int32) (t_worth : Nat → Int64) (t_choice : Nat → Int32), fX11_bestFor_p2istnow_b248 K49 y4 y5 y6 s0 s1 t_worth t_choice = some r → sW X l (zR 4) D 10 0 0 248 [(0, .ref a_t), (1, .int x1), (2, .ref a_t_now), (3, .int x3), (4, .int y4), (5, .int y5), (6, .int y6)] [.long s0, .int s1, .ref a_t_worth] [(a_t, .inr (11, [.int t_thrown, .ref a_t_now, .ref a_t_told, .ref a_t_one, .ref a_t_other, .ref a_t_forth, .ref a_t_cost, .ref a_t_broken, .ref a_t_away, .ref a_t_text, .int t_length, .int t_textSize, .int t_start, .int t_next, .int t_token, .int t_value, .int t_error, .int t_errorAt, .int t_number, .int t_isFirst, .ref a_t_worth, .ref a_t_choice, .ref a_t_thought, .ref a_t_before, .ref a_t_deep, .int t_limitNow, .ref a_t_price, .int t_undos, .ref a_t_undo, .ref a_t_slots, .ref a_t_isSaved])), (a_t_now, .inl (cT 0, 514, .inl t_now)), (a_t_told, .inl (cT 0, 8, .inl t_told)), (a_t_one, .inl (cT 0, 48, .inl t_one)), (a_t_other, .inl (cT 0, 48, .inl t_other)), (a_t_forth, .inl (cT 0, 48, .inl t_forth)), (a_t_cost, .inl (cT 0, 48, .inl t_cost)), (a_t_broken, .inl (cT 0, 72, .inl t_broken)), (a_t_away, .inl (cT 0, 72, .inl t_away)), (a_t_worth, .inl (cT 1, 1024, .inr (.inl t_worth))), (a_t_choice, .inl (cT 0, 1024, .inl t_choice))] := by
    intro K3 hK3 K49 hK49 y4 y5 y6 s0 s1 t_worth t_choice h
    replace h := ig h
    obtain ⟨c44, h⟩ := h
    refine xi_last C 9 rfl c44 dX11_bestFor_248 (ws2 := [(a_t, .inr (11, [.int t_thrown, .ref a_t_now, .ref a_t_told, .ref a_t_one, .ref a_t_other, .ref a_t_forth, .ref a_t_cost, .ref a_t_broken, .ref a_t_away, .ref a_t_text, .int t_length, .int t_textSize, .int t_start, .int t_next, .int t_token, .int t_value, .int t_error, .int t_errorAt, .int t_number, .int t_isFirst, .ref a_t_worth, .ref a_t_choice, .ref a_t_thought, .ref a_t_before, .ref a_t_deep, .int t_limitNow, .ref a_t_price, .int t_undos, .ref a_t_undo, .ref a_t_slots, .ref a_t_isSaved])), (a_t_now, .inl (cT 0, 514, .inl t_now)), (a_t_told, .inl (cT 0, 8, .inl t_told)), (a_t_one, .inl (cT 0, 48, .inl t_one)), (a_t_other, .inl (cT 0, 48, .inl t_other)), (a_t_forth, .inl (cT 0, 48, .inl t_forth)), (a_t_cost, .inl (cT 0, 48, .inl t_cost)), (a_t_broken, .inl (cT 0, 72, .inl t_broken)), (a_t_away, .inl (cT 0, 72, .inl t_away)), (a_t_worth, .inl (cT 1, 1024, .inr (.inl (vp_updL t_worth s1.toNatClampNeg s0)))), (a_t_choice, .inl (cT 0, 1024, .inl t_choice))]) rfl ?_
    refine xi_iinc C (v := y6 + 1) 6 [1, 2, 3, 4, 5, 6, 0] (L2 := [(0, .ref a_t), (1, .int x1), (2, .ref a_t_now), (3, .int x3), (4, .int y4), (5, .int y5), (6, .int (y6 + 1))]) dX11_bestFor_249 rfl rfl (Nat.le_of_ble_eq_true rfl) rfl ?_
    refine xi_goto C (tgt := 49) dX11_bestFor_252 rfl ?_
    exact hK49 y4 y5 (y6 + 1) (vp_updL t_worth s1.toNatClampNeg s0) t_choice h
  have B216 : ∀ (K3 : Int32 → (Nat → Int64) → (Nat → Int32) → Option (Int32 × (Nat → Int64) × (Nat → Int32))) (hK3 : ∀ (y4 : Int32) (t_worth : Nat → Int64) (t_choice : Nat → Int32), K3 y4 t_worth t_choice = some r → sW X l (zR 4) D 10 0 0 3 [(0, .ref a_t), (1, .int x1), (2, .ref a_t_now), (3, .int x3), (4, .int y4)] [] [(a_t, .inr (11, [.int t_thrown, .ref a_t_now, .ref a_t_told, .ref a_t_one, .ref a_t_other, .ref a_t_forth, .ref a_t_cost, .ref a_t_broken, .ref a_t_away, .ref a_t_text, .int t_length, .int t_textSize, .int t_start, .int t_next, .int t_token, .int t_value, .int t_error, .int t_errorAt, .int t_number, .int t_isFirst, .ref a_t_worth, .ref a_t_choice, .ref a_t_thought, .ref a_t_before, .ref a_t_deep, .int t_limitNow, .ref a_t_price, .int t_undos, .ref a_t_undo, .ref a_t_slots, .ref a_t_isSaved])), (a_t_now, .inl (cT 0, 514, .inl t_now)), (a_t_told, .inl (cT 0, 8, .inl t_told)), (a_t_one, .inl (cT 0, 48, .inl t_one)), (a_t_other, .inl (cT 0, 48, .inl t_other)), (a_t_forth, .inl (cT 0, 48, .inl t_forth)), (a_t_cost, .inl (cT 0, 48, .inl t_cost)), (a_t_broken, .inl (cT 0, 72, .inl t_broken)), (a_t_away, .inl (cT 0, 72, .inl t_away)), (a_t_worth, .inl (cT 1, 1024, .inr (.inl t_worth))), (a_t_choice, .inl (cT 0, 1024, .inl t_choice))]) (K49 : Int32 → Int32 → Int32 → (Nat → Int64) → (Nat → Int32) → Option (Int32 × (Nat → Int64) × (Nat → Int32))) (hK49 : ∀ (y4 : Int32) (y5 : Int32) (y6 : Int32) (t_worth : Nat → Int64) (t_choice : Nat → Int32), K49 y4 y5 y6 t_worth t_choice = some r → sW X l (zR 4) D 10 0 0 49 [(0, .ref a_t), (1, .int x1), (2, .ref a_t_now), (3, .int x3), (4, .int y4), (5, .int y5), (6, .int y6)] [] [(a_t, .inr (11, [.int t_thrown, .ref a_t_now, .ref a_t_told, .ref a_t_one, .ref a_t_other, .ref a_t_forth, .ref a_t_cost, .ref a_t_broken, .ref a_t_away, .ref a_t_text, .int t_length, .int t_textSize, .int t_start, .int t_next, .int t_token, .int t_value, .int t_error, .int t_errorAt, .int t_number, .int t_isFirst, .ref a_t_worth, .ref a_t_choice, .ref a_t_thought, .ref a_t_before, .ref a_t_deep, .int t_limitNow, .ref a_t_price, .int t_undos, .ref a_t_undo, .ref a_t_slots, .ref a_t_isSaved])), (a_t_now, .inl (cT 0, 514, .inl t_now)), (a_t_told, .inl (cT 0, 8, .inl t_told)), (a_t_one, .inl (cT 0, 48, .inl t_one)), (a_t_other, .inl (cT 0, 48, .inl t_other)), (a_t_forth, .inl (cT 0, 48, .inl t_forth)), (a_t_cost, .inl (cT 0, 48, .inl t_cost)), (a_t_broken, .inl (cT 0, 72, .inl t_broken)), (a_t_away, .inl (cT 0, 72, .inl t_away)), (a_t_worth, .inl (cT 1, 1024, .inr (.inl t_worth))), (a_t_choice, .inl (cT 0, 1024, .inl t_choice))]) (y4 : Int32) (y5 : Int32) (y6 : Int32) (y8 : Int64) (s0 : Int32) (s1 : Int32) (t_worth : Nat → Int64) (t_choice : Nat → Int32), fX11_bestFor_p2istnow_b216 K49 y4 y5 y6 y8 s0 s1 t_worth t_choice = some r → sW X l (zR 4) D 10 0 0 216 [(0, .ref a_t), (1, .int x1), (2, .ref a_t_now), (3, .int x3), (4, .int y4), (5, .int y5), (6, .int y6), (8, .long y8)] [.int s0, .int s1, .ref a_t_choice] [(a_t, .inr (11, [.int t_thrown, .ref a_t_now, .ref a_t_told, .ref a_t_one, .ref a_t_other, .ref a_t_forth, .ref a_t_cost, .ref a_t_broken, .ref a_t_away, .ref a_t_text, .int t_length, .int t_textSize, .int t_start, .int t_next, .int t_token, .int t_value, .int t_error, .int t_errorAt, .int t_number, .int t_isFirst, .ref a_t_worth, .ref a_t_choice, .ref a_t_thought, .ref a_t_before, .ref a_t_deep, .int t_limitNow, .ref a_t_price, .int t_undos, .ref a_t_undo, .ref a_t_slots, .ref a_t_isSaved])), (a_t_now, .inl (cT 0, 514, .inl t_now)), (a_t_told, .inl (cT 0, 8, .inl t_told)), (a_t_one, .inl (cT 0, 48, .inl t_one)), (a_t_other, .inl (cT 0, 48, .inl t_other)), (a_t_forth, .inl (cT 0, 48, .inl t_forth)), (a_t_cost, .inl (cT 0, 48, .inl t_cost)), (a_t_broken, .inl (cT 0, 72, .inl t_broken)), (a_t_away, .inl (cT 0, 72, .inl t_away)), (a_t_worth, .inl (cT 1, 1024, .inr (.inl t_worth))), (a_t_choice, .inl (cT 0, 1024, .inl t_choice))] := by
    intro K3 hK3 K49 hK49 y4 y5 y6 y8 s0 s1 t_worth t_choice h
    replace h := ig h
    obtain ⟨c41, h⟩ := h
    refine xi_iast C 10 rfl c41 dX11_bestFor_216 (ws2 := [(a_t, .inr (11, [.int t_thrown, .ref a_t_now, .ref a_t_told, .ref a_t_one, .ref a_t_other, .ref a_t_forth, .ref a_t_cost, .ref a_t_broken, .ref a_t_away, .ref a_t_text, .int t_length, .int t_textSize, .int t_start, .int t_next, .int t_token, .int t_value, .int t_error, .int t_errorAt, .int t_number, .int t_isFirst, .ref a_t_worth, .ref a_t_choice, .ref a_t_thought, .ref a_t_before, .ref a_t_deep, .int t_limitNow, .ref a_t_price, .int t_undos, .ref a_t_undo, .ref a_t_slots, .ref a_t_isSaved])), (a_t_now, .inl (cT 0, 514, .inl t_now)), (a_t_told, .inl (cT 0, 8, .inl t_told)), (a_t_one, .inl (cT 0, 48, .inl t_one)), (a_t_other, .inl (cT 0, 48, .inl t_other)), (a_t_forth, .inl (cT 0, 48, .inl t_forth)), (a_t_cost, .inl (cT 0, 48, .inl t_cost)), (a_t_broken, .inl (cT 0, 72, .inl t_broken)), (a_t_away, .inl (cT 0, 72, .inl t_away)), (a_t_worth, .inl (cT 1, 1024, .inr (.inl t_worth))), (a_t_choice, .inl (cT 0, 1024, .inl (upd t_choice s1.toNatClampNeg s0)))]) rfl ?_
    refine xi_aload_n C 0 dX11_bestFor_217 rfl ?_
    refine xi_get C zkX11 20 0 zlX11_42 (by decide) rfl rfl dX11_bestFor_218 ?_
    refine xi_iload C 4 dX11_bestFor_221 rfl ?_
    refine xi_lload C 7 dX11_bestFor_223 rfl ?_
    refine xi_aload_n C 0 dX11_bestFor_225 rfl ?_
    refine xi_get C zkX11 20 0 zlX11_42 (by decide) rfl rfl dX11_bestFor_226 ?_
    refine xi_iload C 4 dX11_bestFor_229 rfl ?_
    replace h := ig h
    obtain ⟨c42, h⟩ := h
    refine xi_lald C 9 rfl c42 dX11_bestFor_231 ?_
    refine xi_lcmp C dX11_bestFor_232 ?_
    refine xi_if_le C (tgt := 241) dX11_bestFor_233 rfl (fun c43 => ?_) (fun c43 => ?_)
    · replace h := (if_pos c43).symm.trans h
      refine xi_aload_n C 0 dX11_bestFor_241 rfl ?_
      refine xi_get C zkX11 20 0 zlX11_42 (by decide) rfl rfl dX11_bestFor_242 ?_
      refine xi_iload C 4 dX11_bestFor_245 rfl ?_
      refine xi_lald C 9 rfl c42 dX11_bestFor_247 ?_
      refine xi_drop (L2 := [(0, .ref a_t), (1, .int x1), (2, .ref a_t_now), (3, .int x3), (4, .int y4), (5, .int y5), (6, .int y6)]) [0, 1, 2, 3, 4, 5, 6] rfl ?_
      exact B248 K3 hK3 K49 hK49 y4 y5 y6 (t_worth y4.toNatClampNeg) y4 t_worth (upd t_choice s1.toNatClampNeg s0) h
    · replace h := (if_neg c43).symm.trans h
      refine xi_lload C 7 dX11_bestFor_236 rfl ?_
      refine xi_goto C (tgt := 248) dX11_bestFor_238 rfl ?_
      refine xi_drop (L2 := [(0, .ref a_t), (1, .int x1), (2, .ref a_t_now), (3, .int x3), (4, .int y4), (5, .int y5), (6, .int y6)]) [0, 1, 2, 3, 4, 5, 6] rfl ?_
      exact B248 K3 hK3 K49 hK49 y4 y5 y6 y8 y4 t_worth (upd t_choice s1.toNatClampNeg s0) h
  have B105 : ∀ (K3 : Int32 → (Nat → Int64) → (Nat → Int32) → Option (Int32 × (Nat → Int64) × (Nat → Int32))) (hK3 : ∀ (y4 : Int32) (t_worth : Nat → Int64) (t_choice : Nat → Int32), K3 y4 t_worth t_choice = some r → sW X l (zR 4) D 10 0 0 3 [(0, .ref a_t), (1, .int x1), (2, .ref a_t_now), (3, .int x3), (4, .int y4)] [] [(a_t, .inr (11, [.int t_thrown, .ref a_t_now, .ref a_t_told, .ref a_t_one, .ref a_t_other, .ref a_t_forth, .ref a_t_cost, .ref a_t_broken, .ref a_t_away, .ref a_t_text, .int t_length, .int t_textSize, .int t_start, .int t_next, .int t_token, .int t_value, .int t_error, .int t_errorAt, .int t_number, .int t_isFirst, .ref a_t_worth, .ref a_t_choice, .ref a_t_thought, .ref a_t_before, .ref a_t_deep, .int t_limitNow, .ref a_t_price, .int t_undos, .ref a_t_undo, .ref a_t_slots, .ref a_t_isSaved])), (a_t_now, .inl (cT 0, 514, .inl t_now)), (a_t_told, .inl (cT 0, 8, .inl t_told)), (a_t_one, .inl (cT 0, 48, .inl t_one)), (a_t_other, .inl (cT 0, 48, .inl t_other)), (a_t_forth, .inl (cT 0, 48, .inl t_forth)), (a_t_cost, .inl (cT 0, 48, .inl t_cost)), (a_t_broken, .inl (cT 0, 72, .inl t_broken)), (a_t_away, .inl (cT 0, 72, .inl t_away)), (a_t_worth, .inl (cT 1, 1024, .inr (.inl t_worth))), (a_t_choice, .inl (cT 0, 1024, .inl t_choice))]) (K49 : Int32 → Int32 → Int32 → (Nat → Int64) → (Nat → Int32) → Option (Int32 × (Nat → Int64) × (Nat → Int32))) (hK49 : ∀ (y4 : Int32) (y5 : Int32) (y6 : Int32) (t_worth : Nat → Int64) (t_choice : Nat → Int32), K49 y4 y5 y6 t_worth t_choice = some r → sW X l (zR 4) D 10 0 0 49 [(0, .ref a_t), (1, .int x1), (2, .ref a_t_now), (3, .int x3), (4, .int y4), (5, .int y5), (6, .int y6)] [] [(a_t, .inr (11, [.int t_thrown, .ref a_t_now, .ref a_t_told, .ref a_t_one, .ref a_t_other, .ref a_t_forth, .ref a_t_cost, .ref a_t_broken, .ref a_t_away, .ref a_t_text, .int t_length, .int t_textSize, .int t_start, .int t_next, .int t_token, .int t_value, .int t_error, .int t_errorAt, .int t_number, .int t_isFirst, .ref a_t_worth, .ref a_t_choice, .ref a_t_thought, .ref a_t_before, .ref a_t_deep, .int t_limitNow, .ref a_t_price, .int t_undos, .ref a_t_undo, .ref a_t_slots, .ref a_t_isSaved])), (a_t_now, .inl (cT 0, 514, .inl t_now)), (a_t_told, .inl (cT 0, 8, .inl t_told)), (a_t_one, .inl (cT 0, 48, .inl t_one)), (a_t_other, .inl (cT 0, 48, .inl t_other)), (a_t_forth, .inl (cT 0, 48, .inl t_forth)), (a_t_cost, .inl (cT 0, 48, .inl t_cost)), (a_t_broken, .inl (cT 0, 72, .inl t_broken)), (a_t_away, .inl (cT 0, 72, .inl t_away)), (a_t_worth, .inl (cT 1, 1024, .inr (.inl t_worth))), (a_t_choice, .inl (cT 0, 1024, .inl t_choice))]) (y4 : Int32) (y5 : Int32) (y6 : Int32) (s0 : Int32) (t_worth : Nat → Int64) (t_choice : Nat → Int32), fX11_bestFor_p2istnow_b105 t_now t_told t_one t_other t_forth t_cost t_broken t_away x1 x3 K49 y4 y5 y6 s0 t_worth t_choice = some r → sW X l (zR 4) D 10 0 0 105 [(0, .ref a_t), (1, .int x1), (2, .ref a_t_now), (3, .int x3), (4, .int y4), (5, .int y5), (6, .int y6)] [.int s0] [(a_t, .inr (11, [.int t_thrown, .ref a_t_now, .ref a_t_told, .ref a_t_one, .ref a_t_other, .ref a_t_forth, .ref a_t_cost, .ref a_t_broken, .ref a_t_away, .ref a_t_text, .int t_length, .int t_textSize, .int t_start, .int t_next, .int t_token, .int t_value, .int t_error, .int t_errorAt, .int t_number, .int t_isFirst, .ref a_t_worth, .ref a_t_choice, .ref a_t_thought, .ref a_t_before, .ref a_t_deep, .int t_limitNow, .ref a_t_price, .int t_undos, .ref a_t_undo, .ref a_t_slots, .ref a_t_isSaved])), (a_t_now, .inl (cT 0, 514, .inl t_now)), (a_t_told, .inl (cT 0, 8, .inl t_told)), (a_t_one, .inl (cT 0, 48, .inl t_one)), (a_t_other, .inl (cT 0, 48, .inl t_other)), (a_t_forth, .inl (cT 0, 48, .inl t_forth)), (a_t_cost, .inl (cT 0, 48, .inl t_cost)), (a_t_broken, .inl (cT 0, 72, .inl t_broken)), (a_t_away, .inl (cT 0, 72, .inl t_away)), (a_t_worth, .inl (cT 1, 1024, .inr (.inl t_worth))), (a_t_choice, .inl (cT 0, 1024, .inl t_choice))] := by
    intro K3 hK3 K49 hK49 y4 y5 y6 s0 t_worth t_choice h
    refine xi_istore C [1, 2, 3, 4, 5, 6, 7, 0] (L2 := [(0, .ref a_t), (1, .int x1), (2, .ref a_t_now), (3, .int x3), (4, .int y4), (5, .int y5), (6, .int y6), (7, .int s0)]) dX11_bestFor_105 (Nat.le_of_ble_eq_true rfl) rfl ?_
    refine xi_iload C 7 dX11_bestFor_107 rfl ?_
    refine xi_iconst C (v := (-1)) dX11_bestFor_109 rfl ?_
    refine xi_icmp_eq C (tgt := 249) dX11_bestFor_110 rfl (fun c25 => ?_) (fun c25 => ?_)
    · replace h := (if_pos c25).symm.trans h
      refine xi_iinc C (v := y6 + 1) 6 [1, 2, 3, 4, 5, 6, 0, 7] (L2 := [(0, .ref a_t), (1, .int x1), (2, .ref a_t_now), (3, .int x3), (4, .int y4), (5, .int y5), (6, .int (y6 + 1)), (7, .int s0)]) dX11_bestFor_249 rfl rfl (Nat.le_of_ble_eq_true rfl) rfl ?_
      refine xi_goto C (tgt := 49) dX11_bestFor_252 rfl ?_
      refine xi_drop (L2 := [(0, .ref a_t), (1, .int x1), (2, .ref a_t_now), (3, .int x3), (4, .int y4), (5, .int y5), (6, .int (y6 + 1))]) [0, 1, 2, 3, 4, 5, 6] rfl ?_
      exact hK49 y4 y5 (y6 + 1) t_worth t_choice h
    · replace h := (if_neg c25).symm.trans h
      refine xi_iload C 4 dX11_bestFor_113 rfl ?_
      refine xi_iload C 7 dX11_bestFor_115 rfl ?_
      refine xi_callSr C (kX11_isIn l D cT y4 s0 (fX11_isIn y4 s0) rfl) zcX11_isIn zmX11_201 zsX11_isIn (zr rfl rfl) z00 rfl [] rfl rfl rfl (Nat.le_of_ble_eq_true rfl) dX11_bestFor_117 (fun z28 => ?_)
      refine xi_if_eq C (tgt := 249) dX11_bestFor_120 rfl (fun c29 => ?_) (fun c29 => ?_)
      · replace h := (if_pos c29).symm.trans h
        refine xi_iinc C (v := y6 + 1) 6 [1, 2, 3, 4, 5, 6, 0, 7] (L2 := [(0, .ref a_t), (1, .int x1), (2, .ref a_t_now), (3, .int x3), (4, .int y4), (5, .int y5), (6, .int (y6 + 1)), (7, .int s0)]) dX11_bestFor_249 rfl rfl (Nat.le_of_ble_eq_true rfl) rfl ?_
        refine xi_goto C (tgt := 49) dX11_bestFor_252 rfl ?_
        refine xi_drop (L2 := [(0, .ref a_t), (1, .int x1), (2, .ref a_t_now), (3, .int x3), (4, .int y4), (5, .int y5), (6, .int (y6 + 1))]) [0, 1, 2, 3, 4, 5, 6] rfl ?_
        exact hK49 y4 y5 (y6 + 1) t_worth t_choice h
      · replace h := (if_neg c29).symm.trans h
        refine xi_aload_n C 0 dX11_bestFor_123 rfl ?_
        refine xi_iload C 6 dX11_bestFor_124 rfl ?_
        refine xi_iload_n C 1 dX11_bestFor_126 rfl ?_
        replace h := ob h
        obtain ⟨u30, hu31, h⟩ := h
        refine xi_callVr C (kX11_canCall l D cT a_t a_t_now a_t_told a_t_one a_t_other a_t_forth a_t_cost a_t_broken a_t_away a_t_text a_t_worth a_t_choice a_t_thought a_t_before a_t_deep a_t_price a_t_undo a_t_slots a_t_isSaved t_thrown t_length t_textSize t_start t_next t_token t_value t_error t_errorAt t_number t_isFirst t_limitNow t_undos t_now t_told t_one t_other t_broken t_away y6 x1 u30 hu31) zcX11_canCall zmX11_207 ziX11_canCall (zr rfl rfl) z00 rfl [0, 1, 2, 3, 4, 7, 8] rfl rfl zkX11.1 (qr := 0) rfl rfl (Nat.le_of_ble_eq_true rfl) dX11_bestFor_127 (fun z32 => ?_)
        refine xi_if_ne C (tgt := 136) dX11_bestFor_130 rfl (fun c33 => ?_) (fun c33 => ?_)
        · replace h := (if_neg c33).symm.trans h
          refine xi_aload_n C 0 dX11_bestFor_136 rfl ?_
          refine xi_iload C 6 dX11_bestFor_137 rfl ?_
          refine xi_aload_n C 2 dX11_bestFor_139 rfl ?_
          refine xi_iload_n C 3 dX11_bestFor_140 rfl ?_
          replace h := ob h
          obtain ⟨u34, hu35, h⟩ := h
          refine xi_callVr C (kX11_gainOf l D cT a_t a_t_now a_t_told a_t_one a_t_other a_t_forth a_t_cost a_t_broken a_t_away a_t_text a_t_worth a_t_choice a_t_thought a_t_before a_t_deep a_t_price a_t_undo a_t_slots a_t_isSaved a_t_now 514 t_thrown t_length t_textSize t_start t_next t_token t_value t_error t_errorAt t_number t_isFirst t_limitNow t_undos t_one t_other t_forth t_now y6 x3 u34 hu35) zcX11_gainOf zmX11_224 ziX11_gainOf (zr rfl rfl) z00 rfl [0, 3, 4, 5, 1] rfl rfl zkX11.1 (qr := 0) rfl rfl (Nat.le_of_ble_eq_true rfl) dX11_bestFor_141 (fun z36 => ?_)
          refine xi_i2l C dX11_bestFor_144 ?_
          refine xi_bipush C (v := 40) dX11_bestFor_145 rfl ?_
          refine xi_lshl C dX11_bestFor_147 ?_
          refine xi_aload_n C 0 dX11_bestFor_148 rfl ?_
          refine xi_get C zkX11 6 0 zlX11_25 (by decide) rfl rfl dX11_bestFor_149 ?_
          refine xi_iload C 6 dX11_bestFor_152 rfl ?_
          replace h := ig h
          obtain ⟨c37, h⟩ := h
          refine xi_iald C 6 rfl c37 dX11_bestFor_154 ?_
          refine xi_i2l C dX11_bestFor_155 ?_
          refine xi_bipush C (v := 25) dX11_bestFor_156 rfl ?_
          refine xi_lshl C dX11_bestFor_158 ?_
          refine xi_lsub C dX11_bestFor_159 ?_
          refine xi_lconst C (v := 1) dX11_bestFor_160 rfl ?_
          refine xi_iload C 6 dX11_bestFor_161 rfl ?_
          refine xi_lshl C dX11_bestFor_163 ?_
          refine xi_lsub C dX11_bestFor_164 ?_
          refine xi_aload_n C 0 dX11_bestFor_165 rfl ?_
          refine xi_get C zkX11 20 0 zlX11_42 (by decide) rfl rfl dX11_bestFor_166 ?_
          refine xi_iload C 4 dX11_bestFor_169 rfl ?_
          refine xi_iconst C (v := 1) dX11_bestFor_171 rfl ?_
          refine xi_iload C 5 dX11_bestFor_172 rfl ?_
          refine xi_ishl C dX11_bestFor_174 ?_
          refine xi_isub C dX11_bestFor_175 ?_
          refine xi_iconst C (v := 1) dX11_bestFor_176 rfl ?_
          refine xi_iload C 7 dX11_bestFor_177 rfl ?_
          refine xi_ishl C dX11_bestFor_179 ?_
          refine xi_isub C dX11_bestFor_180 ?_
          replace h := ig h
          obtain ⟨c38, h⟩ := h
          refine xi_lald C 9 rfl c38 dX11_bestFor_181 ?_
          refine xi_ladd C dX11_bestFor_182 ?_
          refine xi_lstore C [1, 2, 3, 4, 5, 6, 7, 8, 0] (L2 := [(0, .ref a_t), (1, .int x1), (2, .ref a_t_now), (3, .int x3), (4, .int y4), (5, .int y5), (6, .int y6), (7, .int s0), (8, .long ((((u34.toInt64 <<< ((40 : Int32).toInt64 &&& 63)) - (((t_cost y6.toNatClampNeg).toInt64) <<< ((25 : Int32).toInt64 &&& 63))) - (1 <<< (y6.toInt64 &&& 63))) + (t_worth ((y4 - (1 <<< (y5 &&& 31))) - (1 <<< (s0 &&& 31))).toNatClampNeg)))]) dX11_bestFor_183 (Nat.le_of_ble_eq_true rfl) rfl ?_
          refine xi_aload_n C 0 dX11_bestFor_185 rfl ?_
          refine xi_get C zkX11 21 0 zlX11_46 (by decide) rfl rfl dX11_bestFor_186 ?_
          refine xi_iload C 4 dX11_bestFor_189 rfl ?_
          refine xi_lload C 8 dX11_bestFor_191 rfl ?_
          refine xi_aload_n C 0 dX11_bestFor_193 rfl ?_
          refine xi_get C zkX11 20 0 zlX11_42 (by decide) rfl rfl dX11_bestFor_194 ?_
          refine xi_iload C 4 dX11_bestFor_197 rfl ?_
          replace h := ig h
          obtain ⟨c39, h⟩ := h
          refine xi_lald C 9 rfl c39 dX11_bestFor_199 ?_
          refine xi_lcmp C dX11_bestFor_200 ?_
          refine xi_if_le C (tgt := 209) dX11_bestFor_201 rfl (fun c40 => ?_) (fun c40 => ?_)
          · replace h := (if_pos c40).symm.trans h
            refine xi_aload_n C 0 dX11_bestFor_209 rfl ?_
            refine xi_get C zkX11 21 0 zlX11_46 (by decide) rfl rfl dX11_bestFor_210 ?_
            refine xi_iload C 4 dX11_bestFor_213 rfl ?_
            refine xi_iald C 10 rfl c39 dX11_bestFor_215 ?_
            refine xi_drop (L2 := [(0, .ref a_t), (1, .int x1), (2, .ref a_t_now), (3, .int x3), (4, .int y4), (5, .int y5), (6, .int y6), (8, .long ((((u34.toInt64 <<< ((40 : Int32).toInt64 &&& 63)) - (((t_cost y6.toNatClampNeg).toInt64) <<< ((25 : Int32).toInt64 &&& 63))) - (1 <<< (y6.toInt64 &&& 63))) + (t_worth ((y4 - (1 <<< (y5 &&& 31))) - (1 <<< (s0 &&& 31))).toNatClampNeg)))]) [0, 1, 2, 3, 4, 5, 6, 8] rfl ?_
            exact B216 K3 hK3 K49 hK49 y4 y5 y6 ((((u34.toInt64 <<< ((40 : Int32).toInt64 &&& 63)) - (((t_cost y6.toNatClampNeg).toInt64) <<< ((25 : Int32).toInt64 &&& 63))) - (1 <<< (y6.toInt64 &&& 63))) + (t_worth ((y4 - (1 <<< (y5 &&& 31))) - (1 <<< (s0 &&& 31))).toNatClampNeg)) (t_choice y4.toNatClampNeg) y4 t_worth t_choice h
          · replace h := (if_neg c40).symm.trans h
            refine xi_iload C 6 dX11_bestFor_204 rfl ?_
            refine xi_goto C (tgt := 216) dX11_bestFor_206 rfl ?_
            refine xi_drop (L2 := [(0, .ref a_t), (1, .int x1), (2, .ref a_t_now), (3, .int x3), (4, .int y4), (5, .int y5), (6, .int y6), (8, .long ((((u34.toInt64 <<< ((40 : Int32).toInt64 &&& 63)) - (((t_cost y6.toNatClampNeg).toInt64) <<< ((25 : Int32).toInt64 &&& 63))) - (1 <<< (y6.toInt64 &&& 63))) + (t_worth ((y4 - (1 <<< (y5 &&& 31))) - (1 <<< (s0 &&& 31))).toNatClampNeg)))]) [0, 1, 2, 3, 4, 5, 6, 8] rfl ?_
            exact B216 K3 hK3 K49 hK49 y4 y5 y6 ((((u34.toInt64 <<< ((40 : Int32).toInt64 &&& 63)) - (((t_cost y6.toNatClampNeg).toInt64) <<< ((25 : Int32).toInt64 &&& 63))) - (1 <<< (y6.toInt64 &&& 63))) + (t_worth ((y4 - (1 <<< (y5 &&& 31))) - (1 <<< (s0 &&& 31))).toNatClampNeg)) y6 y4 t_worth t_choice h
        · replace h := (if_pos c33).symm.trans h
          refine xi_goto C (tgt := 249) dX11_bestFor_133 rfl ?_
          refine xi_iinc C (v := y6 + 1) 6 [1, 2, 3, 4, 5, 6, 0, 7] (L2 := [(0, .ref a_t), (1, .int x1), (2, .ref a_t_now), (3, .int x3), (4, .int y4), (5, .int y5), (6, .int (y6 + 1)), (7, .int s0)]) dX11_bestFor_249 rfl rfl (Nat.le_of_ble_eq_true rfl) rfl ?_
          refine xi_goto C (tgt := 49) dX11_bestFor_252 rfl ?_
          refine xi_drop (L2 := [(0, .ref a_t), (1, .int x1), (2, .ref a_t_now), (3, .int x3), (4, .int y4), (5, .int y5), (6, .int (y6 + 1))]) [0, 1, 2, 3, 4, 5, 6] rfl ?_
          exact hK49 y4 y5 (y6 + 1) t_worth t_choice h
  have B49 : ∀ (K3 : Int32 → (Nat → Int64) → (Nat → Int32) → Option (Int32 × (Nat → Int64) × (Nat → Int32))) (hK3 : ∀ (y4 : Int32) (t_worth : Nat → Int64) (t_choice : Nat → Int32), K3 y4 t_worth t_choice = some r → sW X l (zR 4) D 10 0 0 3 [(0, .ref a_t), (1, .int x1), (2, .ref a_t_now), (3, .int x3), (4, .int y4)] [] [(a_t, .inr (11, [.int t_thrown, .ref a_t_now, .ref a_t_told, .ref a_t_one, .ref a_t_other, .ref a_t_forth, .ref a_t_cost, .ref a_t_broken, .ref a_t_away, .ref a_t_text, .int t_length, .int t_textSize, .int t_start, .int t_next, .int t_token, .int t_value, .int t_error, .int t_errorAt, .int t_number, .int t_isFirst, .ref a_t_worth, .ref a_t_choice, .ref a_t_thought, .ref a_t_before, .ref a_t_deep, .int t_limitNow, .ref a_t_price, .int t_undos, .ref a_t_undo, .ref a_t_slots, .ref a_t_isSaved])), (a_t_now, .inl (cT 0, 514, .inl t_now)), (a_t_told, .inl (cT 0, 8, .inl t_told)), (a_t_one, .inl (cT 0, 48, .inl t_one)), (a_t_other, .inl (cT 0, 48, .inl t_other)), (a_t_forth, .inl (cT 0, 48, .inl t_forth)), (a_t_cost, .inl (cT 0, 48, .inl t_cost)), (a_t_broken, .inl (cT 0, 72, .inl t_broken)), (a_t_away, .inl (cT 0, 72, .inl t_away)), (a_t_worth, .inl (cT 1, 1024, .inr (.inl t_worth))), (a_t_choice, .inl (cT 0, 1024, .inl t_choice))]) (n : Nat) (y4 : Int32) (y5 : Int32) (y6 : Int32) (t_worth : Nat → Int64) (t_choice : Nat → Int32), fX11_bestFor_p2istnow_b49 t_now t_told t_one t_other t_forth t_cost t_broken t_away x1 x3 K3 n y4 y5 y6 t_worth t_choice = some r → sW X l (zR 4) D 10 0 0 49 [(0, .ref a_t), (1, .int x1), (2, .ref a_t_now), (3, .int x3), (4, .int y4), (5, .int y5), (6, .int y6)] [] [(a_t, .inr (11, [.int t_thrown, .ref a_t_now, .ref a_t_told, .ref a_t_one, .ref a_t_other, .ref a_t_forth, .ref a_t_cost, .ref a_t_broken, .ref a_t_away, .ref a_t_text, .int t_length, .int t_textSize, .int t_start, .int t_next, .int t_token, .int t_value, .int t_error, .int t_errorAt, .int t_number, .int t_isFirst, .ref a_t_worth, .ref a_t_choice, .ref a_t_thought, .ref a_t_before, .ref a_t_deep, .int t_limitNow, .ref a_t_price, .int t_undos, .ref a_t_undo, .ref a_t_slots, .ref a_t_isSaved])), (a_t_now, .inl (cT 0, 514, .inl t_now)), (a_t_told, .inl (cT 0, 8, .inl t_told)), (a_t_one, .inl (cT 0, 48, .inl t_one)), (a_t_other, .inl (cT 0, 48, .inl t_other)), (a_t_forth, .inl (cT 0, 48, .inl t_forth)), (a_t_cost, .inl (cT 0, 48, .inl t_cost)), (a_t_broken, .inl (cT 0, 72, .inl t_broken)), (a_t_away, .inl (cT 0, 72, .inl t_away)), (a_t_worth, .inl (cT 1, 1024, .inr (.inl t_worth))), (a_t_choice, .inl (cT 0, 1024, .inl t_choice))] := by
    intro K3 hK3 n
    induction n with
    | zero =>
      intro y4 y5 y6 t_worth t_choice h
      exact zno ((fX11_bestFor_p2istnow_b49_0 _ _ _ _ _ _ _ _ _ _ _ _ _ _ _ _).symm.trans h)
    | succ n ih =>
      intro y4 y5 y6 t_worth t_choice h
      replace h := (fX11_bestFor_p2istnow_b49_s _ _ _ _ _ _ _ _ _ _ _ _ _ _ _ _ _).symm.trans h
      refine xi_iload C 6 dX11_bestFor_49 rfl ?_
      refine xi_aload_n C 0 dX11_bestFor_51 rfl ?_
      refine xi_get C zkX11 2 0 zlX11_13 (by decide) rfl rfl dX11_bestFor_52 ?_
      refine xi_iconst C (v := 1) dX11_bestFor_55 rfl ?_
      refine xi_iald C 2 rfl (zv (by decide)) dX11_bestFor_56 ?_
      refine xi_icmp_ge C (tgt := 255) dX11_bestFor_57 rfl (fun c21 => ?_) (fun c21 => ?_)
      · replace h := (if_pos c21).symm.trans h
        refine xi_iinc C (v := y4 + 1) 4 [1, 2, 3, 4, 0, 5, 6] (L2 := [(0, .ref a_t), (1, .int x1), (2, .ref a_t_now), (3, .int x3), (4, .int (y4 + 1)), (5, .int y5), (6, .int y6)]) dX11_bestFor_255 rfl rfl (Nat.le_of_ble_eq_true rfl) rfl ?_
        refine xi_goto C (tgt := 3) dX11_bestFor_258 rfl ?_
        refine xi_drop (L2 := [(0, .ref a_t), (1, .int x1), (2, .ref a_t_now), (3, .int x3), (4, .int (y4 + 1))]) [0, 1, 2, 3, 4] rfl ?_
        exact hK3 (y4 + 1) t_worth t_choice h
      · replace h := (if_neg c21).symm.trans h
        refine xi_aload_n C 0 dX11_bestFor_60 rfl ?_
        refine xi_get C zkX11 3 0 zlX11_16 (by decide) rfl rfl dX11_bestFor_61 ?_
        refine xi_iload C 6 dX11_bestFor_64 rfl ?_
        replace h := ig h
        obtain ⟨c22, h⟩ := h
        refine xi_iald C 3 rfl c22 dX11_bestFor_66 ?_
        refine xi_iload C 5 dX11_bestFor_67 rfl ?_
        refine xi_icmp_ne C (tgt := 82) dX11_bestFor_69 rfl (fun c23 => ?_) (fun c23 => ?_)
        · replace h := (if_neg c23).symm.trans h
          refine xi_aload_n C 0 dX11_bestFor_82 rfl ?_
          refine xi_get C zkX11 4 0 zlX11_19 (by decide) rfl rfl dX11_bestFor_83 ?_
          refine xi_iload C 6 dX11_bestFor_86 rfl ?_
          refine xi_iald C 4 rfl c22 dX11_bestFor_88 ?_
          refine xi_iload C 5 dX11_bestFor_89 rfl ?_
          refine xi_icmp_ne C (tgt := 104) dX11_bestFor_91 rfl (fun c24 => ?_) (fun c24 => ?_)
          · replace h := (if_neg c24).symm.trans h
            refine xi_iconst C (v := (-1)) dX11_bestFor_104 rfl ?_
            exact B105 K3 hK3 (fX11_bestFor_p2istnow_b49 t_now t_told t_one t_other t_forth t_cost t_broken t_away x1 x3 K3 n) ih y4 y5 y6 (-1) t_worth t_choice h
          · replace h := (if_pos c24).symm.trans h
            refine xi_aload_n C 0 dX11_bestFor_94 rfl ?_
            refine xi_get C zkX11 3 0 zlX11_16 (by decide) rfl rfl dX11_bestFor_95 ?_
            refine xi_iload C 6 dX11_bestFor_98 rfl ?_
            refine xi_iald C 3 rfl c22 dX11_bestFor_100 ?_
            refine xi_goto C (tgt := 105) dX11_bestFor_101 rfl ?_
            exact B105 K3 hK3 (fX11_bestFor_p2istnow_b49 t_now t_told t_one t_other t_forth t_cost t_broken t_away x1 x3 K3 n) ih y4 y5 y6 (t_one y6.toNatClampNeg) t_worth t_choice h
        · replace h := (if_pos c23).symm.trans h
          refine xi_aload_n C 0 dX11_bestFor_72 rfl ?_
          refine xi_get C zkX11 4 0 zlX11_19 (by decide) rfl rfl dX11_bestFor_73 ?_
          refine xi_iload C 6 dX11_bestFor_76 rfl ?_
          refine xi_iald C 4 rfl c22 dX11_bestFor_78 ?_
          refine xi_goto C (tgt := 105) dX11_bestFor_79 rfl ?_
          exact B105 K3 hK3 (fX11_bestFor_p2istnow_b49 t_now t_told t_one t_other t_forth t_cost t_broken t_away x1 x3 K3 n) ih y4 y5 y6 (t_other y6.toNatClampNeg) t_worth t_choice h
  have B3 : ∀ (n : Nat) (y4 : Int32) (t_worth : Nat → Int64) (t_choice : Nat → Int32), fX11_bestFor_p2istnow_b3 t_now t_told t_one t_other t_forth t_cost t_broken t_away x1 x3 n y4 t_worth t_choice = some r → sW X l (zR 4) D 10 0 0 3 [(0, .ref a_t), (1, .int x1), (2, .ref a_t_now), (3, .int x3), (4, .int y4)] [] [(a_t, .inr (11, [.int t_thrown, .ref a_t_now, .ref a_t_told, .ref a_t_one, .ref a_t_other, .ref a_t_forth, .ref a_t_cost, .ref a_t_broken, .ref a_t_away, .ref a_t_text, .int t_length, .int t_textSize, .int t_start, .int t_next, .int t_token, .int t_value, .int t_error, .int t_errorAt, .int t_number, .int t_isFirst, .ref a_t_worth, .ref a_t_choice, .ref a_t_thought, .ref a_t_before, .ref a_t_deep, .int t_limitNow, .ref a_t_price, .int t_undos, .ref a_t_undo, .ref a_t_slots, .ref a_t_isSaved])), (a_t_now, .inl (cT 0, 514, .inl t_now)), (a_t_told, .inl (cT 0, 8, .inl t_told)), (a_t_one, .inl (cT 0, 48, .inl t_one)), (a_t_other, .inl (cT 0, 48, .inl t_other)), (a_t_forth, .inl (cT 0, 48, .inl t_forth)), (a_t_cost, .inl (cT 0, 48, .inl t_cost)), (a_t_broken, .inl (cT 0, 72, .inl t_broken)), (a_t_away, .inl (cT 0, 72, .inl t_away)), (a_t_worth, .inl (cT 1, 1024, .inr (.inl t_worth))), (a_t_choice, .inl (cT 0, 1024, .inl t_choice))] := by
    intro n
    induction n with
    | zero =>
      intro y4 t_worth t_choice h
      exact zno ((fX11_bestFor_p2istnow_b3_0 _ _ _ _ _ _ _ _ _ _ _ _ _).symm.trans h)
    | succ n ih =>
      intro y4 t_worth t_choice h
      replace h := (fX11_bestFor_p2istnow_b3_s _ _ _ _ _ _ _ _ _ _ _ _ _ _).symm.trans h
      refine xi_iload C 4 dX11_bestFor_3 rfl ?_
      refine xi_aload_n C 0 dX11_bestFor_5 rfl ?_
      replace h := ob h
      obtain ⟨u1, hu2, h⟩ := h
      refine xi_callVr C (kX11_all l D cT a_t a_t_now a_t_told a_t_one a_t_other a_t_forth a_t_cost a_t_broken a_t_away a_t_text a_t_worth a_t_choice a_t_thought a_t_before a_t_deep a_t_price a_t_undo a_t_slots a_t_isSaved t_thrown t_length t_textSize t_start t_next t_token t_value t_error t_errorAt t_number t_isFirst t_limitNow t_undos t_told u1 hu2) zcX11_all zmX11_231 ziX11_all (zr rfl rfl) z00 rfl [0, 2] rfl rfl zkX11.1 (qr := 0) rfl rfl (Nat.le_of_ble_eq_true rfl) dX11_bestFor_6 (fun z3 => ?_)
      refine xi_icmp_gt C (tgt := 261) dX11_bestFor_9 rfl (fun c4 => ?_) (fun c4 => ?_)
      · replace h := (if_pos c4).symm.trans h
        refine xi_drop (L2 := [(0, .ref a_t)]) [0] rfl ?_
        exact B261 t_worth t_choice h
      · replace h := (if_neg c4).symm.trans h
        refine xi_iload C 4 dX11_bestFor_12 rfl ?_
        replace h := ob h
        obtain ⟨u16, hu17, h⟩ := h
        refine xi_callSr C (kX11_lowest l D cT y4 u16 hu17) zcX11_lowest zmX11_234 zsX11_lowest (zr rfl rfl) z00 rfl [] rfl rfl rfl (Nat.le_of_ble_eq_true rfl) dX11_bestFor_14 (fun z18 => ?_)
        refine xi_istore C [1, 2, 3, 4, 5, 0] (L2 := [(0, .ref a_t), (1, .int x1), (2, .ref a_t_now), (3, .int x3), (4, .int y4), (5, .int u16)]) dX11_bestFor_17 (Nat.le_of_ble_eq_true rfl) rfl ?_
        refine xi_aload_n C 0 dX11_bestFor_19 rfl ?_
        refine xi_get C zkX11 20 0 zlX11_42 (by decide) rfl rfl dX11_bestFor_20 ?_
        refine xi_iload C 4 dX11_bestFor_23 rfl ?_
        refine xi_aload_n C 0 dX11_bestFor_25 rfl ?_
        refine xi_get C zkX11 20 0 zlX11_42 (by decide) rfl rfl dX11_bestFor_26 ?_
        refine xi_iload C 4 dX11_bestFor_29 rfl ?_
        refine xi_iconst C (v := 1) dX11_bestFor_31 rfl ?_
        refine xi_iload C 5 dX11_bestFor_32 rfl ?_
        refine xi_ishl C dX11_bestFor_34 ?_
        refine xi_isub C dX11_bestFor_35 ?_
        replace h := ig h
        obtain ⟨c19, h⟩ := h
        refine xi_lald C 9 rfl c19 dX11_bestFor_36 ?_
        replace h := ig h
        obtain ⟨c20, h⟩ := h
        refine xi_last C 9 rfl c20 dX11_bestFor_37 (ws2 := [(a_t, .inr (11, [.int t_thrown, .ref a_t_now, .ref a_t_told, .ref a_t_one, .ref a_t_other, .ref a_t_forth, .ref a_t_cost, .ref a_t_broken, .ref a_t_away, .ref a_t_text, .int t_length, .int t_textSize, .int t_start, .int t_next, .int t_token, .int t_value, .int t_error, .int t_errorAt, .int t_number, .int t_isFirst, .ref a_t_worth, .ref a_t_choice, .ref a_t_thought, .ref a_t_before, .ref a_t_deep, .int t_limitNow, .ref a_t_price, .int t_undos, .ref a_t_undo, .ref a_t_slots, .ref a_t_isSaved])), (a_t_now, .inl (cT 0, 514, .inl t_now)), (a_t_told, .inl (cT 0, 8, .inl t_told)), (a_t_one, .inl (cT 0, 48, .inl t_one)), (a_t_other, .inl (cT 0, 48, .inl t_other)), (a_t_forth, .inl (cT 0, 48, .inl t_forth)), (a_t_cost, .inl (cT 0, 48, .inl t_cost)), (a_t_broken, .inl (cT 0, 72, .inl t_broken)), (a_t_away, .inl (cT 0, 72, .inl t_away)), (a_t_worth, .inl (cT 1, 1024, .inr (.inl (vp_updL t_worth y4.toNatClampNeg (t_worth (y4 - (1 <<< (u16 &&& 31))).toNatClampNeg))))), (a_t_choice, .inl (cT 0, 1024, .inl t_choice))]) rfl ?_
        refine xi_aload_n C 0 dX11_bestFor_38 rfl ?_
        refine xi_get C zkX11 21 0 zlX11_46 (by decide) rfl rfl dX11_bestFor_39 ?_
        refine xi_iload C 4 dX11_bestFor_42 rfl ?_
        refine xi_iconst C (v := (-1)) dX11_bestFor_44 rfl ?_
        refine xi_iast C 10 rfl c20 dX11_bestFor_45 (ws2 := [(a_t, .inr (11, [.int t_thrown, .ref a_t_now, .ref a_t_told, .ref a_t_one, .ref a_t_other, .ref a_t_forth, .ref a_t_cost, .ref a_t_broken, .ref a_t_away, .ref a_t_text, .int t_length, .int t_textSize, .int t_start, .int t_next, .int t_token, .int t_value, .int t_error, .int t_errorAt, .int t_number, .int t_isFirst, .ref a_t_worth, .ref a_t_choice, .ref a_t_thought, .ref a_t_before, .ref a_t_deep, .int t_limitNow, .ref a_t_price, .int t_undos, .ref a_t_undo, .ref a_t_slots, .ref a_t_isSaved])), (a_t_now, .inl (cT 0, 514, .inl t_now)), (a_t_told, .inl (cT 0, 8, .inl t_told)), (a_t_one, .inl (cT 0, 48, .inl t_one)), (a_t_other, .inl (cT 0, 48, .inl t_other)), (a_t_forth, .inl (cT 0, 48, .inl t_forth)), (a_t_cost, .inl (cT 0, 48, .inl t_cost)), (a_t_broken, .inl (cT 0, 72, .inl t_broken)), (a_t_away, .inl (cT 0, 72, .inl t_away)), (a_t_worth, .inl (cT 1, 1024, .inr (.inl (vp_updL t_worth y4.toNatClampNeg (t_worth (y4 - (1 <<< (u16 &&& 31))).toNatClampNeg))))), (a_t_choice, .inl (cT 0, 1024, .inl (upd t_choice y4.toNatClampNeg (-1))))]) rfl ?_
        refine xi_iconst C (v := 0) dX11_bestFor_46 rfl ?_
        refine xi_istore C [1, 2, 3, 4, 5, 6, 0] (L2 := [(0, .ref a_t), (1, .int x1), (2, .ref a_t_now), (3, .int x3), (4, .int y4), (5, .int u16), (6, .int 0)]) dX11_bestFor_47 (Nat.le_of_ble_eq_true rfl) rfl ?_
        exact B49 (fX11_bestFor_p2istnow_b3 t_now t_told t_one t_other t_forth t_cost t_broken t_away x1 x3 n) ih FU y4 u16 0 (vp_updL t_worth y4.toNatClampNeg (t_worth (y4 - (1 <<< (u16 &&& 31))).toNatClampNeg)) (upd t_choice y4.toNatClampNeg (-1)) h
  refine xi_drop (L2 := [(0, .ref a_t), (1, .int x1), (2, .ref a_t_now), (3, .int x3)]) [0, 1, 2, 3] rfl ?_
  refine xi_iconst C (v := 1) dX11_bestFor_0 rfl ?_
  refine xi_istore C [1, 2, 3, 4, 0] (L2 := [(0, .ref a_t), (1, .int x1), (2, .ref a_t_now), (3, .int x3), (4, .int 1)]) dX11_bestFor_1 (Nat.le_of_ble_eq_true rfl) rfl ?_
  exact B3 FU 1 t_worth t_choice h
def fX11_bestNow (t_now : Nat → Int32) (t_told : Nat → Int32) (t_one : Nat → Int32) (t_other : Nat → Int32) (t_forth : Nat → Int32) (t_cost : Nat → Int32) (t_broken : Nat → Int32) (t_away : Nat → Int32) (t_worth : Nat → Int64) (t_choice : Nat → Int32) : Option (Int32 × (Nat → Int64) × (Nat → Int32)) := (fX11_bestFor_p2istnow t_now t_told t_one t_other t_forth t_cost t_broken t_away t_worth t_choice ((t_now 0) + 1) 4).bind (fun u1 => some (u1.1, u1.2.1, u1.2.2))
set_option maxRecDepth 100000 in
set_option maxHeartbeats 4000000 in
theorem kX11_bestNow (l : Launch) (D : va_G) (cT : Nat → ClassId) (a_t : Nat) (a_t_now : Nat) (a_t_told : Nat) (a_t_one : Nat) (a_t_other : Nat) (a_t_forth : Nat) (a_t_cost : Nat) (a_t_broken : Nat) (a_t_away : Nat) (a_t_text : Nat) (a_t_worth : Nat) (a_t_choice : Nat) (a_t_thought : Nat) (a_t_before : Nat) (a_t_deep : Nat) (a_t_price : Nat) (a_t_undo : Nat) (a_t_slots : Nat) (a_t_isSaved : Nat) (t_thrown : Int32) (t_length : Int32) (t_textSize : Int32) (t_start : Int32) (t_next : Int32) (t_token : Int32) (t_value : Int32) (t_error : Int32) (t_errorAt : Int32) (t_number : Int32) (t_isFirst : Int32) (t_limitNow : Int32) (t_undos : Int32) (t_now : Nat → Int32) (t_told : Nat → Int32) (t_one : Nat → Int32) (t_other : Nat → Int32) (t_forth : Nat → Int32) (t_cost : Nat → Int32) (t_broken : Nat → Int32) (t_away : Nat → Int32) (t_worth : Nat → Int64) (t_choice : Nat → Int32) (r : Int32 × (Nat → Int64) × (Nat → Int32)) (h : fX11_bestNow t_now t_told t_one t_other t_forth t_cost t_broken t_away t_worth t_choice = some r) : sM l yX11_bestNow cX11_bestNow 1 (some .int) (zR 5) D cT [.ref a_t] [(a_t, .inr (11, [.int t_thrown, .ref a_t_now, .ref a_t_told, .ref a_t_one, .ref a_t_other, .ref a_t_forth, .ref a_t_cost, .ref a_t_broken, .ref a_t_away, .ref a_t_text, .int t_length, .int t_textSize, .int t_start, .int t_next, .int t_token, .int t_value, .int t_error, .int t_errorAt, .int t_number, .int t_isFirst, .ref a_t_worth, .ref a_t_choice, .ref a_t_thought, .ref a_t_before, .ref a_t_deep, .int t_limitNow, .ref a_t_price, .int t_undos, .ref a_t_undo, .ref a_t_slots, .ref a_t_isSaved])), (a_t_now, .inl (cT 0, 514, .inl t_now)), (a_t_told, .inl (cT 0, 8, .inl t_told)), (a_t_one, .inl (cT 0, 48, .inl t_one)), (a_t_other, .inl (cT 0, 48, .inl t_other)), (a_t_forth, .inl (cT 0, 48, .inl t_forth)), (a_t_cost, .inl (cT 0, 48, .inl t_cost)), (a_t_broken, .inl (cT 0, 72, .inl t_broken)), (a_t_away, .inl (cT 0, 72, .inl t_away)), (a_t_worth, .inl (cT 1, 1024, .inr (.inl t_worth))), (a_t_choice, .inl (cT 0, 1024, .inl t_choice))] (some (.int r.1)) [(a_t, .inr (11, [.int t_thrown, .ref a_t_now, .ref a_t_told, .ref a_t_one, .ref a_t_other, .ref a_t_forth, .ref a_t_cost, .ref a_t_broken, .ref a_t_away, .ref a_t_text, .int t_length, .int t_textSize, .int t_start, .int t_next, .int t_token, .int t_value, .int t_error, .int t_errorAt, .int t_number, .int t_isFirst, .ref a_t_worth, .ref a_t_choice, .ref a_t_thought, .ref a_t_before, .ref a_t_deep, .int t_limitNow, .ref a_t_price, .int t_undos, .ref a_t_undo, .ref a_t_slots, .ref a_t_isSaved])), (a_t_now, .inl (cT 0, 514, .inl t_now)), (a_t_told, .inl (cT 0, 8, .inl t_told)), (a_t_one, .inl (cT 0, 48, .inl t_one)), (a_t_other, .inl (cT 0, 48, .inl t_other)), (a_t_forth, .inl (cT 0, 48, .inl t_forth)), (a_t_cost, .inl (cT 0, 48, .inl t_cost)), (a_t_broken, .inl (cT 0, 72, .inl t_broken)), (a_t_away, .inl (cT 0, 72, .inl t_away)), (a_t_worth, .inl (cT 1, 1024, .inr (.inl r.2.1))), (a_t_choice, .inl (cT 0, 1024, .inl r.2.2))] := by
  refine sM_int rfl (Nat.le_of_ble_eq_true rfl) ?_
  intro X C hE
  refine xi_drop (L2 := [(0, .ref a_t)]) [0] rfl ?_
  refine xi_aload_n C 0 dX11_bestNow_0 rfl ?_
  refine xi_aload_n C 0 dX11_bestNow_1 rfl ?_
  refine xi_get C zkX11 1 0 zlX11_7 (by decide) rfl rfl dX11_bestNow_2 ?_
  refine xi_iconst C (v := 0) dX11_bestNow_5 rfl ?_
  refine xi_iald C 1 rfl (zv (by decide)) dX11_bestNow_6 ?_
  refine xi_iconst C (v := 1) dX11_bestNow_7 rfl ?_
  refine xi_iadd C dX11_bestNow_8 ?_
  refine xi_aload_n C 0 dX11_bestNow_9 rfl ?_
  refine xi_get C zkX11 1 0 zlX11_7 (by decide) rfl rfl dX11_bestNow_10 ?_
  refine xi_iconst C (v := 4) dX11_bestNow_13 rfl ?_
  replace h := ob h
  obtain ⟨u1, hu2, h⟩ := h
  refine xi_callV C (kX11_bestFor_p2istnow l D cT a_t a_t_now a_t_told a_t_one a_t_other a_t_forth a_t_cost a_t_broken a_t_away a_t_text a_t_worth a_t_choice a_t_thought a_t_before a_t_deep a_t_price a_t_undo a_t_slots a_t_isSaved t_thrown t_length t_textSize t_start t_next t_token t_value t_error t_errorAt t_number t_isFirst t_limitNow t_undos t_now t_told t_one t_other t_forth t_cost t_broken t_away t_worth t_choice ((t_now 0) + 1) 4 u1 hu2) zcX11_bestFor zmX11_237 ziX11_bestFor (zr rfl rfl) z00 rfl [0, 1, 2, 3, 4, 5, 6, 7, 8, 9, 10] rfl rfl rfl [some 0, some 1, some 2, some 3, some 4, some 5, some 6, some 7, some 8, some 9, some 10] (by decide +kernel) (ws2 := [(a_t, .inr (11, [.int t_thrown, .ref a_t_now, .ref a_t_told, .ref a_t_one, .ref a_t_other, .ref a_t_forth, .ref a_t_cost, .ref a_t_broken, .ref a_t_away, .ref a_t_text, .int t_length, .int t_textSize, .int t_start, .int t_next, .int t_token, .int t_value, .int t_error, .int t_errorAt, .int t_number, .int t_isFirst, .ref a_t_worth, .ref a_t_choice, .ref a_t_thought, .ref a_t_before, .ref a_t_deep, .int t_limitNow, .ref a_t_price, .int t_undos, .ref a_t_undo, .ref a_t_slots, .ref a_t_isSaved])), (a_t_now, .inl (cT 0, 514, .inl t_now)), (a_t_told, .inl (cT 0, 8, .inl t_told)), (a_t_one, .inl (cT 0, 48, .inl t_one)), (a_t_other, .inl (cT 0, 48, .inl t_other)), (a_t_forth, .inl (cT 0, 48, .inl t_forth)), (a_t_cost, .inl (cT 0, 48, .inl t_cost)), (a_t_broken, .inl (cT 0, 72, .inl t_broken)), (a_t_away, .inl (cT 0, 72, .inl t_away)), (a_t_worth, .inl (cT 1, 1024, .inr (.inl u1.2.1))), (a_t_choice, .inl (cT 0, 1024, .inl u1.2.2))]) rfl zkX11.1 (qr := 0) rfl rfl (Nat.le_of_ble_eq_true rfl) dX11_bestNow_14 (fun z3 => ?_)
  obtain rfl := Option.some.inj h
  exact hE _ _ _ dX11_bestNow_17 rfl
def fX11_best_b92 (K56 : Int32 → Int32 → Int32 → Int32 → (Nat → Int64) → (Nat → Int32) → Option (Int32 × Int32 × (Nat → Int64) × (Nat → Int32))) (y2 : Int32) (y4 : Int32) (s0 : Int32) (s1 : Int32) (t_thrown : Int32) (t_worth : Nat → Int64) (t_choice : Nat → Int32) : Option (Int32 × Int32 × (Nat → Int64) × (Nat → Int32)) := K56 y2 (s1 + s0) (y4 + 1) t_thrown t_worth t_choice
def fX11_best_b56 (t_now : Nat → Int32) (t_told : Nat → Int32) (t_one : Nat → Int32) (t_other : Nat → Int32) (t_forth : Nat → Int32) : Nat → Int32 → Int32 → Int32 → Int32 → (Nat → Int64) → (Nat → Int32) → Option (Int32 × Int32 × (Nat → Int64) × (Nat → Int32))
  | 0, _, _, _, _, _, _ => none
  | n + 1, y2, y3, y4, t_thrown, t_worth, t_choice => if (t_told 1) ≤ y4 then some (y3, t_thrown, t_worth, t_choice) else if (fX11_isIn y2 y4) = 0 then fX11_best_b92 (fX11_best_b56 t_now t_told t_one t_other t_forth n) y2 y4 0 y3 t_thrown t_worth t_choice else (fX11_gainOf 514 t_one t_other t_forth t_now y4 4).bind (fun u19 => fX11_best_b92 (fX11_best_b56 t_now t_told t_one t_other t_forth n) y2 y4 u19 y3 t_thrown t_worth t_choice)
theorem fX11_best_b56_0 (t_now : Nat → Int32) (t_told : Nat → Int32) (t_one : Nat → Int32) (t_other : Nat → Int32) (t_forth : Nat → Int32) (y2 : Int32) (y3 : Int32) (y4 : Int32) (t_thrown : Int32) (t_worth : Nat → Int64) (t_choice : Nat → Int32) : fX11_best_b56 t_now t_told t_one t_other t_forth 0 y2 y3 y4 t_thrown t_worth t_choice = none := rfl
theorem fX11_best_b56_s (t_now : Nat → Int32) (t_told : Nat → Int32) (t_one : Nat → Int32) (t_other : Nat → Int32) (t_forth : Nat → Int32) (n : Nat) (y2 : Int32) (y3 : Int32) (y4 : Int32) (t_thrown : Int32) (t_worth : Nat → Int64) (t_choice : Nat → Int32) : fX11_best_b56 t_now t_told t_one t_other t_forth (n + 1) y2 y3 y4 t_thrown t_worth t_choice = (if (t_told 1) ≤ y4 then some (y3, t_thrown, t_worth, t_choice) else if (fX11_isIn y2 y4) = 0 then fX11_best_b92 (fX11_best_b56 t_now t_told t_one t_other t_forth n) y2 y4 0 y3 t_thrown t_worth t_choice else (fX11_gainOf 514 t_one t_other t_forth t_now y4 4).bind (fun u19 => fX11_best_b92 (fX11_best_b56 t_now t_told t_one t_other t_forth n) y2 y4 u19 y3 t_thrown t_worth t_choice)) := rfl
def fX11_best_b20 (t_now : Nat → Int32) (t_told : Nat → Int32) (t_one : Nat → Int32) (t_other : Nat → Int32) (t_forth : Nat → Int32) (t_cost : Nat → Int32) (t_broken : Nat → Int32) (t_away : Nat → Int32) (x1 : Int32) (s0 : Int32) (t_thrown : Int32) (t_worth : Nat → Int64) (t_choice : Nat → Int32) : Option (Int32 × Int32 × (Nat → Int64) × (Nat → Int32)) := nm (fX11_throwsIf t_thrown s0 1) (fun u5 => if u5.1 = 0 then (fX11_bestNow t_now t_told t_one t_other t_forth t_cost t_broken t_away t_worth t_choice).bind (fun u9 => if x1 = 0 then some (u9.1, u5.2, u9.2.1, u9.2.2) else if x1 = 2 then (fX11_costOf t_told t_cost u9.1).bind (fun u22 => some (u22, u5.2, u9.2.1, u9.2.2)) else fX11_best_b56 t_now t_told t_one t_other t_forth FU u9.1 0 0 u5.2 u9.2.1 u9.2.2) else some (0, u5.2, t_worth, t_choice))
def fX11_best (t_now : Nat → Int32) (t_told : Nat → Int32) (t_one : Nat → Int32) (t_other : Nat → Int32) (t_forth : Nat → Int32) (t_cost : Nat → Int32) (t_broken : Nat → Int32) (t_away : Nat → Int32) (t_worth : Nat → Int64) (t_choice : Nat → Int32) (x1 : Int32) : Option (Int32 × Int32 × (Nat → Int64) × (Nat → Int32)) := if (fX11_within x1 0 2) = 0 then fX11_best_b20 t_now t_told t_one t_other t_forth t_cost t_broken t_away x1 1 0 t_worth t_choice else fX11_best_b20 t_now t_told t_one t_other t_forth t_cost t_broken t_away x1 0 0 t_worth t_choice
set_option maxRecDepth 100000 in
set_option maxHeartbeats 4000000 in
theorem kX11_best (l : Launch) (D : va_G) (cT : Nat → ClassId) (a_t : Nat) (a_t_now : Nat) (a_t_told : Nat) (a_t_one : Nat) (a_t_other : Nat) (a_t_forth : Nat) (a_t_cost : Nat) (a_t_broken : Nat) (a_t_away : Nat) (a_t_text : Nat) (a_t_worth : Nat) (a_t_choice : Nat) (a_t_thought : Nat) (a_t_before : Nat) (a_t_deep : Nat) (a_t_price : Nat) (a_t_undo : Nat) (a_t_slots : Nat) (a_t_isSaved : Nat) (t_thrown : Int32) (t_length : Int32) (t_textSize : Int32) (t_start : Int32) (t_next : Int32) (t_token : Int32) (t_value : Int32) (t_error : Int32) (t_errorAt : Int32) (t_number : Int32) (t_isFirst : Int32) (t_limitNow : Int32) (t_undos : Int32) (t_now : Nat → Int32) (t_told : Nat → Int32) (t_one : Nat → Int32) (t_other : Nat → Int32) (t_forth : Nat → Int32) (t_cost : Nat → Int32) (t_broken : Nat → Int32) (t_away : Nat → Int32) (t_worth : Nat → Int64) (t_choice : Nat → Int32) (x1 : Int32) (r : Int32 × Int32 × (Nat → Int64) × (Nat → Int32)) (h : fX11_best t_now t_told t_one t_other t_forth t_cost t_broken t_away t_worth t_choice x1 = some r) : sM l yX11_best cX11_best 5 (some .int) (zR 6) D cT [.ref a_t, .int x1] [(a_t, .inr (11, [.int t_thrown, .ref a_t_now, .ref a_t_told, .ref a_t_one, .ref a_t_other, .ref a_t_forth, .ref a_t_cost, .ref a_t_broken, .ref a_t_away, .ref a_t_text, .int t_length, .int t_textSize, .int t_start, .int t_next, .int t_token, .int t_value, .int t_error, .int t_errorAt, .int t_number, .int t_isFirst, .ref a_t_worth, .ref a_t_choice, .ref a_t_thought, .ref a_t_before, .ref a_t_deep, .int t_limitNow, .ref a_t_price, .int t_undos, .ref a_t_undo, .ref a_t_slots, .ref a_t_isSaved])), (a_t_now, .inl (cT 0, 514, .inl t_now)), (a_t_told, .inl (cT 0, 8, .inl t_told)), (a_t_one, .inl (cT 0, 48, .inl t_one)), (a_t_other, .inl (cT 0, 48, .inl t_other)), (a_t_forth, .inl (cT 0, 48, .inl t_forth)), (a_t_cost, .inl (cT 0, 48, .inl t_cost)), (a_t_broken, .inl (cT 0, 72, .inl t_broken)), (a_t_away, .inl (cT 0, 72, .inl t_away)), (a_t_worth, .inl (cT 1, 1024, .inr (.inl t_worth))), (a_t_choice, .inl (cT 0, 1024, .inl t_choice))] (some (.int r.1)) [(a_t, .inr (11, [.int r.2.1, .ref a_t_now, .ref a_t_told, .ref a_t_one, .ref a_t_other, .ref a_t_forth, .ref a_t_cost, .ref a_t_broken, .ref a_t_away, .ref a_t_text, .int t_length, .int t_textSize, .int t_start, .int t_next, .int t_token, .int t_value, .int t_error, .int t_errorAt, .int t_number, .int t_isFirst, .ref a_t_worth, .ref a_t_choice, .ref a_t_thought, .ref a_t_before, .ref a_t_deep, .int t_limitNow, .ref a_t_price, .int t_undos, .ref a_t_undo, .ref a_t_slots, .ref a_t_isSaved])), (a_t_now, .inl (cT 0, 514, .inl t_now)), (a_t_told, .inl (cT 0, 8, .inl t_told)), (a_t_one, .inl (cT 0, 48, .inl t_one)), (a_t_other, .inl (cT 0, 48, .inl t_other)), (a_t_forth, .inl (cT 0, 48, .inl t_forth)), (a_t_cost, .inl (cT 0, 48, .inl t_cost)), (a_t_broken, .inl (cT 0, 72, .inl t_broken)), (a_t_away, .inl (cT 0, 72, .inl t_away)), (a_t_worth, .inl (cT 1, 1024, .inr (.inl r.2.2.1))), (a_t_choice, .inl (cT 0, 1024, .inl r.2.2.2))] := by
  refine sM_int rfl (Nat.le_of_ble_eq_true rfl) ?_
  intro X C hE
  have B92 : ∀ (K56 : Int32 → Int32 → Int32 → Int32 → (Nat → Int64) → (Nat → Int32) → Option (Int32 × Int32 × (Nat → Int64) × (Nat → Int32))) (hK56 : ∀ (y2 : Int32) (y3 : Int32) (y4 : Int32) (t_thrown : Int32) (t_worth : Nat → Int64) (t_choice : Nat → Int32), K56 y2 y3 y4 t_thrown t_worth t_choice = some r → sW X l (zR 6) D 5 0 0 56 [(0, .ref a_t), (2, .int y2), (3, .int y3), (4, .int y4)] [] [(a_t, .inr (11, [.int t_thrown, .ref a_t_now, .ref a_t_told, .ref a_t_one, .ref a_t_other, .ref a_t_forth, .ref a_t_cost, .ref a_t_broken, .ref a_t_away, .ref a_t_text, .int t_length, .int t_textSize, .int t_start, .int t_next, .int t_token, .int t_value, .int t_error, .int t_errorAt, .int t_number, .int t_isFirst, .ref a_t_worth, .ref a_t_choice, .ref a_t_thought, .ref a_t_before, .ref a_t_deep, .int t_limitNow, .ref a_t_price, .int t_undos, .ref a_t_undo, .ref a_t_slots, .ref a_t_isSaved])), (a_t_now, .inl (cT 0, 514, .inl t_now)), (a_t_told, .inl (cT 0, 8, .inl t_told)), (a_t_one, .inl (cT 0, 48, .inl t_one)), (a_t_other, .inl (cT 0, 48, .inl t_other)), (a_t_forth, .inl (cT 0, 48, .inl t_forth)), (a_t_cost, .inl (cT 0, 48, .inl t_cost)), (a_t_broken, .inl (cT 0, 72, .inl t_broken)), (a_t_away, .inl (cT 0, 72, .inl t_away)), (a_t_worth, .inl (cT 1, 1024, .inr (.inl t_worth))), (a_t_choice, .inl (cT 0, 1024, .inl t_choice))]) (y2 : Int32) (y4 : Int32) (s0 : Int32) (s1 : Int32) (t_thrown : Int32) (t_worth : Nat → Int64) (t_choice : Nat → Int32), fX11_best_b92 K56 y2 y4 s0 s1 t_thrown t_worth t_choice = some r → sW X l (zR 6) D 5 0 0 92 [(0, .ref a_t), (2, .int y2), (4, .int y4)] [.int s0, .int s1] [(a_t, .inr (11, [.int t_thrown, .ref a_t_now, .ref a_t_told, .ref a_t_one, .ref a_t_other, .ref a_t_forth, .ref a_t_cost, .ref a_t_broken, .ref a_t_away, .ref a_t_text, .int t_length, .int t_textSize, .int t_start, .int t_next, .int t_token, .int t_value, .int t_error, .int t_errorAt, .int t_number, .int t_isFirst, .ref a_t_worth, .ref a_t_choice, .ref a_t_thought, .ref a_t_before, .ref a_t_deep, .int t_limitNow, .ref a_t_price, .int t_undos, .ref a_t_undo, .ref a_t_slots, .ref a_t_isSaved])), (a_t_now, .inl (cT 0, 514, .inl t_now)), (a_t_told, .inl (cT 0, 8, .inl t_told)), (a_t_one, .inl (cT 0, 48, .inl t_one)), (a_t_other, .inl (cT 0, 48, .inl t_other)), (a_t_forth, .inl (cT 0, 48, .inl t_forth)), (a_t_cost, .inl (cT 0, 48, .inl t_cost)), (a_t_broken, .inl (cT 0, 72, .inl t_broken)), (a_t_away, .inl (cT 0, 72, .inl t_away)), (a_t_worth, .inl (cT 1, 1024, .inr (.inl t_worth))), (a_t_choice, .inl (cT 0, 1024, .inl t_choice))] := by
    intro K56 hK56 y2 y4 s0 s1 t_thrown t_worth t_choice h
    refine xi_iadd C dX11_best_92 ?_
    refine xi_istore_n C [1, 2, 0, 3] (L2 := [(0, .ref a_t), (2, .int y2), (3, .int (s1 + s0)), (4, .int y4)]) dX11_best_93 (Nat.le_of_ble_eq_true rfl) rfl ?_
    refine xi_iinc C (v := y4 + 1) 3 [1, 2, 3, 0] (L2 := [(0, .ref a_t), (2, .int y2), (3, .int (s1 + s0)), (4, .int (y4 + 1))]) dX11_best_94 rfl rfl (Nat.le_of_ble_eq_true rfl) rfl ?_
    refine xi_goto C (tgt := 56) dX11_best_97 rfl ?_
    exact hK56 y2 (s1 + s0) (y4 + 1) t_thrown t_worth t_choice h
  have B56 : ∀ (n : Nat) (y2 : Int32) (y3 : Int32) (y4 : Int32) (t_thrown : Int32) (t_worth : Nat → Int64) (t_choice : Nat → Int32), fX11_best_b56 t_now t_told t_one t_other t_forth n y2 y3 y4 t_thrown t_worth t_choice = some r → sW X l (zR 6) D 5 0 0 56 [(0, .ref a_t), (2, .int y2), (3, .int y3), (4, .int y4)] [] [(a_t, .inr (11, [.int t_thrown, .ref a_t_now, .ref a_t_told, .ref a_t_one, .ref a_t_other, .ref a_t_forth, .ref a_t_cost, .ref a_t_broken, .ref a_t_away, .ref a_t_text, .int t_length, .int t_textSize, .int t_start, .int t_next, .int t_token, .int t_value, .int t_error, .int t_errorAt, .int t_number, .int t_isFirst, .ref a_t_worth, .ref a_t_choice, .ref a_t_thought, .ref a_t_before, .ref a_t_deep, .int t_limitNow, .ref a_t_price, .int t_undos, .ref a_t_undo, .ref a_t_slots, .ref a_t_isSaved])), (a_t_now, .inl (cT 0, 514, .inl t_now)), (a_t_told, .inl (cT 0, 8, .inl t_told)), (a_t_one, .inl (cT 0, 48, .inl t_one)), (a_t_other, .inl (cT 0, 48, .inl t_other)), (a_t_forth, .inl (cT 0, 48, .inl t_forth)), (a_t_cost, .inl (cT 0, 48, .inl t_cost)), (a_t_broken, .inl (cT 0, 72, .inl t_broken)), (a_t_away, .inl (cT 0, 72, .inl t_away)), (a_t_worth, .inl (cT 1, 1024, .inr (.inl t_worth))), (a_t_choice, .inl (cT 0, 1024, .inl t_choice))] := by
    intro n
    induction n with
    | zero =>
      intro y2 y3 y4 t_thrown t_worth t_choice h
      exact zno ((fX11_best_b56_0 _ _ _ _ _ _ _ _ _ _ _).symm.trans h)
    | succ n ih =>
      intro y2 y3 y4 t_thrown t_worth t_choice h
      replace h := (fX11_best_b56_s _ _ _ _ _ _ _ _ _ _ _ _).symm.trans h
      refine xi_iload C 3 dX11_best_56 rfl ?_
      refine xi_aload_n C 0 dX11_best_58 rfl ?_
      refine xi_get C zkX11 2 0 zlX11_13 (by decide) rfl rfl dX11_best_59 ?_
      refine xi_iconst C (v := 1) dX11_best_62 rfl ?_
      refine xi_iald C 2 rfl (zv (by decide)) dX11_best_63 ?_
      refine xi_icmp_ge C (tgt := 100) dX11_best_64 rfl (fun c14 => ?_) (fun c14 => ?_)
      · replace h := (if_pos c14).symm.trans h
        refine xi_iload_n C 2 dX11_best_100 rfl ?_
        obtain rfl := Option.some.inj h
        exact hE _ _ _ dX11_best_101 rfl
      · replace h := (if_neg c14).symm.trans h
        refine xi_iload_n C 2 dX11_best_67 rfl ?_
        refine xi_iload_n C 1 dX11_best_68 rfl ?_
        refine xi_iload C 3 dX11_best_69 rfl ?_
        refine xi_callSr C (kX11_isIn l D cT y2 y4 (fX11_isIn y2 y4) rfl) zcX11_isIn zmX11_201 zsX11_isIn (zr rfl rfl) z00 rfl [] rfl rfl rfl (Nat.le_of_ble_eq_true rfl) dX11_best_71 (fun z17 => ?_)
        refine xi_if_eq C (tgt := 91) dX11_best_74 rfl (fun c18 => ?_) (fun c18 => ?_)
        · replace h := (if_pos c18).symm.trans h
          refine xi_iconst C (v := 0) dX11_best_91 rfl ?_
          refine xi_drop (L2 := [(0, .ref a_t), (2, .int y2), (4, .int y4)]) [0, 1, 3] rfl ?_
          exact B92 (fX11_best_b56 t_now t_told t_one t_other t_forth n) ih y2 y4 0 y3 t_thrown t_worth t_choice h
        · replace h := (if_neg c18).symm.trans h
          refine xi_aload_n C 0 dX11_best_77 rfl ?_
          refine xi_iload C 3 dX11_best_78 rfl ?_
          refine xi_aload_n C 0 dX11_best_80 rfl ?_
          refine xi_get C zkX11 1 0 zlX11_7 (by decide) rfl rfl dX11_best_81 ?_
          refine xi_iconst C (v := 4) dX11_best_84 rfl ?_
          replace h := ob h
          obtain ⟨u19, hu20, h⟩ := h
          refine xi_callVr C (kX11_gainOf l D cT a_t a_t_now a_t_told a_t_one a_t_other a_t_forth a_t_cost a_t_broken a_t_away a_t_text a_t_worth a_t_choice a_t_thought a_t_before a_t_deep a_t_price a_t_undo a_t_slots a_t_isSaved a_t_now 514 t_thrown t_length t_textSize t_start t_next t_token t_value t_error t_errorAt t_number t_isFirst t_limitNow t_undos t_one t_other t_forth t_now y4 4 u19 hu20) zcX11_gainOf zmX11_224 ziX11_gainOf (zr rfl rfl) z00 rfl [0, 3, 4, 5, 1] rfl rfl zkX11.1 (qr := 0) rfl rfl (Nat.le_of_ble_eq_true rfl) dX11_best_85 (fun z21 => ?_)
          refine xi_goto C (tgt := 92) dX11_best_88 rfl ?_
          refine xi_drop (L2 := [(0, .ref a_t), (2, .int y2), (4, .int y4)]) [0, 1, 3] rfl ?_
          exact B92 (fX11_best_b56 t_now t_told t_one t_other t_forth n) ih y2 y4 u19 y3 t_thrown t_worth t_choice h
  have B20 : ∀ (s0 : Int32) (t_thrown : Int32) (t_worth : Nat → Int64) (t_choice : Nat → Int32), fX11_best_b20 t_now t_told t_one t_other t_forth t_cost t_broken t_away x1 s0 t_thrown t_worth t_choice = some r → sW X l (zR 6) D 5 0 0 20 [(0, .ref a_t), (1, .int x1)] [.int s0, .ref a_t] [(a_t, .inr (11, [.int t_thrown, .ref a_t_now, .ref a_t_told, .ref a_t_one, .ref a_t_other, .ref a_t_forth, .ref a_t_cost, .ref a_t_broken, .ref a_t_away, .ref a_t_text, .int t_length, .int t_textSize, .int t_start, .int t_next, .int t_token, .int t_value, .int t_error, .int t_errorAt, .int t_number, .int t_isFirst, .ref a_t_worth, .ref a_t_choice, .ref a_t_thought, .ref a_t_before, .ref a_t_deep, .int t_limitNow, .ref a_t_price, .int t_undos, .ref a_t_undo, .ref a_t_slots, .ref a_t_isSaved])), (a_t_now, .inl (cT 0, 514, .inl t_now)), (a_t_told, .inl (cT 0, 8, .inl t_told)), (a_t_one, .inl (cT 0, 48, .inl t_one)), (a_t_other, .inl (cT 0, 48, .inl t_other)), (a_t_forth, .inl (cT 0, 48, .inl t_forth)), (a_t_cost, .inl (cT 0, 48, .inl t_cost)), (a_t_broken, .inl (cT 0, 72, .inl t_broken)), (a_t_away, .inl (cT 0, 72, .inl t_away)), (a_t_worth, .inl (cT 1, 1024, .inr (.inl t_worth))), (a_t_choice, .inl (cT 0, 1024, .inl t_choice))] := by
    intro s0 t_thrown t_worth t_choice h
    refine xi_iconst C (v := 1) dX11_best_20 rfl ?_
    obtain ⟨u5, hu6⟩ : ∃ z, z = fX11_throwsIf t_thrown s0 1 := ⟨_, rfl⟩
    replace h := nmE hu6 h
    refine xi_callV C (kX11_throwsIf l D cT a_t a_t_now a_t_told a_t_one a_t_other a_t_forth a_t_cost a_t_broken a_t_away a_t_text a_t_worth a_t_choice a_t_thought a_t_before a_t_deep a_t_price a_t_undo a_t_slots a_t_isSaved t_thrown t_length t_textSize t_start t_next t_token t_value t_error t_errorAt t_number t_isFirst t_limitNow t_undos s0 1 u5 hu6.symm) zcX11_throwsIf zmX11_176 ziX11_throwsIf (zr rfl rfl) z00 rfl [0] rfl rfl rfl [some 0, none, none, none, none, none, none, none, none, none, none] (by decide +kernel) (ws2 := [(a_t, .inr (11, [.int u5.2, .ref a_t_now, .ref a_t_told, .ref a_t_one, .ref a_t_other, .ref a_t_forth, .ref a_t_cost, .ref a_t_broken, .ref a_t_away, .ref a_t_text, .int t_length, .int t_textSize, .int t_start, .int t_next, .int t_token, .int t_value, .int t_error, .int t_errorAt, .int t_number, .int t_isFirst, .ref a_t_worth, .ref a_t_choice, .ref a_t_thought, .ref a_t_before, .ref a_t_deep, .int t_limitNow, .ref a_t_price, .int t_undos, .ref a_t_undo, .ref a_t_slots, .ref a_t_isSaved])), (a_t_now, .inl (cT 0, 514, .inl t_now)), (a_t_told, .inl (cT 0, 8, .inl t_told)), (a_t_one, .inl (cT 0, 48, .inl t_one)), (a_t_other, .inl (cT 0, 48, .inl t_other)), (a_t_forth, .inl (cT 0, 48, .inl t_forth)), (a_t_cost, .inl (cT 0, 48, .inl t_cost)), (a_t_broken, .inl (cT 0, 72, .inl t_broken)), (a_t_away, .inl (cT 0, 72, .inl t_away)), (a_t_worth, .inl (cT 1, 1024, .inr (.inl t_worth))), (a_t_choice, .inl (cT 0, 1024, .inl t_choice))]) rfl zkX11.1 (qr := 0) rfl rfl (Nat.le_of_ble_eq_true rfl) dX11_best_21 (fun z7 => ?_)
    refine xi_if_eq C (tgt := 29) dX11_best_24 rfl (fun c8 => ?_) (fun c8 => ?_)
    · replace h := (if_pos c8).symm.trans h
      refine xi_aload_n C 0 dX11_best_29 rfl ?_
      replace h := ob h
      obtain ⟨u9, hu10, h⟩ := h
      refine xi_callV C (kX11_bestNow l D cT a_t a_t_now a_t_told a_t_one a_t_other a_t_forth a_t_cost a_t_broken a_t_away a_t_text a_t_worth a_t_choice a_t_thought a_t_before a_t_deep a_t_price a_t_undo a_t_slots a_t_isSaved u5.2 t_length t_textSize t_start t_next t_token t_value t_error t_errorAt t_number t_isFirst t_limitNow t_undos t_now t_told t_one t_other t_forth t_cost t_broken t_away t_worth t_choice u9 hu10) zcX11_bestNow zmX11_240 ziX11_bestNow (zr rfl rfl) z00 rfl [0, 1, 2, 3, 4, 5, 6, 7, 8, 9, 10] rfl rfl rfl [some 0, some 1, some 2, some 3, some 4, some 5, some 6, some 7, some 8, some 9, some 10] (by decide +kernel) (ws2 := [(a_t, .inr (11, [.int u5.2, .ref a_t_now, .ref a_t_told, .ref a_t_one, .ref a_t_other, .ref a_t_forth, .ref a_t_cost, .ref a_t_broken, .ref a_t_away, .ref a_t_text, .int t_length, .int t_textSize, .int t_start, .int t_next, .int t_token, .int t_value, .int t_error, .int t_errorAt, .int t_number, .int t_isFirst, .ref a_t_worth, .ref a_t_choice, .ref a_t_thought, .ref a_t_before, .ref a_t_deep, .int t_limitNow, .ref a_t_price, .int t_undos, .ref a_t_undo, .ref a_t_slots, .ref a_t_isSaved])), (a_t_now, .inl (cT 0, 514, .inl t_now)), (a_t_told, .inl (cT 0, 8, .inl t_told)), (a_t_one, .inl (cT 0, 48, .inl t_one)), (a_t_other, .inl (cT 0, 48, .inl t_other)), (a_t_forth, .inl (cT 0, 48, .inl t_forth)), (a_t_cost, .inl (cT 0, 48, .inl t_cost)), (a_t_broken, .inl (cT 0, 72, .inl t_broken)), (a_t_away, .inl (cT 0, 72, .inl t_away)), (a_t_worth, .inl (cT 1, 1024, .inr (.inl u9.2.1))), (a_t_choice, .inl (cT 0, 1024, .inl u9.2.2))]) rfl zkX11.1 (qr := 0) rfl rfl (Nat.le_of_ble_eq_true rfl) dX11_best_30 (fun z11 => ?_)
      refine xi_istore_n C [1, 2, 0] (L2 := [(0, .ref a_t), (1, .int x1), (2, .int u9.1)]) dX11_best_33 (Nat.le_of_ble_eq_true rfl) rfl ?_
      refine xi_iload_n C 1 dX11_best_34 rfl ?_
      refine xi_if_ne C (tgt := 40) dX11_best_35 rfl (fun c12 => ?_) (fun c12 => ?_)
      · replace h := (if_neg c12).symm.trans h
        refine xi_iload_n C 1 dX11_best_40 rfl ?_
        refine xi_iconst C (v := 2) dX11_best_41 rfl ?_
        refine xi_icmp_ne C (tgt := 51) dX11_best_42 rfl (fun c13 => ?_) (fun c13 => ?_)
        · replace h := (if_neg c13).symm.trans h
          refine xi_iconst C (v := 0) dX11_best_51 rfl ?_
          refine xi_istore_n C [1, 2, 3, 0] (L2 := [(0, .ref a_t), (1, .int x1), (2, .int u9.1), (3, .int 0)]) dX11_best_52 (Nat.le_of_ble_eq_true rfl) rfl ?_
          refine xi_iconst C (v := 0) dX11_best_53 rfl ?_
          refine xi_istore C [1, 2, 3, 4, 0] (L2 := [(0, .ref a_t), (1, .int x1), (2, .int u9.1), (3, .int 0), (4, .int 0)]) dX11_best_54 (Nat.le_of_ble_eq_true rfl) rfl ?_
          refine xi_drop (L2 := [(0, .ref a_t), (2, .int u9.1), (3, .int 0), (4, .int 0)]) [0, 2, 3, 4] rfl ?_
          exact B56 FU u9.1 0 0 u5.2 u9.2.1 u9.2.2 h
        · replace h := (if_pos c13).symm.trans h
          refine xi_aload_n C 0 dX11_best_45 rfl ?_
          refine xi_iload_n C 2 dX11_best_46 rfl ?_
          replace h := ob h
          obtain ⟨u22, hu23, h⟩ := h
          refine xi_callVr C (kX11_costOf l D cT a_t a_t_now a_t_told a_t_one a_t_other a_t_forth a_t_cost a_t_broken a_t_away a_t_text a_t_worth a_t_choice a_t_thought a_t_before a_t_deep a_t_price a_t_undo a_t_slots a_t_isSaved u5.2 t_length t_textSize t_start t_next t_token t_value t_error t_errorAt t_number t_isFirst t_limitNow t_undos t_told t_cost u9.1 u22 hu23) zcX11_costOf zmX11_243 ziX11_costOf (zr rfl rfl) z00 rfl [0, 2, 6] rfl rfl zkX11.1 (qr := 0) rfl rfl (Nat.le_of_ble_eq_true rfl) dX11_best_47 (fun z24 => ?_)
          obtain rfl := Option.some.inj h
          exact hE _ _ _ dX11_best_50 rfl
      · replace h := (if_pos c12).symm.trans h
        refine xi_iload_n C 2 dX11_best_38 rfl ?_
        obtain rfl := Option.some.inj h
        exact hE _ _ _ dX11_best_39 rfl
    · replace h := (if_neg c8).symm.trans h
      refine xi_iconst C (v := 0) dX11_best_27 rfl ?_
      obtain rfl := Option.some.inj h
      exact hE _ _ _ dX11_best_28 rfl
  refine xi_drop (L2 := [(0, .ref a_t), (1, .int x1)]) [0, 1] rfl ?_
  refine xi_aload_n C 0 dX11_best_0 rfl ?_
  refine xi_iconst C (v := 0) dX11_best_1 rfl ?_
  refine xi_put C zkX11 0 0 zlX11_80 (by decide) rfl rfl rfl rfl (Nat.le_of_ble_eq_true rfl) dX11_best_2 (ws2 := [(a_t, .inr (11, [.int 0, .ref a_t_now, .ref a_t_told, .ref a_t_one, .ref a_t_other, .ref a_t_forth, .ref a_t_cost, .ref a_t_broken, .ref a_t_away, .ref a_t_text, .int t_length, .int t_textSize, .int t_start, .int t_next, .int t_token, .int t_value, .int t_error, .int t_errorAt, .int t_number, .int t_isFirst, .ref a_t_worth, .ref a_t_choice, .ref a_t_thought, .ref a_t_before, .ref a_t_deep, .int t_limitNow, .ref a_t_price, .int t_undos, .ref a_t_undo, .ref a_t_slots, .ref a_t_isSaved])), (a_t_now, .inl (cT 0, 514, .inl t_now)), (a_t_told, .inl (cT 0, 8, .inl t_told)), (a_t_one, .inl (cT 0, 48, .inl t_one)), (a_t_other, .inl (cT 0, 48, .inl t_other)), (a_t_forth, .inl (cT 0, 48, .inl t_forth)), (a_t_cost, .inl (cT 0, 48, .inl t_cost)), (a_t_broken, .inl (cT 0, 72, .inl t_broken)), (a_t_away, .inl (cT 0, 72, .inl t_away)), (a_t_worth, .inl (cT 1, 1024, .inr (.inl t_worth))), (a_t_choice, .inl (cT 0, 1024, .inl t_choice))]) rfl ?_
  refine xi_aload_n C 0 dX11_best_5 rfl ?_
  refine xi_iload_n C 1 dX11_best_6 rfl ?_
  refine xi_iconst C (v := 0) dX11_best_7 rfl ?_
  refine xi_iconst C (v := 2) dX11_best_8 rfl ?_
  refine xi_callSr C (kX11_within l D cT x1 0 2 (fX11_within x1 0 2) rfl) zcX11_within zmX11_113 zsX11_within (zr rfl rfl) z00 rfl [] rfl rfl rfl (Nat.le_of_ble_eq_true rfl) dX11_best_9 (fun z3 => ?_)
  refine xi_if_ne C (tgt := 19) dX11_best_12 rfl (fun c4 => ?_) (fun c4 => ?_)
  · replace h := (if_neg c4).symm.trans h
    refine xi_iconst C (v := 0) dX11_best_19 rfl ?_
    exact B20 0 0 t_worth t_choice h
  · replace h := (if_pos c4).symm.trans h
    refine xi_iconst C (v := 1) dX11_best_15 rfl ?_
    refine xi_goto C (tgt := 20) dX11_best_16 rfl ?_
    exact B20 1 0 t_worth t_choice h
def fX11_thinks_b2 (t_now : Nat → Int32) (t_told : Nat → Int32) : Nat → Int32 → (Nat → Int32) → Option ((Nat → Int32))
  | 0, _, _ => none
  | n + 1, y1, t_thought => if (t_told 0) ≤ y1 then some t_thought else gd (4 + y1) 514 (gd y1 10 ((fX11_thinks_b2 t_now t_told n) (y1 + 1) (upd t_thought y1.toNatClampNeg (t_now (4 + y1).toNatClampNeg))))
theorem fX11_thinks_b2_0 (t_now : Nat → Int32) (t_told : Nat → Int32) (y1 : Int32) (t_thought : Nat → Int32) : fX11_thinks_b2 t_now t_told 0 y1 t_thought = none := rfl
theorem fX11_thinks_b2_s (t_now : Nat → Int32) (t_told : Nat → Int32) (n : Nat) (y1 : Int32) (t_thought : Nat → Int32) : fX11_thinks_b2 t_now t_told (n + 1) y1 t_thought = (if (t_told 0) ≤ y1 then some t_thought else gd (4 + y1) 514 (gd y1 10 ((fX11_thinks_b2 t_now t_told n) (y1 + 1) (upd t_thought y1.toNatClampNeg (t_now (4 + y1).toNatClampNeg))))) := rfl
def fX11_thinks (t_now : Nat → Int32) (t_told : Nat → Int32) (t_thought : Nat → Int32) : Option ((Nat → Int32)) := fX11_thinks_b2 t_now t_told FU 0 t_thought
set_option maxRecDepth 100000 in
set_option maxHeartbeats 4000000 in
theorem kX11_thinks (l : Launch) (D : va_G) (cT : Nat → ClassId) (a_t : Nat) (a_t_now : Nat) (a_t_told : Nat) (a_t_one : Nat) (a_t_other : Nat) (a_t_forth : Nat) (a_t_cost : Nat) (a_t_broken : Nat) (a_t_away : Nat) (a_t_text : Nat) (a_t_worth : Nat) (a_t_choice : Nat) (a_t_thought : Nat) (a_t_before : Nat) (a_t_deep : Nat) (a_t_price : Nat) (a_t_undo : Nat) (a_t_slots : Nat) (a_t_isSaved : Nat) (t_thrown : Int32) (t_length : Int32) (t_textSize : Int32) (t_start : Int32) (t_next : Int32) (t_token : Int32) (t_value : Int32) (t_error : Int32) (t_errorAt : Int32) (t_number : Int32) (t_isFirst : Int32) (t_limitNow : Int32) (t_undos : Int32) (t_now : Nat → Int32) (t_told : Nat → Int32) (t_thought : Nat → Int32) (r : (Nat → Int32)) (h : fX11_thinks t_now t_told t_thought = some r) : sM l yX11_thinks cX11_thinks 2 none (zR 1) D cT [.ref a_t] [(a_t, .inr (11, [.int t_thrown, .ref a_t_now, .ref a_t_told, .ref a_t_one, .ref a_t_other, .ref a_t_forth, .ref a_t_cost, .ref a_t_broken, .ref a_t_away, .ref a_t_text, .int t_length, .int t_textSize, .int t_start, .int t_next, .int t_token, .int t_value, .int t_error, .int t_errorAt, .int t_number, .int t_isFirst, .ref a_t_worth, .ref a_t_choice, .ref a_t_thought, .ref a_t_before, .ref a_t_deep, .int t_limitNow, .ref a_t_price, .int t_undos, .ref a_t_undo, .ref a_t_slots, .ref a_t_isSaved])), (a_t_now, .inl (cT 0, 514, .inl t_now)), (a_t_told, .inl (cT 0, 8, .inl t_told)), (a_t_thought, .inl (cT 0, 10, .inl t_thought))] none [(a_t, .inr (11, [.int t_thrown, .ref a_t_now, .ref a_t_told, .ref a_t_one, .ref a_t_other, .ref a_t_forth, .ref a_t_cost, .ref a_t_broken, .ref a_t_away, .ref a_t_text, .int t_length, .int t_textSize, .int t_start, .int t_next, .int t_token, .int t_value, .int t_error, .int t_errorAt, .int t_number, .int t_isFirst, .ref a_t_worth, .ref a_t_choice, .ref a_t_thought, .ref a_t_before, .ref a_t_deep, .int t_limitNow, .ref a_t_price, .int t_undos, .ref a_t_undo, .ref a_t_slots, .ref a_t_isSaved])), (a_t_now, .inl (cT 0, 514, .inl t_now)), (a_t_told, .inl (cT 0, 8, .inl t_told)), (a_t_thought, .inl (cT 0, 10, .inl r))] := by
  refine sM_void rfl (Nat.le_of_ble_eq_true rfl) ?_
  intro X C hE
  have B2 : ∀ (n : Nat) (y1 : Int32) (t_thought : Nat → Int32), fX11_thinks_b2 t_now t_told n y1 t_thought = some r → sW X l (zR 1) D 2 0 0 2 [(0, .ref a_t), (1, .int y1)] [] [(a_t, .inr (11, [.int t_thrown, .ref a_t_now, .ref a_t_told, .ref a_t_one, .ref a_t_other, .ref a_t_forth, .ref a_t_cost, .ref a_t_broken, .ref a_t_away, .ref a_t_text, .int t_length, .int t_textSize, .int t_start, .int t_next, .int t_token, .int t_value, .int t_error, .int t_errorAt, .int t_number, .int t_isFirst, .ref a_t_worth, .ref a_t_choice, .ref a_t_thought, .ref a_t_before, .ref a_t_deep, .int t_limitNow, .ref a_t_price, .int t_undos, .ref a_t_undo, .ref a_t_slots, .ref a_t_isSaved])), (a_t_now, .inl (cT 0, 514, .inl t_now)), (a_t_told, .inl (cT 0, 8, .inl t_told)), (a_t_thought, .inl (cT 0, 10, .inl t_thought))] := by
    intro n
    induction n with
    | zero =>
      intro y1 t_thought h
      exact zno ((fX11_thinks_b2_0 _ _ _ _).symm.trans h)
    | succ n ih =>
      intro y1 t_thought h
      replace h := (fX11_thinks_b2_s _ _ _ _ _).symm.trans h
      refine xi_iload_n C 1 dX11_thinks_2 rfl ?_
      refine xi_aload_n C 0 dX11_thinks_3 rfl ?_
      refine xi_get C zkX11 2 0 zlX11_13 (by decide) rfl rfl dX11_thinks_4 ?_
      refine xi_iconst C (v := 0) dX11_thinks_7 rfl ?_
      refine xi_iald C 2 rfl (zv (by decide)) dX11_thinks_8 ?_
      refine xi_icmp_ge C (tgt := 32) dX11_thinks_9 rfl (fun c1 => ?_) (fun c1 => ?_)
      · replace h := (if_pos c1).symm.trans h
        obtain rfl := Option.some.inj h
        exact hE _ _ dX11_thinks_32 rfl
      · replace h := (if_neg c1).symm.trans h
        refine xi_aload_n C 0 dX11_thinks_12 rfl ?_
        refine xi_get C zkX11 22 0 zlX11_49 (by decide) rfl rfl dX11_thinks_13 ?_
        refine xi_iload_n C 1 dX11_thinks_16 rfl ?_
        refine xi_aload_n C 0 dX11_thinks_17 rfl ?_
        refine xi_get C zkX11 1 0 zlX11_7 (by decide) rfl rfl dX11_thinks_18 ?_
        refine xi_iconst C (v := 4) dX11_thinks_21 rfl ?_
        refine xi_iload_n C 1 dX11_thinks_22 rfl ?_
        refine xi_iadd C dX11_thinks_23 ?_
        replace h := ig h
        obtain ⟨c2, h⟩ := h
        refine xi_iald C 1 rfl c2 dX11_thinks_24 ?_
        replace h := ig h
        obtain ⟨c3, h⟩ := h
        refine xi_iast C 3 rfl c3 dX11_thinks_25 (ws2 := [(a_t, .inr (11, [.int t_thrown, .ref a_t_now, .ref a_t_told, .ref a_t_one, .ref a_t_other, .ref a_t_forth, .ref a_t_cost, .ref a_t_broken, .ref a_t_away, .ref a_t_text, .int t_length, .int t_textSize, .int t_start, .int t_next, .int t_token, .int t_value, .int t_error, .int t_errorAt, .int t_number, .int t_isFirst, .ref a_t_worth, .ref a_t_choice, .ref a_t_thought, .ref a_t_before, .ref a_t_deep, .int t_limitNow, .ref a_t_price, .int t_undos, .ref a_t_undo, .ref a_t_slots, .ref a_t_isSaved])), (a_t_now, .inl (cT 0, 514, .inl t_now)), (a_t_told, .inl (cT 0, 8, .inl t_told)), (a_t_thought, .inl (cT 0, 10, .inl (upd t_thought y1.toNatClampNeg (t_now (4 + y1).toNatClampNeg))))]) rfl ?_
        refine xi_iinc C (v := y1 + 1) 1 [1, 0] (L2 := [(0, .ref a_t), (1, .int (y1 + 1))]) dX11_thinks_26 rfl rfl (Nat.le_of_ble_eq_true rfl) rfl ?_
        refine xi_goto C (tgt := 2) dX11_thinks_29 rfl ?_
        exact ih (y1 + 1) (upd t_thought y1.toNatClampNeg (t_now (4 + y1).toNatClampNeg)) h
  refine xi_drop (L2 := [(0, .ref a_t)]) [0] rfl ?_
  refine xi_iconst C (v := 0) dX11_thinks_0 rfl ?_
  refine xi_istore_n C [1, 0] (L2 := [(0, .ref a_t), (1, .int 0)]) dX11_thinks_1 (Nat.le_of_ble_eq_true rfl) rfl ?_
  exact B2 FU 0 t_thought h
def fX11_calls_b112 (K32 : Int32 → (Nat → Int32) → (Nat → Int32) → Option ((Nat → Int32) × (Nat → Int32))) (y2 : Int32) (s0 : Int32) (s1 : Int32) (s2 : Int32) (t_thought : Nat → Int32) (t_before : Nat → Int32) : Option ((Nat → Int32) × (Nat → Int32)) := gd s2 10 (K32 (y2 + 1) (upd t_thought s2.toNatClampNeg (s1 ||| s0)) t_before)
def fX11_calls_b32 (t_told : Nat → Int32) (t_one : Nat → Int32) (t_other : Nat → Int32) (t_forth : Nat → Int32) (x1 : Int32) : Nat → Int32 → (Nat → Int32) → (Nat → Int32) → Option ((Nat → Int32) × (Nat → Int32))
  | 0, _, _, _ => none
  | n + 1, y2, t_thought, t_before => if (t_told 1) ≤ y2 then some (t_thought, t_before) else if (fX11_isIn x1 y2) = 0 then (fX11_calls_b32 t_told t_one t_other t_forth x1 n) (y2 + 1) t_thought t_before else gd y2 48 (gd (t_other y2.toNatClampNeg) 10 (gd (t_one y2.toNatClampNeg) 10 (if (t_forth y2.toNatClampNeg) = 1 then fX11_calls_b112 (fX11_calls_b32 t_told t_one t_other t_forth x1 n) y2 0 ((upd t_thought (t_other y2.toNatClampNeg).toNatClampNeg ((t_thought (t_other y2.toNatClampNeg).toNatClampNeg) ||| (t_before (t_one y2.toNatClampNeg).toNatClampNeg))) (t_one y2.toNatClampNeg).toNatClampNeg) (t_one y2.toNatClampNeg) (upd t_thought (t_other y2.toNatClampNeg).toNatClampNeg ((t_thought (t_other y2.toNatClampNeg).toNatClampNeg) ||| (t_before (t_one y2.toNatClampNeg).toNatClampNeg))) t_before else fX11_calls_b112 (fX11_calls_b32 t_told t_one t_other t_forth x1 n) y2 (t_before (t_other y2.toNatClampNeg).toNatClampNeg) ((upd t_thought (t_other y2.toNatClampNeg).toNatClampNeg ((t_thought (t_other y2.toNatClampNeg).toNatClampNeg) ||| (t_before (t_one y2.toNatClampNeg).toNatClampNeg))) (t_one y2.toNatClampNeg).toNatClampNeg) (t_one y2.toNatClampNeg) (upd t_thought (t_other y2.toNatClampNeg).toNatClampNeg ((t_thought (t_other y2.toNatClampNeg).toNatClampNeg) ||| (t_before (t_one y2.toNatClampNeg).toNatClampNeg))) t_before)))
theorem fX11_calls_b32_0 (t_told : Nat → Int32) (t_one : Nat → Int32) (t_other : Nat → Int32) (t_forth : Nat → Int32) (x1 : Int32) (y2 : Int32) (t_thought : Nat → Int32) (t_before : Nat → Int32) : fX11_calls_b32 t_told t_one t_other t_forth x1 0 y2 t_thought t_before = none := rfl
theorem fX11_calls_b32_s (t_told : Nat → Int32) (t_one : Nat → Int32) (t_other : Nat → Int32) (t_forth : Nat → Int32) (x1 : Int32) (n : Nat) (y2 : Int32) (t_thought : Nat → Int32) (t_before : Nat → Int32) : fX11_calls_b32 t_told t_one t_other t_forth x1 (n + 1) y2 t_thought t_before = (if (t_told 1) ≤ y2 then some (t_thought, t_before) else if (fX11_isIn x1 y2) = 0 then (fX11_calls_b32 t_told t_one t_other t_forth x1 n) (y2 + 1) t_thought t_before else gd y2 48 (gd (t_other y2.toNatClampNeg) 10 (gd (t_one y2.toNatClampNeg) 10 (if (t_forth y2.toNatClampNeg) = 1 then fX11_calls_b112 (fX11_calls_b32 t_told t_one t_other t_forth x1 n) y2 0 ((upd t_thought (t_other y2.toNatClampNeg).toNatClampNeg ((t_thought (t_other y2.toNatClampNeg).toNatClampNeg) ||| (t_before (t_one y2.toNatClampNeg).toNatClampNeg))) (t_one y2.toNatClampNeg).toNatClampNeg) (t_one y2.toNatClampNeg) (upd t_thought (t_other y2.toNatClampNeg).toNatClampNeg ((t_thought (t_other y2.toNatClampNeg).toNatClampNeg) ||| (t_before (t_one y2.toNatClampNeg).toNatClampNeg))) t_before else fX11_calls_b112 (fX11_calls_b32 t_told t_one t_other t_forth x1 n) y2 (t_before (t_other y2.toNatClampNeg).toNatClampNeg) ((upd t_thought (t_other y2.toNatClampNeg).toNatClampNeg ((t_thought (t_other y2.toNatClampNeg).toNatClampNeg) ||| (t_before (t_one y2.toNatClampNeg).toNatClampNeg))) (t_one y2.toNatClampNeg).toNatClampNeg) (t_one y2.toNatClampNeg) (upd t_thought (t_other y2.toNatClampNeg).toNatClampNeg ((t_thought (t_other y2.toNatClampNeg).toNatClampNeg) ||| (t_before (t_one y2.toNatClampNeg).toNatClampNeg))) t_before)))) := rfl
def fX11_calls_b2 (t_told : Nat → Int32) (t_one : Nat → Int32) (t_other : Nat → Int32) (t_forth : Nat → Int32) (x1 : Int32) : Nat → Int32 → (Nat → Int32) → (Nat → Int32) → Option ((Nat → Int32) × (Nat → Int32))
  | 0, _, _, _ => none
  | n + 1, y2, t_thought, t_before => if (t_told 0) ≤ y2 then fX11_calls_b32 t_told t_one t_other t_forth x1 FU 0 t_thought t_before else gd y2 10 ((fX11_calls_b2 t_told t_one t_other t_forth x1 n) (y2 + 1) t_thought (upd t_before y2.toNatClampNeg (t_thought y2.toNatClampNeg)))
theorem fX11_calls_b2_0 (t_told : Nat → Int32) (t_one : Nat → Int32) (t_other : Nat → Int32) (t_forth : Nat → Int32) (x1 : Int32) (y2 : Int32) (t_thought : Nat → Int32) (t_before : Nat → Int32) : fX11_calls_b2 t_told t_one t_other t_forth x1 0 y2 t_thought t_before = none := rfl
theorem fX11_calls_b2_s (t_told : Nat → Int32) (t_one : Nat → Int32) (t_other : Nat → Int32) (t_forth : Nat → Int32) (x1 : Int32) (n : Nat) (y2 : Int32) (t_thought : Nat → Int32) (t_before : Nat → Int32) : fX11_calls_b2 t_told t_one t_other t_forth x1 (n + 1) y2 t_thought t_before = (if (t_told 0) ≤ y2 then fX11_calls_b32 t_told t_one t_other t_forth x1 FU 0 t_thought t_before else gd y2 10 ((fX11_calls_b2 t_told t_one t_other t_forth x1 n) (y2 + 1) t_thought (upd t_before y2.toNatClampNeg (t_thought y2.toNatClampNeg)))) := rfl
def fX11_calls (t_told : Nat → Int32) (t_one : Nat → Int32) (t_other : Nat → Int32) (t_forth : Nat → Int32) (t_thought : Nat → Int32) (t_before : Nat → Int32) (x1 : Int32) : Option ((Nat → Int32) × (Nat → Int32)) := fX11_calls_b2 t_told t_one t_other t_forth x1 FU 0 t_thought t_before
set_option maxRecDepth 100000 in
set_option maxHeartbeats 4000000 in
theorem kX11_calls (l : Launch) (D : va_G) (cT : Nat → ClassId) (a_t : Nat) (a_t_now : Nat) (a_t_told : Nat) (a_t_one : Nat) (a_t_other : Nat) (a_t_forth : Nat) (a_t_cost : Nat) (a_t_broken : Nat) (a_t_away : Nat) (a_t_text : Nat) (a_t_worth : Nat) (a_t_choice : Nat) (a_t_thought : Nat) (a_t_before : Nat) (a_t_deep : Nat) (a_t_price : Nat) (a_t_undo : Nat) (a_t_slots : Nat) (a_t_isSaved : Nat) (t_thrown : Int32) (t_length : Int32) (t_textSize : Int32) (t_start : Int32) (t_next : Int32) (t_token : Int32) (t_value : Int32) (t_error : Int32) (t_errorAt : Int32) (t_number : Int32) (t_isFirst : Int32) (t_limitNow : Int32) (t_undos : Int32) (t_told : Nat → Int32) (t_one : Nat → Int32) (t_other : Nat → Int32) (t_forth : Nat → Int32) (t_thought : Nat → Int32) (t_before : Nat → Int32) (x1 : Int32) (r : (Nat → Int32) × (Nat → Int32)) (h : fX11_calls t_told t_one t_other t_forth t_thought t_before x1 = some r) : sM l yX11_calls cX11_calls 3 none (zR 2) D cT [.ref a_t, .int x1] [(a_t, .inr (11, [.int t_thrown, .ref a_t_now, .ref a_t_told, .ref a_t_one, .ref a_t_other, .ref a_t_forth, .ref a_t_cost, .ref a_t_broken, .ref a_t_away, .ref a_t_text, .int t_length, .int t_textSize, .int t_start, .int t_next, .int t_token, .int t_value, .int t_error, .int t_errorAt, .int t_number, .int t_isFirst, .ref a_t_worth, .ref a_t_choice, .ref a_t_thought, .ref a_t_before, .ref a_t_deep, .int t_limitNow, .ref a_t_price, .int t_undos, .ref a_t_undo, .ref a_t_slots, .ref a_t_isSaved])), (a_t_told, .inl (cT 0, 8, .inl t_told)), (a_t_one, .inl (cT 0, 48, .inl t_one)), (a_t_other, .inl (cT 0, 48, .inl t_other)), (a_t_forth, .inl (cT 0, 48, .inl t_forth)), (a_t_thought, .inl (cT 0, 10, .inl t_thought)), (a_t_before, .inl (cT 0, 10, .inl t_before))] none [(a_t, .inr (11, [.int t_thrown, .ref a_t_now, .ref a_t_told, .ref a_t_one, .ref a_t_other, .ref a_t_forth, .ref a_t_cost, .ref a_t_broken, .ref a_t_away, .ref a_t_text, .int t_length, .int t_textSize, .int t_start, .int t_next, .int t_token, .int t_value, .int t_error, .int t_errorAt, .int t_number, .int t_isFirst, .ref a_t_worth, .ref a_t_choice, .ref a_t_thought, .ref a_t_before, .ref a_t_deep, .int t_limitNow, .ref a_t_price, .int t_undos, .ref a_t_undo, .ref a_t_slots, .ref a_t_isSaved])), (a_t_told, .inl (cT 0, 8, .inl t_told)), (a_t_one, .inl (cT 0, 48, .inl t_one)), (a_t_other, .inl (cT 0, 48, .inl t_other)), (a_t_forth, .inl (cT 0, 48, .inl t_forth)), (a_t_thought, .inl (cT 0, 10, .inl r.1)), (a_t_before, .inl (cT 0, 10, .inl r.2))] := by
  refine sM_void rfl (Nat.le_of_ble_eq_true rfl) ?_
  intro X C hE
  have B112 : ∀ (K32 : Int32 → (Nat → Int32) → (Nat → Int32) → Option ((Nat → Int32) × (Nat → Int32))) (hK32 : ∀ (y2 : Int32) (t_thought : Nat → Int32) (t_before : Nat → Int32), K32 y2 t_thought t_before = some r → sW X l (zR 2) D 3 0 0 32 [(0, .ref a_t), (1, .int x1), (2, .int y2)] [] [(a_t, .inr (11, [.int t_thrown, .ref a_t_now, .ref a_t_told, .ref a_t_one, .ref a_t_other, .ref a_t_forth, .ref a_t_cost, .ref a_t_broken, .ref a_t_away, .ref a_t_text, .int t_length, .int t_textSize, .int t_start, .int t_next, .int t_token, .int t_value, .int t_error, .int t_errorAt, .int t_number, .int t_isFirst, .ref a_t_worth, .ref a_t_choice, .ref a_t_thought, .ref a_t_before, .ref a_t_deep, .int t_limitNow, .ref a_t_price, .int t_undos, .ref a_t_undo, .ref a_t_slots, .ref a_t_isSaved])), (a_t_told, .inl (cT 0, 8, .inl t_told)), (a_t_one, .inl (cT 0, 48, .inl t_one)), (a_t_other, .inl (cT 0, 48, .inl t_other)), (a_t_forth, .inl (cT 0, 48, .inl t_forth)), (a_t_thought, .inl (cT 0, 10, .inl t_thought)), (a_t_before, .inl (cT 0, 10, .inl t_before))]) (y2 : Int32) (s0 : Int32) (s1 : Int32) (s2 : Int32) (t_thought : Nat → Int32) (t_before : Nat → Int32), fX11_calls_b112 K32 y2 s0 s1 s2 t_thought t_before = some r → sW X l (zR 2) D 3 0 0 112 [(0, .ref a_t), (1, .int x1), (2, .int y2)] [.int s0, .int s1, .int s2, .ref a_t_thought] [(a_t, .inr (11, [.int t_thrown, .ref a_t_now, .ref a_t_told, .ref a_t_one, .ref a_t_other, .ref a_t_forth, .ref a_t_cost, .ref a_t_broken, .ref a_t_away, .ref a_t_text, .int t_length, .int t_textSize, .int t_start, .int t_next, .int t_token, .int t_value, .int t_error, .int t_errorAt, .int t_number, .int t_isFirst, .ref a_t_worth, .ref a_t_choice, .ref a_t_thought, .ref a_t_before, .ref a_t_deep, .int t_limitNow, .ref a_t_price, .int t_undos, .ref a_t_undo, .ref a_t_slots, .ref a_t_isSaved])), (a_t_told, .inl (cT 0, 8, .inl t_told)), (a_t_one, .inl (cT 0, 48, .inl t_one)), (a_t_other, .inl (cT 0, 48, .inl t_other)), (a_t_forth, .inl (cT 0, 48, .inl t_forth)), (a_t_thought, .inl (cT 0, 10, .inl t_thought)), (a_t_before, .inl (cT 0, 10, .inl t_before))] := by
    intro K32 hK32 y2 s0 s1 s2 t_thought t_before h
    refine xi_ior C dX11_calls_112 ?_
    replace h := ig h
    obtain ⟨c11, h⟩ := h
    refine xi_iast C 5 rfl c11 dX11_calls_113 (ws2 := [(a_t, .inr (11, [.int t_thrown, .ref a_t_now, .ref a_t_told, .ref a_t_one, .ref a_t_other, .ref a_t_forth, .ref a_t_cost, .ref a_t_broken, .ref a_t_away, .ref a_t_text, .int t_length, .int t_textSize, .int t_start, .int t_next, .int t_token, .int t_value, .int t_error, .int t_errorAt, .int t_number, .int t_isFirst, .ref a_t_worth, .ref a_t_choice, .ref a_t_thought, .ref a_t_before, .ref a_t_deep, .int t_limitNow, .ref a_t_price, .int t_undos, .ref a_t_undo, .ref a_t_slots, .ref a_t_isSaved])), (a_t_told, .inl (cT 0, 8, .inl t_told)), (a_t_one, .inl (cT 0, 48, .inl t_one)), (a_t_other, .inl (cT 0, 48, .inl t_other)), (a_t_forth, .inl (cT 0, 48, .inl t_forth)), (a_t_thought, .inl (cT 0, 10, .inl (upd t_thought s2.toNatClampNeg (s1 ||| s0)))), (a_t_before, .inl (cT 0, 10, .inl t_before))]) rfl ?_
    refine xi_iinc C (v := y2 + 1) 2 [1, 2, 0] (L2 := [(0, .ref a_t), (1, .int x1), (2, .int (y2 + 1))]) dX11_calls_114 rfl rfl (Nat.le_of_ble_eq_true rfl) rfl ?_
    refine xi_goto C (tgt := 32) dX11_calls_117 rfl ?_
    exact hK32 (y2 + 1) (upd t_thought s2.toNatClampNeg (s1 ||| s0)) t_before h
  have B32 : ∀ (n : Nat) (y2 : Int32) (t_thought : Nat → Int32) (t_before : Nat → Int32), fX11_calls_b32 t_told t_one t_other t_forth x1 n y2 t_thought t_before = some r → sW X l (zR 2) D 3 0 0 32 [(0, .ref a_t), (1, .int x1), (2, .int y2)] [] [(a_t, .inr (11, [.int t_thrown, .ref a_t_now, .ref a_t_told, .ref a_t_one, .ref a_t_other, .ref a_t_forth, .ref a_t_cost, .ref a_t_broken, .ref a_t_away, .ref a_t_text, .int t_length, .int t_textSize, .int t_start, .int t_next, .int t_token, .int t_value, .int t_error, .int t_errorAt, .int t_number, .int t_isFirst, .ref a_t_worth, .ref a_t_choice, .ref a_t_thought, .ref a_t_before, .ref a_t_deep, .int t_limitNow, .ref a_t_price, .int t_undos, .ref a_t_undo, .ref a_t_slots, .ref a_t_isSaved])), (a_t_told, .inl (cT 0, 8, .inl t_told)), (a_t_one, .inl (cT 0, 48, .inl t_one)), (a_t_other, .inl (cT 0, 48, .inl t_other)), (a_t_forth, .inl (cT 0, 48, .inl t_forth)), (a_t_thought, .inl (cT 0, 10, .inl t_thought)), (a_t_before, .inl (cT 0, 10, .inl t_before))] := by
    intro n
    induction n with
    | zero =>
      intro y2 t_thought t_before h
      exact zno ((fX11_calls_b32_0 _ _ _ _ _ _ _ _).symm.trans h)
    | succ n ih =>
      intro y2 t_thought t_before h
      replace h := (fX11_calls_b32_s _ _ _ _ _ _ _ _ _).symm.trans h
      refine xi_iload_n C 2 dX11_calls_32 rfl ?_
      refine xi_aload_n C 0 dX11_calls_33 rfl ?_
      refine xi_get C zkX11 2 0 zlX11_13 (by decide) rfl rfl dX11_calls_34 ?_
      refine xi_iconst C (v := 1) dX11_calls_37 rfl ?_
      refine xi_iald C 1 rfl (zv (by decide)) dX11_calls_38 ?_
      refine xi_icmp_ge C (tgt := 120) dX11_calls_39 rfl (fun c2 => ?_) (fun c2 => ?_)
      · replace h := (if_pos c2).symm.trans h
        obtain rfl := Option.some.inj h
        exact hE _ _ dX11_calls_120 rfl
      · replace h := (if_neg c2).symm.trans h
        refine xi_iload_n C 1 dX11_calls_42 rfl ?_
        refine xi_iload_n C 2 dX11_calls_43 rfl ?_
        refine xi_callSr C (kX11_isIn l D cT x1 y2 (fX11_isIn x1 y2) rfl) zcX11_isIn zmX11_201 zsX11_isIn (zr rfl rfl) z00 rfl [] rfl rfl rfl (Nat.le_of_ble_eq_true rfl) dX11_calls_44 (fun z5 => ?_)
        refine xi_if_eq C (tgt := 114) dX11_calls_47 rfl (fun c6 => ?_) (fun c6 => ?_)
        · replace h := (if_pos c6).symm.trans h
          refine xi_iinc C (v := y2 + 1) 2 [1, 2, 0] (L2 := [(0, .ref a_t), (1, .int x1), (2, .int (y2 + 1))]) dX11_calls_114 rfl rfl (Nat.le_of_ble_eq_true rfl) rfl ?_
          refine xi_goto C (tgt := 32) dX11_calls_117 rfl ?_
          exact ih (y2 + 1) t_thought t_before h
        · replace h := (if_neg c6).symm.trans h
          refine xi_aload_n C 0 dX11_calls_50 rfl ?_
          refine xi_get C zkX11 22 0 zlX11_49 (by decide) rfl rfl dX11_calls_51 ?_
          refine xi_aload_n C 0 dX11_calls_54 rfl ?_
          refine xi_get C zkX11 4 0 zlX11_19 (by decide) rfl rfl dX11_calls_55 ?_
          refine xi_iload_n C 2 dX11_calls_58 rfl ?_
          replace h := ig h
          obtain ⟨c7, h⟩ := h
          refine xi_iald C 3 rfl c7 dX11_calls_59 ?_
          refine xi_dup2 C dX11_calls_60 rfl rfl ?_
          replace h := ig h
          obtain ⟨c8, h⟩ := h
          refine xi_iald C 5 rfl c8 dX11_calls_61 ?_
          refine xi_aload_n C 0 dX11_calls_62 rfl ?_
          refine xi_get C zkX11 23 0 zlX11_52 (by decide) rfl rfl dX11_calls_63 ?_
          refine xi_aload_n C 0 dX11_calls_66 rfl ?_
          refine xi_get C zkX11 3 0 zlX11_16 (by decide) rfl rfl dX11_calls_67 ?_
          refine xi_iload_n C 2 dX11_calls_70 rfl ?_
          refine xi_iald C 2 rfl c7 dX11_calls_71 ?_
          replace h := ig h
          obtain ⟨c9, h⟩ := h
          refine xi_iald C 6 rfl c9 dX11_calls_72 ?_
          refine xi_ior C dX11_calls_73 ?_
          refine xi_iast C 5 rfl c8 dX11_calls_74 (ws2 := [(a_t, .inr (11, [.int t_thrown, .ref a_t_now, .ref a_t_told, .ref a_t_one, .ref a_t_other, .ref a_t_forth, .ref a_t_cost, .ref a_t_broken, .ref a_t_away, .ref a_t_text, .int t_length, .int t_textSize, .int t_start, .int t_next, .int t_token, .int t_value, .int t_error, .int t_errorAt, .int t_number, .int t_isFirst, .ref a_t_worth, .ref a_t_choice, .ref a_t_thought, .ref a_t_before, .ref a_t_deep, .int t_limitNow, .ref a_t_price, .int t_undos, .ref a_t_undo, .ref a_t_slots, .ref a_t_isSaved])), (a_t_told, .inl (cT 0, 8, .inl t_told)), (a_t_one, .inl (cT 0, 48, .inl t_one)), (a_t_other, .inl (cT 0, 48, .inl t_other)), (a_t_forth, .inl (cT 0, 48, .inl t_forth)), (a_t_thought, .inl (cT 0, 10, .inl (upd t_thought (t_other y2.toNatClampNeg).toNatClampNeg ((t_thought (t_other y2.toNatClampNeg).toNatClampNeg) ||| (t_before (t_one y2.toNatClampNeg).toNatClampNeg))))), (a_t_before, .inl (cT 0, 10, .inl t_before))]) rfl ?_
          refine xi_aload_n C 0 dX11_calls_75 rfl ?_
          refine xi_get C zkX11 22 0 zlX11_49 (by decide) rfl rfl dX11_calls_76 ?_
          refine xi_aload_n C 0 dX11_calls_79 rfl ?_
          refine xi_get C zkX11 3 0 zlX11_16 (by decide) rfl rfl dX11_calls_80 ?_
          refine xi_iload_n C 2 dX11_calls_83 rfl ?_
          refine xi_iald C 2 rfl c7 dX11_calls_84 ?_
          refine xi_dup2 C dX11_calls_85 rfl rfl ?_
          refine xi_iald C 5 rfl c9 dX11_calls_86 ?_
          refine xi_aload_n C 0 dX11_calls_87 rfl ?_
          refine xi_get C zkX11 5 0 zlX11_22 (by decide) rfl rfl dX11_calls_88 ?_
          refine xi_iload_n C 2 dX11_calls_91 rfl ?_
          refine xi_iald C 4 rfl c7 dX11_calls_92 ?_
          refine xi_iconst C (v := 1) dX11_calls_93 rfl ?_
          refine xi_icmp_ne C (tgt := 101) dX11_calls_94 rfl (fun c10 => ?_) (fun c10 => ?_)
          · replace h := (if_neg c10).symm.trans h
            refine xi_aload_n C 0 dX11_calls_101 rfl ?_
            refine xi_get C zkX11 23 0 zlX11_52 (by decide) rfl rfl dX11_calls_102 ?_
            refine xi_aload_n C 0 dX11_calls_105 rfl ?_
            refine xi_get C zkX11 4 0 zlX11_19 (by decide) rfl rfl dX11_calls_106 ?_
            refine xi_iload_n C 2 dX11_calls_109 rfl ?_
            refine xi_iald C 3 rfl c7 dX11_calls_110 ?_
            refine xi_iald C 6 rfl c8 dX11_calls_111 ?_
            exact B112 (fX11_calls_b32 t_told t_one t_other t_forth x1 n) ih y2 (t_before (t_other y2.toNatClampNeg).toNatClampNeg) ((upd t_thought (t_other y2.toNatClampNeg).toNatClampNeg ((t_thought (t_other y2.toNatClampNeg).toNatClampNeg) ||| (t_before (t_one y2.toNatClampNeg).toNatClampNeg))) (t_one y2.toNatClampNeg).toNatClampNeg) (t_one y2.toNatClampNeg) (upd t_thought (t_other y2.toNatClampNeg).toNatClampNeg ((t_thought (t_other y2.toNatClampNeg).toNatClampNeg) ||| (t_before (t_one y2.toNatClampNeg).toNatClampNeg))) t_before h
          · replace h := (if_pos c10).symm.trans h
            refine xi_iconst C (v := 0) dX11_calls_97 rfl ?_
            refine xi_goto C (tgt := 112) dX11_calls_98 rfl ?_
            exact B112 (fX11_calls_b32 t_told t_one t_other t_forth x1 n) ih y2 0 ((upd t_thought (t_other y2.toNatClampNeg).toNatClampNeg ((t_thought (t_other y2.toNatClampNeg).toNatClampNeg) ||| (t_before (t_one y2.toNatClampNeg).toNatClampNeg))) (t_one y2.toNatClampNeg).toNatClampNeg) (t_one y2.toNatClampNeg) (upd t_thought (t_other y2.toNatClampNeg).toNatClampNeg ((t_thought (t_other y2.toNatClampNeg).toNatClampNeg) ||| (t_before (t_one y2.toNatClampNeg).toNatClampNeg))) t_before h
  have B2 : ∀ (n : Nat) (y2 : Int32) (t_thought : Nat → Int32) (t_before : Nat → Int32), fX11_calls_b2 t_told t_one t_other t_forth x1 n y2 t_thought t_before = some r → sW X l (zR 2) D 3 0 0 2 [(0, .ref a_t), (1, .int x1), (2, .int y2)] [] [(a_t, .inr (11, [.int t_thrown, .ref a_t_now, .ref a_t_told, .ref a_t_one, .ref a_t_other, .ref a_t_forth, .ref a_t_cost, .ref a_t_broken, .ref a_t_away, .ref a_t_text, .int t_length, .int t_textSize, .int t_start, .int t_next, .int t_token, .int t_value, .int t_error, .int t_errorAt, .int t_number, .int t_isFirst, .ref a_t_worth, .ref a_t_choice, .ref a_t_thought, .ref a_t_before, .ref a_t_deep, .int t_limitNow, .ref a_t_price, .int t_undos, .ref a_t_undo, .ref a_t_slots, .ref a_t_isSaved])), (a_t_told, .inl (cT 0, 8, .inl t_told)), (a_t_one, .inl (cT 0, 48, .inl t_one)), (a_t_other, .inl (cT 0, 48, .inl t_other)), (a_t_forth, .inl (cT 0, 48, .inl t_forth)), (a_t_thought, .inl (cT 0, 10, .inl t_thought)), (a_t_before, .inl (cT 0, 10, .inl t_before))] := by
    intro n
    induction n with
    | zero =>
      intro y2 t_thought t_before h
      exact zno ((fX11_calls_b2_0 _ _ _ _ _ _ _ _).symm.trans h)
    | succ n ih =>
      intro y2 t_thought t_before h
      replace h := (fX11_calls_b2_s _ _ _ _ _ _ _ _ _).symm.trans h
      refine xi_iload_n C 2 dX11_calls_2 rfl ?_
      refine xi_aload_n C 0 dX11_calls_3 rfl ?_
      refine xi_get C zkX11 2 0 zlX11_13 (by decide) rfl rfl dX11_calls_4 ?_
      refine xi_iconst C (v := 0) dX11_calls_7 rfl ?_
      refine xi_iald C 1 rfl (zv (by decide)) dX11_calls_8 ?_
      refine xi_icmp_ge C (tgt := 30) dX11_calls_9 rfl (fun c1 => ?_) (fun c1 => ?_)
      · replace h := (if_pos c1).symm.trans h
        refine xi_iconst C (v := 0) dX11_calls_30 rfl ?_
        refine xi_istore_n C [1, 2, 0] (L2 := [(0, .ref a_t), (1, .int x1), (2, .int 0)]) dX11_calls_31 (Nat.le_of_ble_eq_true rfl) rfl ?_
        exact B32 FU 0 t_thought t_before h
      · replace h := (if_neg c1).symm.trans h
        refine xi_aload_n C 0 dX11_calls_12 rfl ?_
        refine xi_get C zkX11 23 0 zlX11_52 (by decide) rfl rfl dX11_calls_13 ?_
        refine xi_iload_n C 2 dX11_calls_16 rfl ?_
        refine xi_aload_n C 0 dX11_calls_17 rfl ?_
        refine xi_get C zkX11 22 0 zlX11_49 (by decide) rfl rfl dX11_calls_18 ?_
        refine xi_iload_n C 2 dX11_calls_21 rfl ?_
        replace h := ig h
        obtain ⟨c12, h⟩ := h
        refine xi_iald C 5 rfl c12 dX11_calls_22 ?_
        refine xi_iast C 6 rfl c12 dX11_calls_23 (ws2 := [(a_t, .inr (11, [.int t_thrown, .ref a_t_now, .ref a_t_told, .ref a_t_one, .ref a_t_other, .ref a_t_forth, .ref a_t_cost, .ref a_t_broken, .ref a_t_away, .ref a_t_text, .int t_length, .int t_textSize, .int t_start, .int t_next, .int t_token, .int t_value, .int t_error, .int t_errorAt, .int t_number, .int t_isFirst, .ref a_t_worth, .ref a_t_choice, .ref a_t_thought, .ref a_t_before, .ref a_t_deep, .int t_limitNow, .ref a_t_price, .int t_undos, .ref a_t_undo, .ref a_t_slots, .ref a_t_isSaved])), (a_t_told, .inl (cT 0, 8, .inl t_told)), (a_t_one, .inl (cT 0, 48, .inl t_one)), (a_t_other, .inl (cT 0, 48, .inl t_other)), (a_t_forth, .inl (cT 0, 48, .inl t_forth)), (a_t_thought, .inl (cT 0, 10, .inl t_thought)), (a_t_before, .inl (cT 0, 10, .inl (upd t_before y2.toNatClampNeg (t_thought y2.toNatClampNeg))))]) rfl ?_
        refine xi_iinc C (v := y2 + 1) 2 [1, 2, 0] (L2 := [(0, .ref a_t), (1, .int x1), (2, .int (y2 + 1))]) dX11_calls_24 rfl rfl (Nat.le_of_ble_eq_true rfl) rfl ?_
        refine xi_goto C (tgt := 2) dX11_calls_27 rfl ?_
        exact ih (y2 + 1) t_thought (upd t_before y2.toNatClampNeg (t_thought y2.toNatClampNeg)) h
  refine xi_drop (L2 := [(0, .ref a_t), (1, .int x1)]) [0, 1] rfl ?_
  refine xi_iconst C (v := 0) dX11_calls_0 rfl ?_
  refine xi_istore_n C [1, 2, 0] (L2 := [(0, .ref a_t), (1, .int x1), (2, .int 0)]) dX11_calls_1 (Nat.le_of_ble_eq_true rfl) rfl ?_
  exact B2 FU 0 t_thought t_before h
def fX11_plan_b108 (t_told : Nat → Int32) (x1 : Int32) (y2 : Int32) (y3 : Int32) (y4 : Int32) (t_thrown : Int32) (t_worth : Nat → Int64) (t_choice : Nat → Int32) (t_thought : Nat → Int32) (t_before : Nat → Int32) : Option (Int32 × Int32 × (Nat → Int64) × (Nat → Int32) × (Nat → Int32) × (Nat → Int32)) := (fX11_missingIn 10 t_told t_thought 0).bind (fun u13 => if x1 = 0 then if u13 ≤ 0 then some (y2, t_thrown, t_worth, t_choice, t_thought, t_before) else some ((-1), t_thrown, t_worth, t_choice, t_thought, t_before) else if x1 = 1 then some (y3, t_thrown, t_worth, t_choice, t_thought, t_before) else if x1 = 2 then some (y4, t_thrown, t_worth, t_choice, t_thought, t_before) else some (u13, t_thrown, t_worth, t_choice, t_thought, t_before))
def fX11_plan_b40 (t_now : Nat → Int32) (t_told : Nat → Int32) (t_one : Nat → Int32) (t_other : Nat → Int32) (t_forth : Nat → Int32) (t_cost : Nat → Int32) (t_broken : Nat → Int32) (t_away : Nat → Int32) (x1 : Int32) : Nat → Int32 → Int32 → Int32 → Int32 → (Nat → Int64) → (Nat → Int32) → (Nat → Int32) → (Nat → Int32) → Option (Int32 × Int32 × (Nat → Int64) × (Nat → Int32) × (Nat → Int32) × (Nat → Int32))
  | 0, _, _, _, _, _, _, _, _ => none
  | n + 1, y2, y3, y4, t_thrown, t_worth, t_choice, t_thought, t_before => if 40 ≤ y2 then fX11_plan_b108 t_told x1 y2 y3 y4 t_thrown t_worth t_choice t_thought t_before else (fX11_missingIn 10 t_told t_thought 0).bind (fun u20 => if u20 ≤ 0 then fX11_plan_b108 t_told x1 y2 y3 y4 t_thrown t_worth t_choice t_thought t_before else (fX11_bestFor 10 t_now t_told t_one t_other t_forth t_cost t_broken t_away t_worth t_choice t_thought ((t_now 0) + (y2 + 1)) 0).bind (fun u24 => (fX11_many u24.1).bind (fun u27 => (fX11_costOf t_told t_cost u24.1).bind (fun u30 => (fX11_calls t_told t_one t_other t_forth t_thought t_before u24.1).bind (fun u33 => (fX11_plan_b40 t_now t_told t_one t_other t_forth t_cost t_broken t_away x1 n) (y2 + 1) (y3 + u27) (y4 + u30) t_thrown u24.2.1 u24.2.2 u33.1 u33.2)))))
theorem fX11_plan_b40_0 (t_now : Nat → Int32) (t_told : Nat → Int32) (t_one : Nat → Int32) (t_other : Nat → Int32) (t_forth : Nat → Int32) (t_cost : Nat → Int32) (t_broken : Nat → Int32) (t_away : Nat → Int32) (x1 : Int32) (y2 : Int32) (y3 : Int32) (y4 : Int32) (t_thrown : Int32) (t_worth : Nat → Int64) (t_choice : Nat → Int32) (t_thought : Nat → Int32) (t_before : Nat → Int32) : fX11_plan_b40 t_now t_told t_one t_other t_forth t_cost t_broken t_away x1 0 y2 y3 y4 t_thrown t_worth t_choice t_thought t_before = none := rfl
theorem fX11_plan_b40_s (t_now : Nat → Int32) (t_told : Nat → Int32) (t_one : Nat → Int32) (t_other : Nat → Int32) (t_forth : Nat → Int32) (t_cost : Nat → Int32) (t_broken : Nat → Int32) (t_away : Nat → Int32) (x1 : Int32) (n : Nat) (y2 : Int32) (y3 : Int32) (y4 : Int32) (t_thrown : Int32) (t_worth : Nat → Int64) (t_choice : Nat → Int32) (t_thought : Nat → Int32) (t_before : Nat → Int32) : fX11_plan_b40 t_now t_told t_one t_other t_forth t_cost t_broken t_away x1 (n + 1) y2 y3 y4 t_thrown t_worth t_choice t_thought t_before = (if 40 ≤ y2 then fX11_plan_b108 t_told x1 y2 y3 y4 t_thrown t_worth t_choice t_thought t_before else (fX11_missingIn 10 t_told t_thought 0).bind (fun u20 => if u20 ≤ 0 then fX11_plan_b108 t_told x1 y2 y3 y4 t_thrown t_worth t_choice t_thought t_before else (fX11_bestFor 10 t_now t_told t_one t_other t_forth t_cost t_broken t_away t_worth t_choice t_thought ((t_now 0) + (y2 + 1)) 0).bind (fun u24 => (fX11_many u24.1).bind (fun u27 => (fX11_costOf t_told t_cost u24.1).bind (fun u30 => (fX11_calls t_told t_one t_other t_forth t_thought t_before u24.1).bind (fun u33 => (fX11_plan_b40 t_now t_told t_one t_other t_forth t_cost t_broken t_away x1 n) (y2 + 1) (y3 + u27) (y4 + u30) t_thrown u24.2.1 u24.2.2 u33.1 u33.2)))))) := rfl
def fX11_plan_b20 (t_now : Nat → Int32) (t_told : Nat → Int32) (t_one : Nat → Int32) (t_other : Nat → Int32) (t_forth : Nat → Int32) (t_cost : Nat → Int32) (t_broken : Nat → Int32) (t_away : Nat → Int32) (x1 : Int32) (s0 : Int32) (t_thrown : Int32) (t_worth : Nat → Int64) (t_choice : Nat → Int32) (t_thought : Nat → Int32) (t_before : Nat → Int32) : Option (Int32 × Int32 × (Nat → Int64) × (Nat → Int32) × (Nat → Int32) × (Nat → Int32)) := nm (fX11_throwsIf t_thrown s0 1) (fun u5 => if u5.1 = 0 then (fX11_thinks t_now t_told t_thought).bind (fun u9 => fX11_plan_b40 t_now t_told t_one t_other t_forth t_cost t_broken t_away x1 FU 0 0 0 u5.2 t_worth t_choice u9 t_before) else some (0, u5.2, t_worth, t_choice, t_thought, t_before))
def fX11_plan (t_now : Nat → Int32) (t_told : Nat → Int32) (t_one : Nat → Int32) (t_other : Nat → Int32) (t_forth : Nat → Int32) (t_cost : Nat → Int32) (t_broken : Nat → Int32) (t_away : Nat → Int32) (t_worth : Nat → Int64) (t_choice : Nat → Int32) (t_thought : Nat → Int32) (t_before : Nat → Int32) (x1 : Int32) : Option (Int32 × Int32 × (Nat → Int64) × (Nat → Int32) × (Nat → Int32) × (Nat → Int32)) := if (fX11_within x1 0 3) = 0 then fX11_plan_b20 t_now t_told t_one t_other t_forth t_cost t_broken t_away x1 1 0 t_worth t_choice t_thought t_before else fX11_plan_b20 t_now t_told t_one t_other t_forth t_cost t_broken t_away x1 0 0 t_worth t_choice t_thought t_before
set_option maxRecDepth 100000 in
set_option maxHeartbeats 4000000 in
theorem kX11_plan (l : Launch) (D : va_G) (cT : Nat → ClassId) (a_t : Nat) (a_t_now : Nat) (a_t_told : Nat) (a_t_one : Nat) (a_t_other : Nat) (a_t_forth : Nat) (a_t_cost : Nat) (a_t_broken : Nat) (a_t_away : Nat) (a_t_text : Nat) (a_t_worth : Nat) (a_t_choice : Nat) (a_t_thought : Nat) (a_t_before : Nat) (a_t_deep : Nat) (a_t_price : Nat) (a_t_undo : Nat) (a_t_slots : Nat) (a_t_isSaved : Nat) (t_thrown : Int32) (t_length : Int32) (t_textSize : Int32) (t_start : Int32) (t_next : Int32) (t_token : Int32) (t_value : Int32) (t_error : Int32) (t_errorAt : Int32) (t_number : Int32) (t_isFirst : Int32) (t_limitNow : Int32) (t_undos : Int32) (t_now : Nat → Int32) (t_told : Nat → Int32) (t_one : Nat → Int32) (t_other : Nat → Int32) (t_forth : Nat → Int32) (t_cost : Nat → Int32) (t_broken : Nat → Int32) (t_away : Nat → Int32) (t_worth : Nat → Int64) (t_choice : Nat → Int32) (t_thought : Nat → Int32) (t_before : Nat → Int32) (x1 : Int32) (r : Int32 × Int32 × (Nat → Int64) × (Nat → Int32) × (Nat → Int32) × (Nat → Int32)) (h : fX11_plan t_now t_told t_one t_other t_forth t_cost t_broken t_away t_worth t_choice t_thought t_before x1 = some r) : sM l yX11_plan cX11_plan 6 (some .int) (zR 5) D cT [.ref a_t, .int x1] [(a_t, .inr (11, [.int t_thrown, .ref a_t_now, .ref a_t_told, .ref a_t_one, .ref a_t_other, .ref a_t_forth, .ref a_t_cost, .ref a_t_broken, .ref a_t_away, .ref a_t_text, .int t_length, .int t_textSize, .int t_start, .int t_next, .int t_token, .int t_value, .int t_error, .int t_errorAt, .int t_number, .int t_isFirst, .ref a_t_worth, .ref a_t_choice, .ref a_t_thought, .ref a_t_before, .ref a_t_deep, .int t_limitNow, .ref a_t_price, .int t_undos, .ref a_t_undo, .ref a_t_slots, .ref a_t_isSaved])), (a_t_now, .inl (cT 0, 514, .inl t_now)), (a_t_told, .inl (cT 0, 8, .inl t_told)), (a_t_one, .inl (cT 0, 48, .inl t_one)), (a_t_other, .inl (cT 0, 48, .inl t_other)), (a_t_forth, .inl (cT 0, 48, .inl t_forth)), (a_t_cost, .inl (cT 0, 48, .inl t_cost)), (a_t_broken, .inl (cT 0, 72, .inl t_broken)), (a_t_away, .inl (cT 0, 72, .inl t_away)), (a_t_worth, .inl (cT 1, 1024, .inr (.inl t_worth))), (a_t_choice, .inl (cT 0, 1024, .inl t_choice)), (a_t_thought, .inl (cT 0, 10, .inl t_thought)), (a_t_before, .inl (cT 0, 10, .inl t_before))] (some (.int r.1)) [(a_t, .inr (11, [.int r.2.1, .ref a_t_now, .ref a_t_told, .ref a_t_one, .ref a_t_other, .ref a_t_forth, .ref a_t_cost, .ref a_t_broken, .ref a_t_away, .ref a_t_text, .int t_length, .int t_textSize, .int t_start, .int t_next, .int t_token, .int t_value, .int t_error, .int t_errorAt, .int t_number, .int t_isFirst, .ref a_t_worth, .ref a_t_choice, .ref a_t_thought, .ref a_t_before, .ref a_t_deep, .int t_limitNow, .ref a_t_price, .int t_undos, .ref a_t_undo, .ref a_t_slots, .ref a_t_isSaved])), (a_t_now, .inl (cT 0, 514, .inl t_now)), (a_t_told, .inl (cT 0, 8, .inl t_told)), (a_t_one, .inl (cT 0, 48, .inl t_one)), (a_t_other, .inl (cT 0, 48, .inl t_other)), (a_t_forth, .inl (cT 0, 48, .inl t_forth)), (a_t_cost, .inl (cT 0, 48, .inl t_cost)), (a_t_broken, .inl (cT 0, 72, .inl t_broken)), (a_t_away, .inl (cT 0, 72, .inl t_away)), (a_t_worth, .inl (cT 1, 1024, .inr (.inl r.2.2.1))), (a_t_choice, .inl (cT 0, 1024, .inl r.2.2.2.1)), (a_t_thought, .inl (cT 0, 10, .inl r.2.2.2.2.1)), (a_t_before, .inl (cT 0, 10, .inl r.2.2.2.2.2))] := by
  refine sM_int rfl (Nat.le_of_ble_eq_true rfl) ?_
  intro X C hE
  have B108 : ∀ (y2 : Int32) (y3 : Int32) (y4 : Int32) (t_thrown : Int32) (t_worth : Nat → Int64) (t_choice : Nat → Int32) (t_thought : Nat → Int32) (t_before : Nat → Int32), fX11_plan_b108 t_told x1 y2 y3 y4 t_thrown t_worth t_choice t_thought t_before = some r → sW X l (zR 5) D 6 0 0 108 [(0, .ref a_t), (1, .int x1), (2, .int y2), (3, .int y3), (4, .int y4)] [] [(a_t, .inr (11, [.int t_thrown, .ref a_t_now, .ref a_t_told, .ref a_t_one, .ref a_t_other, .ref a_t_forth, .ref a_t_cost, .ref a_t_broken, .ref a_t_away, .ref a_t_text, .int t_length, .int t_textSize, .int t_start, .int t_next, .int t_token, .int t_value, .int t_error, .int t_errorAt, .int t_number, .int t_isFirst, .ref a_t_worth, .ref a_t_choice, .ref a_t_thought, .ref a_t_before, .ref a_t_deep, .int t_limitNow, .ref a_t_price, .int t_undos, .ref a_t_undo, .ref a_t_slots, .ref a_t_isSaved])), (a_t_now, .inl (cT 0, 514, .inl t_now)), (a_t_told, .inl (cT 0, 8, .inl t_told)), (a_t_one, .inl (cT 0, 48, .inl t_one)), (a_t_other, .inl (cT 0, 48, .inl t_other)), (a_t_forth, .inl (cT 0, 48, .inl t_forth)), (a_t_cost, .inl (cT 0, 48, .inl t_cost)), (a_t_broken, .inl (cT 0, 72, .inl t_broken)), (a_t_away, .inl (cT 0, 72, .inl t_away)), (a_t_worth, .inl (cT 1, 1024, .inr (.inl t_worth))), (a_t_choice, .inl (cT 0, 1024, .inl t_choice)), (a_t_thought, .inl (cT 0, 10, .inl t_thought)), (a_t_before, .inl (cT 0, 10, .inl t_before))] := by
    intro y2 y3 y4 t_thrown t_worth t_choice t_thought t_before h
    refine xi_aload_n C 0 dX11_plan_108 rfl ?_
    refine xi_aload_n C 0 dX11_plan_109 rfl ?_
    refine xi_get C zkX11 22 0 zlX11_49 (by decide) rfl rfl dX11_plan_110 ?_
    refine xi_iconst C (v := 0) dX11_plan_113 rfl ?_
    replace h := ob h
    obtain ⟨u13, hu14, h⟩ := h
    refine xi_callVr C (kX11_missingIn l D cT a_t a_t_now a_t_told a_t_one a_t_other a_t_forth a_t_cost a_t_broken a_t_away a_t_text a_t_worth a_t_choice a_t_thought a_t_before a_t_deep a_t_price a_t_undo a_t_slots a_t_isSaved a_t_thought 10 t_thrown t_length t_textSize t_start t_next t_token t_value t_error t_errorAt t_number t_isFirst t_limitNow t_undos t_told t_thought 0 u13 hu14) zcX11_missingIn zmX11_220 ziX11_missingIn (zr rfl rfl) z00 rfl [0, 2, 11] rfl rfl zkX11.1 (qr := 0) rfl rfl (Nat.le_of_ble_eq_true rfl) dX11_plan_114 (fun z15 => ?_)
    refine xi_istore C [1, 2, 3, 4, 5, 0] (L2 := [(0, .ref a_t), (1, .int x1), (2, .int y2), (3, .int y3), (4, .int y4), (5, .int u13)]) dX11_plan_117 (Nat.le_of_ble_eq_true rfl) rfl ?_
    refine xi_iload_n C 1 dX11_plan_119 rfl ?_
    refine xi_if_ne C (tgt := 136) dX11_plan_120 rfl (fun c16 => ?_) (fun c16 => ?_)
    · replace h := (if_neg c16).symm.trans h
      refine xi_iload_n C 1 dX11_plan_136 rfl ?_
      refine xi_iconst C (v := 1) dX11_plan_137 rfl ?_
      refine xi_icmp_ne C (tgt := 145) dX11_plan_138 rfl (fun c17 => ?_) (fun c17 => ?_)
      · replace h := (if_neg c17).symm.trans h
        refine xi_iload_n C 1 dX11_plan_145 rfl ?_
        refine xi_iconst C (v := 2) dX11_plan_146 rfl ?_
        refine xi_icmp_ne C (tgt := 155) dX11_plan_147 rfl (fun c18 => ?_) (fun c18 => ?_)
        · replace h := (if_neg c18).symm.trans h
          refine xi_iload C 5 dX11_plan_155 rfl ?_
          obtain rfl := Option.some.inj h
          exact hE _ _ _ dX11_plan_157 rfl
        · replace h := (if_pos c18).symm.trans h
          refine xi_iload C 4 dX11_plan_150 rfl ?_
          refine xi_goto C (tgt := 157) dX11_plan_152 rfl ?_
          obtain rfl := Option.some.inj h
          exact hE _ _ _ dX11_plan_157 rfl
      · replace h := (if_pos c17).symm.trans h
        refine xi_iload_n C 3 dX11_plan_141 rfl ?_
        refine xi_goto C (tgt := 157) dX11_plan_142 rfl ?_
        obtain rfl := Option.some.inj h
        exact hE _ _ _ dX11_plan_157 rfl
    · replace h := (if_pos c16).symm.trans h
      refine xi_iload C 5 dX11_plan_123 rfl ?_
      refine xi_if_le C (tgt := 132) dX11_plan_125 rfl (fun c19 => ?_) (fun c19 => ?_)
      · replace h := (if_pos c19).symm.trans h
        refine xi_iload_n C 2 dX11_plan_132 rfl ?_
        refine xi_goto C (tgt := 157) dX11_plan_133 rfl ?_
        obtain rfl := Option.some.inj h
        exact hE _ _ _ dX11_plan_157 rfl
      · replace h := (if_neg c19).symm.trans h
        refine xi_iconst C (v := (-1)) dX11_plan_128 rfl ?_
        refine xi_goto C (tgt := 157) dX11_plan_129 rfl ?_
        obtain rfl := Option.some.inj h
        exact hE _ _ _ dX11_plan_157 rfl
  have B40 : ∀ (n : Nat) (y2 : Int32) (y3 : Int32) (y4 : Int32) (t_thrown : Int32) (t_worth : Nat → Int64) (t_choice : Nat → Int32) (t_thought : Nat → Int32) (t_before : Nat → Int32), fX11_plan_b40 t_now t_told t_one t_other t_forth t_cost t_broken t_away x1 n y2 y3 y4 t_thrown t_worth t_choice t_thought t_before = some r → sW X l (zR 5) D 6 0 0 40 [(0, .ref a_t), (1, .int x1), (2, .int y2), (3, .int y3), (4, .int y4)] [] [(a_t, .inr (11, [.int t_thrown, .ref a_t_now, .ref a_t_told, .ref a_t_one, .ref a_t_other, .ref a_t_forth, .ref a_t_cost, .ref a_t_broken, .ref a_t_away, .ref a_t_text, .int t_length, .int t_textSize, .int t_start, .int t_next, .int t_token, .int t_value, .int t_error, .int t_errorAt, .int t_number, .int t_isFirst, .ref a_t_worth, .ref a_t_choice, .ref a_t_thought, .ref a_t_before, .ref a_t_deep, .int t_limitNow, .ref a_t_price, .int t_undos, .ref a_t_undo, .ref a_t_slots, .ref a_t_isSaved])), (a_t_now, .inl (cT 0, 514, .inl t_now)), (a_t_told, .inl (cT 0, 8, .inl t_told)), (a_t_one, .inl (cT 0, 48, .inl t_one)), (a_t_other, .inl (cT 0, 48, .inl t_other)), (a_t_forth, .inl (cT 0, 48, .inl t_forth)), (a_t_cost, .inl (cT 0, 48, .inl t_cost)), (a_t_broken, .inl (cT 0, 72, .inl t_broken)), (a_t_away, .inl (cT 0, 72, .inl t_away)), (a_t_worth, .inl (cT 1, 1024, .inr (.inl t_worth))), (a_t_choice, .inl (cT 0, 1024, .inl t_choice)), (a_t_thought, .inl (cT 0, 10, .inl t_thought)), (a_t_before, .inl (cT 0, 10, .inl t_before))] := by
    intro n
    induction n with
    | zero =>
      intro y2 y3 y4 t_thrown t_worth t_choice t_thought t_before h
      exact zno ((fX11_plan_b40_0 _ _ _ _ _ _ _ _ _ _ _ _ _ _ _ _ _).symm.trans h)
    | succ n ih =>
      intro y2 y3 y4 t_thrown t_worth t_choice t_thought t_before h
      replace h := (fX11_plan_b40_s _ _ _ _ _ _ _ _ _ _ _ _ _ _ _ _ _ _).symm.trans h
      refine xi_iload_n C 2 dX11_plan_40 rfl ?_
      refine xi_bipush C (v := 40) dX11_plan_41 rfl ?_
      refine xi_icmp_ge C (tgt := 108) dX11_plan_43 rfl (fun c12 => ?_) (fun c12 => ?_)
      · replace h := (if_pos c12).symm.trans h
        exact B108 y2 y3 y4 t_thrown t_worth t_choice t_thought t_before h
      · replace h := (if_neg c12).symm.trans h
        refine xi_aload_n C 0 dX11_plan_46 rfl ?_
        refine xi_aload_n C 0 dX11_plan_47 rfl ?_
        refine xi_get C zkX11 22 0 zlX11_49 (by decide) rfl rfl dX11_plan_48 ?_
        refine xi_iconst C (v := 0) dX11_plan_51 rfl ?_
        replace h := ob h
        obtain ⟨u20, hu21, h⟩ := h
        refine xi_callVr C (kX11_missingIn l D cT a_t a_t_now a_t_told a_t_one a_t_other a_t_forth a_t_cost a_t_broken a_t_away a_t_text a_t_worth a_t_choice a_t_thought a_t_before a_t_deep a_t_price a_t_undo a_t_slots a_t_isSaved a_t_thought 10 t_thrown t_length t_textSize t_start t_next t_token t_value t_error t_errorAt t_number t_isFirst t_limitNow t_undos t_told t_thought 0 u20 hu21) zcX11_missingIn zmX11_220 ziX11_missingIn (zr rfl rfl) z00 rfl [0, 2, 11] rfl rfl zkX11.1 (qr := 0) rfl rfl (Nat.le_of_ble_eq_true rfl) dX11_plan_52 (fun z22 => ?_)
        refine xi_if_le C (tgt := 108) dX11_plan_55 rfl (fun c23 => ?_) (fun c23 => ?_)
        · replace h := (if_pos c23).symm.trans h
          exact B108 y2 y3 y4 t_thrown t_worth t_choice t_thought t_before h
        · replace h := (if_neg c23).symm.trans h
          refine xi_iinc C (v := y2 + 1) 2 [1, 2, 0, 3, 4] (L2 := [(0, .ref a_t), (1, .int x1), (2, .int (y2 + 1)), (3, .int y3), (4, .int y4)]) dX11_plan_58 rfl rfl (Nat.le_of_ble_eq_true rfl) rfl ?_
          refine xi_aload_n C 0 dX11_plan_61 rfl ?_
          refine xi_aload_n C 0 dX11_plan_62 rfl ?_
          refine xi_get C zkX11 1 0 zlX11_7 (by decide) rfl rfl dX11_plan_63 ?_
          refine xi_iconst C (v := 0) dX11_plan_66 rfl ?_
          refine xi_iald C 1 rfl (zv (by decide)) dX11_plan_67 ?_
          refine xi_iload_n C 2 dX11_plan_68 rfl ?_
          refine xi_iadd C dX11_plan_69 ?_
          refine xi_aload_n C 0 dX11_plan_70 rfl ?_
          refine xi_get C zkX11 22 0 zlX11_49 (by decide) rfl rfl dX11_plan_71 ?_
          refine xi_iconst C (v := 0) dX11_plan_74 rfl ?_
          replace h := ob h
          obtain ⟨u24, hu25, h⟩ := h
          refine xi_callV C (kX11_bestFor l D cT a_t a_t_now a_t_told a_t_one a_t_other a_t_forth a_t_cost a_t_broken a_t_away a_t_text a_t_worth a_t_choice a_t_thought a_t_before a_t_deep a_t_price a_t_undo a_t_slots a_t_isSaved a_t_thought 10 t_thrown t_length t_textSize t_start t_next t_token t_value t_error t_errorAt t_number t_isFirst t_limitNow t_undos t_now t_told t_one t_other t_forth t_cost t_broken t_away t_worth t_choice t_thought ((t_now 0) + (y2 + 1)) 0 u24 hu25) zcX11_bestFor zmX11_237 ziX11_bestFor (zr rfl rfl) z00 rfl [0, 1, 2, 3, 4, 5, 6, 7, 8, 9, 10, 11] rfl rfl rfl [some 0, some 1, some 2, some 3, some 4, some 5, some 6, some 7, some 8, some 9, some 10, some 11, none] (by decide +kernel) (ws2 := [(a_t, .inr (11, [.int t_thrown, .ref a_t_now, .ref a_t_told, .ref a_t_one, .ref a_t_other, .ref a_t_forth, .ref a_t_cost, .ref a_t_broken, .ref a_t_away, .ref a_t_text, .int t_length, .int t_textSize, .int t_start, .int t_next, .int t_token, .int t_value, .int t_error, .int t_errorAt, .int t_number, .int t_isFirst, .ref a_t_worth, .ref a_t_choice, .ref a_t_thought, .ref a_t_before, .ref a_t_deep, .int t_limitNow, .ref a_t_price, .int t_undos, .ref a_t_undo, .ref a_t_slots, .ref a_t_isSaved])), (a_t_now, .inl (cT 0, 514, .inl t_now)), (a_t_told, .inl (cT 0, 8, .inl t_told)), (a_t_one, .inl (cT 0, 48, .inl t_one)), (a_t_other, .inl (cT 0, 48, .inl t_other)), (a_t_forth, .inl (cT 0, 48, .inl t_forth)), (a_t_cost, .inl (cT 0, 48, .inl t_cost)), (a_t_broken, .inl (cT 0, 72, .inl t_broken)), (a_t_away, .inl (cT 0, 72, .inl t_away)), (a_t_worth, .inl (cT 1, 1024, .inr (.inl u24.2.1))), (a_t_choice, .inl (cT 0, 1024, .inl u24.2.2)), (a_t_thought, .inl (cT 0, 10, .inl t_thought)), (a_t_before, .inl (cT 0, 10, .inl t_before))]) rfl zkX11.1 (qr := 0) rfl rfl (Nat.le_of_ble_eq_true rfl) dX11_plan_75 (fun z26 => ?_)
          refine xi_istore C [1, 2, 3, 4, 5, 0] (L2 := [(0, .ref a_t), (1, .int x1), (2, .int (y2 + 1)), (3, .int y3), (4, .int y4), (5, .int u24.1)]) dX11_plan_78 (Nat.le_of_ble_eq_true rfl) rfl ?_
          refine xi_iload_n C 3 dX11_plan_80 rfl ?_
          refine xi_iload C 5 dX11_plan_81 rfl ?_
          replace h := ob h
          obtain ⟨u27, hu28, h⟩ := h
          refine xi_callSr C (kX11_many l D cT u24.1 u27 hu28) zcX11_many zmX11_192 zsX11_many (zr rfl rfl) z00 rfl [] rfl rfl rfl (Nat.le_of_ble_eq_true rfl) dX11_plan_83 (fun z29 => ?_)
          refine xi_iadd C dX11_plan_86 ?_
          refine xi_istore_n C [1, 2, 3, 0, 4, 5] (L2 := [(0, .ref a_t), (1, .int x1), (2, .int (y2 + 1)), (3, .int (y3 + u27)), (4, .int y4), (5, .int u24.1)]) dX11_plan_87 (Nat.le_of_ble_eq_true rfl) rfl ?_
          refine xi_iload C 4 dX11_plan_88 rfl ?_
          refine xi_aload_n C 0 dX11_plan_90 rfl ?_
          refine xi_iload C 5 dX11_plan_91 rfl ?_
          replace h := ob h
          obtain ⟨u30, hu31, h⟩ := h
          refine xi_callVr C (kX11_costOf l D cT a_t a_t_now a_t_told a_t_one a_t_other a_t_forth a_t_cost a_t_broken a_t_away a_t_text a_t_worth a_t_choice a_t_thought a_t_before a_t_deep a_t_price a_t_undo a_t_slots a_t_isSaved t_thrown t_length t_textSize t_start t_next t_token t_value t_error t_errorAt t_number t_isFirst t_limitNow t_undos t_told t_cost u24.1 u30 hu31) zcX11_costOf zmX11_243 ziX11_costOf (zr rfl rfl) z00 rfl [0, 2, 6] rfl rfl zkX11.1 (qr := 0) rfl rfl (Nat.le_of_ble_eq_true rfl) dX11_plan_93 (fun z32 => ?_)
          refine xi_iadd C dX11_plan_96 ?_
          refine xi_istore C [1, 2, 3, 4, 0, 5] (L2 := [(0, .ref a_t), (1, .int x1), (2, .int (y2 + 1)), (3, .int (y3 + u27)), (4, .int (y4 + u30)), (5, .int u24.1)]) dX11_plan_97 (Nat.le_of_ble_eq_true rfl) rfl ?_
          refine xi_aload_n C 0 dX11_plan_99 rfl ?_
          refine xi_iload C 5 dX11_plan_100 rfl ?_
          replace h := ob h
          obtain ⟨u33, hu34, h⟩ := h
          refine xi_callV C (kX11_calls l D cT a_t a_t_now a_t_told a_t_one a_t_other a_t_forth a_t_cost a_t_broken a_t_away a_t_text a_t_worth a_t_choice a_t_thought a_t_before a_t_deep a_t_price a_t_undo a_t_slots a_t_isSaved t_thrown t_length t_textSize t_start t_next t_token t_value t_error t_errorAt t_number t_isFirst t_limitNow t_undos t_told t_one t_other t_forth t_thought t_before u24.1 u33 hu34) zcX11_calls zmX11_249 ziX11_calls (zr rfl rfl) z00 rfl [0, 2, 3, 4, 5, 11, 12] rfl rfl rfl [some 0, none, some 1, some 2, some 3, some 4, none, none, none, none, none, some 5, some 6] (by decide +kernel) (ws2 := [(a_t, .inr (11, [.int t_thrown, .ref a_t_now, .ref a_t_told, .ref a_t_one, .ref a_t_other, .ref a_t_forth, .ref a_t_cost, .ref a_t_broken, .ref a_t_away, .ref a_t_text, .int t_length, .int t_textSize, .int t_start, .int t_next, .int t_token, .int t_value, .int t_error, .int t_errorAt, .int t_number, .int t_isFirst, .ref a_t_worth, .ref a_t_choice, .ref a_t_thought, .ref a_t_before, .ref a_t_deep, .int t_limitNow, .ref a_t_price, .int t_undos, .ref a_t_undo, .ref a_t_slots, .ref a_t_isSaved])), (a_t_now, .inl (cT 0, 514, .inl t_now)), (a_t_told, .inl (cT 0, 8, .inl t_told)), (a_t_one, .inl (cT 0, 48, .inl t_one)), (a_t_other, .inl (cT 0, 48, .inl t_other)), (a_t_forth, .inl (cT 0, 48, .inl t_forth)), (a_t_cost, .inl (cT 0, 48, .inl t_cost)), (a_t_broken, .inl (cT 0, 72, .inl t_broken)), (a_t_away, .inl (cT 0, 72, .inl t_away)), (a_t_worth, .inl (cT 1, 1024, .inr (.inl u24.2.1))), (a_t_choice, .inl (cT 0, 1024, .inl u24.2.2)), (a_t_thought, .inl (cT 0, 10, .inl u33.1)), (a_t_before, .inl (cT 0, 10, .inl u33.2))]) rfl zkX11.1 (qr := 0) rfl rfl (Nat.le_of_ble_eq_true rfl) dX11_plan_102 (fun z35 => ?_)
          refine xi_goto C (tgt := 40) dX11_plan_105 rfl ?_
          refine xi_drop (L2 := [(0, .ref a_t), (1, .int x1), (2, .int (y2 + 1)), (3, .int (y3 + u27)), (4, .int (y4 + u30))]) [0, 1, 2, 3, 4] rfl ?_
          exact ih (y2 + 1) (y3 + u27) (y4 + u30) t_thrown u24.2.1 u24.2.2 u33.1 u33.2 h
  have B20 : ∀ (s0 : Int32) (t_thrown : Int32) (t_worth : Nat → Int64) (t_choice : Nat → Int32) (t_thought : Nat → Int32) (t_before : Nat → Int32), fX11_plan_b20 t_now t_told t_one t_other t_forth t_cost t_broken t_away x1 s0 t_thrown t_worth t_choice t_thought t_before = some r → sW X l (zR 5) D 6 0 0 20 [(0, .ref a_t), (1, .int x1)] [.int s0, .ref a_t] [(a_t, .inr (11, [.int t_thrown, .ref a_t_now, .ref a_t_told, .ref a_t_one, .ref a_t_other, .ref a_t_forth, .ref a_t_cost, .ref a_t_broken, .ref a_t_away, .ref a_t_text, .int t_length, .int t_textSize, .int t_start, .int t_next, .int t_token, .int t_value, .int t_error, .int t_errorAt, .int t_number, .int t_isFirst, .ref a_t_worth, .ref a_t_choice, .ref a_t_thought, .ref a_t_before, .ref a_t_deep, .int t_limitNow, .ref a_t_price, .int t_undos, .ref a_t_undo, .ref a_t_slots, .ref a_t_isSaved])), (a_t_now, .inl (cT 0, 514, .inl t_now)), (a_t_told, .inl (cT 0, 8, .inl t_told)), (a_t_one, .inl (cT 0, 48, .inl t_one)), (a_t_other, .inl (cT 0, 48, .inl t_other)), (a_t_forth, .inl (cT 0, 48, .inl t_forth)), (a_t_cost, .inl (cT 0, 48, .inl t_cost)), (a_t_broken, .inl (cT 0, 72, .inl t_broken)), (a_t_away, .inl (cT 0, 72, .inl t_away)), (a_t_worth, .inl (cT 1, 1024, .inr (.inl t_worth))), (a_t_choice, .inl (cT 0, 1024, .inl t_choice)), (a_t_thought, .inl (cT 0, 10, .inl t_thought)), (a_t_before, .inl (cT 0, 10, .inl t_before))] := by
    intro s0 t_thrown t_worth t_choice t_thought t_before h
    refine xi_iconst C (v := 1) dX11_plan_20 rfl ?_
    obtain ⟨u5, hu6⟩ : ∃ z, z = fX11_throwsIf t_thrown s0 1 := ⟨_, rfl⟩
    replace h := nmE hu6 h
    refine xi_callV C (kX11_throwsIf l D cT a_t a_t_now a_t_told a_t_one a_t_other a_t_forth a_t_cost a_t_broken a_t_away a_t_text a_t_worth a_t_choice a_t_thought a_t_before a_t_deep a_t_price a_t_undo a_t_slots a_t_isSaved t_thrown t_length t_textSize t_start t_next t_token t_value t_error t_errorAt t_number t_isFirst t_limitNow t_undos s0 1 u5 hu6.symm) zcX11_throwsIf zmX11_176 ziX11_throwsIf (zr rfl rfl) z00 rfl [0] rfl rfl rfl [some 0, none, none, none, none, none, none, none, none, none, none, none, none] (by decide +kernel) (ws2 := [(a_t, .inr (11, [.int u5.2, .ref a_t_now, .ref a_t_told, .ref a_t_one, .ref a_t_other, .ref a_t_forth, .ref a_t_cost, .ref a_t_broken, .ref a_t_away, .ref a_t_text, .int t_length, .int t_textSize, .int t_start, .int t_next, .int t_token, .int t_value, .int t_error, .int t_errorAt, .int t_number, .int t_isFirst, .ref a_t_worth, .ref a_t_choice, .ref a_t_thought, .ref a_t_before, .ref a_t_deep, .int t_limitNow, .ref a_t_price, .int t_undos, .ref a_t_undo, .ref a_t_slots, .ref a_t_isSaved])), (a_t_now, .inl (cT 0, 514, .inl t_now)), (a_t_told, .inl (cT 0, 8, .inl t_told)), (a_t_one, .inl (cT 0, 48, .inl t_one)), (a_t_other, .inl (cT 0, 48, .inl t_other)), (a_t_forth, .inl (cT 0, 48, .inl t_forth)), (a_t_cost, .inl (cT 0, 48, .inl t_cost)), (a_t_broken, .inl (cT 0, 72, .inl t_broken)), (a_t_away, .inl (cT 0, 72, .inl t_away)), (a_t_worth, .inl (cT 1, 1024, .inr (.inl t_worth))), (a_t_choice, .inl (cT 0, 1024, .inl t_choice)), (a_t_thought, .inl (cT 0, 10, .inl t_thought)), (a_t_before, .inl (cT 0, 10, .inl t_before))]) rfl zkX11.1 (qr := 0) rfl rfl (Nat.le_of_ble_eq_true rfl) dX11_plan_21 (fun z7 => ?_)
    refine xi_if_eq C (tgt := 29) dX11_plan_24 rfl (fun c8 => ?_) (fun c8 => ?_)
    · replace h := (if_pos c8).symm.trans h
      refine xi_aload_n C 0 dX11_plan_29 rfl ?_
      replace h := ob h
      obtain ⟨u9, hu10, h⟩ := h
      refine xi_callV C (kX11_thinks l D cT a_t a_t_now a_t_told a_t_one a_t_other a_t_forth a_t_cost a_t_broken a_t_away a_t_text a_t_worth a_t_choice a_t_thought a_t_before a_t_deep a_t_price a_t_undo a_t_slots a_t_isSaved u5.2 t_length t_textSize t_start t_next t_token t_value t_error t_errorAt t_number t_isFirst t_limitNow t_undos t_now t_told t_thought u9 hu10) zcX11_thinks zmX11_246 ziX11_thinks (zr rfl rfl) z00 rfl [0, 1, 2, 11] rfl rfl rfl [some 0, some 1, some 2, none, none, none, none, none, none, none, none, some 3, none] (by decide +kernel) (ws2 := [(a_t, .inr (11, [.int u5.2, .ref a_t_now, .ref a_t_told, .ref a_t_one, .ref a_t_other, .ref a_t_forth, .ref a_t_cost, .ref a_t_broken, .ref a_t_away, .ref a_t_text, .int t_length, .int t_textSize, .int t_start, .int t_next, .int t_token, .int t_value, .int t_error, .int t_errorAt, .int t_number, .int t_isFirst, .ref a_t_worth, .ref a_t_choice, .ref a_t_thought, .ref a_t_before, .ref a_t_deep, .int t_limitNow, .ref a_t_price, .int t_undos, .ref a_t_undo, .ref a_t_slots, .ref a_t_isSaved])), (a_t_now, .inl (cT 0, 514, .inl t_now)), (a_t_told, .inl (cT 0, 8, .inl t_told)), (a_t_one, .inl (cT 0, 48, .inl t_one)), (a_t_other, .inl (cT 0, 48, .inl t_other)), (a_t_forth, .inl (cT 0, 48, .inl t_forth)), (a_t_cost, .inl (cT 0, 48, .inl t_cost)), (a_t_broken, .inl (cT 0, 72, .inl t_broken)), (a_t_away, .inl (cT 0, 72, .inl t_away)), (a_t_worth, .inl (cT 1, 1024, .inr (.inl t_worth))), (a_t_choice, .inl (cT 0, 1024, .inl t_choice)), (a_t_thought, .inl (cT 0, 10, .inl u9)), (a_t_before, .inl (cT 0, 10, .inl t_before))]) rfl zkX11.1 (qr := 0) rfl rfl (Nat.le_of_ble_eq_true rfl) dX11_plan_30 (fun z11 => ?_)
      refine xi_iconst C (v := 0) dX11_plan_33 rfl ?_
      refine xi_istore_n C [1, 2, 0] (L2 := [(0, .ref a_t), (1, .int x1), (2, .int 0)]) dX11_plan_34 (Nat.le_of_ble_eq_true rfl) rfl ?_
      refine xi_iconst C (v := 0) dX11_plan_35 rfl ?_
      refine xi_istore_n C [1, 2, 3, 0] (L2 := [(0, .ref a_t), (1, .int x1), (2, .int 0), (3, .int 0)]) dX11_plan_36 (Nat.le_of_ble_eq_true rfl) rfl ?_
      refine xi_iconst C (v := 0) dX11_plan_37 rfl ?_
      refine xi_istore C [1, 2, 3, 4, 0] (L2 := [(0, .ref a_t), (1, .int x1), (2, .int 0), (3, .int 0), (4, .int 0)]) dX11_plan_38 (Nat.le_of_ble_eq_true rfl) rfl ?_
      exact B40 FU 0 0 0 u5.2 t_worth t_choice u9 t_before h
    · replace h := (if_neg c8).symm.trans h
      refine xi_iconst C (v := 0) dX11_plan_27 rfl ?_
      obtain rfl := Option.some.inj h
      exact hE _ _ _ dX11_plan_28 rfl
  refine xi_drop (L2 := [(0, .ref a_t), (1, .int x1)]) [0, 1] rfl ?_
  refine xi_aload_n C 0 dX11_plan_0 rfl ?_
  refine xi_iconst C (v := 0) dX11_plan_1 rfl ?_
  refine xi_put C zkX11 0 0 zlX11_80 (by decide) rfl rfl rfl rfl (Nat.le_of_ble_eq_true rfl) dX11_plan_2 (ws2 := [(a_t, .inr (11, [.int 0, .ref a_t_now, .ref a_t_told, .ref a_t_one, .ref a_t_other, .ref a_t_forth, .ref a_t_cost, .ref a_t_broken, .ref a_t_away, .ref a_t_text, .int t_length, .int t_textSize, .int t_start, .int t_next, .int t_token, .int t_value, .int t_error, .int t_errorAt, .int t_number, .int t_isFirst, .ref a_t_worth, .ref a_t_choice, .ref a_t_thought, .ref a_t_before, .ref a_t_deep, .int t_limitNow, .ref a_t_price, .int t_undos, .ref a_t_undo, .ref a_t_slots, .ref a_t_isSaved])), (a_t_now, .inl (cT 0, 514, .inl t_now)), (a_t_told, .inl (cT 0, 8, .inl t_told)), (a_t_one, .inl (cT 0, 48, .inl t_one)), (a_t_other, .inl (cT 0, 48, .inl t_other)), (a_t_forth, .inl (cT 0, 48, .inl t_forth)), (a_t_cost, .inl (cT 0, 48, .inl t_cost)), (a_t_broken, .inl (cT 0, 72, .inl t_broken)), (a_t_away, .inl (cT 0, 72, .inl t_away)), (a_t_worth, .inl (cT 1, 1024, .inr (.inl t_worth))), (a_t_choice, .inl (cT 0, 1024, .inl t_choice)), (a_t_thought, .inl (cT 0, 10, .inl t_thought)), (a_t_before, .inl (cT 0, 10, .inl t_before))]) rfl ?_
  refine xi_aload_n C 0 dX11_plan_5 rfl ?_
  refine xi_iload_n C 1 dX11_plan_6 rfl ?_
  refine xi_iconst C (v := 0) dX11_plan_7 rfl ?_
  refine xi_iconst C (v := 3) dX11_plan_8 rfl ?_
  refine xi_callSr C (kX11_within l D cT x1 0 3 (fX11_within x1 0 3) rfl) zcX11_within zmX11_113 zsX11_within (zr rfl rfl) z00 rfl [] rfl rfl rfl (Nat.le_of_ble_eq_true rfl) dX11_plan_9 (fun z3 => ?_)
  refine xi_if_ne C (tgt := 19) dX11_plan_12 rfl (fun c4 => ?_) (fun c4 => ?_)
  · replace h := (if_neg c4).symm.trans h
    refine xi_iconst C (v := 0) dX11_plan_19 rfl ?_
    exact B20 0 0 t_worth t_choice t_thought t_before h
  · replace h := (if_pos c4).symm.trans h
    refine xi_iconst C (v := 1) dX11_plan_15 rfl ?_
    refine xi_goto C (tgt := 20) dX11_plan_16 rfl ?_
    exact B20 1 0 t_worth t_choice t_thought t_before h
