def fX11_doublings_b46 (K9 : Int32 → Int32 → Int32 → Option (Int32 × Int32)) (y1 : Int32) (y2 : Int32) (y3 : Int32) (t_thrown : Int32) : Option (Int32 × Int32) := if y3 ≤ y1 then K9 y1 (y2 + 1) t_thrown else K9 y3 (y2 + 1) t_thrown
def fX11_doublings_b21 (t_now : Nat → Int32) (t_told : Nat → Int32) (K9 : Int32 → Int32 → Int32 → Option (Int32 × Int32)) : Nat → Int32 → Int32 → Int32 → Int32 → Option (Int32 × Int32)
  | 0, _, _, _, _ => none
  | n + 1, y1, y2, y3, t_thrown => (fX11_knowersOf t_now t_told y2).bind (fun u2 => (fX11_many u2).bind (fun u5 => if (t_told 0) ≤ (u5 <<< (y3 &&& 31)) then fX11_doublings_b46 K9 y1 y2 y3 t_thrown else (fX11_doublings_b21 t_now t_told K9 n) y1 y2 (y3 + 1) t_thrown))
theorem fX11_doublings_b21_0 (t_now : Nat → Int32) (t_told : Nat → Int32) (K9 : Int32 → Int32 → Int32 → Option (Int32 × Int32)) (y1 : Int32) (y2 : Int32) (y3 : Int32) (t_thrown : Int32) : fX11_doublings_b21 t_now t_told K9 0 y1 y2 y3 t_thrown = none := rfl
theorem fX11_doublings_b21_s (t_now : Nat → Int32) (t_told : Nat → Int32) (K9 : Int32 → Int32 → Int32 → Option (Int32 × Int32)) (n : Nat) (y1 : Int32) (y2 : Int32) (y3 : Int32) (t_thrown : Int32) : fX11_doublings_b21 t_now t_told K9 (n + 1) y1 y2 y3 t_thrown = ((fX11_knowersOf t_now t_told y2).bind (fun u2 => (fX11_many u2).bind (fun u5 => if (t_told 0) ≤ (u5 <<< (y3 &&& 31)) then fX11_doublings_b46 K9 y1 y2 y3 t_thrown else (fX11_doublings_b21 t_now t_told K9 n) y1 y2 (y3 + 1) t_thrown))) := rfl
def fX11_doublings_b9 (t_now : Nat → Int32) (t_told : Nat → Int32) : Nat → Int32 → Int32 → Int32 → Option (Int32 × Int32)
  | 0, _, _, _ => none
  | n + 1, y1, y2, t_thrown => if (t_told 0) ≤ y2 then some (y1, t_thrown) else fX11_doublings_b21 t_now t_told (fX11_doublings_b9 t_now t_told n) FU y1 y2 0 t_thrown
theorem fX11_doublings_b9_0 (t_now : Nat → Int32) (t_told : Nat → Int32) (y1 : Int32) (y2 : Int32) (t_thrown : Int32) : fX11_doublings_b9 t_now t_told 0 y1 y2 t_thrown = none := rfl
theorem fX11_doublings_b9_s (t_now : Nat → Int32) (t_told : Nat → Int32) (n : Nat) (y1 : Int32) (y2 : Int32) (t_thrown : Int32) : fX11_doublings_b9 t_now t_told (n + 1) y1 y2 t_thrown = (if (t_told 0) ≤ y2 then some (y1, t_thrown) else fX11_doublings_b21 t_now t_told (fX11_doublings_b9 t_now t_told n) FU y1 y2 0 t_thrown) := rfl
def fX11_doublings (t_now : Nat → Int32) (t_told : Nat → Int32) : Option (Int32 × Int32) := fX11_doublings_b9 t_now t_told FU 0 0 0
set_option maxRecDepth 100000 in
set_option maxHeartbeats 4000000 in
theorem kX11_doublings (l : Launch) (D : va_G) (cT : Nat → ClassId) (a_t : Nat) (a_t_now : Nat) (a_t_told : Nat) (a_t_one : Nat) (a_t_other : Nat) (a_t_forth : Nat) (a_t_cost : Nat) (a_t_broken : Nat) (a_t_away : Nat) (a_t_text : Nat) (a_t_worth : Nat) (a_t_choice : Nat) (a_t_thought : Nat) (a_t_before : Nat) (a_t_deep : Nat) (a_t_price : Nat) (a_t_undo : Nat) (a_t_slots : Nat) (a_t_isSaved : Nat) (t_thrown : Int32) (t_length : Int32) (t_textSize : Int32) (t_start : Int32) (t_next : Int32) (t_token : Int32) (t_value : Int32) (t_error : Int32) (t_errorAt : Int32) (t_number : Int32) (t_isFirst : Int32) (t_limitNow : Int32) (t_undos : Int32) (t_now : Nat → Int32) (t_told : Nat → Int32) (r : Int32 × Int32) (h : fX11_doublings t_now t_told = some r) : sM l yX11_doublings cX11_doublings 4 (some .int) (zR 4) D cT [.ref a_t] [(a_t, .inr (11, [.int t_thrown, .ref a_t_now, .ref a_t_told, .ref a_t_one, .ref a_t_other, .ref a_t_forth, .ref a_t_cost, .ref a_t_broken, .ref a_t_away, .ref a_t_text, .int t_length, .int t_textSize, .int t_start, .int t_next, .int t_token, .int t_value, .int t_error, .int t_errorAt, .int t_number, .int t_isFirst, .ref a_t_worth, .ref a_t_choice, .ref a_t_thought, .ref a_t_before, .ref a_t_deep, .int t_limitNow, .ref a_t_price, .int t_undos, .ref a_t_undo, .ref a_t_slots, .ref a_t_isSaved])), (a_t_now, .inl (cT 0, 514, .inl t_now)), (a_t_told, .inl (cT 0, 8, .inl t_told))] (some (.int r.1)) [(a_t, .inr (11, [.int r.2, .ref a_t_now, .ref a_t_told, .ref a_t_one, .ref a_t_other, .ref a_t_forth, .ref a_t_cost, .ref a_t_broken, .ref a_t_away, .ref a_t_text, .int t_length, .int t_textSize, .int t_start, .int t_next, .int t_token, .int t_value, .int t_error, .int t_errorAt, .int t_number, .int t_isFirst, .ref a_t_worth, .ref a_t_choice, .ref a_t_thought, .ref a_t_before, .ref a_t_deep, .int t_limitNow, .ref a_t_price, .int t_undos, .ref a_t_undo, .ref a_t_slots, .ref a_t_isSaved])), (a_t_now, .inl (cT 0, 514, .inl t_now)), (a_t_told, .inl (cT 0, 8, .inl t_told))] := by
  refine sM_int rfl (Nat.le_of_ble_eq_true rfl) ?_
  intro X C hE
  have B46 : ∀ (K9 : Int32 → Int32 → Int32 → Option (Int32 × Int32)) (hK9 : ∀ (y1 : Int32) (y2 : Int32) (t_thrown : Int32), K9 y1 y2 t_thrown = some r → sW X l (zR 4) D 4 0 0 9 [(0, .ref a_t), (1, .int y1), (2, .int y2)] [] [(a_t, .inr (11, [.int t_thrown, .ref a_t_now, .ref a_t_told, .ref a_t_one, .ref a_t_other, .ref a_t_forth, .ref a_t_cost, .ref a_t_broken, .ref a_t_away, .ref a_t_text, .int t_length, .int t_textSize, .int t_start, .int t_next, .int t_token, .int t_value, .int t_error, .int t_errorAt, .int t_number, .int t_isFirst, .ref a_t_worth, .ref a_t_choice, .ref a_t_thought, .ref a_t_before, .ref a_t_deep, .int t_limitNow, .ref a_t_price, .int t_undos, .ref a_t_undo, .ref a_t_slots, .ref a_t_isSaved])), (a_t_now, .inl (cT 0, 514, .inl t_now)), (a_t_told, .inl (cT 0, 8, .inl t_told))]) (y1 : Int32) (y2 : Int32) (y3 : Int32) (t_thrown : Int32), fX11_doublings_b46 K9 y1 y2 y3 t_thrown = some r → sW X l (zR 4) D 4 0 0 46 [(0, .ref a_t), (1, .int y1), (2, .int y2), (3, .int y3)] [] [(a_t, .inr (11, [.int t_thrown, .ref a_t_now, .ref a_t_told, .ref a_t_one, .ref a_t_other, .ref a_t_forth, .ref a_t_cost, .ref a_t_broken, .ref a_t_away, .ref a_t_text, .int t_length, .int t_textSize, .int t_start, .int t_next, .int t_token, .int t_value, .int t_error, .int t_errorAt, .int t_number, .int t_isFirst, .ref a_t_worth, .ref a_t_choice, .ref a_t_thought, .ref a_t_before, .ref a_t_deep, .int t_limitNow, .ref a_t_price, .int t_undos, .ref a_t_undo, .ref a_t_slots, .ref a_t_isSaved])), (a_t_now, .inl (cT 0, 514, .inl t_now)), (a_t_told, .inl (cT 0, 8, .inl t_told))] := by
    intro K9 hK9 y1 y2 y3 t_thrown h
    refine xi_iload_n C 3 dX11_doublings_46 rfl ?_
    refine xi_iload_n C 1 dX11_doublings_47 rfl ?_
    refine xi_icmp_le C (tgt := 55) dX11_doublings_48 rfl (fun c9 => ?_) (fun c9 => ?_)
    · replace h := (if_pos c9).symm.trans h
      refine xi_iload_n C 1 dX11_doublings_55 rfl ?_
      refine xi_istore_n C [1, 0, 2, 3] (L2 := [(0, .ref a_t), (1, .int y1), (2, .int y2), (3, .int y3)]) dX11_doublings_56 (Nat.le_of_ble_eq_true rfl) rfl ?_
      refine xi_iinc C (v := y2 + 1) 2 [1, 2, 0, 3] (L2 := [(0, .ref a_t), (1, .int y1), (2, .int (y2 + 1)), (3, .int y3)]) dX11_doublings_57 rfl rfl (Nat.le_of_ble_eq_true rfl) rfl ?_
      refine xi_goto C (tgt := 9) dX11_doublings_60 rfl ?_
      refine xi_drop (L2 := [(0, .ref a_t), (1, .int y1), (2, .int (y2 + 1))]) [0, 1, 2] rfl ?_
      exact hK9 y1 (y2 + 1) t_thrown h
    · replace h := (if_neg c9).symm.trans h
      refine xi_iload_n C 3 dX11_doublings_51 rfl ?_
      refine xi_goto C (tgt := 56) dX11_doublings_52 rfl ?_
      refine xi_istore_n C [1, 0, 2, 3] (L2 := [(0, .ref a_t), (1, .int y3), (2, .int y2), (3, .int y3)]) dX11_doublings_56 (Nat.le_of_ble_eq_true rfl) rfl ?_
      refine xi_iinc C (v := y2 + 1) 2 [1, 2, 0, 3] (L2 := [(0, .ref a_t), (1, .int y3), (2, .int (y2 + 1)), (3, .int y3)]) dX11_doublings_57 rfl rfl (Nat.le_of_ble_eq_true rfl) rfl ?_
      refine xi_goto C (tgt := 9) dX11_doublings_60 rfl ?_
      refine xi_drop (L2 := [(0, .ref a_t), (1, .int y3), (2, .int (y2 + 1))]) [0, 1, 2] rfl ?_
      exact hK9 y3 (y2 + 1) t_thrown h
  have B21 : ∀ (K9 : Int32 → Int32 → Int32 → Option (Int32 × Int32)) (hK9 : ∀ (y1 : Int32) (y2 : Int32) (t_thrown : Int32), K9 y1 y2 t_thrown = some r → sW X l (zR 4) D 4 0 0 9 [(0, .ref a_t), (1, .int y1), (2, .int y2)] [] [(a_t, .inr (11, [.int t_thrown, .ref a_t_now, .ref a_t_told, .ref a_t_one, .ref a_t_other, .ref a_t_forth, .ref a_t_cost, .ref a_t_broken, .ref a_t_away, .ref a_t_text, .int t_length, .int t_textSize, .int t_start, .int t_next, .int t_token, .int t_value, .int t_error, .int t_errorAt, .int t_number, .int t_isFirst, .ref a_t_worth, .ref a_t_choice, .ref a_t_thought, .ref a_t_before, .ref a_t_deep, .int t_limitNow, .ref a_t_price, .int t_undos, .ref a_t_undo, .ref a_t_slots, .ref a_t_isSaved])), (a_t_now, .inl (cT 0, 514, .inl t_now)), (a_t_told, .inl (cT 0, 8, .inl t_told))]) (n : Nat) (y1 : Int32) (y2 : Int32) (y3 : Int32) (t_thrown : Int32), fX11_doublings_b21 t_now t_told K9 n y1 y2 y3 t_thrown = some r → sW X l (zR 4) D 4 0 0 21 [(0, .ref a_t), (1, .int y1), (2, .int y2), (3, .int y3)] [] [(a_t, .inr (11, [.int t_thrown, .ref a_t_now, .ref a_t_told, .ref a_t_one, .ref a_t_other, .ref a_t_forth, .ref a_t_cost, .ref a_t_broken, .ref a_t_away, .ref a_t_text, .int t_length, .int t_textSize, .int t_start, .int t_next, .int t_token, .int t_value, .int t_error, .int t_errorAt, .int t_number, .int t_isFirst, .ref a_t_worth, .ref a_t_choice, .ref a_t_thought, .ref a_t_before, .ref a_t_deep, .int t_limitNow, .ref a_t_price, .int t_undos, .ref a_t_undo, .ref a_t_slots, .ref a_t_isSaved])), (a_t_now, .inl (cT 0, 514, .inl t_now)), (a_t_told, .inl (cT 0, 8, .inl t_told))] := by
    intro K9 hK9 n
    induction n with
    | zero =>
      intro y1 y2 y3 t_thrown h
      exact zno ((fX11_doublings_b21_0 _ _ _ _ _ _ _).symm.trans h)
    | succ n ih =>
      intro y1 y2 y3 t_thrown h
      replace h := (fX11_doublings_b21_s _ _ _ _ _ _ _ _).symm.trans h
      refine xi_aload_n C 0 dX11_doublings_21 rfl ?_
      refine xi_iload_n C 2 dX11_doublings_22 rfl ?_
      replace h := ob h
      obtain ⟨u2, hu3, h⟩ := h
      refine xi_callVr C (kX11_knowersOf l D cT a_t a_t_now a_t_told a_t_one a_t_other a_t_forth a_t_cost a_t_broken a_t_away a_t_text a_t_worth a_t_choice a_t_thought a_t_before a_t_deep a_t_price a_t_undo a_t_slots a_t_isSaved t_thrown t_length t_textSize t_start t_next t_token t_value t_error t_errorAt t_number t_isFirst t_limitNow t_undos t_now t_told y2 u2 hu3) zcX11_knowersOf zmX11_217 ziX11_knowersOf (zr rfl rfl) z00 rfl [0, 1, 2] rfl rfl zkX11.1 (qr := 0) rfl rfl (Nat.le_of_ble_eq_true rfl) dX11_doublings_23 (fun z4 => ?_)
      replace h := ob h
      obtain ⟨u5, hu6, h⟩ := h
      refine xi_callSr C (kX11_many l D cT u2 u5 hu6) zcX11_many zmX11_192 zsX11_many (zr rfl rfl) z00 rfl [] rfl rfl rfl (Nat.le_of_ble_eq_true rfl) dX11_doublings_26 (fun z7 => ?_)
      refine xi_iload_n C 3 dX11_doublings_29 rfl ?_
      refine xi_ishl C dX11_doublings_30 ?_
      refine xi_aload_n C 0 dX11_doublings_31 rfl ?_
      refine xi_get C zkX11 2 0 zlX11_13 (by decide) rfl rfl dX11_doublings_32 ?_
      refine xi_iconst C (v := 0) dX11_doublings_35 rfl ?_
      refine xi_iald C 2 rfl (zv (by decide)) dX11_doublings_36 ?_
      refine xi_icmp_ge C (tgt := 46) dX11_doublings_37 rfl (fun c8 => ?_) (fun c8 => ?_)
      · replace h := (if_pos c8).symm.trans h
        exact B46 K9 hK9 y1 y2 y3 t_thrown h
      · replace h := (if_neg c8).symm.trans h
        refine xi_iinc C (v := y3 + 1) 3 [1, 2, 3, 0] (L2 := [(0, .ref a_t), (1, .int y1), (2, .int y2), (3, .int (y3 + 1))]) dX11_doublings_40 rfl rfl (Nat.le_of_ble_eq_true rfl) rfl ?_
        refine xi_goto C (tgt := 21) dX11_doublings_43 rfl ?_
        exact ih y1 y2 (y3 + 1) t_thrown h
  have B9 : ∀ (n : Nat) (y1 : Int32) (y2 : Int32) (t_thrown : Int32), fX11_doublings_b9 t_now t_told n y1 y2 t_thrown = some r → sW X l (zR 4) D 4 0 0 9 [(0, .ref a_t), (1, .int y1), (2, .int y2)] [] [(a_t, .inr (11, [.int t_thrown, .ref a_t_now, .ref a_t_told, .ref a_t_one, .ref a_t_other, .ref a_t_forth, .ref a_t_cost, .ref a_t_broken, .ref a_t_away, .ref a_t_text, .int t_length, .int t_textSize, .int t_start, .int t_next, .int t_token, .int t_value, .int t_error, .int t_errorAt, .int t_number, .int t_isFirst, .ref a_t_worth, .ref a_t_choice, .ref a_t_thought, .ref a_t_before, .ref a_t_deep, .int t_limitNow, .ref a_t_price, .int t_undos, .ref a_t_undo, .ref a_t_slots, .ref a_t_isSaved])), (a_t_now, .inl (cT 0, 514, .inl t_now)), (a_t_told, .inl (cT 0, 8, .inl t_told))] := by
    intro n
    induction n with
    | zero =>
      intro y1 y2 t_thrown h
      exact zno ((fX11_doublings_b9_0 _ _ _ _ _).symm.trans h)
    | succ n ih =>
      intro y1 y2 t_thrown h
      replace h := (fX11_doublings_b9_s _ _ _ _ _ _).symm.trans h
      refine xi_iload_n C 2 dX11_doublings_9 rfl ?_
      refine xi_aload_n C 0 dX11_doublings_10 rfl ?_
      refine xi_get C zkX11 2 0 zlX11_13 (by decide) rfl rfl dX11_doublings_11 ?_
      refine xi_iconst C (v := 0) dX11_doublings_14 rfl ?_
      refine xi_iald C 2 rfl (zv (by decide)) dX11_doublings_15 ?_
      refine xi_icmp_ge C (tgt := 63) dX11_doublings_16 rfl (fun c1 => ?_) (fun c1 => ?_)
      · replace h := (if_pos c1).symm.trans h
        refine xi_iload_n C 1 dX11_doublings_63 rfl ?_
        obtain rfl := Option.some.inj h
        exact hE _ _ _ dX11_doublings_64 rfl
      · replace h := (if_neg c1).symm.trans h
        refine xi_iconst C (v := 0) dX11_doublings_19 rfl ?_
        refine xi_istore_n C [1, 2, 3, 0] (L2 := [(0, .ref a_t), (1, .int y1), (2, .int y2), (3, .int 0)]) dX11_doublings_20 (Nat.le_of_ble_eq_true rfl) rfl ?_
        exact B21 (fX11_doublings_b9 t_now t_told n) ih FU y1 y2 0 t_thrown h
  refine xi_drop (L2 := [(0, .ref a_t)]) [0] rfl ?_
  refine xi_aload_n C 0 dX11_doublings_0 rfl ?_
  refine xi_iconst C (v := 0) dX11_doublings_1 rfl ?_
  refine xi_put C zkX11 0 0 zlX11_80 (by decide) rfl rfl rfl rfl (Nat.le_of_ble_eq_true rfl) dX11_doublings_2 (ws2 := [(a_t, .inr (11, [.int 0, .ref a_t_now, .ref a_t_told, .ref a_t_one, .ref a_t_other, .ref a_t_forth, .ref a_t_cost, .ref a_t_broken, .ref a_t_away, .ref a_t_text, .int t_length, .int t_textSize, .int t_start, .int t_next, .int t_token, .int t_value, .int t_error, .int t_errorAt, .int t_number, .int t_isFirst, .ref a_t_worth, .ref a_t_choice, .ref a_t_thought, .ref a_t_before, .ref a_t_deep, .int t_limitNow, .ref a_t_price, .int t_undos, .ref a_t_undo, .ref a_t_slots, .ref a_t_isSaved])), (a_t_now, .inl (cT 0, 514, .inl t_now)), (a_t_told, .inl (cT 0, 8, .inl t_told))]) rfl ?_
  refine xi_iconst C (v := 0) dX11_doublings_5 rfl ?_
  refine xi_istore_n C [1, 0] (L2 := [(0, .ref a_t), (1, .int 0)]) dX11_doublings_6 (Nat.le_of_ble_eq_true rfl) rfl ?_
  refine xi_iconst C (v := 0) dX11_doublings_7 rfl ?_
  refine xi_istore_n C [1, 2, 0] (L2 := [(0, .ref a_t), (1, .int 0), (2, .int 0)]) dX11_doublings_8 (Nat.le_of_ble_eq_true rfl) rfl ?_
  exact B9 FU 0 0 0 h
def fX11_usableIn_b31 (K4 : Int32 → Int32 → Option Int32) (y3 : Int32) (s0 : Int32) (s1 : Int32) : Option Int32 := K4 (s1 ||| s0) (y3 + 1)
def fX11_usableIn_b4 (t_now : Nat → Int32) (t_told : Nat → Int32) (t_one : Nat → Int32) (t_other : Nat → Int32) (t_broken : Nat → Int32) (t_away : Nat → Int32) (x1 : Int32) : Nat → Int32 → Int32 → Option Int32
  | 0, _, _ => none
  | n + 1, y2, y3 => if (t_told 1) ≤ y3 then some y2 else (fX11_canCall t_now t_told t_one t_other t_broken t_away y3 x1).bind (fun u2 => if u2 = 0 then fX11_usableIn_b31 (fX11_usableIn_b4 t_now t_told t_one t_other t_broken t_away x1 n) y3 0 y2 else fX11_usableIn_b31 (fX11_usableIn_b4 t_now t_told t_one t_other t_broken t_away x1 n) y3 (1 <<< (y3 &&& 31)) y2)
theorem fX11_usableIn_b4_0 (t_now : Nat → Int32) (t_told : Nat → Int32) (t_one : Nat → Int32) (t_other : Nat → Int32) (t_broken : Nat → Int32) (t_away : Nat → Int32) (x1 : Int32) (y2 : Int32) (y3 : Int32) : fX11_usableIn_b4 t_now t_told t_one t_other t_broken t_away x1 0 y2 y3 = none := rfl
theorem fX11_usableIn_b4_s (t_now : Nat → Int32) (t_told : Nat → Int32) (t_one : Nat → Int32) (t_other : Nat → Int32) (t_broken : Nat → Int32) (t_away : Nat → Int32) (x1 : Int32) (n : Nat) (y2 : Int32) (y3 : Int32) : fX11_usableIn_b4 t_now t_told t_one t_other t_broken t_away x1 (n + 1) y2 y3 = (if (t_told 1) ≤ y3 then some y2 else (fX11_canCall t_now t_told t_one t_other t_broken t_away y3 x1).bind (fun u2 => if u2 = 0 then fX11_usableIn_b31 (fX11_usableIn_b4 t_now t_told t_one t_other t_broken t_away x1 n) y3 0 y2 else fX11_usableIn_b31 (fX11_usableIn_b4 t_now t_told t_one t_other t_broken t_away x1 n) y3 (1 <<< (y3 &&& 31)) y2)) := rfl
def fX11_usableIn (t_now : Nat → Int32) (t_told : Nat → Int32) (t_one : Nat → Int32) (t_other : Nat → Int32) (t_broken : Nat → Int32) (t_away : Nat → Int32) (x1 : Int32) : Option Int32 := fX11_usableIn_b4 t_now t_told t_one t_other t_broken t_away x1 FU 0 0
set_option maxRecDepth 100000 in
set_option maxHeartbeats 4000000 in
theorem kX11_usableIn (l : Launch) (D : va_G) (cT : Nat → ClassId) (a_t : Nat) (a_t_now : Nat) (a_t_told : Nat) (a_t_one : Nat) (a_t_other : Nat) (a_t_forth : Nat) (a_t_cost : Nat) (a_t_broken : Nat) (a_t_away : Nat) (a_t_text : Nat) (a_t_worth : Nat) (a_t_choice : Nat) (a_t_thought : Nat) (a_t_before : Nat) (a_t_deep : Nat) (a_t_price : Nat) (a_t_undo : Nat) (a_t_slots : Nat) (a_t_isSaved : Nat) (t_thrown : Int32) (t_length : Int32) (t_textSize : Int32) (t_start : Int32) (t_next : Int32) (t_token : Int32) (t_value : Int32) (t_error : Int32) (t_errorAt : Int32) (t_number : Int32) (t_isFirst : Int32) (t_limitNow : Int32) (t_undos : Int32) (t_now : Nat → Int32) (t_told : Nat → Int32) (t_one : Nat → Int32) (t_other : Nat → Int32) (t_broken : Nat → Int32) (t_away : Nat → Int32) (x1 : Int32) (r : Int32) (h : fX11_usableIn t_now t_told t_one t_other t_broken t_away x1 = some r) : sM l yX11_usableIn cX11_usableIn 4 (some .int) (zR 4) D cT [.ref a_t, .int x1] [(a_t, .inr (11, [.int t_thrown, .ref a_t_now, .ref a_t_told, .ref a_t_one, .ref a_t_other, .ref a_t_forth, .ref a_t_cost, .ref a_t_broken, .ref a_t_away, .ref a_t_text, .int t_length, .int t_textSize, .int t_start, .int t_next, .int t_token, .int t_value, .int t_error, .int t_errorAt, .int t_number, .int t_isFirst, .ref a_t_worth, .ref a_t_choice, .ref a_t_thought, .ref a_t_before, .ref a_t_deep, .int t_limitNow, .ref a_t_price, .int t_undos, .ref a_t_undo, .ref a_t_slots, .ref a_t_isSaved])), (a_t_now, .inl (cT 0, 514, .inl t_now)), (a_t_told, .inl (cT 0, 8, .inl t_told)), (a_t_one, .inl (cT 0, 48, .inl t_one)), (a_t_other, .inl (cT 0, 48, .inl t_other)), (a_t_broken, .inl (cT 0, 72, .inl t_broken)), (a_t_away, .inl (cT 0, 72, .inl t_away))] (some (.int r)) [(a_t, .inr (11, [.int t_thrown, .ref a_t_now, .ref a_t_told, .ref a_t_one, .ref a_t_other, .ref a_t_forth, .ref a_t_cost, .ref a_t_broken, .ref a_t_away, .ref a_t_text, .int t_length, .int t_textSize, .int t_start, .int t_next, .int t_token, .int t_value, .int t_error, .int t_errorAt, .int t_number, .int t_isFirst, .ref a_t_worth, .ref a_t_choice, .ref a_t_thought, .ref a_t_before, .ref a_t_deep, .int t_limitNow, .ref a_t_price, .int t_undos, .ref a_t_undo, .ref a_t_slots, .ref a_t_isSaved])), (a_t_now, .inl (cT 0, 514, .inl t_now)), (a_t_told, .inl (cT 0, 8, .inl t_told)), (a_t_one, .inl (cT 0, 48, .inl t_one)), (a_t_other, .inl (cT 0, 48, .inl t_other)), (a_t_broken, .inl (cT 0, 72, .inl t_broken)), (a_t_away, .inl (cT 0, 72, .inl t_away))] := by
  refine sM_int rfl (Nat.le_of_ble_eq_true rfl) ?_
  intro X C hE
  have B31 : ∀ (K4 : Int32 → Int32 → Option Int32) (hK4 : ∀ (y2 : Int32) (y3 : Int32), K4 y2 y3 = some r → sW X l (zR 4) D 4 0 0 4 [(0, .ref a_t), (1, .int x1), (2, .int y2), (3, .int y3)] [] [(a_t, .inr (11, [.int t_thrown, .ref a_t_now, .ref a_t_told, .ref a_t_one, .ref a_t_other, .ref a_t_forth, .ref a_t_cost, .ref a_t_broken, .ref a_t_away, .ref a_t_text, .int t_length, .int t_textSize, .int t_start, .int t_next, .int t_token, .int t_value, .int t_error, .int t_errorAt, .int t_number, .int t_isFirst, .ref a_t_worth, .ref a_t_choice, .ref a_t_thought, .ref a_t_before, .ref a_t_deep, .int t_limitNow, .ref a_t_price, .int t_undos, .ref a_t_undo, .ref a_t_slots, .ref a_t_isSaved])), (a_t_now, .inl (cT 0, 514, .inl t_now)), (a_t_told, .inl (cT 0, 8, .inl t_told)), (a_t_one, .inl (cT 0, 48, .inl t_one)), (a_t_other, .inl (cT 0, 48, .inl t_other)), (a_t_broken, .inl (cT 0, 72, .inl t_broken)), (a_t_away, .inl (cT 0, 72, .inl t_away))]) (y3 : Int32) (s0 : Int32) (s1 : Int32), fX11_usableIn_b31 K4 y3 s0 s1 = some r → sW X l (zR 4) D 4 0 0 31 [(0, .ref a_t), (1, .int x1), (3, .int y3)] [.int s0, .int s1] [(a_t, .inr (11, [.int t_thrown, .ref a_t_now, .ref a_t_told, .ref a_t_one, .ref a_t_other, .ref a_t_forth, .ref a_t_cost, .ref a_t_broken, .ref a_t_away, .ref a_t_text, .int t_length, .int t_textSize, .int t_start, .int t_next, .int t_token, .int t_value, .int t_error, .int t_errorAt, .int t_number, .int t_isFirst, .ref a_t_worth, .ref a_t_choice, .ref a_t_thought, .ref a_t_before, .ref a_t_deep, .int t_limitNow, .ref a_t_price, .int t_undos, .ref a_t_undo, .ref a_t_slots, .ref a_t_isSaved])), (a_t_now, .inl (cT 0, 514, .inl t_now)), (a_t_told, .inl (cT 0, 8, .inl t_told)), (a_t_one, .inl (cT 0, 48, .inl t_one)), (a_t_other, .inl (cT 0, 48, .inl t_other)), (a_t_broken, .inl (cT 0, 72, .inl t_broken)), (a_t_away, .inl (cT 0, 72, .inl t_away))] := by
    intro K4 hK4 y3 s0 s1 h
    refine xi_ior C dX11_usableIn_31 ?_
    refine xi_istore_n C [1, 2, 0, 3] (L2 := [(0, .ref a_t), (1, .int x1), (2, .int (s1 ||| s0)), (3, .int y3)]) dX11_usableIn_32 (Nat.le_of_ble_eq_true rfl) rfl ?_
    refine xi_iinc C (v := y3 + 1) 3 [1, 2, 3, 0] (L2 := [(0, .ref a_t), (1, .int x1), (2, .int (s1 ||| s0)), (3, .int (y3 + 1))]) dX11_usableIn_33 rfl rfl (Nat.le_of_ble_eq_true rfl) rfl ?_
    refine xi_goto C (tgt := 4) dX11_usableIn_36 rfl ?_
    exact hK4 (s1 ||| s0) (y3 + 1) h
  have B4 : ∀ (n : Nat) (y2 : Int32) (y3 : Int32), fX11_usableIn_b4 t_now t_told t_one t_other t_broken t_away x1 n y2 y3 = some r → sW X l (zR 4) D 4 0 0 4 [(0, .ref a_t), (1, .int x1), (2, .int y2), (3, .int y3)] [] [(a_t, .inr (11, [.int t_thrown, .ref a_t_now, .ref a_t_told, .ref a_t_one, .ref a_t_other, .ref a_t_forth, .ref a_t_cost, .ref a_t_broken, .ref a_t_away, .ref a_t_text, .int t_length, .int t_textSize, .int t_start, .int t_next, .int t_token, .int t_value, .int t_error, .int t_errorAt, .int t_number, .int t_isFirst, .ref a_t_worth, .ref a_t_choice, .ref a_t_thought, .ref a_t_before, .ref a_t_deep, .int t_limitNow, .ref a_t_price, .int t_undos, .ref a_t_undo, .ref a_t_slots, .ref a_t_isSaved])), (a_t_now, .inl (cT 0, 514, .inl t_now)), (a_t_told, .inl (cT 0, 8, .inl t_told)), (a_t_one, .inl (cT 0, 48, .inl t_one)), (a_t_other, .inl (cT 0, 48, .inl t_other)), (a_t_broken, .inl (cT 0, 72, .inl t_broken)), (a_t_away, .inl (cT 0, 72, .inl t_away))] := by
    intro n
    induction n with
    | zero =>
      intro y2 y3 h
      exact zno ((fX11_usableIn_b4_0 _ _ _ _ _ _ _ _ _).symm.trans h)
    | succ n ih =>
      intro y2 y3 h
      replace h := (fX11_usableIn_b4_s _ _ _ _ _ _ _ _ _ _).symm.trans h
      refine xi_iload_n C 3 dX11_usableIn_4 rfl ?_
      refine xi_aload_n C 0 dX11_usableIn_5 rfl ?_
      refine xi_get C zkX11 2 0 zlX11_13 (by decide) rfl rfl dX11_usableIn_6 ?_
      refine xi_iconst C (v := 1) dX11_usableIn_9 rfl ?_
      refine xi_iald C 2 rfl (zv (by decide)) dX11_usableIn_10 ?_
      refine xi_icmp_ge C (tgt := 39) dX11_usableIn_11 rfl (fun c1 => ?_) (fun c1 => ?_)
      · replace h := (if_pos c1).symm.trans h
        refine xi_iload_n C 2 dX11_usableIn_39 rfl ?_
        obtain rfl := Option.some.inj h
        exact hE _ _ _ dX11_usableIn_40 rfl
      · replace h := (if_neg c1).symm.trans h
        refine xi_iload_n C 2 dX11_usableIn_14 rfl ?_
        refine xi_aload_n C 0 dX11_usableIn_15 rfl ?_
        refine xi_iload_n C 3 dX11_usableIn_16 rfl ?_
        refine xi_iload_n C 1 dX11_usableIn_17 rfl ?_
        replace h := ob h
        obtain ⟨u2, hu3, h⟩ := h
        refine xi_callVr C (kX11_canCall l D cT a_t a_t_now a_t_told a_t_one a_t_other a_t_forth a_t_cost a_t_broken a_t_away a_t_text a_t_worth a_t_choice a_t_thought a_t_before a_t_deep a_t_price a_t_undo a_t_slots a_t_isSaved t_thrown t_length t_textSize t_start t_next t_token t_value t_error t_errorAt t_number t_isFirst t_limitNow t_undos t_now t_told t_one t_other t_broken t_away y3 x1 u2 hu3) zcX11_canCall zmX11_207 ziX11_canCall (zr rfl rfl) z00 rfl [0, 1, 2, 3, 4, 5, 6] rfl rfl zkX11.1 (qr := 0) rfl rfl (Nat.le_of_ble_eq_true rfl) dX11_usableIn_18 (fun z4 => ?_)
        refine xi_if_eq C (tgt := 30) dX11_usableIn_21 rfl (fun c5 => ?_) (fun c5 => ?_)
        · replace h := (if_pos c5).symm.trans h
          refine xi_iconst C (v := 0) dX11_usableIn_30 rfl ?_
          refine xi_drop (L2 := [(0, .ref a_t), (1, .int x1), (3, .int y3)]) [0, 1, 3] rfl ?_
          exact B31 (fX11_usableIn_b4 t_now t_told t_one t_other t_broken t_away x1 n) ih y3 0 y2 h
        · replace h := (if_neg c5).symm.trans h
          refine xi_iconst C (v := 1) dX11_usableIn_24 rfl ?_
          refine xi_iload_n C 3 dX11_usableIn_25 rfl ?_
          refine xi_ishl C dX11_usableIn_26 ?_
          refine xi_goto C (tgt := 31) dX11_usableIn_27 rfl ?_
          refine xi_drop (L2 := [(0, .ref a_t), (1, .int x1), (3, .int y3)]) [0, 1, 3] rfl ?_
          exact B31 (fX11_usableIn_b4 t_now t_told t_one t_other t_broken t_away x1 n) ih y3 (1 <<< (y3 &&& 31)) y2 h
  refine xi_drop (L2 := [(0, .ref a_t), (1, .int x1)]) [0, 1] rfl ?_
  refine xi_iconst C (v := 0) dX11_usableIn_0 rfl ?_
  refine xi_istore_n C [1, 2, 0] (L2 := [(0, .ref a_t), (1, .int x1), (2, .int 0)]) dX11_usableIn_1 (Nat.le_of_ble_eq_true rfl) rfl ?_
  refine xi_iconst C (v := 0) dX11_usableIn_2 rfl ?_
  refine xi_istore_n C [1, 2, 3, 0] (L2 := [(0, .ref a_t), (1, .int x1), (2, .int 0), (3, .int 0)]) dX11_usableIn_3 (Nat.le_of_ble_eq_true rfl) rfl ?_
  exact B4 FU 0 0 h
def fX11_soonest_b65 (x1 : Int32) (x2 : Int32) (y3 : Int32) (t_thrown : Int32) (t_thought : Nat → Int32) (t_before : Nat → Int32) : Option (Int32 × Int32 × (Nat → Int32) × (Nat → Int32)) := gd x1 10 (if (fX11_isIn (t_thought x1.toNatClampNeg) x2) = 0 then some ((-1), t_thrown, t_thought, t_before) else some (y3, t_thrown, t_thought, t_before))
def fX11_soonest_b24 (t_now : Nat → Int32) (t_told : Nat → Int32) (t_one : Nat → Int32) (t_other : Nat → Int32) (t_forth : Nat → Int32) (t_broken : Nat → Int32) (t_away : Nat → Int32) (x1 : Int32) (x2 : Int32) : Nat → Int32 → Int32 → (Nat → Int32) → (Nat → Int32) → Option (Int32 × Int32 × (Nat → Int32) × (Nat → Int32))
  | 0, _, _, _, _ => none
  | n + 1, y3, t_thrown, t_thought, t_before => if 60 ≤ y3 then fX11_soonest_b65 x1 x2 y3 t_thrown t_thought t_before else gd x1 10 (if (fX11_isIn (t_thought x1.toNatClampNeg) x2) = 0 then (fX11_usableIn t_now t_told t_one t_other t_broken t_away ((t_now 0) + (y3 + 1))).bind (fun u23 => (fX11_calls t_told t_one t_other t_forth t_thought t_before u23).bind (fun u26 => (fX11_soonest_b24 t_now t_told t_one t_other t_forth t_broken t_away x1 x2 n) (y3 + 1) t_thrown u26.1 u26.2)) else fX11_soonest_b65 x1 x2 y3 t_thrown t_thought t_before)
theorem fX11_soonest_b24_0 (t_now : Nat → Int32) (t_told : Nat → Int32) (t_one : Nat → Int32) (t_other : Nat → Int32) (t_forth : Nat → Int32) (t_broken : Nat → Int32) (t_away : Nat → Int32) (x1 : Int32) (x2 : Int32) (y3 : Int32) (t_thrown : Int32) (t_thought : Nat → Int32) (t_before : Nat → Int32) : fX11_soonest_b24 t_now t_told t_one t_other t_forth t_broken t_away x1 x2 0 y3 t_thrown t_thought t_before = none := rfl
theorem fX11_soonest_b24_s (t_now : Nat → Int32) (t_told : Nat → Int32) (t_one : Nat → Int32) (t_other : Nat → Int32) (t_forth : Nat → Int32) (t_broken : Nat → Int32) (t_away : Nat → Int32) (x1 : Int32) (x2 : Int32) (n : Nat) (y3 : Int32) (t_thrown : Int32) (t_thought : Nat → Int32) (t_before : Nat → Int32) : fX11_soonest_b24 t_now t_told t_one t_other t_forth t_broken t_away x1 x2 (n + 1) y3 t_thrown t_thought t_before = (if 60 ≤ y3 then fX11_soonest_b65 x1 x2 y3 t_thrown t_thought t_before else gd x1 10 (if (fX11_isIn (t_thought x1.toNatClampNeg) x2) = 0 then (fX11_usableIn t_now t_told t_one t_other t_broken t_away ((t_now 0) + (y3 + 1))).bind (fun u23 => (fX11_calls t_told t_one t_other t_forth t_thought t_before u23).bind (fun u26 => (fX11_soonest_b24 t_now t_told t_one t_other t_forth t_broken t_away x1 x2 n) (y3 + 1) t_thrown u26.1 u26.2)) else fX11_soonest_b65 x1 x2 y3 t_thrown t_thought t_before)) := rfl
def fX11_soonest (t_now : Nat → Int32) (t_told : Nat → Int32) (t_one : Nat → Int32) (t_other : Nat → Int32) (t_forth : Nat → Int32) (t_broken : Nat → Int32) (t_away : Nat → Int32) (t_thought : Nat → Int32) (t_before : Nat → Int32) (x1 : Int32) (x2 : Int32) : Option (Int32 × Int32 × (Nat → Int32) × (Nat → Int32)) := (fX11_noPerson t_told x1).bind (fun u1 => if u1.1 = 0 then (fX11_noPerson t_told x2).bind (fun u5 => if u5.1 = 0 then (fX11_thinks t_now t_told t_thought).bind (fun u9 => fX11_soonest_b24 t_now t_told t_one t_other t_forth t_broken t_away x1 x2 FU 0 u5.2 u9 t_before) else some (0, u5.2, t_thought, t_before)) else some (0, u1.2, t_thought, t_before))
set_option maxRecDepth 100000 in
set_option maxHeartbeats 4000000 in
theorem kX11_soonest (l : Launch) (D : va_G) (cT : Nat → ClassId) (a_t : Nat) (a_t_now : Nat) (a_t_told : Nat) (a_t_one : Nat) (a_t_other : Nat) (a_t_forth : Nat) (a_t_cost : Nat) (a_t_broken : Nat) (a_t_away : Nat) (a_t_text : Nat) (a_t_worth : Nat) (a_t_choice : Nat) (a_t_thought : Nat) (a_t_before : Nat) (a_t_deep : Nat) (a_t_price : Nat) (a_t_undo : Nat) (a_t_slots : Nat) (a_t_isSaved : Nat) (t_thrown : Int32) (t_length : Int32) (t_textSize : Int32) (t_start : Int32) (t_next : Int32) (t_token : Int32) (t_value : Int32) (t_error : Int32) (t_errorAt : Int32) (t_number : Int32) (t_isFirst : Int32) (t_limitNow : Int32) (t_undos : Int32) (t_now : Nat → Int32) (t_told : Nat → Int32) (t_one : Nat → Int32) (t_other : Nat → Int32) (t_forth : Nat → Int32) (t_broken : Nat → Int32) (t_away : Nat → Int32) (t_thought : Nat → Int32) (t_before : Nat → Int32) (x1 : Int32) (x2 : Int32) (r : Int32 × Int32 × (Nat → Int32) × (Nat → Int32)) (h : fX11_soonest t_now t_told t_one t_other t_forth t_broken t_away t_thought t_before x1 x2 = some r) : sM l yX11_soonest cX11_soonest 4 (some .int) (zR 5) D cT [.ref a_t, .int x1, .int x2] [(a_t, .inr (11, [.int t_thrown, .ref a_t_now, .ref a_t_told, .ref a_t_one, .ref a_t_other, .ref a_t_forth, .ref a_t_cost, .ref a_t_broken, .ref a_t_away, .ref a_t_text, .int t_length, .int t_textSize, .int t_start, .int t_next, .int t_token, .int t_value, .int t_error, .int t_errorAt, .int t_number, .int t_isFirst, .ref a_t_worth, .ref a_t_choice, .ref a_t_thought, .ref a_t_before, .ref a_t_deep, .int t_limitNow, .ref a_t_price, .int t_undos, .ref a_t_undo, .ref a_t_slots, .ref a_t_isSaved])), (a_t_now, .inl (cT 0, 514, .inl t_now)), (a_t_told, .inl (cT 0, 8, .inl t_told)), (a_t_one, .inl (cT 0, 48, .inl t_one)), (a_t_other, .inl (cT 0, 48, .inl t_other)), (a_t_forth, .inl (cT 0, 48, .inl t_forth)), (a_t_broken, .inl (cT 0, 72, .inl t_broken)), (a_t_away, .inl (cT 0, 72, .inl t_away)), (a_t_thought, .inl (cT 0, 10, .inl t_thought)), (a_t_before, .inl (cT 0, 10, .inl t_before))] (some (.int r.1)) [(a_t, .inr (11, [.int r.2.1, .ref a_t_now, .ref a_t_told, .ref a_t_one, .ref a_t_other, .ref a_t_forth, .ref a_t_cost, .ref a_t_broken, .ref a_t_away, .ref a_t_text, .int t_length, .int t_textSize, .int t_start, .int t_next, .int t_token, .int t_value, .int t_error, .int t_errorAt, .int t_number, .int t_isFirst, .ref a_t_worth, .ref a_t_choice, .ref a_t_thought, .ref a_t_before, .ref a_t_deep, .int t_limitNow, .ref a_t_price, .int t_undos, .ref a_t_undo, .ref a_t_slots, .ref a_t_isSaved])), (a_t_now, .inl (cT 0, 514, .inl t_now)), (a_t_told, .inl (cT 0, 8, .inl t_told)), (a_t_one, .inl (cT 0, 48, .inl t_one)), (a_t_other, .inl (cT 0, 48, .inl t_other)), (a_t_forth, .inl (cT 0, 48, .inl t_forth)), (a_t_broken, .inl (cT 0, 72, .inl t_broken)), (a_t_away, .inl (cT 0, 72, .inl t_away)), (a_t_thought, .inl (cT 0, 10, .inl r.2.2.1)), (a_t_before, .inl (cT 0, 10, .inl r.2.2.2))] := by
  refine sM_int rfl (Nat.le_of_ble_eq_true rfl) ?_
  intro X C hE
  have B65 : ∀ (y3 : Int32) (t_thrown : Int32) (t_thought : Nat → Int32) (t_before : Nat → Int32), fX11_soonest_b65 x1 x2 y3 t_thrown t_thought t_before = some r → sW X l (zR 5) D 4 0 0 65 [(0, .ref a_t), (1, .int x1), (2, .int x2), (3, .int y3)] [] [(a_t, .inr (11, [.int t_thrown, .ref a_t_now, .ref a_t_told, .ref a_t_one, .ref a_t_other, .ref a_t_forth, .ref a_t_cost, .ref a_t_broken, .ref a_t_away, .ref a_t_text, .int t_length, .int t_textSize, .int t_start, .int t_next, .int t_token, .int t_value, .int t_error, .int t_errorAt, .int t_number, .int t_isFirst, .ref a_t_worth, .ref a_t_choice, .ref a_t_thought, .ref a_t_before, .ref a_t_deep, .int t_limitNow, .ref a_t_price, .int t_undos, .ref a_t_undo, .ref a_t_slots, .ref a_t_isSaved])), (a_t_now, .inl (cT 0, 514, .inl t_now)), (a_t_told, .inl (cT 0, 8, .inl t_told)), (a_t_one, .inl (cT 0, 48, .inl t_one)), (a_t_other, .inl (cT 0, 48, .inl t_other)), (a_t_forth, .inl (cT 0, 48, .inl t_forth)), (a_t_broken, .inl (cT 0, 72, .inl t_broken)), (a_t_away, .inl (cT 0, 72, .inl t_away)), (a_t_thought, .inl (cT 0, 10, .inl t_thought)), (a_t_before, .inl (cT 0, 10, .inl t_before))] := by
    intro y3 t_thrown t_thought t_before h
    refine xi_aload_n C 0 dX11_soonest_65 rfl ?_
    refine xi_get C zkX11 22 0 zlX11_49 (by decide) rfl rfl dX11_soonest_66 ?_
    refine xi_iload_n C 1 dX11_soonest_69 rfl ?_
    replace h := ig h
    obtain ⟨c13, h⟩ := h
    refine xi_iald C 8 rfl c13 dX11_soonest_70 ?_
    refine xi_iload_n C 2 dX11_soonest_71 rfl ?_
    refine xi_callSr C (kX11_isIn l D cT (t_thought x1.toNatClampNeg) x2 (fX11_isIn (t_thought x1.toNatClampNeg) x2) rfl) zcX11_isIn zmX11_201 zsX11_isIn (zr rfl rfl) z00 rfl [] rfl rfl rfl (Nat.le_of_ble_eq_true rfl) dX11_soonest_72 (fun z16 => ?_)
    refine xi_if_eq C (tgt := 82) dX11_soonest_75 rfl (fun c17 => ?_) (fun c17 => ?_)
    · replace h := (if_pos c17).symm.trans h
      refine xi_iconst C (v := (-1)) dX11_soonest_82 rfl ?_
      obtain rfl := Option.some.inj h
      exact hE _ _ _ dX11_soonest_83 rfl
    · replace h := (if_neg c17).symm.trans h
      refine xi_iload_n C 3 dX11_soonest_78 rfl ?_
      refine xi_goto C (tgt := 83) dX11_soonest_79 rfl ?_
      obtain rfl := Option.some.inj h
      exact hE _ _ _ dX11_soonest_83 rfl
  have B24 : ∀ (n : Nat) (y3 : Int32) (t_thrown : Int32) (t_thought : Nat → Int32) (t_before : Nat → Int32), fX11_soonest_b24 t_now t_told t_one t_other t_forth t_broken t_away x1 x2 n y3 t_thrown t_thought t_before = some r → sW X l (zR 5) D 4 0 0 24 [(0, .ref a_t), (1, .int x1), (2, .int x2), (3, .int y3)] [] [(a_t, .inr (11, [.int t_thrown, .ref a_t_now, .ref a_t_told, .ref a_t_one, .ref a_t_other, .ref a_t_forth, .ref a_t_cost, .ref a_t_broken, .ref a_t_away, .ref a_t_text, .int t_length, .int t_textSize, .int t_start, .int t_next, .int t_token, .int t_value, .int t_error, .int t_errorAt, .int t_number, .int t_isFirst, .ref a_t_worth, .ref a_t_choice, .ref a_t_thought, .ref a_t_before, .ref a_t_deep, .int t_limitNow, .ref a_t_price, .int t_undos, .ref a_t_undo, .ref a_t_slots, .ref a_t_isSaved])), (a_t_now, .inl (cT 0, 514, .inl t_now)), (a_t_told, .inl (cT 0, 8, .inl t_told)), (a_t_one, .inl (cT 0, 48, .inl t_one)), (a_t_other, .inl (cT 0, 48, .inl t_other)), (a_t_forth, .inl (cT 0, 48, .inl t_forth)), (a_t_broken, .inl (cT 0, 72, .inl t_broken)), (a_t_away, .inl (cT 0, 72, .inl t_away)), (a_t_thought, .inl (cT 0, 10, .inl t_thought)), (a_t_before, .inl (cT 0, 10, .inl t_before))] := by
    intro n
    induction n with
    | zero =>
      intro y3 t_thrown t_thought t_before h
      exact zno ((fX11_soonest_b24_0 _ _ _ _ _ _ _ _ _ _ _ _ _).symm.trans h)
    | succ n ih =>
      intro y3 t_thrown t_thought t_before h
      replace h := (fX11_soonest_b24_s _ _ _ _ _ _ _ _ _ _ _ _ _ _).symm.trans h
      refine xi_iload_n C 3 dX11_soonest_24 rfl ?_
      refine xi_bipush C (v := 60) dX11_soonest_25 rfl ?_
      refine xi_icmp_ge C (tgt := 65) dX11_soonest_27 rfl (fun c12 => ?_) (fun c12 => ?_)
      · replace h := (if_pos c12).symm.trans h
        exact B65 y3 t_thrown t_thought t_before h
      · replace h := (if_neg c12).symm.trans h
        refine xi_aload_n C 0 dX11_soonest_30 rfl ?_
        refine xi_get C zkX11 22 0 zlX11_49 (by decide) rfl rfl dX11_soonest_31 ?_
        refine xi_iload_n C 1 dX11_soonest_34 rfl ?_
        replace h := ig h
        obtain ⟨c18, h⟩ := h
        refine xi_iald C 8 rfl c18 dX11_soonest_35 ?_
        refine xi_iload_n C 2 dX11_soonest_36 rfl ?_
        refine xi_callSr C (kX11_isIn l D cT (t_thought x1.toNatClampNeg) x2 (fX11_isIn (t_thought x1.toNatClampNeg) x2) rfl) zcX11_isIn zmX11_201 zsX11_isIn (zr rfl rfl) z00 rfl [] rfl rfl rfl (Nat.le_of_ble_eq_true rfl) dX11_soonest_37 (fun z21 => ?_)
        refine xi_if_ne C (tgt := 65) dX11_soonest_40 rfl (fun c22 => ?_) (fun c22 => ?_)
        · replace h := (if_neg c22).symm.trans h
          exact B65 y3 t_thrown t_thought t_before h
        · replace h := (if_pos c22).symm.trans h
          refine xi_iinc C (v := y3 + 1) 3 [1, 2, 3, 0] (L2 := [(0, .ref a_t), (1, .int x1), (2, .int x2), (3, .int (y3 + 1))]) dX11_soonest_43 rfl rfl (Nat.le_of_ble_eq_true rfl) rfl ?_
          refine xi_aload_n C 0 dX11_soonest_46 rfl ?_
          refine xi_aload_n C 0 dX11_soonest_47 rfl ?_
          refine xi_aload_n C 0 dX11_soonest_48 rfl ?_
          refine xi_get C zkX11 1 0 zlX11_7 (by decide) rfl rfl dX11_soonest_49 ?_
          refine xi_iconst C (v := 0) dX11_soonest_52 rfl ?_
          refine xi_iald C 1 rfl (zv (by decide)) dX11_soonest_53 ?_
          refine xi_iload_n C 3 dX11_soonest_54 rfl ?_
          refine xi_iadd C dX11_soonest_55 ?_
          replace h := ob h
          obtain ⟨u23, hu24, h⟩ := h
          refine xi_callVr C (kX11_usableIn l D cT a_t a_t_now a_t_told a_t_one a_t_other a_t_forth a_t_cost a_t_broken a_t_away a_t_text a_t_worth a_t_choice a_t_thought a_t_before a_t_deep a_t_price a_t_undo a_t_slots a_t_isSaved t_thrown t_length t_textSize t_start t_next t_token t_value t_error t_errorAt t_number t_isFirst t_limitNow t_undos t_now t_told t_one t_other t_broken t_away ((t_now 0) + (y3 + 1)) u23 hu24) zcX11_usableIn zmX11_274 ziX11_usableIn (zr rfl rfl) z00 rfl [0, 1, 2, 3, 4, 6, 7] rfl rfl zkX11.1 (qr := 0) rfl rfl (Nat.le_of_ble_eq_true rfl) dX11_soonest_56 (fun z25 => ?_)
          replace h := ob h
          obtain ⟨u26, hu27, h⟩ := h
          refine xi_callV C (kX11_calls l D cT a_t a_t_now a_t_told a_t_one a_t_other a_t_forth a_t_cost a_t_broken a_t_away a_t_text a_t_worth a_t_choice a_t_thought a_t_before a_t_deep a_t_price a_t_undo a_t_slots a_t_isSaved t_thrown t_length t_textSize t_start t_next t_token t_value t_error t_errorAt t_number t_isFirst t_limitNow t_undos t_told t_one t_other t_forth t_thought t_before u23 u26 hu27) zcX11_calls zmX11_249 ziX11_calls (zr rfl rfl) z00 rfl [0, 2, 3, 4, 5, 8, 9] rfl rfl rfl [some 0, none, some 1, some 2, some 3, some 4, none, none, some 5, some 6] (by decide +kernel) (ws2 := [(a_t, .inr (11, [.int t_thrown, .ref a_t_now, .ref a_t_told, .ref a_t_one, .ref a_t_other, .ref a_t_forth, .ref a_t_cost, .ref a_t_broken, .ref a_t_away, .ref a_t_text, .int t_length, .int t_textSize, .int t_start, .int t_next, .int t_token, .int t_value, .int t_error, .int t_errorAt, .int t_number, .int t_isFirst, .ref a_t_worth, .ref a_t_choice, .ref a_t_thought, .ref a_t_before, .ref a_t_deep, .int t_limitNow, .ref a_t_price, .int t_undos, .ref a_t_undo, .ref a_t_slots, .ref a_t_isSaved])), (a_t_now, .inl (cT 0, 514, .inl t_now)), (a_t_told, .inl (cT 0, 8, .inl t_told)), (a_t_one, .inl (cT 0, 48, .inl t_one)), (a_t_other, .inl (cT 0, 48, .inl t_other)), (a_t_forth, .inl (cT 0, 48, .inl t_forth)), (a_t_broken, .inl (cT 0, 72, .inl t_broken)), (a_t_away, .inl (cT 0, 72, .inl t_away)), (a_t_thought, .inl (cT 0, 10, .inl u26.1)), (a_t_before, .inl (cT 0, 10, .inl u26.2))]) rfl zkX11.1 (qr := 0) rfl rfl (Nat.le_of_ble_eq_true rfl) dX11_soonest_59 (fun z28 => ?_)
          refine xi_goto C (tgt := 24) dX11_soonest_62 rfl ?_
          exact ih (y3 + 1) t_thrown u26.1 u26.2 h
  refine xi_drop (L2 := [(0, .ref a_t), (1, .int x1), (2, .int x2)]) [0, 1, 2] rfl ?_
  refine xi_aload_n C 0 dX11_soonest_0 rfl ?_
  refine xi_iload_n C 1 dX11_soonest_1 rfl ?_
  replace h := ob h
  obtain ⟨u1, hu2, h⟩ := h
  refine xi_callV C (kX11_noPerson l D cT a_t a_t_now a_t_told a_t_one a_t_other a_t_forth a_t_cost a_t_broken a_t_away a_t_text a_t_worth a_t_choice a_t_thought a_t_before a_t_deep a_t_price a_t_undo a_t_slots a_t_isSaved t_thrown t_length t_textSize t_start t_next t_token t_value t_error t_errorAt t_number t_isFirst t_limitNow t_undos t_told x1 u1 hu2) zcX11_noPerson zmX11_210 ziX11_noPerson (zr rfl rfl) z00 rfl [0, 2] rfl rfl rfl [some 0, none, some 1, none, none, none, none, none, none, none] (by decide +kernel) (ws2 := [(a_t, .inr (11, [.int u1.2, .ref a_t_now, .ref a_t_told, .ref a_t_one, .ref a_t_other, .ref a_t_forth, .ref a_t_cost, .ref a_t_broken, .ref a_t_away, .ref a_t_text, .int t_length, .int t_textSize, .int t_start, .int t_next, .int t_token, .int t_value, .int t_error, .int t_errorAt, .int t_number, .int t_isFirst, .ref a_t_worth, .ref a_t_choice, .ref a_t_thought, .ref a_t_before, .ref a_t_deep, .int t_limitNow, .ref a_t_price, .int t_undos, .ref a_t_undo, .ref a_t_slots, .ref a_t_isSaved])), (a_t_now, .inl (cT 0, 514, .inl t_now)), (a_t_told, .inl (cT 0, 8, .inl t_told)), (a_t_one, .inl (cT 0, 48, .inl t_one)), (a_t_other, .inl (cT 0, 48, .inl t_other)), (a_t_forth, .inl (cT 0, 48, .inl t_forth)), (a_t_broken, .inl (cT 0, 72, .inl t_broken)), (a_t_away, .inl (cT 0, 72, .inl t_away)), (a_t_thought, .inl (cT 0, 10, .inl t_thought)), (a_t_before, .inl (cT 0, 10, .inl t_before))]) rfl zkX11.1 (qr := 0) rfl rfl (Nat.le_of_ble_eq_true rfl) dX11_soonest_2 (fun z3 => ?_)
  refine xi_if_ne C (tgt := 16) dX11_soonest_5 rfl (fun c4 => ?_) (fun c4 => ?_)
  · replace h := (if_neg c4).symm.trans h
    refine xi_iconst C (v := 0) dX11_soonest_16 rfl ?_
    obtain rfl := Option.some.inj h
    exact hE _ _ _ dX11_soonest_17 rfl
  · replace h := (if_pos c4).symm.trans h
    refine xi_aload_n C 0 dX11_soonest_8 rfl ?_
    refine xi_iload_n C 2 dX11_soonest_9 rfl ?_
    replace h := ob h
    obtain ⟨u5, hu6, h⟩ := h
    refine xi_callV C (kX11_noPerson l D cT a_t a_t_now a_t_told a_t_one a_t_other a_t_forth a_t_cost a_t_broken a_t_away a_t_text a_t_worth a_t_choice a_t_thought a_t_before a_t_deep a_t_price a_t_undo a_t_slots a_t_isSaved u1.2 t_length t_textSize t_start t_next t_token t_value t_error t_errorAt t_number t_isFirst t_limitNow t_undos t_told x2 u5 hu6) zcX11_noPerson zmX11_210 ziX11_noPerson (zr rfl rfl) z00 rfl [0, 2] rfl rfl rfl [some 0, none, some 1, none, none, none, none, none, none, none] (by decide +kernel) (ws2 := [(a_t, .inr (11, [.int u5.2, .ref a_t_now, .ref a_t_told, .ref a_t_one, .ref a_t_other, .ref a_t_forth, .ref a_t_cost, .ref a_t_broken, .ref a_t_away, .ref a_t_text, .int t_length, .int t_textSize, .int t_start, .int t_next, .int t_token, .int t_value, .int t_error, .int t_errorAt, .int t_number, .int t_isFirst, .ref a_t_worth, .ref a_t_choice, .ref a_t_thought, .ref a_t_before, .ref a_t_deep, .int t_limitNow, .ref a_t_price, .int t_undos, .ref a_t_undo, .ref a_t_slots, .ref a_t_isSaved])), (a_t_now, .inl (cT 0, 514, .inl t_now)), (a_t_told, .inl (cT 0, 8, .inl t_told)), (a_t_one, .inl (cT 0, 48, .inl t_one)), (a_t_other, .inl (cT 0, 48, .inl t_other)), (a_t_forth, .inl (cT 0, 48, .inl t_forth)), (a_t_broken, .inl (cT 0, 72, .inl t_broken)), (a_t_away, .inl (cT 0, 72, .inl t_away)), (a_t_thought, .inl (cT 0, 10, .inl t_thought)), (a_t_before, .inl (cT 0, 10, .inl t_before))]) rfl zkX11.1 (qr := 0) rfl rfl (Nat.le_of_ble_eq_true rfl) dX11_soonest_10 (fun z7 => ?_)
    refine xi_if_eq C (tgt := 18) dX11_soonest_13 rfl (fun c8 => ?_) (fun c8 => ?_)
    · replace h := (if_pos c8).symm.trans h
      refine xi_aload_n C 0 dX11_soonest_18 rfl ?_
      replace h := ob h
      obtain ⟨u9, hu10, h⟩ := h
      refine xi_callV C (kX11_thinks l D cT a_t a_t_now a_t_told a_t_one a_t_other a_t_forth a_t_cost a_t_broken a_t_away a_t_text a_t_worth a_t_choice a_t_thought a_t_before a_t_deep a_t_price a_t_undo a_t_slots a_t_isSaved u5.2 t_length t_textSize t_start t_next t_token t_value t_error t_errorAt t_number t_isFirst t_limitNow t_undos t_now t_told t_thought u9 hu10) zcX11_thinks zmX11_246 ziX11_thinks (zr rfl rfl) z00 rfl [0, 1, 2, 8] rfl rfl rfl [some 0, some 1, some 2, none, none, none, none, none, some 3, none] (by decide +kernel) (ws2 := [(a_t, .inr (11, [.int u5.2, .ref a_t_now, .ref a_t_told, .ref a_t_one, .ref a_t_other, .ref a_t_forth, .ref a_t_cost, .ref a_t_broken, .ref a_t_away, .ref a_t_text, .int t_length, .int t_textSize, .int t_start, .int t_next, .int t_token, .int t_value, .int t_error, .int t_errorAt, .int t_number, .int t_isFirst, .ref a_t_worth, .ref a_t_choice, .ref a_t_thought, .ref a_t_before, .ref a_t_deep, .int t_limitNow, .ref a_t_price, .int t_undos, .ref a_t_undo, .ref a_t_slots, .ref a_t_isSaved])), (a_t_now, .inl (cT 0, 514, .inl t_now)), (a_t_told, .inl (cT 0, 8, .inl t_told)), (a_t_one, .inl (cT 0, 48, .inl t_one)), (a_t_other, .inl (cT 0, 48, .inl t_other)), (a_t_forth, .inl (cT 0, 48, .inl t_forth)), (a_t_broken, .inl (cT 0, 72, .inl t_broken)), (a_t_away, .inl (cT 0, 72, .inl t_away)), (a_t_thought, .inl (cT 0, 10, .inl u9)), (a_t_before, .inl (cT 0, 10, .inl t_before))]) rfl zkX11.1 (qr := 0) rfl rfl (Nat.le_of_ble_eq_true rfl) dX11_soonest_19 (fun z11 => ?_)
      refine xi_iconst C (v := 0) dX11_soonest_22 rfl ?_
      refine xi_istore_n C [1, 2, 3, 0] (L2 := [(0, .ref a_t), (1, .int x1), (2, .int x2), (3, .int 0)]) dX11_soonest_23 (Nat.le_of_ble_eq_true rfl) rfl ?_
      exact B24 FU 0 u5.2 u9 t_before h
    · replace h := (if_neg c8).symm.trans h
      refine xi_iconst C (v := 0) dX11_soonest_16 rfl ?_
      obtain rfl := Option.some.inj h
      exact hE _ _ _ dX11_soonest_17 rfl
def fX11_cheaper (t_price : Nat → Int32) (x1 : Int32) (x2 : Int32) (x3 : Int32) : Option (Int32 × (Nat → Int32)) := gd x1 10 (if (t_price x1.toNatClampNeg) = 1000000 then some (0, t_price) else gd x2 10 (if ((t_price x1.toNatClampNeg) + x3) < (t_price x2.toNatClampNeg) then some (1, upd t_price x2.toNatClampNeg ((t_price x1.toNatClampNeg) + x3)) else some (0, t_price)))
set_option maxRecDepth 100000 in
set_option maxHeartbeats 4000000 in
theorem kX11_cheaper (l : Launch) (D : va_G) (cT : Nat → ClassId) (a_t : Nat) (a_t_now : Nat) (a_t_told : Nat) (a_t_one : Nat) (a_t_other : Nat) (a_t_forth : Nat) (a_t_cost : Nat) (a_t_broken : Nat) (a_t_away : Nat) (a_t_text : Nat) (a_t_worth : Nat) (a_t_choice : Nat) (a_t_thought : Nat) (a_t_before : Nat) (a_t_deep : Nat) (a_t_price : Nat) (a_t_undo : Nat) (a_t_slots : Nat) (a_t_isSaved : Nat) (t_thrown : Int32) (t_length : Int32) (t_textSize : Int32) (t_start : Int32) (t_next : Int32) (t_token : Int32) (t_value : Int32) (t_error : Int32) (t_errorAt : Int32) (t_number : Int32) (t_isFirst : Int32) (t_limitNow : Int32) (t_undos : Int32) (t_price : Nat → Int32) (x1 : Int32) (x2 : Int32) (x3 : Int32) (r : Int32 × (Nat → Int32)) (h : fX11_cheaper t_price x1 x2 x3 = some r) : sM l yX11_cheaper cX11_cheaper 4 (some .boolean) (zR 1) D cT [.ref a_t, .int x1, .int x2, .int x3] [(a_t, .inr (11, [.int t_thrown, .ref a_t_now, .ref a_t_told, .ref a_t_one, .ref a_t_other, .ref a_t_forth, .ref a_t_cost, .ref a_t_broken, .ref a_t_away, .ref a_t_text, .int t_length, .int t_textSize, .int t_start, .int t_next, .int t_token, .int t_value, .int t_error, .int t_errorAt, .int t_number, .int t_isFirst, .ref a_t_worth, .ref a_t_choice, .ref a_t_thought, .ref a_t_before, .ref a_t_deep, .int t_limitNow, .ref a_t_price, .int t_undos, .ref a_t_undo, .ref a_t_slots, .ref a_t_isSaved])), (a_t_price, .inl (cT 0, 10, .inl t_price))] (some (.int r.1)) [(a_t, .inr (11, [.int t_thrown, .ref a_t_now, .ref a_t_told, .ref a_t_one, .ref a_t_other, .ref a_t_forth, .ref a_t_cost, .ref a_t_broken, .ref a_t_away, .ref a_t_text, .int t_length, .int t_textSize, .int t_start, .int t_next, .int t_token, .int t_value, .int t_error, .int t_errorAt, .int t_number, .int t_isFirst, .ref a_t_worth, .ref a_t_choice, .ref a_t_thought, .ref a_t_before, .ref a_t_deep, .int t_limitNow, .ref a_t_price, .int t_undos, .ref a_t_undo, .ref a_t_slots, .ref a_t_isSaved])), (a_t_price, .inl (cT 0, 10, .inl r.2))] := by
  refine sM_bool rfl (Nat.le_of_ble_eq_true rfl) ?_
  intro X C hE
  refine xi_drop (L2 := [(0, .ref a_t), (1, .int x1), (2, .int x2), (3, .int x3)]) [0, 1, 2, 3] rfl ?_
  refine xi_aload_n C 0 dX11_cheaper_0 rfl ?_
  refine xi_get C zkX11 26 0 zlX11_58 (by decide) rfl rfl dX11_cheaper_1 ?_
  refine xi_iload_n C 1 dX11_cheaper_4 rfl ?_
  replace h := ig h
  obtain ⟨c1, h⟩ := h
  refine xi_iald C 1 rfl c1 dX11_cheaper_5 ?_
  refine xi_ldcw C (v := 1000000) zcoX11_277 dX11_cheaper_6 ?_
  refine xi_icmp_eq C (tgt := 29) dX11_cheaper_9 rfl (fun c2 => ?_) (fun c2 => ?_)
  · replace h := (if_pos c2).symm.trans h
    refine xi_iconst C (v := 0) dX11_cheaper_29 rfl ?_
    obtain rfl := Option.some.inj h
    exact hE _ _ _ dX11_cheaper_30 rfl rfl
  · replace h := (if_neg c2).symm.trans h
    refine xi_aload_n C 0 dX11_cheaper_12 rfl ?_
    refine xi_get C zkX11 26 0 zlX11_58 (by decide) rfl rfl dX11_cheaper_13 ?_
    refine xi_iload_n C 1 dX11_cheaper_16 rfl ?_
    refine xi_iald C 1 rfl c1 dX11_cheaper_17 ?_
    refine xi_iload_n C 3 dX11_cheaper_18 rfl ?_
    refine xi_iadd C dX11_cheaper_19 ?_
    refine xi_aload_n C 0 dX11_cheaper_20 rfl ?_
    refine xi_get C zkX11 26 0 zlX11_58 (by decide) rfl rfl dX11_cheaper_21 ?_
    refine xi_iload_n C 2 dX11_cheaper_24 rfl ?_
    replace h := ig h
    obtain ⟨c3, h⟩ := h
    refine xi_iald C 1 rfl c3 dX11_cheaper_25 ?_
    refine xi_icmp_lt C (tgt := 31) dX11_cheaper_26 rfl (fun c4 => ?_) (fun c4 => ?_)
    · replace h := (if_pos c4).symm.trans h
      refine xi_aload_n C 0 dX11_cheaper_31 rfl ?_
      refine xi_get C zkX11 26 0 zlX11_58 (by decide) rfl rfl dX11_cheaper_32 ?_
      refine xi_iload_n C 2 dX11_cheaper_35 rfl ?_
      refine xi_aload_n C 0 dX11_cheaper_36 rfl ?_
      refine xi_get C zkX11 26 0 zlX11_58 (by decide) rfl rfl dX11_cheaper_37 ?_
      refine xi_iload_n C 1 dX11_cheaper_40 rfl ?_
      refine xi_iald C 1 rfl c1 dX11_cheaper_41 ?_
      refine xi_iload_n C 3 dX11_cheaper_42 rfl ?_
      refine xi_iadd C dX11_cheaper_43 ?_
      refine xi_iast C 1 rfl c3 dX11_cheaper_44 (ws2 := [(a_t, .inr (11, [.int t_thrown, .ref a_t_now, .ref a_t_told, .ref a_t_one, .ref a_t_other, .ref a_t_forth, .ref a_t_cost, .ref a_t_broken, .ref a_t_away, .ref a_t_text, .int t_length, .int t_textSize, .int t_start, .int t_next, .int t_token, .int t_value, .int t_error, .int t_errorAt, .int t_number, .int t_isFirst, .ref a_t_worth, .ref a_t_choice, .ref a_t_thought, .ref a_t_before, .ref a_t_deep, .int t_limitNow, .ref a_t_price, .int t_undos, .ref a_t_undo, .ref a_t_slots, .ref a_t_isSaved])), (a_t_price, .inl (cT 0, 10, .inl (upd t_price x2.toNatClampNeg ((t_price x1.toNatClampNeg) + x3))))]) rfl ?_
      refine xi_iconst C (v := 1) dX11_cheaper_45 rfl ?_
      obtain rfl := Option.some.inj h
      exact hE _ _ _ dX11_cheaper_46 rfl rfl
    · replace h := (if_neg c4).symm.trans h
      refine xi_iconst C (v := 0) dX11_cheaper_29 rfl ?_
      obtain rfl := Option.some.inj h
      exact hE _ _ _ dX11_cheaper_30 rfl rfl
def fX11_prices_b160 (K48 : Int32 → (Nat → Int32) → Option ((Nat → Int32))) (y3 : Int32) (t_price : Nat → Int32) : Option ((Nat → Int32)) := K48 y3 t_price
def fX11_prices_b152 (K57 : Int32 → Int32 → (Nat → Int32) → Option ((Nat → Int32))) (y4 : Int32) (s0 : Int32) (s1 : Int32) (t_price : Nat → Int32) : Option ((Nat → Int32)) := K57 (s1 ||| s0) (y4 + 1) t_price
def fX11_prices_b151 (K57 : Int32 → Int32 → (Nat → Int32) → Option ((Nat → Int32))) (y4 : Int32) (s0 : Int32) (t_price : Nat → Int32) : Option ((Nat → Int32)) := fX11_prices_b152 K57 y4 0 s0 t_price
def fX11_prices_b57 (t_told : Nat → Int32) (t_one : Nat → Int32) (t_other : Nat → Int32) (t_forth : Nat → Int32) (t_cost : Nat → Int32) (x2 : Int32) (K48 : Int32 → (Nat → Int32) → Option ((Nat → Int32))) : Nat → Int32 → Int32 → (Nat → Int32) → Option ((Nat → Int32))
  | 0, _, _, _ => none
  | n + 1, y3, y4, t_price => if (t_told 1) ≤ y4 then fX11_prices_b160 K48 y3 t_price else if (fX11_isIn x2 y4) = 0 then gd y4 48 ((fX11_cheaper t_price (t_one y4.toNatClampNeg) (t_other y4.toNatClampNeg) (t_cost y4.toNatClampNeg)).bind (fun u9 => if (t_forth y4.toNatClampNeg) = 0 then (fX11_cheaper u9.2 (t_other y4.toNatClampNeg) (t_one y4.toNatClampNeg) (t_cost y4.toNatClampNeg)).bind (fun u13 => if u13.1 = 0 then fX11_prices_b151 (fX11_prices_b57 t_told t_one t_other t_forth t_cost x2 K48 n) y4 (y3 ||| u9.1) u13.2 else fX11_prices_b152 (fX11_prices_b57 t_told t_one t_other t_forth t_cost x2 K48 n) y4 1 (y3 ||| u9.1) u13.2) else fX11_prices_b151 (fX11_prices_b57 t_told t_one t_other t_forth t_cost x2 K48 n) y4 (y3 ||| u9.1) u9.2)) else (fX11_prices_b57 t_told t_one t_other t_forth t_cost x2 K48 n) y3 (y4 + 1) t_price
theorem fX11_prices_b57_0 (t_told : Nat → Int32) (t_one : Nat → Int32) (t_other : Nat → Int32) (t_forth : Nat → Int32) (t_cost : Nat → Int32) (x2 : Int32) (K48 : Int32 → (Nat → Int32) → Option ((Nat → Int32))) (y3 : Int32) (y4 : Int32) (t_price : Nat → Int32) : fX11_prices_b57 t_told t_one t_other t_forth t_cost x2 K48 0 y3 y4 t_price = none := rfl
theorem fX11_prices_b57_s (t_told : Nat → Int32) (t_one : Nat → Int32) (t_other : Nat → Int32) (t_forth : Nat → Int32) (t_cost : Nat → Int32) (x2 : Int32) (K48 : Int32 → (Nat → Int32) → Option ((Nat → Int32))) (n : Nat) (y3 : Int32) (y4 : Int32) (t_price : Nat → Int32) : fX11_prices_b57 t_told t_one t_other t_forth t_cost x2 K48 (n + 1) y3 y4 t_price = (if (t_told 1) ≤ y4 then fX11_prices_b160 K48 y3 t_price else if (fX11_isIn x2 y4) = 0 then gd y4 48 ((fX11_cheaper t_price (t_one y4.toNatClampNeg) (t_other y4.toNatClampNeg) (t_cost y4.toNatClampNeg)).bind (fun u9 => if (t_forth y4.toNatClampNeg) = 0 then (fX11_cheaper u9.2 (t_other y4.toNatClampNeg) (t_one y4.toNatClampNeg) (t_cost y4.toNatClampNeg)).bind (fun u13 => if u13.1 = 0 then fX11_prices_b151 (fX11_prices_b57 t_told t_one t_other t_forth t_cost x2 K48 n) y4 (y3 ||| u9.1) u13.2 else fX11_prices_b152 (fX11_prices_b57 t_told t_one t_other t_forth t_cost x2 K48 n) y4 1 (y3 ||| u9.1) u13.2) else fX11_prices_b151 (fX11_prices_b57 t_told t_one t_other t_forth t_cost x2 K48 n) y4 (y3 ||| u9.1) u9.2)) else (fX11_prices_b57 t_told t_one t_other t_forth t_cost x2 K48 n) y3 (y4 + 1) t_price) := rfl
def fX11_prices_b48 (t_told : Nat → Int32) (t_one : Nat → Int32) (t_other : Nat → Int32) (t_forth : Nat → Int32) (t_cost : Nat → Int32) (x2 : Int32) : Nat → Int32 → (Nat → Int32) → Option ((Nat → Int32))
  | 0, _, _ => none
  | n + 1, y3, t_price => if y3 = 0 then some t_price else fX11_prices_b57 t_told t_one t_other t_forth t_cost x2 (fX11_prices_b48 t_told t_one t_other t_forth t_cost x2 n) FU 0 0 t_price
theorem fX11_prices_b48_0 (t_told : Nat → Int32) (t_one : Nat → Int32) (t_other : Nat → Int32) (t_forth : Nat → Int32) (t_cost : Nat → Int32) (x2 : Int32) (y3 : Int32) (t_price : Nat → Int32) : fX11_prices_b48 t_told t_one t_other t_forth t_cost x2 0 y3 t_price = none := rfl
theorem fX11_prices_b48_s (t_told : Nat → Int32) (t_one : Nat → Int32) (t_other : Nat → Int32) (t_forth : Nat → Int32) (t_cost : Nat → Int32) (x2 : Int32) (n : Nat) (y3 : Int32) (t_price : Nat → Int32) : fX11_prices_b48 t_told t_one t_other t_forth t_cost x2 (n + 1) y3 t_price = (if y3 = 0 then some t_price else fX11_prices_b57 t_told t_one t_other t_forth t_cost x2 (fX11_prices_b48 t_told t_one t_other t_forth t_cost x2 n) FU 0 0 t_price) := rfl
def fX11_prices_b39 (K2 : Int32 → (Nat → Int32) → Option ((Nat → Int32))) (y3 : Int32) (s0 : Int32) (s1 : Int32) (t_price : Nat → Int32) : Option ((Nat → Int32)) := gd s1 10 (K2 (y3 + 1) (upd t_price s1.toNatClampNeg s0))
def fX11_prices_b2 (t_now : Nat → Int32) (t_told : Nat → Int32) (t_one : Nat → Int32) (t_other : Nat → Int32) (t_forth : Nat → Int32) (t_cost : Nat → Int32) (x1 : Int32) (x2 : Int32) : Nat → Int32 → (Nat → Int32) → Option ((Nat → Int32))
  | 0, _, _ => none
  | n + 1, y3, t_price => if (t_told 0) ≤ y3 then fX11_prices_b48 t_told t_one t_other t_forth t_cost x2 FU 1 t_price else gd (4 + y3) 514 (if (fX11_isIn (t_now (4 + y3).toNatClampNeg) x1) = 0 then fX11_prices_b39 (fX11_prices_b2 t_now t_told t_one t_other t_forth t_cost x1 x2 n) y3 1000000 y3 t_price else fX11_prices_b39 (fX11_prices_b2 t_now t_told t_one t_other t_forth t_cost x1 x2 n) y3 0 y3 t_price)
theorem fX11_prices_b2_0 (t_now : Nat → Int32) (t_told : Nat → Int32) (t_one : Nat → Int32) (t_other : Nat → Int32) (t_forth : Nat → Int32) (t_cost : Nat → Int32) (x1 : Int32) (x2 : Int32) (y3 : Int32) (t_price : Nat → Int32) : fX11_prices_b2 t_now t_told t_one t_other t_forth t_cost x1 x2 0 y3 t_price = none := rfl
theorem fX11_prices_b2_s (t_now : Nat → Int32) (t_told : Nat → Int32) (t_one : Nat → Int32) (t_other : Nat → Int32) (t_forth : Nat → Int32) (t_cost : Nat → Int32) (x1 : Int32) (x2 : Int32) (n : Nat) (y3 : Int32) (t_price : Nat → Int32) : fX11_prices_b2 t_now t_told t_one t_other t_forth t_cost x1 x2 (n + 1) y3 t_price = (if (t_told 0) ≤ y3 then fX11_prices_b48 t_told t_one t_other t_forth t_cost x2 FU 1 t_price else gd (4 + y3) 514 (if (fX11_isIn (t_now (4 + y3).toNatClampNeg) x1) = 0 then fX11_prices_b39 (fX11_prices_b2 t_now t_told t_one t_other t_forth t_cost x1 x2 n) y3 1000000 y3 t_price else fX11_prices_b39 (fX11_prices_b2 t_now t_told t_one t_other t_forth t_cost x1 x2 n) y3 0 y3 t_price)) := rfl
def fX11_prices (t_now : Nat → Int32) (t_told : Nat → Int32) (t_one : Nat → Int32) (t_other : Nat → Int32) (t_forth : Nat → Int32) (t_cost : Nat → Int32) (t_price : Nat → Int32) (x1 : Int32) (x2 : Int32) : Option ((Nat → Int32)) := fX11_prices_b2 t_now t_told t_one t_other t_forth t_cost x1 x2 FU 0 t_price
set_option maxRecDepth 100000 in
set_option maxHeartbeats 4000000 in
theorem kX11_prices (l : Launch) (D : va_G) (cT : Nat → ClassId) (a_t : Nat) (a_t_now : Nat) (a_t_told : Nat) (a_t_one : Nat) (a_t_other : Nat) (a_t_forth : Nat) (a_t_cost : Nat) (a_t_broken : Nat) (a_t_away : Nat) (a_t_text : Nat) (a_t_worth : Nat) (a_t_choice : Nat) (a_t_thought : Nat) (a_t_before : Nat) (a_t_deep : Nat) (a_t_price : Nat) (a_t_undo : Nat) (a_t_slots : Nat) (a_t_isSaved : Nat) (t_thrown : Int32) (t_length : Int32) (t_textSize : Int32) (t_start : Int32) (t_next : Int32) (t_token : Int32) (t_value : Int32) (t_error : Int32) (t_errorAt : Int32) (t_number : Int32) (t_isFirst : Int32) (t_limitNow : Int32) (t_undos : Int32) (t_now : Nat → Int32) (t_told : Nat → Int32) (t_one : Nat → Int32) (t_other : Nat → Int32) (t_forth : Nat → Int32) (t_cost : Nat → Int32) (t_price : Nat → Int32) (x1 : Int32) (x2 : Int32) (r : (Nat → Int32)) (h : fX11_prices t_now t_told t_one t_other t_forth t_cost t_price x1 x2 = some r) : sM l yX11_prices cX11_prices 5 none (zR 2) D cT [.ref a_t, .int x1, .int x2] [(a_t, .inr (11, [.int t_thrown, .ref a_t_now, .ref a_t_told, .ref a_t_one, .ref a_t_other, .ref a_t_forth, .ref a_t_cost, .ref a_t_broken, .ref a_t_away, .ref a_t_text, .int t_length, .int t_textSize, .int t_start, .int t_next, .int t_token, .int t_value, .int t_error, .int t_errorAt, .int t_number, .int t_isFirst, .ref a_t_worth, .ref a_t_choice, .ref a_t_thought, .ref a_t_before, .ref a_t_deep, .int t_limitNow, .ref a_t_price, .int t_undos, .ref a_t_undo, .ref a_t_slots, .ref a_t_isSaved])), (a_t_now, .inl (cT 0, 514, .inl t_now)), (a_t_told, .inl (cT 0, 8, .inl t_told)), (a_t_one, .inl (cT 0, 48, .inl t_one)), (a_t_other, .inl (cT 0, 48, .inl t_other)), (a_t_forth, .inl (cT 0, 48, .inl t_forth)), (a_t_cost, .inl (cT 0, 48, .inl t_cost)), (a_t_price, .inl (cT 0, 10, .inl t_price))] none [(a_t, .inr (11, [.int t_thrown, .ref a_t_now, .ref a_t_told, .ref a_t_one, .ref a_t_other, .ref a_t_forth, .ref a_t_cost, .ref a_t_broken, .ref a_t_away, .ref a_t_text, .int t_length, .int t_textSize, .int t_start, .int t_next, .int t_token, .int t_value, .int t_error, .int t_errorAt, .int t_number, .int t_isFirst, .ref a_t_worth, .ref a_t_choice, .ref a_t_thought, .ref a_t_before, .ref a_t_deep, .int t_limitNow, .ref a_t_price, .int t_undos, .ref a_t_undo, .ref a_t_slots, .ref a_t_isSaved])), (a_t_now, .inl (cT 0, 514, .inl t_now)), (a_t_told, .inl (cT 0, 8, .inl t_told)), (a_t_one, .inl (cT 0, 48, .inl t_one)), (a_t_other, .inl (cT 0, 48, .inl t_other)), (a_t_forth, .inl (cT 0, 48, .inl t_forth)), (a_t_cost, .inl (cT 0, 48, .inl t_cost)), (a_t_price, .inl (cT 0, 10, .inl r))] := by
  refine sM_void rfl (Nat.le_of_ble_eq_true rfl) ?_
  intro X C hE
  have B160 : ∀ (K48 : Int32 → (Nat → Int32) → Option ((Nat → Int32))) (hK48 : ∀ (y3 : Int32) (t_price : Nat → Int32), K48 y3 t_price = some r → sW X l (zR 2) D 5 0 0 48 [(0, .ref a_t), (2, .int x2), (3, .int y3)] [] [(a_t, .inr (11, [.int t_thrown, .ref a_t_now, .ref a_t_told, .ref a_t_one, .ref a_t_other, .ref a_t_forth, .ref a_t_cost, .ref a_t_broken, .ref a_t_away, .ref a_t_text, .int t_length, .int t_textSize, .int t_start, .int t_next, .int t_token, .int t_value, .int t_error, .int t_errorAt, .int t_number, .int t_isFirst, .ref a_t_worth, .ref a_t_choice, .ref a_t_thought, .ref a_t_before, .ref a_t_deep, .int t_limitNow, .ref a_t_price, .int t_undos, .ref a_t_undo, .ref a_t_slots, .ref a_t_isSaved])), (a_t_now, .inl (cT 0, 514, .inl t_now)), (a_t_told, .inl (cT 0, 8, .inl t_told)), (a_t_one, .inl (cT 0, 48, .inl t_one)), (a_t_other, .inl (cT 0, 48, .inl t_other)), (a_t_forth, .inl (cT 0, 48, .inl t_forth)), (a_t_cost, .inl (cT 0, 48, .inl t_cost)), (a_t_price, .inl (cT 0, 10, .inl t_price))]) (y3 : Int32) (t_price : Nat → Int32), fX11_prices_b160 K48 y3 t_price = some r → sW X l (zR 2) D 5 0 0 160 [(0, .ref a_t), (2, .int x2), (3, .int y3)] [] [(a_t, .inr (11, [.int t_thrown, .ref a_t_now, .ref a_t_told, .ref a_t_one, .ref a_t_other, .ref a_t_forth, .ref a_t_cost, .ref a_t_broken, .ref a_t_away, .ref a_t_text, .int t_length, .int t_textSize, .int t_start, .int t_next, .int t_token, .int t_value, .int t_error, .int t_errorAt, .int t_number, .int t_isFirst, .ref a_t_worth, .ref a_t_choice, .ref a_t_thought, .ref a_t_before, .ref a_t_deep, .int t_limitNow, .ref a_t_price, .int t_undos, .ref a_t_undo, .ref a_t_slots, .ref a_t_isSaved])), (a_t_now, .inl (cT 0, 514, .inl t_now)), (a_t_told, .inl (cT 0, 8, .inl t_told)), (a_t_one, .inl (cT 0, 48, .inl t_one)), (a_t_other, .inl (cT 0, 48, .inl t_other)), (a_t_forth, .inl (cT 0, 48, .inl t_forth)), (a_t_cost, .inl (cT 0, 48, .inl t_cost)), (a_t_price, .inl (cT 0, 10, .inl t_price))] := by
    intro K48 hK48 y3 t_price h
    refine xi_goto C (tgt := 48) dX11_prices_160 rfl ?_
    exact hK48 y3 t_price h
  have B152 : ∀ (K48 : Int32 → (Nat → Int32) → Option ((Nat → Int32))) (hK48 : ∀ (y3 : Int32) (t_price : Nat → Int32), K48 y3 t_price = some r → sW X l (zR 2) D 5 0 0 48 [(0, .ref a_t), (2, .int x2), (3, .int y3)] [] [(a_t, .inr (11, [.int t_thrown, .ref a_t_now, .ref a_t_told, .ref a_t_one, .ref a_t_other, .ref a_t_forth, .ref a_t_cost, .ref a_t_broken, .ref a_t_away, .ref a_t_text, .int t_length, .int t_textSize, .int t_start, .int t_next, .int t_token, .int t_value, .int t_error, .int t_errorAt, .int t_number, .int t_isFirst, .ref a_t_worth, .ref a_t_choice, .ref a_t_thought, .ref a_t_before, .ref a_t_deep, .int t_limitNow, .ref a_t_price, .int t_undos, .ref a_t_undo, .ref a_t_slots, .ref a_t_isSaved])), (a_t_now, .inl (cT 0, 514, .inl t_now)), (a_t_told, .inl (cT 0, 8, .inl t_told)), (a_t_one, .inl (cT 0, 48, .inl t_one)), (a_t_other, .inl (cT 0, 48, .inl t_other)), (a_t_forth, .inl (cT 0, 48, .inl t_forth)), (a_t_cost, .inl (cT 0, 48, .inl t_cost)), (a_t_price, .inl (cT 0, 10, .inl t_price))]) (K57 : Int32 → Int32 → (Nat → Int32) → Option ((Nat → Int32))) (hK57 : ∀ (y3 : Int32) (y4 : Int32) (t_price : Nat → Int32), K57 y3 y4 t_price = some r → sW X l (zR 2) D 5 0 0 57 [(0, .ref a_t), (2, .int x2), (3, .int y3), (4, .int y4)] [] [(a_t, .inr (11, [.int t_thrown, .ref a_t_now, .ref a_t_told, .ref a_t_one, .ref a_t_other, .ref a_t_forth, .ref a_t_cost, .ref a_t_broken, .ref a_t_away, .ref a_t_text, .int t_length, .int t_textSize, .int t_start, .int t_next, .int t_token, .int t_value, .int t_error, .int t_errorAt, .int t_number, .int t_isFirst, .ref a_t_worth, .ref a_t_choice, .ref a_t_thought, .ref a_t_before, .ref a_t_deep, .int t_limitNow, .ref a_t_price, .int t_undos, .ref a_t_undo, .ref a_t_slots, .ref a_t_isSaved])), (a_t_now, .inl (cT 0, 514, .inl t_now)), (a_t_told, .inl (cT 0, 8, .inl t_told)), (a_t_one, .inl (cT 0, 48, .inl t_one)), (a_t_other, .inl (cT 0, 48, .inl t_other)), (a_t_forth, .inl (cT 0, 48, .inl t_forth)), (a_t_cost, .inl (cT 0, 48, .inl t_cost)), (a_t_price, .inl (cT 0, 10, .inl t_price))]) (y4 : Int32) (s0 : Int32) (s1 : Int32) (t_price : Nat → Int32), fX11_prices_b152 K57 y4 s0 s1 t_price = some r → sW X l (zR 2) D 5 0 0 152 [(0, .ref a_t), (2, .int x2), (4, .int y4)] [.int s0, .int s1] [(a_t, .inr (11, [.int t_thrown, .ref a_t_now, .ref a_t_told, .ref a_t_one, .ref a_t_other, .ref a_t_forth, .ref a_t_cost, .ref a_t_broken, .ref a_t_away, .ref a_t_text, .int t_length, .int t_textSize, .int t_start, .int t_next, .int t_token, .int t_value, .int t_error, .int t_errorAt, .int t_number, .int t_isFirst, .ref a_t_worth, .ref a_t_choice, .ref a_t_thought, .ref a_t_before, .ref a_t_deep, .int t_limitNow, .ref a_t_price, .int t_undos, .ref a_t_undo, .ref a_t_slots, .ref a_t_isSaved])), (a_t_now, .inl (cT 0, 514, .inl t_now)), (a_t_told, .inl (cT 0, 8, .inl t_told)), (a_t_one, .inl (cT 0, 48, .inl t_one)), (a_t_other, .inl (cT 0, 48, .inl t_other)), (a_t_forth, .inl (cT 0, 48, .inl t_forth)), (a_t_cost, .inl (cT 0, 48, .inl t_cost)), (a_t_price, .inl (cT 0, 10, .inl t_price))] := by
    intro K48 hK48 K57 hK57 y4 s0 s1 t_price h
    refine xi_ior C dX11_prices_152 ?_
    refine xi_istore_n C [1, 2, 0, 3] (L2 := [(0, .ref a_t), (2, .int x2), (3, .int (s1 ||| s0)), (4, .int y4)]) dX11_prices_153 (Nat.le_of_ble_eq_true rfl) rfl ?_
    refine xi_iinc C (v := y4 + 1) 3 [1, 2, 3, 0] (L2 := [(0, .ref a_t), (2, .int x2), (3, .int (s1 ||| s0)), (4, .int (y4 + 1))]) dX11_prices_154 rfl rfl (Nat.le_of_ble_eq_true rfl) rfl ?_
    refine xi_goto C (tgt := 57) dX11_prices_157 rfl ?_
    exact hK57 (s1 ||| s0) (y4 + 1) t_price h
  have B151 : ∀ (K48 : Int32 → (Nat → Int32) → Option ((Nat → Int32))) (hK48 : ∀ (y3 : Int32) (t_price : Nat → Int32), K48 y3 t_price = some r → sW X l (zR 2) D 5 0 0 48 [(0, .ref a_t), (2, .int x2), (3, .int y3)] [] [(a_t, .inr (11, [.int t_thrown, .ref a_t_now, .ref a_t_told, .ref a_t_one, .ref a_t_other, .ref a_t_forth, .ref a_t_cost, .ref a_t_broken, .ref a_t_away, .ref a_t_text, .int t_length, .int t_textSize, .int t_start, .int t_next, .int t_token, .int t_value, .int t_error, .int t_errorAt, .int t_number, .int t_isFirst, .ref a_t_worth, .ref a_t_choice, .ref a_t_thought, .ref a_t_before, .ref a_t_deep, .int t_limitNow, .ref a_t_price, .int t_undos, .ref a_t_undo, .ref a_t_slots, .ref a_t_isSaved])), (a_t_now, .inl (cT 0, 514, .inl t_now)), (a_t_told, .inl (cT 0, 8, .inl t_told)), (a_t_one, .inl (cT 0, 48, .inl t_one)), (a_t_other, .inl (cT 0, 48, .inl t_other)), (a_t_forth, .inl (cT 0, 48, .inl t_forth)), (a_t_cost, .inl (cT 0, 48, .inl t_cost)), (a_t_price, .inl (cT 0, 10, .inl t_price))]) (K57 : Int32 → Int32 → (Nat → Int32) → Option ((Nat → Int32))) (hK57 : ∀ (y3 : Int32) (y4 : Int32) (t_price : Nat → Int32), K57 y3 y4 t_price = some r → sW X l (zR 2) D 5 0 0 57 [(0, .ref a_t), (2, .int x2), (3, .int y3), (4, .int y4)] [] [(a_t, .inr (11, [.int t_thrown, .ref a_t_now, .ref a_t_told, .ref a_t_one, .ref a_t_other, .ref a_t_forth, .ref a_t_cost, .ref a_t_broken, .ref a_t_away, .ref a_t_text, .int t_length, .int t_textSize, .int t_start, .int t_next, .int t_token, .int t_value, .int t_error, .int t_errorAt, .int t_number, .int t_isFirst, .ref a_t_worth, .ref a_t_choice, .ref a_t_thought, .ref a_t_before, .ref a_t_deep, .int t_limitNow, .ref a_t_price, .int t_undos, .ref a_t_undo, .ref a_t_slots, .ref a_t_isSaved])), (a_t_now, .inl (cT 0, 514, .inl t_now)), (a_t_told, .inl (cT 0, 8, .inl t_told)), (a_t_one, .inl (cT 0, 48, .inl t_one)), (a_t_other, .inl (cT 0, 48, .inl t_other)), (a_t_forth, .inl (cT 0, 48, .inl t_forth)), (a_t_cost, .inl (cT 0, 48, .inl t_cost)), (a_t_price, .inl (cT 0, 10, .inl t_price))]) (y4 : Int32) (s0 : Int32) (t_price : Nat → Int32), fX11_prices_b151 K57 y4 s0 t_price = some r → sW X l (zR 2) D 5 0 0 151 [(0, .ref a_t), (2, .int x2), (4, .int y4)] [.int s0] [(a_t, .inr (11, [.int t_thrown, .ref a_t_now, .ref a_t_told, .ref a_t_one, .ref a_t_other, .ref a_t_forth, .ref a_t_cost, .ref a_t_broken, .ref a_t_away, .ref a_t_text, .int t_length, .int t_textSize, .int t_start, .int t_next, .int t_token, .int t_value, .int t_error, .int t_errorAt, .int t_number, .int t_isFirst, .ref a_t_worth, .ref a_t_choice, .ref a_t_thought, .ref a_t_before, .ref a_t_deep, .int t_limitNow, .ref a_t_price, .int t_undos, .ref a_t_undo, .ref a_t_slots, .ref a_t_isSaved])), (a_t_now, .inl (cT 0, 514, .inl t_now)), (a_t_told, .inl (cT 0, 8, .inl t_told)), (a_t_one, .inl (cT 0, 48, .inl t_one)), (a_t_other, .inl (cT 0, 48, .inl t_other)), (a_t_forth, .inl (cT 0, 48, .inl t_forth)), (a_t_cost, .inl (cT 0, 48, .inl t_cost)), (a_t_price, .inl (cT 0, 10, .inl t_price))] := by
    intro K48 hK48 K57 hK57 y4 s0 t_price h
    refine xi_iconst C (v := 0) dX11_prices_151 rfl ?_
    exact B152 K48 hK48 K57 hK57 y4 0 s0 t_price h
  have B57 : ∀ (K48 : Int32 → (Nat → Int32) → Option ((Nat → Int32))) (hK48 : ∀ (y3 : Int32) (t_price : Nat → Int32), K48 y3 t_price = some r → sW X l (zR 2) D 5 0 0 48 [(0, .ref a_t), (2, .int x2), (3, .int y3)] [] [(a_t, .inr (11, [.int t_thrown, .ref a_t_now, .ref a_t_told, .ref a_t_one, .ref a_t_other, .ref a_t_forth, .ref a_t_cost, .ref a_t_broken, .ref a_t_away, .ref a_t_text, .int t_length, .int t_textSize, .int t_start, .int t_next, .int t_token, .int t_value, .int t_error, .int t_errorAt, .int t_number, .int t_isFirst, .ref a_t_worth, .ref a_t_choice, .ref a_t_thought, .ref a_t_before, .ref a_t_deep, .int t_limitNow, .ref a_t_price, .int t_undos, .ref a_t_undo, .ref a_t_slots, .ref a_t_isSaved])), (a_t_now, .inl (cT 0, 514, .inl t_now)), (a_t_told, .inl (cT 0, 8, .inl t_told)), (a_t_one, .inl (cT 0, 48, .inl t_one)), (a_t_other, .inl (cT 0, 48, .inl t_other)), (a_t_forth, .inl (cT 0, 48, .inl t_forth)), (a_t_cost, .inl (cT 0, 48, .inl t_cost)), (a_t_price, .inl (cT 0, 10, .inl t_price))]) (n : Nat) (y3 : Int32) (y4 : Int32) (t_price : Nat → Int32), fX11_prices_b57 t_told t_one t_other t_forth t_cost x2 K48 n y3 y4 t_price = some r → sW X l (zR 2) D 5 0 0 57 [(0, .ref a_t), (2, .int x2), (3, .int y3), (4, .int y4)] [] [(a_t, .inr (11, [.int t_thrown, .ref a_t_now, .ref a_t_told, .ref a_t_one, .ref a_t_other, .ref a_t_forth, .ref a_t_cost, .ref a_t_broken, .ref a_t_away, .ref a_t_text, .int t_length, .int t_textSize, .int t_start, .int t_next, .int t_token, .int t_value, .int t_error, .int t_errorAt, .int t_number, .int t_isFirst, .ref a_t_worth, .ref a_t_choice, .ref a_t_thought, .ref a_t_before, .ref a_t_deep, .int t_limitNow, .ref a_t_price, .int t_undos, .ref a_t_undo, .ref a_t_slots, .ref a_t_isSaved])), (a_t_now, .inl (cT 0, 514, .inl t_now)), (a_t_told, .inl (cT 0, 8, .inl t_told)), (a_t_one, .inl (cT 0, 48, .inl t_one)), (a_t_other, .inl (cT 0, 48, .inl t_other)), (a_t_forth, .inl (cT 0, 48, .inl t_forth)), (a_t_cost, .inl (cT 0, 48, .inl t_cost)), (a_t_price, .inl (cT 0, 10, .inl t_price))] := by
    intro K48 hK48 n
    induction n with
    | zero =>
      intro y3 y4 t_price h
      exact zno ((fX11_prices_b57_0 _ _ _ _ _ _ _ _ _ _).symm.trans h)
    | succ n ih =>
      intro y3 y4 t_price h
      replace h := (fX11_prices_b57_s _ _ _ _ _ _ _ _ _ _ _).symm.trans h
      refine xi_iload C 3 dX11_prices_57 rfl ?_
      refine xi_aload_n C 0 dX11_prices_59 rfl ?_
      refine xi_get C zkX11 2 0 zlX11_13 (by decide) rfl rfl dX11_prices_60 ?_
      refine xi_iconst C (v := 1) dX11_prices_63 rfl ?_
      refine xi_iald C 2 rfl (zv (by decide)) dX11_prices_64 ?_
      refine xi_icmp_ge C (tgt := 160) dX11_prices_65 rfl (fun c3 => ?_) (fun c3 => ?_)
      · replace h := (if_pos c3).symm.trans h
        refine xi_drop (L2 := [(0, .ref a_t), (2, .int x2), (3, .int y3)]) [0, 1, 2] rfl ?_
        exact B160 K48 hK48 y3 t_price h
      · replace h := (if_neg c3).symm.trans h
        refine xi_iload_n C 1 dX11_prices_68 rfl ?_
        refine xi_iload C 3 dX11_prices_69 rfl ?_
        refine xi_callSr C (kX11_isIn l D cT x2 y4 (fX11_isIn x2 y4) rfl) zcX11_isIn zmX11_201 zsX11_isIn (zr rfl rfl) z00 rfl [] rfl rfl rfl (Nat.le_of_ble_eq_true rfl) dX11_prices_71 (fun z6 => ?_)
        refine xi_if_eq C (tgt := 80) dX11_prices_74 rfl (fun c7 => ?_) (fun c7 => ?_)
        · replace h := (if_pos c7).symm.trans h
          refine xi_iload_n C 2 dX11_prices_80 rfl ?_
          refine xi_aload_n C 0 dX11_prices_81 rfl ?_
          refine xi_aload_n C 0 dX11_prices_82 rfl ?_
          refine xi_get C zkX11 3 0 zlX11_16 (by decide) rfl rfl dX11_prices_83 ?_
          refine xi_iload C 3 dX11_prices_86 rfl ?_
          replace h := ig h
          obtain ⟨c8, h⟩ := h
          refine xi_iald C 3 rfl c8 dX11_prices_88 ?_
          refine xi_aload_n C 0 dX11_prices_89 rfl ?_
          refine xi_get C zkX11 4 0 zlX11_19 (by decide) rfl rfl dX11_prices_90 ?_
          refine xi_iload C 3 dX11_prices_93 rfl ?_
          refine xi_iald C 4 rfl c8 dX11_prices_95 ?_
          refine xi_aload_n C 0 dX11_prices_96 rfl ?_
          refine xi_get C zkX11 6 0 zlX11_25 (by decide) rfl rfl dX11_prices_97 ?_
          refine xi_iload C 3 dX11_prices_100 rfl ?_
          refine xi_iald C 6 rfl c8 dX11_prices_102 ?_
          replace h := ob h
          obtain ⟨u9, hu10, h⟩ := h
          refine xi_callV C (kX11_cheaper l D cT a_t a_t_now a_t_told a_t_one a_t_other a_t_forth a_t_cost a_t_broken a_t_away a_t_text a_t_worth a_t_choice a_t_thought a_t_before a_t_deep a_t_price a_t_undo a_t_slots a_t_isSaved t_thrown t_length t_textSize t_start t_next t_token t_value t_error t_errorAt t_number t_isFirst t_limitNow t_undos t_price (t_one y4.toNatClampNeg) (t_other y4.toNatClampNeg) (t_cost y4.toNatClampNeg) u9 hu10) zcX11_cheaper zmX11_278 ziX11_cheaper (zr rfl rfl) z00 rfl [0, 7] rfl rfl rfl [some 0, none, none, none, none, none, none, some 1] (by decide +kernel) (ws2 := [(a_t, .inr (11, [.int t_thrown, .ref a_t_now, .ref a_t_told, .ref a_t_one, .ref a_t_other, .ref a_t_forth, .ref a_t_cost, .ref a_t_broken, .ref a_t_away, .ref a_t_text, .int t_length, .int t_textSize, .int t_start, .int t_next, .int t_token, .int t_value, .int t_error, .int t_errorAt, .int t_number, .int t_isFirst, .ref a_t_worth, .ref a_t_choice, .ref a_t_thought, .ref a_t_before, .ref a_t_deep, .int t_limitNow, .ref a_t_price, .int t_undos, .ref a_t_undo, .ref a_t_slots, .ref a_t_isSaved])), (a_t_now, .inl (cT 0, 514, .inl t_now)), (a_t_told, .inl (cT 0, 8, .inl t_told)), (a_t_one, .inl (cT 0, 48, .inl t_one)), (a_t_other, .inl (cT 0, 48, .inl t_other)), (a_t_forth, .inl (cT 0, 48, .inl t_forth)), (a_t_cost, .inl (cT 0, 48, .inl t_cost)), (a_t_price, .inl (cT 0, 10, .inl u9.2))]) rfl zkX11.1 (qr := 0) rfl rfl (Nat.le_of_ble_eq_true rfl) dX11_prices_103 (fun z11 => ?_)
          refine xi_ior C dX11_prices_106 ?_
          refine xi_istore_n C [1, 2, 0, 3] (L2 := [(0, .ref a_t), (2, .int x2), (3, .int (y3 ||| u9.1)), (4, .int y4)]) dX11_prices_107 (Nat.le_of_ble_eq_true rfl) rfl ?_
          refine xi_iload_n C 2 dX11_prices_108 rfl ?_
          refine xi_aload_n C 0 dX11_prices_109 rfl ?_
          refine xi_get C zkX11 5 0 zlX11_22 (by decide) rfl rfl dX11_prices_110 ?_
          refine xi_iload C 3 dX11_prices_113 rfl ?_
          refine xi_iald C 5 rfl c8 dX11_prices_115 ?_
          refine xi_if_ne C (tgt := 151) dX11_prices_116 rfl (fun c12 => ?_) (fun c12 => ?_)
          · replace h := (if_neg c12).symm.trans h
            refine xi_drop (L2 := [(0, .ref a_t), (2, .int x2), (4, .int y4)]) [0, 1, 3] rfl ?_
            exact B151 K48 hK48 (fX11_prices_b57 t_told t_one t_other t_forth t_cost x2 K48 n) ih y4 (y3 ||| u9.1) u9.2 h
          · replace h := (if_pos c12).symm.trans h
            refine xi_aload_n C 0 dX11_prices_119 rfl ?_
            refine xi_aload_n C 0 dX11_prices_120 rfl ?_
            refine xi_get C zkX11 4 0 zlX11_19 (by decide) rfl rfl dX11_prices_121 ?_
            refine xi_iload C 3 dX11_prices_124 rfl ?_
            refine xi_iald C 4 rfl c8 dX11_prices_126 ?_
            refine xi_aload_n C 0 dX11_prices_127 rfl ?_
            refine xi_get C zkX11 3 0 zlX11_16 (by decide) rfl rfl dX11_prices_128 ?_
            refine xi_iload C 3 dX11_prices_131 rfl ?_
            refine xi_iald C 3 rfl c8 dX11_prices_133 ?_
            refine xi_aload_n C 0 dX11_prices_134 rfl ?_
            refine xi_get C zkX11 6 0 zlX11_25 (by decide) rfl rfl dX11_prices_135 ?_
            refine xi_iload C 3 dX11_prices_138 rfl ?_
            refine xi_iald C 6 rfl c8 dX11_prices_140 ?_
            replace h := ob h
            obtain ⟨u13, hu14, h⟩ := h
            refine xi_callV C (kX11_cheaper l D cT a_t a_t_now a_t_told a_t_one a_t_other a_t_forth a_t_cost a_t_broken a_t_away a_t_text a_t_worth a_t_choice a_t_thought a_t_before a_t_deep a_t_price a_t_undo a_t_slots a_t_isSaved t_thrown t_length t_textSize t_start t_next t_token t_value t_error t_errorAt t_number t_isFirst t_limitNow t_undos u9.2 (t_other y4.toNatClampNeg) (t_one y4.toNatClampNeg) (t_cost y4.toNatClampNeg) u13 hu14) zcX11_cheaper zmX11_278 ziX11_cheaper (zr rfl rfl) z00 rfl [0, 7] rfl rfl rfl [some 0, none, none, none, none, none, none, some 1] (by decide +kernel) (ws2 := [(a_t, .inr (11, [.int t_thrown, .ref a_t_now, .ref a_t_told, .ref a_t_one, .ref a_t_other, .ref a_t_forth, .ref a_t_cost, .ref a_t_broken, .ref a_t_away, .ref a_t_text, .int t_length, .int t_textSize, .int t_start, .int t_next, .int t_token, .int t_value, .int t_error, .int t_errorAt, .int t_number, .int t_isFirst, .ref a_t_worth, .ref a_t_choice, .ref a_t_thought, .ref a_t_before, .ref a_t_deep, .int t_limitNow, .ref a_t_price, .int t_undos, .ref a_t_undo, .ref a_t_slots, .ref a_t_isSaved])), (a_t_now, .inl (cT 0, 514, .inl t_now)), (a_t_told, .inl (cT 0, 8, .inl t_told)), (a_t_one, .inl (cT 0, 48, .inl t_one)), (a_t_other, .inl (cT 0, 48, .inl t_other)), (a_t_forth, .inl (cT 0, 48, .inl t_forth)), (a_t_cost, .inl (cT 0, 48, .inl t_cost)), (a_t_price, .inl (cT 0, 10, .inl u13.2))]) rfl zkX11.1 (qr := 0) rfl rfl (Nat.le_of_ble_eq_true rfl) dX11_prices_141 (fun z15 => ?_)
            refine xi_if_eq C (tgt := 151) dX11_prices_144 rfl (fun c16 => ?_) (fun c16 => ?_)
            · replace h := (if_pos c16).symm.trans h
              refine xi_drop (L2 := [(0, .ref a_t), (2, .int x2), (4, .int y4)]) [0, 1, 3] rfl ?_
              exact B151 K48 hK48 (fX11_prices_b57 t_told t_one t_other t_forth t_cost x2 K48 n) ih y4 (y3 ||| u9.1) u13.2 h
            · replace h := (if_neg c16).symm.trans h
              refine xi_iconst C (v := 1) dX11_prices_147 rfl ?_
              refine xi_goto C (tgt := 152) dX11_prices_148 rfl ?_
              refine xi_drop (L2 := [(0, .ref a_t), (2, .int x2), (4, .int y4)]) [0, 1, 3] rfl ?_
              exact B152 K48 hK48 (fX11_prices_b57 t_told t_one t_other t_forth t_cost x2 K48 n) ih y4 1 (y3 ||| u9.1) u13.2 h
        · replace h := (if_neg c7).symm.trans h
          refine xi_goto C (tgt := 154) dX11_prices_77 rfl ?_
          refine xi_iinc C (v := y4 + 1) 3 [1, 2, 3, 0] (L2 := [(0, .ref a_t), (2, .int x2), (3, .int y3), (4, .int (y4 + 1))]) dX11_prices_154 rfl rfl (Nat.le_of_ble_eq_true rfl) rfl ?_
          refine xi_goto C (tgt := 57) dX11_prices_157 rfl ?_
          exact ih y3 (y4 + 1) t_price h
  have B48 : ∀ (n : Nat) (y3 : Int32) (t_price : Nat → Int32), fX11_prices_b48 t_told t_one t_other t_forth t_cost x2 n y3 t_price = some r → sW X l (zR 2) D 5 0 0 48 [(0, .ref a_t), (2, .int x2), (3, .int y3)] [] [(a_t, .inr (11, [.int t_thrown, .ref a_t_now, .ref a_t_told, .ref a_t_one, .ref a_t_other, .ref a_t_forth, .ref a_t_cost, .ref a_t_broken, .ref a_t_away, .ref a_t_text, .int t_length, .int t_textSize, .int t_start, .int t_next, .int t_token, .int t_value, .int t_error, .int t_errorAt, .int t_number, .int t_isFirst, .ref a_t_worth, .ref a_t_choice, .ref a_t_thought, .ref a_t_before, .ref a_t_deep, .int t_limitNow, .ref a_t_price, .int t_undos, .ref a_t_undo, .ref a_t_slots, .ref a_t_isSaved])), (a_t_now, .inl (cT 0, 514, .inl t_now)), (a_t_told, .inl (cT 0, 8, .inl t_told)), (a_t_one, .inl (cT 0, 48, .inl t_one)), (a_t_other, .inl (cT 0, 48, .inl t_other)), (a_t_forth, .inl (cT 0, 48, .inl t_forth)), (a_t_cost, .inl (cT 0, 48, .inl t_cost)), (a_t_price, .inl (cT 0, 10, .inl t_price))] := by
    intro n
    induction n with
    | zero =>
      intro y3 t_price h
      exact zno ((fX11_prices_b48_0 _ _ _ _ _ _ _ _).symm.trans h)
    | succ n ih =>
      intro y3 t_price h
      replace h := (fX11_prices_b48_s _ _ _ _ _ _ _ _ _).symm.trans h
      refine xi_iload_n C 2 dX11_prices_48 rfl ?_
      refine xi_if_eq C (tgt := 163) dX11_prices_49 rfl (fun c2 => ?_) (fun c2 => ?_)
      · replace h := (if_pos c2).symm.trans h
        obtain rfl := Option.some.inj h
        exact hE _ _ dX11_prices_163 rfl
      · replace h := (if_neg c2).symm.trans h
        refine xi_iconst C (v := 0) dX11_prices_52 rfl ?_
        refine xi_istore_n C [1, 2, 0] (L2 := [(0, .ref a_t), (2, .int x2), (3, .int 0)]) dX11_prices_53 (Nat.le_of_ble_eq_true rfl) rfl ?_
        refine xi_iconst C (v := 0) dX11_prices_54 rfl ?_
        refine xi_istore C [1, 2, 3, 0] (L2 := [(0, .ref a_t), (2, .int x2), (3, .int 0), (4, .int 0)]) dX11_prices_55 (Nat.le_of_ble_eq_true rfl) rfl ?_
        exact B57 (fX11_prices_b48 t_told t_one t_other t_forth t_cost x2 n) ih FU 0 0 t_price h
  have B39 : ∀ (K2 : Int32 → (Nat → Int32) → Option ((Nat → Int32))) (hK2 : ∀ (y3 : Int32) (t_price : Nat → Int32), K2 y3 t_price = some r → sW X l (zR 2) D 5 0 0 2 [(0, .ref a_t), (1, .int x1), (2, .int x2), (3, .int y3)] [] [(a_t, .inr (11, [.int t_thrown, .ref a_t_now, .ref a_t_told, .ref a_t_one, .ref a_t_other, .ref a_t_forth, .ref a_t_cost, .ref a_t_broken, .ref a_t_away, .ref a_t_text, .int t_length, .int t_textSize, .int t_start, .int t_next, .int t_token, .int t_value, .int t_error, .int t_errorAt, .int t_number, .int t_isFirst, .ref a_t_worth, .ref a_t_choice, .ref a_t_thought, .ref a_t_before, .ref a_t_deep, .int t_limitNow, .ref a_t_price, .int t_undos, .ref a_t_undo, .ref a_t_slots, .ref a_t_isSaved])), (a_t_now, .inl (cT 0, 514, .inl t_now)), (a_t_told, .inl (cT 0, 8, .inl t_told)), (a_t_one, .inl (cT 0, 48, .inl t_one)), (a_t_other, .inl (cT 0, 48, .inl t_other)), (a_t_forth, .inl (cT 0, 48, .inl t_forth)), (a_t_cost, .inl (cT 0, 48, .inl t_cost)), (a_t_price, .inl (cT 0, 10, .inl t_price))]) (y3 : Int32) (s0 : Int32) (s1 : Int32) (t_price : Nat → Int32), fX11_prices_b39 K2 y3 s0 s1 t_price = some r → sW X l (zR 2) D 5 0 0 39 [(0, .ref a_t), (1, .int x1), (2, .int x2), (3, .int y3)] [.int s0, .int s1, .ref a_t_price] [(a_t, .inr (11, [.int t_thrown, .ref a_t_now, .ref a_t_told, .ref a_t_one, .ref a_t_other, .ref a_t_forth, .ref a_t_cost, .ref a_t_broken, .ref a_t_away, .ref a_t_text, .int t_length, .int t_textSize, .int t_start, .int t_next, .int t_token, .int t_value, .int t_error, .int t_errorAt, .int t_number, .int t_isFirst, .ref a_t_worth, .ref a_t_choice, .ref a_t_thought, .ref a_t_before, .ref a_t_deep, .int t_limitNow, .ref a_t_price, .int t_undos, .ref a_t_undo, .ref a_t_slots, .ref a_t_isSaved])), (a_t_now, .inl (cT 0, 514, .inl t_now)), (a_t_told, .inl (cT 0, 8, .inl t_told)), (a_t_one, .inl (cT 0, 48, .inl t_one)), (a_t_other, .inl (cT 0, 48, .inl t_other)), (a_t_forth, .inl (cT 0, 48, .inl t_forth)), (a_t_cost, .inl (cT 0, 48, .inl t_cost)), (a_t_price, .inl (cT 0, 10, .inl t_price))] := by
    intro K2 hK2 y3 s0 s1 t_price h
    replace h := ig h
    obtain ⟨c22, h⟩ := h
    refine xi_iast C 7 rfl c22 dX11_prices_39 (ws2 := [(a_t, .inr (11, [.int t_thrown, .ref a_t_now, .ref a_t_told, .ref a_t_one, .ref a_t_other, .ref a_t_forth, .ref a_t_cost, .ref a_t_broken, .ref a_t_away, .ref a_t_text, .int t_length, .int t_textSize, .int t_start, .int t_next, .int t_token, .int t_value, .int t_error, .int t_errorAt, .int t_number, .int t_isFirst, .ref a_t_worth, .ref a_t_choice, .ref a_t_thought, .ref a_t_before, .ref a_t_deep, .int t_limitNow, .ref a_t_price, .int t_undos, .ref a_t_undo, .ref a_t_slots, .ref a_t_isSaved])), (a_t_now, .inl (cT 0, 514, .inl t_now)), (a_t_told, .inl (cT 0, 8, .inl t_told)), (a_t_one, .inl (cT 0, 48, .inl t_one)), (a_t_other, .inl (cT 0, 48, .inl t_other)), (a_t_forth, .inl (cT 0, 48, .inl t_forth)), (a_t_cost, .inl (cT 0, 48, .inl t_cost)), (a_t_price, .inl (cT 0, 10, .inl (upd t_price s1.toNatClampNeg s0)))]) rfl ?_
    refine xi_iinc C (v := y3 + 1) 3 [1, 2, 3, 0] (L2 := [(0, .ref a_t), (1, .int x1), (2, .int x2), (3, .int (y3 + 1))]) dX11_prices_40 rfl rfl (Nat.le_of_ble_eq_true rfl) rfl ?_
    refine xi_goto C (tgt := 2) dX11_prices_43 rfl ?_
    exact hK2 (y3 + 1) (upd t_price s1.toNatClampNeg s0) h
  have B2 : ∀ (n : Nat) (y3 : Int32) (t_price : Nat → Int32), fX11_prices_b2 t_now t_told t_one t_other t_forth t_cost x1 x2 n y3 t_price = some r → sW X l (zR 2) D 5 0 0 2 [(0, .ref a_t), (1, .int x1), (2, .int x2), (3, .int y3)] [] [(a_t, .inr (11, [.int t_thrown, .ref a_t_now, .ref a_t_told, .ref a_t_one, .ref a_t_other, .ref a_t_forth, .ref a_t_cost, .ref a_t_broken, .ref a_t_away, .ref a_t_text, .int t_length, .int t_textSize, .int t_start, .int t_next, .int t_token, .int t_value, .int t_error, .int t_errorAt, .int t_number, .int t_isFirst, .ref a_t_worth, .ref a_t_choice, .ref a_t_thought, .ref a_t_before, .ref a_t_deep, .int t_limitNow, .ref a_t_price, .int t_undos, .ref a_t_undo, .ref a_t_slots, .ref a_t_isSaved])), (a_t_now, .inl (cT 0, 514, .inl t_now)), (a_t_told, .inl (cT 0, 8, .inl t_told)), (a_t_one, .inl (cT 0, 48, .inl t_one)), (a_t_other, .inl (cT 0, 48, .inl t_other)), (a_t_forth, .inl (cT 0, 48, .inl t_forth)), (a_t_cost, .inl (cT 0, 48, .inl t_cost)), (a_t_price, .inl (cT 0, 10, .inl t_price))] := by
    intro n
    induction n with
    | zero =>
      intro y3 t_price h
      exact zno ((fX11_prices_b2_0 _ _ _ _ _ _ _ _ _ _).symm.trans h)
    | succ n ih =>
      intro y3 t_price h
      replace h := (fX11_prices_b2_s _ _ _ _ _ _ _ _ _ _ _).symm.trans h
      refine xi_iload_n C 3 dX11_prices_2 rfl ?_
      refine xi_aload_n C 0 dX11_prices_3 rfl ?_
      refine xi_get C zkX11 2 0 zlX11_13 (by decide) rfl rfl dX11_prices_4 ?_
      refine xi_iconst C (v := 0) dX11_prices_7 rfl ?_
      refine xi_iald C 2 rfl (zv (by decide)) dX11_prices_8 ?_
      refine xi_icmp_ge C (tgt := 46) dX11_prices_9 rfl (fun c1 => ?_) (fun c1 => ?_)
      · replace h := (if_pos c1).symm.trans h
        refine xi_iconst C (v := 1) dX11_prices_46 rfl ?_
        refine xi_istore_n C [1, 2, 3, 0] (L2 := [(0, .ref a_t), (1, .int x1), (2, .int x2), (3, .int 1)]) dX11_prices_47 (Nat.le_of_ble_eq_true rfl) rfl ?_
        refine xi_drop (L2 := [(0, .ref a_t), (2, .int x2), (3, .int 1)]) [0, 2, 3] rfl ?_
        exact B48 FU 1 t_price h
      · replace h := (if_neg c1).symm.trans h
        refine xi_aload_n C 0 dX11_prices_12 rfl ?_
        refine xi_get C zkX11 26 0 zlX11_58 (by decide) rfl rfl dX11_prices_13 ?_
        refine xi_iload_n C 3 dX11_prices_16 rfl ?_
        refine xi_aload_n C 0 dX11_prices_17 rfl ?_
        refine xi_get C zkX11 1 0 zlX11_7 (by decide) rfl rfl dX11_prices_18 ?_
        refine xi_iconst C (v := 4) dX11_prices_21 rfl ?_
        refine xi_iload_n C 3 dX11_prices_22 rfl ?_
        refine xi_iadd C dX11_prices_23 ?_
        replace h := ig h
        obtain ⟨c17, h⟩ := h
        refine xi_iald C 1 rfl c17 dX11_prices_24 ?_
        refine xi_iload_n C 1 dX11_prices_25 rfl ?_
        refine xi_callSr C (kX11_isIn l D cT (t_now (4 + y3).toNatClampNeg) x1 (fX11_isIn (t_now (4 + y3).toNatClampNeg) x1) rfl) zcX11_isIn zmX11_201 zsX11_isIn (zr rfl rfl) z00 rfl [] rfl rfl rfl (Nat.le_of_ble_eq_true rfl) dX11_prices_26 (fun z20 => ?_)
        refine xi_if_eq C (tgt := 36) dX11_prices_29 rfl (fun c21 => ?_) (fun c21 => ?_)
        · replace h := (if_pos c21).symm.trans h
          refine xi_ldcw C (v := 1000000) zcoX11_277 dX11_prices_36 ?_
          exact B39 (fX11_prices_b2 t_now t_told t_one t_other t_forth t_cost x1 x2 n) ih y3 1000000 y3 t_price h
        · replace h := (if_neg c21).symm.trans h
          refine xi_iconst C (v := 0) dX11_prices_32 rfl ?_
          refine xi_goto C (tgt := 39) dX11_prices_33 rfl ?_
          exact B39 (fX11_prices_b2 t_now t_told t_one t_other t_forth t_cost x1 x2 n) ih y3 0 y3 t_price h
  refine xi_drop (L2 := [(0, .ref a_t), (1, .int x1), (2, .int x2)]) [0, 1, 2] rfl ?_
  refine xi_iconst C (v := 0) dX11_prices_0 rfl ?_
  refine xi_istore_n C [1, 2, 3, 0] (L2 := [(0, .ref a_t), (1, .int x1), (2, .int x2), (3, .int 0)]) dX11_prices_1 (Nat.le_of_ble_eq_true rfl) rfl ?_
  exact B2 FU 0 t_price h
def fX11_cheapest (t_now : Nat → Int32) (t_told : Nat → Int32) (t_one : Nat → Int32) (t_other : Nat → Int32) (t_forth : Nat → Int32) (t_cost : Nat → Int32) (t_price : Nat → Int32) (x1 : Int32) (x2 : Int32) : Option (Int32 × Int32 × (Nat → Int32)) := (fX11_noPerson t_told x1).bind (fun u1 => if u1.1 = 0 then (fX11_noPerson t_told x2).bind (fun u5 => if u5.1 = 0 then (fX11_prices t_now t_told t_one t_other t_forth t_cost t_price x2 (t_now 3)).bind (fun u9 => gd x1 10 (if (u9 x1.toNatClampNeg) = 1000000 then some ((-1), u5.2, u9) else some (u9 x1.toNatClampNeg, u5.2, u9))) else some (0, u5.2, t_price)) else some (0, u1.2, t_price))
set_option maxRecDepth 100000 in
set_option maxHeartbeats 4000000 in
theorem kX11_cheapest (l : Launch) (D : va_G) (cT : Nat → ClassId) (a_t : Nat) (a_t_now : Nat) (a_t_told : Nat) (a_t_one : Nat) (a_t_other : Nat) (a_t_forth : Nat) (a_t_cost : Nat) (a_t_broken : Nat) (a_t_away : Nat) (a_t_text : Nat) (a_t_worth : Nat) (a_t_choice : Nat) (a_t_thought : Nat) (a_t_before : Nat) (a_t_deep : Nat) (a_t_price : Nat) (a_t_undo : Nat) (a_t_slots : Nat) (a_t_isSaved : Nat) (t_thrown : Int32) (t_length : Int32) (t_textSize : Int32) (t_start : Int32) (t_next : Int32) (t_token : Int32) (t_value : Int32) (t_error : Int32) (t_errorAt : Int32) (t_number : Int32) (t_isFirst : Int32) (t_limitNow : Int32) (t_undos : Int32) (t_now : Nat → Int32) (t_told : Nat → Int32) (t_one : Nat → Int32) (t_other : Nat → Int32) (t_forth : Nat → Int32) (t_cost : Nat → Int32) (t_price : Nat → Int32) (x1 : Int32) (x2 : Int32) (r : Int32 × Int32 × (Nat → Int32)) (h : fX11_cheapest t_now t_told t_one t_other t_forth t_cost t_price x1 x2 = some r) : sM l yX11_cheapest cX11_cheapest 3 (some .int) (zR 4) D cT [.ref a_t, .int x1, .int x2] [(a_t, .inr (11, [.int t_thrown, .ref a_t_now, .ref a_t_told, .ref a_t_one, .ref a_t_other, .ref a_t_forth, .ref a_t_cost, .ref a_t_broken, .ref a_t_away, .ref a_t_text, .int t_length, .int t_textSize, .int t_start, .int t_next, .int t_token, .int t_value, .int t_error, .int t_errorAt, .int t_number, .int t_isFirst, .ref a_t_worth, .ref a_t_choice, .ref a_t_thought, .ref a_t_before, .ref a_t_deep, .int t_limitNow, .ref a_t_price, .int t_undos, .ref a_t_undo, .ref a_t_slots, .ref a_t_isSaved])), (a_t_now, .inl (cT 0, 514, .inl t_now)), (a_t_told, .inl (cT 0, 8, .inl t_told)), (a_t_one, .inl (cT 0, 48, .inl t_one)), (a_t_other, .inl (cT 0, 48, .inl t_other)), (a_t_forth, .inl (cT 0, 48, .inl t_forth)), (a_t_cost, .inl (cT 0, 48, .inl t_cost)), (a_t_price, .inl (cT 0, 10, .inl t_price))] (some (.int r.1)) [(a_t, .inr (11, [.int r.2.1, .ref a_t_now, .ref a_t_told, .ref a_t_one, .ref a_t_other, .ref a_t_forth, .ref a_t_cost, .ref a_t_broken, .ref a_t_away, .ref a_t_text, .int t_length, .int t_textSize, .int t_start, .int t_next, .int t_token, .int t_value, .int t_error, .int t_errorAt, .int t_number, .int t_isFirst, .ref a_t_worth, .ref a_t_choice, .ref a_t_thought, .ref a_t_before, .ref a_t_deep, .int t_limitNow, .ref a_t_price, .int t_undos, .ref a_t_undo, .ref a_t_slots, .ref a_t_isSaved])), (a_t_now, .inl (cT 0, 514, .inl t_now)), (a_t_told, .inl (cT 0, 8, .inl t_told)), (a_t_one, .inl (cT 0, 48, .inl t_one)), (a_t_other, .inl (cT 0, 48, .inl t_other)), (a_t_forth, .inl (cT 0, 48, .inl t_forth)), (a_t_cost, .inl (cT 0, 48, .inl t_cost)), (a_t_price, .inl (cT 0, 10, .inl r.2.2))] := by
  refine sM_int rfl (Nat.le_of_ble_eq_true rfl) ?_
  intro X C hE
  refine xi_drop (L2 := [(0, .ref a_t), (1, .int x1), (2, .int x2)]) [0, 1, 2] rfl ?_
  refine xi_aload_n C 0 dX11_cheapest_0 rfl ?_
  refine xi_iload_n C 1 dX11_cheapest_1 rfl ?_
  replace h := ob h
  obtain ⟨u1, hu2, h⟩ := h
  refine xi_callV C (kX11_noPerson l D cT a_t a_t_now a_t_told a_t_one a_t_other a_t_forth a_t_cost a_t_broken a_t_away a_t_text a_t_worth a_t_choice a_t_thought a_t_before a_t_deep a_t_price a_t_undo a_t_slots a_t_isSaved t_thrown t_length t_textSize t_start t_next t_token t_value t_error t_errorAt t_number t_isFirst t_limitNow t_undos t_told x1 u1 hu2) zcX11_noPerson zmX11_210 ziX11_noPerson (zr rfl rfl) z00 rfl [0, 2] rfl rfl rfl [some 0, none, some 1, none, none, none, none, none] (by decide +kernel) (ws2 := [(a_t, .inr (11, [.int u1.2, .ref a_t_now, .ref a_t_told, .ref a_t_one, .ref a_t_other, .ref a_t_forth, .ref a_t_cost, .ref a_t_broken, .ref a_t_away, .ref a_t_text, .int t_length, .int t_textSize, .int t_start, .int t_next, .int t_token, .int t_value, .int t_error, .int t_errorAt, .int t_number, .int t_isFirst, .ref a_t_worth, .ref a_t_choice, .ref a_t_thought, .ref a_t_before, .ref a_t_deep, .int t_limitNow, .ref a_t_price, .int t_undos, .ref a_t_undo, .ref a_t_slots, .ref a_t_isSaved])), (a_t_now, .inl (cT 0, 514, .inl t_now)), (a_t_told, .inl (cT 0, 8, .inl t_told)), (a_t_one, .inl (cT 0, 48, .inl t_one)), (a_t_other, .inl (cT 0, 48, .inl t_other)), (a_t_forth, .inl (cT 0, 48, .inl t_forth)), (a_t_cost, .inl (cT 0, 48, .inl t_cost)), (a_t_price, .inl (cT 0, 10, .inl t_price))]) rfl zkX11.1 (qr := 0) rfl rfl (Nat.le_of_ble_eq_true rfl) dX11_cheapest_2 (fun z3 => ?_)
  refine xi_if_ne C (tgt := 16) dX11_cheapest_5 rfl (fun c4 => ?_) (fun c4 => ?_)
  · replace h := (if_neg c4).symm.trans h
    refine xi_iconst C (v := 0) dX11_cheapest_16 rfl ?_
    obtain rfl := Option.some.inj h
    exact hE _ _ _ dX11_cheapest_17 rfl
  · replace h := (if_pos c4).symm.trans h
    refine xi_aload_n C 0 dX11_cheapest_8 rfl ?_
    refine xi_iload_n C 2 dX11_cheapest_9 rfl ?_
    replace h := ob h
    obtain ⟨u5, hu6, h⟩ := h
    refine xi_callV C (kX11_noPerson l D cT a_t a_t_now a_t_told a_t_one a_t_other a_t_forth a_t_cost a_t_broken a_t_away a_t_text a_t_worth a_t_choice a_t_thought a_t_before a_t_deep a_t_price a_t_undo a_t_slots a_t_isSaved u1.2 t_length t_textSize t_start t_next t_token t_value t_error t_errorAt t_number t_isFirst t_limitNow t_undos t_told x2 u5 hu6) zcX11_noPerson zmX11_210 ziX11_noPerson (zr rfl rfl) z00 rfl [0, 2] rfl rfl rfl [some 0, none, some 1, none, none, none, none, none] (by decide +kernel) (ws2 := [(a_t, .inr (11, [.int u5.2, .ref a_t_now, .ref a_t_told, .ref a_t_one, .ref a_t_other, .ref a_t_forth, .ref a_t_cost, .ref a_t_broken, .ref a_t_away, .ref a_t_text, .int t_length, .int t_textSize, .int t_start, .int t_next, .int t_token, .int t_value, .int t_error, .int t_errorAt, .int t_number, .int t_isFirst, .ref a_t_worth, .ref a_t_choice, .ref a_t_thought, .ref a_t_before, .ref a_t_deep, .int t_limitNow, .ref a_t_price, .int t_undos, .ref a_t_undo, .ref a_t_slots, .ref a_t_isSaved])), (a_t_now, .inl (cT 0, 514, .inl t_now)), (a_t_told, .inl (cT 0, 8, .inl t_told)), (a_t_one, .inl (cT 0, 48, .inl t_one)), (a_t_other, .inl (cT 0, 48, .inl t_other)), (a_t_forth, .inl (cT 0, 48, .inl t_forth)), (a_t_cost, .inl (cT 0, 48, .inl t_cost)), (a_t_price, .inl (cT 0, 10, .inl t_price))]) rfl zkX11.1 (qr := 0) rfl rfl (Nat.le_of_ble_eq_true rfl) dX11_cheapest_10 (fun z7 => ?_)
    refine xi_if_eq C (tgt := 18) dX11_cheapest_13 rfl (fun c8 => ?_) (fun c8 => ?_)
    · replace h := (if_pos c8).symm.trans h
      refine xi_aload_n C 0 dX11_cheapest_18 rfl ?_
      refine xi_iload_n C 2 dX11_cheapest_19 rfl ?_
      refine xi_aload_n C 0 dX11_cheapest_20 rfl ?_
      refine xi_get C zkX11 1 0 zlX11_7 (by decide) rfl rfl dX11_cheapest_21 ?_
      refine xi_iconst C (v := 3) dX11_cheapest_24 rfl ?_
      refine xi_iald C 1 rfl (zv (by decide)) dX11_cheapest_25 ?_
      replace h := ob h
      obtain ⟨u9, hu10, h⟩ := h
      refine xi_callV C (kX11_prices l D cT a_t a_t_now a_t_told a_t_one a_t_other a_t_forth a_t_cost a_t_broken a_t_away a_t_text a_t_worth a_t_choice a_t_thought a_t_before a_t_deep a_t_price a_t_undo a_t_slots a_t_isSaved u5.2 t_length t_textSize t_start t_next t_token t_value t_error t_errorAt t_number t_isFirst t_limitNow t_undos t_now t_told t_one t_other t_forth t_cost t_price x2 (t_now 3) u9 hu10) zcX11_prices zmX11_281 ziX11_prices (zr rfl rfl) z00 rfl [0, 1, 2, 3, 4, 5, 6, 7] rfl rfl rfl [some 0, some 1, some 2, some 3, some 4, some 5, some 6, some 7] (by decide +kernel) (ws2 := [(a_t, .inr (11, [.int u5.2, .ref a_t_now, .ref a_t_told, .ref a_t_one, .ref a_t_other, .ref a_t_forth, .ref a_t_cost, .ref a_t_broken, .ref a_t_away, .ref a_t_text, .int t_length, .int t_textSize, .int t_start, .int t_next, .int t_token, .int t_value, .int t_error, .int t_errorAt, .int t_number, .int t_isFirst, .ref a_t_worth, .ref a_t_choice, .ref a_t_thought, .ref a_t_before, .ref a_t_deep, .int t_limitNow, .ref a_t_price, .int t_undos, .ref a_t_undo, .ref a_t_slots, .ref a_t_isSaved])), (a_t_now, .inl (cT 0, 514, .inl t_now)), (a_t_told, .inl (cT 0, 8, .inl t_told)), (a_t_one, .inl (cT 0, 48, .inl t_one)), (a_t_other, .inl (cT 0, 48, .inl t_other)), (a_t_forth, .inl (cT 0, 48, .inl t_forth)), (a_t_cost, .inl (cT 0, 48, .inl t_cost)), (a_t_price, .inl (cT 0, 10, .inl u9))]) rfl zkX11.1 (qr := 0) rfl rfl (Nat.le_of_ble_eq_true rfl) dX11_cheapest_26 (fun z11 => ?_)
      refine xi_aload_n C 0 dX11_cheapest_29 rfl ?_
      refine xi_get C zkX11 26 0 zlX11_58 (by decide) rfl rfl dX11_cheapest_30 ?_
      refine xi_iload_n C 1 dX11_cheapest_33 rfl ?_
      replace h := ig h
      obtain ⟨c12, h⟩ := h
      refine xi_iald C 7 rfl c12 dX11_cheapest_34 ?_
      refine xi_ldcw C (v := 1000000) zcoX11_277 dX11_cheapest_35 ?_
      refine xi_icmp_ne C (tgt := 45) dX11_cheapest_38 rfl (fun c13 => ?_) (fun c13 => ?_)
      · replace h := (if_neg c13).symm.trans h
        refine xi_aload_n C 0 dX11_cheapest_45 rfl ?_
        refine xi_get C zkX11 26 0 zlX11_58 (by decide) rfl rfl dX11_cheapest_46 ?_
        refine xi_iload_n C 1 dX11_cheapest_49 rfl ?_
        refine xi_iald C 7 rfl c12 dX11_cheapest_50 ?_
        obtain rfl := Option.some.inj h
        exact hE _ _ _ dX11_cheapest_51 rfl
      · replace h := (if_pos c13).symm.trans h
        refine xi_iconst C (v := (-1)) dX11_cheapest_41 rfl ?_
        refine xi_goto C (tgt := 51) dX11_cheapest_42 rfl ?_
        obtain rfl := Option.some.inj h
        exact hE _ _ _ dX11_cheapest_51 rfl
    · replace h := (if_neg c8).symm.trans h
      refine xi_iconst C (v := 0) dX11_cheapest_16 rfl ?_
      obtain rfl := Option.some.inj h
      exact hE _ _ _ dX11_cheapest_17 rfl
def fX11_comeAbout_b53 (K23 : Int32 → Int32 → Int32 → (Nat → Int32) → Option (Int32 × (Nat → Int32))) (y3 : Int32) (y4 : Int32) (s0 : Int32) (s1 : Int32) (t_price : Nat → Int32) : Option (Int32 × (Nat → Int32)) := K23 (s1 + s0) y3 (y4 + 1) t_price
def fX11_comeAbout_b23 (t_told : Nat → Int32) (K4 : Int32 → Int32 → (Nat → Int32) → Option (Int32 × (Nat → Int32))) : Nat → Int32 → Int32 → Int32 → (Nat → Int32) → Option (Int32 × (Nat → Int32))
  | 0, _, _, _, _ => none
  | n + 1, y2, y3, y4, t_price => if (t_told 0) ≤ y4 then K4 y2 (y3 + 1) t_price else gd y4 10 (if (t_price y4.toNatClampNeg) = 1000000 then fX11_comeAbout_b53 (fX11_comeAbout_b23 t_told K4 n) y3 y4 0 y2 t_price else fX11_comeAbout_b53 (fX11_comeAbout_b23 t_told K4 n) y3 y4 1 y2 t_price)
theorem fX11_comeAbout_b23_0 (t_told : Nat → Int32) (K4 : Int32 → Int32 → (Nat → Int32) → Option (Int32 × (Nat → Int32))) (y2 : Int32) (y3 : Int32) (y4 : Int32) (t_price : Nat → Int32) : fX11_comeAbout_b23 t_told K4 0 y2 y3 y4 t_price = none := rfl
theorem fX11_comeAbout_b23_s (t_told : Nat → Int32) (K4 : Int32 → Int32 → (Nat → Int32) → Option (Int32 × (Nat → Int32))) (n : Nat) (y2 : Int32) (y3 : Int32) (y4 : Int32) (t_price : Nat → Int32) : fX11_comeAbout_b23 t_told K4 (n + 1) y2 y3 y4 t_price = (if (t_told 0) ≤ y4 then K4 y2 (y3 + 1) t_price else gd y4 10 (if (t_price y4.toNatClampNeg) = 1000000 then fX11_comeAbout_b53 (fX11_comeAbout_b23 t_told K4 n) y3 y4 0 y2 t_price else fX11_comeAbout_b53 (fX11_comeAbout_b23 t_told K4 n) y3 y4 1 y2 t_price)) := rfl
def fX11_comeAbout_b4 (t_now : Nat → Int32) (t_told : Nat → Int32) (t_one : Nat → Int32) (t_other : Nat → Int32) (t_forth : Nat → Int32) (t_cost : Nat → Int32) (x1 : Int32) : Nat → Int32 → Int32 → (Nat → Int32) → Option (Int32 × (Nat → Int32))
  | 0, _, _, _ => none
  | n + 1, y2, y3, t_price => if (t_told 0) ≤ y3 then some (y2, t_price) else (fX11_prices t_now t_told t_one t_other t_forth t_cost t_price y3 x1).bind (fun u2 => fX11_comeAbout_b23 t_told (fX11_comeAbout_b4 t_now t_told t_one t_other t_forth t_cost x1 n) FU y2 y3 0 u2)
theorem fX11_comeAbout_b4_0 (t_now : Nat → Int32) (t_told : Nat → Int32) (t_one : Nat → Int32) (t_other : Nat → Int32) (t_forth : Nat → Int32) (t_cost : Nat → Int32) (x1 : Int32) (y2 : Int32) (y3 : Int32) (t_price : Nat → Int32) : fX11_comeAbout_b4 t_now t_told t_one t_other t_forth t_cost x1 0 y2 y3 t_price = none := rfl
theorem fX11_comeAbout_b4_s (t_now : Nat → Int32) (t_told : Nat → Int32) (t_one : Nat → Int32) (t_other : Nat → Int32) (t_forth : Nat → Int32) (t_cost : Nat → Int32) (x1 : Int32) (n : Nat) (y2 : Int32) (y3 : Int32) (t_price : Nat → Int32) : fX11_comeAbout_b4 t_now t_told t_one t_other t_forth t_cost x1 (n + 1) y2 y3 t_price = (if (t_told 0) ≤ y3 then some (y2, t_price) else (fX11_prices t_now t_told t_one t_other t_forth t_cost t_price y3 x1).bind (fun u2 => fX11_comeAbout_b23 t_told (fX11_comeAbout_b4 t_now t_told t_one t_other t_forth t_cost x1 n) FU y2 y3 0 u2)) := rfl
def fX11_comeAbout (t_now : Nat → Int32) (t_told : Nat → Int32) (t_one : Nat → Int32) (t_other : Nat → Int32) (t_forth : Nat → Int32) (t_cost : Nat → Int32) (t_price : Nat → Int32) (x1 : Int32) : Option (Int32 × (Nat → Int32)) := fX11_comeAbout_b4 t_now t_told t_one t_other t_forth t_cost x1 FU 0 0 t_price
set_option maxRecDepth 100000 in
set_option maxHeartbeats 4000000 in
theorem kX11_comeAbout (l : Launch) (D : va_G) (cT : Nat → ClassId) (a_t : Nat) (a_t_now : Nat) (a_t_told : Nat) (a_t_one : Nat) (a_t_other : Nat) (a_t_forth : Nat) (a_t_cost : Nat) (a_t_broken : Nat) (a_t_away : Nat) (a_t_text : Nat) (a_t_worth : Nat) (a_t_choice : Nat) (a_t_thought : Nat) (a_t_before : Nat) (a_t_deep : Nat) (a_t_price : Nat) (a_t_undo : Nat) (a_t_slots : Nat) (a_t_isSaved : Nat) (t_thrown : Int32) (t_length : Int32) (t_textSize : Int32) (t_start : Int32) (t_next : Int32) (t_token : Int32) (t_value : Int32) (t_error : Int32) (t_errorAt : Int32) (t_number : Int32) (t_isFirst : Int32) (t_limitNow : Int32) (t_undos : Int32) (t_now : Nat → Int32) (t_told : Nat → Int32) (t_one : Nat → Int32) (t_other : Nat → Int32) (t_forth : Nat → Int32) (t_cost : Nat → Int32) (t_price : Nat → Int32) (x1 : Int32) (r : Int32 × (Nat → Int32)) (h : fX11_comeAbout t_now t_told t_one t_other t_forth t_cost t_price x1 = some r) : sM l yX11_comeAbout cX11_comeAbout 5 (some .int) (zR 3) D cT [.ref a_t, .int x1] [(a_t, .inr (11, [.int t_thrown, .ref a_t_now, .ref a_t_told, .ref a_t_one, .ref a_t_other, .ref a_t_forth, .ref a_t_cost, .ref a_t_broken, .ref a_t_away, .ref a_t_text, .int t_length, .int t_textSize, .int t_start, .int t_next, .int t_token, .int t_value, .int t_error, .int t_errorAt, .int t_number, .int t_isFirst, .ref a_t_worth, .ref a_t_choice, .ref a_t_thought, .ref a_t_before, .ref a_t_deep, .int t_limitNow, .ref a_t_price, .int t_undos, .ref a_t_undo, .ref a_t_slots, .ref a_t_isSaved])), (a_t_now, .inl (cT 0, 514, .inl t_now)), (a_t_told, .inl (cT 0, 8, .inl t_told)), (a_t_one, .inl (cT 0, 48, .inl t_one)), (a_t_other, .inl (cT 0, 48, .inl t_other)), (a_t_forth, .inl (cT 0, 48, .inl t_forth)), (a_t_cost, .inl (cT 0, 48, .inl t_cost)), (a_t_price, .inl (cT 0, 10, .inl t_price))] (some (.int r.1)) [(a_t, .inr (11, [.int t_thrown, .ref a_t_now, .ref a_t_told, .ref a_t_one, .ref a_t_other, .ref a_t_forth, .ref a_t_cost, .ref a_t_broken, .ref a_t_away, .ref a_t_text, .int t_length, .int t_textSize, .int t_start, .int t_next, .int t_token, .int t_value, .int t_error, .int t_errorAt, .int t_number, .int t_isFirst, .ref a_t_worth, .ref a_t_choice, .ref a_t_thought, .ref a_t_before, .ref a_t_deep, .int t_limitNow, .ref a_t_price, .int t_undos, .ref a_t_undo, .ref a_t_slots, .ref a_t_isSaved])), (a_t_now, .inl (cT 0, 514, .inl t_now)), (a_t_told, .inl (cT 0, 8, .inl t_told)), (a_t_one, .inl (cT 0, 48, .inl t_one)), (a_t_other, .inl (cT 0, 48, .inl t_other)), (a_t_forth, .inl (cT 0, 48, .inl t_forth)), (a_t_cost, .inl (cT 0, 48, .inl t_cost)), (a_t_price, .inl (cT 0, 10, .inl r.2))] := by
  refine sM_int rfl (Nat.le_of_ble_eq_true rfl) ?_
  intro X C hE
  have B53 : ∀ (K4 : Int32 → Int32 → (Nat → Int32) → Option (Int32 × (Nat → Int32))) (hK4 : ∀ (y2 : Int32) (y3 : Int32) (t_price : Nat → Int32), K4 y2 y3 t_price = some r → sW X l (zR 3) D 5 0 0 4 [(0, .ref a_t), (1, .int x1), (2, .int y2), (3, .int y3)] [] [(a_t, .inr (11, [.int t_thrown, .ref a_t_now, .ref a_t_told, .ref a_t_one, .ref a_t_other, .ref a_t_forth, .ref a_t_cost, .ref a_t_broken, .ref a_t_away, .ref a_t_text, .int t_length, .int t_textSize, .int t_start, .int t_next, .int t_token, .int t_value, .int t_error, .int t_errorAt, .int t_number, .int t_isFirst, .ref a_t_worth, .ref a_t_choice, .ref a_t_thought, .ref a_t_before, .ref a_t_deep, .int t_limitNow, .ref a_t_price, .int t_undos, .ref a_t_undo, .ref a_t_slots, .ref a_t_isSaved])), (a_t_now, .inl (cT 0, 514, .inl t_now)), (a_t_told, .inl (cT 0, 8, .inl t_told)), (a_t_one, .inl (cT 0, 48, .inl t_one)), (a_t_other, .inl (cT 0, 48, .inl t_other)), (a_t_forth, .inl (cT 0, 48, .inl t_forth)), (a_t_cost, .inl (cT 0, 48, .inl t_cost)), (a_t_price, .inl (cT 0, 10, .inl t_price))]) (K23 : Int32 → Int32 → Int32 → (Nat → Int32) → Option (Int32 × (Nat → Int32))) (hK23 : ∀ (y2 : Int32) (y3 : Int32) (y4 : Int32) (t_price : Nat → Int32), K23 y2 y3 y4 t_price = some r → sW X l (zR 3) D 5 0 0 23 [(0, .ref a_t), (1, .int x1), (2, .int y2), (3, .int y3), (4, .int y4)] [] [(a_t, .inr (11, [.int t_thrown, .ref a_t_now, .ref a_t_told, .ref a_t_one, .ref a_t_other, .ref a_t_forth, .ref a_t_cost, .ref a_t_broken, .ref a_t_away, .ref a_t_text, .int t_length, .int t_textSize, .int t_start, .int t_next, .int t_token, .int t_value, .int t_error, .int t_errorAt, .int t_number, .int t_isFirst, .ref a_t_worth, .ref a_t_choice, .ref a_t_thought, .ref a_t_before, .ref a_t_deep, .int t_limitNow, .ref a_t_price, .int t_undos, .ref a_t_undo, .ref a_t_slots, .ref a_t_isSaved])), (a_t_now, .inl (cT 0, 514, .inl t_now)), (a_t_told, .inl (cT 0, 8, .inl t_told)), (a_t_one, .inl (cT 0, 48, .inl t_one)), (a_t_other, .inl (cT 0, 48, .inl t_other)), (a_t_forth, .inl (cT 0, 48, .inl t_forth)), (a_t_cost, .inl (cT 0, 48, .inl t_cost)), (a_t_price, .inl (cT 0, 10, .inl t_price))]) (y3 : Int32) (y4 : Int32) (s0 : Int32) (s1 : Int32) (t_price : Nat → Int32), fX11_comeAbout_b53 K23 y3 y4 s0 s1 t_price = some r → sW X l (zR 3) D 5 0 0 53 [(0, .ref a_t), (1, .int x1), (3, .int y3), (4, .int y4)] [.int s0, .int s1] [(a_t, .inr (11, [.int t_thrown, .ref a_t_now, .ref a_t_told, .ref a_t_one, .ref a_t_other, .ref a_t_forth, .ref a_t_cost, .ref a_t_broken, .ref a_t_away, .ref a_t_text, .int t_length, .int t_textSize, .int t_start, .int t_next, .int t_token, .int t_value, .int t_error, .int t_errorAt, .int t_number, .int t_isFirst, .ref a_t_worth, .ref a_t_choice, .ref a_t_thought, .ref a_t_before, .ref a_t_deep, .int t_limitNow, .ref a_t_price, .int t_undos, .ref a_t_undo, .ref a_t_slots, .ref a_t_isSaved])), (a_t_now, .inl (cT 0, 514, .inl t_now)), (a_t_told, .inl (cT 0, 8, .inl t_told)), (a_t_one, .inl (cT 0, 48, .inl t_one)), (a_t_other, .inl (cT 0, 48, .inl t_other)), (a_t_forth, .inl (cT 0, 48, .inl t_forth)), (a_t_cost, .inl (cT 0, 48, .inl t_cost)), (a_t_price, .inl (cT 0, 10, .inl t_price))] := by
    intro K4 hK4 K23 hK23 y3 y4 s0 s1 t_price h
    refine xi_iadd C dX11_comeAbout_53 ?_
    refine xi_istore_n C [1, 2, 0, 3, 4] (L2 := [(0, .ref a_t), (1, .int x1), (2, .int (s1 + s0)), (3, .int y3), (4, .int y4)]) dX11_comeAbout_54 (Nat.le_of_ble_eq_true rfl) rfl ?_
    refine xi_iinc C (v := y4 + 1) 4 [1, 2, 3, 4, 0] (L2 := [(0, .ref a_t), (1, .int x1), (2, .int (s1 + s0)), (3, .int y3), (4, .int (y4 + 1))]) dX11_comeAbout_55 rfl rfl (Nat.le_of_ble_eq_true rfl) rfl ?_
    refine xi_goto C (tgt := 23) dX11_comeAbout_58 rfl ?_
    exact hK23 (s1 + s0) y3 (y4 + 1) t_price h
  have B23 : ∀ (K4 : Int32 → Int32 → (Nat → Int32) → Option (Int32 × (Nat → Int32))) (hK4 : ∀ (y2 : Int32) (y3 : Int32) (t_price : Nat → Int32), K4 y2 y3 t_price = some r → sW X l (zR 3) D 5 0 0 4 [(0, .ref a_t), (1, .int x1), (2, .int y2), (3, .int y3)] [] [(a_t, .inr (11, [.int t_thrown, .ref a_t_now, .ref a_t_told, .ref a_t_one, .ref a_t_other, .ref a_t_forth, .ref a_t_cost, .ref a_t_broken, .ref a_t_away, .ref a_t_text, .int t_length, .int t_textSize, .int t_start, .int t_next, .int t_token, .int t_value, .int t_error, .int t_errorAt, .int t_number, .int t_isFirst, .ref a_t_worth, .ref a_t_choice, .ref a_t_thought, .ref a_t_before, .ref a_t_deep, .int t_limitNow, .ref a_t_price, .int t_undos, .ref a_t_undo, .ref a_t_slots, .ref a_t_isSaved])), (a_t_now, .inl (cT 0, 514, .inl t_now)), (a_t_told, .inl (cT 0, 8, .inl t_told)), (a_t_one, .inl (cT 0, 48, .inl t_one)), (a_t_other, .inl (cT 0, 48, .inl t_other)), (a_t_forth, .inl (cT 0, 48, .inl t_forth)), (a_t_cost, .inl (cT 0, 48, .inl t_cost)), (a_t_price, .inl (cT 0, 10, .inl t_price))]) (n : Nat) (y2 : Int32) (y3 : Int32) (y4 : Int32) (t_price : Nat → Int32), fX11_comeAbout_b23 t_told K4 n y2 y3 y4 t_price = some r → sW X l (zR 3) D 5 0 0 23 [(0, .ref a_t), (1, .int x1), (2, .int y2), (3, .int y3), (4, .int y4)] [] [(a_t, .inr (11, [.int t_thrown, .ref a_t_now, .ref a_t_told, .ref a_t_one, .ref a_t_other, .ref a_t_forth, .ref a_t_cost, .ref a_t_broken, .ref a_t_away, .ref a_t_text, .int t_length, .int t_textSize, .int t_start, .int t_next, .int t_token, .int t_value, .int t_error, .int t_errorAt, .int t_number, .int t_isFirst, .ref a_t_worth, .ref a_t_choice, .ref a_t_thought, .ref a_t_before, .ref a_t_deep, .int t_limitNow, .ref a_t_price, .int t_undos, .ref a_t_undo, .ref a_t_slots, .ref a_t_isSaved])), (a_t_now, .inl (cT 0, 514, .inl t_now)), (a_t_told, .inl (cT 0, 8, .inl t_told)), (a_t_one, .inl (cT 0, 48, .inl t_one)), (a_t_other, .inl (cT 0, 48, .inl t_other)), (a_t_forth, .inl (cT 0, 48, .inl t_forth)), (a_t_cost, .inl (cT 0, 48, .inl t_cost)), (a_t_price, .inl (cT 0, 10, .inl t_price))] := by
    intro K4 hK4 n
    induction n with
    | zero =>
      intro y2 y3 y4 t_price h
      exact zno ((fX11_comeAbout_b23_0 _ _ _ _ _ _).symm.trans h)
    | succ n ih =>
      intro y2 y3 y4 t_price h
      replace h := (fX11_comeAbout_b23_s _ _ _ _ _ _ _).symm.trans h
      refine xi_iload C 4 dX11_comeAbout_23 rfl ?_
      refine xi_aload_n C 0 dX11_comeAbout_25 rfl ?_
      refine xi_get C zkX11 2 0 zlX11_13 (by decide) rfl rfl dX11_comeAbout_26 ?_
      refine xi_iconst C (v := 0) dX11_comeAbout_29 rfl ?_
      refine xi_iald C 2 rfl (zv (by decide)) dX11_comeAbout_30 ?_
      refine xi_icmp_ge C (tgt := 61) dX11_comeAbout_31 rfl (fun c5 => ?_) (fun c5 => ?_)
      · replace h := (if_pos c5).symm.trans h
        refine xi_iinc C (v := y3 + 1) 3 [1, 2, 3, 0, 4] (L2 := [(0, .ref a_t), (1, .int x1), (2, .int y2), (3, .int (y3 + 1)), (4, .int y4)]) dX11_comeAbout_61 rfl rfl (Nat.le_of_ble_eq_true rfl) rfl ?_
        refine xi_goto C (tgt := 4) dX11_comeAbout_64 rfl ?_
        refine xi_drop (L2 := [(0, .ref a_t), (1, .int x1), (2, .int y2), (3, .int (y3 + 1))]) [0, 1, 2, 3] rfl ?_
        exact hK4 y2 (y3 + 1) t_price h
      · replace h := (if_neg c5).symm.trans h
        refine xi_iload_n C 2 dX11_comeAbout_34 rfl ?_
        refine xi_aload_n C 0 dX11_comeAbout_35 rfl ?_
        refine xi_get C zkX11 26 0 zlX11_58 (by decide) rfl rfl dX11_comeAbout_36 ?_
        refine xi_iload C 4 dX11_comeAbout_39 rfl ?_
        replace h := ig h
        obtain ⟨c6, h⟩ := h
        refine xi_iald C 7 rfl c6 dX11_comeAbout_41 ?_
        refine xi_ldcw C (v := 1000000) zcoX11_277 dX11_comeAbout_42 ?_
        refine xi_icmp_ne C (tgt := 52) dX11_comeAbout_45 rfl (fun c7 => ?_) (fun c7 => ?_)
        · replace h := (if_neg c7).symm.trans h
          refine xi_iconst C (v := 1) dX11_comeAbout_52 rfl ?_
          refine xi_drop (L2 := [(0, .ref a_t), (1, .int x1), (3, .int y3), (4, .int y4)]) [0, 1, 3, 4] rfl ?_
          exact B53 K4 hK4 (fX11_comeAbout_b23 t_told K4 n) ih y3 y4 1 y2 t_price h
        · replace h := (if_pos c7).symm.trans h
          refine xi_iconst C (v := 0) dX11_comeAbout_48 rfl ?_
          refine xi_goto C (tgt := 53) dX11_comeAbout_49 rfl ?_
          refine xi_drop (L2 := [(0, .ref a_t), (1, .int x1), (3, .int y3), (4, .int y4)]) [0, 1, 3, 4] rfl ?_
          exact B53 K4 hK4 (fX11_comeAbout_b23 t_told K4 n) ih y3 y4 0 y2 t_price h
  have B4 : ∀ (n : Nat) (y2 : Int32) (y3 : Int32) (t_price : Nat → Int32), fX11_comeAbout_b4 t_now t_told t_one t_other t_forth t_cost x1 n y2 y3 t_price = some r → sW X l (zR 3) D 5 0 0 4 [(0, .ref a_t), (1, .int x1), (2, .int y2), (3, .int y3)] [] [(a_t, .inr (11, [.int t_thrown, .ref a_t_now, .ref a_t_told, .ref a_t_one, .ref a_t_other, .ref a_t_forth, .ref a_t_cost, .ref a_t_broken, .ref a_t_away, .ref a_t_text, .int t_length, .int t_textSize, .int t_start, .int t_next, .int t_token, .int t_value, .int t_error, .int t_errorAt, .int t_number, .int t_isFirst, .ref a_t_worth, .ref a_t_choice, .ref a_t_thought, .ref a_t_before, .ref a_t_deep, .int t_limitNow, .ref a_t_price, .int t_undos, .ref a_t_undo, .ref a_t_slots, .ref a_t_isSaved])), (a_t_now, .inl (cT 0, 514, .inl t_now)), (a_t_told, .inl (cT 0, 8, .inl t_told)), (a_t_one, .inl (cT 0, 48, .inl t_one)), (a_t_other, .inl (cT 0, 48, .inl t_other)), (a_t_forth, .inl (cT 0, 48, .inl t_forth)), (a_t_cost, .inl (cT 0, 48, .inl t_cost)), (a_t_price, .inl (cT 0, 10, .inl t_price))] := by
    intro n
    induction n with
    | zero =>
      intro y2 y3 t_price h
      exact zno ((fX11_comeAbout_b4_0 _ _ _ _ _ _ _ _ _ _).symm.trans h)
    | succ n ih =>
      intro y2 y3 t_price h
      replace h := (fX11_comeAbout_b4_s _ _ _ _ _ _ _ _ _ _ _).symm.trans h
      refine xi_iload_n C 3 dX11_comeAbout_4 rfl ?_
      refine xi_aload_n C 0 dX11_comeAbout_5 rfl ?_
      refine xi_get C zkX11 2 0 zlX11_13 (by decide) rfl rfl dX11_comeAbout_6 ?_
      refine xi_iconst C (v := 0) dX11_comeAbout_9 rfl ?_
      refine xi_iald C 2 rfl (zv (by decide)) dX11_comeAbout_10 ?_
      refine xi_icmp_ge C (tgt := 67) dX11_comeAbout_11 rfl (fun c1 => ?_) (fun c1 => ?_)
      · replace h := (if_pos c1).symm.trans h
        refine xi_iload_n C 2 dX11_comeAbout_67 rfl ?_
        obtain rfl := Option.some.inj h
        exact hE _ _ _ dX11_comeAbout_68 rfl
      · replace h := (if_neg c1).symm.trans h
        refine xi_aload_n C 0 dX11_comeAbout_14 rfl ?_
        refine xi_iload_n C 3 dX11_comeAbout_15 rfl ?_
        refine xi_iload_n C 1 dX11_comeAbout_16 rfl ?_
        replace h := ob h
        obtain ⟨u2, hu3, h⟩ := h
        refine xi_callV C (kX11_prices l D cT a_t a_t_now a_t_told a_t_one a_t_other a_t_forth a_t_cost a_t_broken a_t_away a_t_text a_t_worth a_t_choice a_t_thought a_t_before a_t_deep a_t_price a_t_undo a_t_slots a_t_isSaved t_thrown t_length t_textSize t_start t_next t_token t_value t_error t_errorAt t_number t_isFirst t_limitNow t_undos t_now t_told t_one t_other t_forth t_cost t_price y3 x1 u2 hu3) zcX11_prices zmX11_281 ziX11_prices (zr rfl rfl) z00 rfl [0, 1, 2, 3, 4, 5, 6, 7] rfl rfl rfl [some 0, some 1, some 2, some 3, some 4, some 5, some 6, some 7] (by decide +kernel) (ws2 := [(a_t, .inr (11, [.int t_thrown, .ref a_t_now, .ref a_t_told, .ref a_t_one, .ref a_t_other, .ref a_t_forth, .ref a_t_cost, .ref a_t_broken, .ref a_t_away, .ref a_t_text, .int t_length, .int t_textSize, .int t_start, .int t_next, .int t_token, .int t_value, .int t_error, .int t_errorAt, .int t_number, .int t_isFirst, .ref a_t_worth, .ref a_t_choice, .ref a_t_thought, .ref a_t_before, .ref a_t_deep, .int t_limitNow, .ref a_t_price, .int t_undos, .ref a_t_undo, .ref a_t_slots, .ref a_t_isSaved])), (a_t_now, .inl (cT 0, 514, .inl t_now)), (a_t_told, .inl (cT 0, 8, .inl t_told)), (a_t_one, .inl (cT 0, 48, .inl t_one)), (a_t_other, .inl (cT 0, 48, .inl t_other)), (a_t_forth, .inl (cT 0, 48, .inl t_forth)), (a_t_cost, .inl (cT 0, 48, .inl t_cost)), (a_t_price, .inl (cT 0, 10, .inl u2))]) rfl zkX11.1 (qr := 0) rfl rfl (Nat.le_of_ble_eq_true rfl) dX11_comeAbout_17 (fun z4 => ?_)
        refine xi_iconst C (v := 0) dX11_comeAbout_20 rfl ?_
        refine xi_istore C [1, 2, 3, 4, 0] (L2 := [(0, .ref a_t), (1, .int x1), (2, .int y2), (3, .int y3), (4, .int 0)]) dX11_comeAbout_21 (Nat.le_of_ble_eq_true rfl) rfl ?_
        exact B23 (fX11_comeAbout_b4 t_now t_told t_one t_other t_forth t_cost x1 n) ih FU y2 y3 0 u2 h
  refine xi_drop (L2 := [(0, .ref a_t), (1, .int x1)]) [0, 1] rfl ?_
  refine xi_iconst C (v := 0) dX11_comeAbout_0 rfl ?_
  refine xi_istore_n C [1, 2, 0] (L2 := [(0, .ref a_t), (1, .int x1), (2, .int 0)]) dX11_comeAbout_1 (Nat.le_of_ble_eq_true rfl) rfl ?_
  refine xi_iconst C (v := 0) dX11_comeAbout_2 rfl ?_
  refine xi_istore_n C [1, 2, 3, 0] (L2 := [(0, .ref a_t), (1, .int x1), (2, .int 0), (3, .int 0)]) dX11_comeAbout_3 (Nat.le_of_ble_eq_true rfl) rfl ?_
  exact B4 FU 0 0 t_price h
def fX11_vital_b69 (K20 : Int32 → Int32 → Int32 → Int32 → (Nat → Int32) → Option (Int32 × Int32 × (Nat → Int32))) (y2 : Int32) (y3 : Int32) (s0 : Int32) (s1 : Int32) (t_thrown : Int32) (t_price : Nat → Int32) : Option (Int32 × Int32 × (Nat → Int32)) := K20 (s1 ||| s0) y2 (y3 + 1) t_thrown t_price
def fX11_vital_b68 (K20 : Int32 → Int32 → Int32 → Int32 → (Nat → Int32) → Option (Int32 × Int32 × (Nat → Int32))) (y2 : Int32) (y3 : Int32) (s0 : Int32) (t_thrown : Int32) (t_price : Nat → Int32) : Option (Int32 × Int32 × (Nat → Int32)) := fX11_vital_b69 K20 y2 y3 0 s0 t_thrown t_price
def fX11_vital_b20 (t_now : Nat → Int32) (t_told : Nat → Int32) (t_one : Nat → Int32) (t_other : Nat → Int32) (t_forth : Nat → Int32) (t_cost : Nat → Int32) : Nat → Int32 → Int32 → Int32 → Int32 → (Nat → Int32) → Option (Int32 × Int32 × (Nat → Int32))
  | 0, _, _, _, _, _ => none
  | n + 1, y1, y2, y3, t_thrown, t_price => if (t_told 1) ≤ y3 then some (y1, t_thrown, t_price) else if (fX11_isIn (t_now 3) y3) = 0 then (fX11_comeAbout t_now t_told t_one t_other t_forth t_cost t_price ((t_now 3) ||| (1 <<< (y3 &&& 31)))).bind (fun u9 => if y2 ≤ u9.1 then fX11_vital_b68 (fX11_vital_b20 t_now t_told t_one t_other t_forth t_cost n) y2 y3 y1 t_thrown u9.2 else fX11_vital_b69 (fX11_vital_b20 t_now t_told t_one t_other t_forth t_cost n) y2 y3 (1 <<< (y3 &&& 31)) y1 t_thrown u9.2) else fX11_vital_b68 (fX11_vital_b20 t_now t_told t_one t_other t_forth t_cost n) y2 y3 y1 t_thrown t_price
theorem fX11_vital_b20_0 (t_now : Nat → Int32) (t_told : Nat → Int32) (t_one : Nat → Int32) (t_other : Nat → Int32) (t_forth : Nat → Int32) (t_cost : Nat → Int32) (y1 : Int32) (y2 : Int32) (y3 : Int32) (t_thrown : Int32) (t_price : Nat → Int32) : fX11_vital_b20 t_now t_told t_one t_other t_forth t_cost 0 y1 y2 y3 t_thrown t_price = none := rfl
theorem fX11_vital_b20_s (t_now : Nat → Int32) (t_told : Nat → Int32) (t_one : Nat → Int32) (t_other : Nat → Int32) (t_forth : Nat → Int32) (t_cost : Nat → Int32) (n : Nat) (y1 : Int32) (y2 : Int32) (y3 : Int32) (t_thrown : Int32) (t_price : Nat → Int32) : fX11_vital_b20 t_now t_told t_one t_other t_forth t_cost (n + 1) y1 y2 y3 t_thrown t_price = (if (t_told 1) ≤ y3 then some (y1, t_thrown, t_price) else if (fX11_isIn (t_now 3) y3) = 0 then (fX11_comeAbout t_now t_told t_one t_other t_forth t_cost t_price ((t_now 3) ||| (1 <<< (y3 &&& 31)))).bind (fun u9 => if y2 ≤ u9.1 then fX11_vital_b68 (fX11_vital_b20 t_now t_told t_one t_other t_forth t_cost n) y2 y3 y1 t_thrown u9.2 else fX11_vital_b69 (fX11_vital_b20 t_now t_told t_one t_other t_forth t_cost n) y2 y3 (1 <<< (y3 &&& 31)) y1 t_thrown u9.2) else fX11_vital_b68 (fX11_vital_b20 t_now t_told t_one t_other t_forth t_cost n) y2 y3 y1 t_thrown t_price) := rfl
def fX11_vital (t_now : Nat → Int32) (t_told : Nat → Int32) (t_one : Nat → Int32) (t_other : Nat → Int32) (t_forth : Nat → Int32) (t_cost : Nat → Int32) (t_price : Nat → Int32) : Option (Int32 × Int32 × (Nat → Int32)) := (fX11_comeAbout t_now t_told t_one t_other t_forth t_cost t_price (t_now 3)).bind (fun u1 => fX11_vital_b20 t_now t_told t_one t_other t_forth t_cost FU 0 u1.1 0 0 u1.2)
set_option maxRecDepth 100000 in
set_option maxHeartbeats 4000000 in
theorem kX11_vital (l : Launch) (D : va_G) (cT : Nat → ClassId) (a_t : Nat) (a_t_now : Nat) (a_t_told : Nat) (a_t_one : Nat) (a_t_other : Nat) (a_t_forth : Nat) (a_t_cost : Nat) (a_t_broken : Nat) (a_t_away : Nat) (a_t_text : Nat) (a_t_worth : Nat) (a_t_choice : Nat) (a_t_thought : Nat) (a_t_before : Nat) (a_t_deep : Nat) (a_t_price : Nat) (a_t_undo : Nat) (a_t_slots : Nat) (a_t_isSaved : Nat) (t_thrown : Int32) (t_length : Int32) (t_textSize : Int32) (t_start : Int32) (t_next : Int32) (t_token : Int32) (t_value : Int32) (t_error : Int32) (t_errorAt : Int32) (t_number : Int32) (t_isFirst : Int32) (t_limitNow : Int32) (t_undos : Int32) (t_now : Nat → Int32) (t_told : Nat → Int32) (t_one : Nat → Int32) (t_other : Nat → Int32) (t_forth : Nat → Int32) (t_cost : Nat → Int32) (t_price : Nat → Int32) (r : Int32 × Int32 × (Nat → Int32)) (h : fX11_vital t_now t_told t_one t_other t_forth t_cost t_price = some r) : sM l yX11_vital cX11_vital 4 (some .int) (zR 4) D cT [.ref a_t] [(a_t, .inr (11, [.int t_thrown, .ref a_t_now, .ref a_t_told, .ref a_t_one, .ref a_t_other, .ref a_t_forth, .ref a_t_cost, .ref a_t_broken, .ref a_t_away, .ref a_t_text, .int t_length, .int t_textSize, .int t_start, .int t_next, .int t_token, .int t_value, .int t_error, .int t_errorAt, .int t_number, .int t_isFirst, .ref a_t_worth, .ref a_t_choice, .ref a_t_thought, .ref a_t_before, .ref a_t_deep, .int t_limitNow, .ref a_t_price, .int t_undos, .ref a_t_undo, .ref a_t_slots, .ref a_t_isSaved])), (a_t_now, .inl (cT 0, 514, .inl t_now)), (a_t_told, .inl (cT 0, 8, .inl t_told)), (a_t_one, .inl (cT 0, 48, .inl t_one)), (a_t_other, .inl (cT 0, 48, .inl t_other)), (a_t_forth, .inl (cT 0, 48, .inl t_forth)), (a_t_cost, .inl (cT 0, 48, .inl t_cost)), (a_t_price, .inl (cT 0, 10, .inl t_price))] (some (.int r.1)) [(a_t, .inr (11, [.int r.2.1, .ref a_t_now, .ref a_t_told, .ref a_t_one, .ref a_t_other, .ref a_t_forth, .ref a_t_cost, .ref a_t_broken, .ref a_t_away, .ref a_t_text, .int t_length, .int t_textSize, .int t_start, .int t_next, .int t_token, .int t_value, .int t_error, .int t_errorAt, .int t_number, .int t_isFirst, .ref a_t_worth, .ref a_t_choice, .ref a_t_thought, .ref a_t_before, .ref a_t_deep, .int t_limitNow, .ref a_t_price, .int t_undos, .ref a_t_undo, .ref a_t_slots, .ref a_t_isSaved])), (a_t_now, .inl (cT 0, 514, .inl t_now)), (a_t_told, .inl (cT 0, 8, .inl t_told)), (a_t_one, .inl (cT 0, 48, .inl t_one)), (a_t_other, .inl (cT 0, 48, .inl t_other)), (a_t_forth, .inl (cT 0, 48, .inl t_forth)), (a_t_cost, .inl (cT 0, 48, .inl t_cost)), (a_t_price, .inl (cT 0, 10, .inl r.2.2))] := by
  refine sM_int rfl (Nat.le_of_ble_eq_true rfl) ?_
  intro X C hE
  have B69 : ∀ (K20 : Int32 → Int32 → Int32 → Int32 → (Nat → Int32) → Option (Int32 × Int32 × (Nat → Int32))) (hK20 : ∀ (y1 : Int32) (y2 : Int32) (y3 : Int32) (t_thrown : Int32) (t_price : Nat → Int32), K20 y1 y2 y3 t_thrown t_price = some r → sW X l (zR 4) D 4 0 0 20 [(0, .ref a_t), (1, .int y1), (2, .int y2), (3, .int y3)] [] [(a_t, .inr (11, [.int t_thrown, .ref a_t_now, .ref a_t_told, .ref a_t_one, .ref a_t_other, .ref a_t_forth, .ref a_t_cost, .ref a_t_broken, .ref a_t_away, .ref a_t_text, .int t_length, .int t_textSize, .int t_start, .int t_next, .int t_token, .int t_value, .int t_error, .int t_errorAt, .int t_number, .int t_isFirst, .ref a_t_worth, .ref a_t_choice, .ref a_t_thought, .ref a_t_before, .ref a_t_deep, .int t_limitNow, .ref a_t_price, .int t_undos, .ref a_t_undo, .ref a_t_slots, .ref a_t_isSaved])), (a_t_now, .inl (cT 0, 514, .inl t_now)), (a_t_told, .inl (cT 0, 8, .inl t_told)), (a_t_one, .inl (cT 0, 48, .inl t_one)), (a_t_other, .inl (cT 0, 48, .inl t_other)), (a_t_forth, .inl (cT 0, 48, .inl t_forth)), (a_t_cost, .inl (cT 0, 48, .inl t_cost)), (a_t_price, .inl (cT 0, 10, .inl t_price))]) (y2 : Int32) (y3 : Int32) (s0 : Int32) (s1 : Int32) (t_thrown : Int32) (t_price : Nat → Int32), fX11_vital_b69 K20 y2 y3 s0 s1 t_thrown t_price = some r → sW X l (zR 4) D 4 0 0 69 [(0, .ref a_t), (2, .int y2), (3, .int y3)] [.int s0, .int s1] [(a_t, .inr (11, [.int t_thrown, .ref a_t_now, .ref a_t_told, .ref a_t_one, .ref a_t_other, .ref a_t_forth, .ref a_t_cost, .ref a_t_broken, .ref a_t_away, .ref a_t_text, .int t_length, .int t_textSize, .int t_start, .int t_next, .int t_token, .int t_value, .int t_error, .int t_errorAt, .int t_number, .int t_isFirst, .ref a_t_worth, .ref a_t_choice, .ref a_t_thought, .ref a_t_before, .ref a_t_deep, .int t_limitNow, .ref a_t_price, .int t_undos, .ref a_t_undo, .ref a_t_slots, .ref a_t_isSaved])), (a_t_now, .inl (cT 0, 514, .inl t_now)), (a_t_told, .inl (cT 0, 8, .inl t_told)), (a_t_one, .inl (cT 0, 48, .inl t_one)), (a_t_other, .inl (cT 0, 48, .inl t_other)), (a_t_forth, .inl (cT 0, 48, .inl t_forth)), (a_t_cost, .inl (cT 0, 48, .inl t_cost)), (a_t_price, .inl (cT 0, 10, .inl t_price))] := by
    intro K20 hK20 y2 y3 s0 s1 t_thrown t_price h
    refine xi_ior C dX11_vital_69 ?_
    refine xi_istore_n C [1, 0, 2, 3] (L2 := [(0, .ref a_t), (1, .int (s1 ||| s0)), (2, .int y2), (3, .int y3)]) dX11_vital_70 (Nat.le_of_ble_eq_true rfl) rfl ?_
    refine xi_iinc C (v := y3 + 1) 3 [1, 2, 3, 0] (L2 := [(0, .ref a_t), (1, .int (s1 ||| s0)), (2, .int y2), (3, .int (y3 + 1))]) dX11_vital_71 rfl rfl (Nat.le_of_ble_eq_true rfl) rfl ?_
    refine xi_goto C (tgt := 20) dX11_vital_74 rfl ?_
    exact hK20 (s1 ||| s0) y2 (y3 + 1) t_thrown t_price h
  have B68 : ∀ (K20 : Int32 → Int32 → Int32 → Int32 → (Nat → Int32) → Option (Int32 × Int32 × (Nat → Int32))) (hK20 : ∀ (y1 : Int32) (y2 : Int32) (y3 : Int32) (t_thrown : Int32) (t_price : Nat → Int32), K20 y1 y2 y3 t_thrown t_price = some r → sW X l (zR 4) D 4 0 0 20 [(0, .ref a_t), (1, .int y1), (2, .int y2), (3, .int y3)] [] [(a_t, .inr (11, [.int t_thrown, .ref a_t_now, .ref a_t_told, .ref a_t_one, .ref a_t_other, .ref a_t_forth, .ref a_t_cost, .ref a_t_broken, .ref a_t_away, .ref a_t_text, .int t_length, .int t_textSize, .int t_start, .int t_next, .int t_token, .int t_value, .int t_error, .int t_errorAt, .int t_number, .int t_isFirst, .ref a_t_worth, .ref a_t_choice, .ref a_t_thought, .ref a_t_before, .ref a_t_deep, .int t_limitNow, .ref a_t_price, .int t_undos, .ref a_t_undo, .ref a_t_slots, .ref a_t_isSaved])), (a_t_now, .inl (cT 0, 514, .inl t_now)), (a_t_told, .inl (cT 0, 8, .inl t_told)), (a_t_one, .inl (cT 0, 48, .inl t_one)), (a_t_other, .inl (cT 0, 48, .inl t_other)), (a_t_forth, .inl (cT 0, 48, .inl t_forth)), (a_t_cost, .inl (cT 0, 48, .inl t_cost)), (a_t_price, .inl (cT 0, 10, .inl t_price))]) (y2 : Int32) (y3 : Int32) (s0 : Int32) (t_thrown : Int32) (t_price : Nat → Int32), fX11_vital_b68 K20 y2 y3 s0 t_thrown t_price = some r → sW X l (zR 4) D 4 0 0 68 [(0, .ref a_t), (2, .int y2), (3, .int y3)] [.int s0] [(a_t, .inr (11, [.int t_thrown, .ref a_t_now, .ref a_t_told, .ref a_t_one, .ref a_t_other, .ref a_t_forth, .ref a_t_cost, .ref a_t_broken, .ref a_t_away, .ref a_t_text, .int t_length, .int t_textSize, .int t_start, .int t_next, .int t_token, .int t_value, .int t_error, .int t_errorAt, .int t_number, .int t_isFirst, .ref a_t_worth, .ref a_t_choice, .ref a_t_thought, .ref a_t_before, .ref a_t_deep, .int t_limitNow, .ref a_t_price, .int t_undos, .ref a_t_undo, .ref a_t_slots, .ref a_t_isSaved])), (a_t_now, .inl (cT 0, 514, .inl t_now)), (a_t_told, .inl (cT 0, 8, .inl t_told)), (a_t_one, .inl (cT 0, 48, .inl t_one)), (a_t_other, .inl (cT 0, 48, .inl t_other)), (a_t_forth, .inl (cT 0, 48, .inl t_forth)), (a_t_cost, .inl (cT 0, 48, .inl t_cost)), (a_t_price, .inl (cT 0, 10, .inl t_price))] := by
    intro K20 hK20 y2 y3 s0 t_thrown t_price h
    refine xi_iconst C (v := 0) dX11_vital_68 rfl ?_
    exact B69 K20 hK20 y2 y3 0 s0 t_thrown t_price h
  have B20 : ∀ (n : Nat) (y1 : Int32) (y2 : Int32) (y3 : Int32) (t_thrown : Int32) (t_price : Nat → Int32), fX11_vital_b20 t_now t_told t_one t_other t_forth t_cost n y1 y2 y3 t_thrown t_price = some r → sW X l (zR 4) D 4 0 0 20 [(0, .ref a_t), (1, .int y1), (2, .int y2), (3, .int y3)] [] [(a_t, .inr (11, [.int t_thrown, .ref a_t_now, .ref a_t_told, .ref a_t_one, .ref a_t_other, .ref a_t_forth, .ref a_t_cost, .ref a_t_broken, .ref a_t_away, .ref a_t_text, .int t_length, .int t_textSize, .int t_start, .int t_next, .int t_token, .int t_value, .int t_error, .int t_errorAt, .int t_number, .int t_isFirst, .ref a_t_worth, .ref a_t_choice, .ref a_t_thought, .ref a_t_before, .ref a_t_deep, .int t_limitNow, .ref a_t_price, .int t_undos, .ref a_t_undo, .ref a_t_slots, .ref a_t_isSaved])), (a_t_now, .inl (cT 0, 514, .inl t_now)), (a_t_told, .inl (cT 0, 8, .inl t_told)), (a_t_one, .inl (cT 0, 48, .inl t_one)), (a_t_other, .inl (cT 0, 48, .inl t_other)), (a_t_forth, .inl (cT 0, 48, .inl t_forth)), (a_t_cost, .inl (cT 0, 48, .inl t_cost)), (a_t_price, .inl (cT 0, 10, .inl t_price))] := by
    intro n
    induction n with
    | zero =>
      intro y1 y2 y3 t_thrown t_price h
      exact zno ((fX11_vital_b20_0 _ _ _ _ _ _ _ _ _ _ _).symm.trans h)
    | succ n ih =>
      intro y1 y2 y3 t_thrown t_price h
      replace h := (fX11_vital_b20_s _ _ _ _ _ _ _ _ _ _ _ _).symm.trans h
      refine xi_iload_n C 3 dX11_vital_20 rfl ?_
      refine xi_aload_n C 0 dX11_vital_21 rfl ?_
      refine xi_get C zkX11 2 0 zlX11_13 (by decide) rfl rfl dX11_vital_22 ?_
      refine xi_iconst C (v := 1) dX11_vital_25 rfl ?_
      refine xi_iald C 2 rfl (zv (by decide)) dX11_vital_26 ?_
      refine xi_icmp_ge C (tgt := 77) dX11_vital_27 rfl (fun c4 => ?_) (fun c4 => ?_)
      · replace h := (if_pos c4).symm.trans h
        refine xi_iload_n C 1 dX11_vital_77 rfl ?_
        obtain rfl := Option.some.inj h
        exact hE _ _ _ dX11_vital_78 rfl
      · replace h := (if_neg c4).symm.trans h
        refine xi_iload_n C 1 dX11_vital_30 rfl ?_
        refine xi_aload_n C 0 dX11_vital_31 rfl ?_
        refine xi_get C zkX11 1 0 zlX11_7 (by decide) rfl rfl dX11_vital_32 ?_
        refine xi_iconst C (v := 3) dX11_vital_35 rfl ?_
        refine xi_iald C 1 rfl (zv (by decide)) dX11_vital_36 ?_
        refine xi_iload_n C 3 dX11_vital_37 rfl ?_
        refine xi_callSr C (kX11_isIn l D cT (t_now 3) y3 (fX11_isIn (t_now 3) y3) rfl) zcX11_isIn zmX11_201 zsX11_isIn (zr rfl rfl) z00 rfl [] rfl rfl rfl (Nat.le_of_ble_eq_true rfl) dX11_vital_38 (fun z7 => ?_)
        refine xi_if_ne C (tgt := 68) dX11_vital_41 rfl (fun c8 => ?_) (fun c8 => ?_)
        · replace h := (if_neg c8).symm.trans h
          refine xi_drop (L2 := [(0, .ref a_t), (2, .int y2), (3, .int y3)]) [0, 2, 3] rfl ?_
          exact B68 (fX11_vital_b20 t_now t_told t_one t_other t_forth t_cost n) ih y2 y3 y1 t_thrown t_price h
        · replace h := (if_pos c8).symm.trans h
          refine xi_aload_n C 0 dX11_vital_44 rfl ?_
          refine xi_aload_n C 0 dX11_vital_45 rfl ?_
          refine xi_get C zkX11 1 0 zlX11_7 (by decide) rfl rfl dX11_vital_46 ?_
          refine xi_iconst C (v := 3) dX11_vital_49 rfl ?_
          refine xi_iald C 1 rfl (zv (by decide)) dX11_vital_50 ?_
          refine xi_iconst C (v := 1) dX11_vital_51 rfl ?_
          refine xi_iload_n C 3 dX11_vital_52 rfl ?_
          refine xi_ishl C dX11_vital_53 ?_
          refine xi_ior C dX11_vital_54 ?_
          replace h := ob h
          obtain ⟨u9, hu10, h⟩ := h
          refine xi_callV C (kX11_comeAbout l D cT a_t a_t_now a_t_told a_t_one a_t_other a_t_forth a_t_cost a_t_broken a_t_away a_t_text a_t_worth a_t_choice a_t_thought a_t_before a_t_deep a_t_price a_t_undo a_t_slots a_t_isSaved t_thrown t_length t_textSize t_start t_next t_token t_value t_error t_errorAt t_number t_isFirst t_limitNow t_undos t_now t_told t_one t_other t_forth t_cost t_price ((t_now 3) ||| (1 <<< (y3 &&& 31))) u9 hu10) zcX11_comeAbout zmX11_285 ziX11_comeAbout (zr rfl rfl) z00 rfl [0, 1, 2, 3, 4, 5, 6, 7] rfl rfl rfl [some 0, some 1, some 2, some 3, some 4, some 5, some 6, some 7] (by decide +kernel) (ws2 := [(a_t, .inr (11, [.int t_thrown, .ref a_t_now, .ref a_t_told, .ref a_t_one, .ref a_t_other, .ref a_t_forth, .ref a_t_cost, .ref a_t_broken, .ref a_t_away, .ref a_t_text, .int t_length, .int t_textSize, .int t_start, .int t_next, .int t_token, .int t_value, .int t_error, .int t_errorAt, .int t_number, .int t_isFirst, .ref a_t_worth, .ref a_t_choice, .ref a_t_thought, .ref a_t_before, .ref a_t_deep, .int t_limitNow, .ref a_t_price, .int t_undos, .ref a_t_undo, .ref a_t_slots, .ref a_t_isSaved])), (a_t_now, .inl (cT 0, 514, .inl t_now)), (a_t_told, .inl (cT 0, 8, .inl t_told)), (a_t_one, .inl (cT 0, 48, .inl t_one)), (a_t_other, .inl (cT 0, 48, .inl t_other)), (a_t_forth, .inl (cT 0, 48, .inl t_forth)), (a_t_cost, .inl (cT 0, 48, .inl t_cost)), (a_t_price, .inl (cT 0, 10, .inl u9.2))]) rfl zkX11.1 (qr := 0) rfl rfl (Nat.le_of_ble_eq_true rfl) dX11_vital_55 (fun z11 => ?_)
          refine xi_iload_n C 2 dX11_vital_58 rfl ?_
          refine xi_icmp_ge C (tgt := 68) dX11_vital_59 rfl (fun c12 => ?_) (fun c12 => ?_)
          · replace h := (if_pos c12).symm.trans h
            refine xi_drop (L2 := [(0, .ref a_t), (2, .int y2), (3, .int y3)]) [0, 2, 3] rfl ?_
            exact B68 (fX11_vital_b20 t_now t_told t_one t_other t_forth t_cost n) ih y2 y3 y1 t_thrown u9.2 h
          · replace h := (if_neg c12).symm.trans h
            refine xi_iconst C (v := 1) dX11_vital_62 rfl ?_
            refine xi_iload_n C 3 dX11_vital_63 rfl ?_
            refine xi_ishl C dX11_vital_64 ?_
            refine xi_goto C (tgt := 69) dX11_vital_65 rfl ?_
            refine xi_drop (L2 := [(0, .ref a_t), (2, .int y2), (3, .int y3)]) [0, 2, 3] rfl ?_
            exact B69 (fX11_vital_b20 t_now t_told t_one t_other t_forth t_cost n) ih y2 y3 (1 <<< (y3 &&& 31)) y1 t_thrown u9.2 h
  refine xi_drop (L2 := [(0, .ref a_t)]) [0] rfl ?_
  refine xi_aload_n C 0 dX11_vital_0 rfl ?_
  refine xi_iconst C (v := 0) dX11_vital_1 rfl ?_
  refine xi_put C zkX11 0 0 zlX11_80 (by decide) rfl rfl rfl rfl (Nat.le_of_ble_eq_true rfl) dX11_vital_2 (ws2 := [(a_t, .inr (11, [.int 0, .ref a_t_now, .ref a_t_told, .ref a_t_one, .ref a_t_other, .ref a_t_forth, .ref a_t_cost, .ref a_t_broken, .ref a_t_away, .ref a_t_text, .int t_length, .int t_textSize, .int t_start, .int t_next, .int t_token, .int t_value, .int t_error, .int t_errorAt, .int t_number, .int t_isFirst, .ref a_t_worth, .ref a_t_choice, .ref a_t_thought, .ref a_t_before, .ref a_t_deep, .int t_limitNow, .ref a_t_price, .int t_undos, .ref a_t_undo, .ref a_t_slots, .ref a_t_isSaved])), (a_t_now, .inl (cT 0, 514, .inl t_now)), (a_t_told, .inl (cT 0, 8, .inl t_told)), (a_t_one, .inl (cT 0, 48, .inl t_one)), (a_t_other, .inl (cT 0, 48, .inl t_other)), (a_t_forth, .inl (cT 0, 48, .inl t_forth)), (a_t_cost, .inl (cT 0, 48, .inl t_cost)), (a_t_price, .inl (cT 0, 10, .inl t_price))]) rfl ?_
  refine xi_iconst C (v := 0) dX11_vital_5 rfl ?_
  refine xi_istore_n C [1, 0] (L2 := [(0, .ref a_t), (1, .int 0)]) dX11_vital_6 (Nat.le_of_ble_eq_true rfl) rfl ?_
  refine xi_aload_n C 0 dX11_vital_7 rfl ?_
  refine xi_aload_n C 0 dX11_vital_8 rfl ?_
  refine xi_get C zkX11 1 0 zlX11_7 (by decide) rfl rfl dX11_vital_9 ?_
  refine xi_iconst C (v := 3) dX11_vital_12 rfl ?_
  refine xi_iald C 1 rfl (zv (by decide)) dX11_vital_13 ?_
  replace h := ob h
  obtain ⟨u1, hu2, h⟩ := h
  refine xi_callV C (kX11_comeAbout l D cT a_t a_t_now a_t_told a_t_one a_t_other a_t_forth a_t_cost a_t_broken a_t_away a_t_text a_t_worth a_t_choice a_t_thought a_t_before a_t_deep a_t_price a_t_undo a_t_slots a_t_isSaved 0 t_length t_textSize t_start t_next t_token t_value t_error t_errorAt t_number t_isFirst t_limitNow t_undos t_now t_told t_one t_other t_forth t_cost t_price (t_now 3) u1 hu2) zcX11_comeAbout zmX11_285 ziX11_comeAbout (zr rfl rfl) z00 rfl [0, 1, 2, 3, 4, 5, 6, 7] rfl rfl rfl [some 0, some 1, some 2, some 3, some 4, some 5, some 6, some 7] (by decide +kernel) (ws2 := [(a_t, .inr (11, [.int 0, .ref a_t_now, .ref a_t_told, .ref a_t_one, .ref a_t_other, .ref a_t_forth, .ref a_t_cost, .ref a_t_broken, .ref a_t_away, .ref a_t_text, .int t_length, .int t_textSize, .int t_start, .int t_next, .int t_token, .int t_value, .int t_error, .int t_errorAt, .int t_number, .int t_isFirst, .ref a_t_worth, .ref a_t_choice, .ref a_t_thought, .ref a_t_before, .ref a_t_deep, .int t_limitNow, .ref a_t_price, .int t_undos, .ref a_t_undo, .ref a_t_slots, .ref a_t_isSaved])), (a_t_now, .inl (cT 0, 514, .inl t_now)), (a_t_told, .inl (cT 0, 8, .inl t_told)), (a_t_one, .inl (cT 0, 48, .inl t_one)), (a_t_other, .inl (cT 0, 48, .inl t_other)), (a_t_forth, .inl (cT 0, 48, .inl t_forth)), (a_t_cost, .inl (cT 0, 48, .inl t_cost)), (a_t_price, .inl (cT 0, 10, .inl u1.2))]) rfl zkX11.1 (qr := 0) rfl rfl (Nat.le_of_ble_eq_true rfl) dX11_vital_14 (fun z3 => ?_)
  refine xi_istore_n C [1, 2, 0] (L2 := [(0, .ref a_t), (1, .int 0), (2, .int u1.1)]) dX11_vital_17 (Nat.le_of_ble_eq_true rfl) rfl ?_
  refine xi_iconst C (v := 0) dX11_vital_18 rfl ?_
  refine xi_istore_n C [1, 2, 3, 0] (L2 := [(0, .ref a_t), (1, .int 0), (2, .int u1.1), (3, .int 0)]) dX11_vital_19 (Nat.le_of_ble_eq_true rfl) rfl ?_
  exact B20 FU 0 u1.1 0 0 u1.2 h
def fX11_canArrange_b20 (t_now : Nat → Int32) (t_told : Nat → Int32) (t_one : Nat → Int32) (t_other : Nat → Int32) (x1 : Int32) : Nat → Int32 → Option Int32
  | 0, _ => none
  | n + 1, y2 => if (t_told 1) ≤ y2 then some (1 : Int32) else if (fX11_isIn (t_now 2) y2) = 0 then (fX11_canArrange_b20 t_now t_told t_one t_other x1 n) (y2 + 1) else gd y2 48 (gd x1 48 (if (t_one y2.toNatClampNeg) = (t_one x1.toNatClampNeg) then some (0 : Int32) else if (t_one y2.toNatClampNeg) = (t_other x1.toNatClampNeg) then some (0 : Int32) else if (t_other y2.toNatClampNeg) = (t_one x1.toNatClampNeg) then some (0 : Int32) else if (t_other y2.toNatClampNeg) = (t_other x1.toNatClampNeg) then some (0 : Int32) else (fX11_canArrange_b20 t_now t_told t_one t_other x1 n) (y2 + 1)))
theorem fX11_canArrange_b20_0 (t_now : Nat → Int32) (t_told : Nat → Int32) (t_one : Nat → Int32) (t_other : Nat → Int32) (x1 : Int32) (y2 : Int32) : fX11_canArrange_b20 t_now t_told t_one t_other x1 0 y2 = none := rfl
theorem fX11_canArrange_b20_s (t_now : Nat → Int32) (t_told : Nat → Int32) (t_one : Nat → Int32) (t_other : Nat → Int32) (x1 : Int32) (n : Nat) (y2 : Int32) : fX11_canArrange_b20 t_now t_told t_one t_other x1 (n + 1) y2 = (if (t_told 1) ≤ y2 then some (1 : Int32) else if (fX11_isIn (t_now 2) y2) = 0 then (fX11_canArrange_b20 t_now t_told t_one t_other x1 n) (y2 + 1) else gd y2 48 (gd x1 48 (if (t_one y2.toNatClampNeg) = (t_one x1.toNatClampNeg) then some (0 : Int32) else if (t_one y2.toNatClampNeg) = (t_other x1.toNatClampNeg) then some (0 : Int32) else if (t_other y2.toNatClampNeg) = (t_one x1.toNatClampNeg) then some (0 : Int32) else if (t_other y2.toNatClampNeg) = (t_other x1.toNatClampNeg) then some (0 : Int32) else (fX11_canArrange_b20 t_now t_told t_one t_other x1 n) (y2 + 1)))) := rfl
def fX11_canArrange (t_now : Nat → Int32) (t_told : Nat → Int32) (t_one : Nat → Int32) (t_other : Nat → Int32) (t_broken : Nat → Int32) (t_away : Nat → Int32) (x1 : Int32) : Option Int32 := (fX11_canCall t_now t_told t_one t_other t_broken t_away x1 ((t_now 0) + 1)).bind (fun u1 => if u1 = 0 then some (0 : Int32) else fX11_canArrange_b20 t_now t_told t_one t_other x1 FU 0)
set_option maxRecDepth 100000 in
set_option maxHeartbeats 4000000 in
theorem kX11_canArrange (l : Launch) (D : va_G) (cT : Nat → ClassId) (a_t : Nat) (a_t_now : Nat) (a_t_told : Nat) (a_t_one : Nat) (a_t_other : Nat) (a_t_forth : Nat) (a_t_cost : Nat) (a_t_broken : Nat) (a_t_away : Nat) (a_t_text : Nat) (a_t_worth : Nat) (a_t_choice : Nat) (a_t_thought : Nat) (a_t_before : Nat) (a_t_deep : Nat) (a_t_price : Nat) (a_t_undo : Nat) (a_t_slots : Nat) (a_t_isSaved : Nat) (t_thrown : Int32) (t_length : Int32) (t_textSize : Int32) (t_start : Int32) (t_next : Int32) (t_token : Int32) (t_value : Int32) (t_error : Int32) (t_errorAt : Int32) (t_number : Int32) (t_isFirst : Int32) (t_limitNow : Int32) (t_undos : Int32) (t_now : Nat → Int32) (t_told : Nat → Int32) (t_one : Nat → Int32) (t_other : Nat → Int32) (t_broken : Nat → Int32) (t_away : Nat → Int32) (x1 : Int32) (r : Int32) (h : fX11_canArrange t_now t_told t_one t_other t_broken t_away x1 = some r) : sM l yX11_canArrange cX11_canArrange 3 (some .boolean) (zR 4) D cT [.ref a_t, .int x1] [(a_t, .inr (11, [.int t_thrown, .ref a_t_now, .ref a_t_told, .ref a_t_one, .ref a_t_other, .ref a_t_forth, .ref a_t_cost, .ref a_t_broken, .ref a_t_away, .ref a_t_text, .int t_length, .int t_textSize, .int t_start, .int t_next, .int t_token, .int t_value, .int t_error, .int t_errorAt, .int t_number, .int t_isFirst, .ref a_t_worth, .ref a_t_choice, .ref a_t_thought, .ref a_t_before, .ref a_t_deep, .int t_limitNow, .ref a_t_price, .int t_undos, .ref a_t_undo, .ref a_t_slots, .ref a_t_isSaved])), (a_t_now, .inl (cT 0, 514, .inl t_now)), (a_t_told, .inl (cT 0, 8, .inl t_told)), (a_t_one, .inl (cT 0, 48, .inl t_one)), (a_t_other, .inl (cT 0, 48, .inl t_other)), (a_t_broken, .inl (cT 0, 72, .inl t_broken)), (a_t_away, .inl (cT 0, 72, .inl t_away))] (some (.int r)) [(a_t, .inr (11, [.int t_thrown, .ref a_t_now, .ref a_t_told, .ref a_t_one, .ref a_t_other, .ref a_t_forth, .ref a_t_cost, .ref a_t_broken, .ref a_t_away, .ref a_t_text, .int t_length, .int t_textSize, .int t_start, .int t_next, .int t_token, .int t_value, .int t_error, .int t_errorAt, .int t_number, .int t_isFirst, .ref a_t_worth, .ref a_t_choice, .ref a_t_thought, .ref a_t_before, .ref a_t_deep, .int t_limitNow, .ref a_t_price, .int t_undos, .ref a_t_undo, .ref a_t_slots, .ref a_t_isSaved])), (a_t_now, .inl (cT 0, 514, .inl t_now)), (a_t_told, .inl (cT 0, 8, .inl t_told)), (a_t_one, .inl (cT 0, 48, .inl t_one)), (a_t_other, .inl (cT 0, 48, .inl t_other)), (a_t_broken, .inl (cT 0, 72, .inl t_broken)), (a_t_away, .inl (cT 0, 72, .inl t_away))] := by
  refine sM_bool rfl (Nat.le_of_ble_eq_true rfl) ?_
  intro X C hE
  have B20 : ∀ (n : Nat) (y2 : Int32), fX11_canArrange_b20 t_now t_told t_one t_other x1 n y2 = some r → sW X l (zR 4) D 3 0 0 20 [(0, .ref a_t), (1, .int x1), (2, .int y2)] [] [(a_t, .inr (11, [.int t_thrown, .ref a_t_now, .ref a_t_told, .ref a_t_one, .ref a_t_other, .ref a_t_forth, .ref a_t_cost, .ref a_t_broken, .ref a_t_away, .ref a_t_text, .int t_length, .int t_textSize, .int t_start, .int t_next, .int t_token, .int t_value, .int t_error, .int t_errorAt, .int t_number, .int t_isFirst, .ref a_t_worth, .ref a_t_choice, .ref a_t_thought, .ref a_t_before, .ref a_t_deep, .int t_limitNow, .ref a_t_price, .int t_undos, .ref a_t_undo, .ref a_t_slots, .ref a_t_isSaved])), (a_t_now, .inl (cT 0, 514, .inl t_now)), (a_t_told, .inl (cT 0, 8, .inl t_told)), (a_t_one, .inl (cT 0, 48, .inl t_one)), (a_t_other, .inl (cT 0, 48, .inl t_other)), (a_t_broken, .inl (cT 0, 72, .inl t_broken)), (a_t_away, .inl (cT 0, 72, .inl t_away))] := by
    intro n
    induction n with
    | zero =>
      intro y2 h
      exact zno ((fX11_canArrange_b20_0 _ _ _ _ _ _).symm.trans h)
    | succ n ih =>
      intro y2 h
      replace h := (fX11_canArrange_b20_s _ _ _ _ _ _ _).symm.trans h
      refine xi_iload_n C 2 dX11_canArrange_20 rfl ?_
      refine xi_aload_n C 0 dX11_canArrange_21 rfl ?_
      refine xi_get C zkX11 2 0 zlX11_13 (by decide) rfl rfl dX11_canArrange_22 ?_
      refine xi_iconst C (v := 1) dX11_canArrange_25 rfl ?_
      refine xi_iald C 2 rfl (zv (by decide)) dX11_canArrange_26 ?_
      refine xi_icmp_ge C (tgt := 111) dX11_canArrange_27 rfl (fun c5 => ?_) (fun c5 => ?_)
      · replace h := (if_pos c5).symm.trans h
        refine xi_iconst C (v := 1) dX11_canArrange_111 rfl ?_
        obtain rfl := Option.some.inj h
        exact hE _ _ _ dX11_canArrange_112 rfl rfl
      · replace h := (if_neg c5).symm.trans h
        refine xi_aload_n C 0 dX11_canArrange_30 rfl ?_
        refine xi_get C zkX11 1 0 zlX11_7 (by decide) rfl rfl dX11_canArrange_31 ?_
        refine xi_iconst C (v := 2) dX11_canArrange_34 rfl ?_
        refine xi_iald C 1 rfl (zv (by decide)) dX11_canArrange_35 ?_
        refine xi_iload_n C 2 dX11_canArrange_36 rfl ?_
        refine xi_callSr C (kX11_isIn l D cT (t_now 2) y2 (fX11_isIn (t_now 2) y2) rfl) zcX11_isIn zmX11_201 zsX11_isIn (zr rfl rfl) z00 rfl [] rfl rfl rfl (Nat.le_of_ble_eq_true rfl) dX11_canArrange_37 (fun z8 => ?_)
        refine xi_if_eq C (tgt := 105) dX11_canArrange_40 rfl (fun c9 => ?_) (fun c9 => ?_)
        · replace h := (if_pos c9).symm.trans h
          refine xi_iinc C (v := y2 + 1) 2 [1, 2, 0] (L2 := [(0, .ref a_t), (1, .int x1), (2, .int (y2 + 1))]) dX11_canArrange_105 rfl rfl (Nat.le_of_ble_eq_true rfl) rfl ?_
          refine xi_goto C (tgt := 20) dX11_canArrange_108 rfl ?_
          exact ih (y2 + 1) h
        · replace h := (if_neg c9).symm.trans h
          refine xi_aload_n C 0 dX11_canArrange_43 rfl ?_
          refine xi_get C zkX11 3 0 zlX11_16 (by decide) rfl rfl dX11_canArrange_44 ?_
          refine xi_iload_n C 2 dX11_canArrange_47 rfl ?_
          replace h := ig h
          obtain ⟨c10, h⟩ := h
          refine xi_iald C 3 rfl c10 dX11_canArrange_48 ?_
          refine xi_aload_n C 0 dX11_canArrange_49 rfl ?_
          refine xi_get C zkX11 3 0 zlX11_16 (by decide) rfl rfl dX11_canArrange_50 ?_
          refine xi_iload_n C 1 dX11_canArrange_53 rfl ?_
          replace h := ig h
          obtain ⟨c11, h⟩ := h
          refine xi_iald C 3 rfl c11 dX11_canArrange_54 ?_
          refine xi_icmp_eq C (tgt := 103) dX11_canArrange_55 rfl (fun c12 => ?_) (fun c12 => ?_)
          · replace h := (if_pos c12).symm.trans h
            refine xi_iconst C (v := 0) dX11_canArrange_103 rfl ?_
            obtain rfl := Option.some.inj h
            exact hE _ _ _ dX11_canArrange_104 rfl rfl
          · replace h := (if_neg c12).symm.trans h
            refine xi_aload_n C 0 dX11_canArrange_58 rfl ?_
            refine xi_get C zkX11 3 0 zlX11_16 (by decide) rfl rfl dX11_canArrange_59 ?_
            refine xi_iload_n C 2 dX11_canArrange_62 rfl ?_
            refine xi_iald C 3 rfl c10 dX11_canArrange_63 ?_
            refine xi_aload_n C 0 dX11_canArrange_64 rfl ?_
            refine xi_get C zkX11 4 0 zlX11_19 (by decide) rfl rfl dX11_canArrange_65 ?_
            refine xi_iload_n C 1 dX11_canArrange_68 rfl ?_
            refine xi_iald C 4 rfl c11 dX11_canArrange_69 ?_
            refine xi_icmp_eq C (tgt := 103) dX11_canArrange_70 rfl (fun c13 => ?_) (fun c13 => ?_)
            · replace h := (if_pos c13).symm.trans h
              refine xi_iconst C (v := 0) dX11_canArrange_103 rfl ?_
              obtain rfl := Option.some.inj h
              exact hE _ _ _ dX11_canArrange_104 rfl rfl
            · replace h := (if_neg c13).symm.trans h
              refine xi_aload_n C 0 dX11_canArrange_73 rfl ?_
              refine xi_get C zkX11 4 0 zlX11_19 (by decide) rfl rfl dX11_canArrange_74 ?_
              refine xi_iload_n C 2 dX11_canArrange_77 rfl ?_
              refine xi_iald C 4 rfl c10 dX11_canArrange_78 ?_
              refine xi_aload_n C 0 dX11_canArrange_79 rfl ?_
              refine xi_get C zkX11 3 0 zlX11_16 (by decide) rfl rfl dX11_canArrange_80 ?_
              refine xi_iload_n C 1 dX11_canArrange_83 rfl ?_
              refine xi_iald C 3 rfl c11 dX11_canArrange_84 ?_
              refine xi_icmp_eq C (tgt := 103) dX11_canArrange_85 rfl (fun c14 => ?_) (fun c14 => ?_)
              · replace h := (if_pos c14).symm.trans h
                refine xi_iconst C (v := 0) dX11_canArrange_103 rfl ?_
                obtain rfl := Option.some.inj h
                exact hE _ _ _ dX11_canArrange_104 rfl rfl
              · replace h := (if_neg c14).symm.trans h
                refine xi_aload_n C 0 dX11_canArrange_88 rfl ?_
                refine xi_get C zkX11 4 0 zlX11_19 (by decide) rfl rfl dX11_canArrange_89 ?_
                refine xi_iload_n C 2 dX11_canArrange_92 rfl ?_
                refine xi_iald C 4 rfl c10 dX11_canArrange_93 ?_
                refine xi_aload_n C 0 dX11_canArrange_94 rfl ?_
                refine xi_get C zkX11 4 0 zlX11_19 (by decide) rfl rfl dX11_canArrange_95 ?_
                refine xi_iload_n C 1 dX11_canArrange_98 rfl ?_
                refine xi_iald C 4 rfl c11 dX11_canArrange_99 ?_
                refine xi_icmp_ne C (tgt := 105) dX11_canArrange_100 rfl (fun c15 => ?_) (fun c15 => ?_)
                · replace h := (if_neg c15).symm.trans h
                  refine xi_iinc C (v := y2 + 1) 2 [1, 2, 0] (L2 := [(0, .ref a_t), (1, .int x1), (2, .int (y2 + 1))]) dX11_canArrange_105 rfl rfl (Nat.le_of_ble_eq_true rfl) rfl ?_
                  refine xi_goto C (tgt := 20) dX11_canArrange_108 rfl ?_
                  exact ih (y2 + 1) h
                · replace h := (if_pos c15).symm.trans h
                  refine xi_iconst C (v := 0) dX11_canArrange_103 rfl ?_
                  obtain rfl := Option.some.inj h
                  exact hE _ _ _ dX11_canArrange_104 rfl rfl
  refine xi_drop (L2 := [(0, .ref a_t), (1, .int x1)]) [0, 1] rfl ?_
  refine xi_aload_n C 0 dX11_canArrange_0 rfl ?_
  refine xi_iload_n C 1 dX11_canArrange_1 rfl ?_
  refine xi_aload_n C 0 dX11_canArrange_2 rfl ?_
  refine xi_get C zkX11 1 0 zlX11_7 (by decide) rfl rfl dX11_canArrange_3 ?_
  refine xi_iconst C (v := 0) dX11_canArrange_6 rfl ?_
  refine xi_iald C 1 rfl (zv (by decide)) dX11_canArrange_7 ?_
  refine xi_iconst C (v := 1) dX11_canArrange_8 rfl ?_
  refine xi_iadd C dX11_canArrange_9 ?_
  replace h := ob h
  obtain ⟨u1, hu2, h⟩ := h
  refine xi_callVr C (kX11_canCall l D cT a_t a_t_now a_t_told a_t_one a_t_other a_t_forth a_t_cost a_t_broken a_t_away a_t_text a_t_worth a_t_choice a_t_thought a_t_before a_t_deep a_t_price a_t_undo a_t_slots a_t_isSaved t_thrown t_length t_textSize t_start t_next t_token t_value t_error t_errorAt t_number t_isFirst t_limitNow t_undos t_now t_told t_one t_other t_broken t_away x1 ((t_now 0) + 1) u1 hu2) zcX11_canCall zmX11_207 ziX11_canCall (zr rfl rfl) z00 rfl [0, 1, 2, 3, 4, 5, 6] rfl rfl zkX11.1 (qr := 0) rfl rfl (Nat.le_of_ble_eq_true rfl) dX11_canArrange_10 (fun z3 => ?_)
  refine xi_if_ne C (tgt := 18) dX11_canArrange_13 rfl (fun c4 => ?_) (fun c4 => ?_)
  · replace h := (if_neg c4).symm.trans h
    refine xi_iconst C (v := 0) dX11_canArrange_18 rfl ?_
    refine xi_istore_n C [1, 2, 0] (L2 := [(0, .ref a_t), (1, .int x1), (2, .int 0)]) dX11_canArrange_19 (Nat.le_of_ble_eq_true rfl) rfl ?_
    exact B20 FU 0 h
  · replace h := (if_pos c4).symm.trans h
    refine xi_iconst C (v := 0) dX11_canArrange_16 rfl ?_
    obtain rfl := Option.some.inj h
    exact hE _ _ _ dX11_canArrange_17 rfl rfl
def fX11_copies_p2isp0_b3 (N_p0 : Nat) (x1 : Int32) (x3 : Int32) (x4 : Int32) : Nat → Int32 → (Nat → Int32) → Option ((Nat → Int32))
  | 0, _, _ => none
  | n + 1, y5, p0 => if x4 ≤ y5 then some p0 else gd (x1 + y5) N_p0 (gd (x3 + y5) N_p0 ((fX11_copies_p2isp0_b3 N_p0 x1 x3 x4 n) (y5 + 1) (upd p0 (x3 + y5).toNatClampNeg (p0 (x1 + y5).toNatClampNeg))))
theorem fX11_copies_p2isp0_b3_0 (N_p0 : Nat) (x1 : Int32) (x3 : Int32) (x4 : Int32) (y5 : Int32) (p0 : Nat → Int32) : fX11_copies_p2isp0_b3 N_p0 x1 x3 x4 0 y5 p0 = none := rfl
theorem fX11_copies_p2isp0_b3_s (N_p0 : Nat) (x1 : Int32) (x3 : Int32) (x4 : Int32) (n : Nat) (y5 : Int32) (p0 : Nat → Int32) : fX11_copies_p2isp0_b3 N_p0 x1 x3 x4 (n + 1) y5 p0 = (if x4 ≤ y5 then some p0 else gd (x1 + y5) N_p0 (gd (x3 + y5) N_p0 ((fX11_copies_p2isp0_b3 N_p0 x1 x3 x4 n) (y5 + 1) (upd p0 (x3 + y5).toNatClampNeg (p0 (x1 + y5).toNatClampNeg))))) := rfl
def fX11_copies_p2isp0 (N_p0 : Nat) (p0 : Nat → Int32) (x1 : Int32) (x3 : Int32) (x4 : Int32) : Option ((Nat → Int32)) := fX11_copies_p2isp0_b3 N_p0 x1 x3 x4 FU 0 p0
set_option maxRecDepth 100000 in
set_option maxHeartbeats 4000000 in
theorem kX11_copies_p2isp0 (l : Launch) (D : va_G) (cT : Nat → ClassId) (a_p0 : Nat) (N_p0 : Nat) (p0 : Nat → Int32) (x1 : Int32) (x3 : Int32) (x4 : Int32) (r : (Nat → Int32)) (h : fX11_copies_p2isp0 N_p0 p0 x1 x3 x4 = some r) : sM l yX11_copies cX11_copies 6 none (zR 1) D cT [.ref a_p0, .int x1, .ref a_p0, .int x3, .int x4] [(a_p0, .inl (cT 0, N_p0, .inl p0))] none [(a_p0, .inl (cT 0, N_p0, .inl r))] := by
  refine sM_void rfl (Nat.le_of_ble_eq_true rfl) ?_
  intro X C hE
  have B3 : ∀ (n : Nat) (y5 : Int32) (p0 : Nat → Int32), fX11_copies_p2isp0_b3 N_p0 x1 x3 x4 n y5 p0 = some r → sW X l (zR 1) D 6 0 0 3 [(0, .ref a_p0), (1, .int x1), (2, .ref a_p0), (3, .int x3), (4, .int x4), (5, .int y5)] [] [(a_p0, .inl (cT 0, N_p0, .inl p0))] := by
    intro n
    induction n with
    | zero =>
      intro y5 p0 h
      exact zno ((fX11_copies_p2isp0_b3_0 _ _ _ _ _ _).symm.trans h)
    | succ n ih =>
      intro y5 p0 h
      replace h := (fX11_copies_p2isp0_b3_s _ _ _ _ _ _ _).symm.trans h
      refine xi_iload C 5 dX11_copies_3 rfl ?_
      refine xi_iload C 4 dX11_copies_5 rfl ?_
      refine xi_icmp_ge C (tgt := 28) dX11_copies_7 rfl (fun c1 => ?_) (fun c1 => ?_)
      · replace h := (if_pos c1).symm.trans h
        obtain rfl := Option.some.inj h
        exact hE _ _ dX11_copies_28 rfl
      · replace h := (if_neg c1).symm.trans h
        refine xi_aload_n C 2 dX11_copies_10 rfl ?_
        refine xi_iload_n C 3 dX11_copies_11 rfl ?_
        refine xi_iload C 5 dX11_copies_12 rfl ?_
        refine xi_iadd C dX11_copies_14 ?_
        refine xi_aload_n C 0 dX11_copies_15 rfl ?_
        refine xi_iload_n C 1 dX11_copies_16 rfl ?_
        refine xi_iload C 5 dX11_copies_17 rfl ?_
        refine xi_iadd C dX11_copies_19 ?_
        replace h := ig h
        obtain ⟨c2, h⟩ := h
        refine xi_iald C 0 rfl c2 dX11_copies_20 ?_
        replace h := ig h
        obtain ⟨c3, h⟩ := h
        refine xi_iast C 0 rfl c3 dX11_copies_21 (ws2 := [(a_p0, .inl (cT 0, N_p0, .inl (upd p0 (x3 + y5).toNatClampNeg (p0 (x1 + y5).toNatClampNeg))))]) rfl ?_
        refine xi_iinc C (v := y5 + 1) 5 [1, 2, 3, 4, 5, 0] (L2 := [(0, .ref a_p0), (1, .int x1), (2, .ref a_p0), (3, .int x3), (4, .int x4), (5, .int (y5 + 1))]) dX11_copies_22 rfl rfl (Nat.le_of_ble_eq_true rfl) rfl ?_
        refine xi_goto C (tgt := 3) dX11_copies_25 rfl ?_
        exact ih (y5 + 1) (upd p0 (x3 + y5).toNatClampNeg (p0 (x1 + y5).toNatClampNeg)) h
  refine xi_drop (L2 := [(0, .ref a_p0), (1, .int x1), (2, .ref a_p0), (3, .int x3), (4, .int x4)]) [0, 1, 2, 3, 4] rfl ?_
  refine xi_iconst C (v := 0) dX11_copies_0 rfl ?_
  refine xi_istore C [1, 2, 3, 4, 5, 0] (L2 := [(0, .ref a_p0), (1, .int x1), (2, .ref a_p0), (3, .int x3), (4, .int x4), (5, .int 0)]) dX11_copies_1 (Nat.le_of_ble_eq_true rfl) rfl ?_
  exact B3 FU 0 p0 h
def fX11_copies_b3 (N_p2 : Nat) (N_p0 : Nat) (p0 : Nat → Int32) (x1 : Int32) (x3 : Int32) (x4 : Int32) : Nat → Int32 → (Nat → Int32) → Option ((Nat → Int32))
  | 0, _, _ => none
  | n + 1, y5, p2 => if x4 ≤ y5 then some p2 else gd (x1 + y5) N_p0 (gd (x3 + y5) N_p2 ((fX11_copies_b3 N_p2 N_p0 p0 x1 x3 x4 n) (y5 + 1) (upd p2 (x3 + y5).toNatClampNeg (p0 (x1 + y5).toNatClampNeg))))
theorem fX11_copies_b3_0 (N_p2 : Nat) (N_p0 : Nat) (p0 : Nat → Int32) (x1 : Int32) (x3 : Int32) (x4 : Int32) (y5 : Int32) (p2 : Nat → Int32) : fX11_copies_b3 N_p2 N_p0 p0 x1 x3 x4 0 y5 p2 = none := rfl
theorem fX11_copies_b3_s (N_p2 : Nat) (N_p0 : Nat) (p0 : Nat → Int32) (x1 : Int32) (x3 : Int32) (x4 : Int32) (n : Nat) (y5 : Int32) (p2 : Nat → Int32) : fX11_copies_b3 N_p2 N_p0 p0 x1 x3 x4 (n + 1) y5 p2 = (if x4 ≤ y5 then some p2 else gd (x1 + y5) N_p0 (gd (x3 + y5) N_p2 ((fX11_copies_b3 N_p2 N_p0 p0 x1 x3 x4 n) (y5 + 1) (upd p2 (x3 + y5).toNatClampNeg (p0 (x1 + y5).toNatClampNeg))))) := rfl
def fX11_copies (N_p2 : Nat) (N_p0 : Nat) (p2 : Nat → Int32) (p0 : Nat → Int32) (x1 : Int32) (x3 : Int32) (x4 : Int32) : Option ((Nat → Int32)) := fX11_copies_b3 N_p2 N_p0 p0 x1 x3 x4 FU 0 p2
set_option maxRecDepth 100000 in
set_option maxHeartbeats 4000000 in
theorem kX11_copies (l : Launch) (D : va_G) (cT : Nat → ClassId) (a_p2 : Nat) (a_p0 : Nat) (N_p2 : Nat) (N_p0 : Nat) (p2 : Nat → Int32) (p0 : Nat → Int32) (x1 : Int32) (x3 : Int32) (x4 : Int32) (r : (Nat → Int32)) (h : fX11_copies N_p2 N_p0 p2 p0 x1 x3 x4 = some r) : sM l yX11_copies cX11_copies 6 none (zR 1) D cT [.ref a_p0, .int x1, .ref a_p2, .int x3, .int x4] [(a_p2, .inl (cT 0, N_p2, .inl p2)), (a_p0, .inl (cT 0, N_p0, .inl p0))] none [(a_p2, .inl (cT 0, N_p2, .inl r)), (a_p0, .inl (cT 0, N_p0, .inl p0))] := by
  refine sM_void rfl (Nat.le_of_ble_eq_true rfl) ?_
  intro X C hE
  have B3 : ∀ (n : Nat) (y5 : Int32) (p2 : Nat → Int32), fX11_copies_b3 N_p2 N_p0 p0 x1 x3 x4 n y5 p2 = some r → sW X l (zR 1) D 6 0 0 3 [(0, .ref a_p0), (1, .int x1), (2, .ref a_p2), (3, .int x3), (4, .int x4), (5, .int y5)] [] [(a_p2, .inl (cT 0, N_p2, .inl p2)), (a_p0, .inl (cT 0, N_p0, .inl p0))] := by
    intro n
    induction n with
    | zero =>
      intro y5 p2 h
      exact zno ((fX11_copies_b3_0 _ _ _ _ _ _ _ _).symm.trans h)
    | succ n ih =>
      intro y5 p2 h
      replace h := (fX11_copies_b3_s _ _ _ _ _ _ _ _ _).symm.trans h
      refine xi_iload C 5 dX11_copies_3 rfl ?_
      refine xi_iload C 4 dX11_copies_5 rfl ?_
      refine xi_icmp_ge C (tgt := 28) dX11_copies_7 rfl (fun c1 => ?_) (fun c1 => ?_)
      · replace h := (if_pos c1).symm.trans h
        obtain rfl := Option.some.inj h
        exact hE _ _ dX11_copies_28 rfl
      · replace h := (if_neg c1).symm.trans h
        refine xi_aload_n C 2 dX11_copies_10 rfl ?_
        refine xi_iload_n C 3 dX11_copies_11 rfl ?_
        refine xi_iload C 5 dX11_copies_12 rfl ?_
        refine xi_iadd C dX11_copies_14 ?_
        refine xi_aload_n C 0 dX11_copies_15 rfl ?_
        refine xi_iload_n C 1 dX11_copies_16 rfl ?_
        refine xi_iload C 5 dX11_copies_17 rfl ?_
        refine xi_iadd C dX11_copies_19 ?_
        replace h := ig h
        obtain ⟨c2, h⟩ := h
        refine xi_iald C 1 rfl c2 dX11_copies_20 ?_
        replace h := ig h
        obtain ⟨c3, h⟩ := h
        refine xi_iast C 0 rfl c3 dX11_copies_21 (ws2 := [(a_p2, .inl (cT 0, N_p2, .inl (upd p2 (x3 + y5).toNatClampNeg (p0 (x1 + y5).toNatClampNeg)))), (a_p0, .inl (cT 0, N_p0, .inl p0))]) rfl ?_
        refine xi_iinc C (v := y5 + 1) 5 [1, 2, 3, 4, 5, 0] (L2 := [(0, .ref a_p0), (1, .int x1), (2, .ref a_p2), (3, .int x3), (4, .int x4), (5, .int (y5 + 1))]) dX11_copies_22 rfl rfl (Nat.le_of_ble_eq_true rfl) rfl ?_
        refine xi_goto C (tgt := 3) dX11_copies_25 rfl ?_
        exact ih (y5 + 1) (upd p2 (x3 + y5).toNatClampNeg (p0 (x1 + y5).toNatClampNeg)) h
  refine xi_drop (L2 := [(0, .ref a_p0), (1, .int x1), (2, .ref a_p2), (3, .int x3), (4, .int x4)]) [0, 1, 2, 3, 4] rfl ?_
  refine xi_iconst C (v := 0) dX11_copies_0 rfl ?_
  refine xi_istore C [1, 2, 3, 4, 5, 0] (L2 := [(0, .ref a_p0), (1, .int x1), (2, .ref a_p2), (3, .int x3), (4, .int x4), (5, .int 0)]) dX11_copies_1 (Nat.le_of_ble_eq_true rfl) rfl ?_
  exact B3 FU 0 p2 h
def fX11_keeps_b42 (t_now : Nat → Int32) (t_undos : Int32) (t_undo : Nat → Int32) : Option (Int32 × (Nat → Int32)) := (fX11_copies 5140 514 t_undo t_now 0 (514 * t_undos) 514).bind (fun u2 => some (t_undos + 1, u2))
def fX11_keeps (t_undos : Int32) (t_now : Nat → Int32) (t_undo : Nat → Int32) : Option (Int32 × (Nat → Int32)) := if t_undos = 10 then (fX11_copies_p2isp0 5140 t_undo 514 0 (514 * (t_undos - 1))).bind (fun u5 => fX11_keeps_b42 t_now (t_undos - 1) u5) else fX11_keeps_b42 t_now t_undos t_undo
set_option maxRecDepth 100000 in
set_option maxHeartbeats 4000000 in
theorem kX11_keeps (l : Launch) (D : va_G) (cT : Nat → ClassId) (a_t : Nat) (a_t_now : Nat) (a_t_told : Nat) (a_t_one : Nat) (a_t_other : Nat) (a_t_forth : Nat) (a_t_cost : Nat) (a_t_broken : Nat) (a_t_away : Nat) (a_t_text : Nat) (a_t_worth : Nat) (a_t_choice : Nat) (a_t_thought : Nat) (a_t_before : Nat) (a_t_deep : Nat) (a_t_price : Nat) (a_t_undo : Nat) (a_t_slots : Nat) (a_t_isSaved : Nat) (t_thrown : Int32) (t_length : Int32) (t_textSize : Int32) (t_start : Int32) (t_next : Int32) (t_token : Int32) (t_value : Int32) (t_error : Int32) (t_errorAt : Int32) (t_number : Int32) (t_isFirst : Int32) (t_limitNow : Int32) (t_undos : Int32) (t_now : Nat → Int32) (t_undo : Nat → Int32) (r : Int32 × (Nat → Int32)) (h : fX11_keeps t_undos t_now t_undo = some r) : sM l yX11_keeps cX11_keeps 1 none (zR 2) D cT [.ref a_t] [(a_t, .inr (11, [.int t_thrown, .ref a_t_now, .ref a_t_told, .ref a_t_one, .ref a_t_other, .ref a_t_forth, .ref a_t_cost, .ref a_t_broken, .ref a_t_away, .ref a_t_text, .int t_length, .int t_textSize, .int t_start, .int t_next, .int t_token, .int t_value, .int t_error, .int t_errorAt, .int t_number, .int t_isFirst, .ref a_t_worth, .ref a_t_choice, .ref a_t_thought, .ref a_t_before, .ref a_t_deep, .int t_limitNow, .ref a_t_price, .int t_undos, .ref a_t_undo, .ref a_t_slots, .ref a_t_isSaved])), (a_t_now, .inl (cT 0, 514, .inl t_now)), (a_t_undo, .inl (cT 0, 5140, .inl t_undo))] none [(a_t, .inr (11, [.int t_thrown, .ref a_t_now, .ref a_t_told, .ref a_t_one, .ref a_t_other, .ref a_t_forth, .ref a_t_cost, .ref a_t_broken, .ref a_t_away, .ref a_t_text, .int t_length, .int t_textSize, .int t_start, .int t_next, .int t_token, .int t_value, .int t_error, .int t_errorAt, .int t_number, .int t_isFirst, .ref a_t_worth, .ref a_t_choice, .ref a_t_thought, .ref a_t_before, .ref a_t_deep, .int t_limitNow, .ref a_t_price, .int r.1, .ref a_t_undo, .ref a_t_slots, .ref a_t_isSaved])), (a_t_now, .inl (cT 0, 514, .inl t_now)), (a_t_undo, .inl (cT 0, 5140, .inl r.2))] := by
  refine sM_void rfl (Nat.le_of_ble_eq_true rfl) ?_
  intro X C hE
  have B42 : ∀ (t_undos : Int32) (t_undo : Nat → Int32), fX11_keeps_b42 t_now t_undos t_undo = some r → sW X l (zR 2) D 1 0 0 42 [(0, .ref a_t)] [] [(a_t, .inr (11, [.int t_thrown, .ref a_t_now, .ref a_t_told, .ref a_t_one, .ref a_t_other, .ref a_t_forth, .ref a_t_cost, .ref a_t_broken, .ref a_t_away, .ref a_t_text, .int t_length, .int t_textSize, .int t_start, .int t_next, .int t_token, .int t_value, .int t_error, .int t_errorAt, .int t_number, .int t_isFirst, .ref a_t_worth, .ref a_t_choice, .ref a_t_thought, .ref a_t_before, .ref a_t_deep, .int t_limitNow, .ref a_t_price, .int t_undos, .ref a_t_undo, .ref a_t_slots, .ref a_t_isSaved])), (a_t_now, .inl (cT 0, 514, .inl t_now)), (a_t_undo, .inl (cT 0, 5140, .inl t_undo))] := by
    intro t_undos t_undo h
    refine xi_aload_n C 0 dX11_keeps_42 rfl ?_
    refine xi_get C zkX11 1 0 zlX11_7 (by decide) rfl rfl dX11_keeps_43 ?_
    refine xi_iconst C (v := 0) dX11_keeps_46 rfl ?_
    refine xi_aload_n C 0 dX11_keeps_47 rfl ?_
    refine xi_get C zkX11 28 0 zlX11_61 (by decide) rfl rfl dX11_keeps_48 ?_
    refine xi_sipush C (v := 514) dX11_keeps_51 rfl ?_
    refine xi_aload_n C 0 dX11_keeps_54 rfl ?_
    refine xi_get C zkX11 27 0 zlX11_186 (by decide) rfl rfl dX11_keeps_55 ?_
    refine xi_imul C dX11_keeps_58 ?_
    refine xi_sipush C (v := 514) dX11_keeps_59 rfl ?_
    replace h := ob h
    obtain ⟨u2, hu3, h⟩ := h
    refine xi_callS C (kX11_copies l D cT a_t_undo a_t_now 5140 514 t_undo t_now 0 (514 * t_undos) 514 u2 hu3) zcX11_copies zmX11_294 zsX11_copies (zr rfl rfl) z00 rfl [2, 1] rfl rfl rfl [none, some 1, some 0] (by decide +kernel) (ws2 := [(a_t, .inr (11, [.int t_thrown, .ref a_t_now, .ref a_t_told, .ref a_t_one, .ref a_t_other, .ref a_t_forth, .ref a_t_cost, .ref a_t_broken, .ref a_t_away, .ref a_t_text, .int t_length, .int t_textSize, .int t_start, .int t_next, .int t_token, .int t_value, .int t_error, .int t_errorAt, .int t_number, .int t_isFirst, .ref a_t_worth, .ref a_t_choice, .ref a_t_thought, .ref a_t_before, .ref a_t_deep, .int t_limitNow, .ref a_t_price, .int t_undos, .ref a_t_undo, .ref a_t_slots, .ref a_t_isSaved])), (a_t_now, .inl (cT 0, 514, .inl t_now)), (a_t_undo, .inl (cT 0, 5140, .inl u2))]) rfl rfl (Nat.le_of_ble_eq_true rfl) dX11_keeps_62 (fun z4 => ?_)
    refine xi_aload_n C 0 dX11_keeps_65 rfl ?_
    refine xi_dup C dX11_keeps_66 rfl ?_
    refine xi_get C zkX11 27 0 zlX11_186 (by decide) rfl rfl dX11_keeps_67 ?_
    refine xi_iconst C (v := 1) dX11_keeps_70 rfl ?_
    refine xi_iadd C dX11_keeps_71 ?_
    refine xi_put C zkX11 27 0 zlX11_186 (by decide) rfl rfl rfl rfl (Nat.le_of_ble_eq_true rfl) dX11_keeps_72 (ws2 := [(a_t, .inr (11, [.int t_thrown, .ref a_t_now, .ref a_t_told, .ref a_t_one, .ref a_t_other, .ref a_t_forth, .ref a_t_cost, .ref a_t_broken, .ref a_t_away, .ref a_t_text, .int t_length, .int t_textSize, .int t_start, .int t_next, .int t_token, .int t_value, .int t_error, .int t_errorAt, .int t_number, .int t_isFirst, .ref a_t_worth, .ref a_t_choice, .ref a_t_thought, .ref a_t_before, .ref a_t_deep, .int t_limitNow, .ref a_t_price, .int (t_undos + 1), .ref a_t_undo, .ref a_t_slots, .ref a_t_isSaved])), (a_t_now, .inl (cT 0, 514, .inl t_now)), (a_t_undo, .inl (cT 0, 5140, .inl u2))]) rfl ?_
    obtain rfl := Option.some.inj h
    exact hE _ _ dX11_keeps_75 rfl
  refine xi_drop (L2 := [(0, .ref a_t)]) [0] rfl ?_
  refine xi_aload_n C 0 dX11_keeps_0 rfl ?_
  refine xi_get C zkX11 27 0 zlX11_186 (by decide) rfl rfl dX11_keeps_1 ?_
  refine xi_bipush C (v := 10) dX11_keeps_4 rfl ?_
  refine xi_icmp_ne C (tgt := 42) dX11_keeps_6 rfl (fun c1 => ?_) (fun c1 => ?_)
  · replace h := (if_neg c1).symm.trans h
    exact B42 t_undos t_undo h
  · replace h := (if_pos c1).symm.trans h
    refine xi_aload_n C 0 dX11_keeps_9 rfl ?_
    refine xi_dup C dX11_keeps_10 rfl ?_
    refine xi_get C zkX11 27 0 zlX11_186 (by decide) rfl rfl dX11_keeps_11 ?_
    refine xi_iconst C (v := 1) dX11_keeps_14 rfl ?_
    refine xi_isub C dX11_keeps_15 ?_
    refine xi_put C zkX11 27 0 zlX11_186 (by decide) rfl rfl rfl rfl (Nat.le_of_ble_eq_true rfl) dX11_keeps_16 (ws2 := [(a_t, .inr (11, [.int t_thrown, .ref a_t_now, .ref a_t_told, .ref a_t_one, .ref a_t_other, .ref a_t_forth, .ref a_t_cost, .ref a_t_broken, .ref a_t_away, .ref a_t_text, .int t_length, .int t_textSize, .int t_start, .int t_next, .int t_token, .int t_value, .int t_error, .int t_errorAt, .int t_number, .int t_isFirst, .ref a_t_worth, .ref a_t_choice, .ref a_t_thought, .ref a_t_before, .ref a_t_deep, .int t_limitNow, .ref a_t_price, .int (t_undos - 1), .ref a_t_undo, .ref a_t_slots, .ref a_t_isSaved])), (a_t_now, .inl (cT 0, 514, .inl t_now)), (a_t_undo, .inl (cT 0, 5140, .inl t_undo))]) rfl ?_
    refine xi_aload_n C 0 dX11_keeps_19 rfl ?_
    refine xi_get C zkX11 28 0 zlX11_61 (by decide) rfl rfl dX11_keeps_20 ?_
    refine xi_sipush C (v := 514) dX11_keeps_23 rfl ?_
    refine xi_aload_n C 0 dX11_keeps_26 rfl ?_
    refine xi_get C zkX11 28 0 zlX11_61 (by decide) rfl rfl dX11_keeps_27 ?_
    refine xi_iconst C (v := 0) dX11_keeps_30 rfl ?_
    refine xi_sipush C (v := 514) dX11_keeps_31 rfl ?_
    refine xi_aload_n C 0 dX11_keeps_34 rfl ?_
    refine xi_get C zkX11 27 0 zlX11_186 (by decide) rfl rfl dX11_keeps_35 ?_
    refine xi_imul C dX11_keeps_38 ?_
    replace h := ob h
    obtain ⟨u5, hu6, h⟩ := h
    refine xi_callS C (kX11_copies_p2isp0 l D cT a_t_undo 5140 t_undo 514 0 (514 * (t_undos - 1)) u5 hu6) zcX11_copies zmX11_294 zsX11_copies (zr rfl rfl) z00 rfl [2] rfl rfl rfl [none, none, some 0] (by decide +kernel) (ws2 := [(a_t, .inr (11, [.int t_thrown, .ref a_t_now, .ref a_t_told, .ref a_t_one, .ref a_t_other, .ref a_t_forth, .ref a_t_cost, .ref a_t_broken, .ref a_t_away, .ref a_t_text, .int t_length, .int t_textSize, .int t_start, .int t_next, .int t_token, .int t_value, .int t_error, .int t_errorAt, .int t_number, .int t_isFirst, .ref a_t_worth, .ref a_t_choice, .ref a_t_thought, .ref a_t_before, .ref a_t_deep, .int t_limitNow, .ref a_t_price, .int (t_undos - 1), .ref a_t_undo, .ref a_t_slots, .ref a_t_isSaved])), (a_t_now, .inl (cT 0, 514, .inl t_now)), (a_t_undo, .inl (cT 0, 5140, .inl u5))]) rfl rfl (Nat.le_of_ble_eq_true rfl) dX11_keeps_39 (fun z7 => ?_)
    exact B42 (t_undos - 1) u5 h
def fX11_arrange_b35 (t_told : Nat → Int32) (t_one : Nat → Int32) (t_other : Nat → Int32) (t_forth : Nat → Int32) (x1 : Int32) (s0 : Int32) (t_thrown : Int32) (t_undos : Int32) (t_now : Nat → Int32) (t_undo : Nat → Int32) : Option (Int32 × Int32 × Int32 × (Nat → Int32) × (Nat → Int32)) := nm (fX11_throwsIf t_thrown s0 2) (fun u9 => if u9.1 = 0 then (fX11_keeps t_undos t_now t_undo).bind (fun u13 => (fX11_gainNow (upd t_now 2 ((t_now 2) ||| (1 <<< (x1 &&& 31)))) t_told t_one t_other t_forth).bind (fun u16 => some (u16, u9.2, u13.1, upd t_now 2 ((t_now 2) ||| (1 <<< (x1 &&& 31))), u13.2))) else some (0, u9.2, t_undos, t_now, t_undo))
def fX11_arrange_b30 (t_told : Nat → Int32) (t_one : Nat → Int32) (t_other : Nat → Int32) (t_forth : Nat → Int32) (x1 : Int32) (t_thrown : Int32) (t_undos : Int32) (t_now : Nat → Int32) (t_undo : Nat → Int32) : Option (Int32 × Int32 × Int32 × (Nat → Int32) × (Nat → Int32)) := fX11_arrange_b35 t_told t_one t_other t_forth x1 1 t_thrown t_undos t_now t_undo
def fX11_arrange (t_undos : Int32) (t_now : Nat → Int32) (t_told : Nat → Int32) (t_one : Nat → Int32) (t_other : Nat → Int32) (t_forth : Nat → Int32) (t_broken : Nat → Int32) (t_away : Nat → Int32) (t_undo : Nat → Int32) (x1 : Int32) : Option (Int32 × Int32 × Int32 × (Nat → Int32) × (Nat → Int32)) := (fX11_noLine t_told x1).bind (fun u1 => if u1.1 = 0 then if (fX11_isIn (t_now 2) x1) = 0 then (fX11_canArrange t_now t_told t_one t_other t_broken t_away x1).bind (fun u19 => if u19 = 0 then fX11_arrange_b30 t_told t_one t_other t_forth x1 u1.2 t_undos t_now t_undo else fX11_arrange_b35 t_told t_one t_other t_forth x1 0 u1.2 t_undos t_now t_undo) else fX11_arrange_b30 t_told t_one t_other t_forth x1 u1.2 t_undos t_now t_undo else some (0, u1.2, t_undos, t_now, t_undo))
set_option maxRecDepth 100000 in
set_option maxHeartbeats 4000000 in
theorem kX11_arrange (l : Launch) (D : va_G) (cT : Nat → ClassId) (a_t : Nat) (a_t_now : Nat) (a_t_told : Nat) (a_t_one : Nat) (a_t_other : Nat) (a_t_forth : Nat) (a_t_cost : Nat) (a_t_broken : Nat) (a_t_away : Nat) (a_t_text : Nat) (a_t_worth : Nat) (a_t_choice : Nat) (a_t_thought : Nat) (a_t_before : Nat) (a_t_deep : Nat) (a_t_price : Nat) (a_t_undo : Nat) (a_t_slots : Nat) (a_t_isSaved : Nat) (t_thrown : Int32) (t_length : Int32) (t_textSize : Int32) (t_start : Int32) (t_next : Int32) (t_token : Int32) (t_value : Int32) (t_error : Int32) (t_errorAt : Int32) (t_number : Int32) (t_isFirst : Int32) (t_limitNow : Int32) (t_undos : Int32) (t_now : Nat → Int32) (t_told : Nat → Int32) (t_one : Nat → Int32) (t_other : Nat → Int32) (t_forth : Nat → Int32) (t_broken : Nat → Int32) (t_away : Nat → Int32) (t_undo : Nat → Int32) (x1 : Int32) (r : Int32 × Int32 × Int32 × (Nat → Int32) × (Nat → Int32)) (h : fX11_arrange t_undos t_now t_told t_one t_other t_forth t_broken t_away t_undo x1 = some r) : sM l yX11_arrange cX11_arrange 2 (some .int) (zR 5) D cT [.ref a_t, .int x1] [(a_t, .inr (11, [.int t_thrown, .ref a_t_now, .ref a_t_told, .ref a_t_one, .ref a_t_other, .ref a_t_forth, .ref a_t_cost, .ref a_t_broken, .ref a_t_away, .ref a_t_text, .int t_length, .int t_textSize, .int t_start, .int t_next, .int t_token, .int t_value, .int t_error, .int t_errorAt, .int t_number, .int t_isFirst, .ref a_t_worth, .ref a_t_choice, .ref a_t_thought, .ref a_t_before, .ref a_t_deep, .int t_limitNow, .ref a_t_price, .int t_undos, .ref a_t_undo, .ref a_t_slots, .ref a_t_isSaved])), (a_t_now, .inl (cT 0, 514, .inl t_now)), (a_t_told, .inl (cT 0, 8, .inl t_told)), (a_t_one, .inl (cT 0, 48, .inl t_one)), (a_t_other, .inl (cT 0, 48, .inl t_other)), (a_t_forth, .inl (cT 0, 48, .inl t_forth)), (a_t_broken, .inl (cT 0, 72, .inl t_broken)), (a_t_away, .inl (cT 0, 72, .inl t_away)), (a_t_undo, .inl (cT 0, 5140, .inl t_undo))] (some (.int r.1)) [(a_t, .inr (11, [.int r.2.1, .ref a_t_now, .ref a_t_told, .ref a_t_one, .ref a_t_other, .ref a_t_forth, .ref a_t_cost, .ref a_t_broken, .ref a_t_away, .ref a_t_text, .int t_length, .int t_textSize, .int t_start, .int t_next, .int t_token, .int t_value, .int t_error, .int t_errorAt, .int t_number, .int t_isFirst, .ref a_t_worth, .ref a_t_choice, .ref a_t_thought, .ref a_t_before, .ref a_t_deep, .int t_limitNow, .ref a_t_price, .int r.2.2.1, .ref a_t_undo, .ref a_t_slots, .ref a_t_isSaved])), (a_t_now, .inl (cT 0, 514, .inl r.2.2.2.1)), (a_t_told, .inl (cT 0, 8, .inl t_told)), (a_t_one, .inl (cT 0, 48, .inl t_one)), (a_t_other, .inl (cT 0, 48, .inl t_other)), (a_t_forth, .inl (cT 0, 48, .inl t_forth)), (a_t_broken, .inl (cT 0, 72, .inl t_broken)), (a_t_away, .inl (cT 0, 72, .inl t_away)), (a_t_undo, .inl (cT 0, 5140, .inl r.2.2.2.2))] := by
  refine sM_int rfl (Nat.le_of_ble_eq_true rfl) ?_
  intro X C hE
  have B35 : ∀ (s0 : Int32) (t_thrown : Int32) (t_undos : Int32) (t_now : Nat → Int32) (t_undo : Nat → Int32), fX11_arrange_b35 t_told t_one t_other t_forth x1 s0 t_thrown t_undos t_now t_undo = some r → sW X l (zR 5) D 2 0 0 35 [(0, .ref a_t), (1, .int x1)] [.int s0, .ref a_t] [(a_t, .inr (11, [.int t_thrown, .ref a_t_now, .ref a_t_told, .ref a_t_one, .ref a_t_other, .ref a_t_forth, .ref a_t_cost, .ref a_t_broken, .ref a_t_away, .ref a_t_text, .int t_length, .int t_textSize, .int t_start, .int t_next, .int t_token, .int t_value, .int t_error, .int t_errorAt, .int t_number, .int t_isFirst, .ref a_t_worth, .ref a_t_choice, .ref a_t_thought, .ref a_t_before, .ref a_t_deep, .int t_limitNow, .ref a_t_price, .int t_undos, .ref a_t_undo, .ref a_t_slots, .ref a_t_isSaved])), (a_t_now, .inl (cT 0, 514, .inl t_now)), (a_t_told, .inl (cT 0, 8, .inl t_told)), (a_t_one, .inl (cT 0, 48, .inl t_one)), (a_t_other, .inl (cT 0, 48, .inl t_other)), (a_t_forth, .inl (cT 0, 48, .inl t_forth)), (a_t_broken, .inl (cT 0, 72, .inl t_broken)), (a_t_away, .inl (cT 0, 72, .inl t_away)), (a_t_undo, .inl (cT 0, 5140, .inl t_undo))] := by
    intro s0 t_thrown t_undos t_now t_undo h
    refine xi_iconst C (v := 2) dX11_arrange_35 rfl ?_
    obtain ⟨u9, hu10⟩ : ∃ z, z = fX11_throwsIf t_thrown s0 2 := ⟨_, rfl⟩
    replace h := nmE hu10 h
    refine xi_callV C (kX11_throwsIf l D cT a_t a_t_now a_t_told a_t_one a_t_other a_t_forth a_t_cost a_t_broken a_t_away a_t_text a_t_worth a_t_choice a_t_thought a_t_before a_t_deep a_t_price a_t_undo a_t_slots a_t_isSaved t_thrown t_length t_textSize t_start t_next t_token t_value t_error t_errorAt t_number t_isFirst t_limitNow t_undos s0 2 u9 hu10.symm) zcX11_throwsIf zmX11_176 ziX11_throwsIf (zr rfl rfl) z00 rfl [0] rfl rfl rfl [some 0, none, none, none, none, none, none, none, none] (by decide +kernel) (ws2 := [(a_t, .inr (11, [.int u9.2, .ref a_t_now, .ref a_t_told, .ref a_t_one, .ref a_t_other, .ref a_t_forth, .ref a_t_cost, .ref a_t_broken, .ref a_t_away, .ref a_t_text, .int t_length, .int t_textSize, .int t_start, .int t_next, .int t_token, .int t_value, .int t_error, .int t_errorAt, .int t_number, .int t_isFirst, .ref a_t_worth, .ref a_t_choice, .ref a_t_thought, .ref a_t_before, .ref a_t_deep, .int t_limitNow, .ref a_t_price, .int t_undos, .ref a_t_undo, .ref a_t_slots, .ref a_t_isSaved])), (a_t_now, .inl (cT 0, 514, .inl t_now)), (a_t_told, .inl (cT 0, 8, .inl t_told)), (a_t_one, .inl (cT 0, 48, .inl t_one)), (a_t_other, .inl (cT 0, 48, .inl t_other)), (a_t_forth, .inl (cT 0, 48, .inl t_forth)), (a_t_broken, .inl (cT 0, 72, .inl t_broken)), (a_t_away, .inl (cT 0, 72, .inl t_away)), (a_t_undo, .inl (cT 0, 5140, .inl t_undo))]) rfl zkX11.1 (qr := 0) rfl rfl (Nat.le_of_ble_eq_true rfl) dX11_arrange_36 (fun z11 => ?_)
    refine xi_if_eq C (tgt := 44) dX11_arrange_39 rfl (fun c12 => ?_) (fun c12 => ?_)
    · replace h := (if_pos c12).symm.trans h
      refine xi_aload_n C 0 dX11_arrange_44 rfl ?_
      replace h := ob h
      obtain ⟨u13, hu14, h⟩ := h
      refine xi_callV C (kX11_keeps l D cT a_t a_t_now a_t_told a_t_one a_t_other a_t_forth a_t_cost a_t_broken a_t_away a_t_text a_t_worth a_t_choice a_t_thought a_t_before a_t_deep a_t_price a_t_undo a_t_slots a_t_isSaved u9.2 t_length t_textSize t_start t_next t_token t_value t_error t_errorAt t_number t_isFirst t_limitNow t_undos t_now t_undo u13 hu14) zcX11_keeps zmX11_291 ziX11_keeps (zr rfl rfl) z00 rfl [0, 1, 8] rfl rfl rfl [some 0, some 1, none, none, none, none, none, none, some 2] (by decide +kernel) (ws2 := [(a_t, .inr (11, [.int u9.2, .ref a_t_now, .ref a_t_told, .ref a_t_one, .ref a_t_other, .ref a_t_forth, .ref a_t_cost, .ref a_t_broken, .ref a_t_away, .ref a_t_text, .int t_length, .int t_textSize, .int t_start, .int t_next, .int t_token, .int t_value, .int t_error, .int t_errorAt, .int t_number, .int t_isFirst, .ref a_t_worth, .ref a_t_choice, .ref a_t_thought, .ref a_t_before, .ref a_t_deep, .int t_limitNow, .ref a_t_price, .int u13.1, .ref a_t_undo, .ref a_t_slots, .ref a_t_isSaved])), (a_t_now, .inl (cT 0, 514, .inl t_now)), (a_t_told, .inl (cT 0, 8, .inl t_told)), (a_t_one, .inl (cT 0, 48, .inl t_one)), (a_t_other, .inl (cT 0, 48, .inl t_other)), (a_t_forth, .inl (cT 0, 48, .inl t_forth)), (a_t_broken, .inl (cT 0, 72, .inl t_broken)), (a_t_away, .inl (cT 0, 72, .inl t_away)), (a_t_undo, .inl (cT 0, 5140, .inl u13.2))]) rfl zkX11.1 (qr := 0) rfl rfl (Nat.le_of_ble_eq_true rfl) dX11_arrange_45 (fun z15 => ?_)
      refine xi_aload_n C 0 dX11_arrange_48 rfl ?_
      refine xi_get C zkX11 1 0 zlX11_7 (by decide) rfl rfl dX11_arrange_49 ?_
      refine xi_iconst C (v := 2) dX11_arrange_52 rfl ?_
      refine xi_dup2 C dX11_arrange_53 rfl rfl ?_
      refine xi_iald C 1 rfl (zv (by decide)) dX11_arrange_54 ?_
      refine xi_iconst C (v := 1) dX11_arrange_55 rfl ?_
      refine xi_iload_n C 1 dX11_arrange_56 rfl ?_
      refine xi_ishl C dX11_arrange_57 ?_
      refine xi_ior C dX11_arrange_58 ?_
      refine xi_iast C 1 rfl (zv (by decide)) dX11_arrange_59 (ws2 := [(a_t, .inr (11, [.int u9.2, .ref a_t_now, .ref a_t_told, .ref a_t_one, .ref a_t_other, .ref a_t_forth, .ref a_t_cost, .ref a_t_broken, .ref a_t_away, .ref a_t_text, .int t_length, .int t_textSize, .int t_start, .int t_next, .int t_token, .int t_value, .int t_error, .int t_errorAt, .int t_number, .int t_isFirst, .ref a_t_worth, .ref a_t_choice, .ref a_t_thought, .ref a_t_before, .ref a_t_deep, .int t_limitNow, .ref a_t_price, .int u13.1, .ref a_t_undo, .ref a_t_slots, .ref a_t_isSaved])), (a_t_now, .inl (cT 0, 514, .inl (upd t_now 2 ((t_now 2) ||| (1 <<< (x1 &&& 31)))))), (a_t_told, .inl (cT 0, 8, .inl t_told)), (a_t_one, .inl (cT 0, 48, .inl t_one)), (a_t_other, .inl (cT 0, 48, .inl t_other)), (a_t_forth, .inl (cT 0, 48, .inl t_forth)), (a_t_broken, .inl (cT 0, 72, .inl t_broken)), (a_t_away, .inl (cT 0, 72, .inl t_away)), (a_t_undo, .inl (cT 0, 5140, .inl u13.2))]) rfl ?_
      refine xi_aload_n C 0 dX11_arrange_60 rfl ?_
      replace h := ob h
      obtain ⟨u16, hu17, h⟩ := h
      refine xi_callVr C (kX11_gainNow l D cT a_t a_t_now a_t_told a_t_one a_t_other a_t_forth a_t_cost a_t_broken a_t_away a_t_text a_t_worth a_t_choice a_t_thought a_t_before a_t_deep a_t_price a_t_undo a_t_slots a_t_isSaved u9.2 t_length t_textSize t_start t_next t_token t_value t_error t_errorAt t_number t_isFirst t_limitNow u13.1 (upd t_now 2 ((t_now 2) ||| (1 <<< (x1 &&& 31)))) t_told t_one t_other t_forth u16 hu17) zcX11_gainNow zmX11_228 ziX11_gainNow (zr rfl rfl) z00 rfl [0, 1, 2, 3, 4, 5] rfl rfl zkX11.1 (qr := 0) rfl rfl (Nat.le_of_ble_eq_true rfl) dX11_arrange_61 (fun z18 => ?_)
      obtain rfl := Option.some.inj h
      exact hE _ _ _ dX11_arrange_64 rfl
    · replace h := (if_neg c12).symm.trans h
      refine xi_iconst C (v := 0) dX11_arrange_42 rfl ?_
      obtain rfl := Option.some.inj h
      exact hE _ _ _ dX11_arrange_43 rfl
  have B30 : ∀ (t_thrown : Int32) (t_undos : Int32) (t_now : Nat → Int32) (t_undo : Nat → Int32), fX11_arrange_b30 t_told t_one t_other t_forth x1 t_thrown t_undos t_now t_undo = some r → sW X l (zR 5) D 2 0 0 30 [(0, .ref a_t), (1, .int x1)] [.ref a_t] [(a_t, .inr (11, [.int t_thrown, .ref a_t_now, .ref a_t_told, .ref a_t_one, .ref a_t_other, .ref a_t_forth, .ref a_t_cost, .ref a_t_broken, .ref a_t_away, .ref a_t_text, .int t_length, .int t_textSize, .int t_start, .int t_next, .int t_token, .int t_value, .int t_error, .int t_errorAt, .int t_number, .int t_isFirst, .ref a_t_worth, .ref a_t_choice, .ref a_t_thought, .ref a_t_before, .ref a_t_deep, .int t_limitNow, .ref a_t_price, .int t_undos, .ref a_t_undo, .ref a_t_slots, .ref a_t_isSaved])), (a_t_now, .inl (cT 0, 514, .inl t_now)), (a_t_told, .inl (cT 0, 8, .inl t_told)), (a_t_one, .inl (cT 0, 48, .inl t_one)), (a_t_other, .inl (cT 0, 48, .inl t_other)), (a_t_forth, .inl (cT 0, 48, .inl t_forth)), (a_t_broken, .inl (cT 0, 72, .inl t_broken)), (a_t_away, .inl (cT 0, 72, .inl t_away)), (a_t_undo, .inl (cT 0, 5140, .inl t_undo))] := by
    intro t_thrown t_undos t_now t_undo h
    refine xi_iconst C (v := 1) dX11_arrange_30 rfl ?_
    refine xi_goto C (tgt := 35) dX11_arrange_31 rfl ?_
    exact B35 1 t_thrown t_undos t_now t_undo h
  refine xi_drop (L2 := [(0, .ref a_t), (1, .int x1)]) [0, 1] rfl ?_
  refine xi_aload_n C 0 dX11_arrange_0 rfl ?_
  refine xi_iload_n C 1 dX11_arrange_1 rfl ?_
  replace h := ob h
  obtain ⟨u1, hu2, h⟩ := h
  refine xi_callV C (kX11_noLine l D cT a_t a_t_now a_t_told a_t_one a_t_other a_t_forth a_t_cost a_t_broken a_t_away a_t_text a_t_worth a_t_choice a_t_thought a_t_before a_t_deep a_t_price a_t_undo a_t_slots a_t_isSaved t_thrown t_length t_textSize t_start t_next t_token t_value t_error t_errorAt t_number t_isFirst t_limitNow t_undos t_told x1 u1 hu2) zcX11_noLine zmX11_195 ziX11_noLine (zr rfl rfl) z00 rfl [0, 2] rfl rfl rfl [some 0, none, some 1, none, none, none, none, none, none] (by decide +kernel) (ws2 := [(a_t, .inr (11, [.int u1.2, .ref a_t_now, .ref a_t_told, .ref a_t_one, .ref a_t_other, .ref a_t_forth, .ref a_t_cost, .ref a_t_broken, .ref a_t_away, .ref a_t_text, .int t_length, .int t_textSize, .int t_start, .int t_next, .int t_token, .int t_value, .int t_error, .int t_errorAt, .int t_number, .int t_isFirst, .ref a_t_worth, .ref a_t_choice, .ref a_t_thought, .ref a_t_before, .ref a_t_deep, .int t_limitNow, .ref a_t_price, .int t_undos, .ref a_t_undo, .ref a_t_slots, .ref a_t_isSaved])), (a_t_now, .inl (cT 0, 514, .inl t_now)), (a_t_told, .inl (cT 0, 8, .inl t_told)), (a_t_one, .inl (cT 0, 48, .inl t_one)), (a_t_other, .inl (cT 0, 48, .inl t_other)), (a_t_forth, .inl (cT 0, 48, .inl t_forth)), (a_t_broken, .inl (cT 0, 72, .inl t_broken)), (a_t_away, .inl (cT 0, 72, .inl t_away)), (a_t_undo, .inl (cT 0, 5140, .inl t_undo))]) rfl zkX11.1 (qr := 0) rfl rfl (Nat.le_of_ble_eq_true rfl) dX11_arrange_2 (fun z3 => ?_)
  refine xi_if_ne C (tgt := 42) dX11_arrange_5 rfl (fun c4 => ?_) (fun c4 => ?_)
  · replace h := (if_neg c4).symm.trans h
    refine xi_iconst C (v := 0) dX11_arrange_42 rfl ?_
    obtain rfl := Option.some.inj h
    exact hE _ _ _ dX11_arrange_43 rfl
  · replace h := (if_pos c4).symm.trans h
    refine xi_aload_n C 0 dX11_arrange_8 rfl ?_
    refine xi_aload_n C 0 dX11_arrange_9 rfl ?_
    refine xi_get C zkX11 1 0 zlX11_7 (by decide) rfl rfl dX11_arrange_10 ?_
    refine xi_iconst C (v := 2) dX11_arrange_13 rfl ?_
    refine xi_iald C 1 rfl (zv (by decide)) dX11_arrange_14 ?_
    refine xi_iload_n C 1 dX11_arrange_15 rfl ?_
    refine xi_callSr C (kX11_isIn l D cT (t_now 2) x1 (fX11_isIn (t_now 2) x1) rfl) zcX11_isIn zmX11_201 zsX11_isIn (zr rfl rfl) z00 rfl [] rfl rfl rfl (Nat.le_of_ble_eq_true rfl) dX11_arrange_16 (fun z7 => ?_)
    refine xi_if_ne C (tgt := 30) dX11_arrange_19 rfl (fun c8 => ?_) (fun c8 => ?_)
    · replace h := (if_neg c8).symm.trans h
      exact B30 u1.2 t_undos t_now t_undo h
    · replace h := (if_pos c8).symm.trans h
      refine xi_aload_n C 0 dX11_arrange_22 rfl ?_
      refine xi_iload_n C 1 dX11_arrange_23 rfl ?_
      replace h := ob h
      obtain ⟨u19, hu20, h⟩ := h
      refine xi_callVr C (kX11_canArrange l D cT a_t a_t_now a_t_told a_t_one a_t_other a_t_forth a_t_cost a_t_broken a_t_away a_t_text a_t_worth a_t_choice a_t_thought a_t_before a_t_deep a_t_price a_t_undo a_t_slots a_t_isSaved u1.2 t_length t_textSize t_start t_next t_token t_value t_error t_errorAt t_number t_isFirst t_limitNow t_undos t_now t_told t_one t_other t_broken t_away x1 u19 hu20) zcX11_canArrange zmX11_288 ziX11_canArrange (zr rfl rfl) z00 rfl [0, 1, 2, 3, 4, 6, 7] rfl rfl zkX11.1 (qr := 0) rfl rfl (Nat.le_of_ble_eq_true rfl) dX11_arrange_24 (fun z21 => ?_)
      refine xi_if_ne C (tgt := 34) dX11_arrange_27 rfl (fun c22 => ?_) (fun c22 => ?_)
      · replace h := (if_neg c22).symm.trans h
        refine xi_iconst C (v := 0) dX11_arrange_34 rfl ?_
        exact B35 0 u1.2 t_undos t_now t_undo h
      · replace h := (if_pos c22).symm.trans h
        exact B30 u1.2 t_undos t_now t_undo h
def fX11_takeBack_b27 (t_told : Nat → Int32) (t_one : Nat → Int32) (t_other : Nat → Int32) (t_forth : Nat → Int32) (x1 : Int32) (s0 : Int32) (t_thrown : Int32) (t_undos : Int32) (t_now : Nat → Int32) (t_undo : Nat → Int32) : Option (Int32 × Int32 × Int32 × (Nat → Int32) × (Nat → Int32)) := nm (fX11_throwsIf t_thrown s0 2) (fun u9 => if u9.1 = 0 then (fX11_keeps t_undos t_now t_undo).bind (fun u13 => (fX11_gainNow (upd t_now 2 ((t_now 2) - (1 <<< (x1 &&& 31)))) t_told t_one t_other t_forth).bind (fun u16 => some (u16, u9.2, u13.1, upd t_now 2 ((t_now 2) - (1 <<< (x1 &&& 31))), u13.2))) else some (0, u9.2, t_undos, t_now, t_undo))
def fX11_takeBack (t_undos : Int32) (t_now : Nat → Int32) (t_told : Nat → Int32) (t_one : Nat → Int32) (t_other : Nat → Int32) (t_forth : Nat → Int32) (t_undo : Nat → Int32) (x1 : Int32) : Option (Int32 × Int32 × Int32 × (Nat → Int32) × (Nat → Int32)) := (fX11_noLine t_told x1).bind (fun u1 => if u1.1 = 0 then if (fX11_isIn (t_now 2) x1) = 0 then fX11_takeBack_b27 t_told t_one t_other t_forth x1 1 u1.2 t_undos t_now t_undo else fX11_takeBack_b27 t_told t_one t_other t_forth x1 0 u1.2 t_undos t_now t_undo else some (0, u1.2, t_undos, t_now, t_undo))
set_option maxRecDepth 100000 in
set_option maxHeartbeats 4000000 in
theorem kX11_takeBack (l : Launch) (D : va_G) (cT : Nat → ClassId) (a_t : Nat) (a_t_now : Nat) (a_t_told : Nat) (a_t_one : Nat) (a_t_other : Nat) (a_t_forth : Nat) (a_t_cost : Nat) (a_t_broken : Nat) (a_t_away : Nat) (a_t_text : Nat) (a_t_worth : Nat) (a_t_choice : Nat) (a_t_thought : Nat) (a_t_before : Nat) (a_t_deep : Nat) (a_t_price : Nat) (a_t_undo : Nat) (a_t_slots : Nat) (a_t_isSaved : Nat) (t_thrown : Int32) (t_length : Int32) (t_textSize : Int32) (t_start : Int32) (t_next : Int32) (t_token : Int32) (t_value : Int32) (t_error : Int32) (t_errorAt : Int32) (t_number : Int32) (t_isFirst : Int32) (t_limitNow : Int32) (t_undos : Int32) (t_now : Nat → Int32) (t_told : Nat → Int32) (t_one : Nat → Int32) (t_other : Nat → Int32) (t_forth : Nat → Int32) (t_undo : Nat → Int32) (x1 : Int32) (r : Int32 × Int32 × Int32 × (Nat → Int32) × (Nat → Int32)) (h : fX11_takeBack t_undos t_now t_told t_one t_other t_forth t_undo x1 = some r) : sM l yX11_takeBack cX11_takeBack 2 (some .int) (zR 4) D cT [.ref a_t, .int x1] [(a_t, .inr (11, [.int t_thrown, .ref a_t_now, .ref a_t_told, .ref a_t_one, .ref a_t_other, .ref a_t_forth, .ref a_t_cost, .ref a_t_broken, .ref a_t_away, .ref a_t_text, .int t_length, .int t_textSize, .int t_start, .int t_next, .int t_token, .int t_value, .int t_error, .int t_errorAt, .int t_number, .int t_isFirst, .ref a_t_worth, .ref a_t_choice, .ref a_t_thought, .ref a_t_before, .ref a_t_deep, .int t_limitNow, .ref a_t_price, .int t_undos, .ref a_t_undo, .ref a_t_slots, .ref a_t_isSaved])), (a_t_now, .inl (cT 0, 514, .inl t_now)), (a_t_told, .inl (cT 0, 8, .inl t_told)), (a_t_one, .inl (cT 0, 48, .inl t_one)), (a_t_other, .inl (cT 0, 48, .inl t_other)), (a_t_forth, .inl (cT 0, 48, .inl t_forth)), (a_t_undo, .inl (cT 0, 5140, .inl t_undo))] (some (.int r.1)) [(a_t, .inr (11, [.int r.2.1, .ref a_t_now, .ref a_t_told, .ref a_t_one, .ref a_t_other, .ref a_t_forth, .ref a_t_cost, .ref a_t_broken, .ref a_t_away, .ref a_t_text, .int t_length, .int t_textSize, .int t_start, .int t_next, .int t_token, .int t_value, .int t_error, .int t_errorAt, .int t_number, .int t_isFirst, .ref a_t_worth, .ref a_t_choice, .ref a_t_thought, .ref a_t_before, .ref a_t_deep, .int t_limitNow, .ref a_t_price, .int r.2.2.1, .ref a_t_undo, .ref a_t_slots, .ref a_t_isSaved])), (a_t_now, .inl (cT 0, 514, .inl r.2.2.2.1)), (a_t_told, .inl (cT 0, 8, .inl t_told)), (a_t_one, .inl (cT 0, 48, .inl t_one)), (a_t_other, .inl (cT 0, 48, .inl t_other)), (a_t_forth, .inl (cT 0, 48, .inl t_forth)), (a_t_undo, .inl (cT 0, 5140, .inl r.2.2.2.2))] := by
  refine sM_int rfl (Nat.le_of_ble_eq_true rfl) ?_
  intro X C hE
  have B27 : ∀ (s0 : Int32) (t_thrown : Int32) (t_undos : Int32) (t_now : Nat → Int32) (t_undo : Nat → Int32), fX11_takeBack_b27 t_told t_one t_other t_forth x1 s0 t_thrown t_undos t_now t_undo = some r → sW X l (zR 4) D 2 0 0 27 [(0, .ref a_t), (1, .int x1)] [.int s0, .ref a_t] [(a_t, .inr (11, [.int t_thrown, .ref a_t_now, .ref a_t_told, .ref a_t_one, .ref a_t_other, .ref a_t_forth, .ref a_t_cost, .ref a_t_broken, .ref a_t_away, .ref a_t_text, .int t_length, .int t_textSize, .int t_start, .int t_next, .int t_token, .int t_value, .int t_error, .int t_errorAt, .int t_number, .int t_isFirst, .ref a_t_worth, .ref a_t_choice, .ref a_t_thought, .ref a_t_before, .ref a_t_deep, .int t_limitNow, .ref a_t_price, .int t_undos, .ref a_t_undo, .ref a_t_slots, .ref a_t_isSaved])), (a_t_now, .inl (cT 0, 514, .inl t_now)), (a_t_told, .inl (cT 0, 8, .inl t_told)), (a_t_one, .inl (cT 0, 48, .inl t_one)), (a_t_other, .inl (cT 0, 48, .inl t_other)), (a_t_forth, .inl (cT 0, 48, .inl t_forth)), (a_t_undo, .inl (cT 0, 5140, .inl t_undo))] := by
    intro s0 t_thrown t_undos t_now t_undo h
    refine xi_iconst C (v := 2) dX11_takeBack_27 rfl ?_
    obtain ⟨u9, hu10⟩ : ∃ z, z = fX11_throwsIf t_thrown s0 2 := ⟨_, rfl⟩
    replace h := nmE hu10 h
    refine xi_callV C (kX11_throwsIf l D cT a_t a_t_now a_t_told a_t_one a_t_other a_t_forth a_t_cost a_t_broken a_t_away a_t_text a_t_worth a_t_choice a_t_thought a_t_before a_t_deep a_t_price a_t_undo a_t_slots a_t_isSaved t_thrown t_length t_textSize t_start t_next t_token t_value t_error t_errorAt t_number t_isFirst t_limitNow t_undos s0 2 u9 hu10.symm) zcX11_throwsIf zmX11_176 ziX11_throwsIf (zr rfl rfl) z00 rfl [0] rfl rfl rfl [some 0, none, none, none, none, none, none] (by decide +kernel) (ws2 := [(a_t, .inr (11, [.int u9.2, .ref a_t_now, .ref a_t_told, .ref a_t_one, .ref a_t_other, .ref a_t_forth, .ref a_t_cost, .ref a_t_broken, .ref a_t_away, .ref a_t_text, .int t_length, .int t_textSize, .int t_start, .int t_next, .int t_token, .int t_value, .int t_error, .int t_errorAt, .int t_number, .int t_isFirst, .ref a_t_worth, .ref a_t_choice, .ref a_t_thought, .ref a_t_before, .ref a_t_deep, .int t_limitNow, .ref a_t_price, .int t_undos, .ref a_t_undo, .ref a_t_slots, .ref a_t_isSaved])), (a_t_now, .inl (cT 0, 514, .inl t_now)), (a_t_told, .inl (cT 0, 8, .inl t_told)), (a_t_one, .inl (cT 0, 48, .inl t_one)), (a_t_other, .inl (cT 0, 48, .inl t_other)), (a_t_forth, .inl (cT 0, 48, .inl t_forth)), (a_t_undo, .inl (cT 0, 5140, .inl t_undo))]) rfl zkX11.1 (qr := 0) rfl rfl (Nat.le_of_ble_eq_true rfl) dX11_takeBack_28 (fun z11 => ?_)
    refine xi_if_eq C (tgt := 36) dX11_takeBack_31 rfl (fun c12 => ?_) (fun c12 => ?_)
    · replace h := (if_pos c12).symm.trans h
      refine xi_aload_n C 0 dX11_takeBack_36 rfl ?_
      replace h := ob h
      obtain ⟨u13, hu14, h⟩ := h
      refine xi_callV C (kX11_keeps l D cT a_t a_t_now a_t_told a_t_one a_t_other a_t_forth a_t_cost a_t_broken a_t_away a_t_text a_t_worth a_t_choice a_t_thought a_t_before a_t_deep a_t_price a_t_undo a_t_slots a_t_isSaved u9.2 t_length t_textSize t_start t_next t_token t_value t_error t_errorAt t_number t_isFirst t_limitNow t_undos t_now t_undo u13 hu14) zcX11_keeps zmX11_291 ziX11_keeps (zr rfl rfl) z00 rfl [0, 1, 6] rfl rfl rfl [some 0, some 1, none, none, none, none, some 2] (by decide +kernel) (ws2 := [(a_t, .inr (11, [.int u9.2, .ref a_t_now, .ref a_t_told, .ref a_t_one, .ref a_t_other, .ref a_t_forth, .ref a_t_cost, .ref a_t_broken, .ref a_t_away, .ref a_t_text, .int t_length, .int t_textSize, .int t_start, .int t_next, .int t_token, .int t_value, .int t_error, .int t_errorAt, .int t_number, .int t_isFirst, .ref a_t_worth, .ref a_t_choice, .ref a_t_thought, .ref a_t_before, .ref a_t_deep, .int t_limitNow, .ref a_t_price, .int u13.1, .ref a_t_undo, .ref a_t_slots, .ref a_t_isSaved])), (a_t_now, .inl (cT 0, 514, .inl t_now)), (a_t_told, .inl (cT 0, 8, .inl t_told)), (a_t_one, .inl (cT 0, 48, .inl t_one)), (a_t_other, .inl (cT 0, 48, .inl t_other)), (a_t_forth, .inl (cT 0, 48, .inl t_forth)), (a_t_undo, .inl (cT 0, 5140, .inl u13.2))]) rfl zkX11.1 (qr := 0) rfl rfl (Nat.le_of_ble_eq_true rfl) dX11_takeBack_37 (fun z15 => ?_)
      refine xi_aload_n C 0 dX11_takeBack_40 rfl ?_
      refine xi_get C zkX11 1 0 zlX11_7 (by decide) rfl rfl dX11_takeBack_41 ?_
      refine xi_iconst C (v := 2) dX11_takeBack_44 rfl ?_
      refine xi_dup2 C dX11_takeBack_45 rfl rfl ?_
      refine xi_iald C 1 rfl (zv (by decide)) dX11_takeBack_46 ?_
      refine xi_iconst C (v := 1) dX11_takeBack_47 rfl ?_
      refine xi_iload_n C 1 dX11_takeBack_48 rfl ?_
      refine xi_ishl C dX11_takeBack_49 ?_
      refine xi_isub C dX11_takeBack_50 ?_
      refine xi_iast C 1 rfl (zv (by decide)) dX11_takeBack_51 (ws2 := [(a_t, .inr (11, [.int u9.2, .ref a_t_now, .ref a_t_told, .ref a_t_one, .ref a_t_other, .ref a_t_forth, .ref a_t_cost, .ref a_t_broken, .ref a_t_away, .ref a_t_text, .int t_length, .int t_textSize, .int t_start, .int t_next, .int t_token, .int t_value, .int t_error, .int t_errorAt, .int t_number, .int t_isFirst, .ref a_t_worth, .ref a_t_choice, .ref a_t_thought, .ref a_t_before, .ref a_t_deep, .int t_limitNow, .ref a_t_price, .int u13.1, .ref a_t_undo, .ref a_t_slots, .ref a_t_isSaved])), (a_t_now, .inl (cT 0, 514, .inl (upd t_now 2 ((t_now 2) - (1 <<< (x1 &&& 31)))))), (a_t_told, .inl (cT 0, 8, .inl t_told)), (a_t_one, .inl (cT 0, 48, .inl t_one)), (a_t_other, .inl (cT 0, 48, .inl t_other)), (a_t_forth, .inl (cT 0, 48, .inl t_forth)), (a_t_undo, .inl (cT 0, 5140, .inl u13.2))]) rfl ?_
      refine xi_aload_n C 0 dX11_takeBack_52 rfl ?_
      replace h := ob h
      obtain ⟨u16, hu17, h⟩ := h
      refine xi_callVr C (kX11_gainNow l D cT a_t a_t_now a_t_told a_t_one a_t_other a_t_forth a_t_cost a_t_broken a_t_away a_t_text a_t_worth a_t_choice a_t_thought a_t_before a_t_deep a_t_price a_t_undo a_t_slots a_t_isSaved u9.2 t_length t_textSize t_start t_next t_token t_value t_error t_errorAt t_number t_isFirst t_limitNow u13.1 (upd t_now 2 ((t_now 2) - (1 <<< (x1 &&& 31)))) t_told t_one t_other t_forth u16 hu17) zcX11_gainNow zmX11_228 ziX11_gainNow (zr rfl rfl) z00 rfl [0, 1, 2, 3, 4, 5] rfl rfl zkX11.1 (qr := 0) rfl rfl (Nat.le_of_ble_eq_true rfl) dX11_takeBack_53 (fun z18 => ?_)
      obtain rfl := Option.some.inj h
      exact hE _ _ _ dX11_takeBack_56 rfl
    · replace h := (if_neg c12).symm.trans h
      refine xi_iconst C (v := 0) dX11_takeBack_34 rfl ?_
      obtain rfl := Option.some.inj h
      exact hE _ _ _ dX11_takeBack_35 rfl
  refine xi_drop (L2 := [(0, .ref a_t), (1, .int x1)]) [0, 1] rfl ?_
  refine xi_aload_n C 0 dX11_takeBack_0 rfl ?_
  refine xi_iload_n C 1 dX11_takeBack_1 rfl ?_
  replace h := ob h
  obtain ⟨u1, hu2, h⟩ := h
  refine xi_callV C (kX11_noLine l D cT a_t a_t_now a_t_told a_t_one a_t_other a_t_forth a_t_cost a_t_broken a_t_away a_t_text a_t_worth a_t_choice a_t_thought a_t_before a_t_deep a_t_price a_t_undo a_t_slots a_t_isSaved t_thrown t_length t_textSize t_start t_next t_token t_value t_error t_errorAt t_number t_isFirst t_limitNow t_undos t_told x1 u1 hu2) zcX11_noLine zmX11_195 ziX11_noLine (zr rfl rfl) z00 rfl [0, 2] rfl rfl rfl [some 0, none, some 1, none, none, none, none] (by decide +kernel) (ws2 := [(a_t, .inr (11, [.int u1.2, .ref a_t_now, .ref a_t_told, .ref a_t_one, .ref a_t_other, .ref a_t_forth, .ref a_t_cost, .ref a_t_broken, .ref a_t_away, .ref a_t_text, .int t_length, .int t_textSize, .int t_start, .int t_next, .int t_token, .int t_value, .int t_error, .int t_errorAt, .int t_number, .int t_isFirst, .ref a_t_worth, .ref a_t_choice, .ref a_t_thought, .ref a_t_before, .ref a_t_deep, .int t_limitNow, .ref a_t_price, .int t_undos, .ref a_t_undo, .ref a_t_slots, .ref a_t_isSaved])), (a_t_now, .inl (cT 0, 514, .inl t_now)), (a_t_told, .inl (cT 0, 8, .inl t_told)), (a_t_one, .inl (cT 0, 48, .inl t_one)), (a_t_other, .inl (cT 0, 48, .inl t_other)), (a_t_forth, .inl (cT 0, 48, .inl t_forth)), (a_t_undo, .inl (cT 0, 5140, .inl t_undo))]) rfl zkX11.1 (qr := 0) rfl rfl (Nat.le_of_ble_eq_true rfl) dX11_takeBack_2 (fun z3 => ?_)
  refine xi_if_ne C (tgt := 34) dX11_takeBack_5 rfl (fun c4 => ?_) (fun c4 => ?_)
  · replace h := (if_neg c4).symm.trans h
    refine xi_iconst C (v := 0) dX11_takeBack_34 rfl ?_
    obtain rfl := Option.some.inj h
    exact hE _ _ _ dX11_takeBack_35 rfl
  · replace h := (if_pos c4).symm.trans h
    refine xi_aload_n C 0 dX11_takeBack_8 rfl ?_
    refine xi_aload_n C 0 dX11_takeBack_9 rfl ?_
    refine xi_get C zkX11 1 0 zlX11_7 (by decide) rfl rfl dX11_takeBack_10 ?_
    refine xi_iconst C (v := 2) dX11_takeBack_13 rfl ?_
    refine xi_iald C 1 rfl (zv (by decide)) dX11_takeBack_14 ?_
    refine xi_iload_n C 1 dX11_takeBack_15 rfl ?_
    refine xi_callSr C (kX11_isIn l D cT (t_now 2) x1 (fX11_isIn (t_now 2) x1) rfl) zcX11_isIn zmX11_201 zsX11_isIn (zr rfl rfl) z00 rfl [] rfl rfl rfl (Nat.le_of_ble_eq_true rfl) dX11_takeBack_16 (fun z7 => ?_)
    refine xi_if_ne C (tgt := 26) dX11_takeBack_19 rfl (fun c8 => ?_) (fun c8 => ?_)
    · replace h := (if_neg c8).symm.trans h
      refine xi_iconst C (v := 0) dX11_takeBack_26 rfl ?_
      exact B27 0 u1.2 t_undos t_now t_undo h
    · replace h := (if_pos c8).symm.trans h
      refine xi_iconst C (v := 1) dX11_takeBack_22 rfl ?_
      refine xi_goto C (tgt := 27) dX11_takeBack_23 rfl ?_
      exact B27 1 u1.2 t_undos t_now t_undo h
def fX11_arrangeBest (t_undos : Int32) (t_now : Nat → Int32) (t_told : Nat → Int32) (t_one : Nat → Int32) (t_other : Nat → Int32) (t_forth : Nat → Int32) (t_cost : Nat → Int32) (t_broken : Nat → Int32) (t_away : Nat → Int32) (t_worth : Nat → Int64) (t_choice : Nat → Int32) (t_undo : Nat → Int32) : Option (Int32 × Int32 × Int32 × (Nat → Int32) × (Nat → Int64) × (Nat → Int32) × (Nat → Int32)) := (fX11_keeps t_undos t_now t_undo).bind (fun u1 => (fX11_bestNow t_now t_told t_one t_other t_forth t_cost t_broken t_away t_worth t_choice).bind (fun u4 => (fX11_gainNow (upd t_now 2 u4.1) t_told t_one t_other t_forth).bind (fun u7 => some (u7, 0, u1.1, upd t_now 2 u4.1, u4.2.1, u4.2.2, u1.2))))
set_option maxRecDepth 100000 in
set_option maxHeartbeats 4000000 in
theorem kX11_arrangeBest (l : Launch) (D : va_G) (cT : Nat → ClassId) (a_t : Nat) (a_t_now : Nat) (a_t_told : Nat) (a_t_one : Nat) (a_t_other : Nat) (a_t_forth : Nat) (a_t_cost : Nat) (a_t_broken : Nat) (a_t_away : Nat) (a_t_text : Nat) (a_t_worth : Nat) (a_t_choice : Nat) (a_t_thought : Nat) (a_t_before : Nat) (a_t_deep : Nat) (a_t_price : Nat) (a_t_undo : Nat) (a_t_slots : Nat) (a_t_isSaved : Nat) (t_thrown : Int32) (t_length : Int32) (t_textSize : Int32) (t_start : Int32) (t_next : Int32) (t_token : Int32) (t_value : Int32) (t_error : Int32) (t_errorAt : Int32) (t_number : Int32) (t_isFirst : Int32) (t_limitNow : Int32) (t_undos : Int32) (t_now : Nat → Int32) (t_told : Nat → Int32) (t_one : Nat → Int32) (t_other : Nat → Int32) (t_forth : Nat → Int32) (t_cost : Nat → Int32) (t_broken : Nat → Int32) (t_away : Nat → Int32) (t_worth : Nat → Int64) (t_choice : Nat → Int32) (t_undo : Nat → Int32) (r : Int32 × Int32 × Int32 × (Nat → Int32) × (Nat → Int64) × (Nat → Int32) × (Nat → Int32)) (h : fX11_arrangeBest t_undos t_now t_told t_one t_other t_forth t_cost t_broken t_away t_worth t_choice t_undo = some r) : sM l yX11_arrangeBest cX11_arrangeBest 1 (some .int) (zR 6) D cT [.ref a_t] [(a_t, .inr (11, [.int t_thrown, .ref a_t_now, .ref a_t_told, .ref a_t_one, .ref a_t_other, .ref a_t_forth, .ref a_t_cost, .ref a_t_broken, .ref a_t_away, .ref a_t_text, .int t_length, .int t_textSize, .int t_start, .int t_next, .int t_token, .int t_value, .int t_error, .int t_errorAt, .int t_number, .int t_isFirst, .ref a_t_worth, .ref a_t_choice, .ref a_t_thought, .ref a_t_before, .ref a_t_deep, .int t_limitNow, .ref a_t_price, .int t_undos, .ref a_t_undo, .ref a_t_slots, .ref a_t_isSaved])), (a_t_now, .inl (cT 0, 514, .inl t_now)), (a_t_told, .inl (cT 0, 8, .inl t_told)), (a_t_one, .inl (cT 0, 48, .inl t_one)), (a_t_other, .inl (cT 0, 48, .inl t_other)), (a_t_forth, .inl (cT 0, 48, .inl t_forth)), (a_t_cost, .inl (cT 0, 48, .inl t_cost)), (a_t_broken, .inl (cT 0, 72, .inl t_broken)), (a_t_away, .inl (cT 0, 72, .inl t_away)), (a_t_worth, .inl (cT 1, 1024, .inr (.inl t_worth))), (a_t_choice, .inl (cT 0, 1024, .inl t_choice)), (a_t_undo, .inl (cT 0, 5140, .inl t_undo))] (some (.int r.1)) [(a_t, .inr (11, [.int r.2.1, .ref a_t_now, .ref a_t_told, .ref a_t_one, .ref a_t_other, .ref a_t_forth, .ref a_t_cost, .ref a_t_broken, .ref a_t_away, .ref a_t_text, .int t_length, .int t_textSize, .int t_start, .int t_next, .int t_token, .int t_value, .int t_error, .int t_errorAt, .int t_number, .int t_isFirst, .ref a_t_worth, .ref a_t_choice, .ref a_t_thought, .ref a_t_before, .ref a_t_deep, .int t_limitNow, .ref a_t_price, .int r.2.2.1, .ref a_t_undo, .ref a_t_slots, .ref a_t_isSaved])), (a_t_now, .inl (cT 0, 514, .inl r.2.2.2.1)), (a_t_told, .inl (cT 0, 8, .inl t_told)), (a_t_one, .inl (cT 0, 48, .inl t_one)), (a_t_other, .inl (cT 0, 48, .inl t_other)), (a_t_forth, .inl (cT 0, 48, .inl t_forth)), (a_t_cost, .inl (cT 0, 48, .inl t_cost)), (a_t_broken, .inl (cT 0, 72, .inl t_broken)), (a_t_away, .inl (cT 0, 72, .inl t_away)), (a_t_worth, .inl (cT 1, 1024, .inr (.inl r.2.2.2.2.1))), (a_t_choice, .inl (cT 0, 1024, .inl r.2.2.2.2.2.1)), (a_t_undo, .inl (cT 0, 5140, .inl r.2.2.2.2.2.2))] := by
  refine sM_int rfl (Nat.le_of_ble_eq_true rfl) ?_
  intro X C hE
  refine xi_drop (L2 := [(0, .ref a_t)]) [0] rfl ?_
  refine xi_aload_n C 0 dX11_arrangeBest_0 rfl ?_
  refine xi_iconst C (v := 0) dX11_arrangeBest_1 rfl ?_
  refine xi_put C zkX11 0 0 zlX11_80 (by decide) rfl rfl rfl rfl (Nat.le_of_ble_eq_true rfl) dX11_arrangeBest_2 (ws2 := [(a_t, .inr (11, [.int 0, .ref a_t_now, .ref a_t_told, .ref a_t_one, .ref a_t_other, .ref a_t_forth, .ref a_t_cost, .ref a_t_broken, .ref a_t_away, .ref a_t_text, .int t_length, .int t_textSize, .int t_start, .int t_next, .int t_token, .int t_value, .int t_error, .int t_errorAt, .int t_number, .int t_isFirst, .ref a_t_worth, .ref a_t_choice, .ref a_t_thought, .ref a_t_before, .ref a_t_deep, .int t_limitNow, .ref a_t_price, .int t_undos, .ref a_t_undo, .ref a_t_slots, .ref a_t_isSaved])), (a_t_now, .inl (cT 0, 514, .inl t_now)), (a_t_told, .inl (cT 0, 8, .inl t_told)), (a_t_one, .inl (cT 0, 48, .inl t_one)), (a_t_other, .inl (cT 0, 48, .inl t_other)), (a_t_forth, .inl (cT 0, 48, .inl t_forth)), (a_t_cost, .inl (cT 0, 48, .inl t_cost)), (a_t_broken, .inl (cT 0, 72, .inl t_broken)), (a_t_away, .inl (cT 0, 72, .inl t_away)), (a_t_worth, .inl (cT 1, 1024, .inr (.inl t_worth))), (a_t_choice, .inl (cT 0, 1024, .inl t_choice)), (a_t_undo, .inl (cT 0, 5140, .inl t_undo))]) rfl ?_
  refine xi_aload_n C 0 dX11_arrangeBest_5 rfl ?_
  replace h := ob h
  obtain ⟨u1, hu2, h⟩ := h
  refine xi_callV C (kX11_keeps l D cT a_t a_t_now a_t_told a_t_one a_t_other a_t_forth a_t_cost a_t_broken a_t_away a_t_text a_t_worth a_t_choice a_t_thought a_t_before a_t_deep a_t_price a_t_undo a_t_slots a_t_isSaved 0 t_length t_textSize t_start t_next t_token t_value t_error t_errorAt t_number t_isFirst t_limitNow t_undos t_now t_undo u1 hu2) zcX11_keeps zmX11_291 ziX11_keeps (zr rfl rfl) z00 rfl [0, 1, 11] rfl rfl rfl [some 0, some 1, none, none, none, none, none, none, none, none, none, some 2] (by decide +kernel) (ws2 := [(a_t, .inr (11, [.int 0, .ref a_t_now, .ref a_t_told, .ref a_t_one, .ref a_t_other, .ref a_t_forth, .ref a_t_cost, .ref a_t_broken, .ref a_t_away, .ref a_t_text, .int t_length, .int t_textSize, .int t_start, .int t_next, .int t_token, .int t_value, .int t_error, .int t_errorAt, .int t_number, .int t_isFirst, .ref a_t_worth, .ref a_t_choice, .ref a_t_thought, .ref a_t_before, .ref a_t_deep, .int t_limitNow, .ref a_t_price, .int u1.1, .ref a_t_undo, .ref a_t_slots, .ref a_t_isSaved])), (a_t_now, .inl (cT 0, 514, .inl t_now)), (a_t_told, .inl (cT 0, 8, .inl t_told)), (a_t_one, .inl (cT 0, 48, .inl t_one)), (a_t_other, .inl (cT 0, 48, .inl t_other)), (a_t_forth, .inl (cT 0, 48, .inl t_forth)), (a_t_cost, .inl (cT 0, 48, .inl t_cost)), (a_t_broken, .inl (cT 0, 72, .inl t_broken)), (a_t_away, .inl (cT 0, 72, .inl t_away)), (a_t_worth, .inl (cT 1, 1024, .inr (.inl t_worth))), (a_t_choice, .inl (cT 0, 1024, .inl t_choice)), (a_t_undo, .inl (cT 0, 5140, .inl u1.2))]) rfl zkX11.1 (qr := 0) rfl rfl (Nat.le_of_ble_eq_true rfl) dX11_arrangeBest_6 (fun z3 => ?_)
  refine xi_aload_n C 0 dX11_arrangeBest_9 rfl ?_
  refine xi_get C zkX11 1 0 zlX11_7 (by decide) rfl rfl dX11_arrangeBest_10 ?_
  refine xi_iconst C (v := 2) dX11_arrangeBest_13 rfl ?_
  refine xi_aload_n C 0 dX11_arrangeBest_14 rfl ?_
  replace h := ob h
  obtain ⟨u4, hu5, h⟩ := h
  refine xi_callV C (kX11_bestNow l D cT a_t a_t_now a_t_told a_t_one a_t_other a_t_forth a_t_cost a_t_broken a_t_away a_t_text a_t_worth a_t_choice a_t_thought a_t_before a_t_deep a_t_price a_t_undo a_t_slots a_t_isSaved 0 t_length t_textSize t_start t_next t_token t_value t_error t_errorAt t_number t_isFirst t_limitNow u1.1 t_now t_told t_one t_other t_forth t_cost t_broken t_away t_worth t_choice u4 hu5) zcX11_bestNow zmX11_240 ziX11_bestNow (zr rfl rfl) z00 rfl [0, 1, 2, 3, 4, 5, 6, 7, 8, 9, 10] rfl rfl rfl [some 0, some 1, some 2, some 3, some 4, some 5, some 6, some 7, some 8, some 9, some 10, none] (by decide +kernel) (ws2 := [(a_t, .inr (11, [.int 0, .ref a_t_now, .ref a_t_told, .ref a_t_one, .ref a_t_other, .ref a_t_forth, .ref a_t_cost, .ref a_t_broken, .ref a_t_away, .ref a_t_text, .int t_length, .int t_textSize, .int t_start, .int t_next, .int t_token, .int t_value, .int t_error, .int t_errorAt, .int t_number, .int t_isFirst, .ref a_t_worth, .ref a_t_choice, .ref a_t_thought, .ref a_t_before, .ref a_t_deep, .int t_limitNow, .ref a_t_price, .int u1.1, .ref a_t_undo, .ref a_t_slots, .ref a_t_isSaved])), (a_t_now, .inl (cT 0, 514, .inl t_now)), (a_t_told, .inl (cT 0, 8, .inl t_told)), (a_t_one, .inl (cT 0, 48, .inl t_one)), (a_t_other, .inl (cT 0, 48, .inl t_other)), (a_t_forth, .inl (cT 0, 48, .inl t_forth)), (a_t_cost, .inl (cT 0, 48, .inl t_cost)), (a_t_broken, .inl (cT 0, 72, .inl t_broken)), (a_t_away, .inl (cT 0, 72, .inl t_away)), (a_t_worth, .inl (cT 1, 1024, .inr (.inl u4.2.1))), (a_t_choice, .inl (cT 0, 1024, .inl u4.2.2)), (a_t_undo, .inl (cT 0, 5140, .inl u1.2))]) rfl zkX11.1 (qr := 0) rfl rfl (Nat.le_of_ble_eq_true rfl) dX11_arrangeBest_15 (fun z6 => ?_)
  refine xi_iast C 1 rfl (zv (by decide)) dX11_arrangeBest_18 (ws2 := [(a_t, .inr (11, [.int 0, .ref a_t_now, .ref a_t_told, .ref a_t_one, .ref a_t_other, .ref a_t_forth, .ref a_t_cost, .ref a_t_broken, .ref a_t_away, .ref a_t_text, .int t_length, .int t_textSize, .int t_start, .int t_next, .int t_token, .int t_value, .int t_error, .int t_errorAt, .int t_number, .int t_isFirst, .ref a_t_worth, .ref a_t_choice, .ref a_t_thought, .ref a_t_before, .ref a_t_deep, .int t_limitNow, .ref a_t_price, .int u1.1, .ref a_t_undo, .ref a_t_slots, .ref a_t_isSaved])), (a_t_now, .inl (cT 0, 514, .inl (upd t_now 2 u4.1))), (a_t_told, .inl (cT 0, 8, .inl t_told)), (a_t_one, .inl (cT 0, 48, .inl t_one)), (a_t_other, .inl (cT 0, 48, .inl t_other)), (a_t_forth, .inl (cT 0, 48, .inl t_forth)), (a_t_cost, .inl (cT 0, 48, .inl t_cost)), (a_t_broken, .inl (cT 0, 72, .inl t_broken)), (a_t_away, .inl (cT 0, 72, .inl t_away)), (a_t_worth, .inl (cT 1, 1024, .inr (.inl u4.2.1))), (a_t_choice, .inl (cT 0, 1024, .inl u4.2.2)), (a_t_undo, .inl (cT 0, 5140, .inl u1.2))]) rfl ?_
  refine xi_aload_n C 0 dX11_arrangeBest_19 rfl ?_
  replace h := ob h
  obtain ⟨u7, hu8, h⟩ := h
  refine xi_callVr C (kX11_gainNow l D cT a_t a_t_now a_t_told a_t_one a_t_other a_t_forth a_t_cost a_t_broken a_t_away a_t_text a_t_worth a_t_choice a_t_thought a_t_before a_t_deep a_t_price a_t_undo a_t_slots a_t_isSaved 0 t_length t_textSize t_start t_next t_token t_value t_error t_errorAt t_number t_isFirst t_limitNow u1.1 (upd t_now 2 u4.1) t_told t_one t_other t_forth u7 hu8) zcX11_gainNow zmX11_228 ziX11_gainNow (zr rfl rfl) z00 rfl [0, 1, 2, 3, 4, 5] rfl rfl zkX11.1 (qr := 0) rfl rfl (Nat.le_of_ble_eq_true rfl) dX11_arrangeBest_20 (fun z9 => ?_)
  obtain rfl := Option.some.inj h
  exact hE _ _ _ dX11_arrangeBest_23 rfl
def fX11_ring_b162 (y1 : Int32) (y2 : Int32) (s0 : Int32) (s1 : Int32) (s2 : Int32) (t_thrown : Int32) (t_undos : Int32) (t_now : Nat → Int32) (t_thought : Nat → Int32) (t_before : Nat → Int32) (t_undo : Nat → Int32) : Option (Int32 × Int32 × Int32 × (Nat → Int32) × (Nat → Int32) × (Nat → Int32) × (Nat → Int32)) := gd s2 514 (gd (14 + ((upd t_now s2.toNatClampNeg (s1 + s0)) 0)) 514 (some (y1, t_thrown, t_undos, upd (upd t_now s2.toNatClampNeg (s1 + s0)) (14 + ((upd t_now s2.toNatClampNeg (s1 + s0)) 0)).toNatClampNeg y2, t_thought, t_before, t_undo)))
def fX11_ring_b113 (y1 : Int32) (y2 : Int32) (t_thrown : Int32) (t_undos : Int32) (t_now : Nat → Int32) (t_thought : Nat → Int32) (t_before : Nat → Int32) (t_undo : Nat → Int32) : Option (Int32 × Int32 × Int32 × (Nat → Int32) × (Nat → Int32) × (Nat → Int32) × (Nat → Int32)) := (fX11_many (t_now 2)).bind (fun u24 => if 499 ≤ ((upd (upd t_now 1 ((t_now 1) + u24)) 2 0) 0) then fX11_ring_b162 y1 y2 0 ((upd (upd t_now 1 ((t_now 1) + u24)) 2 0) 0) 0 t_thrown t_undos (upd (upd t_now 1 ((t_now 1) + u24)) 2 0) t_thought t_before t_undo else fX11_ring_b162 y1 y2 1 ((upd (upd t_now 1 ((t_now 1) + u24)) 2 0) 0) 0 t_thrown t_undos (upd (upd t_now 1 ((t_now 1) + u24)) 2 0) t_thought t_before t_undo)
def fX11_ring_b83 (t_told : Nat → Int32) : Nat → Int32 → Int32 → Int32 → Int32 → Int32 → (Nat → Int32) → (Nat → Int32) → (Nat → Int32) → (Nat → Int32) → Option (Int32 × Int32 × Int32 × (Nat → Int32) × (Nat → Int32) × (Nat → Int32) × (Nat → Int32))
  | 0, _, _, _, _, _, _, _, _, _ => none
  | n + 1, y1, y2, y3, t_thrown, t_undos, t_now, t_thought, t_before, t_undo => if (t_told 0) ≤ y3 then fX11_ring_b113 y1 y2 t_thrown t_undos t_now t_thought t_before t_undo else gd y3 10 (gd (4 + y3) 514 ((fX11_ring_b83 t_told n) y1 y2 (y3 + 1) t_thrown t_undos (upd t_now (4 + y3).toNatClampNeg (t_thought y3.toNatClampNeg)) t_thought t_before t_undo))
theorem fX11_ring_b83_0 (t_told : Nat → Int32) (y1 : Int32) (y2 : Int32) (y3 : Int32) (t_thrown : Int32) (t_undos : Int32) (t_now : Nat → Int32) (t_thought : Nat → Int32) (t_before : Nat → Int32) (t_undo : Nat → Int32) : fX11_ring_b83 t_told 0 y1 y2 y3 t_thrown t_undos t_now t_thought t_before t_undo = none := rfl
theorem fX11_ring_b83_s (t_told : Nat → Int32) (n : Nat) (y1 : Int32) (y2 : Int32) (y3 : Int32) (t_thrown : Int32) (t_undos : Int32) (t_now : Nat → Int32) (t_thought : Nat → Int32) (t_before : Nat → Int32) (t_undo : Nat → Int32) : fX11_ring_b83 t_told (n + 1) y1 y2 y3 t_thrown t_undos t_now t_thought t_before t_undo = (if (t_told 0) ≤ y3 then fX11_ring_b113 y1 y2 t_thrown t_undos t_now t_thought t_before t_undo else gd y3 10 (gd (4 + y3) 514 ((fX11_ring_b83 t_told n) y1 y2 (y3 + 1) t_thrown t_undos (upd t_now (4 + y3).toNatClampNeg (t_thought y3.toNatClampNeg)) t_thought t_before t_undo))) := rfl
def fX11_ring_b23 (t_told : Nat → Int32) (t_one : Nat → Int32) (t_other : Nat → Int32) (t_forth : Nat → Int32) (t_cost : Nat → Int32) (s0 : Int32) (t_thrown : Int32) (t_undos : Int32) (t_now : Nat → Int32) (t_thought : Nat → Int32) (t_before : Nat → Int32) (t_undo : Nat → Int32) : Option (Int32 × Int32 × Int32 × (Nat → Int32) × (Nat → Int32) × (Nat → Int32) × (Nat → Int32)) := nm (fX11_throwsIf t_thrown s0 1) (fun u2 => if u2.1 = 0 then (fX11_keeps t_undos t_now t_undo).bind (fun u6 => (fX11_gainNow t_now t_told t_one t_other t_forth).bind (fun u9 => gd (14 + (t_now 0)) 514 ((fX11_costOf t_told t_cost (t_now 2)).bind (fun u13 => nm ((t_now (14 + (t_now 0)).toNatClampNeg) + u13) (fun w16 => (fX11_thinks t_now t_told t_thought).bind (fun u17 => (fX11_calls t_told t_one t_other t_forth u17 t_before (t_now 2)).bind (fun u20 => fX11_ring_b83 t_told FU u9 w16 0 u2.2 u6.1 t_now u20.1 u20.2 u6.2))))))) else some (0, u2.2, t_undos, t_now, t_thought, t_before, t_undo))
def fX11_ring (t_undos : Int32) (t_now : Nat → Int32) (t_told : Nat → Int32) (t_one : Nat → Int32) (t_other : Nat → Int32) (t_forth : Nat → Int32) (t_cost : Nat → Int32) (t_thought : Nat → Int32) (t_before : Nat → Int32) (t_undo : Nat → Int32) : Option (Int32 × Int32 × Int32 × (Nat → Int32) × (Nat → Int32) × (Nat → Int32) × (Nat → Int32)) := if (t_now 0) = 9999 then fX11_ring_b23 t_told t_one t_other t_forth t_cost 1 0 t_undos t_now t_thought t_before t_undo else fX11_ring_b23 t_told t_one t_other t_forth t_cost 0 0 t_undos t_now t_thought t_before t_undo
set_option maxRecDepth 100000 in
set_option maxHeartbeats 4000000 in
theorem kX11_ring (l : Launch) (D : va_G) (cT : Nat → ClassId) (a_t : Nat) (a_t_now : Nat) (a_t_told : Nat) (a_t_one : Nat) (a_t_other : Nat) (a_t_forth : Nat) (a_t_cost : Nat) (a_t_broken : Nat) (a_t_away : Nat) (a_t_text : Nat) (a_t_worth : Nat) (a_t_choice : Nat) (a_t_thought : Nat) (a_t_before : Nat) (a_t_deep : Nat) (a_t_price : Nat) (a_t_undo : Nat) (a_t_slots : Nat) (a_t_isSaved : Nat) (t_thrown : Int32) (t_length : Int32) (t_textSize : Int32) (t_start : Int32) (t_next : Int32) (t_token : Int32) (t_value : Int32) (t_error : Int32) (t_errorAt : Int32) (t_number : Int32) (t_isFirst : Int32) (t_limitNow : Int32) (t_undos : Int32) (t_now : Nat → Int32) (t_told : Nat → Int32) (t_one : Nat → Int32) (t_other : Nat → Int32) (t_forth : Nat → Int32) (t_cost : Nat → Int32) (t_thought : Nat → Int32) (t_before : Nat → Int32) (t_undo : Nat → Int32) (r : Int32 × Int32 × Int32 × (Nat → Int32) × (Nat → Int32) × (Nat → Int32) × (Nat → Int32)) (h : fX11_ring t_undos t_now t_told t_one t_other t_forth t_cost t_thought t_before t_undo = some r) : sM l yX11_ring cX11_ring 4 (some .int) (zR 4) D cT [.ref a_t] [(a_t, .inr (11, [.int t_thrown, .ref a_t_now, .ref a_t_told, .ref a_t_one, .ref a_t_other, .ref a_t_forth, .ref a_t_cost, .ref a_t_broken, .ref a_t_away, .ref a_t_text, .int t_length, .int t_textSize, .int t_start, .int t_next, .int t_token, .int t_value, .int t_error, .int t_errorAt, .int t_number, .int t_isFirst, .ref a_t_worth, .ref a_t_choice, .ref a_t_thought, .ref a_t_before, .ref a_t_deep, .int t_limitNow, .ref a_t_price, .int t_undos, .ref a_t_undo, .ref a_t_slots, .ref a_t_isSaved])), (a_t_now, .inl (cT 0, 514, .inl t_now)), (a_t_told, .inl (cT 0, 8, .inl t_told)), (a_t_one, .inl (cT 0, 48, .inl t_one)), (a_t_other, .inl (cT 0, 48, .inl t_other)), (a_t_forth, .inl (cT 0, 48, .inl t_forth)), (a_t_cost, .inl (cT 0, 48, .inl t_cost)), (a_t_thought, .inl (cT 0, 10, .inl t_thought)), (a_t_before, .inl (cT 0, 10, .inl t_before)), (a_t_undo, .inl (cT 0, 5140, .inl t_undo))] (some (.int r.1)) [(a_t, .inr (11, [.int r.2.1, .ref a_t_now, .ref a_t_told, .ref a_t_one, .ref a_t_other, .ref a_t_forth, .ref a_t_cost, .ref a_t_broken, .ref a_t_away, .ref a_t_text, .int t_length, .int t_textSize, .int t_start, .int t_next, .int t_token, .int t_value, .int t_error, .int t_errorAt, .int t_number, .int t_isFirst, .ref a_t_worth, .ref a_t_choice, .ref a_t_thought, .ref a_t_before, .ref a_t_deep, .int t_limitNow, .ref a_t_price, .int r.2.2.1, .ref a_t_undo, .ref a_t_slots, .ref a_t_isSaved])), (a_t_now, .inl (cT 0, 514, .inl r.2.2.2.1)), (a_t_told, .inl (cT 0, 8, .inl t_told)), (a_t_one, .inl (cT 0, 48, .inl t_one)), (a_t_other, .inl (cT 0, 48, .inl t_other)), (a_t_forth, .inl (cT 0, 48, .inl t_forth)), (a_t_cost, .inl (cT 0, 48, .inl t_cost)), (a_t_thought, .inl (cT 0, 10, .inl r.2.2.2.2.1)), (a_t_before, .inl (cT 0, 10, .inl r.2.2.2.2.2.1)), (a_t_undo, .inl (cT 0, 5140, .inl r.2.2.2.2.2.2))] := by
  refine sM_int rfl (Nat.le_of_ble_eq_true rfl) ?_
  intro X C hE
  have B162 : ∀ (y1 : Int32) (y2 : Int32) (s0 : Int32) (s1 : Int32) (s2 : Int32) (t_thrown : Int32) (t_undos : Int32) (t_now : Nat → Int32) (t_thought : Nat → Int32) (t_before : Nat → Int32) (t_undo : Nat → Int32), fX11_ring_b162 y1 y2 s0 s1 s2 t_thrown t_undos t_now t_thought t_before t_undo = some r → sW X l (zR 4) D 4 0 0 162 [(0, .ref a_t), (1, .int y1), (2, .int y2)] [.int s0, .int s1, .int s2, .ref a_t_now] [(a_t, .inr (11, [.int t_thrown, .ref a_t_now, .ref a_t_told, .ref a_t_one, .ref a_t_other, .ref a_t_forth, .ref a_t_cost, .ref a_t_broken, .ref a_t_away, .ref a_t_text, .int t_length, .int t_textSize, .int t_start, .int t_next, .int t_token, .int t_value, .int t_error, .int t_errorAt, .int t_number, .int t_isFirst, .ref a_t_worth, .ref a_t_choice, .ref a_t_thought, .ref a_t_before, .ref a_t_deep, .int t_limitNow, .ref a_t_price, .int t_undos, .ref a_t_undo, .ref a_t_slots, .ref a_t_isSaved])), (a_t_now, .inl (cT 0, 514, .inl t_now)), (a_t_told, .inl (cT 0, 8, .inl t_told)), (a_t_one, .inl (cT 0, 48, .inl t_one)), (a_t_other, .inl (cT 0, 48, .inl t_other)), (a_t_forth, .inl (cT 0, 48, .inl t_forth)), (a_t_cost, .inl (cT 0, 48, .inl t_cost)), (a_t_thought, .inl (cT 0, 10, .inl t_thought)), (a_t_before, .inl (cT 0, 10, .inl t_before)), (a_t_undo, .inl (cT 0, 5140, .inl t_undo))] := by
    intro y1 y2 s0 s1 s2 t_thrown t_undos t_now t_thought t_before t_undo h
    refine xi_iadd C dX11_ring_162 ?_
    replace h := ig h
    obtain ⟨c28, h⟩ := h
    refine xi_iast C 1 rfl c28 dX11_ring_163 (ws2 := [(a_t, .inr (11, [.int t_thrown, .ref a_t_now, .ref a_t_told, .ref a_t_one, .ref a_t_other, .ref a_t_forth, .ref a_t_cost, .ref a_t_broken, .ref a_t_away, .ref a_t_text, .int t_length, .int t_textSize, .int t_start, .int t_next, .int t_token, .int t_value, .int t_error, .int t_errorAt, .int t_number, .int t_isFirst, .ref a_t_worth, .ref a_t_choice, .ref a_t_thought, .ref a_t_before, .ref a_t_deep, .int t_limitNow, .ref a_t_price, .int t_undos, .ref a_t_undo, .ref a_t_slots, .ref a_t_isSaved])), (a_t_now, .inl (cT 0, 514, .inl (upd t_now s2.toNatClampNeg (s1 + s0)))), (a_t_told, .inl (cT 0, 8, .inl t_told)), (a_t_one, .inl (cT 0, 48, .inl t_one)), (a_t_other, .inl (cT 0, 48, .inl t_other)), (a_t_forth, .inl (cT 0, 48, .inl t_forth)), (a_t_cost, .inl (cT 0, 48, .inl t_cost)), (a_t_thought, .inl (cT 0, 10, .inl t_thought)), (a_t_before, .inl (cT 0, 10, .inl t_before)), (a_t_undo, .inl (cT 0, 5140, .inl t_undo))]) rfl ?_
    refine xi_aload_n C 0 dX11_ring_164 rfl ?_
    refine xi_get C zkX11 1 0 zlX11_7 (by decide) rfl rfl dX11_ring_165 ?_
    refine xi_bipush C (v := 14) dX11_ring_168 rfl ?_
    refine xi_aload_n C 0 dX11_ring_170 rfl ?_
    refine xi_get C zkX11 1 0 zlX11_7 (by decide) rfl rfl dX11_ring_171 ?_
    refine xi_iconst C (v := 0) dX11_ring_174 rfl ?_
    refine xi_iald C 1 rfl (zv (by decide)) dX11_ring_175 ?_
    refine xi_iadd C dX11_ring_176 ?_
    refine xi_iload_n C 2 dX11_ring_177 rfl ?_
    replace h := ig h
    obtain ⟨c29, h⟩ := h
    refine xi_iast C 1 rfl c29 dX11_ring_178 (ws2 := [(a_t, .inr (11, [.int t_thrown, .ref a_t_now, .ref a_t_told, .ref a_t_one, .ref a_t_other, .ref a_t_forth, .ref a_t_cost, .ref a_t_broken, .ref a_t_away, .ref a_t_text, .int t_length, .int t_textSize, .int t_start, .int t_next, .int t_token, .int t_value, .int t_error, .int t_errorAt, .int t_number, .int t_isFirst, .ref a_t_worth, .ref a_t_choice, .ref a_t_thought, .ref a_t_before, .ref a_t_deep, .int t_limitNow, .ref a_t_price, .int t_undos, .ref a_t_undo, .ref a_t_slots, .ref a_t_isSaved])), (a_t_now, .inl (cT 0, 514, .inl (upd (upd t_now s2.toNatClampNeg (s1 + s0)) (14 + ((upd t_now s2.toNatClampNeg (s1 + s0)) 0)).toNatClampNeg y2))), (a_t_told, .inl (cT 0, 8, .inl t_told)), (a_t_one, .inl (cT 0, 48, .inl t_one)), (a_t_other, .inl (cT 0, 48, .inl t_other)), (a_t_forth, .inl (cT 0, 48, .inl t_forth)), (a_t_cost, .inl (cT 0, 48, .inl t_cost)), (a_t_thought, .inl (cT 0, 10, .inl t_thought)), (a_t_before, .inl (cT 0, 10, .inl t_before)), (a_t_undo, .inl (cT 0, 5140, .inl t_undo))]) rfl ?_
    refine xi_iload_n C 1 dX11_ring_179 rfl ?_
    obtain rfl := Option.some.inj h
    exact hE _ _ _ dX11_ring_180 rfl
  have B113 : ∀ (y1 : Int32) (y2 : Int32) (t_thrown : Int32) (t_undos : Int32) (t_now : Nat → Int32) (t_thought : Nat → Int32) (t_before : Nat → Int32) (t_undo : Nat → Int32), fX11_ring_b113 y1 y2 t_thrown t_undos t_now t_thought t_before t_undo = some r → sW X l (zR 4) D 4 0 0 113 [(0, .ref a_t), (1, .int y1), (2, .int y2)] [] [(a_t, .inr (11, [.int t_thrown, .ref a_t_now, .ref a_t_told, .ref a_t_one, .ref a_t_other, .ref a_t_forth, .ref a_t_cost, .ref a_t_broken, .ref a_t_away, .ref a_t_text, .int t_length, .int t_textSize, .int t_start, .int t_next, .int t_token, .int t_value, .int t_error, .int t_errorAt, .int t_number, .int t_isFirst, .ref a_t_worth, .ref a_t_choice, .ref a_t_thought, .ref a_t_before, .ref a_t_deep, .int t_limitNow, .ref a_t_price, .int t_undos, .ref a_t_undo, .ref a_t_slots, .ref a_t_isSaved])), (a_t_now, .inl (cT 0, 514, .inl t_now)), (a_t_told, .inl (cT 0, 8, .inl t_told)), (a_t_one, .inl (cT 0, 48, .inl t_one)), (a_t_other, .inl (cT 0, 48, .inl t_other)), (a_t_forth, .inl (cT 0, 48, .inl t_forth)), (a_t_cost, .inl (cT 0, 48, .inl t_cost)), (a_t_thought, .inl (cT 0, 10, .inl t_thought)), (a_t_before, .inl (cT 0, 10, .inl t_before)), (a_t_undo, .inl (cT 0, 5140, .inl t_undo))] := by
    intro y1 y2 t_thrown t_undos t_now t_thought t_before t_undo h
    refine xi_aload_n C 0 dX11_ring_113 rfl ?_
    refine xi_get C zkX11 1 0 zlX11_7 (by decide) rfl rfl dX11_ring_114 ?_
    refine xi_iconst C (v := 1) dX11_ring_117 rfl ?_
    refine xi_dup2 C dX11_ring_118 rfl rfl ?_
    refine xi_iald C 1 rfl (zv (by decide)) dX11_ring_119 ?_
    refine xi_aload_n C 0 dX11_ring_120 rfl ?_
    refine xi_get C zkX11 1 0 zlX11_7 (by decide) rfl rfl dX11_ring_121 ?_
    refine xi_iconst C (v := 2) dX11_ring_124 rfl ?_
    refine xi_iald C 1 rfl (zv (by decide)) dX11_ring_125 ?_
    replace h := ob h
    obtain ⟨u24, hu25, h⟩ := h
    refine xi_callSr C (kX11_many l D cT (t_now 2) u24 hu25) zcX11_many zmX11_192 zsX11_many (zr rfl rfl) z00 rfl [] rfl rfl rfl (Nat.le_of_ble_eq_true rfl) dX11_ring_126 (fun z26 => ?_)
    refine xi_iadd C dX11_ring_129 ?_
    refine xi_iast C 1 rfl (zv (by decide)) dX11_ring_130 (ws2 := [(a_t, .inr (11, [.int t_thrown, .ref a_t_now, .ref a_t_told, .ref a_t_one, .ref a_t_other, .ref a_t_forth, .ref a_t_cost, .ref a_t_broken, .ref a_t_away, .ref a_t_text, .int t_length, .int t_textSize, .int t_start, .int t_next, .int t_token, .int t_value, .int t_error, .int t_errorAt, .int t_number, .int t_isFirst, .ref a_t_worth, .ref a_t_choice, .ref a_t_thought, .ref a_t_before, .ref a_t_deep, .int t_limitNow, .ref a_t_price, .int t_undos, .ref a_t_undo, .ref a_t_slots, .ref a_t_isSaved])), (a_t_now, .inl (cT 0, 514, .inl (upd t_now 1 ((t_now 1) + u24)))), (a_t_told, .inl (cT 0, 8, .inl t_told)), (a_t_one, .inl (cT 0, 48, .inl t_one)), (a_t_other, .inl (cT 0, 48, .inl t_other)), (a_t_forth, .inl (cT 0, 48, .inl t_forth)), (a_t_cost, .inl (cT 0, 48, .inl t_cost)), (a_t_thought, .inl (cT 0, 10, .inl t_thought)), (a_t_before, .inl (cT 0, 10, .inl t_before)), (a_t_undo, .inl (cT 0, 5140, .inl t_undo))]) rfl ?_
    refine xi_aload_n C 0 dX11_ring_131 rfl ?_
    refine xi_get C zkX11 1 0 zlX11_7 (by decide) rfl rfl dX11_ring_132 ?_
    refine xi_iconst C (v := 2) dX11_ring_135 rfl ?_
    refine xi_iconst C (v := 0) dX11_ring_136 rfl ?_
    refine xi_iast C 1 rfl (zv (by decide)) dX11_ring_137 (ws2 := [(a_t, .inr (11, [.int t_thrown, .ref a_t_now, .ref a_t_told, .ref a_t_one, .ref a_t_other, .ref a_t_forth, .ref a_t_cost, .ref a_t_broken, .ref a_t_away, .ref a_t_text, .int t_length, .int t_textSize, .int t_start, .int t_next, .int t_token, .int t_value, .int t_error, .int t_errorAt, .int t_number, .int t_isFirst, .ref a_t_worth, .ref a_t_choice, .ref a_t_thought, .ref a_t_before, .ref a_t_deep, .int t_limitNow, .ref a_t_price, .int t_undos, .ref a_t_undo, .ref a_t_slots, .ref a_t_isSaved])), (a_t_now, .inl (cT 0, 514, .inl (upd (upd t_now 1 ((t_now 1) + u24)) 2 0))), (a_t_told, .inl (cT 0, 8, .inl t_told)), (a_t_one, .inl (cT 0, 48, .inl t_one)), (a_t_other, .inl (cT 0, 48, .inl t_other)), (a_t_forth, .inl (cT 0, 48, .inl t_forth)), (a_t_cost, .inl (cT 0, 48, .inl t_cost)), (a_t_thought, .inl (cT 0, 10, .inl t_thought)), (a_t_before, .inl (cT 0, 10, .inl t_before)), (a_t_undo, .inl (cT 0, 5140, .inl t_undo))]) rfl ?_
    refine xi_aload_n C 0 dX11_ring_138 rfl ?_
    refine xi_get C zkX11 1 0 zlX11_7 (by decide) rfl rfl dX11_ring_139 ?_
    refine xi_iconst C (v := 0) dX11_ring_142 rfl ?_
    refine xi_dup2 C dX11_ring_143 rfl rfl ?_
    refine xi_iald C 1 rfl (zv (by decide)) dX11_ring_144 ?_
    refine xi_aload_n C 0 dX11_ring_145 rfl ?_
    refine xi_get C zkX11 1 0 zlX11_7 (by decide) rfl rfl dX11_ring_146 ?_
    refine xi_iconst C (v := 0) dX11_ring_149 rfl ?_
    refine xi_iald C 1 rfl (zv (by decide)) dX11_ring_150 ?_
    refine xi_sipush C (v := 499) dX11_ring_151 rfl ?_
    refine xi_icmp_ge C (tgt := 161) dX11_ring_154 rfl (fun c27 => ?_) (fun c27 => ?_)
    · replace h := (if_pos c27).symm.trans h
      refine xi_iconst C (v := 0) dX11_ring_161 rfl ?_
      exact B162 y1 y2 0 ((upd (upd t_now 1 ((t_now 1) + u24)) 2 0) 0) 0 t_thrown t_undos (upd (upd t_now 1 ((t_now 1) + u24)) 2 0) t_thought t_before t_undo h
    · replace h := (if_neg c27).symm.trans h
      refine xi_iconst C (v := 1) dX11_ring_157 rfl ?_
      refine xi_goto C (tgt := 162) dX11_ring_158 rfl ?_
      exact B162 y1 y2 1 ((upd (upd t_now 1 ((t_now 1) + u24)) 2 0) 0) 0 t_thrown t_undos (upd (upd t_now 1 ((t_now 1) + u24)) 2 0) t_thought t_before t_undo h
  have B83 : ∀ (n : Nat) (y1 : Int32) (y2 : Int32) (y3 : Int32) (t_thrown : Int32) (t_undos : Int32) (t_now : Nat → Int32) (t_thought : Nat → Int32) (t_before : Nat → Int32) (t_undo : Nat → Int32), fX11_ring_b83 t_told n y1 y2 y3 t_thrown t_undos t_now t_thought t_before t_undo = some r → sW X l (zR 4) D 4 0 0 83 [(0, .ref a_t), (1, .int y1), (2, .int y2), (3, .int y3)] [] [(a_t, .inr (11, [.int t_thrown, .ref a_t_now, .ref a_t_told, .ref a_t_one, .ref a_t_other, .ref a_t_forth, .ref a_t_cost, .ref a_t_broken, .ref a_t_away, .ref a_t_text, .int t_length, .int t_textSize, .int t_start, .int t_next, .int t_token, .int t_value, .int t_error, .int t_errorAt, .int t_number, .int t_isFirst, .ref a_t_worth, .ref a_t_choice, .ref a_t_thought, .ref a_t_before, .ref a_t_deep, .int t_limitNow, .ref a_t_price, .int t_undos, .ref a_t_undo, .ref a_t_slots, .ref a_t_isSaved])), (a_t_now, .inl (cT 0, 514, .inl t_now)), (a_t_told, .inl (cT 0, 8, .inl t_told)), (a_t_one, .inl (cT 0, 48, .inl t_one)), (a_t_other, .inl (cT 0, 48, .inl t_other)), (a_t_forth, .inl (cT 0, 48, .inl t_forth)), (a_t_cost, .inl (cT 0, 48, .inl t_cost)), (a_t_thought, .inl (cT 0, 10, .inl t_thought)), (a_t_before, .inl (cT 0, 10, .inl t_before)), (a_t_undo, .inl (cT 0, 5140, .inl t_undo))] := by
    intro n
    induction n with
    | zero =>
      intro y1 y2 y3 t_thrown t_undos t_now t_thought t_before t_undo h
      exact zno ((fX11_ring_b83_0 _ _ _ _ _ _ _ _ _ _).symm.trans h)
    | succ n ih =>
      intro y1 y2 y3 t_thrown t_undos t_now t_thought t_before t_undo h
      replace h := (fX11_ring_b83_s _ _ _ _ _ _ _ _ _ _ _).symm.trans h
      refine xi_iload_n C 3 dX11_ring_83 rfl ?_
      refine xi_aload_n C 0 dX11_ring_84 rfl ?_
      refine xi_get C zkX11 2 0 zlX11_13 (by decide) rfl rfl dX11_ring_85 ?_
      refine xi_iconst C (v := 0) dX11_ring_88 rfl ?_
      refine xi_iald C 2 rfl (zv (by decide)) dX11_ring_89 ?_
      refine xi_icmp_ge C (tgt := 113) dX11_ring_90 rfl (fun c23 => ?_) (fun c23 => ?_)
      · replace h := (if_pos c23).symm.trans h
        refine xi_drop (L2 := [(0, .ref a_t), (1, .int y1), (2, .int y2)]) [0, 1, 2] rfl ?_
        exact B113 y1 y2 t_thrown t_undos t_now t_thought t_before t_undo h
      · replace h := (if_neg c23).symm.trans h
        refine xi_aload_n C 0 dX11_ring_93 rfl ?_
        refine xi_get C zkX11 1 0 zlX11_7 (by decide) rfl rfl dX11_ring_94 ?_
        refine xi_iconst C (v := 4) dX11_ring_97 rfl ?_
        refine xi_iload_n C 3 dX11_ring_98 rfl ?_
        refine xi_iadd C dX11_ring_99 ?_
        refine xi_aload_n C 0 dX11_ring_100 rfl ?_
        refine xi_get C zkX11 22 0 zlX11_49 (by decide) rfl rfl dX11_ring_101 ?_
        refine xi_iload_n C 3 dX11_ring_104 rfl ?_
        replace h := ig h
        obtain ⟨c30, h⟩ := h
        refine xi_iald C 7 rfl c30 dX11_ring_105 ?_
        replace h := ig h
        obtain ⟨c31, h⟩ := h
        refine xi_iast C 1 rfl c31 dX11_ring_106 (ws2 := [(a_t, .inr (11, [.int t_thrown, .ref a_t_now, .ref a_t_told, .ref a_t_one, .ref a_t_other, .ref a_t_forth, .ref a_t_cost, .ref a_t_broken, .ref a_t_away, .ref a_t_text, .int t_length, .int t_textSize, .int t_start, .int t_next, .int t_token, .int t_value, .int t_error, .int t_errorAt, .int t_number, .int t_isFirst, .ref a_t_worth, .ref a_t_choice, .ref a_t_thought, .ref a_t_before, .ref a_t_deep, .int t_limitNow, .ref a_t_price, .int t_undos, .ref a_t_undo, .ref a_t_slots, .ref a_t_isSaved])), (a_t_now, .inl (cT 0, 514, .inl (upd t_now (4 + y3).toNatClampNeg (t_thought y3.toNatClampNeg)))), (a_t_told, .inl (cT 0, 8, .inl t_told)), (a_t_one, .inl (cT 0, 48, .inl t_one)), (a_t_other, .inl (cT 0, 48, .inl t_other)), (a_t_forth, .inl (cT 0, 48, .inl t_forth)), (a_t_cost, .inl (cT 0, 48, .inl t_cost)), (a_t_thought, .inl (cT 0, 10, .inl t_thought)), (a_t_before, .inl (cT 0, 10, .inl t_before)), (a_t_undo, .inl (cT 0, 5140, .inl t_undo))]) rfl ?_
        refine xi_iinc C (v := y3 + 1) 3 [1, 2, 3, 0] (L2 := [(0, .ref a_t), (1, .int y1), (2, .int y2), (3, .int (y3 + 1))]) dX11_ring_107 rfl rfl (Nat.le_of_ble_eq_true rfl) rfl ?_
        refine xi_goto C (tgt := 83) dX11_ring_110 rfl ?_
        exact ih y1 y2 (y3 + 1) t_thrown t_undos (upd t_now (4 + y3).toNatClampNeg (t_thought y3.toNatClampNeg)) t_thought t_before t_undo h
  have B23 : ∀ (s0 : Int32) (t_thrown : Int32) (t_undos : Int32) (t_now : Nat → Int32) (t_thought : Nat → Int32) (t_before : Nat → Int32) (t_undo : Nat → Int32), fX11_ring_b23 t_told t_one t_other t_forth t_cost s0 t_thrown t_undos t_now t_thought t_before t_undo = some r → sW X l (zR 4) D 4 0 0 23 [(0, .ref a_t)] [.int s0, .ref a_t] [(a_t, .inr (11, [.int t_thrown, .ref a_t_now, .ref a_t_told, .ref a_t_one, .ref a_t_other, .ref a_t_forth, .ref a_t_cost, .ref a_t_broken, .ref a_t_away, .ref a_t_text, .int t_length, .int t_textSize, .int t_start, .int t_next, .int t_token, .int t_value, .int t_error, .int t_errorAt, .int t_number, .int t_isFirst, .ref a_t_worth, .ref a_t_choice, .ref a_t_thought, .ref a_t_before, .ref a_t_deep, .int t_limitNow, .ref a_t_price, .int t_undos, .ref a_t_undo, .ref a_t_slots, .ref a_t_isSaved])), (a_t_now, .inl (cT 0, 514, .inl t_now)), (a_t_told, .inl (cT 0, 8, .inl t_told)), (a_t_one, .inl (cT 0, 48, .inl t_one)), (a_t_other, .inl (cT 0, 48, .inl t_other)), (a_t_forth, .inl (cT 0, 48, .inl t_forth)), (a_t_cost, .inl (cT 0, 48, .inl t_cost)), (a_t_thought, .inl (cT 0, 10, .inl t_thought)), (a_t_before, .inl (cT 0, 10, .inl t_before)), (a_t_undo, .inl (cT 0, 5140, .inl t_undo))] := by
    intro s0 t_thrown t_undos t_now t_thought t_before t_undo h
    refine xi_iconst C (v := 1) dX11_ring_23 rfl ?_
    obtain ⟨u2, hu3⟩ : ∃ z, z = fX11_throwsIf t_thrown s0 1 := ⟨_, rfl⟩
    replace h := nmE hu3 h
    refine xi_callV C (kX11_throwsIf l D cT a_t a_t_now a_t_told a_t_one a_t_other a_t_forth a_t_cost a_t_broken a_t_away a_t_text a_t_worth a_t_choice a_t_thought a_t_before a_t_deep a_t_price a_t_undo a_t_slots a_t_isSaved t_thrown t_length t_textSize t_start t_next t_token t_value t_error t_errorAt t_number t_isFirst t_limitNow t_undos s0 1 u2 hu3.symm) zcX11_throwsIf zmX11_176 ziX11_throwsIf (zr rfl rfl) z00 rfl [0] rfl rfl rfl [some 0, none, none, none, none, none, none, none, none, none] (by decide +kernel) (ws2 := [(a_t, .inr (11, [.int u2.2, .ref a_t_now, .ref a_t_told, .ref a_t_one, .ref a_t_other, .ref a_t_forth, .ref a_t_cost, .ref a_t_broken, .ref a_t_away, .ref a_t_text, .int t_length, .int t_textSize, .int t_start, .int t_next, .int t_token, .int t_value, .int t_error, .int t_errorAt, .int t_number, .int t_isFirst, .ref a_t_worth, .ref a_t_choice, .ref a_t_thought, .ref a_t_before, .ref a_t_deep, .int t_limitNow, .ref a_t_price, .int t_undos, .ref a_t_undo, .ref a_t_slots, .ref a_t_isSaved])), (a_t_now, .inl (cT 0, 514, .inl t_now)), (a_t_told, .inl (cT 0, 8, .inl t_told)), (a_t_one, .inl (cT 0, 48, .inl t_one)), (a_t_other, .inl (cT 0, 48, .inl t_other)), (a_t_forth, .inl (cT 0, 48, .inl t_forth)), (a_t_cost, .inl (cT 0, 48, .inl t_cost)), (a_t_thought, .inl (cT 0, 10, .inl t_thought)), (a_t_before, .inl (cT 0, 10, .inl t_before)), (a_t_undo, .inl (cT 0, 5140, .inl t_undo))]) rfl zkX11.1 (qr := 0) rfl rfl (Nat.le_of_ble_eq_true rfl) dX11_ring_24 (fun z4 => ?_)
    refine xi_if_eq C (tgt := 32) dX11_ring_27 rfl (fun c5 => ?_) (fun c5 => ?_)
    · replace h := (if_pos c5).symm.trans h
      refine xi_aload_n C 0 dX11_ring_32 rfl ?_
      replace h := ob h
      obtain ⟨u6, hu7, h⟩ := h
      refine xi_callV C (kX11_keeps l D cT a_t a_t_now a_t_told a_t_one a_t_other a_t_forth a_t_cost a_t_broken a_t_away a_t_text a_t_worth a_t_choice a_t_thought a_t_before a_t_deep a_t_price a_t_undo a_t_slots a_t_isSaved u2.2 t_length t_textSize t_start t_next t_token t_value t_error t_errorAt t_number t_isFirst t_limitNow t_undos t_now t_undo u6 hu7) zcX11_keeps zmX11_291 ziX11_keeps (zr rfl rfl) z00 rfl [0, 1, 9] rfl rfl rfl [some 0, some 1, none, none, none, none, none, none, none, some 2] (by decide +kernel) (ws2 := [(a_t, .inr (11, [.int u2.2, .ref a_t_now, .ref a_t_told, .ref a_t_one, .ref a_t_other, .ref a_t_forth, .ref a_t_cost, .ref a_t_broken, .ref a_t_away, .ref a_t_text, .int t_length, .int t_textSize, .int t_start, .int t_next, .int t_token, .int t_value, .int t_error, .int t_errorAt, .int t_number, .int t_isFirst, .ref a_t_worth, .ref a_t_choice, .ref a_t_thought, .ref a_t_before, .ref a_t_deep, .int t_limitNow, .ref a_t_price, .int u6.1, .ref a_t_undo, .ref a_t_slots, .ref a_t_isSaved])), (a_t_now, .inl (cT 0, 514, .inl t_now)), (a_t_told, .inl (cT 0, 8, .inl t_told)), (a_t_one, .inl (cT 0, 48, .inl t_one)), (a_t_other, .inl (cT 0, 48, .inl t_other)), (a_t_forth, .inl (cT 0, 48, .inl t_forth)), (a_t_cost, .inl (cT 0, 48, .inl t_cost)), (a_t_thought, .inl (cT 0, 10, .inl t_thought)), (a_t_before, .inl (cT 0, 10, .inl t_before)), (a_t_undo, .inl (cT 0, 5140, .inl u6.2))]) rfl zkX11.1 (qr := 0) rfl rfl (Nat.le_of_ble_eq_true rfl) dX11_ring_33 (fun z8 => ?_)
      refine xi_aload_n C 0 dX11_ring_36 rfl ?_
      replace h := ob h
      obtain ⟨u9, hu10, h⟩ := h
      refine xi_callVr C (kX11_gainNow l D cT a_t a_t_now a_t_told a_t_one a_t_other a_t_forth a_t_cost a_t_broken a_t_away a_t_text a_t_worth a_t_choice a_t_thought a_t_before a_t_deep a_t_price a_t_undo a_t_slots a_t_isSaved u2.2 t_length t_textSize t_start t_next t_token t_value t_error t_errorAt t_number t_isFirst t_limitNow u6.1 t_now t_told t_one t_other t_forth u9 hu10) zcX11_gainNow zmX11_228 ziX11_gainNow (zr rfl rfl) z00 rfl [0, 1, 2, 3, 4, 5] rfl rfl zkX11.1 (qr := 0) rfl rfl (Nat.le_of_ble_eq_true rfl) dX11_ring_37 (fun z11 => ?_)
      refine xi_istore_n C [1, 0] (L2 := [(0, .ref a_t), (1, .int u9)]) dX11_ring_40 (Nat.le_of_ble_eq_true rfl) rfl ?_
      refine xi_aload_n C 0 dX11_ring_41 rfl ?_
      refine xi_get C zkX11 1 0 zlX11_7 (by decide) rfl rfl dX11_ring_42 ?_
      refine xi_bipush C (v := 14) dX11_ring_45 rfl ?_
      refine xi_aload_n C 0 dX11_ring_47 rfl ?_
      refine xi_get C zkX11 1 0 zlX11_7 (by decide) rfl rfl dX11_ring_48 ?_
      refine xi_iconst C (v := 0) dX11_ring_51 rfl ?_
      refine xi_iald C 1 rfl (zv (by decide)) dX11_ring_52 ?_
      refine xi_iadd C dX11_ring_53 ?_
      replace h := ig h
      obtain ⟨c12, h⟩ := h
      refine xi_iald C 1 rfl c12 dX11_ring_54 ?_
      refine xi_aload_n C 0 dX11_ring_55 rfl ?_
      refine xi_aload_n C 0 dX11_ring_56 rfl ?_
      refine xi_get C zkX11 1 0 zlX11_7 (by decide) rfl rfl dX11_ring_57 ?_
      refine xi_iconst C (v := 2) dX11_ring_60 rfl ?_
      refine xi_iald C 1 rfl (zv (by decide)) dX11_ring_61 ?_
      replace h := ob h
      obtain ⟨u13, hu14, h⟩ := h
      refine xi_callVr C (kX11_costOf l D cT a_t a_t_now a_t_told a_t_one a_t_other a_t_forth a_t_cost a_t_broken a_t_away a_t_text a_t_worth a_t_choice a_t_thought a_t_before a_t_deep a_t_price a_t_undo a_t_slots a_t_isSaved u2.2 t_length t_textSize t_start t_next t_token t_value t_error t_errorAt t_number t_isFirst t_limitNow u6.1 t_told t_cost (t_now 2) u13 hu14) zcX11_costOf zmX11_243 ziX11_costOf (zr rfl rfl) z00 rfl [0, 2, 6] rfl rfl zkX11.1 (qr := 0) rfl rfl (Nat.le_of_ble_eq_true rfl) dX11_ring_62 (fun z15 => ?_)
      refine xi_iadd C dX11_ring_65 ?_
      refine xi_topi (fun w16 ew16 => ?_)
      replace h := nmE ew16 h
      refine xi_istore_n C [1, 2, 0] (L2 := [(0, .ref a_t), (1, .int u9), (2, .int w16)]) dX11_ring_66 (Nat.le_of_ble_eq_true rfl) rfl ?_
      refine xi_aload_n C 0 dX11_ring_67 rfl ?_
      replace h := ob h
      obtain ⟨u17, hu18, h⟩ := h
      refine xi_callV C (kX11_thinks l D cT a_t a_t_now a_t_told a_t_one a_t_other a_t_forth a_t_cost a_t_broken a_t_away a_t_text a_t_worth a_t_choice a_t_thought a_t_before a_t_deep a_t_price a_t_undo a_t_slots a_t_isSaved u2.2 t_length t_textSize t_start t_next t_token t_value t_error t_errorAt t_number t_isFirst t_limitNow u6.1 t_now t_told t_thought u17 hu18) zcX11_thinks zmX11_246 ziX11_thinks (zr rfl rfl) z00 rfl [0, 1, 2, 7] rfl rfl rfl [some 0, some 1, some 2, none, none, none, none, some 3, none, none] (by decide +kernel) (ws2 := [(a_t, .inr (11, [.int u2.2, .ref a_t_now, .ref a_t_told, .ref a_t_one, .ref a_t_other, .ref a_t_forth, .ref a_t_cost, .ref a_t_broken, .ref a_t_away, .ref a_t_text, .int t_length, .int t_textSize, .int t_start, .int t_next, .int t_token, .int t_value, .int t_error, .int t_errorAt, .int t_number, .int t_isFirst, .ref a_t_worth, .ref a_t_choice, .ref a_t_thought, .ref a_t_before, .ref a_t_deep, .int t_limitNow, .ref a_t_price, .int u6.1, .ref a_t_undo, .ref a_t_slots, .ref a_t_isSaved])), (a_t_now, .inl (cT 0, 514, .inl t_now)), (a_t_told, .inl (cT 0, 8, .inl t_told)), (a_t_one, .inl (cT 0, 48, .inl t_one)), (a_t_other, .inl (cT 0, 48, .inl t_other)), (a_t_forth, .inl (cT 0, 48, .inl t_forth)), (a_t_cost, .inl (cT 0, 48, .inl t_cost)), (a_t_thought, .inl (cT 0, 10, .inl u17)), (a_t_before, .inl (cT 0, 10, .inl t_before)), (a_t_undo, .inl (cT 0, 5140, .inl u6.2))]) rfl zkX11.1 (qr := 0) rfl rfl (Nat.le_of_ble_eq_true rfl) dX11_ring_68 (fun z19 => ?_)
      refine xi_aload_n C 0 dX11_ring_71 rfl ?_
      refine xi_aload_n C 0 dX11_ring_72 rfl ?_
      refine xi_get C zkX11 1 0 zlX11_7 (by decide) rfl rfl dX11_ring_73 ?_
      refine xi_iconst C (v := 2) dX11_ring_76 rfl ?_
      refine xi_iald C 1 rfl (zv (by decide)) dX11_ring_77 ?_
      replace h := ob h
      obtain ⟨u20, hu21, h⟩ := h
      refine xi_callV C (kX11_calls l D cT a_t a_t_now a_t_told a_t_one a_t_other a_t_forth a_t_cost a_t_broken a_t_away a_t_text a_t_worth a_t_choice a_t_thought a_t_before a_t_deep a_t_price a_t_undo a_t_slots a_t_isSaved u2.2 t_length t_textSize t_start t_next t_token t_value t_error t_errorAt t_number t_isFirst t_limitNow u6.1 t_told t_one t_other t_forth u17 t_before (t_now 2) u20 hu21) zcX11_calls zmX11_249 ziX11_calls (zr rfl rfl) z00 rfl [0, 2, 3, 4, 5, 7, 8] rfl rfl rfl [some 0, none, some 1, some 2, some 3, some 4, none, some 5, some 6, none] (by decide +kernel) (ws2 := [(a_t, .inr (11, [.int u2.2, .ref a_t_now, .ref a_t_told, .ref a_t_one, .ref a_t_other, .ref a_t_forth, .ref a_t_cost, .ref a_t_broken, .ref a_t_away, .ref a_t_text, .int t_length, .int t_textSize, .int t_start, .int t_next, .int t_token, .int t_value, .int t_error, .int t_errorAt, .int t_number, .int t_isFirst, .ref a_t_worth, .ref a_t_choice, .ref a_t_thought, .ref a_t_before, .ref a_t_deep, .int t_limitNow, .ref a_t_price, .int u6.1, .ref a_t_undo, .ref a_t_slots, .ref a_t_isSaved])), (a_t_now, .inl (cT 0, 514, .inl t_now)), (a_t_told, .inl (cT 0, 8, .inl t_told)), (a_t_one, .inl (cT 0, 48, .inl t_one)), (a_t_other, .inl (cT 0, 48, .inl t_other)), (a_t_forth, .inl (cT 0, 48, .inl t_forth)), (a_t_cost, .inl (cT 0, 48, .inl t_cost)), (a_t_thought, .inl (cT 0, 10, .inl u20.1)), (a_t_before, .inl (cT 0, 10, .inl u20.2)), (a_t_undo, .inl (cT 0, 5140, .inl u6.2))]) rfl zkX11.1 (qr := 0) rfl rfl (Nat.le_of_ble_eq_true rfl) dX11_ring_78 (fun z22 => ?_)
      refine xi_iconst C (v := 0) dX11_ring_81 rfl ?_
      refine xi_istore_n C [1, 2, 3, 0] (L2 := [(0, .ref a_t), (1, .int u9), (2, .int w16), (3, .int 0)]) dX11_ring_82 (Nat.le_of_ble_eq_true rfl) rfl ?_
      exact B83 FU u9 w16 0 u2.2 u6.1 t_now u20.1 u20.2 u6.2 h
    · replace h := (if_neg c5).symm.trans h
      refine xi_iconst C (v := 0) dX11_ring_30 rfl ?_
      obtain rfl := Option.some.inj h
      exact hE _ _ _ dX11_ring_31 rfl
  refine xi_drop (L2 := [(0, .ref a_t)]) [0] rfl ?_
  refine xi_aload_n C 0 dX11_ring_0 rfl ?_
  refine xi_iconst C (v := 0) dX11_ring_1 rfl ?_
  refine xi_put C zkX11 0 0 zlX11_80 (by decide) rfl rfl rfl rfl (Nat.le_of_ble_eq_true rfl) dX11_ring_2 (ws2 := [(a_t, .inr (11, [.int 0, .ref a_t_now, .ref a_t_told, .ref a_t_one, .ref a_t_other, .ref a_t_forth, .ref a_t_cost, .ref a_t_broken, .ref a_t_away, .ref a_t_text, .int t_length, .int t_textSize, .int t_start, .int t_next, .int t_token, .int t_value, .int t_error, .int t_errorAt, .int t_number, .int t_isFirst, .ref a_t_worth, .ref a_t_choice, .ref a_t_thought, .ref a_t_before, .ref a_t_deep, .int t_limitNow, .ref a_t_price, .int t_undos, .ref a_t_undo, .ref a_t_slots, .ref a_t_isSaved])), (a_t_now, .inl (cT 0, 514, .inl t_now)), (a_t_told, .inl (cT 0, 8, .inl t_told)), (a_t_one, .inl (cT 0, 48, .inl t_one)), (a_t_other, .inl (cT 0, 48, .inl t_other)), (a_t_forth, .inl (cT 0, 48, .inl t_forth)), (a_t_cost, .inl (cT 0, 48, .inl t_cost)), (a_t_thought, .inl (cT 0, 10, .inl t_thought)), (a_t_before, .inl (cT 0, 10, .inl t_before)), (a_t_undo, .inl (cT 0, 5140, .inl t_undo))]) rfl ?_
  refine xi_aload_n C 0 dX11_ring_5 rfl ?_
  refine xi_aload_n C 0 dX11_ring_6 rfl ?_
  refine xi_get C zkX11 1 0 zlX11_7 (by decide) rfl rfl dX11_ring_7 ?_
  refine xi_iconst C (v := 0) dX11_ring_10 rfl ?_
  refine xi_iald C 1 rfl (zv (by decide)) dX11_ring_11 ?_
  refine xi_sipush C (v := 9999) dX11_ring_12 rfl ?_
  refine xi_icmp_ne C (tgt := 22) dX11_ring_15 rfl (fun c1 => ?_) (fun c1 => ?_)
  · replace h := (if_neg c1).symm.trans h
    refine xi_iconst C (v := 0) dX11_ring_22 rfl ?_
    exact B23 0 0 t_undos t_now t_thought t_before t_undo h
  · replace h := (if_pos c1).symm.trans h
    refine xi_iconst C (v := 1) dX11_ring_18 rfl ?_
    refine xi_goto C (tgt := 23) dX11_ring_19 rfl ?_
    exact B23 1 0 t_undos t_now t_thought t_before t_undo h
def fX11_cut_b61 (x1 : Int32) (y2 : Int32) (s0 : Int32) (s1 : Int32) (s2 : Int32) (t_thrown : Int32) (t_undos : Int32) (t_now : Nat → Int32) (t_undo : Nat → Int32) : Option (Int32 × Int32 × Int32 × (Nat → Int32) × (Nat → Int32)) := gd s2 514 (gb y2 (some (y2, t_thrown, t_undos, upd (upd t_now s2.toNatClampNeg (s1 - s0)) 3 (((upd t_now s2.toNatClampNeg (s1 - s0)) 3) ||| (1 <<< (x1 &&& 31))), t_undo)))
def fX11_cut (t_undos : Int32) (t_now : Nat → Int32) (t_told : Nat → Int32) (t_undo : Nat → Int32) (x1 : Int32) : Option (Int32 × Int32 × Int32 × (Nat → Int32) × (Nat → Int32)) := (fX11_noLine t_told x1).bind (fun u1 => if u1.1 = 0 then nm (fX11_throwsIf u1.2 (fX11_isIn (t_now 3) x1) 2) (fun u8 => if u8.1 = 0 then (fX11_keeps t_undos t_now t_undo).bind (fun u12 => if (fX11_isIn (t_now 2) x1) = 0 then fX11_cut_b61 x1 (fX11_isIn (t_now 2) x1) 0 (t_now 2) 2 u8.2 u12.1 t_now u12.2 else fX11_cut_b61 x1 (fX11_isIn (t_now 2) x1) (1 <<< (x1 &&& 31)) (t_now 2) 2 u8.2 u12.1 t_now u12.2) else some (0, u8.2, t_undos, t_now, t_undo)) else some (0, u1.2, t_undos, t_now, t_undo))
set_option maxRecDepth 100000 in
set_option maxHeartbeats 4000000 in
theorem kX11_cut (l : Launch) (D : va_G) (cT : Nat → ClassId) (a_t : Nat) (a_t_now : Nat) (a_t_told : Nat) (a_t_one : Nat) (a_t_other : Nat) (a_t_forth : Nat) (a_t_cost : Nat) (a_t_broken : Nat) (a_t_away : Nat) (a_t_text : Nat) (a_t_worth : Nat) (a_t_choice : Nat) (a_t_thought : Nat) (a_t_before : Nat) (a_t_deep : Nat) (a_t_price : Nat) (a_t_undo : Nat) (a_t_slots : Nat) (a_t_isSaved : Nat) (t_thrown : Int32) (t_length : Int32) (t_textSize : Int32) (t_start : Int32) (t_next : Int32) (t_token : Int32) (t_value : Int32) (t_error : Int32) (t_errorAt : Int32) (t_number : Int32) (t_isFirst : Int32) (t_limitNow : Int32) (t_undos : Int32) (t_now : Nat → Int32) (t_told : Nat → Int32) (t_undo : Nat → Int32) (x1 : Int32) (r : Int32 × Int32 × Int32 × (Nat → Int32) × (Nat → Int32)) (h : fX11_cut t_undos t_now t_told t_undo x1 = some r) : sM l yX11_cut cX11_cut 3 (some .boolean) (zR 4) D cT [.ref a_t, .int x1] [(a_t, .inr (11, [.int t_thrown, .ref a_t_now, .ref a_t_told, .ref a_t_one, .ref a_t_other, .ref a_t_forth, .ref a_t_cost, .ref a_t_broken, .ref a_t_away, .ref a_t_text, .int t_length, .int t_textSize, .int t_start, .int t_next, .int t_token, .int t_value, .int t_error, .int t_errorAt, .int t_number, .int t_isFirst, .ref a_t_worth, .ref a_t_choice, .ref a_t_thought, .ref a_t_before, .ref a_t_deep, .int t_limitNow, .ref a_t_price, .int t_undos, .ref a_t_undo, .ref a_t_slots, .ref a_t_isSaved])), (a_t_now, .inl (cT 0, 514, .inl t_now)), (a_t_told, .inl (cT 0, 8, .inl t_told)), (a_t_undo, .inl (cT 0, 5140, .inl t_undo))] (some (.int r.1)) [(a_t, .inr (11, [.int r.2.1, .ref a_t_now, .ref a_t_told, .ref a_t_one, .ref a_t_other, .ref a_t_forth, .ref a_t_cost, .ref a_t_broken, .ref a_t_away, .ref a_t_text, .int t_length, .int t_textSize, .int t_start, .int t_next, .int t_token, .int t_value, .int t_error, .int t_errorAt, .int t_number, .int t_isFirst, .ref a_t_worth, .ref a_t_choice, .ref a_t_thought, .ref a_t_before, .ref a_t_deep, .int t_limitNow, .ref a_t_price, .int r.2.2.1, .ref a_t_undo, .ref a_t_slots, .ref a_t_isSaved])), (a_t_now, .inl (cT 0, 514, .inl r.2.2.2.1)), (a_t_told, .inl (cT 0, 8, .inl t_told)), (a_t_undo, .inl (cT 0, 5140, .inl r.2.2.2.2))] := by
  refine sM_bool rfl (Nat.le_of_ble_eq_true rfl) ?_
  intro X C hE
  have B61 : ∀ (y2 : Int32) (s0 : Int32) (s1 : Int32) (s2 : Int32) (t_thrown : Int32) (t_undos : Int32) (t_now : Nat → Int32) (t_undo : Nat → Int32), fX11_cut_b61 x1 y2 s0 s1 s2 t_thrown t_undos t_now t_undo = some r → sW X l (zR 4) D 3 0 0 61 [(0, .ref a_t), (1, .int x1), (2, .int y2)] [.int s0, .int s1, .int s2, .ref a_t_now] [(a_t, .inr (11, [.int t_thrown, .ref a_t_now, .ref a_t_told, .ref a_t_one, .ref a_t_other, .ref a_t_forth, .ref a_t_cost, .ref a_t_broken, .ref a_t_away, .ref a_t_text, .int t_length, .int t_textSize, .int t_start, .int t_next, .int t_token, .int t_value, .int t_error, .int t_errorAt, .int t_number, .int t_isFirst, .ref a_t_worth, .ref a_t_choice, .ref a_t_thought, .ref a_t_before, .ref a_t_deep, .int t_limitNow, .ref a_t_price, .int t_undos, .ref a_t_undo, .ref a_t_slots, .ref a_t_isSaved])), (a_t_now, .inl (cT 0, 514, .inl t_now)), (a_t_told, .inl (cT 0, 8, .inl t_told)), (a_t_undo, .inl (cT 0, 5140, .inl t_undo))] := by
    intro y2 s0 s1 s2 t_thrown t_undos t_now t_undo h
    refine xi_isub C dX11_cut_61 ?_
    replace h := ig h
    obtain ⟨c19, h⟩ := h
    refine xi_iast C 1 rfl c19 dX11_cut_62 (ws2 := [(a_t, .inr (11, [.int t_thrown, .ref a_t_now, .ref a_t_told, .ref a_t_one, .ref a_t_other, .ref a_t_forth, .ref a_t_cost, .ref a_t_broken, .ref a_t_away, .ref a_t_text, .int t_length, .int t_textSize, .int t_start, .int t_next, .int t_token, .int t_value, .int t_error, .int t_errorAt, .int t_number, .int t_isFirst, .ref a_t_worth, .ref a_t_choice, .ref a_t_thought, .ref a_t_before, .ref a_t_deep, .int t_limitNow, .ref a_t_price, .int t_undos, .ref a_t_undo, .ref a_t_slots, .ref a_t_isSaved])), (a_t_now, .inl (cT 0, 514, .inl (upd t_now s2.toNatClampNeg (s1 - s0)))), (a_t_told, .inl (cT 0, 8, .inl t_told)), (a_t_undo, .inl (cT 0, 5140, .inl t_undo))]) rfl ?_
    refine xi_aload_n C 0 dX11_cut_63 rfl ?_
    refine xi_get C zkX11 1 0 zlX11_7 (by decide) rfl rfl dX11_cut_64 ?_
    refine xi_iconst C (v := 3) dX11_cut_67 rfl ?_
    refine xi_dup2 C dX11_cut_68 rfl rfl ?_
    refine xi_iald C 1 rfl (zv (by decide)) dX11_cut_69 ?_
    refine xi_iconst C (v := 1) dX11_cut_70 rfl ?_
    refine xi_iload_n C 1 dX11_cut_71 rfl ?_
    refine xi_ishl C dX11_cut_72 ?_
    refine xi_ior C dX11_cut_73 ?_
    refine xi_iast C 1 rfl (zv (by decide)) dX11_cut_74 (ws2 := [(a_t, .inr (11, [.int t_thrown, .ref a_t_now, .ref a_t_told, .ref a_t_one, .ref a_t_other, .ref a_t_forth, .ref a_t_cost, .ref a_t_broken, .ref a_t_away, .ref a_t_text, .int t_length, .int t_textSize, .int t_start, .int t_next, .int t_token, .int t_value, .int t_error, .int t_errorAt, .int t_number, .int t_isFirst, .ref a_t_worth, .ref a_t_choice, .ref a_t_thought, .ref a_t_before, .ref a_t_deep, .int t_limitNow, .ref a_t_price, .int t_undos, .ref a_t_undo, .ref a_t_slots, .ref a_t_isSaved])), (a_t_now, .inl (cT 0, 514, .inl (upd (upd t_now s2.toNatClampNeg (s1 - s0)) 3 (((upd t_now s2.toNatClampNeg (s1 - s0)) 3) ||| (1 <<< (x1 &&& 31)))))), (a_t_told, .inl (cT 0, 8, .inl t_told)), (a_t_undo, .inl (cT 0, 5140, .inl t_undo))]) rfl ?_
    refine xi_iload_n C 2 dX11_cut_75 rfl ?_
    replace h := ib h
    obtain ⟨g20, h⟩ := h
    obtain rfl := Option.some.inj h
    exact hE _ _ _ dX11_cut_76 rfl g20
  refine xi_drop (L2 := [(0, .ref a_t), (1, .int x1)]) [0, 1] rfl ?_
  refine xi_aload_n C 0 dX11_cut_0 rfl ?_
  refine xi_iload_n C 1 dX11_cut_1 rfl ?_
  replace h := ob h
  obtain ⟨u1, hu2, h⟩ := h
  refine xi_callV C (kX11_noLine l D cT a_t a_t_now a_t_told a_t_one a_t_other a_t_forth a_t_cost a_t_broken a_t_away a_t_text a_t_worth a_t_choice a_t_thought a_t_before a_t_deep a_t_price a_t_undo a_t_slots a_t_isSaved t_thrown t_length t_textSize t_start t_next t_token t_value t_error t_errorAt t_number t_isFirst t_limitNow t_undos t_told x1 u1 hu2) zcX11_noLine zmX11_195 ziX11_noLine (zr rfl rfl) z00 rfl [0, 2] rfl rfl rfl [some 0, none, some 1, none] (by decide +kernel) (ws2 := [(a_t, .inr (11, [.int u1.2, .ref a_t_now, .ref a_t_told, .ref a_t_one, .ref a_t_other, .ref a_t_forth, .ref a_t_cost, .ref a_t_broken, .ref a_t_away, .ref a_t_text, .int t_length, .int t_textSize, .int t_start, .int t_next, .int t_token, .int t_value, .int t_error, .int t_errorAt, .int t_number, .int t_isFirst, .ref a_t_worth, .ref a_t_choice, .ref a_t_thought, .ref a_t_before, .ref a_t_deep, .int t_limitNow, .ref a_t_price, .int t_undos, .ref a_t_undo, .ref a_t_slots, .ref a_t_isSaved])), (a_t_now, .inl (cT 0, 514, .inl t_now)), (a_t_told, .inl (cT 0, 8, .inl t_told)), (a_t_undo, .inl (cT 0, 5140, .inl t_undo))]) rfl zkX11.1 (qr := 0) rfl rfl (Nat.le_of_ble_eq_true rfl) dX11_cut_2 (fun z3 => ?_)
  refine xi_if_ne C (tgt := 26) dX11_cut_5 rfl (fun c4 => ?_) (fun c4 => ?_)
  · replace h := (if_neg c4).symm.trans h
    refine xi_iconst C (v := 0) dX11_cut_26 rfl ?_
    obtain rfl := Option.some.inj h
    exact hE _ _ _ dX11_cut_27 rfl rfl
  · replace h := (if_pos c4).symm.trans h
    refine xi_aload_n C 0 dX11_cut_8 rfl ?_
    refine xi_aload_n C 0 dX11_cut_9 rfl ?_
    refine xi_get C zkX11 1 0 zlX11_7 (by decide) rfl rfl dX11_cut_10 ?_
    refine xi_iconst C (v := 3) dX11_cut_13 rfl ?_
    refine xi_iald C 1 rfl (zv (by decide)) dX11_cut_14 ?_
    refine xi_iload_n C 1 dX11_cut_15 rfl ?_
    refine xi_callSr C (kX11_isIn l D cT (t_now 3) x1 (fX11_isIn (t_now 3) x1) rfl) zcX11_isIn zmX11_201 zsX11_isIn (zr rfl rfl) z00 rfl [] rfl rfl rfl (Nat.le_of_ble_eq_true rfl) dX11_cut_16 (fun z7 => ?_)
    refine xi_iconst C (v := 2) dX11_cut_19 rfl ?_
    obtain ⟨u8, hu9⟩ : ∃ z, z = fX11_throwsIf u1.2 (fX11_isIn (t_now 3) x1) 2 := ⟨_, rfl⟩
    replace h := nmE hu9 h
    refine xi_callV C (kX11_throwsIf l D cT a_t a_t_now a_t_told a_t_one a_t_other a_t_forth a_t_cost a_t_broken a_t_away a_t_text a_t_worth a_t_choice a_t_thought a_t_before a_t_deep a_t_price a_t_undo a_t_slots a_t_isSaved u1.2 t_length t_textSize t_start t_next t_token t_value t_error t_errorAt t_number t_isFirst t_limitNow t_undos (fX11_isIn (t_now 3) x1) 2 u8 hu9.symm) zcX11_throwsIf zmX11_176 ziX11_throwsIf (zr rfl rfl) z00 rfl [0] rfl rfl rfl [some 0, none, none, none] (by decide +kernel) (ws2 := [(a_t, .inr (11, [.int u8.2, .ref a_t_now, .ref a_t_told, .ref a_t_one, .ref a_t_other, .ref a_t_forth, .ref a_t_cost, .ref a_t_broken, .ref a_t_away, .ref a_t_text, .int t_length, .int t_textSize, .int t_start, .int t_next, .int t_token, .int t_value, .int t_error, .int t_errorAt, .int t_number, .int t_isFirst, .ref a_t_worth, .ref a_t_choice, .ref a_t_thought, .ref a_t_before, .ref a_t_deep, .int t_limitNow, .ref a_t_price, .int t_undos, .ref a_t_undo, .ref a_t_slots, .ref a_t_isSaved])), (a_t_now, .inl (cT 0, 514, .inl t_now)), (a_t_told, .inl (cT 0, 8, .inl t_told)), (a_t_undo, .inl (cT 0, 5140, .inl t_undo))]) rfl zkX11.1 (qr := 0) rfl rfl (Nat.le_of_ble_eq_true rfl) dX11_cut_20 (fun z10 => ?_)
    refine xi_if_eq C (tgt := 28) dX11_cut_23 rfl (fun c11 => ?_) (fun c11 => ?_)
    · replace h := (if_pos c11).symm.trans h
      refine xi_aload_n C 0 dX11_cut_28 rfl ?_
      replace h := ob h
      obtain ⟨u12, hu13, h⟩ := h
      refine xi_callV C (kX11_keeps l D cT a_t a_t_now a_t_told a_t_one a_t_other a_t_forth a_t_cost a_t_broken a_t_away a_t_text a_t_worth a_t_choice a_t_thought a_t_before a_t_deep a_t_price a_t_undo a_t_slots a_t_isSaved u8.2 t_length t_textSize t_start t_next t_token t_value t_error t_errorAt t_number t_isFirst t_limitNow t_undos t_now t_undo u12 hu13) zcX11_keeps zmX11_291 ziX11_keeps (zr rfl rfl) z00 rfl [0, 1, 3] rfl rfl rfl [some 0, some 1, none, some 2] (by decide +kernel) (ws2 := [(a_t, .inr (11, [.int u8.2, .ref a_t_now, .ref a_t_told, .ref a_t_one, .ref a_t_other, .ref a_t_forth, .ref a_t_cost, .ref a_t_broken, .ref a_t_away, .ref a_t_text, .int t_length, .int t_textSize, .int t_start, .int t_next, .int t_token, .int t_value, .int t_error, .int t_errorAt, .int t_number, .int t_isFirst, .ref a_t_worth, .ref a_t_choice, .ref a_t_thought, .ref a_t_before, .ref a_t_deep, .int t_limitNow, .ref a_t_price, .int u12.1, .ref a_t_undo, .ref a_t_slots, .ref a_t_isSaved])), (a_t_now, .inl (cT 0, 514, .inl t_now)), (a_t_told, .inl (cT 0, 8, .inl t_told)), (a_t_undo, .inl (cT 0, 5140, .inl u12.2))]) rfl zkX11.1 (qr := 0) rfl rfl (Nat.le_of_ble_eq_true rfl) dX11_cut_29 (fun z14 => ?_)
      refine xi_aload_n C 0 dX11_cut_32 rfl ?_
      refine xi_get C zkX11 1 0 zlX11_7 (by decide) rfl rfl dX11_cut_33 ?_
      refine xi_iconst C (v := 2) dX11_cut_36 rfl ?_
      refine xi_iald C 1 rfl (zv (by decide)) dX11_cut_37 ?_
      refine xi_iload_n C 1 dX11_cut_38 rfl ?_
      refine xi_callSr C (kX11_isIn l D cT (t_now 2) x1 (fX11_isIn (t_now 2) x1) rfl) zcX11_isIn zmX11_201 zsX11_isIn (zr rfl rfl) z00 rfl [] rfl rfl rfl (Nat.le_of_ble_eq_true rfl) dX11_cut_39 (fun z17 => ?_)
      refine xi_istore_n C [1, 2, 0] (L2 := [(0, .ref a_t), (1, .int x1), (2, .int (fX11_isIn (t_now 2) x1))]) dX11_cut_42 (Nat.le_of_ble_eq_true rfl) rfl ?_
      refine xi_aload_n C 0 dX11_cut_43 rfl ?_
      refine xi_get C zkX11 1 0 zlX11_7 (by decide) rfl rfl dX11_cut_44 ?_
      refine xi_iconst C (v := 2) dX11_cut_47 rfl ?_
      refine xi_dup2 C dX11_cut_48 rfl rfl ?_
      refine xi_iald C 1 rfl (zv (by decide)) dX11_cut_49 ?_
      refine xi_iload_n C 2 dX11_cut_50 rfl ?_
      refine xi_if_eq C (tgt := 60) dX11_cut_51 rfl (fun c18 => ?_) (fun c18 => ?_)
      · replace h := (if_pos c18).symm.trans h
        refine xi_iconst C (v := 0) dX11_cut_60 rfl ?_
        exact B61 (fX11_isIn (t_now 2) x1) 0 (t_now 2) 2 u8.2 u12.1 t_now u12.2 h
      · replace h := (if_neg c18).symm.trans h
        refine xi_iconst C (v := 1) dX11_cut_54 rfl ?_
        refine xi_iload_n C 1 dX11_cut_55 rfl ?_
        refine xi_ishl C dX11_cut_56 ?_
        refine xi_goto C (tgt := 61) dX11_cut_57 rfl ?_
        exact B61 (fX11_isIn (t_now 2) x1) (1 <<< (x1 &&& 31)) (t_now 2) 2 u8.2 u12.1 t_now u12.2 h
    · replace h := (if_neg c11).symm.trans h
      refine xi_iconst C (v := 0) dX11_cut_26 rfl ?_
      obtain rfl := Option.some.inj h
      exact hE _ _ _ dX11_cut_27 rfl rfl
def fX11_mend_b27 (x1 : Int32) (s0 : Int32) (t_thrown : Int32) (t_undos : Int32) (t_now : Nat → Int32) (t_undo : Nat → Int32) : Option (Int32 × Int32 × Int32 × (Nat → Int32) × (Nat → Int32)) := nm (fX11_throwsIf t_thrown s0 2) (fun u9 => if u9.1 = 0 then (fX11_keeps t_undos t_now t_undo).bind (fun u13 => (fX11_many ((upd t_now 3 ((t_now 3) - (1 <<< (x1 &&& 31)))) 3)).bind (fun u16 => some (u16, u9.2, u13.1, upd t_now 3 ((t_now 3) - (1 <<< (x1 &&& 31))), u13.2))) else some (0, u9.2, t_undos, t_now, t_undo))
def fX11_mend (t_undos : Int32) (t_now : Nat → Int32) (t_told : Nat → Int32) (t_undo : Nat → Int32) (x1 : Int32) : Option (Int32 × Int32 × Int32 × (Nat → Int32) × (Nat → Int32)) := (fX11_noLine t_told x1).bind (fun u1 => if u1.1 = 0 then if (fX11_isIn (t_now 3) x1) = 0 then fX11_mend_b27 x1 1 u1.2 t_undos t_now t_undo else fX11_mend_b27 x1 0 u1.2 t_undos t_now t_undo else some (0, u1.2, t_undos, t_now, t_undo))
set_option maxRecDepth 100000 in
set_option maxHeartbeats 4000000 in
theorem kX11_mend (l : Launch) (D : va_G) (cT : Nat → ClassId) (a_t : Nat) (a_t_now : Nat) (a_t_told : Nat) (a_t_one : Nat) (a_t_other : Nat) (a_t_forth : Nat) (a_t_cost : Nat) (a_t_broken : Nat) (a_t_away : Nat) (a_t_text : Nat) (a_t_worth : Nat) (a_t_choice : Nat) (a_t_thought : Nat) (a_t_before : Nat) (a_t_deep : Nat) (a_t_price : Nat) (a_t_undo : Nat) (a_t_slots : Nat) (a_t_isSaved : Nat) (t_thrown : Int32) (t_length : Int32) (t_textSize : Int32) (t_start : Int32) (t_next : Int32) (t_token : Int32) (t_value : Int32) (t_error : Int32) (t_errorAt : Int32) (t_number : Int32) (t_isFirst : Int32) (t_limitNow : Int32) (t_undos : Int32) (t_now : Nat → Int32) (t_told : Nat → Int32) (t_undo : Nat → Int32) (x1 : Int32) (r : Int32 × Int32 × Int32 × (Nat → Int32) × (Nat → Int32)) (h : fX11_mend t_undos t_now t_told t_undo x1 = some r) : sM l yX11_mend cX11_mend 2 (some .int) (zR 4) D cT [.ref a_t, .int x1] [(a_t, .inr (11, [.int t_thrown, .ref a_t_now, .ref a_t_told, .ref a_t_one, .ref a_t_other, .ref a_t_forth, .ref a_t_cost, .ref a_t_broken, .ref a_t_away, .ref a_t_text, .int t_length, .int t_textSize, .int t_start, .int t_next, .int t_token, .int t_value, .int t_error, .int t_errorAt, .int t_number, .int t_isFirst, .ref a_t_worth, .ref a_t_choice, .ref a_t_thought, .ref a_t_before, .ref a_t_deep, .int t_limitNow, .ref a_t_price, .int t_undos, .ref a_t_undo, .ref a_t_slots, .ref a_t_isSaved])), (a_t_now, .inl (cT 0, 514, .inl t_now)), (a_t_told, .inl (cT 0, 8, .inl t_told)), (a_t_undo, .inl (cT 0, 5140, .inl t_undo))] (some (.int r.1)) [(a_t, .inr (11, [.int r.2.1, .ref a_t_now, .ref a_t_told, .ref a_t_one, .ref a_t_other, .ref a_t_forth, .ref a_t_cost, .ref a_t_broken, .ref a_t_away, .ref a_t_text, .int t_length, .int t_textSize, .int t_start, .int t_next, .int t_token, .int t_value, .int t_error, .int t_errorAt, .int t_number, .int t_isFirst, .ref a_t_worth, .ref a_t_choice, .ref a_t_thought, .ref a_t_before, .ref a_t_deep, .int t_limitNow, .ref a_t_price, .int r.2.2.1, .ref a_t_undo, .ref a_t_slots, .ref a_t_isSaved])), (a_t_now, .inl (cT 0, 514, .inl r.2.2.2.1)), (a_t_told, .inl (cT 0, 8, .inl t_told)), (a_t_undo, .inl (cT 0, 5140, .inl r.2.2.2.2))] := by
  refine sM_int rfl (Nat.le_of_ble_eq_true rfl) ?_
  intro X C hE
  have B27 : ∀ (s0 : Int32) (t_thrown : Int32) (t_undos : Int32) (t_now : Nat → Int32) (t_undo : Nat → Int32), fX11_mend_b27 x1 s0 t_thrown t_undos t_now t_undo = some r → sW X l (zR 4) D 2 0 0 27 [(0, .ref a_t), (1, .int x1)] [.int s0, .ref a_t] [(a_t, .inr (11, [.int t_thrown, .ref a_t_now, .ref a_t_told, .ref a_t_one, .ref a_t_other, .ref a_t_forth, .ref a_t_cost, .ref a_t_broken, .ref a_t_away, .ref a_t_text, .int t_length, .int t_textSize, .int t_start, .int t_next, .int t_token, .int t_value, .int t_error, .int t_errorAt, .int t_number, .int t_isFirst, .ref a_t_worth, .ref a_t_choice, .ref a_t_thought, .ref a_t_before, .ref a_t_deep, .int t_limitNow, .ref a_t_price, .int t_undos, .ref a_t_undo, .ref a_t_slots, .ref a_t_isSaved])), (a_t_now, .inl (cT 0, 514, .inl t_now)), (a_t_told, .inl (cT 0, 8, .inl t_told)), (a_t_undo, .inl (cT 0, 5140, .inl t_undo))] := by
    intro s0 t_thrown t_undos t_now t_undo h
    refine xi_iconst C (v := 2) dX11_mend_27 rfl ?_
    obtain ⟨u9, hu10⟩ : ∃ z, z = fX11_throwsIf t_thrown s0 2 := ⟨_, rfl⟩
    replace h := nmE hu10 h
    refine xi_callV C (kX11_throwsIf l D cT a_t a_t_now a_t_told a_t_one a_t_other a_t_forth a_t_cost a_t_broken a_t_away a_t_text a_t_worth a_t_choice a_t_thought a_t_before a_t_deep a_t_price a_t_undo a_t_slots a_t_isSaved t_thrown t_length t_textSize t_start t_next t_token t_value t_error t_errorAt t_number t_isFirst t_limitNow t_undos s0 2 u9 hu10.symm) zcX11_throwsIf zmX11_176 ziX11_throwsIf (zr rfl rfl) z00 rfl [0] rfl rfl rfl [some 0, none, none, none] (by decide +kernel) (ws2 := [(a_t, .inr (11, [.int u9.2, .ref a_t_now, .ref a_t_told, .ref a_t_one, .ref a_t_other, .ref a_t_forth, .ref a_t_cost, .ref a_t_broken, .ref a_t_away, .ref a_t_text, .int t_length, .int t_textSize, .int t_start, .int t_next, .int t_token, .int t_value, .int t_error, .int t_errorAt, .int t_number, .int t_isFirst, .ref a_t_worth, .ref a_t_choice, .ref a_t_thought, .ref a_t_before, .ref a_t_deep, .int t_limitNow, .ref a_t_price, .int t_undos, .ref a_t_undo, .ref a_t_slots, .ref a_t_isSaved])), (a_t_now, .inl (cT 0, 514, .inl t_now)), (a_t_told, .inl (cT 0, 8, .inl t_told)), (a_t_undo, .inl (cT 0, 5140, .inl t_undo))]) rfl zkX11.1 (qr := 0) rfl rfl (Nat.le_of_ble_eq_true rfl) dX11_mend_28 (fun z11 => ?_)
    refine xi_if_eq C (tgt := 36) dX11_mend_31 rfl (fun c12 => ?_) (fun c12 => ?_)
    · replace h := (if_pos c12).symm.trans h
      refine xi_aload_n C 0 dX11_mend_36 rfl ?_
      replace h := ob h
      obtain ⟨u13, hu14, h⟩ := h
      refine xi_callV C (kX11_keeps l D cT a_t a_t_now a_t_told a_t_one a_t_other a_t_forth a_t_cost a_t_broken a_t_away a_t_text a_t_worth a_t_choice a_t_thought a_t_before a_t_deep a_t_price a_t_undo a_t_slots a_t_isSaved u9.2 t_length t_textSize t_start t_next t_token t_value t_error t_errorAt t_number t_isFirst t_limitNow t_undos t_now t_undo u13 hu14) zcX11_keeps zmX11_291 ziX11_keeps (zr rfl rfl) z00 rfl [0, 1, 3] rfl rfl rfl [some 0, some 1, none, some 2] (by decide +kernel) (ws2 := [(a_t, .inr (11, [.int u9.2, .ref a_t_now, .ref a_t_told, .ref a_t_one, .ref a_t_other, .ref a_t_forth, .ref a_t_cost, .ref a_t_broken, .ref a_t_away, .ref a_t_text, .int t_length, .int t_textSize, .int t_start, .int t_next, .int t_token, .int t_value, .int t_error, .int t_errorAt, .int t_number, .int t_isFirst, .ref a_t_worth, .ref a_t_choice, .ref a_t_thought, .ref a_t_before, .ref a_t_deep, .int t_limitNow, .ref a_t_price, .int u13.1, .ref a_t_undo, .ref a_t_slots, .ref a_t_isSaved])), (a_t_now, .inl (cT 0, 514, .inl t_now)), (a_t_told, .inl (cT 0, 8, .inl t_told)), (a_t_undo, .inl (cT 0, 5140, .inl u13.2))]) rfl zkX11.1 (qr := 0) rfl rfl (Nat.le_of_ble_eq_true rfl) dX11_mend_37 (fun z15 => ?_)
      refine xi_aload_n C 0 dX11_mend_40 rfl ?_
      refine xi_get C zkX11 1 0 zlX11_7 (by decide) rfl rfl dX11_mend_41 ?_
      refine xi_iconst C (v := 3) dX11_mend_44 rfl ?_
      refine xi_dup2 C dX11_mend_45 rfl rfl ?_
      refine xi_iald C 1 rfl (zv (by decide)) dX11_mend_46 ?_
      refine xi_iconst C (v := 1) dX11_mend_47 rfl ?_
      refine xi_iload_n C 1 dX11_mend_48 rfl ?_
      refine xi_ishl C dX11_mend_49 ?_
      refine xi_isub C dX11_mend_50 ?_
      refine xi_iast C 1 rfl (zv (by decide)) dX11_mend_51 (ws2 := [(a_t, .inr (11, [.int u9.2, .ref a_t_now, .ref a_t_told, .ref a_t_one, .ref a_t_other, .ref a_t_forth, .ref a_t_cost, .ref a_t_broken, .ref a_t_away, .ref a_t_text, .int t_length, .int t_textSize, .int t_start, .int t_next, .int t_token, .int t_value, .int t_error, .int t_errorAt, .int t_number, .int t_isFirst, .ref a_t_worth, .ref a_t_choice, .ref a_t_thought, .ref a_t_before, .ref a_t_deep, .int t_limitNow, .ref a_t_price, .int u13.1, .ref a_t_undo, .ref a_t_slots, .ref a_t_isSaved])), (a_t_now, .inl (cT 0, 514, .inl (upd t_now 3 ((t_now 3) - (1 <<< (x1 &&& 31)))))), (a_t_told, .inl (cT 0, 8, .inl t_told)), (a_t_undo, .inl (cT 0, 5140, .inl u13.2))]) rfl ?_
      refine xi_aload_n C 0 dX11_mend_52 rfl ?_
      refine xi_get C zkX11 1 0 zlX11_7 (by decide) rfl rfl dX11_mend_53 ?_
      refine xi_iconst C (v := 3) dX11_mend_56 rfl ?_
      refine xi_iald C 1 rfl (zv (by decide)) dX11_mend_57 ?_
      replace h := ob h
      obtain ⟨u16, hu17, h⟩ := h
      refine xi_callSr C (kX11_many l D cT ((upd t_now 3 ((t_now 3) - (1 <<< (x1 &&& 31)))) 3) u16 hu17) zcX11_many zmX11_192 zsX11_many (zr rfl rfl) z00 rfl [] rfl rfl rfl (Nat.le_of_ble_eq_true rfl) dX11_mend_58 (fun z18 => ?_)
      obtain rfl := Option.some.inj h
      exact hE _ _ _ dX11_mend_61 rfl
    · replace h := (if_neg c12).symm.trans h
      refine xi_iconst C (v := 0) dX11_mend_34 rfl ?_
      obtain rfl := Option.some.inj h
      exact hE _ _ _ dX11_mend_35 rfl
  refine xi_drop (L2 := [(0, .ref a_t), (1, .int x1)]) [0, 1] rfl ?_
  refine xi_aload_n C 0 dX11_mend_0 rfl ?_
  refine xi_iload_n C 1 dX11_mend_1 rfl ?_
  replace h := ob h
  obtain ⟨u1, hu2, h⟩ := h
  refine xi_callV C (kX11_noLine l D cT a_t a_t_now a_t_told a_t_one a_t_other a_t_forth a_t_cost a_t_broken a_t_away a_t_text a_t_worth a_t_choice a_t_thought a_t_before a_t_deep a_t_price a_t_undo a_t_slots a_t_isSaved t_thrown t_length t_textSize t_start t_next t_token t_value t_error t_errorAt t_number t_isFirst t_limitNow t_undos t_told x1 u1 hu2) zcX11_noLine zmX11_195 ziX11_noLine (zr rfl rfl) z00 rfl [0, 2] rfl rfl rfl [some 0, none, some 1, none] (by decide +kernel) (ws2 := [(a_t, .inr (11, [.int u1.2, .ref a_t_now, .ref a_t_told, .ref a_t_one, .ref a_t_other, .ref a_t_forth, .ref a_t_cost, .ref a_t_broken, .ref a_t_away, .ref a_t_text, .int t_length, .int t_textSize, .int t_start, .int t_next, .int t_token, .int t_value, .int t_error, .int t_errorAt, .int t_number, .int t_isFirst, .ref a_t_worth, .ref a_t_choice, .ref a_t_thought, .ref a_t_before, .ref a_t_deep, .int t_limitNow, .ref a_t_price, .int t_undos, .ref a_t_undo, .ref a_t_slots, .ref a_t_isSaved])), (a_t_now, .inl (cT 0, 514, .inl t_now)), (a_t_told, .inl (cT 0, 8, .inl t_told)), (a_t_undo, .inl (cT 0, 5140, .inl t_undo))]) rfl zkX11.1 (qr := 0) rfl rfl (Nat.le_of_ble_eq_true rfl) dX11_mend_2 (fun z3 => ?_)
  refine xi_if_ne C (tgt := 34) dX11_mend_5 rfl (fun c4 => ?_) (fun c4 => ?_)
  · replace h := (if_neg c4).symm.trans h
    refine xi_iconst C (v := 0) dX11_mend_34 rfl ?_
    obtain rfl := Option.some.inj h
    exact hE _ _ _ dX11_mend_35 rfl
  · replace h := (if_pos c4).symm.trans h
    refine xi_aload_n C 0 dX11_mend_8 rfl ?_
    refine xi_aload_n C 0 dX11_mend_9 rfl ?_
    refine xi_get C zkX11 1 0 zlX11_7 (by decide) rfl rfl dX11_mend_10 ?_
    refine xi_iconst C (v := 3) dX11_mend_13 rfl ?_
    refine xi_iald C 1 rfl (zv (by decide)) dX11_mend_14 ?_
    refine xi_iload_n C 1 dX11_mend_15 rfl ?_
    refine xi_callSr C (kX11_isIn l D cT (t_now 3) x1 (fX11_isIn (t_now 3) x1) rfl) zcX11_isIn zmX11_201 zsX11_isIn (zr rfl rfl) z00 rfl [] rfl rfl rfl (Nat.le_of_ble_eq_true rfl) dX11_mend_16 (fun z7 => ?_)
    refine xi_if_ne C (tgt := 26) dX11_mend_19 rfl (fun c8 => ?_) (fun c8 => ?_)
    · replace h := (if_neg c8).symm.trans h
      refine xi_iconst C (v := 0) dX11_mend_26 rfl ?_
      exact B27 0 u1.2 t_undos t_now t_undo h
    · replace h := (if_pos c8).symm.trans h
      refine xi_iconst C (v := 1) dX11_mend_22 rfl ?_
      refine xi_goto C (tgt := 27) dX11_mend_23 rfl ?_
      exact B27 1 u1.2 t_undos t_now t_undo h
def fX11_tell (t_undos : Int32) (t_now : Nat → Int32) (t_told : Nat → Int32) (t_undo : Nat → Int32) (x1 : Int32) (x2 : Int32) : Option (Int32 × Int32 × Int32 × (Nat → Int32) × (Nat → Int32)) := (fX11_noPerson t_told x1).bind (fun u1 => if u1.1 = 0 then (fX11_noPerson t_told x2).bind (fun u5 => if u5.1 = 0 then gd (4 + x1) 514 (nm (fX11_throwsIf u5.2 (fX11_isIn (t_now (4 + x1).toNatClampNeg) x2) 2) (fun u13 => if u13.1 = 0 then (fX11_keeps t_undos t_now t_undo).bind (fun u17 => (fX11_many ((upd t_now (4 + x1).toNatClampNeg ((t_now (4 + x1).toNatClampNeg) ||| (1 <<< (x2 &&& 31)))) (4 + x1).toNatClampNeg)).bind (fun u20 => some (u20, u13.2, u17.1, upd t_now (4 + x1).toNatClampNeg ((t_now (4 + x1).toNatClampNeg) ||| (1 <<< (x2 &&& 31))), u17.2))) else some (0, u13.2, t_undos, t_now, t_undo))) else some (0, u5.2, t_undos, t_now, t_undo)) else some (0, u1.2, t_undos, t_now, t_undo))
set_option maxRecDepth 100000 in
set_option maxHeartbeats 4000000 in
theorem kX11_tell (l : Launch) (D : va_G) (cT : Nat → ClassId) (a_t : Nat) (a_t_now : Nat) (a_t_told : Nat) (a_t_one : Nat) (a_t_other : Nat) (a_t_forth : Nat) (a_t_cost : Nat) (a_t_broken : Nat) (a_t_away : Nat) (a_t_text : Nat) (a_t_worth : Nat) (a_t_choice : Nat) (a_t_thought : Nat) (a_t_before : Nat) (a_t_deep : Nat) (a_t_price : Nat) (a_t_undo : Nat) (a_t_slots : Nat) (a_t_isSaved : Nat) (t_thrown : Int32) (t_length : Int32) (t_textSize : Int32) (t_start : Int32) (t_next : Int32) (t_token : Int32) (t_value : Int32) (t_error : Int32) (t_errorAt : Int32) (t_number : Int32) (t_isFirst : Int32) (t_limitNow : Int32) (t_undos : Int32) (t_now : Nat → Int32) (t_told : Nat → Int32) (t_undo : Nat → Int32) (x1 : Int32) (x2 : Int32) (r : Int32 × Int32 × Int32 × (Nat → Int32) × (Nat → Int32)) (h : fX11_tell t_undos t_now t_told t_undo x1 x2 = some r) : sM l yX11_tell cX11_tell 3 (some .int) (zR 4) D cT [.ref a_t, .int x1, .int x2] [(a_t, .inr (11, [.int t_thrown, .ref a_t_now, .ref a_t_told, .ref a_t_one, .ref a_t_other, .ref a_t_forth, .ref a_t_cost, .ref a_t_broken, .ref a_t_away, .ref a_t_text, .int t_length, .int t_textSize, .int t_start, .int t_next, .int t_token, .int t_value, .int t_error, .int t_errorAt, .int t_number, .int t_isFirst, .ref a_t_worth, .ref a_t_choice, .ref a_t_thought, .ref a_t_before, .ref a_t_deep, .int t_limitNow, .ref a_t_price, .int t_undos, .ref a_t_undo, .ref a_t_slots, .ref a_t_isSaved])), (a_t_now, .inl (cT 0, 514, .inl t_now)), (a_t_told, .inl (cT 0, 8, .inl t_told)), (a_t_undo, .inl (cT 0, 5140, .inl t_undo))] (some (.int r.1)) [(a_t, .inr (11, [.int r.2.1, .ref a_t_now, .ref a_t_told, .ref a_t_one, .ref a_t_other, .ref a_t_forth, .ref a_t_cost, .ref a_t_broken, .ref a_t_away, .ref a_t_text, .int t_length, .int t_textSize, .int t_start, .int t_next, .int t_token, .int t_value, .int t_error, .int t_errorAt, .int t_number, .int t_isFirst, .ref a_t_worth, .ref a_t_choice, .ref a_t_thought, .ref a_t_before, .ref a_t_deep, .int t_limitNow, .ref a_t_price, .int r.2.2.1, .ref a_t_undo, .ref a_t_slots, .ref a_t_isSaved])), (a_t_now, .inl (cT 0, 514, .inl r.2.2.2.1)), (a_t_told, .inl (cT 0, 8, .inl t_told)), (a_t_undo, .inl (cT 0, 5140, .inl r.2.2.2.2))] := by
  refine sM_int rfl (Nat.le_of_ble_eq_true rfl) ?_
  intro X C hE
  refine xi_drop (L2 := [(0, .ref a_t), (1, .int x1), (2, .int x2)]) [0, 1, 2] rfl ?_
  refine xi_aload_n C 0 dX11_tell_0 rfl ?_
  refine xi_iload_n C 1 dX11_tell_1 rfl ?_
  replace h := ob h
  obtain ⟨u1, hu2, h⟩ := h
  refine xi_callV C (kX11_noPerson l D cT a_t a_t_now a_t_told a_t_one a_t_other a_t_forth a_t_cost a_t_broken a_t_away a_t_text a_t_worth a_t_choice a_t_thought a_t_before a_t_deep a_t_price a_t_undo a_t_slots a_t_isSaved t_thrown t_length t_textSize t_start t_next t_token t_value t_error t_errorAt t_number t_isFirst t_limitNow t_undos t_told x1 u1 hu2) zcX11_noPerson zmX11_210 ziX11_noPerson (zr rfl rfl) z00 rfl [0, 2] rfl rfl rfl [some 0, none, some 1, none] (by decide +kernel) (ws2 := [(a_t, .inr (11, [.int u1.2, .ref a_t_now, .ref a_t_told, .ref a_t_one, .ref a_t_other, .ref a_t_forth, .ref a_t_cost, .ref a_t_broken, .ref a_t_away, .ref a_t_text, .int t_length, .int t_textSize, .int t_start, .int t_next, .int t_token, .int t_value, .int t_error, .int t_errorAt, .int t_number, .int t_isFirst, .ref a_t_worth, .ref a_t_choice, .ref a_t_thought, .ref a_t_before, .ref a_t_deep, .int t_limitNow, .ref a_t_price, .int t_undos, .ref a_t_undo, .ref a_t_slots, .ref a_t_isSaved])), (a_t_now, .inl (cT 0, 514, .inl t_now)), (a_t_told, .inl (cT 0, 8, .inl t_told)), (a_t_undo, .inl (cT 0, 5140, .inl t_undo))]) rfl zkX11.1 (qr := 0) rfl rfl (Nat.le_of_ble_eq_true rfl) dX11_tell_2 (fun z3 => ?_)
  refine xi_if_ne C (tgt := 16) dX11_tell_5 rfl (fun c4 => ?_) (fun c4 => ?_)
  · replace h := (if_neg c4).symm.trans h
    refine xi_iconst C (v := 0) dX11_tell_16 rfl ?_
    obtain rfl := Option.some.inj h
    exact hE _ _ _ dX11_tell_17 rfl
  · replace h := (if_pos c4).symm.trans h
    refine xi_aload_n C 0 dX11_tell_8 rfl ?_
    refine xi_iload_n C 2 dX11_tell_9 rfl ?_
    replace h := ob h
    obtain ⟨u5, hu6, h⟩ := h
    refine xi_callV C (kX11_noPerson l D cT a_t a_t_now a_t_told a_t_one a_t_other a_t_forth a_t_cost a_t_broken a_t_away a_t_text a_t_worth a_t_choice a_t_thought a_t_before a_t_deep a_t_price a_t_undo a_t_slots a_t_isSaved u1.2 t_length t_textSize t_start t_next t_token t_value t_error t_errorAt t_number t_isFirst t_limitNow t_undos t_told x2 u5 hu6) zcX11_noPerson zmX11_210 ziX11_noPerson (zr rfl rfl) z00 rfl [0, 2] rfl rfl rfl [some 0, none, some 1, none] (by decide +kernel) (ws2 := [(a_t, .inr (11, [.int u5.2, .ref a_t_now, .ref a_t_told, .ref a_t_one, .ref a_t_other, .ref a_t_forth, .ref a_t_cost, .ref a_t_broken, .ref a_t_away, .ref a_t_text, .int t_length, .int t_textSize, .int t_start, .int t_next, .int t_token, .int t_value, .int t_error, .int t_errorAt, .int t_number, .int t_isFirst, .ref a_t_worth, .ref a_t_choice, .ref a_t_thought, .ref a_t_before, .ref a_t_deep, .int t_limitNow, .ref a_t_price, .int t_undos, .ref a_t_undo, .ref a_t_slots, .ref a_t_isSaved])), (a_t_now, .inl (cT 0, 514, .inl t_now)), (a_t_told, .inl (cT 0, 8, .inl t_told)), (a_t_undo, .inl (cT 0, 5140, .inl t_undo))]) rfl zkX11.1 (qr := 0) rfl rfl (Nat.le_of_ble_eq_true rfl) dX11_tell_10 (fun z7 => ?_)
    refine xi_if_eq C (tgt := 18) dX11_tell_13 rfl (fun c8 => ?_) (fun c8 => ?_)
    · replace h := (if_pos c8).symm.trans h
      refine xi_aload_n C 0 dX11_tell_18 rfl ?_
      refine xi_aload_n C 0 dX11_tell_19 rfl ?_
      refine xi_get C zkX11 1 0 zlX11_7 (by decide) rfl rfl dX11_tell_20 ?_
      refine xi_iconst C (v := 4) dX11_tell_23 rfl ?_
      refine xi_iload_n C 1 dX11_tell_24 rfl ?_
      refine xi_iadd C dX11_tell_25 ?_
      replace h := ig h
      obtain ⟨c9, h⟩ := h
      refine xi_iald C 1 rfl c9 dX11_tell_26 ?_
      refine xi_iload_n C 2 dX11_tell_27 rfl ?_
      refine xi_callSr C (kX11_isIn l D cT (t_now (4 + x1).toNatClampNeg) x2 (fX11_isIn (t_now (4 + x1).toNatClampNeg) x2) rfl) zcX11_isIn zmX11_201 zsX11_isIn (zr rfl rfl) z00 rfl [] rfl rfl rfl (Nat.le_of_ble_eq_true rfl) dX11_tell_28 (fun z12 => ?_)
      refine xi_iconst C (v := 2) dX11_tell_31 rfl ?_
      obtain ⟨u13, hu14⟩ : ∃ z, z = fX11_throwsIf u5.2 (fX11_isIn (t_now (4 + x1).toNatClampNeg) x2) 2 := ⟨_, rfl⟩
      replace h := nmE hu14 h
      refine xi_callV C (kX11_throwsIf l D cT a_t a_t_now a_t_told a_t_one a_t_other a_t_forth a_t_cost a_t_broken a_t_away a_t_text a_t_worth a_t_choice a_t_thought a_t_before a_t_deep a_t_price a_t_undo a_t_slots a_t_isSaved u5.2 t_length t_textSize t_start t_next t_token t_value t_error t_errorAt t_number t_isFirst t_limitNow t_undos (fX11_isIn (t_now (4 + x1).toNatClampNeg) x2) 2 u13 hu14.symm) zcX11_throwsIf zmX11_176 ziX11_throwsIf (zr rfl rfl) z00 rfl [0] rfl rfl rfl [some 0, none, none, none] (by decide +kernel) (ws2 := [(a_t, .inr (11, [.int u13.2, .ref a_t_now, .ref a_t_told, .ref a_t_one, .ref a_t_other, .ref a_t_forth, .ref a_t_cost, .ref a_t_broken, .ref a_t_away, .ref a_t_text, .int t_length, .int t_textSize, .int t_start, .int t_next, .int t_token, .int t_value, .int t_error, .int t_errorAt, .int t_number, .int t_isFirst, .ref a_t_worth, .ref a_t_choice, .ref a_t_thought, .ref a_t_before, .ref a_t_deep, .int t_limitNow, .ref a_t_price, .int t_undos, .ref a_t_undo, .ref a_t_slots, .ref a_t_isSaved])), (a_t_now, .inl (cT 0, 514, .inl t_now)), (a_t_told, .inl (cT 0, 8, .inl t_told)), (a_t_undo, .inl (cT 0, 5140, .inl t_undo))]) rfl zkX11.1 (qr := 0) rfl rfl (Nat.le_of_ble_eq_true rfl) dX11_tell_32 (fun z15 => ?_)
      refine xi_if_eq C (tgt := 40) dX11_tell_35 rfl (fun c16 => ?_) (fun c16 => ?_)
      · replace h := (if_pos c16).symm.trans h
        refine xi_aload_n C 0 dX11_tell_40 rfl ?_
        replace h := ob h
        obtain ⟨u17, hu18, h⟩ := h
        refine xi_callV C (kX11_keeps l D cT a_t a_t_now a_t_told a_t_one a_t_other a_t_forth a_t_cost a_t_broken a_t_away a_t_text a_t_worth a_t_choice a_t_thought a_t_before a_t_deep a_t_price a_t_undo a_t_slots a_t_isSaved u13.2 t_length t_textSize t_start t_next t_token t_value t_error t_errorAt t_number t_isFirst t_limitNow t_undos t_now t_undo u17 hu18) zcX11_keeps zmX11_291 ziX11_keeps (zr rfl rfl) z00 rfl [0, 1, 3] rfl rfl rfl [some 0, some 1, none, some 2] (by decide +kernel) (ws2 := [(a_t, .inr (11, [.int u13.2, .ref a_t_now, .ref a_t_told, .ref a_t_one, .ref a_t_other, .ref a_t_forth, .ref a_t_cost, .ref a_t_broken, .ref a_t_away, .ref a_t_text, .int t_length, .int t_textSize, .int t_start, .int t_next, .int t_token, .int t_value, .int t_error, .int t_errorAt, .int t_number, .int t_isFirst, .ref a_t_worth, .ref a_t_choice, .ref a_t_thought, .ref a_t_before, .ref a_t_deep, .int t_limitNow, .ref a_t_price, .int u17.1, .ref a_t_undo, .ref a_t_slots, .ref a_t_isSaved])), (a_t_now, .inl (cT 0, 514, .inl t_now)), (a_t_told, .inl (cT 0, 8, .inl t_told)), (a_t_undo, .inl (cT 0, 5140, .inl u17.2))]) rfl zkX11.1 (qr := 0) rfl rfl (Nat.le_of_ble_eq_true rfl) dX11_tell_41 (fun z19 => ?_)
        refine xi_aload_n C 0 dX11_tell_44 rfl ?_
        refine xi_get C zkX11 1 0 zlX11_7 (by decide) rfl rfl dX11_tell_45 ?_
        refine xi_iconst C (v := 4) dX11_tell_48 rfl ?_
        refine xi_iload_n C 1 dX11_tell_49 rfl ?_
        refine xi_iadd C dX11_tell_50 ?_
        refine xi_dup2 C dX11_tell_51 rfl rfl ?_
        refine xi_iald C 1 rfl c9 dX11_tell_52 ?_
        refine xi_iconst C (v := 1) dX11_tell_53 rfl ?_
        refine xi_iload_n C 2 dX11_tell_54 rfl ?_
        refine xi_ishl C dX11_tell_55 ?_
        refine xi_ior C dX11_tell_56 ?_
        refine xi_iast C 1 rfl c9 dX11_tell_57 (ws2 := [(a_t, .inr (11, [.int u13.2, .ref a_t_now, .ref a_t_told, .ref a_t_one, .ref a_t_other, .ref a_t_forth, .ref a_t_cost, .ref a_t_broken, .ref a_t_away, .ref a_t_text, .int t_length, .int t_textSize, .int t_start, .int t_next, .int t_token, .int t_value, .int t_error, .int t_errorAt, .int t_number, .int t_isFirst, .ref a_t_worth, .ref a_t_choice, .ref a_t_thought, .ref a_t_before, .ref a_t_deep, .int t_limitNow, .ref a_t_price, .int u17.1, .ref a_t_undo, .ref a_t_slots, .ref a_t_isSaved])), (a_t_now, .inl (cT 0, 514, .inl (upd t_now (4 + x1).toNatClampNeg ((t_now (4 + x1).toNatClampNeg) ||| (1 <<< (x2 &&& 31)))))), (a_t_told, .inl (cT 0, 8, .inl t_told)), (a_t_undo, .inl (cT 0, 5140, .inl u17.2))]) rfl ?_
        refine xi_aload_n C 0 dX11_tell_58 rfl ?_
        refine xi_get C zkX11 1 0 zlX11_7 (by decide) rfl rfl dX11_tell_59 ?_
        refine xi_iconst C (v := 4) dX11_tell_62 rfl ?_
        refine xi_iload_n C 1 dX11_tell_63 rfl ?_
        refine xi_iadd C dX11_tell_64 ?_
        refine xi_iald C 1 rfl c9 dX11_tell_65 ?_
        replace h := ob h
        obtain ⟨u20, hu21, h⟩ := h
        refine xi_callSr C (kX11_many l D cT ((upd t_now (4 + x1).toNatClampNeg ((t_now (4 + x1).toNatClampNeg) ||| (1 <<< (x2 &&& 31)))) (4 + x1).toNatClampNeg) u20 hu21) zcX11_many zmX11_192 zsX11_many (zr rfl rfl) z00 rfl [] rfl rfl rfl (Nat.le_of_ble_eq_true rfl) dX11_tell_66 (fun z22 => ?_)
        obtain rfl := Option.some.inj h
        exact hE _ _ _ dX11_tell_69 rfl
      · replace h := (if_neg c16).symm.trans h
        refine xi_iconst C (v := 0) dX11_tell_38 rfl ?_
        obtain rfl := Option.some.inj h
        exact hE _ _ _ dX11_tell_39 rfl
    · replace h := (if_neg c8).symm.trans h
      refine xi_iconst C (v := 0) dX11_tell_16 rfl ?_
      obtain rfl := Option.some.inj h
      exact hE _ _ _ dX11_tell_17 rfl
def fX11_undo (t_undos : Int32) (t_now : Nat → Int32) (t_undo : Nat → Int32) : Option (Int32 × Int32 × Int32 × (Nat → Int32)) := if t_undos = 0 then some ((-1), 0, t_undos, t_now) else (fX11_copies 514 5140 t_now t_undo (514 * (t_undos - 1)) 0 514).bind (fun u2 => some (t_undos - 1, 0, t_undos - 1, u2))
set_option maxRecDepth 100000 in
set_option maxHeartbeats 4000000 in
theorem kX11_undo (l : Launch) (D : va_G) (cT : Nat → ClassId) (a_t : Nat) (a_t_now : Nat) (a_t_told : Nat) (a_t_one : Nat) (a_t_other : Nat) (a_t_forth : Nat) (a_t_cost : Nat) (a_t_broken : Nat) (a_t_away : Nat) (a_t_text : Nat) (a_t_worth : Nat) (a_t_choice : Nat) (a_t_thought : Nat) (a_t_before : Nat) (a_t_deep : Nat) (a_t_price : Nat) (a_t_undo : Nat) (a_t_slots : Nat) (a_t_isSaved : Nat) (t_thrown : Int32) (t_length : Int32) (t_textSize : Int32) (t_start : Int32) (t_next : Int32) (t_token : Int32) (t_value : Int32) (t_error : Int32) (t_errorAt : Int32) (t_number : Int32) (t_isFirst : Int32) (t_limitNow : Int32) (t_undos : Int32) (t_now : Nat → Int32) (t_undo : Nat → Int32) (r : Int32 × Int32 × Int32 × (Nat → Int32)) (h : fX11_undo t_undos t_now t_undo = some r) : sM l yX11_undo cX11_undo 1 (some .int) (zR 2) D cT [.ref a_t] [(a_t, .inr (11, [.int t_thrown, .ref a_t_now, .ref a_t_told, .ref a_t_one, .ref a_t_other, .ref a_t_forth, .ref a_t_cost, .ref a_t_broken, .ref a_t_away, .ref a_t_text, .int t_length, .int t_textSize, .int t_start, .int t_next, .int t_token, .int t_value, .int t_error, .int t_errorAt, .int t_number, .int t_isFirst, .ref a_t_worth, .ref a_t_choice, .ref a_t_thought, .ref a_t_before, .ref a_t_deep, .int t_limitNow, .ref a_t_price, .int t_undos, .ref a_t_undo, .ref a_t_slots, .ref a_t_isSaved])), (a_t_now, .inl (cT 0, 514, .inl t_now)), (a_t_undo, .inl (cT 0, 5140, .inl t_undo))] (some (.int r.1)) [(a_t, .inr (11, [.int r.2.1, .ref a_t_now, .ref a_t_told, .ref a_t_one, .ref a_t_other, .ref a_t_forth, .ref a_t_cost, .ref a_t_broken, .ref a_t_away, .ref a_t_text, .int t_length, .int t_textSize, .int t_start, .int t_next, .int t_token, .int t_value, .int t_error, .int t_errorAt, .int t_number, .int t_isFirst, .ref a_t_worth, .ref a_t_choice, .ref a_t_thought, .ref a_t_before, .ref a_t_deep, .int t_limitNow, .ref a_t_price, .int r.2.2.1, .ref a_t_undo, .ref a_t_slots, .ref a_t_isSaved])), (a_t_now, .inl (cT 0, 514, .inl r.2.2.2)), (a_t_undo, .inl (cT 0, 5140, .inl t_undo))] := by
  refine sM_int rfl (Nat.le_of_ble_eq_true rfl) ?_
  intro X C hE
  refine xi_drop (L2 := [(0, .ref a_t)]) [0] rfl ?_
  refine xi_aload_n C 0 dX11_undo_0 rfl ?_
  refine xi_iconst C (v := 0) dX11_undo_1 rfl ?_
  refine xi_put C zkX11 0 0 zlX11_80 (by decide) rfl rfl rfl rfl (Nat.le_of_ble_eq_true rfl) dX11_undo_2 (ws2 := [(a_t, .inr (11, [.int 0, .ref a_t_now, .ref a_t_told, .ref a_t_one, .ref a_t_other, .ref a_t_forth, .ref a_t_cost, .ref a_t_broken, .ref a_t_away, .ref a_t_text, .int t_length, .int t_textSize, .int t_start, .int t_next, .int t_token, .int t_value, .int t_error, .int t_errorAt, .int t_number, .int t_isFirst, .ref a_t_worth, .ref a_t_choice, .ref a_t_thought, .ref a_t_before, .ref a_t_deep, .int t_limitNow, .ref a_t_price, .int t_undos, .ref a_t_undo, .ref a_t_slots, .ref a_t_isSaved])), (a_t_now, .inl (cT 0, 514, .inl t_now)), (a_t_undo, .inl (cT 0, 5140, .inl t_undo))]) rfl ?_
  refine xi_aload_n C 0 dX11_undo_5 rfl ?_
  refine xi_get C zkX11 27 0 zlX11_186 (by decide) rfl rfl dX11_undo_6 ?_
  refine xi_if_ne C (tgt := 14) dX11_undo_9 rfl (fun c1 => ?_) (fun c1 => ?_)
  · replace h := (if_neg c1).symm.trans h
    refine xi_aload_n C 0 dX11_undo_14 rfl ?_
    refine xi_dup C dX11_undo_15 rfl ?_
    refine xi_get C zkX11 27 0 zlX11_186 (by decide) rfl rfl dX11_undo_16 ?_
    refine xi_iconst C (v := 1) dX11_undo_19 rfl ?_
    refine xi_isub C dX11_undo_20 ?_
    refine xi_put C zkX11 27 0 zlX11_186 (by decide) rfl rfl rfl rfl (Nat.le_of_ble_eq_true rfl) dX11_undo_21 (ws2 := [(a_t, .inr (11, [.int 0, .ref a_t_now, .ref a_t_told, .ref a_t_one, .ref a_t_other, .ref a_t_forth, .ref a_t_cost, .ref a_t_broken, .ref a_t_away, .ref a_t_text, .int t_length, .int t_textSize, .int t_start, .int t_next, .int t_token, .int t_value, .int t_error, .int t_errorAt, .int t_number, .int t_isFirst, .ref a_t_worth, .ref a_t_choice, .ref a_t_thought, .ref a_t_before, .ref a_t_deep, .int t_limitNow, .ref a_t_price, .int (t_undos - 1), .ref a_t_undo, .ref a_t_slots, .ref a_t_isSaved])), (a_t_now, .inl (cT 0, 514, .inl t_now)), (a_t_undo, .inl (cT 0, 5140, .inl t_undo))]) rfl ?_
    refine xi_aload_n C 0 dX11_undo_24 rfl ?_
    refine xi_get C zkX11 28 0 zlX11_61 (by decide) rfl rfl dX11_undo_25 ?_
    refine xi_sipush C (v := 514) dX11_undo_28 rfl ?_
    refine xi_aload_n C 0 dX11_undo_31 rfl ?_
    refine xi_get C zkX11 27 0 zlX11_186 (by decide) rfl rfl dX11_undo_32 ?_
    refine xi_imul C dX11_undo_35 ?_
    refine xi_aload_n C 0 dX11_undo_36 rfl ?_
    refine xi_get C zkX11 1 0 zlX11_7 (by decide) rfl rfl dX11_undo_37 ?_
    refine xi_iconst C (v := 0) dX11_undo_40 rfl ?_
    refine xi_sipush C (v := 514) dX11_undo_41 rfl ?_
    replace h := ob h
    obtain ⟨u2, hu3, h⟩ := h
    refine xi_callS C (kX11_copies l D cT a_t_now a_t_undo 514 5140 t_now t_undo (514 * (t_undos - 1)) 0 514 u2 hu3) zcX11_copies zmX11_294 zsX11_copies (zr rfl rfl) z00 rfl [1, 2] rfl rfl rfl [none, some 0, some 1] (by decide +kernel) (ws2 := [(a_t, .inr (11, [.int 0, .ref a_t_now, .ref a_t_told, .ref a_t_one, .ref a_t_other, .ref a_t_forth, .ref a_t_cost, .ref a_t_broken, .ref a_t_away, .ref a_t_text, .int t_length, .int t_textSize, .int t_start, .int t_next, .int t_token, .int t_value, .int t_error, .int t_errorAt, .int t_number, .int t_isFirst, .ref a_t_worth, .ref a_t_choice, .ref a_t_thought, .ref a_t_before, .ref a_t_deep, .int t_limitNow, .ref a_t_price, .int (t_undos - 1), .ref a_t_undo, .ref a_t_slots, .ref a_t_isSaved])), (a_t_now, .inl (cT 0, 514, .inl u2)), (a_t_undo, .inl (cT 0, 5140, .inl t_undo))]) rfl rfl (Nat.le_of_ble_eq_true rfl) dX11_undo_44 (fun z4 => ?_)
    refine xi_aload_n C 0 dX11_undo_47 rfl ?_
    refine xi_get C zkX11 27 0 zlX11_186 (by decide) rfl rfl dX11_undo_48 ?_
    obtain rfl := Option.some.inj h
    exact hE _ _ _ dX11_undo_51 rfl
  · replace h := (if_pos c1).symm.trans h
    refine xi_iconst C (v := (-1)) dX11_undo_12 rfl ?_
    obtain rfl := Option.some.inj h
    exact hE _ _ _ dX11_undo_13 rfl
def fX11_noSlot (x1 : Int32) : Int32 × Int32 := nm (fX11_no 0 x1 2) (fun u1 => (u1.1, u1.2))
set_option maxRecDepth 100000 in
set_option maxHeartbeats 4000000 in
theorem kX11_noSlot (l : Launch) (D : va_G) (cT : Nat → ClassId) (a_t : Nat) (a_t_now : Nat) (a_t_told : Nat) (a_t_one : Nat) (a_t_other : Nat) (a_t_forth : Nat) (a_t_cost : Nat) (a_t_broken : Nat) (a_t_away : Nat) (a_t_text : Nat) (a_t_worth : Nat) (a_t_choice : Nat) (a_t_thought : Nat) (a_t_before : Nat) (a_t_deep : Nat) (a_t_price : Nat) (a_t_undo : Nat) (a_t_slots : Nat) (a_t_isSaved : Nat) (t_thrown : Int32) (t_length : Int32) (t_textSize : Int32) (t_start : Int32) (t_next : Int32) (t_token : Int32) (t_value : Int32) (t_error : Int32) (t_errorAt : Int32) (t_number : Int32) (t_isFirst : Int32) (t_limitNow : Int32) (t_undos : Int32) (x1 : Int32) (r : Int32 × Int32) (h : fX11_noSlot x1 = r) : sM l yX11_noSlot cX11_noSlot 2 (some .boolean) (zR 3) D cT [.ref a_t, .int x1] [(a_t, .inr (11, [.int t_thrown, .ref a_t_now, .ref a_t_told, .ref a_t_one, .ref a_t_other, .ref a_t_forth, .ref a_t_cost, .ref a_t_broken, .ref a_t_away, .ref a_t_text, .int t_length, .int t_textSize, .int t_start, .int t_next, .int t_token, .int t_value, .int t_error, .int t_errorAt, .int t_number, .int t_isFirst, .ref a_t_worth, .ref a_t_choice, .ref a_t_thought, .ref a_t_before, .ref a_t_deep, .int t_limitNow, .ref a_t_price, .int t_undos, .ref a_t_undo, .ref a_t_slots, .ref a_t_isSaved]))] (some (.int r.1)) [(a_t, .inr (11, [.int r.2, .ref a_t_now, .ref a_t_told, .ref a_t_one, .ref a_t_other, .ref a_t_forth, .ref a_t_cost, .ref a_t_broken, .ref a_t_away, .ref a_t_text, .int t_length, .int t_textSize, .int t_start, .int t_next, .int t_token, .int t_value, .int t_error, .int t_errorAt, .int t_number, .int t_isFirst, .ref a_t_worth, .ref a_t_choice, .ref a_t_thought, .ref a_t_before, .ref a_t_deep, .int t_limitNow, .ref a_t_price, .int t_undos, .ref a_t_undo, .ref a_t_slots, .ref a_t_isSaved]))] := by
  refine sM_bool rfl (Nat.le_of_ble_eq_true rfl) ?_
  intro X C hE
  refine xi_drop (L2 := [(0, .ref a_t), (1, .int x1)]) [0, 1] rfl ?_
  refine xi_aload_n C 0 dX11_noSlot_0 rfl ?_
  refine xi_iconst C (v := 0) dX11_noSlot_1 rfl ?_
  refine xi_put C zkX11 0 0 zlX11_80 (by decide) rfl rfl rfl rfl (Nat.le_of_ble_eq_true rfl) dX11_noSlot_2 (ws2 := [(a_t, .inr (11, [.int 0, .ref a_t_now, .ref a_t_told, .ref a_t_one, .ref a_t_other, .ref a_t_forth, .ref a_t_cost, .ref a_t_broken, .ref a_t_away, .ref a_t_text, .int t_length, .int t_textSize, .int t_start, .int t_next, .int t_token, .int t_value, .int t_error, .int t_errorAt, .int t_number, .int t_isFirst, .ref a_t_worth, .ref a_t_choice, .ref a_t_thought, .ref a_t_before, .ref a_t_deep, .int t_limitNow, .ref a_t_price, .int t_undos, .ref a_t_undo, .ref a_t_slots, .ref a_t_isSaved]))]) rfl ?_
  refine xi_aload_n C 0 dX11_noSlot_5 rfl ?_
  refine xi_iload_n C 1 dX11_noSlot_6 rfl ?_
  refine xi_iconst C (v := 2) dX11_noSlot_7 rfl ?_
  obtain ⟨u1, hu2⟩ : ∃ z, z = fX11_no 0 x1 2 := ⟨_, rfl⟩
  replace h := nmE hu2 h
  refine xi_callV C (kX11_no l D cT a_t a_t_now a_t_told a_t_one a_t_other a_t_forth a_t_cost a_t_broken a_t_away a_t_text a_t_worth a_t_choice a_t_thought a_t_before a_t_deep a_t_price a_t_undo a_t_slots a_t_isSaved 0 t_length t_textSize t_start t_next t_token t_value t_error t_errorAt t_number t_isFirst t_limitNow t_undos x1 2 u1 hu2.symm) zcX11_no zmX11_189 ziX11_no (zr rfl rfl) z00 rfl [0] rfl rfl rfl [some 0] (by decide +kernel) (ws2 := [(a_t, .inr (11, [.int u1.2, .ref a_t_now, .ref a_t_told, .ref a_t_one, .ref a_t_other, .ref a_t_forth, .ref a_t_cost, .ref a_t_broken, .ref a_t_away, .ref a_t_text, .int t_length, .int t_textSize, .int t_start, .int t_next, .int t_token, .int t_value, .int t_error, .int t_errorAt, .int t_number, .int t_isFirst, .ref a_t_worth, .ref a_t_choice, .ref a_t_thought, .ref a_t_before, .ref a_t_deep, .int t_limitNow, .ref a_t_price, .int t_undos, .ref a_t_undo, .ref a_t_slots, .ref a_t_isSaved]))]) rfl zkX11.1 (qr := 0) rfl rfl (Nat.le_of_ble_eq_true rfl) dX11_noSlot_8 (fun z3 => ?_)
  subst h
  exact hE _ _ _ dX11_noSlot_11 rfl (z3 _ rfl _ rfl)
def fX11_saveSnapshot (t_now : Nat → Int32) (t_slots : Nat → Int32) (t_isSaved : Nat → Int32) (x1 : Int32) : Option (Int32 × Int32 × (Nat → Int32) × (Nat → Int32)) := nm (fX11_noSlot x1) (fun u1 => if u1.1 = 0 then gd x1 2 ((fX11_copies 1028 514 t_slots t_now 0 (514 * x1) 514).bind (fun u6 => gb (t_isSaved x1.toNatClampNeg) (some (t_isSaved x1.toNatClampNeg, u1.2, u6, upd t_isSaved x1.toNatClampNeg (vp_nar .boolean 1))))) else some (0, u1.2, t_slots, t_isSaved))
set_option maxRecDepth 100000 in
set_option maxHeartbeats 4000000 in
theorem kX11_saveSnapshot (l : Launch) (D : va_G) (cT : Nat → ClassId) (a_t : Nat) (a_t_now : Nat) (a_t_told : Nat) (a_t_one : Nat) (a_t_other : Nat) (a_t_forth : Nat) (a_t_cost : Nat) (a_t_broken : Nat) (a_t_away : Nat) (a_t_text : Nat) (a_t_worth : Nat) (a_t_choice : Nat) (a_t_thought : Nat) (a_t_before : Nat) (a_t_deep : Nat) (a_t_price : Nat) (a_t_undo : Nat) (a_t_slots : Nat) (a_t_isSaved : Nat) (t_thrown : Int32) (t_length : Int32) (t_textSize : Int32) (t_start : Int32) (t_next : Int32) (t_token : Int32) (t_value : Int32) (t_error : Int32) (t_errorAt : Int32) (t_number : Int32) (t_isFirst : Int32) (t_limitNow : Int32) (t_undos : Int32) (t_now : Nat → Int32) (t_slots : Nat → Int32) (t_isSaved : Nat → Int32) (x1 : Int32) (r : Int32 × Int32 × (Nat → Int32) × (Nat → Int32)) (h : fX11_saveSnapshot t_now t_slots t_isSaved x1 = some r) : sM l yX11_saveSnapshot cX11_saveSnapshot 3 (some .boolean) (zR 4) D cT [.ref a_t, .int x1] [(a_t, .inr (11, [.int t_thrown, .ref a_t_now, .ref a_t_told, .ref a_t_one, .ref a_t_other, .ref a_t_forth, .ref a_t_cost, .ref a_t_broken, .ref a_t_away, .ref a_t_text, .int t_length, .int t_textSize, .int t_start, .int t_next, .int t_token, .int t_value, .int t_error, .int t_errorAt, .int t_number, .int t_isFirst, .ref a_t_worth, .ref a_t_choice, .ref a_t_thought, .ref a_t_before, .ref a_t_deep, .int t_limitNow, .ref a_t_price, .int t_undos, .ref a_t_undo, .ref a_t_slots, .ref a_t_isSaved])), (a_t_now, .inl (cT 0, 514, .inl t_now)), (a_t_slots, .inl (cT 0, 1028, .inl t_slots)), (a_t_isSaved, .inl (cT 3, 2, .inl t_isSaved))] (some (.int r.1)) [(a_t, .inr (11, [.int r.2.1, .ref a_t_now, .ref a_t_told, .ref a_t_one, .ref a_t_other, .ref a_t_forth, .ref a_t_cost, .ref a_t_broken, .ref a_t_away, .ref a_t_text, .int t_length, .int t_textSize, .int t_start, .int t_next, .int t_token, .int t_value, .int t_error, .int t_errorAt, .int t_number, .int t_isFirst, .ref a_t_worth, .ref a_t_choice, .ref a_t_thought, .ref a_t_before, .ref a_t_deep, .int t_limitNow, .ref a_t_price, .int t_undos, .ref a_t_undo, .ref a_t_slots, .ref a_t_isSaved])), (a_t_now, .inl (cT 0, 514, .inl t_now)), (a_t_slots, .inl (cT 0, 1028, .inl r.2.2.1)), (a_t_isSaved, .inl (cT 3, 2, .inl r.2.2.2))] := by
  refine sM_bool rfl (Nat.le_of_ble_eq_true rfl) ?_
  intro X C hE
  refine xi_drop (L2 := [(0, .ref a_t), (1, .int x1)]) [0, 1] rfl ?_
  refine xi_aload_n C 0 dX11_saveSnapshot_0 rfl ?_
  refine xi_iload_n C 1 dX11_saveSnapshot_1 rfl ?_
  obtain ⟨u1, hu2⟩ : ∃ z, z = fX11_noSlot x1 := ⟨_, rfl⟩
  replace h := nmE hu2 h
  refine xi_callV C (kX11_noSlot l D cT a_t a_t_now a_t_told a_t_one a_t_other a_t_forth a_t_cost a_t_broken a_t_away a_t_text a_t_worth a_t_choice a_t_thought a_t_before a_t_deep a_t_price a_t_undo a_t_slots a_t_isSaved t_thrown t_length t_textSize t_start t_next t_token t_value t_error t_errorAt t_number t_isFirst t_limitNow t_undos x1 u1 hu2.symm) zcX11_noSlot zmX11_298 ziX11_noSlot (zr rfl rfl) z00 rfl [0] rfl rfl rfl [some 0, none, none, none] (by decide +kernel) (ws2 := [(a_t, .inr (11, [.int u1.2, .ref a_t_now, .ref a_t_told, .ref a_t_one, .ref a_t_other, .ref a_t_forth, .ref a_t_cost, .ref a_t_broken, .ref a_t_away, .ref a_t_text, .int t_length, .int t_textSize, .int t_start, .int t_next, .int t_token, .int t_value, .int t_error, .int t_errorAt, .int t_number, .int t_isFirst, .ref a_t_worth, .ref a_t_choice, .ref a_t_thought, .ref a_t_before, .ref a_t_deep, .int t_limitNow, .ref a_t_price, .int t_undos, .ref a_t_undo, .ref a_t_slots, .ref a_t_isSaved])), (a_t_now, .inl (cT 0, 514, .inl t_now)), (a_t_slots, .inl (cT 0, 1028, .inl t_slots)), (a_t_isSaved, .inl (cT 3, 2, .inl t_isSaved))]) rfl zkX11.1 (qr := 0) rfl rfl (Nat.le_of_ble_eq_true rfl) dX11_saveSnapshot_2 (fun z3 => ?_)
  refine xi_if_eq C (tgt := 10) dX11_saveSnapshot_5 rfl (fun c4 => ?_) (fun c4 => ?_)
  · replace h := (if_pos c4).symm.trans h
    refine xi_aload_n C 0 dX11_saveSnapshot_10 rfl ?_
    refine xi_get C zkX11 30 0 zlX11_67 (by decide) rfl rfl dX11_saveSnapshot_11 ?_
    refine xi_iload_n C 1 dX11_saveSnapshot_14 rfl ?_
    replace h := ig h
    obtain ⟨c5, h⟩ := h
    refine xi_zald C 3 rfl c5 dX11_saveSnapshot_15 ?_
    refine xi_istore_n C [1, 2, 0] (L2 := [(0, .ref a_t), (1, .int x1), (2, .int (t_isSaved x1.toNatClampNeg))]) dX11_saveSnapshot_16 (Nat.le_of_ble_eq_true rfl) rfl ?_
    refine xi_aload_n C 0 dX11_saveSnapshot_17 rfl ?_
    refine xi_get C zkX11 1 0 zlX11_7 (by decide) rfl rfl dX11_saveSnapshot_18 ?_
    refine xi_iconst C (v := 0) dX11_saveSnapshot_21 rfl ?_
    refine xi_aload_n C 0 dX11_saveSnapshot_22 rfl ?_
    refine xi_get C zkX11 29 0 zlX11_64 (by decide) rfl rfl dX11_saveSnapshot_23 ?_
    refine xi_sipush C (v := 514) dX11_saveSnapshot_26 rfl ?_
    refine xi_iload_n C 1 dX11_saveSnapshot_29 rfl ?_
    refine xi_imul C dX11_saveSnapshot_30 ?_
    refine xi_sipush C (v := 514) dX11_saveSnapshot_31 rfl ?_
    replace h := ob h
    obtain ⟨u6, hu7, h⟩ := h
    refine xi_callS C (kX11_copies l D cT a_t_slots a_t_now 1028 514 t_slots t_now 0 (514 * x1) 514 u6 hu7) zcX11_copies zmX11_294 zsX11_copies (zr rfl rfl) z00 rfl [2, 1] rfl rfl rfl [none, some 1, some 0, none] (by decide +kernel) (ws2 := [(a_t, .inr (11, [.int u1.2, .ref a_t_now, .ref a_t_told, .ref a_t_one, .ref a_t_other, .ref a_t_forth, .ref a_t_cost, .ref a_t_broken, .ref a_t_away, .ref a_t_text, .int t_length, .int t_textSize, .int t_start, .int t_next, .int t_token, .int t_value, .int t_error, .int t_errorAt, .int t_number, .int t_isFirst, .ref a_t_worth, .ref a_t_choice, .ref a_t_thought, .ref a_t_before, .ref a_t_deep, .int t_limitNow, .ref a_t_price, .int t_undos, .ref a_t_undo, .ref a_t_slots, .ref a_t_isSaved])), (a_t_now, .inl (cT 0, 514, .inl t_now)), (a_t_slots, .inl (cT 0, 1028, .inl u6)), (a_t_isSaved, .inl (cT 3, 2, .inl t_isSaved))]) rfl rfl (Nat.le_of_ble_eq_true rfl) dX11_saveSnapshot_34 (fun z8 => ?_)
    refine xi_aload_n C 0 dX11_saveSnapshot_37 rfl ?_
    refine xi_get C zkX11 30 0 zlX11_67 (by decide) rfl rfl dX11_saveSnapshot_38 ?_
    refine xi_iload_n C 1 dX11_saveSnapshot_41 rfl ?_
    refine xi_iconst C (v := 1) dX11_saveSnapshot_42 rfl ?_
    refine xi_zast C 3 rfl c5 dX11_saveSnapshot_43 (ws2 := [(a_t, .inr (11, [.int u1.2, .ref a_t_now, .ref a_t_told, .ref a_t_one, .ref a_t_other, .ref a_t_forth, .ref a_t_cost, .ref a_t_broken, .ref a_t_away, .ref a_t_text, .int t_length, .int t_textSize, .int t_start, .int t_next, .int t_token, .int t_value, .int t_error, .int t_errorAt, .int t_number, .int t_isFirst, .ref a_t_worth, .ref a_t_choice, .ref a_t_thought, .ref a_t_before, .ref a_t_deep, .int t_limitNow, .ref a_t_price, .int t_undos, .ref a_t_undo, .ref a_t_slots, .ref a_t_isSaved])), (a_t_now, .inl (cT 0, 514, .inl t_now)), (a_t_slots, .inl (cT 0, 1028, .inl u6)), (a_t_isSaved, .inl (cT 3, 2, .inl (upd t_isSaved x1.toNatClampNeg (vp_nar .boolean 1))))]) rfl ?_
    refine xi_iload_n C 2 dX11_saveSnapshot_44 rfl ?_
    replace h := ib h
    obtain ⟨g9, h⟩ := h
    obtain rfl := Option.some.inj h
    exact hE _ _ _ dX11_saveSnapshot_45 rfl g9
  · replace h := (if_neg c4).symm.trans h
    refine xi_iconst C (v := 0) dX11_saveSnapshot_8 rfl ?_
    obtain rfl := Option.some.inj h
    exact hE _ _ _ dX11_saveSnapshot_9 rfl rfl
def fX11_restoreSnapshot_b23 (t_slots : Nat → Int32) (x1 : Int32) (s0 : Int32) (t_thrown : Int32) (t_undos : Int32) (t_now : Nat → Int32) : Option (Int32 × Int32 × Int32 × (Nat → Int32)) := nm (fX11_throwsIf t_thrown s0 2) (fun u7 => if u7.1 = 0 then (fX11_copies 514 1028 t_now t_slots (514 * x1) 0 514).bind (fun u11 => some (u11 0, u7.2, 0, u11)) else some (0, u7.2, t_undos, t_now))
def fX11_restoreSnapshot (t_undos : Int32) (t_now : Nat → Int32) (t_slots : Nat → Int32) (t_isSaved : Nat → Int32) (x1 : Int32) : Option (Int32 × Int32 × Int32 × (Nat → Int32)) := nm (fX11_noSlot x1) (fun u1 => if u1.1 = 0 then gd x1 2 (if (t_isSaved x1.toNatClampNeg) = 0 then fX11_restoreSnapshot_b23 t_slots x1 1 u1.2 t_undos t_now else fX11_restoreSnapshot_b23 t_slots x1 0 u1.2 t_undos t_now) else some (0, u1.2, t_undos, t_now))
set_option maxRecDepth 100000 in
set_option maxHeartbeats 4000000 in
theorem kX11_restoreSnapshot (l : Launch) (D : va_G) (cT : Nat → ClassId) (a_t : Nat) (a_t_now : Nat) (a_t_told : Nat) (a_t_one : Nat) (a_t_other : Nat) (a_t_forth : Nat) (a_t_cost : Nat) (a_t_broken : Nat) (a_t_away : Nat) (a_t_text : Nat) (a_t_worth : Nat) (a_t_choice : Nat) (a_t_thought : Nat) (a_t_before : Nat) (a_t_deep : Nat) (a_t_price : Nat) (a_t_undo : Nat) (a_t_slots : Nat) (a_t_isSaved : Nat) (t_thrown : Int32) (t_length : Int32) (t_textSize : Int32) (t_start : Int32) (t_next : Int32) (t_token : Int32) (t_value : Int32) (t_error : Int32) (t_errorAt : Int32) (t_number : Int32) (t_isFirst : Int32) (t_limitNow : Int32) (t_undos : Int32) (t_now : Nat → Int32) (t_slots : Nat → Int32) (t_isSaved : Nat → Int32) (x1 : Int32) (r : Int32 × Int32 × Int32 × (Nat → Int32)) (h : fX11_restoreSnapshot t_undos t_now t_slots t_isSaved x1 = some r) : sM l yX11_restoreSnapshot cX11_restoreSnapshot 2 (some .int) (zR 4) D cT [.ref a_t, .int x1] [(a_t, .inr (11, [.int t_thrown, .ref a_t_now, .ref a_t_told, .ref a_t_one, .ref a_t_other, .ref a_t_forth, .ref a_t_cost, .ref a_t_broken, .ref a_t_away, .ref a_t_text, .int t_length, .int t_textSize, .int t_start, .int t_next, .int t_token, .int t_value, .int t_error, .int t_errorAt, .int t_number, .int t_isFirst, .ref a_t_worth, .ref a_t_choice, .ref a_t_thought, .ref a_t_before, .ref a_t_deep, .int t_limitNow, .ref a_t_price, .int t_undos, .ref a_t_undo, .ref a_t_slots, .ref a_t_isSaved])), (a_t_now, .inl (cT 0, 514, .inl t_now)), (a_t_slots, .inl (cT 0, 1028, .inl t_slots)), (a_t_isSaved, .inl (cT 3, 2, .inl t_isSaved))] (some (.int r.1)) [(a_t, .inr (11, [.int r.2.1, .ref a_t_now, .ref a_t_told, .ref a_t_one, .ref a_t_other, .ref a_t_forth, .ref a_t_cost, .ref a_t_broken, .ref a_t_away, .ref a_t_text, .int t_length, .int t_textSize, .int t_start, .int t_next, .int t_token, .int t_value, .int t_error, .int t_errorAt, .int t_number, .int t_isFirst, .ref a_t_worth, .ref a_t_choice, .ref a_t_thought, .ref a_t_before, .ref a_t_deep, .int t_limitNow, .ref a_t_price, .int r.2.2.1, .ref a_t_undo, .ref a_t_slots, .ref a_t_isSaved])), (a_t_now, .inl (cT 0, 514, .inl r.2.2.2)), (a_t_slots, .inl (cT 0, 1028, .inl t_slots)), (a_t_isSaved, .inl (cT 3, 2, .inl t_isSaved))] := by
  refine sM_int rfl (Nat.le_of_ble_eq_true rfl) ?_
  intro X C hE
  have B23 : ∀ (s0 : Int32) (t_thrown : Int32) (t_undos : Int32) (t_now : Nat → Int32), fX11_restoreSnapshot_b23 t_slots x1 s0 t_thrown t_undos t_now = some r → sW X l (zR 4) D 2 0 0 23 [(0, .ref a_t), (1, .int x1)] [.int s0, .ref a_t] [(a_t, .inr (11, [.int t_thrown, .ref a_t_now, .ref a_t_told, .ref a_t_one, .ref a_t_other, .ref a_t_forth, .ref a_t_cost, .ref a_t_broken, .ref a_t_away, .ref a_t_text, .int t_length, .int t_textSize, .int t_start, .int t_next, .int t_token, .int t_value, .int t_error, .int t_errorAt, .int t_number, .int t_isFirst, .ref a_t_worth, .ref a_t_choice, .ref a_t_thought, .ref a_t_before, .ref a_t_deep, .int t_limitNow, .ref a_t_price, .int t_undos, .ref a_t_undo, .ref a_t_slots, .ref a_t_isSaved])), (a_t_now, .inl (cT 0, 514, .inl t_now)), (a_t_slots, .inl (cT 0, 1028, .inl t_slots)), (a_t_isSaved, .inl (cT 3, 2, .inl t_isSaved))] := by
    intro s0 t_thrown t_undos t_now h
    refine xi_iconst C (v := 2) dX11_restoreSnapshot_23 rfl ?_
    obtain ⟨u7, hu8⟩ : ∃ z, z = fX11_throwsIf t_thrown s0 2 := ⟨_, rfl⟩
    replace h := nmE hu8 h
    refine xi_callV C (kX11_throwsIf l D cT a_t a_t_now a_t_told a_t_one a_t_other a_t_forth a_t_cost a_t_broken a_t_away a_t_text a_t_worth a_t_choice a_t_thought a_t_before a_t_deep a_t_price a_t_undo a_t_slots a_t_isSaved t_thrown t_length t_textSize t_start t_next t_token t_value t_error t_errorAt t_number t_isFirst t_limitNow t_undos s0 2 u7 hu8.symm) zcX11_throwsIf zmX11_176 ziX11_throwsIf (zr rfl rfl) z00 rfl [0] rfl rfl rfl [some 0, none, none, none] (by decide +kernel) (ws2 := [(a_t, .inr (11, [.int u7.2, .ref a_t_now, .ref a_t_told, .ref a_t_one, .ref a_t_other, .ref a_t_forth, .ref a_t_cost, .ref a_t_broken, .ref a_t_away, .ref a_t_text, .int t_length, .int t_textSize, .int t_start, .int t_next, .int t_token, .int t_value, .int t_error, .int t_errorAt, .int t_number, .int t_isFirst, .ref a_t_worth, .ref a_t_choice, .ref a_t_thought, .ref a_t_before, .ref a_t_deep, .int t_limitNow, .ref a_t_price, .int t_undos, .ref a_t_undo, .ref a_t_slots, .ref a_t_isSaved])), (a_t_now, .inl (cT 0, 514, .inl t_now)), (a_t_slots, .inl (cT 0, 1028, .inl t_slots)), (a_t_isSaved, .inl (cT 3, 2, .inl t_isSaved))]) rfl zkX11.1 (qr := 0) rfl rfl (Nat.le_of_ble_eq_true rfl) dX11_restoreSnapshot_24 (fun z9 => ?_)
    refine xi_if_eq C (tgt := 32) dX11_restoreSnapshot_27 rfl (fun c10 => ?_) (fun c10 => ?_)
    · replace h := (if_pos c10).symm.trans h
      refine xi_aload_n C 0 dX11_restoreSnapshot_32 rfl ?_
      refine xi_get C zkX11 29 0 zlX11_64 (by decide) rfl rfl dX11_restoreSnapshot_33 ?_
      refine xi_sipush C (v := 514) dX11_restoreSnapshot_36 rfl ?_
      refine xi_iload_n C 1 dX11_restoreSnapshot_39 rfl ?_
      refine xi_imul C dX11_restoreSnapshot_40 ?_
      refine xi_aload_n C 0 dX11_restoreSnapshot_41 rfl ?_
      refine xi_get C zkX11 1 0 zlX11_7 (by decide) rfl rfl dX11_restoreSnapshot_42 ?_
      refine xi_iconst C (v := 0) dX11_restoreSnapshot_45 rfl ?_
      refine xi_sipush C (v := 514) dX11_restoreSnapshot_46 rfl ?_
      replace h := ob h
      obtain ⟨u11, hu12, h⟩ := h
      refine xi_callS C (kX11_copies l D cT a_t_now a_t_slots 514 1028 t_now t_slots (514 * x1) 0 514 u11 hu12) zcX11_copies zmX11_294 zsX11_copies (zr rfl rfl) z00 rfl [1, 2] rfl rfl rfl [none, some 0, some 1, none] (by decide +kernel) (ws2 := [(a_t, .inr (11, [.int u7.2, .ref a_t_now, .ref a_t_told, .ref a_t_one, .ref a_t_other, .ref a_t_forth, .ref a_t_cost, .ref a_t_broken, .ref a_t_away, .ref a_t_text, .int t_length, .int t_textSize, .int t_start, .int t_next, .int t_token, .int t_value, .int t_error, .int t_errorAt, .int t_number, .int t_isFirst, .ref a_t_worth, .ref a_t_choice, .ref a_t_thought, .ref a_t_before, .ref a_t_deep, .int t_limitNow, .ref a_t_price, .int t_undos, .ref a_t_undo, .ref a_t_slots, .ref a_t_isSaved])), (a_t_now, .inl (cT 0, 514, .inl u11)), (a_t_slots, .inl (cT 0, 1028, .inl t_slots)), (a_t_isSaved, .inl (cT 3, 2, .inl t_isSaved))]) rfl rfl (Nat.le_of_ble_eq_true rfl) dX11_restoreSnapshot_49 (fun z13 => ?_)
      refine xi_aload_n C 0 dX11_restoreSnapshot_52 rfl ?_
      refine xi_iconst C (v := 0) dX11_restoreSnapshot_53 rfl ?_
      refine xi_put C zkX11 27 0 zlX11_186 (by decide) rfl rfl rfl rfl (Nat.le_of_ble_eq_true rfl) dX11_restoreSnapshot_54 (ws2 := [(a_t, .inr (11, [.int u7.2, .ref a_t_now, .ref a_t_told, .ref a_t_one, .ref a_t_other, .ref a_t_forth, .ref a_t_cost, .ref a_t_broken, .ref a_t_away, .ref a_t_text, .int t_length, .int t_textSize, .int t_start, .int t_next, .int t_token, .int t_value, .int t_error, .int t_errorAt, .int t_number, .int t_isFirst, .ref a_t_worth, .ref a_t_choice, .ref a_t_thought, .ref a_t_before, .ref a_t_deep, .int t_limitNow, .ref a_t_price, .int 0, .ref a_t_undo, .ref a_t_slots, .ref a_t_isSaved])), (a_t_now, .inl (cT 0, 514, .inl u11)), (a_t_slots, .inl (cT 0, 1028, .inl t_slots)), (a_t_isSaved, .inl (cT 3, 2, .inl t_isSaved))]) rfl ?_
      refine xi_aload_n C 0 dX11_restoreSnapshot_57 rfl ?_
      refine xi_get C zkX11 1 0 zlX11_7 (by decide) rfl rfl dX11_restoreSnapshot_58 ?_
      refine xi_iconst C (v := 0) dX11_restoreSnapshot_61 rfl ?_
      refine xi_iald C 1 rfl (zv (by decide)) dX11_restoreSnapshot_62 ?_
      obtain rfl := Option.some.inj h
      exact hE _ _ _ dX11_restoreSnapshot_63 rfl
    · replace h := (if_neg c10).symm.trans h
      refine xi_iconst C (v := 0) dX11_restoreSnapshot_30 rfl ?_
      obtain rfl := Option.some.inj h
      exact hE _ _ _ dX11_restoreSnapshot_31 rfl
  refine xi_drop (L2 := [(0, .ref a_t), (1, .int x1)]) [0, 1] rfl ?_
  refine xi_aload_n C 0 dX11_restoreSnapshot_0 rfl ?_
  refine xi_iload_n C 1 dX11_restoreSnapshot_1 rfl ?_
  obtain ⟨u1, hu2⟩ : ∃ z, z = fX11_noSlot x1 := ⟨_, rfl⟩
  replace h := nmE hu2 h
  refine xi_callV C (kX11_noSlot l D cT a_t a_t_now a_t_told a_t_one a_t_other a_t_forth a_t_cost a_t_broken a_t_away a_t_text a_t_worth a_t_choice a_t_thought a_t_before a_t_deep a_t_price a_t_undo a_t_slots a_t_isSaved t_thrown t_length t_textSize t_start t_next t_token t_value t_error t_errorAt t_number t_isFirst t_limitNow t_undos x1 u1 hu2.symm) zcX11_noSlot zmX11_298 ziX11_noSlot (zr rfl rfl) z00 rfl [0] rfl rfl rfl [some 0, none, none, none] (by decide +kernel) (ws2 := [(a_t, .inr (11, [.int u1.2, .ref a_t_now, .ref a_t_told, .ref a_t_one, .ref a_t_other, .ref a_t_forth, .ref a_t_cost, .ref a_t_broken, .ref a_t_away, .ref a_t_text, .int t_length, .int t_textSize, .int t_start, .int t_next, .int t_token, .int t_value, .int t_error, .int t_errorAt, .int t_number, .int t_isFirst, .ref a_t_worth, .ref a_t_choice, .ref a_t_thought, .ref a_t_before, .ref a_t_deep, .int t_limitNow, .ref a_t_price, .int t_undos, .ref a_t_undo, .ref a_t_slots, .ref a_t_isSaved])), (a_t_now, .inl (cT 0, 514, .inl t_now)), (a_t_slots, .inl (cT 0, 1028, .inl t_slots)), (a_t_isSaved, .inl (cT 3, 2, .inl t_isSaved))]) rfl zkX11.1 (qr := 0) rfl rfl (Nat.le_of_ble_eq_true rfl) dX11_restoreSnapshot_2 (fun z3 => ?_)
  refine xi_if_ne C (tgt := 30) dX11_restoreSnapshot_5 rfl (fun c4 => ?_) (fun c4 => ?_)
  · replace h := (if_neg c4).symm.trans h
    refine xi_iconst C (v := 0) dX11_restoreSnapshot_30 rfl ?_
    obtain rfl := Option.some.inj h
    exact hE _ _ _ dX11_restoreSnapshot_31 rfl
  · replace h := (if_pos c4).symm.trans h
    refine xi_aload_n C 0 dX11_restoreSnapshot_8 rfl ?_
    refine xi_aload_n C 0 dX11_restoreSnapshot_9 rfl ?_
    refine xi_get C zkX11 30 0 zlX11_67 (by decide) rfl rfl dX11_restoreSnapshot_10 ?_
    refine xi_iload_n C 1 dX11_restoreSnapshot_13 rfl ?_
    replace h := ig h
    obtain ⟨c5, h⟩ := h
    refine xi_zald C 3 rfl c5 dX11_restoreSnapshot_14 ?_
    refine xi_if_ne C (tgt := 22) dX11_restoreSnapshot_15 rfl (fun c6 => ?_) (fun c6 => ?_)
    · replace h := (if_neg c6).symm.trans h
      refine xi_iconst C (v := 0) dX11_restoreSnapshot_22 rfl ?_
      exact B23 0 u1.2 t_undos t_now h
    · replace h := (if_pos c6).symm.trans h
      refine xi_iconst C (v := 1) dX11_restoreSnapshot_18 rfl ?_
      refine xi_goto C (tgt := 23) dX11_restoreSnapshot_19 rfl ?_
      exact B23 1 u1.2 t_undos t_now h
