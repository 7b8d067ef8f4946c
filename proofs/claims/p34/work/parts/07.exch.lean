def fX10_isIn (x0 : Int32) (x1 : Int32) : Int32 := if ((x0 >>> (x1 &&& 31)) &&& 1) = 1 then (1 : Int32) else (0 : Int32)
set_option maxRecDepth 100000 in
set_option maxHeartbeats 4000000 in
theorem kX10_isIn (l : Launch) (D : va_G) (cT : Nat → ClassId) (x0 : Int32) (x1 : Int32) (r : Int32) (h : fX10_isIn x0 x1 = r) : sM l yX10_isIn cX10_isIn 2 (some .boolean) (zR 1) D cT [.int x0, .int x1] [] (some (.int r)) [] := by
  refine sM_bool rfl (Nat.le_of_ble_eq_true rfl) ?_
  intro X C hE
  refine xi_drop (L2 := [(0, .int x0), (1, .int x1)]) [0, 1] rfl ?_
  refine xi_iload_n C 0 dX10_isIn_0 rfl ?_
  refine xi_iload_n C 1 dX10_isIn_1 rfl ?_
  refine xi_ishr C dX10_isIn_2 ?_
  refine xi_iconst C (v := 1) dX10_isIn_3 rfl ?_
  refine xi_iand C dX10_isIn_4 ?_
  refine xi_iconst C (v := 1) dX10_isIn_5 rfl ?_
  refine xi_icmp_ne C (tgt := 13) dX10_isIn_6 rfl (fun c1 => ?_) (fun c1 => ?_)
  · replace h := (if_neg c1).symm.trans h
    refine xi_iconst C (v := 0) dX10_isIn_13 rfl ?_
    subst h
    exact hE _ _ _ dX10_isIn_14 rfl rfl
  · replace h := (if_pos c1).symm.trans h
    refine xi_iconst C (v := 1) dX10_isIn_9 rfl ?_
    refine xi_goto C (tgt := 14) dX10_isIn_10 rfl ?_
    subst h
    exact hE _ _ _ dX10_isIn_14 rfl rfl
def fJ6_bitCount_0f7a4 (x0 : Int32) : Int32 := nm (x0 - (((x0.toUInt32 >>> (Int32.toUInt32 1 &&& Int32.toUInt32 31)).toInt32) &&& 1431655765)) (fun w1 => nm ((w1 &&& 858993459) + (((w1.toUInt32 >>> (Int32.toUInt32 2 &&& Int32.toUInt32 31)).toInt32) &&& 858993459)) (fun w2 => nm ((w2 + ((w2.toUInt32 >>> (Int32.toUInt32 4 &&& Int32.toUInt32 31)).toInt32)) &&& 252645135) (fun w3 => nm (w3 + ((w3.toUInt32 >>> (Int32.toUInt32 8 &&& Int32.toUInt32 31)).toInt32)) (fun w4 => nm (w4 + ((w4.toUInt32 >>> (Int32.toUInt32 16 &&& Int32.toUInt32 31)).toInt32)) (fun w5 => w5 &&& 63)))))
set_option maxRecDepth 100000 in
set_option maxHeartbeats 4000000 in
theorem kJ6_bitCount_0f7a4 (l : Launch) (D : va_G) (cT : Nat → ClassId) (x0 : Int32) (r : Int32) (h : fJ6_bitCount_0f7a4 x0 = r) : sM l yJ6_bitCount_0f7a4 cJ6_bitCount_0f7a4 1 (some .int) (zR 1) D cT [.int x0] [] (some (.int r)) [] := by
  refine sM_int rfl (Nat.le_of_ble_eq_true rfl) ?_
  intro X C hE
  refine xi_drop (L2 := [(0, .int x0)]) [0] rfl ?_
  refine xi_iload_n C 0 dJ6_bitCount_0f7a4_0 rfl ?_
  refine xi_iload_n C 0 dJ6_bitCount_0f7a4_1 rfl ?_
  refine xi_iconst C (v := 1) dJ6_bitCount_0f7a4_2 rfl ?_
  refine xi_iushr C dJ6_bitCount_0f7a4_3 ?_
  refine xi_ldcw C (v := 1431655765) zcoJ6_265 dJ6_bitCount_0f7a4_4 ?_
  refine xi_iand C dJ6_bitCount_0f7a4_7 ?_
  refine xi_isub C dJ6_bitCount_0f7a4_8 ?_
  refine xi_topi (fun w1 ew1 => ?_)
  replace h := nmE ew1 h
  refine xi_istore_n C [0] (L2 := [(0, .int w1)]) dJ6_bitCount_0f7a4_9 (Nat.le_of_ble_eq_true rfl) rfl ?_
  refine xi_iload_n C 0 dJ6_bitCount_0f7a4_10 rfl ?_
  refine xi_ldcw C (v := 858993459) zcoJ6_266 dJ6_bitCount_0f7a4_11 ?_
  refine xi_iand C dJ6_bitCount_0f7a4_14 ?_
  refine xi_iload_n C 0 dJ6_bitCount_0f7a4_15 rfl ?_
  refine xi_iconst C (v := 2) dJ6_bitCount_0f7a4_16 rfl ?_
  refine xi_iushr C dJ6_bitCount_0f7a4_17 ?_
  refine xi_ldcw C (v := 858993459) zcoJ6_266 dJ6_bitCount_0f7a4_18 ?_
  refine xi_iand C dJ6_bitCount_0f7a4_21 ?_
  refine xi_iadd C dJ6_bitCount_0f7a4_22 ?_
  refine xi_topi (fun w2 ew2 => ?_)
  replace h := nmE ew2 h
  refine xi_istore_n C [0] (L2 := [(0, .int w2)]) dJ6_bitCount_0f7a4_23 (Nat.le_of_ble_eq_true rfl) rfl ?_
  refine xi_iload_n C 0 dJ6_bitCount_0f7a4_24 rfl ?_
  refine xi_iload_n C 0 dJ6_bitCount_0f7a4_25 rfl ?_
  refine xi_iconst C (v := 4) dJ6_bitCount_0f7a4_26 rfl ?_
  refine xi_iushr C dJ6_bitCount_0f7a4_27 ?_
  refine xi_iadd C dJ6_bitCount_0f7a4_28 ?_
  refine xi_ldcw C (v := 252645135) zcoJ6_267 dJ6_bitCount_0f7a4_29 ?_
  refine xi_iand C dJ6_bitCount_0f7a4_32 ?_
  refine xi_topi (fun w3 ew3 => ?_)
  replace h := nmE ew3 h
  refine xi_istore_n C [0] (L2 := [(0, .int w3)]) dJ6_bitCount_0f7a4_33 (Nat.le_of_ble_eq_true rfl) rfl ?_
  refine xi_iload_n C 0 dJ6_bitCount_0f7a4_34 rfl ?_
  refine xi_iload_n C 0 dJ6_bitCount_0f7a4_35 rfl ?_
  refine xi_bipush C (v := 8) dJ6_bitCount_0f7a4_36 rfl ?_
  refine xi_iushr C dJ6_bitCount_0f7a4_38 ?_
  refine xi_iadd C dJ6_bitCount_0f7a4_39 ?_
  refine xi_topi (fun w4 ew4 => ?_)
  replace h := nmE ew4 h
  refine xi_istore_n C [0] (L2 := [(0, .int w4)]) dJ6_bitCount_0f7a4_40 (Nat.le_of_ble_eq_true rfl) rfl ?_
  refine xi_iload_n C 0 dJ6_bitCount_0f7a4_41 rfl ?_
  refine xi_iload_n C 0 dJ6_bitCount_0f7a4_42 rfl ?_
  refine xi_bipush C (v := 16) dJ6_bitCount_0f7a4_43 rfl ?_
  refine xi_iushr C dJ6_bitCount_0f7a4_45 ?_
  refine xi_iadd C dJ6_bitCount_0f7a4_46 ?_
  refine xi_topi (fun w5 ew5 => ?_)
  replace h := nmE ew5 h
  refine xi_istore_n C [0] (L2 := [(0, .int w5)]) dJ6_bitCount_0f7a4_47 (Nat.le_of_ble_eq_true rfl) rfl ?_
  refine xi_iload_n C 0 dJ6_bitCount_0f7a4_48 rfl ?_
  refine xi_bipush C (v := 63) dJ6_bitCount_0f7a4_49 rfl ?_
  refine xi_iand C dJ6_bitCount_0f7a4_51 ?_
  subst h
  exact hE _ _ _ dJ6_bitCount_0f7a4_52 rfl
def fX1_gainOfLine (t_first : Nat → Int32) (t_second : Nat → Int32) (t_oneWay : Nat → Int32) (p2_pieces : Nat → Int32) (x1 : Int32) : Option Int32 := gd x1 24 (gd (t_first x1.toNatClampNeg) 10 (nm (p2_pieces (t_first x1.toNatClampNeg).toNatClampNeg) (fun w3 => gd (t_second x1.toNatClampNeg) 10 (nm (p2_pieces (t_second x1.toNatClampNeg).toNatClampNeg) (fun w5 => nm (fJ6_bitCount_0f7a4 (w3 &&& (w5 ^^^ (-1)))) (fun w9 => if (t_oneWay x1.toNatClampNeg) = 0 then some (w9 + (fJ6_bitCount_0f7a4 (w5 &&& (w3 ^^^ (-1))))) else some w9))))))
set_option maxRecDepth 100000 in
set_option maxHeartbeats 4000000 in
theorem kX1_gainOfLine (l : Launch) (D : va_G) (cT : Nat → ClassId) (a_t : Nat) (a_t_first : Nat) (a_t_second : Nat) (a_t_cost : Nat) (a_t_oneWay : Nat) (a_t_breaks : Nat) (a_t_absences : Nat) (a_p2 : Nat) (a_p2_pieces : Nat) (t_people : Int32) (t_lineCount : Int32) (t_first : Nat → Int32) (t_second : Nat → Int32) (t_oneWay : Nat → Int32) (p2_people : Int32) (p2_pieces : Nat → Int32) (x1 : Int32) (r : Int32) (h : fX1_gainOfLine t_first t_second t_oneWay p2_pieces x1 = some r) : sM l yX1_gainOfLine cX1_gainOfLine 6 (some .int) (zR 2) D cT [.ref a_t, .int x1, .ref a_p2] [(a_t, .inr (1, [.int t_people, .int t_lineCount, .ref a_t_first, .ref a_t_second, .ref a_t_cost, .ref a_t_oneWay, .ref a_t_breaks, .ref a_t_absences])), (a_t_first, .inl (cT 0, 24, .inl t_first)), (a_t_second, .inl (cT 0, 24, .inl t_second)), (a_t_oneWay, .inl (cT 3, 24, .inl t_oneWay)), (a_p2, .inr (3, [.ref a_p2_pieces, .int p2_people])), (a_p2_pieces, .inl (cT 0, 10, .inl p2_pieces))] (some (.int r)) [(a_t, .inr (1, [.int t_people, .int t_lineCount, .ref a_t_first, .ref a_t_second, .ref a_t_cost, .ref a_t_oneWay, .ref a_t_breaks, .ref a_t_absences])), (a_t_first, .inl (cT 0, 24, .inl t_first)), (a_t_second, .inl (cT 0, 24, .inl t_second)), (a_t_oneWay, .inl (cT 3, 24, .inl t_oneWay)), (a_p2, .inr (3, [.ref a_p2_pieces, .int p2_people])), (a_p2_pieces, .inl (cT 0, 10, .inl p2_pieces))] := by
  refine sM_int rfl (Nat.le_of_ble_eq_true rfl) ?_
  intro X C hE
  refine xi_drop (L2 := [(0, .ref a_t), (1, .int x1), (2, .ref a_p2)]) [0, 1, 2] rfl ?_
  refine xi_aload_n C 2 dX1_gainOfLine_0 rfl ?_
  refine xi_get C zkX3 0 4 zlX1_61 (by decide) rfl rfl dX1_gainOfLine_1 ?_
  refine xi_aload_n C 0 dX1_gainOfLine_4 rfl ?_
  refine xi_get C zkX1 2 0 zlX1_18 (by decide) rfl rfl dX1_gainOfLine_5 ?_
  refine xi_iload_n C 1 dX1_gainOfLine_8 rfl ?_
  replace h := ig h
  obtain ⟨c1, h⟩ := h
  refine xi_iald C 1 rfl c1 dX1_gainOfLine_9 ?_
  replace h := ig h
  obtain ⟨c2, h⟩ := h
  refine xi_iald C 5 rfl c2 dX1_gainOfLine_10 ?_
  refine xi_topi (fun w3 ew3 => ?_)
  replace h := nmE ew3 h
  refine xi_istore_n C [1, 2, 3, 0] (L2 := [(0, .ref a_t), (1, .int x1), (2, .ref a_p2), (3, .int w3)]) dX1_gainOfLine_11 (Nat.le_of_ble_eq_true rfl) rfl ?_
  refine xi_aload_n C 2 dX1_gainOfLine_12 rfl ?_
  refine xi_get C zkX3 0 4 zlX1_61 (by decide) rfl rfl dX1_gainOfLine_13 ?_
  refine xi_aload_n C 0 dX1_gainOfLine_16 rfl ?_
  refine xi_get C zkX1 3 0 zlX1_22 (by decide) rfl rfl dX1_gainOfLine_17 ?_
  refine xi_iload_n C 1 dX1_gainOfLine_20 rfl ?_
  refine xi_iald C 2 rfl c1 dX1_gainOfLine_21 ?_
  replace h := ig h
  obtain ⟨c4, h⟩ := h
  refine xi_iald C 5 rfl c4 dX1_gainOfLine_22 ?_
  refine xi_topi (fun w5 ew5 => ?_)
  replace h := nmE ew5 h
  refine xi_istore C [1, 2, 3, 4, 0] (L2 := [(0, .ref a_t), (1, .int x1), (2, .ref a_p2), (3, .int w3), (4, .int w5)]) dX1_gainOfLine_23 (Nat.le_of_ble_eq_true rfl) rfl ?_
  refine xi_iload_n C 3 dX1_gainOfLine_25 rfl ?_
  refine xi_iload C 4 dX1_gainOfLine_26 rfl ?_
  refine xi_iconst C (v := (-1)) dX1_gainOfLine_28 rfl ?_
  refine xi_ixor C dX1_gainOfLine_29 ?_
  refine xi_iand C dX1_gainOfLine_30 ?_
  refine xi_callSr C (kJ6_bitCount_0f7a4 l D cT (w3 &&& (w5 ^^^ (-1))) (fJ6_bitCount_0f7a4 (w3 &&& (w5 ^^^ (-1)))) rfl) zcJ6_bitCount_0f7a4 zmX1_66 zsJ6_bitCount_0f7a4 (zr rfl rfl) z00 rfl [] rfl rfl rfl (Nat.le_of_ble_eq_true rfl) dX1_gainOfLine_31 (fun z8 => ?_)
  refine xi_topi (fun w9 ew9 => ?_)
  replace h := nmE ew9 h
  refine xi_istore C [1, 2, 3, 4, 5, 0] (L2 := [(0, .ref a_t), (1, .int x1), (2, .ref a_p2), (3, .int w3), (4, .int w5), (5, .int w9)]) dX1_gainOfLine_34 (Nat.le_of_ble_eq_true rfl) rfl ?_
  refine xi_aload_n C 0 dX1_gainOfLine_36 rfl ?_
  refine xi_get C zkX1 5 0 zlX1_28 (by decide) rfl rfl dX1_gainOfLine_37 ?_
  refine xi_iload_n C 1 dX1_gainOfLine_40 rfl ?_
  refine xi_zald C 3 rfl c1 dX1_gainOfLine_41 ?_
  refine xi_if_eq C (tgt := 50) dX1_gainOfLine_42 rfl (fun c10 => ?_) (fun c10 => ?_)
  · replace h := (if_pos c10).symm.trans h
    refine xi_iload C 5 dX1_gainOfLine_50 rfl ?_
    refine xi_iload C 4 dX1_gainOfLine_52 rfl ?_
    refine xi_iload_n C 3 dX1_gainOfLine_54 rfl ?_
    refine xi_iconst C (v := (-1)) dX1_gainOfLine_55 rfl ?_
    refine xi_ixor C dX1_gainOfLine_56 ?_
    refine xi_iand C dX1_gainOfLine_57 ?_
    refine xi_callSr C (kJ6_bitCount_0f7a4 l D cT (w5 &&& (w3 ^^^ (-1))) (fJ6_bitCount_0f7a4 (w5 &&& (w3 ^^^ (-1)))) rfl) zcJ6_bitCount_0f7a4 zmX1_66 zsJ6_bitCount_0f7a4 (zr rfl rfl) z00 rfl [] rfl rfl rfl (Nat.le_of_ble_eq_true rfl) dX1_gainOfLine_58 (fun z13 => ?_)
    refine xi_iadd C dX1_gainOfLine_61 ?_
    obtain rfl := Option.some.inj h
    exact hE _ _ _ dX1_gainOfLine_62 rfl
  · replace h := (if_neg c10).symm.trans h
    refine xi_iload C 5 dX1_gainOfLine_45 rfl ?_
    refine xi_goto C (tgt := 62) dX1_gainOfLine_47 rfl ?_
    obtain rfl := Option.some.inj h
    exact hE _ _ _ dX1_gainOfLine_62 rfl
def fX8_clear : Int32 := 0
set_option maxRecDepth 100000 in
set_option maxHeartbeats 4000000 in
theorem kX8_clear (l : Launch) (D : va_G) (cT : Nat → ClassId) (a_t : Nat) (a_t_whose : Nat) (a_t_from : Nat) (a_t_until : Nat) (t_count : Int32) (r : Int32) (h : fX8_clear = r) : sM l yX8_clear cX8_clear 1 none (zR 1) D cT [.ref a_t] [(a_t, .inr (8, [.ref a_t_whose, .ref a_t_from, .ref a_t_until, .int t_count]))] none [(a_t, .inr (8, [.ref a_t_whose, .ref a_t_from, .ref a_t_until, .int r]))] := by
  refine sM_void rfl (Nat.le_of_ble_eq_true rfl) ?_
  intro X C hE
  refine xi_drop (L2 := [(0, .ref a_t)]) [0] rfl ?_
  refine xi_aload_n C 0 dX8_clear_0 rfl ?_
  refine xi_iconst C (v := 0) dX8_clear_1 rfl ?_
  refine xi_put C zkX8 3 0 zlX8_21 (by decide) rfl rfl rfl rfl (Nat.le_of_ble_eq_true rfl) dX8_clear_2 (ws2 := [(a_t, .inr (8, [.ref a_t_whose, .ref a_t_from, .ref a_t_until, .int 0]))]) rfl ?_
  subst h
  exact hE _ _ dX8_clear_5 rfl
def fX1_clear : Int32 × Int32 × Int32 × Int32 := nm (fX8_clear) (fun u1 => nm (fX8_clear) (fun u4 => (4, 0, u1, u4)))
set_option maxRecDepth 100000 in
set_option maxHeartbeats 4000000 in
theorem kX1_clear (l : Launch) (D : va_G) (cT : Nat → ClassId) (a_t : Nat) (a_t_first : Nat) (a_t_second : Nat) (a_t_cost : Nat) (a_t_oneWay : Nat) (a_t_breaks : Nat) (a_t_absences : Nat) (a_t_breaks_whose : Nat) (a_t_breaks_from : Nat) (a_t_breaks_until : Nat) (a_t_absences_whose : Nat) (a_t_absences_from : Nat) (a_t_absences_until : Nat) (t_people : Int32) (t_lineCount : Int32) (t_breaks_count : Int32) (t_absences_count : Int32) (r : Int32 × Int32 × Int32 × Int32) (h : fX1_clear = r) : sM l yX1_clear cX1_clear 1 none (zR 2) D cT [.ref a_t] [(a_t, .inr (1, [.int t_people, .int t_lineCount, .ref a_t_first, .ref a_t_second, .ref a_t_cost, .ref a_t_oneWay, .ref a_t_breaks, .ref a_t_absences])), (a_t_breaks, .inr (8, [.ref a_t_breaks_whose, .ref a_t_breaks_from, .ref a_t_breaks_until, .int t_breaks_count])), (a_t_absences, .inr (8, [.ref a_t_absences_whose, .ref a_t_absences_from, .ref a_t_absences_until, .int t_absences_count]))] none [(a_t, .inr (1, [.int r.1, .int r.2.1, .ref a_t_first, .ref a_t_second, .ref a_t_cost, .ref a_t_oneWay, .ref a_t_breaks, .ref a_t_absences])), (a_t_breaks, .inr (8, [.ref a_t_breaks_whose, .ref a_t_breaks_from, .ref a_t_breaks_until, .int r.2.2.1])), (a_t_absences, .inr (8, [.ref a_t_absences_whose, .ref a_t_absences_from, .ref a_t_absences_until, .int r.2.2.2]))] := by
  refine sM_void rfl (Nat.le_of_ble_eq_true rfl) ?_
  intro X C hE
  refine xi_drop (L2 := [(0, .ref a_t)]) [0] rfl ?_
  refine xi_aload_n C 0 dX1_clear_0 rfl ?_
  refine xi_iconst C (v := 4) dX1_clear_1 rfl ?_
  refine xi_put C zkX1 0 0 zlX1_9 (by decide) rfl rfl rfl rfl (Nat.le_of_ble_eq_true rfl) dX1_clear_2 (ws2 := [(a_t, .inr (1, [.int 4, .int t_lineCount, .ref a_t_first, .ref a_t_second, .ref a_t_cost, .ref a_t_oneWay, .ref a_t_breaks, .ref a_t_absences])), (a_t_breaks, .inr (8, [.ref a_t_breaks_whose, .ref a_t_breaks_from, .ref a_t_breaks_until, .int t_breaks_count])), (a_t_absences, .inr (8, [.ref a_t_absences_whose, .ref a_t_absences_from, .ref a_t_absences_until, .int t_absences_count]))]) rfl ?_
  refine xi_aload_n C 0 dX1_clear_5 rfl ?_
  refine xi_iconst C (v := 0) dX1_clear_6 rfl ?_
  refine xi_put C zkX1 1 0 zlX1_15 (by decide) rfl rfl rfl rfl (Nat.le_of_ble_eq_true rfl) dX1_clear_7 (ws2 := [(a_t, .inr (1, [.int 4, .int 0, .ref a_t_first, .ref a_t_second, .ref a_t_cost, .ref a_t_oneWay, .ref a_t_breaks, .ref a_t_absences])), (a_t_breaks, .inr (8, [.ref a_t_breaks_whose, .ref a_t_breaks_from, .ref a_t_breaks_until, .int t_breaks_count])), (a_t_absences, .inr (8, [.ref a_t_absences_whose, .ref a_t_absences_from, .ref a_t_absences_until, .int t_absences_count]))]) rfl ?_
  refine xi_aload_n C 0 dX1_clear_10 rfl ?_
  refine xi_get C zkX1 6 0 zlX1_35 (by decide) rfl rfl dX1_clear_11 ?_
  obtain ⟨u1, hu2⟩ : ∃ z, z = fX8_clear := ⟨_, rfl⟩
  replace h := nmE hu2 h
  refine xi_callV C (kX8_clear l D cT a_t_breaks a_t_breaks_whose a_t_breaks_from a_t_breaks_until t_breaks_count u1 hu2.symm) zcX8_clear zmX1_42 ziX8_clear (zr rfl rfl) z00 rfl [1] rfl rfl rfl [none, some 0, none] (by decide +kernel) (ws2 := [(a_t, .inr (1, [.int 4, .int 0, .ref a_t_first, .ref a_t_second, .ref a_t_cost, .ref a_t_oneWay, .ref a_t_breaks, .ref a_t_absences])), (a_t_breaks, .inr (8, [.ref a_t_breaks_whose, .ref a_t_breaks_from, .ref a_t_breaks_until, .int u1])), (a_t_absences, .inr (8, [.ref a_t_absences_whose, .ref a_t_absences_from, .ref a_t_absences_until, .int t_absences_count]))]) rfl zkX8.1 (qr := 1) rfl rfl (Nat.le_of_ble_eq_true rfl) dX1_clear_14 (fun z3 => ?_)
  refine xi_aload_n C 0 dX1_clear_17 rfl ?_
  refine xi_get C zkX1 7 0 zlX1_39 (by decide) rfl rfl dX1_clear_18 ?_
  obtain ⟨u4, hu5⟩ : ∃ z, z = fX8_clear := ⟨_, rfl⟩
  replace h := nmE hu5 h
  refine xi_callV C (kX8_clear l D cT a_t_absences a_t_absences_whose a_t_absences_from a_t_absences_until t_absences_count u4 hu5.symm) zcX8_clear zmX1_42 ziX8_clear (zr rfl rfl) z00 rfl [2] rfl rfl rfl [none, none, some 0] (by decide +kernel) (ws2 := [(a_t, .inr (1, [.int 4, .int 0, .ref a_t_first, .ref a_t_second, .ref a_t_cost, .ref a_t_oneWay, .ref a_t_breaks, .ref a_t_absences])), (a_t_breaks, .inr (8, [.ref a_t_breaks_whose, .ref a_t_breaks_from, .ref a_t_breaks_until, .int u1])), (a_t_absences, .inr (8, [.ref a_t_absences_whose, .ref a_t_absences_from, .ref a_t_absences_until, .int u4]))]) rfl zkX8.1 (qr := 2) rfl rfl (Nat.le_of_ble_eq_true rfl) dX1_clear_21 (fun z6 => ?_)
  subst h
  exact hE _ _ dX1_clear_24 rfl
def fX1_isFull (t_lineCount : Int32) : Int32 := if t_lineCount < 24 then (0 : Int32) else (1 : Int32)
set_option maxRecDepth 100000 in
set_option maxHeartbeats 4000000 in
theorem kX1_isFull (l : Launch) (D : va_G) (cT : Nat → ClassId) (a_t : Nat) (a_t_first : Nat) (a_t_second : Nat) (a_t_cost : Nat) (a_t_oneWay : Nat) (a_t_breaks : Nat) (a_t_absences : Nat) (t_people : Int32) (t_lineCount : Int32) (r : Int32) (h : fX1_isFull t_lineCount = r) : sM l yX1_isFull cX1_isFull 1 (some .boolean) (zR 1) D cT [.ref a_t] [(a_t, .inr (1, [.int t_people, .int t_lineCount, .ref a_t_first, .ref a_t_second, .ref a_t_cost, .ref a_t_oneWay, .ref a_t_breaks, .ref a_t_absences]))] (some (.int r)) [(a_t, .inr (1, [.int t_people, .int t_lineCount, .ref a_t_first, .ref a_t_second, .ref a_t_cost, .ref a_t_oneWay, .ref a_t_breaks, .ref a_t_absences]))] := by
  refine sM_bool rfl (Nat.le_of_ble_eq_true rfl) ?_
  intro X C hE
  refine xi_drop (L2 := [(0, .ref a_t)]) [0] rfl ?_
  refine xi_aload_n C 0 dX1_isFull_0 rfl ?_
  refine xi_get C zkX1 1 0 zlX1_15 (by decide) rfl rfl dX1_isFull_1 ?_
  refine xi_bipush C (v := 24) dX1_isFull_4 rfl ?_
  refine xi_icmp_lt C (tgt := 13) dX1_isFull_6 rfl (fun c1 => ?_) (fun c1 => ?_)
  · replace h := (if_pos c1).symm.trans h
    refine xi_iconst C (v := 0) dX1_isFull_13 rfl ?_
    subst h
    exact hE _ _ _ dX1_isFull_14 rfl rfl
  · replace h := (if_neg c1).symm.trans h
    refine xi_iconst C (v := 1) dX1_isFull_9 rfl ?_
    refine xi_goto C (tgt := 14) dX1_isFull_10 rfl ?_
    subst h
    exact hE _ _ _ dX1_isFull_14 rfl rfl
def fX1_addLine (t_lineCount : Int32) (t_first : Nat → Int32) (t_second : Nat → Int32) (t_cost : Nat → Int32) (t_oneWay : Nat → Int32) (x1 : Int32) (x2 : Int32) (x3 : Int32) (x4 : Int32) : Option (Int32 × (Nat → Int32) × (Nat → Int32) × (Nat → Int32) × (Nat → Int32)) := if (fX1_isFull t_lineCount) = 0 then gd t_lineCount 24 (some (t_lineCount + 1, upd t_first t_lineCount.toNatClampNeg x1, upd t_second t_lineCount.toNatClampNeg x2, upd t_cost t_lineCount.toNatClampNeg x4, upd t_oneWay t_lineCount.toNatClampNeg (vp_nar .boolean x3))) else some (t_lineCount, t_first, t_second, t_cost, t_oneWay)
set_option maxRecDepth 100000 in
set_option maxHeartbeats 4000000 in
theorem kX1_addLine (l : Launch) (D : va_G) (cT : Nat → ClassId) (a_t : Nat) (a_t_first : Nat) (a_t_second : Nat) (a_t_cost : Nat) (a_t_oneWay : Nat) (a_t_breaks : Nat) (a_t_absences : Nat) (t_people : Int32) (t_lineCount : Int32) (t_first : Nat → Int32) (t_second : Nat → Int32) (t_cost : Nat → Int32) (t_oneWay : Nat → Int32) (x1 : Int32) (x2 : Int32) (x3 : Int32) (x4 : Int32) (r : Int32 × (Nat → Int32) × (Nat → Int32) × (Nat → Int32) × (Nat → Int32)) (h : fX1_addLine t_lineCount t_first t_second t_cost t_oneWay x1 x2 x3 x4 = some r) : sM l yX1_addLine cX1_addLine 5 none (zR 2) D cT [.ref a_t, .int x1, .int x2, .int x3, .int x4] [(a_t, .inr (1, [.int t_people, .int t_lineCount, .ref a_t_first, .ref a_t_second, .ref a_t_cost, .ref a_t_oneWay, .ref a_t_breaks, .ref a_t_absences])), (a_t_first, .inl (cT 0, 24, .inl t_first)), (a_t_second, .inl (cT 0, 24, .inl t_second)), (a_t_cost, .inl (cT 0, 24, .inl t_cost)), (a_t_oneWay, .inl (cT 3, 24, .inl t_oneWay))] none [(a_t, .inr (1, [.int t_people, .int r.1, .ref a_t_first, .ref a_t_second, .ref a_t_cost, .ref a_t_oneWay, .ref a_t_breaks, .ref a_t_absences])), (a_t_first, .inl (cT 0, 24, .inl r.2.1)), (a_t_second, .inl (cT 0, 24, .inl r.2.2.1)), (a_t_cost, .inl (cT 0, 24, .inl r.2.2.2.1)), (a_t_oneWay, .inl (cT 3, 24, .inl r.2.2.2.2))] := by
  refine sM_void rfl (Nat.le_of_ble_eq_true rfl) ?_
  intro X C hE
  refine xi_drop (L2 := [(0, .ref a_t), (1, .int x1), (2, .int x2), (3, .int x3), (4, .int x4)]) [0, 1, 2, 3, 4] rfl ?_
  refine xi_aload_n C 0 dX1_addLine_0 rfl ?_
  refine xi_callVr C (kX1_isFull l D cT a_t a_t_first a_t_second a_t_cost a_t_oneWay a_t_breaks a_t_absences t_people t_lineCount (fX1_isFull t_lineCount) rfl) zcX1_isFull zmX1_45 ziX1_isFull (zr rfl rfl) z00 rfl [0] rfl rfl zkX1.1 (qr := 0) rfl rfl (Nat.le_of_ble_eq_true rfl) dX1_addLine_1 (fun z3 => ?_)
  refine xi_if_eq C (tgt := 8) dX1_addLine_4 rfl (fun c4 => ?_) (fun c4 => ?_)
  · replace h := (if_pos c4).symm.trans h
    refine xi_aload_n C 0 dX1_addLine_8 rfl ?_
    refine xi_get C zkX1 2 0 zlX1_18 (by decide) rfl rfl dX1_addLine_9 ?_
    refine xi_aload_n C 0 dX1_addLine_12 rfl ?_
    refine xi_get C zkX1 1 0 zlX1_15 (by decide) rfl rfl dX1_addLine_13 ?_
    refine xi_iload_n C 1 dX1_addLine_16 rfl ?_
    replace h := ig h
    obtain ⟨c5, h⟩ := h
    refine xi_iast C 1 rfl c5 dX1_addLine_17 (ws2 := [(a_t, .inr (1, [.int t_people, .int t_lineCount, .ref a_t_first, .ref a_t_second, .ref a_t_cost, .ref a_t_oneWay, .ref a_t_breaks, .ref a_t_absences])), (a_t_first, .inl (cT 0, 24, .inl (upd t_first t_lineCount.toNatClampNeg x1))), (a_t_second, .inl (cT 0, 24, .inl t_second)), (a_t_cost, .inl (cT 0, 24, .inl t_cost)), (a_t_oneWay, .inl (cT 3, 24, .inl t_oneWay))]) rfl ?_
    refine xi_aload_n C 0 dX1_addLine_18 rfl ?_
    refine xi_get C zkX1 3 0 zlX1_22 (by decide) rfl rfl dX1_addLine_19 ?_
    refine xi_aload_n C 0 dX1_addLine_22 rfl ?_
    refine xi_get C zkX1 1 0 zlX1_15 (by decide) rfl rfl dX1_addLine_23 ?_
    refine xi_iload_n C 2 dX1_addLine_26 rfl ?_
    refine xi_iast C 2 rfl c5 dX1_addLine_27 (ws2 := [(a_t, .inr (1, [.int t_people, .int t_lineCount, .ref a_t_first, .ref a_t_second, .ref a_t_cost, .ref a_t_oneWay, .ref a_t_breaks, .ref a_t_absences])), (a_t_first, .inl (cT 0, 24, .inl (upd t_first t_lineCount.toNatClampNeg x1))), (a_t_second, .inl (cT 0, 24, .inl (upd t_second t_lineCount.toNatClampNeg x2))), (a_t_cost, .inl (cT 0, 24, .inl t_cost)), (a_t_oneWay, .inl (cT 3, 24, .inl t_oneWay))]) rfl ?_
    refine xi_aload_n C 0 dX1_addLine_28 rfl ?_
    refine xi_get C zkX1 5 0 zlX1_28 (by decide) rfl rfl dX1_addLine_29 ?_
    refine xi_aload_n C 0 dX1_addLine_32 rfl ?_
    refine xi_get C zkX1 1 0 zlX1_15 (by decide) rfl rfl dX1_addLine_33 ?_
    refine xi_iload_n C 3 dX1_addLine_36 rfl ?_
    refine xi_zast C 4 rfl c5 dX1_addLine_37 (ws2 := [(a_t, .inr (1, [.int t_people, .int t_lineCount, .ref a_t_first, .ref a_t_second, .ref a_t_cost, .ref a_t_oneWay, .ref a_t_breaks, .ref a_t_absences])), (a_t_first, .inl (cT 0, 24, .inl (upd t_first t_lineCount.toNatClampNeg x1))), (a_t_second, .inl (cT 0, 24, .inl (upd t_second t_lineCount.toNatClampNeg x2))), (a_t_cost, .inl (cT 0, 24, .inl t_cost)), (a_t_oneWay, .inl (cT 3, 24, .inl (upd t_oneWay t_lineCount.toNatClampNeg (vp_nar .boolean x3))))]) rfl ?_
    refine xi_aload_n C 0 dX1_addLine_38 rfl ?_
    refine xi_get C zkX1 4 0 zlX1_25 (by decide) rfl rfl dX1_addLine_39 ?_
    refine xi_aload_n C 0 dX1_addLine_42 rfl ?_
    refine xi_get C zkX1 1 0 zlX1_15 (by decide) rfl rfl dX1_addLine_43 ?_
    refine xi_iload C 4 dX1_addLine_46 rfl ?_
    refine xi_iast C 3 rfl c5 dX1_addLine_48 (ws2 := [(a_t, .inr (1, [.int t_people, .int t_lineCount, .ref a_t_first, .ref a_t_second, .ref a_t_cost, .ref a_t_oneWay, .ref a_t_breaks, .ref a_t_absences])), (a_t_first, .inl (cT 0, 24, .inl (upd t_first t_lineCount.toNatClampNeg x1))), (a_t_second, .inl (cT 0, 24, .inl (upd t_second t_lineCount.toNatClampNeg x2))), (a_t_cost, .inl (cT 0, 24, .inl (upd t_cost t_lineCount.toNatClampNeg x4))), (a_t_oneWay, .inl (cT 3, 24, .inl (upd t_oneWay t_lineCount.toNatClampNeg (vp_nar .boolean x3))))]) rfl ?_
    refine xi_aload_n C 0 dX1_addLine_49 rfl ?_
    refine xi_dup C dX1_addLine_50 rfl ?_
    refine xi_get C zkX1 1 0 zlX1_15 (by decide) rfl rfl dX1_addLine_51 ?_
    refine xi_iconst C (v := 1) dX1_addLine_54 rfl ?_
    refine xi_iadd C dX1_addLine_55 ?_
    refine xi_put C zkX1 1 0 zlX1_15 (by decide) rfl rfl rfl rfl (Nat.le_of_ble_eq_true rfl) dX1_addLine_56 (ws2 := [(a_t, .inr (1, [.int t_people, .int (t_lineCount + 1), .ref a_t_first, .ref a_t_second, .ref a_t_cost, .ref a_t_oneWay, .ref a_t_breaks, .ref a_t_absences])), (a_t_first, .inl (cT 0, 24, .inl (upd t_first t_lineCount.toNatClampNeg x1))), (a_t_second, .inl (cT 0, 24, .inl (upd t_second t_lineCount.toNatClampNeg x2))), (a_t_cost, .inl (cT 0, 24, .inl (upd t_cost t_lineCount.toNatClampNeg x4))), (a_t_oneWay, .inl (cT 3, 24, .inl (upd t_oneWay t_lineCount.toNatClampNeg (vp_nar .boolean x3))))]) rfl ?_
    obtain rfl := Option.some.inj h
    exact hE _ _ dX1_addLine_59 rfl
  · replace h := (if_neg c4).symm.trans h
    obtain rfl := Option.some.inj h
    exact hE _ _ dX1_addLine_7 rfl
def fX1_allLines (t_lineCount : Int32) : Int32 := (1 <<< (t_lineCount &&& 31)) - 1
set_option maxRecDepth 100000 in
set_option maxHeartbeats 4000000 in
theorem kX1_allLines (l : Launch) (D : va_G) (cT : Nat → ClassId) (a_t : Nat) (a_t_first : Nat) (a_t_second : Nat) (a_t_cost : Nat) (a_t_oneWay : Nat) (a_t_breaks : Nat) (a_t_absences : Nat) (t_people : Int32) (t_lineCount : Int32) (r : Int32) (h : fX1_allLines t_lineCount = r) : sM l yX1_allLines cX1_allLines 1 (some .int) (zR 1) D cT [.ref a_t] [(a_t, .inr (1, [.int t_people, .int t_lineCount, .ref a_t_first, .ref a_t_second, .ref a_t_cost, .ref a_t_oneWay, .ref a_t_breaks, .ref a_t_absences]))] (some (.int r)) [(a_t, .inr (1, [.int t_people, .int t_lineCount, .ref a_t_first, .ref a_t_second, .ref a_t_cost, .ref a_t_oneWay, .ref a_t_breaks, .ref a_t_absences]))] := by
  refine sM_int rfl (Nat.le_of_ble_eq_true rfl) ?_
  intro X C hE
  refine xi_drop (L2 := [(0, .ref a_t)]) [0] rfl ?_
  refine xi_iconst C (v := 1) dX1_allLines_0 rfl ?_
  refine xi_aload_n C 0 dX1_allLines_1 rfl ?_
  refine xi_get C zkX1 1 0 zlX1_15 (by decide) rfl rfl dX1_allLines_2 ?_
  refine xi_ishl C dX1_allLines_5 ?_
  refine xi_iconst C (v := 1) dX1_allLines_6 rfl ?_
  refine xi_isub C dX1_allLines_7 ?_
  subst h
  exact hE _ _ _ dX1_allLines_8 rfl
def fX8_keptOut_b4 (t_count : Int32) (t_whose : Nat → Int32) (t_from : Nat → Int32) (t_until : Nat → Int32) (x1 : Int32) : Nat → Int32 → Int32 → Option Int32
  | 0, _, _ => none
  | n + 1, y2, y3 => if t_count ≤ y3 then some y2 else gd y3 12 (if x1 < (t_from y3.toNatClampNeg) then (fX8_keptOut_b4 t_count t_whose t_from t_until x1 n) y2 (y3 + 1) else if (t_until y3.toNatClampNeg) < x1 then (fX8_keptOut_b4 t_count t_whose t_from t_until x1 n) y2 (y3 + 1) else nm (y2 ||| (1 <<< ((t_whose y3.toNatClampNeg) &&& 31))) (fun w5 => (fX8_keptOut_b4 t_count t_whose t_from t_until x1 n) w5 (y3 + 1)))
theorem fX8_keptOut_b4_0 (t_count : Int32) (t_whose : Nat → Int32) (t_from : Nat → Int32) (t_until : Nat → Int32) (x1 : Int32) (y2 : Int32) (y3 : Int32) : fX8_keptOut_b4 t_count t_whose t_from t_until x1 0 y2 y3 = none := rfl
theorem fX8_keptOut_b4_s (t_count : Int32) (t_whose : Nat → Int32) (t_from : Nat → Int32) (t_until : Nat → Int32) (x1 : Int32) (n : Nat) (y2 : Int32) (y3 : Int32) : fX8_keptOut_b4 t_count t_whose t_from t_until x1 (n + 1) y2 y3 = (if t_count ≤ y3 then some y2 else gd y3 12 (if x1 < (t_from y3.toNatClampNeg) then (fX8_keptOut_b4 t_count t_whose t_from t_until x1 n) y2 (y3 + 1) else if (t_until y3.toNatClampNeg) < x1 then (fX8_keptOut_b4 t_count t_whose t_from t_until x1 n) y2 (y3 + 1) else nm (y2 ||| (1 <<< ((t_whose y3.toNatClampNeg) &&& 31))) (fun w5 => (fX8_keptOut_b4 t_count t_whose t_from t_until x1 n) w5 (y3 + 1)))) := rfl
def fX8_keptOut (t_count : Int32) (t_whose : Nat → Int32) (t_from : Nat → Int32) (t_until : Nat → Int32) (x1 : Int32) : Option Int32 := fX8_keptOut_b4 t_count t_whose t_from t_until x1 FU 0 0
set_option maxRecDepth 100000 in
set_option maxHeartbeats 4000000 in
theorem kX8_keptOut (l : Launch) (D : va_G) (cT : Nat → ClassId) (a_t : Nat) (a_t_whose : Nat) (a_t_from : Nat) (a_t_until : Nat) (t_count : Int32) (t_whose : Nat → Int32) (t_from : Nat → Int32) (t_until : Nat → Int32) (x1 : Int32) (r : Int32) (h : fX8_keptOut t_count t_whose t_from t_until x1 = some r) : sM l yX8_keptOut cX8_keptOut 4 (some .int) (zR 1) D cT [.ref a_t, .int x1] [(a_t, .inr (8, [.ref a_t_whose, .ref a_t_from, .ref a_t_until, .int t_count])), (a_t_whose, .inl (cT 0, 12, .inl t_whose)), (a_t_from, .inl (cT 0, 12, .inl t_from)), (a_t_until, .inl (cT 0, 12, .inl t_until))] (some (.int r)) [(a_t, .inr (8, [.ref a_t_whose, .ref a_t_from, .ref a_t_until, .int t_count])), (a_t_whose, .inl (cT 0, 12, .inl t_whose)), (a_t_from, .inl (cT 0, 12, .inl t_from)), (a_t_until, .inl (cT 0, 12, .inl t_until))] := by
  refine sM_int rfl (Nat.le_of_ble_eq_true rfl) ?_
  intro X C hE
  have B4 : ∀ (n : Nat) (y2 : Int32) (y3 : Int32), fX8_keptOut_b4 t_count t_whose t_from t_until x1 n y2 y3 = some r → sW X l (zR 1) D 4 0 0 4 [(0, .ref a_t), (1, .int x1), (2, .int y2), (3, .int y3)] [] [(a_t, .inr (8, [.ref a_t_whose, .ref a_t_from, .ref a_t_until, .int t_count])), (a_t_whose, .inl (cT 0, 12, .inl t_whose)), (a_t_from, .inl (cT 0, 12, .inl t_from)), (a_t_until, .inl (cT 0, 12, .inl t_until))] := by
    intro n
    induction n with
    | zero =>
      intro y2 y3 h
      exact zno ((fX8_keptOut_b4_0 _ _ _ _ _ _ _).symm.trans h)
    | succ n ih =>
      intro y2 y3 h
      replace h := (fX8_keptOut_b4_s _ _ _ _ _ _ _ _).symm.trans h
      refine xi_iload_n C 3 dX8_keptOut_4 rfl ?_
      refine xi_aload_n C 0 dX8_keptOut_5 rfl ?_
      refine xi_get C zkX8 3 0 zlX8_21 (by decide) rfl rfl dX8_keptOut_6 ?_
      refine xi_icmp_ge C (tgt := 49) dX8_keptOut_9 rfl (fun c1 => ?_) (fun c1 => ?_)
      · replace h := (if_pos c1).symm.trans h
        refine xi_iload_n C 2 dX8_keptOut_49 rfl ?_
        obtain rfl := Option.some.inj h
        exact hE _ _ _ dX8_keptOut_50 rfl
      · replace h := (if_neg c1).symm.trans h
        refine xi_aload_n C 0 dX8_keptOut_12 rfl ?_
        refine xi_get C zkX8 1 0 zlX8_15 (by decide) rfl rfl dX8_keptOut_13 ?_
        refine xi_iload_n C 3 dX8_keptOut_16 rfl ?_
        replace h := ig h
        obtain ⟨c2, h⟩ := h
        refine xi_iald C 2 rfl c2 dX8_keptOut_17 ?_
        refine xi_iload_n C 1 dX8_keptOut_18 rfl ?_
        refine xi_icmp_gt C (tgt := 43) dX8_keptOut_19 rfl (fun c3 => ?_) (fun c3 => ?_)
        · replace h := (if_pos c3).symm.trans h
          refine xi_iinc C (v := y3 + 1) 3 [1, 2, 3, 0] (L2 := [(0, .ref a_t), (1, .int x1), (2, .int y2), (3, .int (y3 + 1))]) dX8_keptOut_43 rfl rfl (Nat.le_of_ble_eq_true rfl) rfl ?_
          refine xi_goto C (tgt := 4) dX8_keptOut_46 rfl ?_
          exact ih y2 (y3 + 1) h
        · replace h := (if_neg c3).symm.trans h
          refine xi_iload_n C 1 dX8_keptOut_22 rfl ?_
          refine xi_aload_n C 0 dX8_keptOut_23 rfl ?_
          refine xi_get C zkX8 2 0 zlX8_18 (by decide) rfl rfl dX8_keptOut_24 ?_
          refine xi_iload_n C 3 dX8_keptOut_27 rfl ?_
          refine xi_iald C 3 rfl c2 dX8_keptOut_28 ?_
          refine xi_icmp_gt C (tgt := 43) dX8_keptOut_29 rfl (fun c4 => ?_) (fun c4 => ?_)
          · replace h := (if_pos c4).symm.trans h
            refine xi_iinc C (v := y3 + 1) 3 [1, 2, 3, 0] (L2 := [(0, .ref a_t), (1, .int x1), (2, .int y2), (3, .int (y3 + 1))]) dX8_keptOut_43 rfl rfl (Nat.le_of_ble_eq_true rfl) rfl ?_
            refine xi_goto C (tgt := 4) dX8_keptOut_46 rfl ?_
            exact ih y2 (y3 + 1) h
          · replace h := (if_neg c4).symm.trans h
            refine xi_iload_n C 2 dX8_keptOut_32 rfl ?_
            refine xi_iconst C (v := 1) dX8_keptOut_33 rfl ?_
            refine xi_aload_n C 0 dX8_keptOut_34 rfl ?_
            refine xi_get C zkX8 0 0 zlX8_9 (by decide) rfl rfl dX8_keptOut_35 ?_
            refine xi_iload_n C 3 dX8_keptOut_38 rfl ?_
            refine xi_iald C 1 rfl c2 dX8_keptOut_39 ?_
            refine xi_ishl C dX8_keptOut_40 ?_
            refine xi_ior C dX8_keptOut_41 ?_
            refine xi_topi (fun w5 ew5 => ?_)
            replace h := nmE ew5 h
            refine xi_istore_n C [1, 2, 0, 3] (L2 := [(0, .ref a_t), (1, .int x1), (2, .int w5), (3, .int y3)]) dX8_keptOut_42 (Nat.le_of_ble_eq_true rfl) rfl ?_
            refine xi_iinc C (v := y3 + 1) 3 [1, 2, 3, 0] (L2 := [(0, .ref a_t), (1, .int x1), (2, .int w5), (3, .int (y3 + 1))]) dX8_keptOut_43 rfl rfl (Nat.le_of_ble_eq_true rfl) rfl ?_
            refine xi_goto C (tgt := 4) dX8_keptOut_46 rfl ?_
            exact ih w5 (y3 + 1) h
  refine xi_drop (L2 := [(0, .ref a_t), (1, .int x1)]) [0, 1] rfl ?_
  refine xi_iconst C (v := 0) dX8_keptOut_0 rfl ?_
  refine xi_istore_n C [1, 2, 0] (L2 := [(0, .ref a_t), (1, .int x1), (2, .int 0)]) dX8_keptOut_1 (Nat.le_of_ble_eq_true rfl) rfl ?_
  refine xi_iconst C (v := 0) dX8_keptOut_2 rfl ?_
  refine xi_istore_n C [1, 2, 3, 0] (L2 := [(0, .ref a_t), (1, .int x1), (2, .int 0), (3, .int 0)]) dX8_keptOut_3 (Nat.le_of_ble_eq_true rfl) rfl ?_
  exact B4 FU 0 0 h
def fX1_openLines_b65 (K28 : Int32 → Int32 → Int32 → Option Int32) (y2 : Int32) (y3 : Int32) (y4 : Int32) : Option Int32 := K28 y2 (y3 &&& ((1 <<< (y4 &&& 31)) ^^^ (-1))) (y4 + 1)
def fX1_openLines_b28 (t_lineCount : Int32) (t_first : Nat → Int32) (t_second : Nat → Int32) : Nat → Int32 → Int32 → Int32 → Option Int32
  | 0, _, _, _ => none
  | n + 1, y2, y3, y4 => if t_lineCount ≤ y4 then some y3 else gd y4 24 (if (fX10_isIn y2 (t_first y4.toNatClampNeg)) = 0 then if (fX10_isIn y2 (t_second y4.toNatClampNeg)) = 0 then (fX1_openLines_b28 t_lineCount t_first t_second n) y2 y3 (y4 + 1) else fX1_openLines_b65 (fX1_openLines_b28 t_lineCount t_first t_second n) y2 y3 y4 else fX1_openLines_b65 (fX1_openLines_b28 t_lineCount t_first t_second n) y2 y3 y4)
theorem fX1_openLines_b28_0 (t_lineCount : Int32) (t_first : Nat → Int32) (t_second : Nat → Int32) (y2 : Int32) (y3 : Int32) (y4 : Int32) : fX1_openLines_b28 t_lineCount t_first t_second 0 y2 y3 y4 = none := rfl
theorem fX1_openLines_b28_s (t_lineCount : Int32) (t_first : Nat → Int32) (t_second : Nat → Int32) (n : Nat) (y2 : Int32) (y3 : Int32) (y4 : Int32) : fX1_openLines_b28 t_lineCount t_first t_second (n + 1) y2 y3 y4 = (if t_lineCount ≤ y4 then some y3 else gd y4 24 (if (fX10_isIn y2 (t_first y4.toNatClampNeg)) = 0 then if (fX10_isIn y2 (t_second y4.toNatClampNeg)) = 0 then (fX1_openLines_b28 t_lineCount t_first t_second n) y2 y3 (y4 + 1) else fX1_openLines_b65 (fX1_openLines_b28 t_lineCount t_first t_second n) y2 y3 y4 else fX1_openLines_b65 (fX1_openLines_b28 t_lineCount t_first t_second n) y2 y3 y4)) := rfl
def fX1_openLines (t_lineCount : Int32) (t_first : Nat → Int32) (t_second : Nat → Int32) (t_breaks_count : Int32) (t_breaks_whose : Nat → Int32) (t_breaks_from : Nat → Int32) (t_breaks_until : Nat → Int32) (t_absences_count : Int32) (t_absences_whose : Nat → Int32) (t_absences_from : Nat → Int32) (t_absences_until : Nat → Int32) (x1 : Int32) : Option Int32 := (fX8_keptOut t_absences_count t_absences_whose t_absences_from t_absences_until x1).bind (fun u1 => (fX8_keptOut t_breaks_count t_breaks_whose t_breaks_from t_breaks_until x1).bind (fun u7 => nm ((fX1_allLines t_lineCount) &&& (u7 ^^^ (-1))) (fun w10 => fX1_openLines_b28 t_lineCount t_first t_second FU u1 w10 0)))
set_option maxRecDepth 100000 in
set_option maxHeartbeats 4000000 in
theorem kX1_openLines (l : Launch) (D : va_G) (cT : Nat → ClassId) (a_t : Nat) (a_t_first : Nat) (a_t_second : Nat) (a_t_cost : Nat) (a_t_oneWay : Nat) (a_t_breaks : Nat) (a_t_absences : Nat) (a_t_breaks_whose : Nat) (a_t_breaks_from : Nat) (a_t_breaks_until : Nat) (a_t_absences_whose : Nat) (a_t_absences_from : Nat) (a_t_absences_until : Nat) (t_people : Int32) (t_lineCount : Int32) (t_first : Nat → Int32) (t_second : Nat → Int32) (t_breaks_count : Int32) (t_breaks_whose : Nat → Int32) (t_breaks_from : Nat → Int32) (t_breaks_until : Nat → Int32) (t_absences_count : Int32) (t_absences_whose : Nat → Int32) (t_absences_from : Nat → Int32) (t_absences_until : Nat → Int32) (x1 : Int32) (r : Int32) (h : fX1_openLines t_lineCount t_first t_second t_breaks_count t_breaks_whose t_breaks_from t_breaks_until t_absences_count t_absences_whose t_absences_from t_absences_until x1 = some r) : sM l yX1_openLines cX1_openLines 5 (some .int) (zR 2) D cT [.ref a_t, .int x1] [(a_t, .inr (1, [.int t_people, .int t_lineCount, .ref a_t_first, .ref a_t_second, .ref a_t_cost, .ref a_t_oneWay, .ref a_t_breaks, .ref a_t_absences])), (a_t_first, .inl (cT 0, 24, .inl t_first)), (a_t_second, .inl (cT 0, 24, .inl t_second)), (a_t_breaks, .inr (8, [.ref a_t_breaks_whose, .ref a_t_breaks_from, .ref a_t_breaks_until, .int t_breaks_count])), (a_t_breaks_whose, .inl (cT 0, 12, .inl t_breaks_whose)), (a_t_breaks_from, .inl (cT 0, 12, .inl t_breaks_from)), (a_t_breaks_until, .inl (cT 0, 12, .inl t_breaks_until)), (a_t_absences, .inr (8, [.ref a_t_absences_whose, .ref a_t_absences_from, .ref a_t_absences_until, .int t_absences_count])), (a_t_absences_whose, .inl (cT 0, 12, .inl t_absences_whose)), (a_t_absences_from, .inl (cT 0, 12, .inl t_absences_from)), (a_t_absences_until, .inl (cT 0, 12, .inl t_absences_until))] (some (.int r)) [(a_t, .inr (1, [.int t_people, .int t_lineCount, .ref a_t_first, .ref a_t_second, .ref a_t_cost, .ref a_t_oneWay, .ref a_t_breaks, .ref a_t_absences])), (a_t_first, .inl (cT 0, 24, .inl t_first)), (a_t_second, .inl (cT 0, 24, .inl t_second)), (a_t_breaks, .inr (8, [.ref a_t_breaks_whose, .ref a_t_breaks_from, .ref a_t_breaks_until, .int t_breaks_count])), (a_t_breaks_whose, .inl (cT 0, 12, .inl t_breaks_whose)), (a_t_breaks_from, .inl (cT 0, 12, .inl t_breaks_from)), (a_t_breaks_until, .inl (cT 0, 12, .inl t_breaks_until)), (a_t_absences, .inr (8, [.ref a_t_absences_whose, .ref a_t_absences_from, .ref a_t_absences_until, .int t_absences_count])), (a_t_absences_whose, .inl (cT 0, 12, .inl t_absences_whose)), (a_t_absences_from, .inl (cT 0, 12, .inl t_absences_from)), (a_t_absences_until, .inl (cT 0, 12, .inl t_absences_until))] := by
  refine sM_int rfl (Nat.le_of_ble_eq_true rfl) ?_
  intro X C hE
  have B65 : ∀ (K28 : Int32 → Int32 → Int32 → Option Int32) (hK28 : ∀ (y2 : Int32) (y3 : Int32) (y4 : Int32), K28 y2 y3 y4 = some r → sW X l (zR 2) D 5 0 0 28 [(0, .ref a_t), (2, .int y2), (3, .int y3), (4, .int y4)] [] [(a_t, .inr (1, [.int t_people, .int t_lineCount, .ref a_t_first, .ref a_t_second, .ref a_t_cost, .ref a_t_oneWay, .ref a_t_breaks, .ref a_t_absences])), (a_t_first, .inl (cT 0, 24, .inl t_first)), (a_t_second, .inl (cT 0, 24, .inl t_second)), (a_t_breaks, .inr (8, [.ref a_t_breaks_whose, .ref a_t_breaks_from, .ref a_t_breaks_until, .int t_breaks_count])), (a_t_breaks_whose, .inl (cT 0, 12, .inl t_breaks_whose)), (a_t_breaks_from, .inl (cT 0, 12, .inl t_breaks_from)), (a_t_breaks_until, .inl (cT 0, 12, .inl t_breaks_until)), (a_t_absences, .inr (8, [.ref a_t_absences_whose, .ref a_t_absences_from, .ref a_t_absences_until, .int t_absences_count])), (a_t_absences_whose, .inl (cT 0, 12, .inl t_absences_whose)), (a_t_absences_from, .inl (cT 0, 12, .inl t_absences_from)), (a_t_absences_until, .inl (cT 0, 12, .inl t_absences_until))]) (y2 : Int32) (y3 : Int32) (y4 : Int32), fX1_openLines_b65 K28 y2 y3 y4 = some r → sW X l (zR 2) D 5 0 0 65 [(0, .ref a_t), (2, .int y2), (3, .int y3), (4, .int y4)] [] [(a_t, .inr (1, [.int t_people, .int t_lineCount, .ref a_t_first, .ref a_t_second, .ref a_t_cost, .ref a_t_oneWay, .ref a_t_breaks, .ref a_t_absences])), (a_t_first, .inl (cT 0, 24, .inl t_first)), (a_t_second, .inl (cT 0, 24, .inl t_second)), (a_t_breaks, .inr (8, [.ref a_t_breaks_whose, .ref a_t_breaks_from, .ref a_t_breaks_until, .int t_breaks_count])), (a_t_breaks_whose, .inl (cT 0, 12, .inl t_breaks_whose)), (a_t_breaks_from, .inl (cT 0, 12, .inl t_breaks_from)), (a_t_breaks_until, .inl (cT 0, 12, .inl t_breaks_until)), (a_t_absences, .inr (8, [.ref a_t_absences_whose, .ref a_t_absences_from, .ref a_t_absences_until, .int t_absences_count])), (a_t_absences_whose, .inl (cT 0, 12, .inl t_absences_whose)), (a_t_absences_from, .inl (cT 0, 12, .inl t_absences_from)), (a_t_absences_until, .inl (cT 0, 12, .inl t_absences_until))] := by
    intro K28 hK28 y2 y3 y4 h
    refine xi_iload_n C 2 dX1_openLines_65 rfl ?_
    refine xi_iconst C (v := 1) dX1_openLines_66 rfl ?_
    refine xi_iload C 3 dX1_openLines_67 rfl ?_
    refine xi_ishl C dX1_openLines_69 ?_
    refine xi_iconst C (v := (-1)) dX1_openLines_70 rfl ?_
    refine xi_ixor C dX1_openLines_71 ?_
    refine xi_iand C dX1_openLines_72 ?_
    refine xi_istore_n C [1, 2, 0, 3] (L2 := [(0, .ref a_t), (2, .int y2), (3, .int (y3 &&& ((1 <<< (y4 &&& 31)) ^^^ (-1)))), (4, .int y4)]) dX1_openLines_73 (Nat.le_of_ble_eq_true rfl) rfl ?_
    refine xi_iinc C (v := y4 + 1) 3 [1, 2, 3, 0] (L2 := [(0, .ref a_t), (2, .int y2), (3, .int (y3 &&& ((1 <<< (y4 &&& 31)) ^^^ (-1)))), (4, .int (y4 + 1))]) dX1_openLines_74 rfl rfl (Nat.le_of_ble_eq_true rfl) rfl ?_
    refine xi_goto C (tgt := 28) dX1_openLines_77 rfl ?_
    exact hK28 y2 (y3 &&& ((1 <<< (y4 &&& 31)) ^^^ (-1))) (y4 + 1) h
  have B28 : ∀ (n : Nat) (y2 : Int32) (y3 : Int32) (y4 : Int32), fX1_openLines_b28 t_lineCount t_first t_second n y2 y3 y4 = some r → sW X l (zR 2) D 5 0 0 28 [(0, .ref a_t), (2, .int y2), (3, .int y3), (4, .int y4)] [] [(a_t, .inr (1, [.int t_people, .int t_lineCount, .ref a_t_first, .ref a_t_second, .ref a_t_cost, .ref a_t_oneWay, .ref a_t_breaks, .ref a_t_absences])), (a_t_first, .inl (cT 0, 24, .inl t_first)), (a_t_second, .inl (cT 0, 24, .inl t_second)), (a_t_breaks, .inr (8, [.ref a_t_breaks_whose, .ref a_t_breaks_from, .ref a_t_breaks_until, .int t_breaks_count])), (a_t_breaks_whose, .inl (cT 0, 12, .inl t_breaks_whose)), (a_t_breaks_from, .inl (cT 0, 12, .inl t_breaks_from)), (a_t_breaks_until, .inl (cT 0, 12, .inl t_breaks_until)), (a_t_absences, .inr (8, [.ref a_t_absences_whose, .ref a_t_absences_from, .ref a_t_absences_until, .int t_absences_count])), (a_t_absences_whose, .inl (cT 0, 12, .inl t_absences_whose)), (a_t_absences_from, .inl (cT 0, 12, .inl t_absences_from)), (a_t_absences_until, .inl (cT 0, 12, .inl t_absences_until))] := by
    intro n
    induction n with
    | zero =>
      intro y2 y3 y4 h
      exact zno ((fX1_openLines_b28_0 _ _ _ _ _ _).symm.trans h)
    | succ n ih =>
      intro y2 y3 y4 h
      replace h := (fX1_openLines_b28_s _ _ _ _ _ _ _).symm.trans h
      refine xi_iload C 3 dX1_openLines_28 rfl ?_
      refine xi_aload_n C 0 dX1_openLines_30 rfl ?_
      refine xi_get C zkX1 1 0 zlX1_15 (by decide) rfl rfl dX1_openLines_31 ?_
      refine xi_icmp_ge C (tgt := 80) dX1_openLines_34 rfl (fun c11 => ?_) (fun c11 => ?_)
      · replace h := (if_pos c11).symm.trans h
        refine xi_iload_n C 2 dX1_openLines_80 rfl ?_
        obtain rfl := Option.some.inj h
        exact hE _ _ _ dX1_openLines_81 rfl
      · replace h := (if_neg c11).symm.trans h
        refine xi_iload_n C 1 dX1_openLines_37 rfl ?_
        refine xi_aload_n C 0 dX1_openLines_38 rfl ?_
        refine xi_get C zkX1 2 0 zlX1_18 (by decide) rfl rfl dX1_openLines_39 ?_
        refine xi_iload C 3 dX1_openLines_42 rfl ?_
        replace h := ig h
        obtain ⟨c12, h⟩ := h
        refine xi_iald C 1 rfl c12 dX1_openLines_44 ?_
        refine xi_callSr C (kX10_isIn l D cT y2 (t_first y4.toNatClampNeg) (fX10_isIn y2 (t_first y4.toNatClampNeg)) rfl) zcX10_isIn zmX1_57 zsX10_isIn (zr rfl rfl) z00 rfl [] rfl rfl rfl (Nat.le_of_ble_eq_true rfl) dX1_openLines_45 (fun z15 => ?_)
        refine xi_if_ne C (tgt := 65) dX1_openLines_48 rfl (fun c16 => ?_) (fun c16 => ?_)
        · replace h := (if_neg c16).symm.trans h
          exact B65 (fX1_openLines_b28 t_lineCount t_first t_second n) ih y2 y3 y4 h
        · replace h := (if_pos c16).symm.trans h
          refine xi_iload_n C 1 dX1_openLines_51 rfl ?_
          refine xi_aload_n C 0 dX1_openLines_52 rfl ?_
          refine xi_get C zkX1 3 0 zlX1_22 (by decide) rfl rfl dX1_openLines_53 ?_
          refine xi_iload C 3 dX1_openLines_56 rfl ?_
          refine xi_iald C 2 rfl c12 dX1_openLines_58 ?_
          refine xi_callSr C (kX10_isIn l D cT y2 (t_second y4.toNatClampNeg) (fX10_isIn y2 (t_second y4.toNatClampNeg)) rfl) zcX10_isIn zmX1_57 zsX10_isIn (zr rfl rfl) z00 rfl [] rfl rfl rfl (Nat.le_of_ble_eq_true rfl) dX1_openLines_59 (fun z19 => ?_)
          refine xi_if_eq C (tgt := 74) dX1_openLines_62 rfl (fun c20 => ?_) (fun c20 => ?_)
          · replace h := (if_pos c20).symm.trans h
            refine xi_iinc C (v := y4 + 1) 3 [1, 2, 3, 0] (L2 := [(0, .ref a_t), (2, .int y2), (3, .int y3), (4, .int (y4 + 1))]) dX1_openLines_74 rfl rfl (Nat.le_of_ble_eq_true rfl) rfl ?_
            refine xi_goto C (tgt := 28) dX1_openLines_77 rfl ?_
            exact ih y2 y3 (y4 + 1) h
          · replace h := (if_neg c20).symm.trans h
            exact B65 (fX1_openLines_b28 t_lineCount t_first t_second n) ih y2 y3 y4 h
  refine xi_drop (L2 := [(0, .ref a_t), (1, .int x1)]) [0, 1] rfl ?_
  refine xi_aload_n C 0 dX1_openLines_0 rfl ?_
  refine xi_get C zkX1 7 0 zlX1_39 (by decide) rfl rfl dX1_openLines_1 ?_
  refine xi_iload_n C 1 dX1_openLines_4 rfl ?_
  replace h := ob h
  obtain ⟨u1, hu2, h⟩ := h
  refine xi_callVr C (kX8_keptOut l D cT a_t_absences a_t_absences_whose a_t_absences_from a_t_absences_until t_absences_count t_absences_whose t_absences_from t_absences_until x1 u1 hu2) zcX8_keptOut zmX1_49 ziX8_keptOut (zr rfl rfl) z00 rfl [7, 8, 9, 10] rfl rfl zkX8.1 (qr := 7) rfl rfl (Nat.le_of_ble_eq_true rfl) dX1_openLines_5 (fun z3 => ?_)
  refine xi_istore_n C [1, 2, 0] (L2 := [(0, .ref a_t), (1, .int x1), (2, .int u1)]) dX1_openLines_8 (Nat.le_of_ble_eq_true rfl) rfl ?_
  refine xi_aload_n C 0 dX1_openLines_9 rfl ?_
  refine xi_callVr C (kX1_allLines l D cT a_t a_t_first a_t_second a_t_cost a_t_oneWay a_t_breaks a_t_absences t_people t_lineCount (fX1_allLines t_lineCount) rfl) zcX1_allLines zmX1_53 ziX1_allLines (zr rfl rfl) z00 rfl [0] rfl rfl zkX1.1 (qr := 0) rfl rfl (Nat.le_of_ble_eq_true rfl) dX1_openLines_10 (fun z6 => ?_)
  refine xi_aload_n C 0 dX1_openLines_13 rfl ?_
  refine xi_get C zkX1 6 0 zlX1_35 (by decide) rfl rfl dX1_openLines_14 ?_
  refine xi_iload_n C 1 dX1_openLines_17 rfl ?_
  replace h := ob h
  obtain ⟨u7, hu8, h⟩ := h
  refine xi_callVr C (kX8_keptOut l D cT a_t_breaks a_t_breaks_whose a_t_breaks_from a_t_breaks_until t_breaks_count t_breaks_whose t_breaks_from t_breaks_until x1 u7 hu8) zcX8_keptOut zmX1_49 ziX8_keptOut (zr rfl rfl) z00 rfl [3, 4, 5, 6] rfl rfl zkX8.1 (qr := 3) rfl rfl (Nat.le_of_ble_eq_true rfl) dX1_openLines_18 (fun z9 => ?_)
  refine xi_iconst C (v := (-1)) dX1_openLines_21 rfl ?_
  refine xi_ixor C dX1_openLines_22 ?_
  refine xi_iand C dX1_openLines_23 ?_
  refine xi_topi (fun w10 ew10 => ?_)
  replace h := nmE ew10 h
  refine xi_istore_n C [1, 2, 3, 0] (L2 := [(0, .ref a_t), (1, .int x1), (2, .int u1), (3, .int w10)]) dX1_openLines_24 (Nat.le_of_ble_eq_true rfl) rfl ?_
  refine xi_iconst C (v := 0) dX1_openLines_25 rfl ?_
  refine xi_istore C [1, 2, 3, 4, 0] (L2 := [(0, .ref a_t), (1, .int x1), (2, .int u1), (3, .int w10), (4, .int 0)]) dX1_openLines_26 (Nat.le_of_ble_eq_true rfl) rfl ?_
  refine xi_drop (L2 := [(0, .ref a_t), (2, .int u1), (3, .int w10), (4, .int 0)]) [0, 2, 3, 4] rfl ?_
  exact B28 FU u1 w10 0 h
def fX1_costOf_b4 (t_lineCount : Int32) (t_cost : Nat → Int32) (x1 : Int32) : Nat → Int32 → Int32 → Option Int32
  | 0, _, _ => none
  | n + 1, y2, y3 => if t_lineCount ≤ y3 then some y2 else if (fX10_isIn x1 y3) = 0 then (fX1_costOf_b4 t_lineCount t_cost x1 n) y2 (y3 + 1) else gd y3 24 ((fX1_costOf_b4 t_lineCount t_cost x1 n) (y2 + (t_cost y3.toNatClampNeg)) (y3 + 1))
theorem fX1_costOf_b4_0 (t_lineCount : Int32) (t_cost : Nat → Int32) (x1 : Int32) (y2 : Int32) (y3 : Int32) : fX1_costOf_b4 t_lineCount t_cost x1 0 y2 y3 = none := rfl
theorem fX1_costOf_b4_s (t_lineCount : Int32) (t_cost : Nat → Int32) (x1 : Int32) (n : Nat) (y2 : Int32) (y3 : Int32) : fX1_costOf_b4 t_lineCount t_cost x1 (n + 1) y2 y3 = (if t_lineCount ≤ y3 then some y2 else if (fX10_isIn x1 y3) = 0 then (fX1_costOf_b4 t_lineCount t_cost x1 n) y2 (y3 + 1) else gd y3 24 ((fX1_costOf_b4 t_lineCount t_cost x1 n) (y2 + (t_cost y3.toNatClampNeg)) (y3 + 1))) := rfl
def fX1_costOf (t_lineCount : Int32) (t_cost : Nat → Int32) (x1 : Int32) : Option Int32 := fX1_costOf_b4 t_lineCount t_cost x1 FU 0 0
set_option maxRecDepth 100000 in
set_option maxHeartbeats 4000000 in
theorem kX1_costOf (l : Launch) (D : va_G) (cT : Nat → ClassId) (a_t : Nat) (a_t_first : Nat) (a_t_second : Nat) (a_t_cost : Nat) (a_t_oneWay : Nat) (a_t_breaks : Nat) (a_t_absences : Nat) (t_people : Int32) (t_lineCount : Int32) (t_cost : Nat → Int32) (x1 : Int32) (r : Int32) (h : fX1_costOf t_lineCount t_cost x1 = some r) : sM l yX1_costOf cX1_costOf 4 (some .int) (zR 2) D cT [.ref a_t, .int x1] [(a_t, .inr (1, [.int t_people, .int t_lineCount, .ref a_t_first, .ref a_t_second, .ref a_t_cost, .ref a_t_oneWay, .ref a_t_breaks, .ref a_t_absences])), (a_t_cost, .inl (cT 0, 24, .inl t_cost))] (some (.int r)) [(a_t, .inr (1, [.int t_people, .int t_lineCount, .ref a_t_first, .ref a_t_second, .ref a_t_cost, .ref a_t_oneWay, .ref a_t_breaks, .ref a_t_absences])), (a_t_cost, .inl (cT 0, 24, .inl t_cost))] := by
  refine sM_int rfl (Nat.le_of_ble_eq_true rfl) ?_
  intro X C hE
  have B4 : ∀ (n : Nat) (y2 : Int32) (y3 : Int32), fX1_costOf_b4 t_lineCount t_cost x1 n y2 y3 = some r → sW X l (zR 2) D 4 0 0 4 [(0, .ref a_t), (1, .int x1), (2, .int y2), (3, .int y3)] [] [(a_t, .inr (1, [.int t_people, .int t_lineCount, .ref a_t_first, .ref a_t_second, .ref a_t_cost, .ref a_t_oneWay, .ref a_t_breaks, .ref a_t_absences])), (a_t_cost, .inl (cT 0, 24, .inl t_cost))] := by
    intro n
    induction n with
    | zero =>
      intro y2 y3 h
      exact zno ((fX1_costOf_b4_0 _ _ _ _ _).symm.trans h)
    | succ n ih =>
      intro y2 y3 h
      replace h := (fX1_costOf_b4_s _ _ _ _ _ _).symm.trans h
      refine xi_iload_n C 3 dX1_costOf_4 rfl ?_
      refine xi_aload_n C 0 dX1_costOf_5 rfl ?_
      refine xi_get C zkX1 1 0 zlX1_15 (by decide) rfl rfl dX1_costOf_6 ?_
      refine xi_icmp_ge C (tgt := 35) dX1_costOf_9 rfl (fun c1 => ?_) (fun c1 => ?_)
      · replace h := (if_pos c1).symm.trans h
        refine xi_iload_n C 2 dX1_costOf_35 rfl ?_
        obtain rfl := Option.some.inj h
        exact hE _ _ _ dX1_costOf_36 rfl
      · replace h := (if_neg c1).symm.trans h
        refine xi_iload_n C 1 dX1_costOf_12 rfl ?_
        refine xi_iload_n C 3 dX1_costOf_13 rfl ?_
        refine xi_callSr C (kX10_isIn l D cT x1 y3 (fX10_isIn x1 y3) rfl) zcX10_isIn zmX1_57 zsX10_isIn (zr rfl rfl) z00 rfl [] rfl rfl rfl (Nat.le_of_ble_eq_true rfl) dX1_costOf_14 (fun z4 => ?_)
        refine xi_if_eq C (tgt := 29) dX1_costOf_17 rfl (fun c5 => ?_) (fun c5 => ?_)
        · replace h := (if_pos c5).symm.trans h
          refine xi_iinc C (v := y3 + 1) 3 [1, 2, 3, 0] (L2 := [(0, .ref a_t), (1, .int x1), (2, .int y2), (3, .int (y3 + 1))]) dX1_costOf_29 rfl rfl (Nat.le_of_ble_eq_true rfl) rfl ?_
          refine xi_goto C (tgt := 4) dX1_costOf_32 rfl ?_
          exact ih y2 (y3 + 1) h
        · replace h := (if_neg c5).symm.trans h
          refine xi_iload_n C 2 dX1_costOf_20 rfl ?_
          refine xi_aload_n C 0 dX1_costOf_21 rfl ?_
          refine xi_get C zkX1 4 0 zlX1_25 (by decide) rfl rfl dX1_costOf_22 ?_
          refine xi_iload_n C 3 dX1_costOf_25 rfl ?_
          replace h := ig h
          obtain ⟨c6, h⟩ := h
          refine xi_iald C 1 rfl c6 dX1_costOf_26 ?_
          refine xi_iadd C dX1_costOf_27 ?_
          refine xi_istore_n C [1, 2, 0, 3] (L2 := [(0, .ref a_t), (1, .int x1), (2, .int (y2 + (t_cost y3.toNatClampNeg))), (3, .int y3)]) dX1_costOf_28 (Nat.le_of_ble_eq_true rfl) rfl ?_
          refine xi_iinc C (v := y3 + 1) 3 [1, 2, 3, 0] (L2 := [(0, .ref a_t), (1, .int x1), (2, .int (y2 + (t_cost y3.toNatClampNeg))), (3, .int (y3 + 1))]) dX1_costOf_29 rfl rfl (Nat.le_of_ble_eq_true rfl) rfl ?_
          refine xi_goto C (tgt := 4) dX1_costOf_32 rfl ?_
          exact ih (y2 + (t_cost y3.toNatClampNeg)) (y3 + 1) h
  refine xi_drop (L2 := [(0, .ref a_t), (1, .int x1)]) [0, 1] rfl ?_
  refine xi_iconst C (v := 0) dX1_costOf_0 rfl ?_
  refine xi_istore_n C [1, 2, 0] (L2 := [(0, .ref a_t), (1, .int x1), (2, .int 0)]) dX1_costOf_1 (Nat.le_of_ble_eq_true rfl) rfl ?_
  refine xi_iconst C (v := 0) dX1_costOf_2 rfl ?_
  refine xi_istore_n C [1, 2, 3, 0] (L2 := [(0, .ref a_t), (1, .int x1), (2, .int 0), (3, .int 0)]) dX1_costOf_3 (Nat.le_of_ble_eq_true rfl) rfl ?_
  exact B4 FU 0 0 h
def fX1_personsOf_b4 (t_lineCount : Int32) (t_first : Nat → Int32) (t_second : Nat → Int32) (x1 : Int32) : Nat → Int32 → Int32 → Option Int32
  | 0, _, _ => none
  | n + 1, y2, y3 => if t_lineCount ≤ y3 then some y2 else if (fX10_isIn x1 y3) = 0 then (fX1_personsOf_b4 t_lineCount t_first t_second x1 n) y2 (y3 + 1) else gd y3 24 (nm (y2 ||| ((1 <<< ((t_first y3.toNatClampNeg) &&& 31)) ||| (1 <<< ((t_second y3.toNatClampNeg) &&& 31)))) (fun w7 => (fX1_personsOf_b4 t_lineCount t_first t_second x1 n) w7 (y3 + 1)))
theorem fX1_personsOf_b4_0 (t_lineCount : Int32) (t_first : Nat → Int32) (t_second : Nat → Int32) (x1 : Int32) (y2 : Int32) (y3 : Int32) : fX1_personsOf_b4 t_lineCount t_first t_second x1 0 y2 y3 = none := rfl
theorem fX1_personsOf_b4_s (t_lineCount : Int32) (t_first : Nat → Int32) (t_second : Nat → Int32) (x1 : Int32) (n : Nat) (y2 : Int32) (y3 : Int32) : fX1_personsOf_b4 t_lineCount t_first t_second x1 (n + 1) y2 y3 = (if t_lineCount ≤ y3 then some y2 else if (fX10_isIn x1 y3) = 0 then (fX1_personsOf_b4 t_lineCount t_first t_second x1 n) y2 (y3 + 1) else gd y3 24 (nm (y2 ||| ((1 <<< ((t_first y3.toNatClampNeg) &&& 31)) ||| (1 <<< ((t_second y3.toNatClampNeg) &&& 31)))) (fun w7 => (fX1_personsOf_b4 t_lineCount t_first t_second x1 n) w7 (y3 + 1)))) := rfl
def fX1_personsOf (t_lineCount : Int32) (t_first : Nat → Int32) (t_second : Nat → Int32) (x1 : Int32) : Option Int32 := fX1_personsOf_b4 t_lineCount t_first t_second x1 FU 0 0
set_option maxRecDepth 100000 in
set_option maxHeartbeats 4000000 in
theorem kX1_personsOf (l : Launch) (D : va_G) (cT : Nat → ClassId) (a_t : Nat) (a_t_first : Nat) (a_t_second : Nat) (a_t_cost : Nat) (a_t_oneWay : Nat) (a_t_breaks : Nat) (a_t_absences : Nat) (t_people : Int32) (t_lineCount : Int32) (t_first : Nat → Int32) (t_second : Nat → Int32) (x1 : Int32) (r : Int32) (h : fX1_personsOf t_lineCount t_first t_second x1 = some r) : sM l yX1_personsOf cX1_personsOf 4 (some .int) (zR 2) D cT [.ref a_t, .int x1] [(a_t, .inr (1, [.int t_people, .int t_lineCount, .ref a_t_first, .ref a_t_second, .ref a_t_cost, .ref a_t_oneWay, .ref a_t_breaks, .ref a_t_absences])), (a_t_first, .inl (cT 0, 24, .inl t_first)), (a_t_second, .inl (cT 0, 24, .inl t_second))] (some (.int r)) [(a_t, .inr (1, [.int t_people, .int t_lineCount, .ref a_t_first, .ref a_t_second, .ref a_t_cost, .ref a_t_oneWay, .ref a_t_breaks, .ref a_t_absences])), (a_t_first, .inl (cT 0, 24, .inl t_first)), (a_t_second, .inl (cT 0, 24, .inl t_second))] := by
  refine sM_int rfl (Nat.le_of_ble_eq_true rfl) ?_
  intro X C hE
  have B4 : ∀ (n : Nat) (y2 : Int32) (y3 : Int32), fX1_personsOf_b4 t_lineCount t_first t_second x1 n y2 y3 = some r → sW X l (zR 2) D 4 0 0 4 [(0, .ref a_t), (1, .int x1), (2, .int y2), (3, .int y3)] [] [(a_t, .inr (1, [.int t_people, .int t_lineCount, .ref a_t_first, .ref a_t_second, .ref a_t_cost, .ref a_t_oneWay, .ref a_t_breaks, .ref a_t_absences])), (a_t_first, .inl (cT 0, 24, .inl t_first)), (a_t_second, .inl (cT 0, 24, .inl t_second))] := by
    intro n
    induction n with
    | zero =>
      intro y2 y3 h
      exact zno ((fX1_personsOf_b4_0 _ _ _ _ _ _).symm.trans h)
    | succ n ih =>
      intro y2 y3 h
      replace h := (fX1_personsOf_b4_s _ _ _ _ _ _ _).symm.trans h
      refine xi_iload_n C 3 dX1_personsOf_4 rfl ?_
      refine xi_aload_n C 0 dX1_personsOf_5 rfl ?_
      refine xi_get C zkX1 1 0 zlX1_15 (by decide) rfl rfl dX1_personsOf_6 ?_
      refine xi_icmp_ge C (tgt := 46) dX1_personsOf_9 rfl (fun c1 => ?_) (fun c1 => ?_)
      · replace h := (if_pos c1).symm.trans h
        refine xi_iload_n C 2 dX1_personsOf_46 rfl ?_
        obtain rfl := Option.some.inj h
        exact hE _ _ _ dX1_personsOf_47 rfl
      · replace h := (if_neg c1).symm.trans h
        refine xi_iload_n C 1 dX1_personsOf_12 rfl ?_
        refine xi_iload_n C 3 dX1_personsOf_13 rfl ?_
        refine xi_callSr C (kX10_isIn l D cT x1 y3 (fX10_isIn x1 y3) rfl) zcX10_isIn zmX1_57 zsX10_isIn (zr rfl rfl) z00 rfl [] rfl rfl rfl (Nat.le_of_ble_eq_true rfl) dX1_personsOf_14 (fun z4 => ?_)
        refine xi_if_eq C (tgt := 40) dX1_personsOf_17 rfl (fun c5 => ?_) (fun c5 => ?_)
        · replace h := (if_pos c5).symm.trans h
          refine xi_iinc C (v := y3 + 1) 3 [1, 2, 3, 0] (L2 := [(0, .ref a_t), (1, .int x1), (2, .int y2), (3, .int (y3 + 1))]) dX1_personsOf_40 rfl rfl (Nat.le_of_ble_eq_true rfl) rfl ?_
          refine xi_goto C (tgt := 4) dX1_personsOf_43 rfl ?_
          exact ih y2 (y3 + 1) h
        · replace h := (if_neg c5).symm.trans h
          refine xi_iload_n C 2 dX1_personsOf_20 rfl ?_
          refine xi_iconst C (v := 1) dX1_personsOf_21 rfl ?_
          refine xi_aload_n C 0 dX1_personsOf_22 rfl ?_
          refine xi_get C zkX1 2 0 zlX1_18 (by decide) rfl rfl dX1_personsOf_23 ?_
          refine xi_iload_n C 3 dX1_personsOf_26 rfl ?_
          replace h := ig h
          obtain ⟨c6, h⟩ := h
          refine xi_iald C 1 rfl c6 dX1_personsOf_27 ?_
          refine xi_ishl C dX1_personsOf_28 ?_
          refine xi_iconst C (v := 1) dX1_personsOf_29 rfl ?_
          refine xi_aload_n C 0 dX1_personsOf_30 rfl ?_
          refine xi_get C zkX1 3 0 zlX1_22 (by decide) rfl rfl dX1_personsOf_31 ?_
          refine xi_iload_n C 3 dX1_personsOf_34 rfl ?_
          refine xi_iald C 2 rfl c6 dX1_personsOf_35 ?_
          refine xi_ishl C dX1_personsOf_36 ?_
          refine xi_ior C dX1_personsOf_37 ?_
          refine xi_ior C dX1_personsOf_38 ?_
          refine xi_topi (fun w7 ew7 => ?_)
          replace h := nmE ew7 h
          refine xi_istore_n C [1, 2, 0, 3] (L2 := [(0, .ref a_t), (1, .int x1), (2, .int w7), (3, .int y3)]) dX1_personsOf_39 (Nat.le_of_ble_eq_true rfl) rfl ?_
          refine xi_iinc C (v := y3 + 1) 3 [1, 2, 3, 0] (L2 := [(0, .ref a_t), (1, .int x1), (2, .int w7), (3, .int (y3 + 1))]) dX1_personsOf_40 rfl rfl (Nat.le_of_ble_eq_true rfl) rfl ?_
          refine xi_goto C (tgt := 4) dX1_personsOf_43 rfl ?_
          exact ih w7 (y3 + 1) h
  refine xi_drop (L2 := [(0, .ref a_t), (1, .int x1)]) [0, 1] rfl ?_
  refine xi_iconst C (v := 0) dX1_personsOf_0 rfl ?_
  refine xi_istore_n C [1, 2, 0] (L2 := [(0, .ref a_t), (1, .int x1), (2, .int 0)]) dX1_personsOf_1 (Nat.le_of_ble_eq_true rfl) rfl ?_
  refine xi_iconst C (v := 0) dX1_personsOf_2 rfl ?_
  refine xi_istore_n C [1, 2, 3, 0] (L2 := [(0, .ref a_t), (1, .int x1), (2, .int 0), (3, .int 0)]) dX1_personsOf_3 (Nat.le_of_ble_eq_true rfl) rfl ?_
  exact B4 FU 0 0 h
def fX1_otherPerson_b53 (t_first : Nat → Int32) (y3 : Int32) : Option Int32 := gd y3 24 (some (t_first y3.toNatClampNeg))
def fX1_otherPerson_b35 (t_first : Nat → Int32) (t_second : Nat → Int32) (x1 : Int32) (x2 : Int32) (K2 : Int32 → Option Int32) (y3 : Int32) : Option Int32 := if (fX10_isIn x1 y3) = 0 then K2 (y3 + 1) else gd y3 24 (if (t_second y3.toNatClampNeg) = x2 then fX1_otherPerson_b53 t_first y3 else K2 (y3 + 1))
def fX1_otherPerson_b28 (t_second : Nat → Int32) (y3 : Int32) : Option Int32 := gd y3 24 (some (t_second y3.toNatClampNeg))
def fX1_otherPerson_b2 (t_lineCount : Int32) (t_first : Nat → Int32) (t_second : Nat → Int32) (x1 : Int32) (x2 : Int32) : Nat → Int32 → Option Int32
  | 0, _ => none
  | n + 1, y3 => if t_lineCount ≤ y3 then some ((-1) : Int32) else if (fX10_isIn x1 y3) = 0 then fX1_otherPerson_b35 t_first t_second x1 x2 (fX1_otherPerson_b2 t_lineCount t_first t_second x1 x2 n) y3 else gd y3 24 (if (t_first y3.toNatClampNeg) = x2 then fX1_otherPerson_b28 t_second y3 else fX1_otherPerson_b35 t_first t_second x1 x2 (fX1_otherPerson_b2 t_lineCount t_first t_second x1 x2 n) y3)
theorem fX1_otherPerson_b2_0 (t_lineCount : Int32) (t_first : Nat → Int32) (t_second : Nat → Int32) (x1 : Int32) (x2 : Int32) (y3 : Int32) : fX1_otherPerson_b2 t_lineCount t_first t_second x1 x2 0 y3 = none := rfl
theorem fX1_otherPerson_b2_s (t_lineCount : Int32) (t_first : Nat → Int32) (t_second : Nat → Int32) (x1 : Int32) (x2 : Int32) (n : Nat) (y3 : Int32) : fX1_otherPerson_b2 t_lineCount t_first t_second x1 x2 (n + 1) y3 = (if t_lineCount ≤ y3 then some ((-1) : Int32) else if (fX10_isIn x1 y3) = 0 then fX1_otherPerson_b35 t_first t_second x1 x2 (fX1_otherPerson_b2 t_lineCount t_first t_second x1 x2 n) y3 else gd y3 24 (if (t_first y3.toNatClampNeg) = x2 then fX1_otherPerson_b28 t_second y3 else fX1_otherPerson_b35 t_first t_second x1 x2 (fX1_otherPerson_b2 t_lineCount t_first t_second x1 x2 n) y3)) := rfl
def fX1_otherPerson (t_lineCount : Int32) (t_first : Nat → Int32) (t_second : Nat → Int32) (x1 : Int32) (x2 : Int32) : Option Int32 := fX1_otherPerson_b2 t_lineCount t_first t_second x1 x2 FU 0
set_option maxRecDepth 100000 in
set_option maxHeartbeats 4000000 in
theorem kX1_otherPerson (l : Launch) (D : va_G) (cT : Nat → ClassId) (a_t : Nat) (a_t_first : Nat) (a_t_second : Nat) (a_t_cost : Nat) (a_t_oneWay : Nat) (a_t_breaks : Nat) (a_t_absences : Nat) (t_people : Int32) (t_lineCount : Int32) (t_first : Nat → Int32) (t_second : Nat → Int32) (x1 : Int32) (x2 : Int32) (r : Int32) (h : fX1_otherPerson t_lineCount t_first t_second x1 x2 = some r) : sM l yX1_otherPerson cX1_otherPerson 4 (some .int) (zR 2) D cT [.ref a_t, .int x1, .int x2] [(a_t, .inr (1, [.int t_people, .int t_lineCount, .ref a_t_first, .ref a_t_second, .ref a_t_cost, .ref a_t_oneWay, .ref a_t_breaks, .ref a_t_absences])), (a_t_first, .inl (cT 0, 24, .inl t_first)), (a_t_second, .inl (cT 0, 24, .inl t_second))] (some (.int r)) [(a_t, .inr (1, [.int t_people, .int t_lineCount, .ref a_t_first, .ref a_t_second, .ref a_t_cost, .ref a_t_oneWay, .ref a_t_breaks, .ref a_t_absences])), (a_t_first, .inl (cT 0, 24, .inl t_first)), (a_t_second, .inl (cT 0, 24, .inl t_second))] := by
  refine sM_int rfl (Nat.le_of_ble_eq_true rfl) ?_
  intro X C hE
  have B53 : ∀ (y3 : Int32), fX1_otherPerson_b53 t_first y3 = some r → sW X l (zR 2) D 4 0 0 53 [(0, .ref a_t), (3, .int y3)] [] [(a_t, .inr (1, [.int t_people, .int t_lineCount, .ref a_t_first, .ref a_t_second, .ref a_t_cost, .ref a_t_oneWay, .ref a_t_breaks, .ref a_t_absences])), (a_t_first, .inl (cT 0, 24, .inl t_first)), (a_t_second, .inl (cT 0, 24, .inl t_second))] := by
    intro y3 h
    refine xi_aload_n C 0 dX1_otherPerson_53 rfl ?_
    refine xi_get C zkX1 2 0 zlX1_18 (by decide) rfl rfl dX1_otherPerson_54 ?_
    refine xi_iload_n C 1 dX1_otherPerson_57 rfl ?_
    replace h := ig h
    obtain ⟨c12, h⟩ := h
    refine xi_iald C 1 rfl c12 dX1_otherPerson_58 ?_
    obtain rfl := Option.some.inj h
    exact hE _ _ _ dX1_otherPerson_59 rfl
  have B35 : ∀ (K2 : Int32 → Option Int32) (hK2 : ∀ (y3 : Int32), K2 y3 = some r → sW X l (zR 2) D 4 0 0 2 [(0, .ref a_t), (1, .int x1), (2, .int x2), (3, .int y3)] [] [(a_t, .inr (1, [.int t_people, .int t_lineCount, .ref a_t_first, .ref a_t_second, .ref a_t_cost, .ref a_t_oneWay, .ref a_t_breaks, .ref a_t_absences])), (a_t_first, .inl (cT 0, 24, .inl t_first)), (a_t_second, .inl (cT 0, 24, .inl t_second))]) (y3 : Int32), fX1_otherPerson_b35 t_first t_second x1 x2 K2 y3 = some r → sW X l (zR 2) D 4 0 0 35 [(0, .ref a_t), (1, .int x1), (2, .int x2), (3, .int y3)] [] [(a_t, .inr (1, [.int t_people, .int t_lineCount, .ref a_t_first, .ref a_t_second, .ref a_t_cost, .ref a_t_oneWay, .ref a_t_breaks, .ref a_t_absences])), (a_t_first, .inl (cT 0, 24, .inl t_first)), (a_t_second, .inl (cT 0, 24, .inl t_second))] := by
    intro K2 hK2 y3 h
    refine xi_iload_n C 1 dX1_otherPerson_35 rfl ?_
    refine xi_iload_n C 3 dX1_otherPerson_36 rfl ?_
    refine xi_callSr C (kX10_isIn l D cT x1 y3 (fX10_isIn x1 y3) rfl) zcX10_isIn zmX1_57 zsX10_isIn (zr rfl rfl) z00 rfl [] rfl rfl rfl (Nat.le_of_ble_eq_true rfl) dX1_otherPerson_37 (fun z8 => ?_)
    refine xi_if_eq C (tgt := 60) dX1_otherPerson_40 rfl (fun c9 => ?_) (fun c9 => ?_)
    · replace h := (if_pos c9).symm.trans h
      refine xi_iinc C (v := y3 + 1) 3 [1, 2, 3, 0] (L2 := [(0, .ref a_t), (1, .int x1), (2, .int x2), (3, .int (y3 + 1))]) dX1_otherPerson_60 rfl rfl (Nat.le_of_ble_eq_true rfl) rfl ?_
      refine xi_goto C (tgt := 2) dX1_otherPerson_63 rfl ?_
      exact hK2 (y3 + 1) h
    · replace h := (if_neg c9).symm.trans h
      refine xi_aload_n C 0 dX1_otherPerson_43 rfl ?_
      refine xi_get C zkX1 3 0 zlX1_22 (by decide) rfl rfl dX1_otherPerson_44 ?_
      refine xi_iload_n C 3 dX1_otherPerson_47 rfl ?_
      replace h := ig h
      obtain ⟨c10, h⟩ := h
      refine xi_iald C 2 rfl c10 dX1_otherPerson_48 ?_
      refine xi_iload_n C 2 dX1_otherPerson_49 rfl ?_
      refine xi_icmp_ne C (tgt := 60) dX1_otherPerson_50 rfl (fun c11 => ?_) (fun c11 => ?_)
      · replace h := (if_neg c11).symm.trans h
        refine xi_iinc C (v := y3 + 1) 3 [1, 2, 3, 0] (L2 := [(0, .ref a_t), (1, .int x1), (2, .int x2), (3, .int (y3 + 1))]) dX1_otherPerson_60 rfl rfl (Nat.le_of_ble_eq_true rfl) rfl ?_
        refine xi_goto C (tgt := 2) dX1_otherPerson_63 rfl ?_
        exact hK2 (y3 + 1) h
      · replace h := (if_pos c11).symm.trans h
        refine xi_drop (L2 := [(0, .ref a_t), (3, .int y3)]) [0, 3] rfl ?_
        exact B53 y3 h
  have B28 : ∀ (y3 : Int32), fX1_otherPerson_b28 t_second y3 = some r → sW X l (zR 2) D 4 0 0 28 [(0, .ref a_t), (3, .int y3)] [] [(a_t, .inr (1, [.int t_people, .int t_lineCount, .ref a_t_first, .ref a_t_second, .ref a_t_cost, .ref a_t_oneWay, .ref a_t_breaks, .ref a_t_absences])), (a_t_first, .inl (cT 0, 24, .inl t_first)), (a_t_second, .inl (cT 0, 24, .inl t_second))] := by
    intro y3 h
    refine xi_aload_n C 0 dX1_otherPerson_28 rfl ?_
    refine xi_get C zkX1 3 0 zlX1_22 (by decide) rfl rfl dX1_otherPerson_29 ?_
    refine xi_iload_n C 1 dX1_otherPerson_32 rfl ?_
    replace h := ig h
    obtain ⟨c15, h⟩ := h
    refine xi_iald C 2 rfl c15 dX1_otherPerson_33 ?_
    obtain rfl := Option.some.inj h
    exact hE _ _ _ dX1_otherPerson_34 rfl
  have B2 : ∀ (n : Nat) (y3 : Int32), fX1_otherPerson_b2 t_lineCount t_first t_second x1 x2 n y3 = some r → sW X l (zR 2) D 4 0 0 2 [(0, .ref a_t), (1, .int x1), (2, .int x2), (3, .int y3)] [] [(a_t, .inr (1, [.int t_people, .int t_lineCount, .ref a_t_first, .ref a_t_second, .ref a_t_cost, .ref a_t_oneWay, .ref a_t_breaks, .ref a_t_absences])), (a_t_first, .inl (cT 0, 24, .inl t_first)), (a_t_second, .inl (cT 0, 24, .inl t_second))] := by
    intro n
    induction n with
    | zero =>
      intro y3 h
      exact zno ((fX1_otherPerson_b2_0 _ _ _ _ _ _).symm.trans h)
    | succ n ih =>
      intro y3 h
      replace h := (fX1_otherPerson_b2_s _ _ _ _ _ _ _).symm.trans h
      refine xi_iload_n C 3 dX1_otherPerson_2 rfl ?_
      refine xi_aload_n C 0 dX1_otherPerson_3 rfl ?_
      refine xi_get C zkX1 1 0 zlX1_15 (by decide) rfl rfl dX1_otherPerson_4 ?_
      refine xi_icmp_ge C (tgt := 66) dX1_otherPerson_7 rfl (fun c1 => ?_) (fun c1 => ?_)
      · replace h := (if_pos c1).symm.trans h
        refine xi_iconst C (v := (-1)) dX1_otherPerson_66 rfl ?_
        obtain rfl := Option.some.inj h
        exact hE _ _ _ dX1_otherPerson_67 rfl
      · replace h := (if_neg c1).symm.trans h
        refine xi_iload_n C 1 dX1_otherPerson_10 rfl ?_
        refine xi_iload_n C 3 dX1_otherPerson_11 rfl ?_
        refine xi_callSr C (kX10_isIn l D cT x1 y3 (fX10_isIn x1 y3) rfl) zcX10_isIn zmX1_57 zsX10_isIn (zr rfl rfl) z00 rfl [] rfl rfl rfl (Nat.le_of_ble_eq_true rfl) dX1_otherPerson_12 (fun z4 => ?_)
        refine xi_if_eq C (tgt := 35) dX1_otherPerson_15 rfl (fun c5 => ?_) (fun c5 => ?_)
        · replace h := (if_pos c5).symm.trans h
          exact B35 (fX1_otherPerson_b2 t_lineCount t_first t_second x1 x2 n) ih y3 h
        · replace h := (if_neg c5).symm.trans h
          refine xi_aload_n C 0 dX1_otherPerson_18 rfl ?_
          refine xi_get C zkX1 2 0 zlX1_18 (by decide) rfl rfl dX1_otherPerson_19 ?_
          refine xi_iload_n C 3 dX1_otherPerson_22 rfl ?_
          replace h := ig h
          obtain ⟨c13, h⟩ := h
          refine xi_iald C 1 rfl c13 dX1_otherPerson_23 ?_
          refine xi_iload_n C 2 dX1_otherPerson_24 rfl ?_
          refine xi_icmp_ne C (tgt := 35) dX1_otherPerson_25 rfl (fun c14 => ?_) (fun c14 => ?_)
          · replace h := (if_neg c14).symm.trans h
            exact B35 (fX1_otherPerson_b2 t_lineCount t_first t_second x1 x2 n) ih y3 h
          · replace h := (if_pos c14).symm.trans h
            refine xi_drop (L2 := [(0, .ref a_t), (3, .int y3)]) [0, 3] rfl ?_
            exact B28 y3 h
  refine xi_drop (L2 := [(0, .ref a_t), (1, .int x1), (2, .int x2)]) [0, 1, 2] rfl ?_
  refine xi_iconst C (v := 0) dX1_otherPerson_0 rfl ?_
  refine xi_istore_n C [1, 2, 3, 0] (L2 := [(0, .ref a_t), (1, .int x1), (2, .int x2), (3, .int 0)]) dX1_otherPerson_1 (Nat.le_of_ble_eq_true rfl) rfl ?_
  exact B2 FU 0 h
def fX1_gainOf_b5 (t_lineCount : Int32) (t_first : Nat → Int32) (t_second : Nat → Int32) (t_oneWay : Nat → Int32) (p2_pieces : Nat → Int32) (x1 : Int32) : Nat → Int32 → Int32 → Option Int32
  | 0, _, _ => none
  | n + 1, y3, y4 => if t_lineCount ≤ y4 then some y3 else if (fX10_isIn x1 y4) = 0 then (fX1_gainOf_b5 t_lineCount t_first t_second t_oneWay p2_pieces x1 n) y3 (y4 + 1) else (fX1_gainOfLine t_first t_second t_oneWay p2_pieces y4).bind (fun u6 => (fX1_gainOf_b5 t_lineCount t_first t_second t_oneWay p2_pieces x1 n) (y3 + u6) (y4 + 1))
theorem fX1_gainOf_b5_0 (t_lineCount : Int32) (t_first : Nat → Int32) (t_second : Nat → Int32) (t_oneWay : Nat → Int32) (p2_pieces : Nat → Int32) (x1 : Int32) (y3 : Int32) (y4 : Int32) : fX1_gainOf_b5 t_lineCount t_first t_second t_oneWay p2_pieces x1 0 y3 y4 = none := rfl
theorem fX1_gainOf_b5_s (t_lineCount : Int32) (t_first : Nat → Int32) (t_second : Nat → Int32) (t_oneWay : Nat → Int32) (p2_pieces : Nat → Int32) (x1 : Int32) (n : Nat) (y3 : Int32) (y4 : Int32) : fX1_gainOf_b5 t_lineCount t_first t_second t_oneWay p2_pieces x1 (n + 1) y3 y4 = (if t_lineCount ≤ y4 then some y3 else if (fX10_isIn x1 y4) = 0 then (fX1_gainOf_b5 t_lineCount t_first t_second t_oneWay p2_pieces x1 n) y3 (y4 + 1) else (fX1_gainOfLine t_first t_second t_oneWay p2_pieces y4).bind (fun u6 => (fX1_gainOf_b5 t_lineCount t_first t_second t_oneWay p2_pieces x1 n) (y3 + u6) (y4 + 1))) := rfl
def fX1_gainOf (t_lineCount : Int32) (t_first : Nat → Int32) (t_second : Nat → Int32) (t_oneWay : Nat → Int32) (p2_pieces : Nat → Int32) (x1 : Int32) : Option Int32 := fX1_gainOf_b5 t_lineCount t_first t_second t_oneWay p2_pieces x1 FU 0 0
set_option maxRecDepth 100000 in
set_option maxHeartbeats 4000000 in
theorem kX1_gainOf (l : Launch) (D : va_G) (cT : Nat → ClassId) (a_t : Nat) (a_t_first : Nat) (a_t_second : Nat) (a_t_cost : Nat) (a_t_oneWay : Nat) (a_t_breaks : Nat) (a_t_absences : Nat) (a_p2 : Nat) (a_p2_pieces : Nat) (t_people : Int32) (t_lineCount : Int32) (t_first : Nat → Int32) (t_second : Nat → Int32) (t_oneWay : Nat → Int32) (p2_people : Int32) (p2_pieces : Nat → Int32) (x1 : Int32) (r : Int32) (h : fX1_gainOf t_lineCount t_first t_second t_oneWay p2_pieces x1 = some r) : sM l yX1_gainOf cX1_gainOf 5 (some .int) (zR 3) D cT [.ref a_t, .int x1, .ref a_p2] [(a_t, .inr (1, [.int t_people, .int t_lineCount, .ref a_t_first, .ref a_t_second, .ref a_t_cost, .ref a_t_oneWay, .ref a_t_breaks, .ref a_t_absences])), (a_t_first, .inl (cT 0, 24, .inl t_first)), (a_t_second, .inl (cT 0, 24, .inl t_second)), (a_t_oneWay, .inl (cT 3, 24, .inl t_oneWay)), (a_p2, .inr (3, [.ref a_p2_pieces, .int p2_people])), (a_p2_pieces, .inl (cT 0, 10, .inl p2_pieces))] (some (.int r)) [(a_t, .inr (1, [.int t_people, .int t_lineCount, .ref a_t_first, .ref a_t_second, .ref a_t_cost, .ref a_t_oneWay, .ref a_t_breaks, .ref a_t_absences])), (a_t_first, .inl (cT 0, 24, .inl t_first)), (a_t_second, .inl (cT 0, 24, .inl t_second)), (a_t_oneWay, .inl (cT 3, 24, .inl t_oneWay)), (a_p2, .inr (3, [.ref a_p2_pieces, .int p2_people])), (a_p2_pieces, .inl (cT 0, 10, .inl p2_pieces))] := by
  refine sM_int rfl (Nat.le_of_ble_eq_true rfl) ?_
  intro X C hE
  have B5 : ∀ (n : Nat) (y3 : Int32) (y4 : Int32), fX1_gainOf_b5 t_lineCount t_first t_second t_oneWay p2_pieces x1 n y3 y4 = some r → sW X l (zR 3) D 5 0 0 5 [(0, .ref a_t), (1, .int x1), (2, .ref a_p2), (3, .int y3), (4, .int y4)] [] [(a_t, .inr (1, [.int t_people, .int t_lineCount, .ref a_t_first, .ref a_t_second, .ref a_t_cost, .ref a_t_oneWay, .ref a_t_breaks, .ref a_t_absences])), (a_t_first, .inl (cT 0, 24, .inl t_first)), (a_t_second, .inl (cT 0, 24, .inl t_second)), (a_t_oneWay, .inl (cT 3, 24, .inl t_oneWay)), (a_p2, .inr (3, [.ref a_p2_pieces, .int p2_people])), (a_p2_pieces, .inl (cT 0, 10, .inl p2_pieces))] := by
    intro n
    induction n with
    | zero =>
      intro y3 y4 h
      exact zno ((fX1_gainOf_b5_0 _ _ _ _ _ _ _ _).symm.trans h)
    | succ n ih =>
      intro y3 y4 h
      replace h := (fX1_gainOf_b5_s _ _ _ _ _ _ _ _ _).symm.trans h
      refine xi_iload C 4 dX1_gainOf_5 rfl ?_
      refine xi_aload_n C 0 dX1_gainOf_7 rfl ?_
      refine xi_get C zkX1 1 0 zlX1_15 (by decide) rfl rfl dX1_gainOf_8 ?_
      refine xi_icmp_ge C (tgt := 39) dX1_gainOf_11 rfl (fun c1 => ?_) (fun c1 => ?_)
      · replace h := (if_pos c1).symm.trans h
        refine xi_iload_n C 3 dX1_gainOf_39 rfl ?_
        obtain rfl := Option.some.inj h
        exact hE _ _ _ dX1_gainOf_40 rfl
      · replace h := (if_neg c1).symm.trans h
        refine xi_iload_n C 1 dX1_gainOf_14 rfl ?_
        refine xi_iload C 4 dX1_gainOf_15 rfl ?_
        refine xi_callSr C (kX10_isIn l D cT x1 y4 (fX10_isIn x1 y4) rfl) zcX10_isIn zmX1_57 zsX10_isIn (zr rfl rfl) z00 rfl [] rfl rfl rfl (Nat.le_of_ble_eq_true rfl) dX1_gainOf_17 (fun z4 => ?_)
        refine xi_if_eq C (tgt := 33) dX1_gainOf_20 rfl (fun c5 => ?_) (fun c5 => ?_)
        · replace h := (if_pos c5).symm.trans h
          refine xi_iinc C (v := y4 + 1) 4 [1, 2, 3, 4, 0] (L2 := [(0, .ref a_t), (1, .int x1), (2, .ref a_p2), (3, .int y3), (4, .int (y4 + 1))]) dX1_gainOf_33 rfl rfl (Nat.le_of_ble_eq_true rfl) rfl ?_
          refine xi_goto C (tgt := 5) dX1_gainOf_36 rfl ?_
          exact ih y3 (y4 + 1) h
        · replace h := (if_neg c5).symm.trans h
          refine xi_iload_n C 3 dX1_gainOf_23 rfl ?_
          refine xi_aload_n C 0 dX1_gainOf_24 rfl ?_
          refine xi_iload C 4 dX1_gainOf_25 rfl ?_
          refine xi_aload_n C 2 dX1_gainOf_27 rfl ?_
          replace h := ob h
          obtain ⟨u6, hu7, h⟩ := h
          refine xi_callVr C (kX1_gainOfLine l D cT a_t a_t_first a_t_second a_t_cost a_t_oneWay a_t_breaks a_t_absences a_p2 a_p2_pieces t_people t_lineCount t_first t_second t_oneWay p2_people p2_pieces y4 u6 hu7) zcX1_gainOfLine zmX1_71 ziX1_gainOfLine (zr rfl rfl) z00 rfl [0, 1, 2, 3, 4, 5] rfl rfl zkX1.1 (qr := 0) rfl rfl (Nat.le_of_ble_eq_true rfl) dX1_gainOf_28 (fun z8 => ?_)
          refine xi_iadd C dX1_gainOf_31 ?_
          refine xi_istore_n C [1, 2, 3, 0, 4] (L2 := [(0, .ref a_t), (1, .int x1), (2, .ref a_p2), (3, .int (y3 + u6)), (4, .int y4)]) dX1_gainOf_32 (Nat.le_of_ble_eq_true rfl) rfl ?_
          refine xi_iinc C (v := y4 + 1) 4 [1, 2, 3, 4, 0] (L2 := [(0, .ref a_t), (1, .int x1), (2, .ref a_p2), (3, .int (y3 + u6)), (4, .int (y4 + 1))]) dX1_gainOf_33 rfl rfl (Nat.le_of_ble_eq_true rfl) rfl ?_
          refine xi_goto C (tgt := 5) dX1_gainOf_36 rfl ?_
          exact ih (y3 + u6) (y4 + 1) h
  refine xi_drop (L2 := [(0, .ref a_t), (1, .int x1), (2, .ref a_p2)]) [0, 1, 2] rfl ?_
  refine xi_iconst C (v := 0) dX1_gainOf_0 rfl ?_
  refine xi_istore_n C [1, 2, 3, 0] (L2 := [(0, .ref a_t), (1, .int x1), (2, .ref a_p2), (3, .int 0)]) dX1_gainOf_1 (Nat.le_of_ble_eq_true rfl) rfl ?_
  refine xi_iconst C (v := 0) dX1_gainOf_2 rfl ?_
  refine xi_istore C [1, 2, 3, 4, 0] (L2 := [(0, .ref a_t), (1, .int x1), (2, .ref a_p2), (3, .int 0), (4, .int 0)]) dX1_gainOf_3 (Nat.le_of_ble_eq_true rfl) rfl ?_
  exact B5 FU 0 0 h
def fX1_makeCalls_b2 (t_lineCount : Int32) (t_first : Nat → Int32) (t_second : Nat → Int32) (t_oneWay : Nat → Int32) (x1 : Int32) : Nat → Int32 → (Nat → Int32) → Option ((Nat → Int32))
  | 0, _, _ => none
  | n + 1, y3, p2_pieces => if t_lineCount ≤ y3 then some p2_pieces else if (fX10_isIn x1 y3) = 0 then (fX1_makeCalls_b2 t_lineCount t_first t_second t_oneWay x1 n) (y3 + 1) p2_pieces else gd y3 24 (gd (t_first y3.toNatClampNeg) 10 (gd (t_second y3.toNatClampNeg) 10 (nm ((p2_pieces (t_first y3.toNatClampNeg).toNatClampNeg) ||| (p2_pieces (t_second y3.toNatClampNeg).toNatClampNeg)) (fun w9 => if (t_oneWay y3.toNatClampNeg) = 0 then (fX1_makeCalls_b2 t_lineCount t_first t_second t_oneWay x1 n) (y3 + 1) (upd (upd p2_pieces (t_second y3.toNatClampNeg).toNatClampNeg w9) (t_first y3.toNatClampNeg).toNatClampNeg w9) else (fX1_makeCalls_b2 t_lineCount t_first t_second t_oneWay x1 n) (y3 + 1) (upd p2_pieces (t_second y3.toNatClampNeg).toNatClampNeg w9)))))
theorem fX1_makeCalls_b2_0 (t_lineCount : Int32) (t_first : Nat → Int32) (t_second : Nat → Int32) (t_oneWay : Nat → Int32) (x1 : Int32) (y3 : Int32) (p2_pieces : Nat → Int32) : fX1_makeCalls_b2 t_lineCount t_first t_second t_oneWay x1 0 y3 p2_pieces = none := rfl
theorem fX1_makeCalls_b2_s (t_lineCount : Int32) (t_first : Nat → Int32) (t_second : Nat → Int32) (t_oneWay : Nat → Int32) (x1 : Int32) (n : Nat) (y3 : Int32) (p2_pieces : Nat → Int32) : fX1_makeCalls_b2 t_lineCount t_first t_second t_oneWay x1 (n + 1) y3 p2_pieces = (if t_lineCount ≤ y3 then some p2_pieces else if (fX10_isIn x1 y3) = 0 then (fX1_makeCalls_b2 t_lineCount t_first t_second t_oneWay x1 n) (y3 + 1) p2_pieces else gd y3 24 (gd (t_first y3.toNatClampNeg) 10 (gd (t_second y3.toNatClampNeg) 10 (nm ((p2_pieces (t_first y3.toNatClampNeg).toNatClampNeg) ||| (p2_pieces (t_second y3.toNatClampNeg).toNatClampNeg)) (fun w9 => if (t_oneWay y3.toNatClampNeg) = 0 then (fX1_makeCalls_b2 t_lineCount t_first t_second t_oneWay x1 n) (y3 + 1) (upd (upd p2_pieces (t_second y3.toNatClampNeg).toNatClampNeg w9) (t_first y3.toNatClampNeg).toNatClampNeg w9) else (fX1_makeCalls_b2 t_lineCount t_first t_second t_oneWay x1 n) (y3 + 1) (upd p2_pieces (t_second y3.toNatClampNeg).toNatClampNeg w9)))))) := rfl
def fX1_makeCalls (t_lineCount : Int32) (t_first : Nat → Int32) (t_second : Nat → Int32) (t_oneWay : Nat → Int32) (p2_pieces : Nat → Int32) (x1 : Int32) : Option ((Nat → Int32)) := fX1_makeCalls_b2 t_lineCount t_first t_second t_oneWay x1 FU 0 p2_pieces
set_option maxRecDepth 100000 in
set_option maxHeartbeats 4000000 in
theorem kX1_makeCalls (l : Launch) (D : va_G) (cT : Nat → ClassId) (a_t : Nat) (a_t_first : Nat) (a_t_second : Nat) (a_t_cost : Nat) (a_t_oneWay : Nat) (a_t_breaks : Nat) (a_t_absences : Nat) (a_p2 : Nat) (a_p2_pieces : Nat) (t_people : Int32) (t_lineCount : Int32) (t_first : Nat → Int32) (t_second : Nat → Int32) (t_oneWay : Nat → Int32) (p2_people : Int32) (p2_pieces : Nat → Int32) (x1 : Int32) (r : (Nat → Int32)) (h : fX1_makeCalls t_lineCount t_first t_second t_oneWay p2_pieces x1 = some r) : sM l yX1_makeCalls cX1_makeCalls 5 none (zR 2) D cT [.ref a_t, .int x1, .ref a_p2] [(a_t, .inr (1, [.int t_people, .int t_lineCount, .ref a_t_first, .ref a_t_second, .ref a_t_cost, .ref a_t_oneWay, .ref a_t_breaks, .ref a_t_absences])), (a_t_first, .inl (cT 0, 24, .inl t_first)), (a_t_second, .inl (cT 0, 24, .inl t_second)), (a_t_oneWay, .inl (cT 3, 24, .inl t_oneWay)), (a_p2, .inr (3, [.ref a_p2_pieces, .int p2_people])), (a_p2_pieces, .inl (cT 0, 10, .inl p2_pieces))] none [(a_t, .inr (1, [.int t_people, .int t_lineCount, .ref a_t_first, .ref a_t_second, .ref a_t_cost, .ref a_t_oneWay, .ref a_t_breaks, .ref a_t_absences])), (a_t_first, .inl (cT 0, 24, .inl t_first)), (a_t_second, .inl (cT 0, 24, .inl t_second)), (a_t_oneWay, .inl (cT 3, 24, .inl t_oneWay)), (a_p2, .inr (3, [.ref a_p2_pieces, .int p2_people])), (a_p2_pieces, .inl (cT 0, 10, .inl r))] := by
  refine sM_void rfl (Nat.le_of_ble_eq_true rfl) ?_
  intro X C hE
  have B2 : ∀ (n : Nat) (y3 : Int32) (p2_pieces : Nat → Int32), fX1_makeCalls_b2 t_lineCount t_first t_second t_oneWay x1 n y3 p2_pieces = some r → sW X l (zR 2) D 5 0 0 2 [(0, .ref a_t), (1, .int x1), (2, .ref a_p2), (3, .int y3)] [] [(a_t, .inr (1, [.int t_people, .int t_lineCount, .ref a_t_first, .ref a_t_second, .ref a_t_cost, .ref a_t_oneWay, .ref a_t_breaks, .ref a_t_absences])), (a_t_first, .inl (cT 0, 24, .inl t_first)), (a_t_second, .inl (cT 0, 24, .inl t_second)), (a_t_oneWay, .inl (cT 3, 24, .inl t_oneWay)), (a_p2, .inr (3, [.ref a_p2_pieces, .int p2_people])), (a_p2_pieces, .inl (cT 0, 10, .inl p2_pieces))] := by
    intro n
    induction n with
    | zero =>
      intro y3 p2_pieces h
      exact zno ((fX1_makeCalls_b2_0 _ _ _ _ _ _ _).symm.trans h)
    | succ n ih =>
      intro y3 p2_pieces h
      replace h := (fX1_makeCalls_b2_s _ _ _ _ _ _ _ _).symm.trans h
      refine xi_iload_n C 3 dX1_makeCalls_2 rfl ?_
      refine xi_aload_n C 0 dX1_makeCalls_3 rfl ?_
      refine xi_get C zkX1 1 0 zlX1_15 (by decide) rfl rfl dX1_makeCalls_4 ?_
      refine xi_icmp_ge C (tgt := 84) dX1_makeCalls_7 rfl (fun c1 => ?_) (fun c1 => ?_)
      · replace h := (if_pos c1).symm.trans h
        obtain rfl := Option.some.inj h
        exact hE _ _ dX1_makeCalls_84 rfl
      · replace h := (if_neg c1).symm.trans h
        refine xi_iload_n C 1 dX1_makeCalls_10 rfl ?_
        refine xi_iload_n C 3 dX1_makeCalls_11 rfl ?_
        refine xi_callSr C (kX10_isIn l D cT x1 y3 (fX10_isIn x1 y3) rfl) zcX10_isIn zmX1_57 zsX10_isIn (zr rfl rfl) z00 rfl [] rfl rfl rfl (Nat.le_of_ble_eq_true rfl) dX1_makeCalls_12 (fun z4 => ?_)
        refine xi_if_eq C (tgt := 78) dX1_makeCalls_15 rfl (fun c5 => ?_) (fun c5 => ?_)
        · replace h := (if_pos c5).symm.trans h
          refine xi_iinc C (v := y3 + 1) 3 [1, 2, 3, 0] (L2 := [(0, .ref a_t), (1, .int x1), (2, .ref a_p2), (3, .int (y3 + 1))]) dX1_makeCalls_78 rfl rfl (Nat.le_of_ble_eq_true rfl) rfl ?_
          refine xi_goto C (tgt := 2) dX1_makeCalls_81 rfl ?_
          exact ih (y3 + 1) p2_pieces h
        · replace h := (if_neg c5).symm.trans h
          refine xi_aload_n C 2 dX1_makeCalls_18 rfl ?_
          refine xi_get C zkX3 0 4 zlX1_61 (by decide) rfl rfl dX1_makeCalls_19 ?_
          refine xi_aload_n C 0 dX1_makeCalls_22 rfl ?_
          refine xi_get C zkX1 2 0 zlX1_18 (by decide) rfl rfl dX1_makeCalls_23 ?_
          refine xi_iload_n C 3 dX1_makeCalls_26 rfl ?_
          replace h := ig h
          obtain ⟨c6, h⟩ := h
          refine xi_iald C 1 rfl c6 dX1_makeCalls_27 ?_
          replace h := ig h
          obtain ⟨c7, h⟩ := h
          refine xi_iald C 5 rfl c7 dX1_makeCalls_28 ?_
          refine xi_aload_n C 2 dX1_makeCalls_29 rfl ?_
          refine xi_get C zkX3 0 4 zlX1_61 (by decide) rfl rfl dX1_makeCalls_30 ?_
          refine xi_aload_n C 0 dX1_makeCalls_33 rfl ?_
          refine xi_get C zkX1 3 0 zlX1_22 (by decide) rfl rfl dX1_makeCalls_34 ?_
          refine xi_iload_n C 3 dX1_makeCalls_37 rfl ?_
          refine xi_iald C 2 rfl c6 dX1_makeCalls_38 ?_
          replace h := ig h
          obtain ⟨c8, h⟩ := h
          refine xi_iald C 5 rfl c8 dX1_makeCalls_39 ?_
          refine xi_ior C dX1_makeCalls_40 ?_
          refine xi_topi (fun w9 ew9 => ?_)
          replace h := nmE ew9 h
          refine xi_istore C [1, 2, 3, 4, 0] (L2 := [(0, .ref a_t), (1, .int x1), (2, .ref a_p2), (3, .int y3), (4, .int w9)]) dX1_makeCalls_41 (Nat.le_of_ble_eq_true rfl) rfl ?_
          refine xi_aload_n C 2 dX1_makeCalls_43 rfl ?_
          refine xi_get C zkX3 0 4 zlX1_61 (by decide) rfl rfl dX1_makeCalls_44 ?_
          refine xi_aload_n C 0 dX1_makeCalls_47 rfl ?_
          refine xi_get C zkX1 3 0 zlX1_22 (by decide) rfl rfl dX1_makeCalls_48 ?_
          refine xi_iload_n C 3 dX1_makeCalls_51 rfl ?_
          refine xi_iald C 2 rfl c6 dX1_makeCalls_52 ?_
          refine xi_iload C 4 dX1_makeCalls_53 rfl ?_
          refine xi_iast C 5 rfl c8 dX1_makeCalls_55 (ws2 := [(a_t, .inr (1, [.int t_people, .int t_lineCount, .ref a_t_first, .ref a_t_second, .ref a_t_cost, .ref a_t_oneWay, .ref a_t_breaks, .ref a_t_absences])), (a_t_first, .inl (cT 0, 24, .inl t_first)), (a_t_second, .inl (cT 0, 24, .inl t_second)), (a_t_oneWay, .inl (cT 3, 24, .inl t_oneWay)), (a_p2, .inr (3, [.ref a_p2_pieces, .int p2_people])), (a_p2_pieces, .inl (cT 0, 10, .inl (upd p2_pieces (t_second y3.toNatClampNeg).toNatClampNeg w9)))]) rfl ?_
          refine xi_aload_n C 0 dX1_makeCalls_56 rfl ?_
          refine xi_get C zkX1 5 0 zlX1_28 (by decide) rfl rfl dX1_makeCalls_57 ?_
          refine xi_iload_n C 3 dX1_makeCalls_60 rfl ?_
          refine xi_zald C 3 rfl c6 dX1_makeCalls_61 ?_
          refine xi_if_ne C (tgt := 78) dX1_makeCalls_62 rfl (fun c10 => ?_) (fun c10 => ?_)
          · replace h := (if_neg c10).symm.trans h
            refine xi_iinc C (v := y3 + 1) 3 [1, 2, 3, 0, 4] (L2 := [(0, .ref a_t), (1, .int x1), (2, .ref a_p2), (3, .int (y3 + 1)), (4, .int w9)]) dX1_makeCalls_78 rfl rfl (Nat.le_of_ble_eq_true rfl) rfl ?_
            refine xi_goto C (tgt := 2) dX1_makeCalls_81 rfl ?_
            refine xi_drop (L2 := [(0, .ref a_t), (1, .int x1), (2, .ref a_p2), (3, .int (y3 + 1))]) [0, 1, 2, 3] rfl ?_
            exact ih (y3 + 1) (upd p2_pieces (t_second y3.toNatClampNeg).toNatClampNeg w9) h
          · replace h := (if_pos c10).symm.trans h
            refine xi_aload_n C 2 dX1_makeCalls_65 rfl ?_
            refine xi_get C zkX3 0 4 zlX1_61 (by decide) rfl rfl dX1_makeCalls_66 ?_
            refine xi_aload_n C 0 dX1_makeCalls_69 rfl ?_
            refine xi_get C zkX1 2 0 zlX1_18 (by decide) rfl rfl dX1_makeCalls_70 ?_
            refine xi_iload_n C 3 dX1_makeCalls_73 rfl ?_
            refine xi_iald C 1 rfl c6 dX1_makeCalls_74 ?_
            refine xi_iload C 4 dX1_makeCalls_75 rfl ?_
            refine xi_iast C 5 rfl c7 dX1_makeCalls_77 (ws2 := [(a_t, .inr (1, [.int t_people, .int t_lineCount, .ref a_t_first, .ref a_t_second, .ref a_t_cost, .ref a_t_oneWay, .ref a_t_breaks, .ref a_t_absences])), (a_t_first, .inl (cT 0, 24, .inl t_first)), (a_t_second, .inl (cT 0, 24, .inl t_second)), (a_t_oneWay, .inl (cT 3, 24, .inl t_oneWay)), (a_p2, .inr (3, [.ref a_p2_pieces, .int p2_people])), (a_p2_pieces, .inl (cT 0, 10, .inl (upd (upd p2_pieces (t_second y3.toNatClampNeg).toNatClampNeg w9) (t_first y3.toNatClampNeg).toNatClampNeg w9)))]) rfl ?_
            refine xi_iinc C (v := y3 + 1) 3 [1, 2, 3, 0, 4] (L2 := [(0, .ref a_t), (1, .int x1), (2, .ref a_p2), (3, .int (y3 + 1)), (4, .int w9)]) dX1_makeCalls_78 rfl rfl (Nat.le_of_ble_eq_true rfl) rfl ?_
            refine xi_goto C (tgt := 2) dX1_makeCalls_81 rfl ?_
            refine xi_drop (L2 := [(0, .ref a_t), (1, .int x1), (2, .ref a_p2), (3, .int (y3 + 1))]) [0, 1, 2, 3] rfl ?_
            exact ih (y3 + 1) (upd (upd p2_pieces (t_second y3.toNatClampNeg).toNatClampNeg w9) (t_first y3.toNatClampNeg).toNatClampNeg w9) h
  refine xi_drop (L2 := [(0, .ref a_t), (1, .int x1), (2, .ref a_p2)]) [0, 1, 2] rfl ?_
  refine xi_iconst C (v := 0) dX1_makeCalls_0 rfl ?_
  refine xi_istore_n C [1, 2, 3, 0] (L2 := [(0, .ref a_t), (1, .int x1), (2, .ref a_p2), (3, .int 0)]) dX1_makeCalls_1 (Nat.le_of_ble_eq_true rfl) rfl ?_
  exact B2 FU 0 p2_pieces h
def fX1_spread_b49 (t_first : Nat → Int32) (t_second : Nat → Int32) (t_oneWay : Nat → Int32) (x1 : Int32) (x2 : Int32) (K5 : Int32 → Int32 → Option Int32) (y3 : Int32) (y4 : Int32) : Option Int32 := if (fX10_isIn x2 y4) = 0 then K5 y3 (y4 + 1) else gd y4 24 (if (fX10_isIn x1 (t_second y4.toNatClampNeg)) = 0 then K5 y3 (y4 + 1) else if (t_oneWay y4.toNatClampNeg) = 0 then nm (y3 ||| (1 <<< ((t_first y4.toNatClampNeg) &&& 31))) (fun w16 => K5 w16 (y4 + 1)) else K5 y3 (y4 + 1))
def fX1_spread_b5 (t_lineCount : Int32) (t_first : Nat → Int32) (t_second : Nat → Int32) (t_oneWay : Nat → Int32) (x1 : Int32) (x2 : Int32) : Nat → Int32 → Int32 → Option Int32
  | 0, _, _ => none
  | n + 1, y3, y4 => if t_lineCount ≤ y4 then some y3 else if (fX10_isIn x2 y4) = 0 then fX1_spread_b49 t_first t_second t_oneWay x1 x2 (fX1_spread_b5 t_lineCount t_first t_second t_oneWay x1 x2 n) y3 y4 else gd y4 24 (if (fX10_isIn x1 (t_first y4.toNatClampNeg)) = 0 then fX1_spread_b49 t_first t_second t_oneWay x1 x2 (fX1_spread_b5 t_lineCount t_first t_second t_oneWay x1 x2 n) y3 y4 else nm (y3 ||| (1 <<< ((t_second y4.toNatClampNeg) &&& 31))) (fun w22 => fX1_spread_b49 t_first t_second t_oneWay x1 x2 (fX1_spread_b5 t_lineCount t_first t_second t_oneWay x1 x2 n) w22 y4))
theorem fX1_spread_b5_0 (t_lineCount : Int32) (t_first : Nat → Int32) (t_second : Nat → Int32) (t_oneWay : Nat → Int32) (x1 : Int32) (x2 : Int32) (y3 : Int32) (y4 : Int32) : fX1_spread_b5 t_lineCount t_first t_second t_oneWay x1 x2 0 y3 y4 = none := rfl
theorem fX1_spread_b5_s (t_lineCount : Int32) (t_first : Nat → Int32) (t_second : Nat → Int32) (t_oneWay : Nat → Int32) (x1 : Int32) (x2 : Int32) (n : Nat) (y3 : Int32) (y4 : Int32) : fX1_spread_b5 t_lineCount t_first t_second t_oneWay x1 x2 (n + 1) y3 y4 = (if t_lineCount ≤ y4 then some y3 else if (fX10_isIn x2 y4) = 0 then fX1_spread_b49 t_first t_second t_oneWay x1 x2 (fX1_spread_b5 t_lineCount t_first t_second t_oneWay x1 x2 n) y3 y4 else gd y4 24 (if (fX10_isIn x1 (t_first y4.toNatClampNeg)) = 0 then fX1_spread_b49 t_first t_second t_oneWay x1 x2 (fX1_spread_b5 t_lineCount t_first t_second t_oneWay x1 x2 n) y3 y4 else nm (y3 ||| (1 <<< ((t_second y4.toNatClampNeg) &&& 31))) (fun w22 => fX1_spread_b49 t_first t_second t_oneWay x1 x2 (fX1_spread_b5 t_lineCount t_first t_second t_oneWay x1 x2 n) w22 y4))) := rfl
def fX1_spread (t_lineCount : Int32) (t_first : Nat → Int32) (t_second : Nat → Int32) (t_oneWay : Nat → Int32) (x1 : Int32) (x2 : Int32) : Option Int32 := fX1_spread_b5 t_lineCount t_first t_second t_oneWay x1 x2 FU x1 0
set_option maxRecDepth 100000 in
set_option maxHeartbeats 4000000 in
theorem kX1_spread (l : Launch) (D : va_G) (cT : Nat → ClassId) (a_t : Nat) (a_t_first : Nat) (a_t_second : Nat) (a_t_cost : Nat) (a_t_oneWay : Nat) (a_t_breaks : Nat) (a_t_absences : Nat) (t_people : Int32) (t_lineCount : Int32) (t_first : Nat → Int32) (t_second : Nat → Int32) (t_oneWay : Nat → Int32) (x1 : Int32) (x2 : Int32) (r : Int32) (h : fX1_spread t_lineCount t_first t_second t_oneWay x1 x2 = some r) : sM l yX1_spread cX1_spread 5 (some .int) (zR 2) D cT [.ref a_t, .int x1, .int x2] [(a_t, .inr (1, [.int t_people, .int t_lineCount, .ref a_t_first, .ref a_t_second, .ref a_t_cost, .ref a_t_oneWay, .ref a_t_breaks, .ref a_t_absences])), (a_t_first, .inl (cT 0, 24, .inl t_first)), (a_t_second, .inl (cT 0, 24, .inl t_second)), (a_t_oneWay, .inl (cT 3, 24, .inl t_oneWay))] (some (.int r)) [(a_t, .inr (1, [.int t_people, .int t_lineCount, .ref a_t_first, .ref a_t_second, .ref a_t_cost, .ref a_t_oneWay, .ref a_t_breaks, .ref a_t_absences])), (a_t_first, .inl (cT 0, 24, .inl t_first)), (a_t_second, .inl (cT 0, 24, .inl t_second)), (a_t_oneWay, .inl (cT 3, 24, .inl t_oneWay))] := by
  refine sM_int rfl (Nat.le_of_ble_eq_true rfl) ?_
  intro X C hE
  have B49 : ∀ (K5 : Int32 → Int32 → Option Int32) (hK5 : ∀ (y3 : Int32) (y4 : Int32), K5 y3 y4 = some r → sW X l (zR 2) D 5 0 0 5 [(0, .ref a_t), (1, .int x1), (2, .int x2), (3, .int y3), (4, .int y4)] [] [(a_t, .inr (1, [.int t_people, .int t_lineCount, .ref a_t_first, .ref a_t_second, .ref a_t_cost, .ref a_t_oneWay, .ref a_t_breaks, .ref a_t_absences])), (a_t_first, .inl (cT 0, 24, .inl t_first)), (a_t_second, .inl (cT 0, 24, .inl t_second)), (a_t_oneWay, .inl (cT 3, 24, .inl t_oneWay))]) (y3 : Int32) (y4 : Int32), fX1_spread_b49 t_first t_second t_oneWay x1 x2 K5 y3 y4 = some r → sW X l (zR 2) D 5 0 0 49 [(0, .ref a_t), (1, .int x1), (2, .int x2), (3, .int y3), (4, .int y4)] [] [(a_t, .inr (1, [.int t_people, .int t_lineCount, .ref a_t_first, .ref a_t_second, .ref a_t_cost, .ref a_t_oneWay, .ref a_t_breaks, .ref a_t_absences])), (a_t_first, .inl (cT 0, 24, .inl t_first)), (a_t_second, .inl (cT 0, 24, .inl t_second)), (a_t_oneWay, .inl (cT 3, 24, .inl t_oneWay))] := by
    intro K5 hK5 y3 y4 h
    refine xi_iload_n C 2 dX1_spread_49 rfl ?_
    refine xi_iload C 4 dX1_spread_50 rfl ?_
    refine xi_callSr C (kX10_isIn l D cT x2 y4 (fX10_isIn x2 y4) rfl) zcX10_isIn zmX1_57 zsX10_isIn (zr rfl rfl) z00 rfl [] rfl rfl rfl (Nat.le_of_ble_eq_true rfl) dX1_spread_52 (fun z8 => ?_)
    refine xi_if_eq C (tgt := 94) dX1_spread_55 rfl (fun c9 => ?_) (fun c9 => ?_)
    · replace h := (if_pos c9).symm.trans h
      refine xi_iinc C (v := y4 + 1) 4 [1, 2, 3, 4, 0] (L2 := [(0, .ref a_t), (1, .int x1), (2, .int x2), (3, .int y3), (4, .int (y4 + 1))]) dX1_spread_94 rfl rfl (Nat.le_of_ble_eq_true rfl) rfl ?_
      refine xi_goto C (tgt := 5) dX1_spread_97 rfl ?_
      exact hK5 y3 (y4 + 1) h
    · replace h := (if_neg c9).symm.trans h
      refine xi_iload_n C 1 dX1_spread_58 rfl ?_
      refine xi_aload_n C 0 dX1_spread_59 rfl ?_
      refine xi_get C zkX1 3 0 zlX1_22 (by decide) rfl rfl dX1_spread_60 ?_
      refine xi_iload C 4 dX1_spread_63 rfl ?_
      replace h := ig h
      obtain ⟨c10, h⟩ := h
      refine xi_iald C 2 rfl c10 dX1_spread_65 ?_
      refine xi_callSr C (kX10_isIn l D cT x1 (t_second y4.toNatClampNeg) (fX10_isIn x1 (t_second y4.toNatClampNeg)) rfl) zcX10_isIn zmX1_57 zsX10_isIn (zr rfl rfl) z00 rfl [] rfl rfl rfl (Nat.le_of_ble_eq_true rfl) dX1_spread_66 (fun z13 => ?_)
      refine xi_if_eq C (tgt := 94) dX1_spread_69 rfl (fun c14 => ?_) (fun c14 => ?_)
      · replace h := (if_pos c14).symm.trans h
        refine xi_iinc C (v := y4 + 1) 4 [1, 2, 3, 4, 0] (L2 := [(0, .ref a_t), (1, .int x1), (2, .int x2), (3, .int y3), (4, .int (y4 + 1))]) dX1_spread_94 rfl rfl (Nat.le_of_ble_eq_true rfl) rfl ?_
        refine xi_goto C (tgt := 5) dX1_spread_97 rfl ?_
        exact hK5 y3 (y4 + 1) h
      · replace h := (if_neg c14).symm.trans h
        refine xi_aload_n C 0 dX1_spread_72 rfl ?_
        refine xi_get C zkX1 5 0 zlX1_28 (by decide) rfl rfl dX1_spread_73 ?_
        refine xi_iload C 4 dX1_spread_76 rfl ?_
        refine xi_zald C 3 rfl c10 dX1_spread_78 ?_
        refine xi_if_ne C (tgt := 94) dX1_spread_79 rfl (fun c15 => ?_) (fun c15 => ?_)
        · replace h := (if_neg c15).symm.trans h
          refine xi_iinc C (v := y4 + 1) 4 [1, 2, 3, 4, 0] (L2 := [(0, .ref a_t), (1, .int x1), (2, .int x2), (3, .int y3), (4, .int (y4 + 1))]) dX1_spread_94 rfl rfl (Nat.le_of_ble_eq_true rfl) rfl ?_
          refine xi_goto C (tgt := 5) dX1_spread_97 rfl ?_
          exact hK5 y3 (y4 + 1) h
        · replace h := (if_pos c15).symm.trans h
          refine xi_iload_n C 3 dX1_spread_82 rfl ?_
          refine xi_iconst C (v := 1) dX1_spread_83 rfl ?_
          refine xi_aload_n C 0 dX1_spread_84 rfl ?_
          refine xi_get C zkX1 2 0 zlX1_18 (by decide) rfl rfl dX1_spread_85 ?_
          refine xi_iload C 4 dX1_spread_88 rfl ?_
          refine xi_iald C 1 rfl c10 dX1_spread_90 ?_
          refine xi_ishl C dX1_spread_91 ?_
          refine xi_ior C dX1_spread_92 ?_
          refine xi_topi (fun w16 ew16 => ?_)
          replace h := nmE ew16 h
          refine xi_istore_n C [1, 2, 3, 0, 4] (L2 := [(0, .ref a_t), (1, .int x1), (2, .int x2), (3, .int w16), (4, .int y4)]) dX1_spread_93 (Nat.le_of_ble_eq_true rfl) rfl ?_
          refine xi_iinc C (v := y4 + 1) 4 [1, 2, 3, 4, 0] (L2 := [(0, .ref a_t), (1, .int x1), (2, .int x2), (3, .int w16), (4, .int (y4 + 1))]) dX1_spread_94 rfl rfl (Nat.le_of_ble_eq_true rfl) rfl ?_
          refine xi_goto C (tgt := 5) dX1_spread_97 rfl ?_
          exact hK5 w16 (y4 + 1) h
  have B5 : ∀ (n : Nat) (y3 : Int32) (y4 : Int32), fX1_spread_b5 t_lineCount t_first t_second t_oneWay x1 x2 n y3 y4 = some r → sW X l (zR 2) D 5 0 0 5 [(0, .ref a_t), (1, .int x1), (2, .int x2), (3, .int y3), (4, .int y4)] [] [(a_t, .inr (1, [.int t_people, .int t_lineCount, .ref a_t_first, .ref a_t_second, .ref a_t_cost, .ref a_t_oneWay, .ref a_t_breaks, .ref a_t_absences])), (a_t_first, .inl (cT 0, 24, .inl t_first)), (a_t_second, .inl (cT 0, 24, .inl t_second)), (a_t_oneWay, .inl (cT 3, 24, .inl t_oneWay))] := by
    intro n
    induction n with
    | zero =>
      intro y3 y4 h
      exact zno ((fX1_spread_b5_0 _ _ _ _ _ _ _ _).symm.trans h)
    | succ n ih =>
      intro y3 y4 h
      replace h := (fX1_spread_b5_s _ _ _ _ _ _ _ _ _).symm.trans h
      refine xi_iload C 4 dX1_spread_5 rfl ?_
      refine xi_aload_n C 0 dX1_spread_7 rfl ?_
      refine xi_get C zkX1 1 0 zlX1_15 (by decide) rfl rfl dX1_spread_8 ?_
      refine xi_icmp_ge C (tgt := 100) dX1_spread_11 rfl (fun c1 => ?_) (fun c1 => ?_)
      · replace h := (if_pos c1).symm.trans h
        refine xi_iload_n C 3 dX1_spread_100 rfl ?_
        obtain rfl := Option.some.inj h
        exact hE _ _ _ dX1_spread_101 rfl
      · replace h := (if_neg c1).symm.trans h
        refine xi_iload_n C 2 dX1_spread_14 rfl ?_
        refine xi_iload C 4 dX1_spread_15 rfl ?_
        refine xi_callSr C (kX10_isIn l D cT x2 y4 (fX10_isIn x2 y4) rfl) zcX10_isIn zmX1_57 zsX10_isIn (zr rfl rfl) z00 rfl [] rfl rfl rfl (Nat.le_of_ble_eq_true rfl) dX1_spread_17 (fun z4 => ?_)
        refine xi_if_eq C (tgt := 49) dX1_spread_20 rfl (fun c5 => ?_) (fun c5 => ?_)
        · replace h := (if_pos c5).symm.trans h
          exact B49 (fX1_spread_b5 t_lineCount t_first t_second t_oneWay x1 x2 n) ih y3 y4 h
        · replace h := (if_neg c5).symm.trans h
          refine xi_iload_n C 1 dX1_spread_23 rfl ?_
          refine xi_aload_n C 0 dX1_spread_24 rfl ?_
          refine xi_get C zkX1 2 0 zlX1_18 (by decide) rfl rfl dX1_spread_25 ?_
          refine xi_iload C 4 dX1_spread_28 rfl ?_
          replace h := ig h
          obtain ⟨c17, h⟩ := h
          refine xi_iald C 1 rfl c17 dX1_spread_30 ?_
          refine xi_callSr C (kX10_isIn l D cT x1 (t_first y4.toNatClampNeg) (fX10_isIn x1 (t_first y4.toNatClampNeg)) rfl) zcX10_isIn zmX1_57 zsX10_isIn (zr rfl rfl) z00 rfl [] rfl rfl rfl (Nat.le_of_ble_eq_true rfl) dX1_spread_31 (fun z20 => ?_)
          refine xi_if_eq C (tgt := 49) dX1_spread_34 rfl (fun c21 => ?_) (fun c21 => ?_)
          · replace h := (if_pos c21).symm.trans h
            exact B49 (fX1_spread_b5 t_lineCount t_first t_second t_oneWay x1 x2 n) ih y3 y4 h
          · replace h := (if_neg c21).symm.trans h
            refine xi_iload_n C 3 dX1_spread_37 rfl ?_
            refine xi_iconst C (v := 1) dX1_spread_38 rfl ?_
            refine xi_aload_n C 0 dX1_spread_39 rfl ?_
            refine xi_get C zkX1 3 0 zlX1_22 (by decide) rfl rfl dX1_spread_40 ?_
            refine xi_iload C 4 dX1_spread_43 rfl ?_
            refine xi_iald C 2 rfl c17 dX1_spread_45 ?_
            refine xi_ishl C dX1_spread_46 ?_
            refine xi_ior C dX1_spread_47 ?_
            refine xi_topi (fun w22 ew22 => ?_)
            replace h := nmE ew22 h
            refine xi_istore_n C [1, 2, 3, 0, 4] (L2 := [(0, .ref a_t), (1, .int x1), (2, .int x2), (3, .int w22), (4, .int y4)]) dX1_spread_48 (Nat.le_of_ble_eq_true rfl) rfl ?_
            exact B49 (fX1_spread_b5 t_lineCount t_first t_second t_oneWay x1 x2 n) ih w22 y4 h
  refine xi_drop (L2 := [(0, .ref a_t), (1, .int x1), (2, .int x2)]) [0, 1, 2] rfl ?_
  refine xi_iload_n C 1 dX1_spread_0 rfl ?_
  refine xi_istore_n C [1, 2, 3, 0] (L2 := [(0, .ref a_t), (1, .int x1), (2, .int x2), (3, .int x1)]) dX1_spread_1 (Nat.le_of_ble_eq_true rfl) rfl ?_
  refine xi_iconst C (v := 0) dX1_spread_2 rfl ?_
  refine xi_istore C [1, 2, 3, 4, 0] (L2 := [(0, .ref a_t), (1, .int x1), (2, .int x2), (3, .int x1), (4, .int 0)]) dX1_spread_3 (Nat.le_of_ble_eq_true rfl) rfl ?_
  exact B5 FU x1 0 h
def fX1_reached_b5 (t_people : Int32) (t_lineCount : Int32) (t_first : Nat → Int32) (t_second : Nat → Int32) (t_oneWay : Nat → Int32) (x2 : Int32) : Nat → Int32 → Int32 → Option Int32
  | 0, _, _ => none
  | n + 1, y3, y4 => if t_people ≤ y4 then some y3 else (fX1_spread t_lineCount t_first t_second t_oneWay y3 x2).bind (fun u2 => if u2 = y3 then some y3 else (fX1_reached_b5 t_people t_lineCount t_first t_second t_oneWay x2 n) u2 (y4 + 1))
theorem fX1_reached_b5_0 (t_people : Int32) (t_lineCount : Int32) (t_first : Nat → Int32) (t_second : Nat → Int32) (t_oneWay : Nat → Int32) (x2 : Int32) (y3 : Int32) (y4 : Int32) : fX1_reached_b5 t_people t_lineCount t_first t_second t_oneWay x2 0 y3 y4 = none := rfl
theorem fX1_reached_b5_s (t_people : Int32) (t_lineCount : Int32) (t_first : Nat → Int32) (t_second : Nat → Int32) (t_oneWay : Nat → Int32) (x2 : Int32) (n : Nat) (y3 : Int32) (y4 : Int32) : fX1_reached_b5 t_people t_lineCount t_first t_second t_oneWay x2 (n + 1) y3 y4 = (if t_people ≤ y4 then some y3 else (fX1_spread t_lineCount t_first t_second t_oneWay y3 x2).bind (fun u2 => if u2 = y3 then some y3 else (fX1_reached_b5 t_people t_lineCount t_first t_second t_oneWay x2 n) u2 (y4 + 1))) := rfl
def fX1_reached (t_people : Int32) (t_lineCount : Int32) (t_first : Nat → Int32) (t_second : Nat → Int32) (t_oneWay : Nat → Int32) (x1 : Int32) (x2 : Int32) : Option Int32 := fX1_reached_b5 t_people t_lineCount t_first t_second t_oneWay x2 FU x1 1
set_option maxRecDepth 100000 in
set_option maxHeartbeats 4000000 in
theorem kX1_reached (l : Launch) (D : va_G) (cT : Nat → ClassId) (a_t : Nat) (a_t_first : Nat) (a_t_second : Nat) (a_t_cost : Nat) (a_t_oneWay : Nat) (a_t_breaks : Nat) (a_t_absences : Nat) (t_people : Int32) (t_lineCount : Int32) (t_first : Nat → Int32) (t_second : Nat → Int32) (t_oneWay : Nat → Int32) (x1 : Int32) (x2 : Int32) (r : Int32) (h : fX1_reached t_people t_lineCount t_first t_second t_oneWay x1 x2 = some r) : sM l yX1_reached cX1_reached 6 (some .int) (zR 3) D cT [.ref a_t, .int x1, .int x2] [(a_t, .inr (1, [.int t_people, .int t_lineCount, .ref a_t_first, .ref a_t_second, .ref a_t_cost, .ref a_t_oneWay, .ref a_t_breaks, .ref a_t_absences])), (a_t_first, .inl (cT 0, 24, .inl t_first)), (a_t_second, .inl (cT 0, 24, .inl t_second)), (a_t_oneWay, .inl (cT 3, 24, .inl t_oneWay))] (some (.int r)) [(a_t, .inr (1, [.int t_people, .int t_lineCount, .ref a_t_first, .ref a_t_second, .ref a_t_cost, .ref a_t_oneWay, .ref a_t_breaks, .ref a_t_absences])), (a_t_first, .inl (cT 0, 24, .inl t_first)), (a_t_second, .inl (cT 0, 24, .inl t_second)), (a_t_oneWay, .inl (cT 3, 24, .inl t_oneWay))] := by
  refine sM_int rfl (Nat.le_of_ble_eq_true rfl) ?_
  intro X C hE
  have B5 : ∀ (n : Nat) (y3 : Int32) (y4 : Int32), fX1_reached_b5 t_people t_lineCount t_first t_second t_oneWay x2 n y3 y4 = some r → sW X l (zR 3) D 6 0 0 5 [(0, .ref a_t), (2, .int x2), (3, .int y3), (4, .int y4)] [] [(a_t, .inr (1, [.int t_people, .int t_lineCount, .ref a_t_first, .ref a_t_second, .ref a_t_cost, .ref a_t_oneWay, .ref a_t_breaks, .ref a_t_absences])), (a_t_first, .inl (cT 0, 24, .inl t_first)), (a_t_second, .inl (cT 0, 24, .inl t_second)), (a_t_oneWay, .inl (cT 3, 24, .inl t_oneWay))] := by
    intro n
    induction n with
    | zero =>
      intro y3 y4 h
      exact zno ((fX1_reached_b5_0 _ _ _ _ _ _ _ _).symm.trans h)
    | succ n ih =>
      intro y3 y4 h
      replace h := (fX1_reached_b5_s _ _ _ _ _ _ _ _ _).symm.trans h
      refine xi_iload C 3 dX1_reached_5 rfl ?_
      refine xi_aload_n C 0 dX1_reached_7 rfl ?_
      refine xi_get C zkX1 0 0 zlX1_9 (by decide) rfl rfl dX1_reached_8 ?_
      refine xi_icmp_ge C (tgt := 39) dX1_reached_11 rfl (fun c1 => ?_) (fun c1 => ?_)
      · replace h := (if_pos c1).symm.trans h
        refine xi_iload_n C 2 dX1_reached_39 rfl ?_
        obtain rfl := Option.some.inj h
        exact hE _ _ _ dX1_reached_40 rfl
      · replace h := (if_neg c1).symm.trans h
        refine xi_aload_n C 0 dX1_reached_14 rfl ?_
        refine xi_iload_n C 2 dX1_reached_15 rfl ?_
        refine xi_iload_n C 1 dX1_reached_16 rfl ?_
        replace h := ob h
        obtain ⟨u2, hu3, h⟩ := h
        refine xi_callVr C (kX1_spread l D cT a_t a_t_first a_t_second a_t_cost a_t_oneWay a_t_breaks a_t_absences t_people t_lineCount t_first t_second t_oneWay y3 x2 u2 hu3) zcX1_spread zmX1_75 ziX1_spread (zr rfl rfl) z00 rfl [0, 1, 2, 3] rfl rfl zkX1.1 (qr := 0) rfl rfl (Nat.le_of_ble_eq_true rfl) dX1_reached_17 (fun z4 => ?_)
        refine xi_istore C [1, 2, 3, 4, 0] (L2 := [(0, .ref a_t), (2, .int x2), (3, .int y3), (4, .int y4), (5, .int u2)]) dX1_reached_20 (Nat.le_of_ble_eq_true rfl) rfl ?_
        refine xi_iload C 4 dX1_reached_22 rfl ?_
        refine xi_iload_n C 2 dX1_reached_24 rfl ?_
        refine xi_icmp_ne C (tgt := 30) dX1_reached_25 rfl (fun c5 => ?_) (fun c5 => ?_)
        · replace h := (if_neg c5).symm.trans h
          refine xi_iload C 4 dX1_reached_30 rfl ?_
          refine xi_istore_n C [1, 2, 0, 3, 4] (L2 := [(0, .ref a_t), (2, .int x2), (3, .int u2), (4, .int y4), (5, .int u2)]) dX1_reached_32 (Nat.le_of_ble_eq_true rfl) rfl ?_
          refine xi_iinc C (v := y4 + 1) 3 [1, 2, 3, 0, 4] (L2 := [(0, .ref a_t), (2, .int x2), (3, .int u2), (4, .int (y4 + 1)), (5, .int u2)]) dX1_reached_33 rfl rfl (Nat.le_of_ble_eq_true rfl) rfl ?_
          refine xi_goto C (tgt := 5) dX1_reached_36 rfl ?_
          refine xi_drop (L2 := [(0, .ref a_t), (2, .int x2), (3, .int u2), (4, .int (y4 + 1))]) [0, 1, 2, 3] rfl ?_
          exact ih u2 (y4 + 1) h
        · replace h := (if_pos c5).symm.trans h
          refine xi_iload_n C 2 dX1_reached_28 rfl ?_
          obtain rfl := Option.some.inj h
          exact hE _ _ _ dX1_reached_29 rfl
  refine xi_drop (L2 := [(0, .ref a_t), (1, .int x1), (2, .int x2)]) [0, 1, 2] rfl ?_
  refine xi_iload_n C 1 dX1_reached_0 rfl ?_
  refine xi_istore_n C [1, 2, 3, 0] (L2 := [(0, .ref a_t), (1, .int x1), (2, .int x2), (3, .int x1)]) dX1_reached_1 (Nat.le_of_ble_eq_true rfl) rfl ?_
  refine xi_iconst C (v := 1) dX1_reached_2 rfl ?_
  refine xi_istore C [1, 2, 3, 4, 0] (L2 := [(0, .ref a_t), (1, .int x1), (2, .int x2), (3, .int x1), (4, .int 1)]) dX1_reached_3 (Nat.le_of_ble_eq_true rfl) rfl ?_
  refine xi_drop (L2 := [(0, .ref a_t), (2, .int x2), (3, .int x1), (4, .int 1)]) [0, 2, 3, 4] rfl ?_
  exact B5 FU x1 1 h
def fX1_neededLines_b13 (t_people : Int32) (t_lineCount : Int32) (t_first : Nat → Int32) (t_second : Nat → Int32) (t_oneWay : Nat → Int32) (x1 : Int32) (x2 : Int32) : Nat → Int32 → Int32 → Int32 → Option Int32
  | 0, _, _, _ => none
  | n + 1, y3, y4, y5 => if t_lineCount ≤ y5 then some y4 else if (fX10_isIn x2 y5) = 0 then (fX1_neededLines_b13 t_people t_lineCount t_first t_second t_oneWay x1 x2 n) y3 y4 (y5 + 1) else (fX1_reached t_people t_lineCount t_first t_second t_oneWay x1 (x2 &&& ((1 <<< (y5 &&& 31)) ^^^ (-1)))).bind (fun u9 => if u9 = y3 then (fX1_neededLines_b13 t_people t_lineCount t_first t_second t_oneWay x1 x2 n) y3 y4 (y5 + 1) else (fX1_neededLines_b13 t_people t_lineCount t_first t_second t_oneWay x1 x2 n) y3 (y4 ||| (1 <<< (y5 &&& 31))) (y5 + 1))
theorem fX1_neededLines_b13_0 (t_people : Int32) (t_lineCount : Int32) (t_first : Nat → Int32) (t_second : Nat → Int32) (t_oneWay : Nat → Int32) (x1 : Int32) (x2 : Int32) (y3 : Int32) (y4 : Int32) (y5 : Int32) : fX1_neededLines_b13 t_people t_lineCount t_first t_second t_oneWay x1 x2 0 y3 y4 y5 = none := rfl
theorem fX1_neededLines_b13_s (t_people : Int32) (t_lineCount : Int32) (t_first : Nat → Int32) (t_second : Nat → Int32) (t_oneWay : Nat → Int32) (x1 : Int32) (x2 : Int32) (n : Nat) (y3 : Int32) (y4 : Int32) (y5 : Int32) : fX1_neededLines_b13 t_people t_lineCount t_first t_second t_oneWay x1 x2 (n + 1) y3 y4 y5 = (if t_lineCount ≤ y5 then some y4 else if (fX10_isIn x2 y5) = 0 then (fX1_neededLines_b13 t_people t_lineCount t_first t_second t_oneWay x1 x2 n) y3 y4 (y5 + 1) else (fX1_reached t_people t_lineCount t_first t_second t_oneWay x1 (x2 &&& ((1 <<< (y5 &&& 31)) ^^^ (-1)))).bind (fun u9 => if u9 = y3 then (fX1_neededLines_b13 t_people t_lineCount t_first t_second t_oneWay x1 x2 n) y3 y4 (y5 + 1) else (fX1_neededLines_b13 t_people t_lineCount t_first t_second t_oneWay x1 x2 n) y3 (y4 ||| (1 <<< (y5 &&& 31))) (y5 + 1))) := rfl
def fX1_neededLines (t_people : Int32) (t_lineCount : Int32) (t_first : Nat → Int32) (t_second : Nat → Int32) (t_oneWay : Nat → Int32) (x1 : Int32) (x2 : Int32) : Option Int32 := (fX1_reached t_people t_lineCount t_first t_second t_oneWay x1 x2).bind (fun u1 => fX1_neededLines_b13 t_people t_lineCount t_first t_second t_oneWay x1 x2 FU u1 0 0)
set_option maxRecDepth 100000 in
set_option maxHeartbeats 4000000 in
theorem kX1_neededLines (l : Launch) (D : va_G) (cT : Nat → ClassId) (a_t : Nat) (a_t_first : Nat) (a_t_second : Nat) (a_t_cost : Nat) (a_t_oneWay : Nat) (a_t_breaks : Nat) (a_t_absences : Nat) (t_people : Int32) (t_lineCount : Int32) (t_first : Nat → Int32) (t_second : Nat → Int32) (t_oneWay : Nat → Int32) (x1 : Int32) (x2 : Int32) (r : Int32) (h : fX1_neededLines t_people t_lineCount t_first t_second t_oneWay x1 x2 = some r) : sM l yX1_neededLines cX1_neededLines 6 (some .int) (zR 4) D cT [.ref a_t, .int x1, .int x2] [(a_t, .inr (1, [.int t_people, .int t_lineCount, .ref a_t_first, .ref a_t_second, .ref a_t_cost, .ref a_t_oneWay, .ref a_t_breaks, .ref a_t_absences])), (a_t_first, .inl (cT 0, 24, .inl t_first)), (a_t_second, .inl (cT 0, 24, .inl t_second)), (a_t_oneWay, .inl (cT 3, 24, .inl t_oneWay))] (some (.int r)) [(a_t, .inr (1, [.int t_people, .int t_lineCount, .ref a_t_first, .ref a_t_second, .ref a_t_cost, .ref a_t_oneWay, .ref a_t_breaks, .ref a_t_absences])), (a_t_first, .inl (cT 0, 24, .inl t_first)), (a_t_second, .inl (cT 0, 24, .inl t_second)), (a_t_oneWay, .inl (cT 3, 24, .inl t_oneWay))] := by
  refine sM_int rfl (Nat.le_of_ble_eq_true rfl) ?_
  intro X C hE
  have B13 : ∀ (n : Nat) (y3 : Int32) (y4 : Int32) (y5 : Int32), fX1_neededLines_b13 t_people t_lineCount t_first t_second t_oneWay x1 x2 n y3 y4 y5 = some r → sW X l (zR 4) D 6 0 0 13 [(0, .ref a_t), (1, .int x1), (2, .int x2), (3, .int y3), (4, .int y4), (5, .int y5)] [] [(a_t, .inr (1, [.int t_people, .int t_lineCount, .ref a_t_first, .ref a_t_second, .ref a_t_cost, .ref a_t_oneWay, .ref a_t_breaks, .ref a_t_absences])), (a_t_first, .inl (cT 0, 24, .inl t_first)), (a_t_second, .inl (cT 0, 24, .inl t_second)), (a_t_oneWay, .inl (cT 3, 24, .inl t_oneWay))] := by
    intro n
    induction n with
    | zero =>
      intro y3 y4 y5 h
      exact zno ((fX1_neededLines_b13_0 _ _ _ _ _ _ _ _ _ _).symm.trans h)
    | succ n ih =>
      intro y3 y4 y5 h
      replace h := (fX1_neededLines_b13_s _ _ _ _ _ _ _ _ _ _ _).symm.trans h
      refine xi_iload C 5 dX1_neededLines_13 rfl ?_
      refine xi_aload_n C 0 dX1_neededLines_15 rfl ?_
      refine xi_get C zkX1 1 0 zlX1_15 (by decide) rfl rfl dX1_neededLines_16 ?_
      refine xi_icmp_ge C (tgt := 63) dX1_neededLines_19 rfl (fun c4 => ?_) (fun c4 => ?_)
      · replace h := (if_pos c4).symm.trans h
        refine xi_iload C 4 dX1_neededLines_63 rfl ?_
        obtain rfl := Option.some.inj h
        exact hE _ _ _ dX1_neededLines_65 rfl
      · replace h := (if_neg c4).symm.trans h
        refine xi_iload_n C 2 dX1_neededLines_22 rfl ?_
        refine xi_iload C 5 dX1_neededLines_23 rfl ?_
        refine xi_callSr C (kX10_isIn l D cT x2 y5 (fX10_isIn x2 y5) rfl) zcX10_isIn zmX1_57 zsX10_isIn (zr rfl rfl) z00 rfl [] rfl rfl rfl (Nat.le_of_ble_eq_true rfl) dX1_neededLines_25 (fun z7 => ?_)
        refine xi_if_eq C (tgt := 57) dX1_neededLines_28 rfl (fun c8 => ?_) (fun c8 => ?_)
        · replace h := (if_pos c8).symm.trans h
          refine xi_iinc C (v := y5 + 1) 5 [1, 2, 3, 4, 5, 0] (L2 := [(0, .ref a_t), (1, .int x1), (2, .int x2), (3, .int y3), (4, .int y4), (5, .int (y5 + 1))]) dX1_neededLines_57 rfl rfl (Nat.le_of_ble_eq_true rfl) rfl ?_
          refine xi_goto C (tgt := 13) dX1_neededLines_60 rfl ?_
          exact ih y3 y4 (y5 + 1) h
        · replace h := (if_neg c8).symm.trans h
          refine xi_aload_n C 0 dX1_neededLines_31 rfl ?_
          refine xi_iload_n C 1 dX1_neededLines_32 rfl ?_
          refine xi_iload_n C 2 dX1_neededLines_33 rfl ?_
          refine xi_iconst C (v := 1) dX1_neededLines_34 rfl ?_
          refine xi_iload C 5 dX1_neededLines_35 rfl ?_
          refine xi_ishl C dX1_neededLines_37 ?_
          refine xi_iconst C (v := (-1)) dX1_neededLines_38 rfl ?_
          refine xi_ixor C dX1_neededLines_39 ?_
          refine xi_iand C dX1_neededLines_40 ?_
          replace h := ob h
          obtain ⟨u9, hu10, h⟩ := h
          refine xi_callVr C (kX1_reached l D cT a_t a_t_first a_t_second a_t_cost a_t_oneWay a_t_breaks a_t_absences t_people t_lineCount t_first t_second t_oneWay x1 (x2 &&& ((1 <<< (y5 &&& 31)) ^^^ (-1))) u9 hu10) zcX1_reached zmX1_79 ziX1_reached (zr rfl rfl) z00 rfl [0, 1, 2, 3] rfl rfl zkX1.1 (qr := 0) rfl rfl (Nat.le_of_ble_eq_true rfl) dX1_neededLines_41 (fun z11 => ?_)
          refine xi_iload_n C 3 dX1_neededLines_44 rfl ?_
          refine xi_icmp_eq C (tgt := 57) dX1_neededLines_45 rfl (fun c12 => ?_) (fun c12 => ?_)
          · replace h := (if_pos c12).symm.trans h
            refine xi_iinc C (v := y5 + 1) 5 [1, 2, 3, 4, 5, 0] (L2 := [(0, .ref a_t), (1, .int x1), (2, .int x2), (3, .int y3), (4, .int y4), (5, .int (y5 + 1))]) dX1_neededLines_57 rfl rfl (Nat.le_of_ble_eq_true rfl) rfl ?_
            refine xi_goto C (tgt := 13) dX1_neededLines_60 rfl ?_
            exact ih y3 y4 (y5 + 1) h
          · replace h := (if_neg c12).symm.trans h
            refine xi_iload C 4 dX1_neededLines_48 rfl ?_
            refine xi_iconst C (v := 1) dX1_neededLines_50 rfl ?_
            refine xi_iload C 5 dX1_neededLines_51 rfl ?_
            refine xi_ishl C dX1_neededLines_53 ?_
            refine xi_ior C dX1_neededLines_54 ?_
            refine xi_istore C [1, 2, 3, 4, 0, 5] (L2 := [(0, .ref a_t), (1, .int x1), (2, .int x2), (3, .int y3), (4, .int (y4 ||| (1 <<< (y5 &&& 31)))), (5, .int y5)]) dX1_neededLines_55 (Nat.le_of_ble_eq_true rfl) rfl ?_
            refine xi_iinc C (v := y5 + 1) 5 [1, 2, 3, 4, 5, 0] (L2 := [(0, .ref a_t), (1, .int x1), (2, .int x2), (3, .int y3), (4, .int (y4 ||| (1 <<< (y5 &&& 31)))), (5, .int (y5 + 1))]) dX1_neededLines_57 rfl rfl (Nat.le_of_ble_eq_true rfl) rfl ?_
            refine xi_goto C (tgt := 13) dX1_neededLines_60 rfl ?_
            exact ih y3 (y4 ||| (1 <<< (y5 &&& 31))) (y5 + 1) h
  refine xi_drop (L2 := [(0, .ref a_t), (1, .int x1), (2, .int x2)]) [0, 1, 2] rfl ?_
  refine xi_aload_n C 0 dX1_neededLines_0 rfl ?_
  refine xi_iload_n C 1 dX1_neededLines_1 rfl ?_
  refine xi_iload_n C 2 dX1_neededLines_2 rfl ?_
  replace h := ob h
  obtain ⟨u1, hu2, h⟩ := h
  refine xi_callVr C (kX1_reached l D cT a_t a_t_first a_t_second a_t_cost a_t_oneWay a_t_breaks a_t_absences t_people t_lineCount t_first t_second t_oneWay x1 x2 u1 hu2) zcX1_reached zmX1_79 ziX1_reached (zr rfl rfl) z00 rfl [0, 1, 2, 3] rfl rfl zkX1.1 (qr := 0) rfl rfl (Nat.le_of_ble_eq_true rfl) dX1_neededLines_3 (fun z3 => ?_)
  refine xi_istore_n C [1, 2, 3, 0] (L2 := [(0, .ref a_t), (1, .int x1), (2, .int x2), (3, .int u1)]) dX1_neededLines_6 (Nat.le_of_ble_eq_true rfl) rfl ?_
  refine xi_iconst C (v := 0) dX1_neededLines_7 rfl ?_
  refine xi_istore C [1, 2, 3, 4, 0] (L2 := [(0, .ref a_t), (1, .int x1), (2, .int x2), (3, .int u1), (4, .int 0)]) dX1_neededLines_8 (Nat.le_of_ble_eq_true rfl) rfl ?_
  refine xi_iconst C (v := 0) dX1_neededLines_10 rfl ?_
  refine xi_istore C [1, 2, 3, 4, 5, 0] (L2 := [(0, .ref a_t), (1, .int x1), (2, .int x2), (3, .int u1), (4, .int 0), (5, .int 0)]) dX1_neededLines_11 (Nat.le_of_ble_eq_true rfl) rfl ?_
  exact B13 FU u1 0 0 h
def fX1_added (x0 : Int32) (x1 : Int32) : Int32 := if x0 = 1000000 then (1000000 : Int32) else x0 + x1
set_option maxRecDepth 100000 in
set_option maxHeartbeats 4000000 in
theorem kX1_added (l : Launch) (D : va_G) (cT : Nat → ClassId) (x0 : Int32) (x1 : Int32) (r : Int32) (h : fX1_added x0 x1 = r) : sM l yX1_added cX1_added 2 (some .int) (zR 1) D cT [.int x0, .int x1] [] (some (.int r)) [] := by
  refine sM_int rfl (Nat.le_of_ble_eq_true rfl) ?_
  intro X C hE
  refine xi_drop (L2 := [(0, .int x0), (1, .int x1)]) [0, 1] rfl ?_
  refine xi_iload_n C 0 dX1_added_0 rfl ?_
  refine xi_ldc C (v := 1000000) zcoX1_82 dX1_added_1 ?_
  refine xi_icmp_ne C (tgt := 11) dX1_added_3 rfl (fun c1 => ?_) (fun c1 => ?_)
  · replace h := (if_neg c1).symm.trans h
    refine xi_iload_n C 0 dX1_added_11 rfl ?_
    refine xi_iload_n C 1 dX1_added_12 rfl ?_
    refine xi_iadd C dX1_added_13 ?_
    subst h
    exact hE _ _ _ dX1_added_14 rfl
  · replace h := (if_pos c1).symm.trans h
    refine xi_ldc C (v := 1000000) zcoX1_82 dX1_added_6 ?_
    refine xi_goto C (tgt := 14) dX1_added_8 rfl ?_
    subst h
    exact hE _ _ _ dX1_added_14 rfl
def fX1_lowerCosts_b2 (N_p2 : Nat) (t_lineCount : Int32) (t_first : Nat → Int32) (t_second : Nat → Int32) (t_cost : Nat → Int32) (t_oneWay : Nat → Int32) (x1 : Int32) : Nat → Int32 → (Nat → Int32) → Option ((Nat → Int32))
  | 0, _, _ => none
  | n + 1, y3, p2 => if t_lineCount ≤ y3 then some p2 else if (fX10_isIn x1 y3) = 0 then (fX1_lowerCosts_b2 N_p2 t_lineCount t_first t_second t_cost t_oneWay x1 n) (y3 + 1) p2 else gd y3 24 (gd (t_first y3.toNatClampNeg) N_p2 (nm (p2 (t_first y3.toNatClampNeg).toNatClampNeg) (fun w8 => gd (t_second y3.toNatClampNeg) N_p2 (nm (p2 (t_second y3.toNatClampNeg).toNatClampNeg) (fun w10 => nm (if (fX1_added w8 (t_cost y3.toNatClampNeg)) < w10 then (fX1_added w8 (t_cost y3.toNatClampNeg)) else w10) (fun w14 => if (t_oneWay y3.toNatClampNeg) = 0 then nm (if (fX1_added w10 (t_cost y3.toNatClampNeg)) < w8 then (fX1_added w10 (t_cost y3.toNatClampNeg)) else w8) (fun w19 => (fX1_lowerCosts_b2 N_p2 t_lineCount t_first t_second t_cost t_oneWay x1 n) (y3 + 1) (upd (upd p2 (t_second y3.toNatClampNeg).toNatClampNeg w14) (t_first y3.toNatClampNeg).toNatClampNeg w19)) else (fX1_lowerCosts_b2 N_p2 t_lineCount t_first t_second t_cost t_oneWay x1 n) (y3 + 1) (upd p2 (t_second y3.toNatClampNeg).toNatClampNeg w14)))))))
theorem fX1_lowerCosts_b2_0 (N_p2 : Nat) (t_lineCount : Int32) (t_first : Nat → Int32) (t_second : Nat → Int32) (t_cost : Nat → Int32) (t_oneWay : Nat → Int32) (x1 : Int32) (y3 : Int32) (p2 : Nat → Int32) : fX1_lowerCosts_b2 N_p2 t_lineCount t_first t_second t_cost t_oneWay x1 0 y3 p2 = none := rfl
theorem fX1_lowerCosts_b2_s (N_p2 : Nat) (t_lineCount : Int32) (t_first : Nat → Int32) (t_second : Nat → Int32) (t_cost : Nat → Int32) (t_oneWay : Nat → Int32) (x1 : Int32) (n : Nat) (y3 : Int32) (p2 : Nat → Int32) : fX1_lowerCosts_b2 N_p2 t_lineCount t_first t_second t_cost t_oneWay x1 (n + 1) y3 p2 = (if t_lineCount ≤ y3 then some p2 else if (fX10_isIn x1 y3) = 0 then (fX1_lowerCosts_b2 N_p2 t_lineCount t_first t_second t_cost t_oneWay x1 n) (y3 + 1) p2 else gd y3 24 (gd (t_first y3.toNatClampNeg) N_p2 (nm (p2 (t_first y3.toNatClampNeg).toNatClampNeg) (fun w8 => gd (t_second y3.toNatClampNeg) N_p2 (nm (p2 (t_second y3.toNatClampNeg).toNatClampNeg) (fun w10 => nm (if (fX1_added w8 (t_cost y3.toNatClampNeg)) < w10 then (fX1_added w8 (t_cost y3.toNatClampNeg)) else w10) (fun w14 => if (t_oneWay y3.toNatClampNeg) = 0 then nm (if (fX1_added w10 (t_cost y3.toNatClampNeg)) < w8 then (fX1_added w10 (t_cost y3.toNatClampNeg)) else w8) (fun w19 => (fX1_lowerCosts_b2 N_p2 t_lineCount t_first t_second t_cost t_oneWay x1 n) (y3 + 1) (upd (upd p2 (t_second y3.toNatClampNeg).toNatClampNeg w14) (t_first y3.toNatClampNeg).toNatClampNeg w19)) else (fX1_lowerCosts_b2 N_p2 t_lineCount t_first t_second t_cost t_oneWay x1 n) (y3 + 1) (upd p2 (t_second y3.toNatClampNeg).toNatClampNeg w14)))))))) := rfl
def fX1_lowerCosts (N_p2 : Nat) (t_lineCount : Int32) (t_first : Nat → Int32) (t_second : Nat → Int32) (t_cost : Nat → Int32) (t_oneWay : Nat → Int32) (p2 : Nat → Int32) (x1 : Int32) : Option ((Nat → Int32)) := fX1_lowerCosts_b2 N_p2 t_lineCount t_first t_second t_cost t_oneWay x1 FU 0 p2
set_option maxRecDepth 100000 in
set_option maxHeartbeats 4000000 in
theorem kX1_lowerCosts (l : Launch) (D : va_G) (cT : Nat → ClassId) (a_t : Nat) (a_t_first : Nat) (a_t_second : Nat) (a_t_cost : Nat) (a_t_oneWay : Nat) (a_t_breaks : Nat) (a_t_absences : Nat) (a_p2 : Nat) (N_p2 : Nat) (t_people : Int32) (t_lineCount : Int32) (t_first : Nat → Int32) (t_second : Nat → Int32) (t_cost : Nat → Int32) (t_oneWay : Nat → Int32) (p2 : Nat → Int32) (x1 : Int32) (r : (Nat → Int32)) (h : fX1_lowerCosts N_p2 t_lineCount t_first t_second t_cost t_oneWay p2 x1 = some r) : sM l yX1_lowerCosts cX1_lowerCosts 6 none (zR 2) D cT [.ref a_t, .int x1, .ref a_p2] [(a_t, .inr (1, [.int t_people, .int t_lineCount, .ref a_t_first, .ref a_t_second, .ref a_t_cost, .ref a_t_oneWay, .ref a_t_breaks, .ref a_t_absences])), (a_t_first, .inl (cT 0, 24, .inl t_first)), (a_t_second, .inl (cT 0, 24, .inl t_second)), (a_t_cost, .inl (cT 0, 24, .inl t_cost)), (a_t_oneWay, .inl (cT 3, 24, .inl t_oneWay)), (a_p2, .inl (cT 0, N_p2, .inl p2))] none [(a_t, .inr (1, [.int t_people, .int t_lineCount, .ref a_t_first, .ref a_t_second, .ref a_t_cost, .ref a_t_oneWay, .ref a_t_breaks, .ref a_t_absences])), (a_t_first, .inl (cT 0, 24, .inl t_first)), (a_t_second, .inl (cT 0, 24, .inl t_second)), (a_t_cost, .inl (cT 0, 24, .inl t_cost)), (a_t_oneWay, .inl (cT 3, 24, .inl t_oneWay)), (a_p2, .inl (cT 0, N_p2, .inl r))] := by
  refine sM_void rfl (Nat.le_of_ble_eq_true rfl) ?_
  intro X C hE
  have B2 : ∀ (n : Nat) (y3 : Int32) (p2 : Nat → Int32), fX1_lowerCosts_b2 N_p2 t_lineCount t_first t_second t_cost t_oneWay x1 n y3 p2 = some r → sW X l (zR 2) D 6 0 0 2 [(0, .ref a_t), (1, .int x1), (2, .ref a_p2), (3, .int y3)] [] [(a_t, .inr (1, [.int t_people, .int t_lineCount, .ref a_t_first, .ref a_t_second, .ref a_t_cost, .ref a_t_oneWay, .ref a_t_breaks, .ref a_t_absences])), (a_t_first, .inl (cT 0, 24, .inl t_first)), (a_t_second, .inl (cT 0, 24, .inl t_second)), (a_t_cost, .inl (cT 0, 24, .inl t_cost)), (a_t_oneWay, .inl (cT 3, 24, .inl t_oneWay)), (a_p2, .inl (cT 0, N_p2, .inl p2))] := by
    intro n
    induction n with
    | zero =>
      intro y3 p2 h
      exact zno ((fX1_lowerCosts_b2_0 _ _ _ _ _ _ _ _ _).symm.trans h)
    | succ n ih =>
      intro y3 p2 h
      replace h := (fX1_lowerCosts_b2_s _ _ _ _ _ _ _ _ _ _).symm.trans h
      refine xi_iload_n C 3 dX1_lowerCosts_2 rfl ?_
      refine xi_aload_n C 0 dX1_lowerCosts_3 rfl ?_
      refine xi_get C zkX1 1 0 zlX1_15 (by decide) rfl rfl dX1_lowerCosts_4 ?_
      refine xi_icmp_ge C (tgt := 101) dX1_lowerCosts_7 rfl (fun c1 => ?_) (fun c1 => ?_)
      · replace h := (if_pos c1).symm.trans h
        obtain rfl := Option.some.inj h
        exact hE _ _ dX1_lowerCosts_101 rfl
      · replace h := (if_neg c1).symm.trans h
        refine xi_iload_n C 1 dX1_lowerCosts_10 rfl ?_
        refine xi_iload_n C 3 dX1_lowerCosts_11 rfl ?_
        refine xi_callSr C (kX10_isIn l D cT x1 y3 (fX10_isIn x1 y3) rfl) zcX10_isIn zmX1_57 zsX10_isIn (zr rfl rfl) z00 rfl [] rfl rfl rfl (Nat.le_of_ble_eq_true rfl) dX1_lowerCosts_12 (fun z4 => ?_)
        refine xi_if_eq C (tgt := 95) dX1_lowerCosts_15 rfl (fun c5 => ?_) (fun c5 => ?_)
        · replace h := (if_pos c5).symm.trans h
          refine xi_iinc C (v := y3 + 1) 3 [1, 2, 3, 0] (L2 := [(0, .ref a_t), (1, .int x1), (2, .ref a_p2), (3, .int (y3 + 1))]) dX1_lowerCosts_95 rfl rfl (Nat.le_of_ble_eq_true rfl) rfl ?_
          refine xi_goto C (tgt := 2) dX1_lowerCosts_98 rfl ?_
          exact ih (y3 + 1) p2 h
        · replace h := (if_neg c5).symm.trans h
          refine xi_aload_n C 2 dX1_lowerCosts_18 rfl ?_
          refine xi_aload_n C 0 dX1_lowerCosts_19 rfl ?_
          refine xi_get C zkX1 2 0 zlX1_18 (by decide) rfl rfl dX1_lowerCosts_20 ?_
          refine xi_iload_n C 3 dX1_lowerCosts_23 rfl ?_
          replace h := ig h
          obtain ⟨c6, h⟩ := h
          refine xi_iald C 1 rfl c6 dX1_lowerCosts_24 ?_
          replace h := ig h
          obtain ⟨c7, h⟩ := h
          refine xi_iald C 5 rfl c7 dX1_lowerCosts_25 ?_
          refine xi_topi (fun w8 ew8 => ?_)
          replace h := nmE ew8 h
          refine xi_istore C [1, 2, 3, 4, 0] (L2 := [(0, .ref a_t), (1, .int x1), (2, .ref a_p2), (3, .int y3), (4, .int w8)]) dX1_lowerCosts_26 (Nat.le_of_ble_eq_true rfl) rfl ?_
          refine xi_aload_n C 2 dX1_lowerCosts_28 rfl ?_
          refine xi_aload_n C 0 dX1_lowerCosts_29 rfl ?_
          refine xi_get C zkX1 3 0 zlX1_22 (by decide) rfl rfl dX1_lowerCosts_30 ?_
          refine xi_iload_n C 3 dX1_lowerCosts_33 rfl ?_
          refine xi_iald C 2 rfl c6 dX1_lowerCosts_34 ?_
          replace h := ig h
          obtain ⟨c9, h⟩ := h
          refine xi_iald C 5 rfl c9 dX1_lowerCosts_35 ?_
          refine xi_topi (fun w10 ew10 => ?_)
          replace h := nmE ew10 h
          refine xi_istore C [1, 2, 3, 4, 5, 0] (L2 := [(0, .ref a_t), (1, .int x1), (2, .ref a_p2), (3, .int y3), (4, .int w8), (5, .int w10)]) dX1_lowerCosts_36 (Nat.le_of_ble_eq_true rfl) rfl ?_
          refine xi_aload_n C 2 dX1_lowerCosts_38 rfl ?_
          refine xi_aload_n C 0 dX1_lowerCosts_39 rfl ?_
          refine xi_get C zkX1 3 0 zlX1_22 (by decide) rfl rfl dX1_lowerCosts_40 ?_
          refine xi_iload_n C 3 dX1_lowerCosts_43 rfl ?_
          refine xi_iald C 2 rfl c6 dX1_lowerCosts_44 ?_
          refine xi_iload C 5 dX1_lowerCosts_45 rfl ?_
          refine xi_iload C 4 dX1_lowerCosts_47 rfl ?_
          refine xi_aload_n C 0 dX1_lowerCosts_49 rfl ?_
          refine xi_get C zkX1 4 0 zlX1_25 (by decide) rfl rfl dX1_lowerCosts_50 ?_
          refine xi_iload_n C 3 dX1_lowerCosts_53 rfl ?_
          refine xi_iald C 3 rfl c6 dX1_lowerCosts_54 ?_
          refine xi_callSr C (kX1_added l D cT w8 (t_cost y3.toNatClampNeg) (fX1_added w8 (t_cost y3.toNatClampNeg)) rfl) zcX1_added zmX1_87 zsX1_added (zr rfl rfl) z00 rfl [] rfl rfl rfl (Nat.le_of_ble_eq_true rfl) dX1_lowerCosts_55 (fun z13 => ?_)
          refine xi_mmin C zmjX1_90 zrj z00 (Nat.le_of_ble_eq_true rfl) dX1_lowerCosts_58 ?_
          refine xi_topi (fun w14 ew14 => ?_)
          replace h := nmE ew14 h
          refine xi_iast C 5 rfl c9 dX1_lowerCosts_61 (ws2 := [(a_t, .inr (1, [.int t_people, .int t_lineCount, .ref a_t_first, .ref a_t_second, .ref a_t_cost, .ref a_t_oneWay, .ref a_t_breaks, .ref a_t_absences])), (a_t_first, .inl (cT 0, 24, .inl t_first)), (a_t_second, .inl (cT 0, 24, .inl t_second)), (a_t_cost, .inl (cT 0, 24, .inl t_cost)), (a_t_oneWay, .inl (cT 3, 24, .inl t_oneWay)), (a_p2, .inl (cT 0, N_p2, .inl (upd p2 (t_second y3.toNatClampNeg).toNatClampNeg w14)))]) rfl ?_
          refine xi_aload_n C 0 dX1_lowerCosts_62 rfl ?_
          refine xi_get C zkX1 5 0 zlX1_28 (by decide) rfl rfl dX1_lowerCosts_63 ?_
          refine xi_iload_n C 3 dX1_lowerCosts_66 rfl ?_
          refine xi_zald C 4 rfl c6 dX1_lowerCosts_67 ?_
          refine xi_if_ne C (tgt := 95) dX1_lowerCosts_68 rfl (fun c15 => ?_) (fun c15 => ?_)
          · replace h := (if_neg c15).symm.trans h
            refine xi_iinc C (v := y3 + 1) 3 [1, 2, 3, 0, 4, 5] (L2 := [(0, .ref a_t), (1, .int x1), (2, .ref a_p2), (3, .int (y3 + 1)), (4, .int w8), (5, .int w10)]) dX1_lowerCosts_95 rfl rfl (Nat.le_of_ble_eq_true rfl) rfl ?_
            refine xi_goto C (tgt := 2) dX1_lowerCosts_98 rfl ?_
            refine xi_drop (L2 := [(0, .ref a_t), (1, .int x1), (2, .ref a_p2), (3, .int (y3 + 1))]) [0, 1, 2, 3] rfl ?_
            exact ih (y3 + 1) (upd p2 (t_second y3.toNatClampNeg).toNatClampNeg w14) h
          · replace h := (if_pos c15).symm.trans h
            refine xi_aload_n C 2 dX1_lowerCosts_71 rfl ?_
            refine xi_aload_n C 0 dX1_lowerCosts_72 rfl ?_
            refine xi_get C zkX1 2 0 zlX1_18 (by decide) rfl rfl dX1_lowerCosts_73 ?_
            refine xi_iload_n C 3 dX1_lowerCosts_76 rfl ?_
            refine xi_iald C 1 rfl c6 dX1_lowerCosts_77 ?_
            refine xi_iload C 4 dX1_lowerCosts_78 rfl ?_
            refine xi_iload C 5 dX1_lowerCosts_80 rfl ?_
            refine xi_aload_n C 0 dX1_lowerCosts_82 rfl ?_
            refine xi_get C zkX1 4 0 zlX1_25 (by decide) rfl rfl dX1_lowerCosts_83 ?_
            refine xi_iload_n C 3 dX1_lowerCosts_86 rfl ?_
            refine xi_iald C 3 rfl c6 dX1_lowerCosts_87 ?_
            refine xi_callSr C (kX1_added l D cT w10 (t_cost y3.toNatClampNeg) (fX1_added w10 (t_cost y3.toNatClampNeg)) rfl) zcX1_added zmX1_87 zsX1_added (zr rfl rfl) z00 rfl [] rfl rfl rfl (Nat.le_of_ble_eq_true rfl) dX1_lowerCosts_88 (fun z18 => ?_)
            refine xi_mmin C zmjX1_90 zrj z00 (Nat.le_of_ble_eq_true rfl) dX1_lowerCosts_91 ?_
            refine xi_topi (fun w19 ew19 => ?_)
            replace h := nmE ew19 h
            refine xi_iast C 5 rfl c7 dX1_lowerCosts_94 (ws2 := [(a_t, .inr (1, [.int t_people, .int t_lineCount, .ref a_t_first, .ref a_t_second, .ref a_t_cost, .ref a_t_oneWay, .ref a_t_breaks, .ref a_t_absences])), (a_t_first, .inl (cT 0, 24, .inl t_first)), (a_t_second, .inl (cT 0, 24, .inl t_second)), (a_t_cost, .inl (cT 0, 24, .inl t_cost)), (a_t_oneWay, .inl (cT 3, 24, .inl t_oneWay)), (a_p2, .inl (cT 0, N_p2, .inl (upd (upd p2 (t_second y3.toNatClampNeg).toNatClampNeg w14) (t_first y3.toNatClampNeg).toNatClampNeg w19)))]) rfl ?_
            refine xi_iinc C (v := y3 + 1) 3 [1, 2, 3, 0, 4, 5] (L2 := [(0, .ref a_t), (1, .int x1), (2, .ref a_p2), (3, .int (y3 + 1)), (4, .int w8), (5, .int w10)]) dX1_lowerCosts_95 rfl rfl (Nat.le_of_ble_eq_true rfl) rfl ?_
            refine xi_goto C (tgt := 2) dX1_lowerCosts_98 rfl ?_
            refine xi_drop (L2 := [(0, .ref a_t), (1, .int x1), (2, .ref a_p2), (3, .int (y3 + 1))]) [0, 1, 2, 3] rfl ?_
            exact ih (y3 + 1) (upd (upd p2 (t_second y3.toNatClampNeg).toNatClampNeg w14) (t_first y3.toNatClampNeg).toNatClampNeg w19) h
  refine xi_drop (L2 := [(0, .ref a_t), (1, .int x1), (2, .ref a_p2)]) [0, 1, 2] rfl ?_
  refine xi_iconst C (v := 0) dX1_lowerCosts_0 rfl ?_
  refine xi_istore_n C [1, 2, 3, 0] (L2 := [(0, .ref a_t), (1, .int x1), (2, .ref a_p2), (3, .int 0)]) dX1_lowerCosts_1 (Nat.le_of_ble_eq_true rfl) rfl ?_
  exact B2 FU 0 p2 h
def fX1_fillLeastCosts_b62 (N_p3 : Nat) : Nat → Int32 → (Nat → Int32) → Option ((Nat → Int32))
  | 0, _, _ => none
  | n + 1, y4, p3 => if 10 ≤ y4 then some p3 else gd y4 N_p3 (if (p3 y4.toNatClampNeg) = 1000000 then (fX1_fillLeastCosts_b62 N_p3 n) (y4 + 1) (upd p3 y4.toNatClampNeg (-1)) else (fX1_fillLeastCosts_b62 N_p3 n) (y4 + 1) p3)
theorem fX1_fillLeastCosts_b62_0 (N_p3 : Nat) (y4 : Int32) (p3 : Nat → Int32) : fX1_fillLeastCosts_b62 N_p3 0 y4 p3 = none := rfl
theorem fX1_fillLeastCosts_b62_s (N_p3 : Nat) (n : Nat) (y4 : Int32) (p3 : Nat → Int32) : fX1_fillLeastCosts_b62 N_p3 (n + 1) y4 p3 = (if 10 ≤ y4 then some p3 else gd y4 N_p3 (if (p3 y4.toNatClampNeg) = 1000000 then (fX1_fillLeastCosts_b62 N_p3 n) (y4 + 1) (upd p3 y4.toNatClampNeg (-1)) else (fX1_fillLeastCosts_b62 N_p3 n) (y4 + 1) p3)) := rfl
def fX1_fillLeastCosts_b38 (N_p3 : Nat) (t_people : Int32) (t_lineCount : Int32) (t_first : Nat → Int32) (t_second : Nat → Int32) (t_cost : Nat → Int32) (t_oneWay : Nat → Int32) (x2 : Int32) : Nat → Int32 → (Nat → Int32) → Option ((Nat → Int32))
  | 0, _, _ => none
  | n + 1, y4, p3 => if t_people ≤ y4 then fX1_fillLeastCosts_b62 N_p3 FU 0 p3 else (fX1_lowerCosts N_p3 t_lineCount t_first t_second t_cost t_oneWay p3 x2).bind (fun u6 => (fX1_fillLeastCosts_b38 N_p3 t_people t_lineCount t_first t_second t_cost t_oneWay x2 n) (y4 + 1) u6)
theorem fX1_fillLeastCosts_b38_0 (N_p3 : Nat) (t_people : Int32) (t_lineCount : Int32) (t_first : Nat → Int32) (t_second : Nat → Int32) (t_cost : Nat → Int32) (t_oneWay : Nat → Int32) (x2 : Int32) (y4 : Int32) (p3 : Nat → Int32) : fX1_fillLeastCosts_b38 N_p3 t_people t_lineCount t_first t_second t_cost t_oneWay x2 0 y4 p3 = none := rfl
theorem fX1_fillLeastCosts_b38_s (N_p3 : Nat) (t_people : Int32) (t_lineCount : Int32) (t_first : Nat → Int32) (t_second : Nat → Int32) (t_cost : Nat → Int32) (t_oneWay : Nat → Int32) (x2 : Int32) (n : Nat) (y4 : Int32) (p3 : Nat → Int32) : fX1_fillLeastCosts_b38 N_p3 t_people t_lineCount t_first t_second t_cost t_oneWay x2 (n + 1) y4 p3 = (if t_people ≤ y4 then fX1_fillLeastCosts_b62 N_p3 FU 0 p3 else (fX1_lowerCosts N_p3 t_lineCount t_first t_second t_cost t_oneWay p3 x2).bind (fun u6 => (fX1_fillLeastCosts_b38 N_p3 t_people t_lineCount t_first t_second t_cost t_oneWay x2 n) (y4 + 1) u6)) := rfl
def fX1_fillLeastCosts_b28 (N_p3 : Nat) (K3 : Int32 → (Nat → Int32) → Option ((Nat → Int32))) (y4 : Int32) (s0 : Int32) (s1 : Int32) (p3 : Nat → Int32) : Option ((Nat → Int32)) := gd s1 N_p3 (K3 (y4 + 1) (upd p3 s1.toNatClampNeg s0))
def fX1_fillLeastCosts_b3 (N_p3 : Nat) (t_people : Int32) (t_lineCount : Int32) (t_first : Nat → Int32) (t_second : Nat → Int32) (t_cost : Nat → Int32) (t_oneWay : Nat → Int32) (x1 : Int32) (x2 : Int32) : Nat → Int32 → (Nat → Int32) → Option ((Nat → Int32))
  | 0, _, _ => none
  | n + 1, y4, p3 => if 10 ≤ y4 then fX1_fillLeastCosts_b38 N_p3 t_people t_lineCount t_first t_second t_cost t_oneWay x2 FU 1 p3 else if (fX10_isIn x1 y4) = 0 then fX1_fillLeastCosts_b28 N_p3 (fX1_fillLeastCosts_b3 N_p3 t_people t_lineCount t_first t_second t_cost t_oneWay x1 x2 n) y4 1000000 y4 p3 else fX1_fillLeastCosts_b28 N_p3 (fX1_fillLeastCosts_b3 N_p3 t_people t_lineCount t_first t_second t_cost t_oneWay x1 x2 n) y4 0 y4 p3
theorem fX1_fillLeastCosts_b3_0 (N_p3 : Nat) (t_people : Int32) (t_lineCount : Int32) (t_first : Nat → Int32) (t_second : Nat → Int32) (t_cost : Nat → Int32) (t_oneWay : Nat → Int32) (x1 : Int32) (x2 : Int32) (y4 : Int32) (p3 : Nat → Int32) : fX1_fillLeastCosts_b3 N_p3 t_people t_lineCount t_first t_second t_cost t_oneWay x1 x2 0 y4 p3 = none := rfl
theorem fX1_fillLeastCosts_b3_s (N_p3 : Nat) (t_people : Int32) (t_lineCount : Int32) (t_first : Nat → Int32) (t_second : Nat → Int32) (t_cost : Nat → Int32) (t_oneWay : Nat → Int32) (x1 : Int32) (x2 : Int32) (n : Nat) (y4 : Int32) (p3 : Nat → Int32) : fX1_fillLeastCosts_b3 N_p3 t_people t_lineCount t_first t_second t_cost t_oneWay x1 x2 (n + 1) y4 p3 = (if 10 ≤ y4 then fX1_fillLeastCosts_b38 N_p3 t_people t_lineCount t_first t_second t_cost t_oneWay x2 FU 1 p3 else if (fX10_isIn x1 y4) = 0 then fX1_fillLeastCosts_b28 N_p3 (fX1_fillLeastCosts_b3 N_p3 t_people t_lineCount t_first t_second t_cost t_oneWay x1 x2 n) y4 1000000 y4 p3 else fX1_fillLeastCosts_b28 N_p3 (fX1_fillLeastCosts_b3 N_p3 t_people t_lineCount t_first t_second t_cost t_oneWay x1 x2 n) y4 0 y4 p3) := rfl
def fX1_fillLeastCosts (N_p3 : Nat) (t_people : Int32) (t_lineCount : Int32) (t_first : Nat → Int32) (t_second : Nat → Int32) (t_cost : Nat → Int32) (t_oneWay : Nat → Int32) (p3 : Nat → Int32) (x1 : Int32) (x2 : Int32) : Option ((Nat → Int32)) := fX1_fillLeastCosts_b3 N_p3 t_people t_lineCount t_first t_second t_cost t_oneWay x1 x2 FU 0 p3
set_option maxRecDepth 100000 in
set_option maxHeartbeats 4000000 in
theorem kX1_fillLeastCosts (l : Launch) (D : va_G) (cT : Nat → ClassId) (a_t : Nat) (a_t_first : Nat) (a_t_second : Nat) (a_t_cost : Nat) (a_t_oneWay : Nat) (a_t_breaks : Nat) (a_t_absences : Nat) (a_p3 : Nat) (N_p3 : Nat) (t_people : Int32) (t_lineCount : Int32) (t_first : Nat → Int32) (t_second : Nat → Int32) (t_cost : Nat → Int32) (t_oneWay : Nat → Int32) (p3 : Nat → Int32) (x1 : Int32) (x2 : Int32) (r : (Nat → Int32)) (h : fX1_fillLeastCosts N_p3 t_people t_lineCount t_first t_second t_cost t_oneWay p3 x1 x2 = some r) : sM l yX1_fillLeastCosts cX1_fillLeastCosts 5 none (zR 3) D cT [.ref a_t, .int x1, .int x2, .ref a_p3] [(a_t, .inr (1, [.int t_people, .int t_lineCount, .ref a_t_first, .ref a_t_second, .ref a_t_cost, .ref a_t_oneWay, .ref a_t_breaks, .ref a_t_absences])), (a_t_first, .inl (cT 0, 24, .inl t_first)), (a_t_second, .inl (cT 0, 24, .inl t_second)), (a_t_cost, .inl (cT 0, 24, .inl t_cost)), (a_t_oneWay, .inl (cT 3, 24, .inl t_oneWay)), (a_p3, .inl (cT 0, N_p3, .inl p3))] none [(a_t, .inr (1, [.int t_people, .int t_lineCount, .ref a_t_first, .ref a_t_second, .ref a_t_cost, .ref a_t_oneWay, .ref a_t_breaks, .ref a_t_absences])), (a_t_first, .inl (cT 0, 24, .inl t_first)), (a_t_second, .inl (cT 0, 24, .inl t_second)), (a_t_cost, .inl (cT 0, 24, .inl t_cost)), (a_t_oneWay, .inl (cT 3, 24, .inl t_oneWay)), (a_p3, .inl (cT 0, N_p3, .inl r))] := by
  refine sM_void rfl (Nat.le_of_ble_eq_true rfl) ?_
  intro X C hE
  have B62 : ∀ (n : Nat) (y4 : Int32) (p3 : Nat → Int32), fX1_fillLeastCosts_b62 N_p3 n y4 p3 = some r → sW X l (zR 3) D 5 0 0 62 [(3, .ref a_p3), (4, .int y4)] [] [(a_t, .inr (1, [.int t_people, .int t_lineCount, .ref a_t_first, .ref a_t_second, .ref a_t_cost, .ref a_t_oneWay, .ref a_t_breaks, .ref a_t_absences])), (a_t_first, .inl (cT 0, 24, .inl t_first)), (a_t_second, .inl (cT 0, 24, .inl t_second)), (a_t_cost, .inl (cT 0, 24, .inl t_cost)), (a_t_oneWay, .inl (cT 3, 24, .inl t_oneWay)), (a_p3, .inl (cT 0, N_p3, .inl p3))] := by
    intro n
    induction n with
    | zero =>
      intro y4 p3 h
      exact zno ((fX1_fillLeastCosts_b62_0 _ _ _).symm.trans h)
    | succ n ih =>
      intro y4 p3 h
      replace h := (fX1_fillLeastCosts_b62_s _ _ _ _).symm.trans h
      refine xi_iload C 1 dX1_fillLeastCosts_62 rfl ?_
      refine xi_bipush C (v := 10) dX1_fillLeastCosts_64 rfl ?_
      refine xi_icmp_ge C (tgt := 89) dX1_fillLeastCosts_66 rfl (fun c3 => ?_) (fun c3 => ?_)
      · replace h := (if_pos c3).symm.trans h
        obtain rfl := Option.some.inj h
        exact hE _ _ dX1_fillLeastCosts_89 rfl
      · replace h := (if_neg c3).symm.trans h
        refine xi_aload_n C 0 dX1_fillLeastCosts_69 rfl ?_
        refine xi_iload C 1 dX1_fillLeastCosts_70 rfl ?_
        replace h := ig h
        obtain ⟨c4, h⟩ := h
        refine xi_iald C 5 rfl c4 dX1_fillLeastCosts_72 ?_
        refine xi_ldc C (v := 1000000) zcoX1_82 dX1_fillLeastCosts_73 ?_
        refine xi_icmp_ne C (tgt := 83) dX1_fillLeastCosts_75 rfl (fun c5 => ?_) (fun c5 => ?_)
        · replace h := (if_neg c5).symm.trans h
          refine xi_iinc C (v := y4 + 1) 1 [1, 0] (L2 := [(3, .ref a_p3), (4, .int (y4 + 1))]) dX1_fillLeastCosts_83 rfl rfl (Nat.le_of_ble_eq_true rfl) rfl ?_
          refine xi_goto C (tgt := 62) dX1_fillLeastCosts_86 rfl ?_
          exact ih (y4 + 1) p3 h
        · replace h := (if_pos c5).symm.trans h
          refine xi_aload_n C 0 dX1_fillLeastCosts_78 rfl ?_
          refine xi_iload C 1 dX1_fillLeastCosts_79 rfl ?_
          refine xi_iconst C (v := (-1)) dX1_fillLeastCosts_81 rfl ?_
          refine xi_iast C 5 rfl c4 dX1_fillLeastCosts_82 (ws2 := [(a_t, .inr (1, [.int t_people, .int t_lineCount, .ref a_t_first, .ref a_t_second, .ref a_t_cost, .ref a_t_oneWay, .ref a_t_breaks, .ref a_t_absences])), (a_t_first, .inl (cT 0, 24, .inl t_first)), (a_t_second, .inl (cT 0, 24, .inl t_second)), (a_t_cost, .inl (cT 0, 24, .inl t_cost)), (a_t_oneWay, .inl (cT 3, 24, .inl t_oneWay)), (a_p3, .inl (cT 0, N_p3, .inl (upd p3 y4.toNatClampNeg (-1))))]) rfl ?_
          refine xi_iinc C (v := y4 + 1) 1 [1, 0] (L2 := [(3, .ref a_p3), (4, .int (y4 + 1))]) dX1_fillLeastCosts_83 rfl rfl (Nat.le_of_ble_eq_true rfl) rfl ?_
          refine xi_goto C (tgt := 62) dX1_fillLeastCosts_86 rfl ?_
          exact ih (y4 + 1) (upd p3 y4.toNatClampNeg (-1)) h
  have B38 : ∀ (n : Nat) (y4 : Int32) (p3 : Nat → Int32), fX1_fillLeastCosts_b38 N_p3 t_people t_lineCount t_first t_second t_cost t_oneWay x2 n y4 p3 = some r → sW X l (zR 3) D 5 0 0 38 [(0, .ref a_t), (2, .int x2), (3, .ref a_p3), (4, .int y4)] [] [(a_t, .inr (1, [.int t_people, .int t_lineCount, .ref a_t_first, .ref a_t_second, .ref a_t_cost, .ref a_t_oneWay, .ref a_t_breaks, .ref a_t_absences])), (a_t_first, .inl (cT 0, 24, .inl t_first)), (a_t_second, .inl (cT 0, 24, .inl t_second)), (a_t_cost, .inl (cT 0, 24, .inl t_cost)), (a_t_oneWay, .inl (cT 3, 24, .inl t_oneWay)), (a_p3, .inl (cT 0, N_p3, .inl p3))] := by
    intro n
    induction n with
    | zero =>
      intro y4 p3 h
      exact zno ((fX1_fillLeastCosts_b38_0 _ _ _ _ _ _ _ _ _ _).symm.trans h)
    | succ n ih =>
      intro y4 p3 h
      replace h := (fX1_fillLeastCosts_b38_s _ _ _ _ _ _ _ _ _ _ _).symm.trans h
      refine xi_iload C 3 dX1_fillLeastCosts_38 rfl ?_
      refine xi_aload_n C 0 dX1_fillLeastCosts_40 rfl ?_
      refine xi_get C zkX1 0 0 zlX1_9 (by decide) rfl rfl dX1_fillLeastCosts_41 ?_
      refine xi_icmp_ge C (tgt := 59) dX1_fillLeastCosts_44 rfl (fun c2 => ?_) (fun c2 => ?_)
      · replace h := (if_pos c2).symm.trans h
        refine xi_iconst C (v := 0) dX1_fillLeastCosts_59 rfl ?_
        refine xi_istore C [1, 2, 3, 0] (L2 := [(0, .ref a_t), (2, .int x2), (3, .ref a_p3), (4, .int 0)]) dX1_fillLeastCosts_60 (Nat.le_of_ble_eq_true rfl) rfl ?_
        refine xi_drop (L2 := [(3, .ref a_p3), (4, .int 0)]) [2, 3] rfl ?_
        exact B62 FU 0 p3 h
      · replace h := (if_neg c2).symm.trans h
        refine xi_aload_n C 0 dX1_fillLeastCosts_47 rfl ?_
        refine xi_iload_n C 1 dX1_fillLeastCosts_48 rfl ?_
        refine xi_aload_n C 2 dX1_fillLeastCosts_49 rfl ?_
        replace h := ob h
        obtain ⟨u6, hu7, h⟩ := h
        refine xi_callV C (kX1_lowerCosts l D cT a_t a_t_first a_t_second a_t_cost a_t_oneWay a_t_breaks a_t_absences a_p3 N_p3 t_people t_lineCount t_first t_second t_cost t_oneWay p3 x2 u6 hu7) zcX1_lowerCosts zmX1_83 ziX1_lowerCosts (zr rfl rfl) z00 rfl [0, 1, 2, 3, 4, 5] rfl rfl rfl [some 0, some 1, some 2, some 3, some 4, some 5] (by decide +kernel) (ws2 := [(a_t, .inr (1, [.int t_people, .int t_lineCount, .ref a_t_first, .ref a_t_second, .ref a_t_cost, .ref a_t_oneWay, .ref a_t_breaks, .ref a_t_absences])), (a_t_first, .inl (cT 0, 24, .inl t_first)), (a_t_second, .inl (cT 0, 24, .inl t_second)), (a_t_cost, .inl (cT 0, 24, .inl t_cost)), (a_t_oneWay, .inl (cT 3, 24, .inl t_oneWay)), (a_p3, .inl (cT 0, N_p3, .inl u6))]) rfl zkX1.1 (qr := 0) rfl rfl (Nat.le_of_ble_eq_true rfl) dX1_fillLeastCosts_50 (fun z8 => ?_)
        refine xi_iinc C (v := y4 + 1) 3 [1, 2, 3, 0] (L2 := [(0, .ref a_t), (2, .int x2), (3, .ref a_p3), (4, .int (y4 + 1))]) dX1_fillLeastCosts_53 rfl rfl (Nat.le_of_ble_eq_true rfl) rfl ?_
        refine xi_goto C (tgt := 38) dX1_fillLeastCosts_56 rfl ?_
        exact ih (y4 + 1) u6 h
  have B28 : ∀ (K3 : Int32 → (Nat → Int32) → Option ((Nat → Int32))) (hK3 : ∀ (y4 : Int32) (p3 : Nat → Int32), K3 y4 p3 = some r → sW X l (zR 3) D 5 0 0 3 [(0, .ref a_t), (1, .int x1), (2, .int x2), (3, .ref a_p3), (4, .int y4)] [] [(a_t, .inr (1, [.int t_people, .int t_lineCount, .ref a_t_first, .ref a_t_second, .ref a_t_cost, .ref a_t_oneWay, .ref a_t_breaks, .ref a_t_absences])), (a_t_first, .inl (cT 0, 24, .inl t_first)), (a_t_second, .inl (cT 0, 24, .inl t_second)), (a_t_cost, .inl (cT 0, 24, .inl t_cost)), (a_t_oneWay, .inl (cT 3, 24, .inl t_oneWay)), (a_p3, .inl (cT 0, N_p3, .inl p3))]) (y4 : Int32) (s0 : Int32) (s1 : Int32) (p3 : Nat → Int32), fX1_fillLeastCosts_b28 N_p3 K3 y4 s0 s1 p3 = some r → sW X l (zR 3) D 5 0 0 28 [(0, .ref a_t), (1, .int x1), (2, .int x2), (3, .ref a_p3), (4, .int y4)] [.int s0, .int s1, .ref a_p3] [(a_t, .inr (1, [.int t_people, .int t_lineCount, .ref a_t_first, .ref a_t_second, .ref a_t_cost, .ref a_t_oneWay, .ref a_t_breaks, .ref a_t_absences])), (a_t_first, .inl (cT 0, 24, .inl t_first)), (a_t_second, .inl (cT 0, 24, .inl t_second)), (a_t_cost, .inl (cT 0, 24, .inl t_cost)), (a_t_oneWay, .inl (cT 3, 24, .inl t_oneWay)), (a_p3, .inl (cT 0, N_p3, .inl p3))] := by
    intro K3 hK3 y4 s0 s1 p3 h
    replace h := ig h
    obtain ⟨c13, h⟩ := h
    refine xi_iast C 5 rfl c13 dX1_fillLeastCosts_28 (ws2 := [(a_t, .inr (1, [.int t_people, .int t_lineCount, .ref a_t_first, .ref a_t_second, .ref a_t_cost, .ref a_t_oneWay, .ref a_t_breaks, .ref a_t_absences])), (a_t_first, .inl (cT 0, 24, .inl t_first)), (a_t_second, .inl (cT 0, 24, .inl t_second)), (a_t_cost, .inl (cT 0, 24, .inl t_cost)), (a_t_oneWay, .inl (cT 3, 24, .inl t_oneWay)), (a_p3, .inl (cT 0, N_p3, .inl (upd p3 s1.toNatClampNeg s0)))]) rfl ?_
    refine xi_iinc C (v := y4 + 1) 4 [1, 2, 3, 4, 0] (L2 := [(0, .ref a_t), (1, .int x1), (2, .int x2), (3, .ref a_p3), (4, .int (y4 + 1))]) dX1_fillLeastCosts_29 rfl rfl (Nat.le_of_ble_eq_true rfl) rfl ?_
    refine xi_goto C (tgt := 3) dX1_fillLeastCosts_32 rfl ?_
    exact hK3 (y4 + 1) (upd p3 s1.toNatClampNeg s0) h
  have B3 : ∀ (n : Nat) (y4 : Int32) (p3 : Nat → Int32), fX1_fillLeastCosts_b3 N_p3 t_people t_lineCount t_first t_second t_cost t_oneWay x1 x2 n y4 p3 = some r → sW X l (zR 3) D 5 0 0 3 [(0, .ref a_t), (1, .int x1), (2, .int x2), (3, .ref a_p3), (4, .int y4)] [] [(a_t, .inr (1, [.int t_people, .int t_lineCount, .ref a_t_first, .ref a_t_second, .ref a_t_cost, .ref a_t_oneWay, .ref a_t_breaks, .ref a_t_absences])), (a_t_first, .inl (cT 0, 24, .inl t_first)), (a_t_second, .inl (cT 0, 24, .inl t_second)), (a_t_cost, .inl (cT 0, 24, .inl t_cost)), (a_t_oneWay, .inl (cT 3, 24, .inl t_oneWay)), (a_p3, .inl (cT 0, N_p3, .inl p3))] := by
    intro n
    induction n with
    | zero =>
      intro y4 p3 h
      exact zno ((fX1_fillLeastCosts_b3_0 _ _ _ _ _ _ _ _ _ _ _).symm.trans h)
    | succ n ih =>
      intro y4 p3 h
      replace h := (fX1_fillLeastCosts_b3_s _ _ _ _ _ _ _ _ _ _ _ _).symm.trans h
      refine xi_iload C 4 dX1_fillLeastCosts_3 rfl ?_
      refine xi_bipush C (v := 10) dX1_fillLeastCosts_5 rfl ?_
      refine xi_icmp_ge C (tgt := 35) dX1_fillLeastCosts_7 rfl (fun c1 => ?_) (fun c1 => ?_)
      · replace h := (if_pos c1).symm.trans h
        refine xi_iconst C (v := 1) dX1_fillLeastCosts_35 rfl ?_
        refine xi_istore C [1, 2, 3, 4, 0] (L2 := [(0, .ref a_t), (1, .int x1), (2, .int x2), (3, .ref a_p3), (4, .int 1)]) dX1_fillLeastCosts_36 (Nat.le_of_ble_eq_true rfl) rfl ?_
        refine xi_drop (L2 := [(0, .ref a_t), (2, .int x2), (3, .ref a_p3), (4, .int 1)]) [0, 2, 3, 4] rfl ?_
        exact B38 FU 1 p3 h
      · replace h := (if_neg c1).symm.trans h
        refine xi_aload_n C 3 dX1_fillLeastCosts_10 rfl ?_
        refine xi_iload C 4 dX1_fillLeastCosts_11 rfl ?_
        refine xi_iload_n C 1 dX1_fillLeastCosts_13 rfl ?_
        refine xi_iload C 4 dX1_fillLeastCosts_14 rfl ?_
        refine xi_callSr C (kX10_isIn l D cT x1 y4 (fX10_isIn x1 y4) rfl) zcX10_isIn zmX1_57 zsX10_isIn (zr rfl rfl) z00 rfl [] rfl rfl rfl (Nat.le_of_ble_eq_true rfl) dX1_fillLeastCosts_16 (fun z11 => ?_)
        refine xi_if_eq C (tgt := 26) dX1_fillLeastCosts_19 rfl (fun c12 => ?_) (fun c12 => ?_)
        · replace h := (if_pos c12).symm.trans h
          refine xi_ldc C (v := 1000000) zcoX1_82 dX1_fillLeastCosts_26 ?_
          exact B28 (fX1_fillLeastCosts_b3 N_p3 t_people t_lineCount t_first t_second t_cost t_oneWay x1 x2 n) ih y4 1000000 y4 p3 h
        · replace h := (if_neg c12).symm.trans h
          refine xi_iconst C (v := 0) dX1_fillLeastCosts_22 rfl ?_
          refine xi_goto C (tgt := 28) dX1_fillLeastCosts_23 rfl ?_
          exact B28 (fX1_fillLeastCosts_b3 N_p3 t_people t_lineCount t_first t_second t_cost t_oneWay x1 x2 n) ih y4 0 y4 p3 h
  refine xi_drop (L2 := [(0, .ref a_t), (1, .int x1), (2, .int x2), (3, .ref a_p3)]) [0, 1, 2, 3] rfl ?_
  refine xi_iconst C (v := 0) dX1_fillLeastCosts_0 rfl ?_
  refine xi_istore C [1, 2, 3, 4, 0] (L2 := [(0, .ref a_t), (1, .int x1), (2, .int x2), (3, .ref a_p3), (4, .int 0)]) dX1_fillLeastCosts_1 (Nat.le_of_ble_eq_true rfl) rfl ?_
  exact B3 FU 0 p3 h
def fX3_copyFrom_b10 (p1_pieces : Nat → Int32) : Nat → Int32 → Int32 → (Nat → Int32) → Option (Int32 × (Nat → Int32))
  | 0, _, _, _ => none
  | n + 1, y2, t_people, t_pieces => if 10 ≤ y2 then some (t_people, t_pieces) else gd y2 10 ((fX3_copyFrom_b10 p1_pieces n) (y2 + 1) t_people (upd t_pieces y2.toNatClampNeg (p1_pieces y2.toNatClampNeg)))
theorem fX3_copyFrom_b10_0 (p1_pieces : Nat → Int32) (y2 : Int32) (t_people : Int32) (t_pieces : Nat → Int32) : fX3_copyFrom_b10 p1_pieces 0 y2 t_people t_pieces = none := rfl
theorem fX3_copyFrom_b10_s (p1_pieces : Nat → Int32) (n : Nat) (y2 : Int32) (t_people : Int32) (t_pieces : Nat → Int32) : fX3_copyFrom_b10 p1_pieces (n + 1) y2 t_people t_pieces = (if 10 ≤ y2 then some (t_people, t_pieces) else gd y2 10 ((fX3_copyFrom_b10 p1_pieces n) (y2 + 1) t_people (upd t_pieces y2.toNatClampNeg (p1_pieces y2.toNatClampNeg)))) := rfl
def fX3_copyFrom (t_pieces : Nat → Int32) (p1_people : Int32) (p1_pieces : Nat → Int32) : Option (Int32 × (Nat → Int32)) := fX3_copyFrom_b10 p1_pieces FU 0 p1_people t_pieces
set_option maxRecDepth 100000 in
set_option maxHeartbeats 4000000 in
theorem kX3_copyFrom (l : Launch) (D : va_G) (cT : Nat → ClassId) (a_t : Nat) (a_t_pieces : Nat) (a_p1 : Nat) (a_p1_pieces : Nat) (t_people : Int32) (t_pieces : Nat → Int32) (p1_people : Int32) (p1_pieces : Nat → Int32) (r : Int32 × (Nat → Int32)) (h : fX3_copyFrom t_pieces p1_people p1_pieces = some r) : sM l yX3_copyFrom cX3_copyFrom 3 none (zR 1) D cT [.ref a_t, .ref a_p1] [(a_t, .inr (3, [.ref a_t_pieces, .int t_people])), (a_t_pieces, .inl (cT 0, 10, .inl t_pieces)), (a_p1, .inr (3, [.ref a_p1_pieces, .int p1_people])), (a_p1_pieces, .inl (cT 0, 10, .inl p1_pieces))] none [(a_t, .inr (3, [.ref a_t_pieces, .int r.1])), (a_t_pieces, .inl (cT 0, 10, .inl r.2)), (a_p1, .inr (3, [.ref a_p1_pieces, .int p1_people])), (a_p1_pieces, .inl (cT 0, 10, .inl p1_pieces))] := by
  refine sM_void rfl (Nat.le_of_ble_eq_true rfl) ?_
  intro X C hE
  have B10 : ∀ (n : Nat) (y2 : Int32) (t_people : Int32) (t_pieces : Nat → Int32), fX3_copyFrom_b10 p1_pieces n y2 t_people t_pieces = some r → sW X l (zR 1) D 3 0 0 10 [(0, .ref a_t), (1, .ref a_p1), (2, .int y2)] [] [(a_t, .inr (3, [.ref a_t_pieces, .int t_people])), (a_t_pieces, .inl (cT 0, 10, .inl t_pieces)), (a_p1, .inr (3, [.ref a_p1_pieces, .int p1_people])), (a_p1_pieces, .inl (cT 0, 10, .inl p1_pieces))] := by
    intro n
    induction n with
    | zero =>
      intro y2 t_people t_pieces h
      exact zno ((fX3_copyFrom_b10_0 _ _ _ _).symm.trans h)
    | succ n ih =>
      intro y2 t_people t_pieces h
      replace h := (fX3_copyFrom_b10_s _ _ _ _ _).symm.trans h
      refine xi_iload_n C 2 dX3_copyFrom_10 rfl ?_
      refine xi_bipush C (v := 10) dX3_copyFrom_11 rfl ?_
      refine xi_icmp_ge C (tgt := 34) dX3_copyFrom_13 rfl (fun c1 => ?_) (fun c1 => ?_)
      · replace h := (if_pos c1).symm.trans h
        obtain rfl := Option.some.inj h
        exact hE _ _ dX3_copyFrom_34 rfl
      · replace h := (if_neg c1).symm.trans h
        refine xi_aload_n C 0 dX3_copyFrom_16 rfl ?_
        refine xi_get C zkX3 0 0 zlX3_9 (by decide) rfl rfl dX3_copyFrom_17 ?_
        refine xi_iload_n C 2 dX3_copyFrom_20 rfl ?_
        refine xi_aload_n C 1 dX3_copyFrom_21 rfl ?_
        refine xi_get C zkX3 0 2 zlX3_9 (by decide) rfl rfl dX3_copyFrom_22 ?_
        refine xi_iload_n C 2 dX3_copyFrom_25 rfl ?_
        replace h := ig h
        obtain ⟨c2, h⟩ := h
        refine xi_iald C 3 rfl c2 dX3_copyFrom_26 ?_
        refine xi_iast C 1 rfl c2 dX3_copyFrom_27 (ws2 := [(a_t, .inr (3, [.ref a_t_pieces, .int t_people])), (a_t_pieces, .inl (cT 0, 10, .inl (upd t_pieces y2.toNatClampNeg (p1_pieces y2.toNatClampNeg)))), (a_p1, .inr (3, [.ref a_p1_pieces, .int p1_people])), (a_p1_pieces, .inl (cT 0, 10, .inl p1_pieces))]) rfl ?_
        refine xi_iinc C (v := y2 + 1) 2 [1, 2, 0] (L2 := [(0, .ref a_t), (1, .ref a_p1), (2, .int (y2 + 1))]) dX3_copyFrom_28 rfl rfl (Nat.le_of_ble_eq_true rfl) rfl ?_
        refine xi_goto C (tgt := 10) dX3_copyFrom_31 rfl ?_
        exact ih (y2 + 1) t_people (upd t_pieces y2.toNatClampNeg (p1_pieces y2.toNatClampNeg)) h
  refine xi_drop (L2 := [(0, .ref a_t), (1, .ref a_p1)]) [0, 1] rfl ?_
  refine xi_aload_n C 0 dX3_copyFrom_0 rfl ?_
  refine xi_aload_n C 1 dX3_copyFrom_1 rfl ?_
  refine xi_get C zkX3 1 2 zlX3_15 (by decide) rfl rfl dX3_copyFrom_2 ?_
  refine xi_put C zkX3 1 0 zlX3_15 (by decide) rfl rfl rfl rfl (Nat.le_of_ble_eq_true rfl) dX3_copyFrom_5 (ws2 := [(a_t, .inr (3, [.ref a_t_pieces, .int p1_people])), (a_t_pieces, .inl (cT 0, 10, .inl t_pieces)), (a_p1, .inr (3, [.ref a_p1_pieces, .int p1_people])), (a_p1_pieces, .inl (cT 0, 10, .inl p1_pieces))]) rfl ?_
  refine xi_iconst C (v := 0) dX3_copyFrom_8 rfl ?_
  refine xi_istore_n C [1, 2, 0] (L2 := [(0, .ref a_t), (1, .ref a_p1), (2, .int 0)]) dX3_copyFrom_9 (Nat.le_of_ble_eq_true rfl) rfl ?_
  exact B10 FU 0 p1_people t_pieces h
def fX3_begin_b30 (K7 : Int32 → Int32 → (Nat → Int32) → Option (Int32 × (Nat → Int32))) (y2 : Int32) (s0 : Int32) (s1 : Int32) (t_people : Int32) (t_pieces : Nat → Int32) : Option (Int32 × (Nat → Int32)) := gd s1 10 (K7 (y2 + 1) t_people (upd t_pieces s1.toNatClampNeg s0))
def fX3_begin_b7 (x1 : Int32) : Nat → Int32 → Int32 → (Nat → Int32) → Option (Int32 × (Nat → Int32))
  | 0, _, _, _ => none
  | n + 1, y2, t_people, t_pieces => if 10 ≤ y2 then some (t_people, t_pieces) else if x1 ≤ y2 then fX3_begin_b30 (fX3_begin_b7 x1 n) y2 0 y2 t_people t_pieces else fX3_begin_b30 (fX3_begin_b7 x1 n) y2 (1 <<< (y2 &&& 31)) y2 t_people t_pieces
theorem fX3_begin_b7_0 (x1 : Int32) (y2 : Int32) (t_people : Int32) (t_pieces : Nat → Int32) : fX3_begin_b7 x1 0 y2 t_people t_pieces = none := rfl
theorem fX3_begin_b7_s (x1 : Int32) (n : Nat) (y2 : Int32) (t_people : Int32) (t_pieces : Nat → Int32) : fX3_begin_b7 x1 (n + 1) y2 t_people t_pieces = (if 10 ≤ y2 then some (t_people, t_pieces) else if x1 ≤ y2 then fX3_begin_b30 (fX3_begin_b7 x1 n) y2 0 y2 t_people t_pieces else fX3_begin_b30 (fX3_begin_b7 x1 n) y2 (1 <<< (y2 &&& 31)) y2 t_people t_pieces) := rfl
def fX3_begin (t_pieces : Nat → Int32) (x1 : Int32) : Option (Int32 × (Nat → Int32)) := fX3_begin_b7 x1 FU 0 x1 t_pieces
set_option maxRecDepth 100000 in
set_option maxHeartbeats 4000000 in
theorem kX3_begin (l : Launch) (D : va_G) (cT : Nat → ClassId) (a_t : Nat) (a_t_pieces : Nat) (t_people : Int32) (t_pieces : Nat → Int32) (x1 : Int32) (r : Int32 × (Nat → Int32)) (h : fX3_begin t_pieces x1 = some r) : sM l yX3_begin cX3_begin 3 none (zR 1) D cT [.ref a_t, .int x1] [(a_t, .inr (3, [.ref a_t_pieces, .int t_people])), (a_t_pieces, .inl (cT 0, 10, .inl t_pieces))] none [(a_t, .inr (3, [.ref a_t_pieces, .int r.1])), (a_t_pieces, .inl (cT 0, 10, .inl r.2))] := by
  refine sM_void rfl (Nat.le_of_ble_eq_true rfl) ?_
  intro X C hE
  have B30 : ∀ (K7 : Int32 → Int32 → (Nat → Int32) → Option (Int32 × (Nat → Int32))) (hK7 : ∀ (y2 : Int32) (t_people : Int32) (t_pieces : Nat → Int32), K7 y2 t_people t_pieces = some r → sW X l (zR 1) D 3 0 0 7 [(0, .ref a_t), (1, .int x1), (2, .int y2)] [] [(a_t, .inr (3, [.ref a_t_pieces, .int t_people])), (a_t_pieces, .inl (cT 0, 10, .inl t_pieces))]) (y2 : Int32) (s0 : Int32) (s1 : Int32) (t_people : Int32) (t_pieces : Nat → Int32), fX3_begin_b30 K7 y2 s0 s1 t_people t_pieces = some r → sW X l (zR 1) D 3 0 0 30 [(0, .ref a_t), (1, .int x1), (2, .int y2)] [.int s0, .int s1, .ref a_t_pieces] [(a_t, .inr (3, [.ref a_t_pieces, .int t_people])), (a_t_pieces, .inl (cT 0, 10, .inl t_pieces))] := by
    intro K7 hK7 y2 s0 s1 t_people t_pieces h
    replace h := ig h
    obtain ⟨c3, h⟩ := h
    refine xi_iast C 1 rfl c3 dX3_begin_30 (ws2 := [(a_t, .inr (3, [.ref a_t_pieces, .int t_people])), (a_t_pieces, .inl (cT 0, 10, .inl (upd t_pieces s1.toNatClampNeg s0)))]) rfl ?_
    refine xi_iinc C (v := y2 + 1) 2 [1, 2, 0] (L2 := [(0, .ref a_t), (1, .int x1), (2, .int (y2 + 1))]) dX3_begin_31 rfl rfl (Nat.le_of_ble_eq_true rfl) rfl ?_
    refine xi_goto C (tgt := 7) dX3_begin_34 rfl ?_
    exact hK7 (y2 + 1) t_people (upd t_pieces s1.toNatClampNeg s0) h
  have B7 : ∀ (n : Nat) (y2 : Int32) (t_people : Int32) (t_pieces : Nat → Int32), fX3_begin_b7 x1 n y2 t_people t_pieces = some r → sW X l (zR 1) D 3 0 0 7 [(0, .ref a_t), (1, .int x1), (2, .int y2)] [] [(a_t, .inr (3, [.ref a_t_pieces, .int t_people])), (a_t_pieces, .inl (cT 0, 10, .inl t_pieces))] := by
    intro n
    induction n with
    | zero =>
      intro y2 t_people t_pieces h
      exact zno ((fX3_begin_b7_0 _ _ _ _).symm.trans h)
    | succ n ih =>
      intro y2 t_people t_pieces h
      replace h := (fX3_begin_b7_s _ _ _ _ _).symm.trans h
      refine xi_iload_n C 2 dX3_begin_7 rfl ?_
      refine xi_bipush C (v := 10) dX3_begin_8 rfl ?_
      refine xi_icmp_ge C (tgt := 37) dX3_begin_10 rfl (fun c1 => ?_) (fun c1 => ?_)
      · replace h := (if_pos c1).symm.trans h
        obtain rfl := Option.some.inj h
        exact hE _ _ dX3_begin_37 rfl
      · replace h := (if_neg c1).symm.trans h
        refine xi_aload_n C 0 dX3_begin_13 rfl ?_
        refine xi_get C zkX3 0 0 zlX3_9 (by decide) rfl rfl dX3_begin_14 ?_
        refine xi_iload_n C 2 dX3_begin_17 rfl ?_
        refine xi_iload_n C 2 dX3_begin_18 rfl ?_
        refine xi_iload_n C 1 dX3_begin_19 rfl ?_
        refine xi_icmp_ge C (tgt := 29) dX3_begin_20 rfl (fun c2 => ?_) (fun c2 => ?_)
        · replace h := (if_pos c2).symm.trans h
          refine xi_iconst C (v := 0) dX3_begin_29 rfl ?_
          exact B30 (fX3_begin_b7 x1 n) ih y2 0 y2 t_people t_pieces h
        · replace h := (if_neg c2).symm.trans h
          refine xi_iconst C (v := 1) dX3_begin_23 rfl ?_
          refine xi_iload_n C 2 dX3_begin_24 rfl ?_
          refine xi_ishl C dX3_begin_25 ?_
          refine xi_goto C (tgt := 30) dX3_begin_26 rfl ?_
          exact B30 (fX3_begin_b7 x1 n) ih y2 (1 <<< (y2 &&& 31)) y2 t_people t_pieces h
  refine xi_drop (L2 := [(0, .ref a_t), (1, .int x1)]) [0, 1] rfl ?_
  refine xi_aload_n C 0 dX3_begin_0 rfl ?_
  refine xi_iload_n C 1 dX3_begin_1 rfl ?_
  refine xi_put C zkX3 1 0 zlX3_15 (by decide) rfl rfl rfl rfl (Nat.le_of_ble_eq_true rfl) dX3_begin_2 (ws2 := [(a_t, .inr (3, [.ref a_t_pieces, .int x1])), (a_t_pieces, .inl (cT 0, 10, .inl t_pieces))]) rfl ?_
  refine xi_iconst C (v := 0) dX3_begin_5 rfl ?_
  refine xi_istore_n C [1, 2, 0] (L2 := [(0, .ref a_t), (1, .int x1), (2, .int 0)]) dX3_begin_6 (Nat.le_of_ble_eq_true rfl) rfl ?_
  exact B7 FU 0 x1 t_pieces h
def fX3_knowersOf_b4 (t_people : Int32) (t_pieces : Nat → Int32) (x1 : Int32) : Nat → Int32 → Int32 → Option Int32
  | 0, _, _ => none
  | n + 1, y2, y3 => if t_people ≤ y3 then some y2 else gd y3 10 (if (fX10_isIn (t_pieces y3.toNatClampNeg) x1) = 0 then (fX3_knowersOf_b4 t_people t_pieces x1 n) y2 (y3 + 1) else (fX3_knowersOf_b4 t_people t_pieces x1 n) (y2 ||| (1 <<< (y3 &&& 31))) (y3 + 1))
theorem fX3_knowersOf_b4_0 (t_people : Int32) (t_pieces : Nat → Int32) (x1 : Int32) (y2 : Int32) (y3 : Int32) : fX3_knowersOf_b4 t_people t_pieces x1 0 y2 y3 = none := rfl
theorem fX3_knowersOf_b4_s (t_people : Int32) (t_pieces : Nat → Int32) (x1 : Int32) (n : Nat) (y2 : Int32) (y3 : Int32) : fX3_knowersOf_b4 t_people t_pieces x1 (n + 1) y2 y3 = (if t_people ≤ y3 then some y2 else gd y3 10 (if (fX10_isIn (t_pieces y3.toNatClampNeg) x1) = 0 then (fX3_knowersOf_b4 t_people t_pieces x1 n) y2 (y3 + 1) else (fX3_knowersOf_b4 t_people t_pieces x1 n) (y2 ||| (1 <<< (y3 &&& 31))) (y3 + 1))) := rfl
def fX3_knowersOf (t_people : Int32) (t_pieces : Nat → Int32) (x1 : Int32) : Option Int32 := fX3_knowersOf_b4 t_people t_pieces x1 FU 0 0
set_option maxRecDepth 100000 in
set_option maxHeartbeats 4000000 in
theorem kX3_knowersOf (l : Launch) (D : va_G) (cT : Nat → ClassId) (a_t : Nat) (a_t_pieces : Nat) (t_people : Int32) (t_pieces : Nat → Int32) (x1 : Int32) (r : Int32) (h : fX3_knowersOf t_people t_pieces x1 = some r) : sM l yX3_knowersOf cX3_knowersOf 4 (some .int) (zR 2) D cT [.ref a_t, .int x1] [(a_t, .inr (3, [.ref a_t_pieces, .int t_people])), (a_t_pieces, .inl (cT 0, 10, .inl t_pieces))] (some (.int r)) [(a_t, .inr (3, [.ref a_t_pieces, .int t_people])), (a_t_pieces, .inl (cT 0, 10, .inl t_pieces))] := by
  refine sM_int rfl (Nat.le_of_ble_eq_true rfl) ?_
  intro X C hE
  have B4 : ∀ (n : Nat) (y2 : Int32) (y3 : Int32), fX3_knowersOf_b4 t_people t_pieces x1 n y2 y3 = some r → sW X l (zR 2) D 4 0 0 4 [(0, .ref a_t), (1, .int x1), (2, .int y2), (3, .int y3)] [] [(a_t, .inr (3, [.ref a_t_pieces, .int t_people])), (a_t_pieces, .inl (cT 0, 10, .inl t_pieces))] := by
    intro n
    induction n with
    | zero =>
      intro y2 y3 h
      exact zno ((fX3_knowersOf_b4_0 _ _ _ _ _).symm.trans h)
    | succ n ih =>
      intro y2 y3 h
      replace h := (fX3_knowersOf_b4_s _ _ _ _ _ _).symm.trans h
      refine xi_iload_n C 3 dX3_knowersOf_4 rfl ?_
      refine xi_aload_n C 0 dX3_knowersOf_5 rfl ?_
      refine xi_get C zkX3 1 0 zlX3_15 (by decide) rfl rfl dX3_knowersOf_6 ?_
      refine xi_icmp_ge C (tgt := 37) dX3_knowersOf_9 rfl (fun c1 => ?_) (fun c1 => ?_)
      · replace h := (if_pos c1).symm.trans h
        refine xi_iload_n C 2 dX3_knowersOf_37 rfl ?_
        obtain rfl := Option.some.inj h
        exact hE _ _ _ dX3_knowersOf_38 rfl
      · replace h := (if_neg c1).symm.trans h
        refine xi_aload_n C 0 dX3_knowersOf_12 rfl ?_
        refine xi_get C zkX3 0 0 zlX3_9 (by decide) rfl rfl dX3_knowersOf_13 ?_
        refine xi_iload_n C 3 dX3_knowersOf_16 rfl ?_
        replace h := ig h
        obtain ⟨c2, h⟩ := h
        refine xi_iald C 1 rfl c2 dX3_knowersOf_17 ?_
        refine xi_iload_n C 1 dX3_knowersOf_18 rfl ?_
        refine xi_callSr C (kX10_isIn l D cT (t_pieces y3.toNatClampNeg) x1 (fX10_isIn (t_pieces y3.toNatClampNeg) x1) rfl) zcX10_isIn zmX3_19 zsX10_isIn (zr rfl rfl) z00 rfl [] rfl rfl rfl (Nat.le_of_ble_eq_true rfl) dX3_knowersOf_19 (fun z5 => ?_)
        refine xi_if_eq C (tgt := 31) dX3_knowersOf_22 rfl (fun c6 => ?_) (fun c6 => ?_)
        · replace h := (if_pos c6).symm.trans h
          refine xi_iinc C (v := y3 + 1) 3 [1, 2, 3, 0] (L2 := [(0, .ref a_t), (1, .int x1), (2, .int y2), (3, .int (y3 + 1))]) dX3_knowersOf_31 rfl rfl (Nat.le_of_ble_eq_true rfl) rfl ?_
          refine xi_goto C (tgt := 4) dX3_knowersOf_34 rfl ?_
          exact ih y2 (y3 + 1) h
        · replace h := (if_neg c6).symm.trans h
          refine xi_iload_n C 2 dX3_knowersOf_25 rfl ?_
          refine xi_iconst C (v := 1) dX3_knowersOf_26 rfl ?_
          refine xi_iload_n C 3 dX3_knowersOf_27 rfl ?_
          refine xi_ishl C dX3_knowersOf_28 ?_
          refine xi_ior C dX3_knowersOf_29 ?_
          refine xi_istore_n C [1, 2, 0, 3] (L2 := [(0, .ref a_t), (1, .int x1), (2, .int (y2 ||| (1 <<< (y3 &&& 31)))), (3, .int y3)]) dX3_knowersOf_30 (Nat.le_of_ble_eq_true rfl) rfl ?_
          refine xi_iinc C (v := y3 + 1) 3 [1, 2, 3, 0] (L2 := [(0, .ref a_t), (1, .int x1), (2, .int (y2 ||| (1 <<< (y3 &&& 31)))), (3, .int (y3 + 1))]) dX3_knowersOf_31 rfl rfl (Nat.le_of_ble_eq_true rfl) rfl ?_
          refine xi_goto C (tgt := 4) dX3_knowersOf_34 rfl ?_
          exact ih (y2 ||| (1 <<< (y3 &&& 31))) (y3 + 1) h
  refine xi_drop (L2 := [(0, .ref a_t), (1, .int x1)]) [0, 1] rfl ?_
  refine xi_iconst C (v := 0) dX3_knowersOf_0 rfl ?_
  refine xi_istore_n C [1, 2, 0] (L2 := [(0, .ref a_t), (1, .int x1), (2, .int 0)]) dX3_knowersOf_1 (Nat.le_of_ble_eq_true rfl) rfl ?_
  refine xi_iconst C (v := 0) dX3_knowersOf_2 rfl ?_
  refine xi_istore_n C [1, 2, 3, 0] (L2 := [(0, .ref a_t), (1, .int x1), (2, .int 0), (3, .int 0)]) dX3_knowersOf_3 (Nat.le_of_ble_eq_true rfl) rfl ?_
  exact B4 FU 0 0 h
def fX3_missingPieces_b12 (t_people : Int32) (t_pieces : Nat → Int32) : Nat → Int32 → Int32 → Option Int32
  | 0, _, _ => none
  | n + 1, y1, y2 => if t_people ≤ y2 then some y1 else gd y2 10 (nm (y1 - (fJ6_bitCount_0f7a4 (t_pieces y2.toNatClampNeg))) (fun w6 => (fX3_missingPieces_b12 t_people t_pieces n) w6 (y2 + 1)))
theorem fX3_missingPieces_b12_0 (t_people : Int32) (t_pieces : Nat → Int32) (y1 : Int32) (y2 : Int32) : fX3_missingPieces_b12 t_people t_pieces 0 y1 y2 = none := rfl
theorem fX3_missingPieces_b12_s (t_people : Int32) (t_pieces : Nat → Int32) (n : Nat) (y1 : Int32) (y2 : Int32) : fX3_missingPieces_b12 t_people t_pieces (n + 1) y1 y2 = (if t_people ≤ y2 then some y1 else gd y2 10 (nm (y1 - (fJ6_bitCount_0f7a4 (t_pieces y2.toNatClampNeg))) (fun w6 => (fX3_missingPieces_b12 t_people t_pieces n) w6 (y2 + 1)))) := rfl
def fX3_missingPieces (t_people : Int32) (t_pieces : Nat → Int32) : Option Int32 := fX3_missingPieces_b12 t_people t_pieces FU (t_people * t_people) 0
set_option maxRecDepth 100000 in
set_option maxHeartbeats 4000000 in
theorem kX3_missingPieces (l : Launch) (D : va_G) (cT : Nat → ClassId) (a_t : Nat) (a_t_pieces : Nat) (t_people : Int32) (t_pieces : Nat → Int32) (r : Int32) (h : fX3_missingPieces t_people t_pieces = some r) : sM l yX3_missingPieces cX3_missingPieces 3 (some .int) (zR 2) D cT [.ref a_t] [(a_t, .inr (3, [.ref a_t_pieces, .int t_people])), (a_t_pieces, .inl (cT 0, 10, .inl t_pieces))] (some (.int r)) [(a_t, .inr (3, [.ref a_t_pieces, .int t_people])), (a_t_pieces, .inl (cT 0, 10, .inl t_pieces))] := by
  refine sM_int rfl (Nat.le_of_ble_eq_true rfl) ?_
  intro X C hE
  have B12 : ∀ (n : Nat) (y1 : Int32) (y2 : Int32), fX3_missingPieces_b12 t_people t_pieces n y1 y2 = some r → sW X l (zR 2) D 3 0 0 12 [(0, .ref a_t), (1, .int y1), (2, .int y2)] [] [(a_t, .inr (3, [.ref a_t_pieces, .int t_people])), (a_t_pieces, .inl (cT 0, 10, .inl t_pieces))] := by
    intro n
    induction n with
    | zero =>
      intro y1 y2 h
      exact zno ((fX3_missingPieces_b12_0 _ _ _ _).symm.trans h)
    | succ n ih =>
      intro y1 y2 h
      replace h := (fX3_missingPieces_b12_s _ _ _ _ _).symm.trans h
      refine xi_iload_n C 2 dX3_missingPieces_12 rfl ?_
      refine xi_aload_n C 0 dX3_missingPieces_13 rfl ?_
      refine xi_get C zkX3 1 0 zlX3_15 (by decide) rfl rfl dX3_missingPieces_14 ?_
      refine xi_icmp_ge C (tgt := 38) dX3_missingPieces_17 rfl (fun c1 => ?_) (fun c1 => ?_)
      · replace h := (if_pos c1).symm.trans h
        refine xi_iload_n C 1 dX3_missingPieces_38 rfl ?_
        obtain rfl := Option.some.inj h
        exact hE _ _ _ dX3_missingPieces_39 rfl
      · replace h := (if_neg c1).symm.trans h
        refine xi_iload_n C 1 dX3_missingPieces_20 rfl ?_
        refine xi_aload_n C 0 dX3_missingPieces_21 rfl ?_
        refine xi_get C zkX3 0 0 zlX3_9 (by decide) rfl rfl dX3_missingPieces_22 ?_
        refine xi_iload_n C 2 dX3_missingPieces_25 rfl ?_
        replace h := ig h
        obtain ⟨c2, h⟩ := h
        refine xi_iald C 1 rfl c2 dX3_missingPieces_26 ?_
        refine xi_callSr C (kJ6_bitCount_0f7a4 l D cT (t_pieces y2.toNatClampNeg) (fJ6_bitCount_0f7a4 (t_pieces y2.toNatClampNeg)) rfl) zcJ6_bitCount_0f7a4 zmX3_23 zsJ6_bitCount_0f7a4 (zr rfl rfl) z00 rfl [] rfl rfl rfl (Nat.le_of_ble_eq_true rfl) dX3_missingPieces_27 (fun z5 => ?_)
        refine xi_isub C dX3_missingPieces_30 ?_
        refine xi_topi (fun w6 ew6 => ?_)
        replace h := nmE ew6 h
        refine xi_istore_n C [1, 0, 2] (L2 := [(0, .ref a_t), (1, .int w6), (2, .int y2)]) dX3_missingPieces_31 (Nat.le_of_ble_eq_true rfl) rfl ?_
        refine xi_iinc C (v := y2 + 1) 2 [1, 2, 0] (L2 := [(0, .ref a_t), (1, .int w6), (2, .int (y2 + 1))]) dX3_missingPieces_32 rfl rfl (Nat.le_of_ble_eq_true rfl) rfl ?_
        refine xi_goto C (tgt := 12) dX3_missingPieces_35 rfl ?_
        exact ih w6 (y2 + 1) h
  refine xi_drop (L2 := [(0, .ref a_t)]) [0] rfl ?_
  refine xi_aload_n C 0 dX3_missingPieces_0 rfl ?_
  refine xi_get C zkX3 1 0 zlX3_15 (by decide) rfl rfl dX3_missingPieces_1 ?_
  refine xi_aload_n C 0 dX3_missingPieces_4 rfl ?_
  refine xi_get C zkX3 1 0 zlX3_15 (by decide) rfl rfl dX3_missingPieces_5 ?_
  refine xi_imul C dX3_missingPieces_8 ?_
  refine xi_istore_n C [1, 0] (L2 := [(0, .ref a_t), (1, .int (t_people * t_people))]) dX3_missingPieces_9 (Nat.le_of_ble_eq_true rfl) rfl ?_
  refine xi_iconst C (v := 0) dX3_missingPieces_10 rfl ?_
  refine xi_istore_n C [1, 2, 0] (L2 := [(0, .ref a_t), (1, .int (t_people * t_people)), (2, .int 0)]) dX3_missingPieces_11 (Nat.le_of_ble_eq_true rfl) rfl ?_
  exact B12 FU (t_people * t_people) 0 h
def fX8_isFull (t_count : Int32) : Int32 := if t_count < 12 then (0 : Int32) else (1 : Int32)
set_option maxRecDepth 100000 in
set_option maxHeartbeats 4000000 in
theorem kX8_isFull (l : Launch) (D : va_G) (cT : Nat → ClassId) (a_t : Nat) (a_t_whose : Nat) (a_t_from : Nat) (a_t_until : Nat) (t_count : Int32) (r : Int32) (h : fX8_isFull t_count = r) : sM l yX8_isFull cX8_isFull 1 (some .boolean) (zR 1) D cT [.ref a_t] [(a_t, .inr (8, [.ref a_t_whose, .ref a_t_from, .ref a_t_until, .int t_count]))] (some (.int r)) [(a_t, .inr (8, [.ref a_t_whose, .ref a_t_from, .ref a_t_until, .int t_count]))] := by
  refine sM_bool rfl (Nat.le_of_ble_eq_true rfl) ?_
  intro X C hE
  refine xi_drop (L2 := [(0, .ref a_t)]) [0] rfl ?_
  refine xi_aload_n C 0 dX8_isFull_0 rfl ?_
  refine xi_get C zkX8 3 0 zlX8_21 (by decide) rfl rfl dX8_isFull_1 ?_
  refine xi_bipush C (v := 12) dX8_isFull_4 rfl ?_
  refine xi_icmp_lt C (tgt := 13) dX8_isFull_6 rfl (fun c1 => ?_) (fun c1 => ?_)
  · replace h := (if_pos c1).symm.trans h
    refine xi_iconst C (v := 0) dX8_isFull_13 rfl ?_
    subst h
    exact hE _ _ _ dX8_isFull_14 rfl rfl
  · replace h := (if_neg c1).symm.trans h
    refine xi_iconst C (v := 1) dX8_isFull_9 rfl ?_
    refine xi_goto C (tgt := 14) dX8_isFull_10 rfl ?_
    subst h
    exact hE _ _ _ dX8_isFull_14 rfl rfl
def fX8_add (t_count : Int32) (t_whose : Nat → Int32) (t_from : Nat → Int32) (t_until : Nat → Int32) (x1 : Int32) (x2 : Int32) (x3 : Int32) : Option (Int32 × (Nat → Int32) × (Nat → Int32) × (Nat → Int32)) := if (fX8_isFull t_count) = 0 then gd t_count 12 (some (t_count + 1, upd t_whose t_count.toNatClampNeg x1, upd t_from t_count.toNatClampNeg x2, upd t_until t_count.toNatClampNeg x3)) else some (t_count, t_whose, t_from, t_until)
set_option maxRecDepth 100000 in
set_option maxHeartbeats 4000000 in
theorem kX8_add (l : Launch) (D : va_G) (cT : Nat → ClassId) (a_t : Nat) (a_t_whose : Nat) (a_t_from : Nat) (a_t_until : Nat) (t_count : Int32) (t_whose : Nat → Int32) (t_from : Nat → Int32) (t_until : Nat → Int32) (x1 : Int32) (x2 : Int32) (x3 : Int32) (r : Int32 × (Nat → Int32) × (Nat → Int32) × (Nat → Int32)) (h : fX8_add t_count t_whose t_from t_until x1 x2 x3 = some r) : sM l yX8_add cX8_add 4 none (zR 2) D cT [.ref a_t, .int x1, .int x2, .int x3] [(a_t, .inr (8, [.ref a_t_whose, .ref a_t_from, .ref a_t_until, .int t_count])), (a_t_whose, .inl (cT 0, 12, .inl t_whose)), (a_t_from, .inl (cT 0, 12, .inl t_from)), (a_t_until, .inl (cT 0, 12, .inl t_until))] none [(a_t, .inr (8, [.ref a_t_whose, .ref a_t_from, .ref a_t_until, .int r.1])), (a_t_whose, .inl (cT 0, 12, .inl r.2.1)), (a_t_from, .inl (cT 0, 12, .inl r.2.2.1)), (a_t_until, .inl (cT 0, 12, .inl r.2.2.2))] := by
  refine sM_void rfl (Nat.le_of_ble_eq_true rfl) ?_
  intro X C hE
  refine xi_drop (L2 := [(0, .ref a_t), (1, .int x1), (2, .int x2), (3, .int x3)]) [0, 1, 2, 3] rfl ?_
  refine xi_aload_n C 0 dX8_add_0 rfl ?_
  refine xi_callVr C (kX8_isFull l D cT a_t a_t_whose a_t_from a_t_until t_count (fX8_isFull t_count) rfl) zcX8_isFull zmX8_25 ziX8_isFull (zr rfl rfl) z00 rfl [0] rfl rfl zkX8.1 (qr := 0) rfl rfl (Nat.le_of_ble_eq_true rfl) dX8_add_1 (fun z3 => ?_)
  refine xi_if_eq C (tgt := 8) dX8_add_4 rfl (fun c4 => ?_) (fun c4 => ?_)
  · replace h := (if_pos c4).symm.trans h
    refine xi_aload_n C 0 dX8_add_8 rfl ?_
    refine xi_get C zkX8 0 0 zlX8_9 (by decide) rfl rfl dX8_add_9 ?_
    refine xi_aload_n C 0 dX8_add_12 rfl ?_
    refine xi_get C zkX8 3 0 zlX8_21 (by decide) rfl rfl dX8_add_13 ?_
    refine xi_iload_n C 1 dX8_add_16 rfl ?_
    replace h := ig h
    obtain ⟨c5, h⟩ := h
    refine xi_iast C 1 rfl c5 dX8_add_17 (ws2 := [(a_t, .inr (8, [.ref a_t_whose, .ref a_t_from, .ref a_t_until, .int t_count])), (a_t_whose, .inl (cT 0, 12, .inl (upd t_whose t_count.toNatClampNeg x1))), (a_t_from, .inl (cT 0, 12, .inl t_from)), (a_t_until, .inl (cT 0, 12, .inl t_until))]) rfl ?_
    refine xi_aload_n C 0 dX8_add_18 rfl ?_
    refine xi_get C zkX8 1 0 zlX8_15 (by decide) rfl rfl dX8_add_19 ?_
    refine xi_aload_n C 0 dX8_add_22 rfl ?_
    refine xi_get C zkX8 3 0 zlX8_21 (by decide) rfl rfl dX8_add_23 ?_
    refine xi_iload_n C 2 dX8_add_26 rfl ?_
    refine xi_iast C 2 rfl c5 dX8_add_27 (ws2 := [(a_t, .inr (8, [.ref a_t_whose, .ref a_t_from, .ref a_t_until, .int t_count])), (a_t_whose, .inl (cT 0, 12, .inl (upd t_whose t_count.toNatClampNeg x1))), (a_t_from, .inl (cT 0, 12, .inl (upd t_from t_count.toNatClampNeg x2))), (a_t_until, .inl (cT 0, 12, .inl t_until))]) rfl ?_
    refine xi_aload_n C 0 dX8_add_28 rfl ?_
    refine xi_get C zkX8 2 0 zlX8_18 (by decide) rfl rfl dX8_add_29 ?_
    refine xi_aload_n C 0 dX8_add_32 rfl ?_
    refine xi_get C zkX8 3 0 zlX8_21 (by decide) rfl rfl dX8_add_33 ?_
    refine xi_iload_n C 3 dX8_add_36 rfl ?_
    refine xi_iast C 3 rfl c5 dX8_add_37 (ws2 := [(a_t, .inr (8, [.ref a_t_whose, .ref a_t_from, .ref a_t_until, .int t_count])), (a_t_whose, .inl (cT 0, 12, .inl (upd t_whose t_count.toNatClampNeg x1))), (a_t_from, .inl (cT 0, 12, .inl (upd t_from t_count.toNatClampNeg x2))), (a_t_until, .inl (cT 0, 12, .inl (upd t_until t_count.toNatClampNeg x3)))]) rfl ?_
    refine xi_aload_n C 0 dX8_add_38 rfl ?_
    refine xi_dup C dX8_add_39 rfl ?_
    refine xi_get C zkX8 3 0 zlX8_21 (by decide) rfl rfl dX8_add_40 ?_
    refine xi_iconst C (v := 1) dX8_add_43 rfl ?_
    refine xi_iadd C dX8_add_44 ?_
    refine xi_put C zkX8 3 0 zlX8_21 (by decide) rfl rfl rfl rfl (Nat.le_of_ble_eq_true rfl) dX8_add_45 (ws2 := [(a_t, .inr (8, [.ref a_t_whose, .ref a_t_from, .ref a_t_until, .int (t_count + 1)])), (a_t_whose, .inl (cT 0, 12, .inl (upd t_whose t_count.toNatClampNeg x1))), (a_t_from, .inl (cT 0, 12, .inl (upd t_from t_count.toNatClampNeg x2))), (a_t_until, .inl (cT 0, 12, .inl (upd t_until t_count.toNatClampNeg x3)))]) rfl ?_
    obtain rfl := Option.some.inj h
    exact hE _ _ dX8_add_48 rfl
  · replace h := (if_neg c4).symm.trans h
    obtain rfl := Option.some.inj h
    exact hE _ _ dX8_add_7 rfl
def fX8_countOf_b4 (t_count : Int32) (t_whose : Nat → Int32) (x1 : Int32) : Nat → Int32 → Int32 → Option Int32
  | 0, _, _ => none
  | n + 1, y2, y3 => if t_count ≤ y3 then some y2 else gd y3 12 (if (t_whose y3.toNatClampNeg) = x1 then (fX8_countOf_b4 t_count t_whose x1 n) (y2 + 1) (y3 + 1) else (fX8_countOf_b4 t_count t_whose x1 n) y2 (y3 + 1))
theorem fX8_countOf_b4_0 (t_count : Int32) (t_whose : Nat → Int32) (x1 : Int32) (y2 : Int32) (y3 : Int32) : fX8_countOf_b4 t_count t_whose x1 0 y2 y3 = none := rfl
theorem fX8_countOf_b4_s (t_count : Int32) (t_whose : Nat → Int32) (x1 : Int32) (n : Nat) (y2 : Int32) (y3 : Int32) : fX8_countOf_b4 t_count t_whose x1 (n + 1) y2 y3 = (if t_count ≤ y3 then some y2 else gd y3 12 (if (t_whose y3.toNatClampNeg) = x1 then (fX8_countOf_b4 t_count t_whose x1 n) (y2 + 1) (y3 + 1) else (fX8_countOf_b4 t_count t_whose x1 n) y2 (y3 + 1))) := rfl
def fX8_countOf (t_count : Int32) (t_whose : Nat → Int32) (x1 : Int32) : Option Int32 := fX8_countOf_b4 t_count t_whose x1 FU 0 0
set_option maxRecDepth 100000 in
set_option maxHeartbeats 4000000 in
theorem kX8_countOf (l : Launch) (D : va_G) (cT : Nat → ClassId) (a_t : Nat) (a_t_whose : Nat) (a_t_from : Nat) (a_t_until : Nat) (t_count : Int32) (t_whose : Nat → Int32) (x1 : Int32) (r : Int32) (h : fX8_countOf t_count t_whose x1 = some r) : sM l yX8_countOf cX8_countOf 4 (some .int) (zR 1) D cT [.ref a_t, .int x1] [(a_t, .inr (8, [.ref a_t_whose, .ref a_t_from, .ref a_t_until, .int t_count])), (a_t_whose, .inl (cT 0, 12, .inl t_whose))] (some (.int r)) [(a_t, .inr (8, [.ref a_t_whose, .ref a_t_from, .ref a_t_until, .int t_count])), (a_t_whose, .inl (cT 0, 12, .inl t_whose))] := by
  refine sM_int rfl (Nat.le_of_ble_eq_true rfl) ?_
  intro X C hE
  have B4 : ∀ (n : Nat) (y2 : Int32) (y3 : Int32), fX8_countOf_b4 t_count t_whose x1 n y2 y3 = some r → sW X l (zR 1) D 4 0 0 4 [(0, .ref a_t), (1, .int x1), (2, .int y2), (3, .int y3)] [] [(a_t, .inr (8, [.ref a_t_whose, .ref a_t_from, .ref a_t_until, .int t_count])), (a_t_whose, .inl (cT 0, 12, .inl t_whose))] := by
    intro n
    induction n with
    | zero =>
      intro y2 y3 h
      exact zno ((fX8_countOf_b4_0 _ _ _ _ _).symm.trans h)
    | succ n ih =>
      intro y2 y3 h
      replace h := (fX8_countOf_b4_s _ _ _ _ _ _).symm.trans h
      refine xi_iload_n C 3 dX8_countOf_4 rfl ?_
      refine xi_aload_n C 0 dX8_countOf_5 rfl ?_
      refine xi_get C zkX8 3 0 zlX8_21 (by decide) rfl rfl dX8_countOf_6 ?_
      refine xi_icmp_ge C (tgt := 31) dX8_countOf_9 rfl (fun c1 => ?_) (fun c1 => ?_)
      · replace h := (if_pos c1).symm.trans h
        refine xi_iload_n C 2 dX8_countOf_31 rfl ?_
        obtain rfl := Option.some.inj h
        exact hE _ _ _ dX8_countOf_32 rfl
      · replace h := (if_neg c1).symm.trans h
        refine xi_aload_n C 0 dX8_countOf_12 rfl ?_
        refine xi_get C zkX8 0 0 zlX8_9 (by decide) rfl rfl dX8_countOf_13 ?_
        refine xi_iload_n C 3 dX8_countOf_16 rfl ?_
        replace h := ig h
        obtain ⟨c2, h⟩ := h
        refine xi_iald C 1 rfl c2 dX8_countOf_17 ?_
        refine xi_iload_n C 1 dX8_countOf_18 rfl ?_
        refine xi_icmp_ne C (tgt := 25) dX8_countOf_19 rfl (fun c3 => ?_) (fun c3 => ?_)
        · replace h := (if_neg c3).symm.trans h
          refine xi_iinc C (v := y3 + 1) 3 [1, 2, 3, 0] (L2 := [(0, .ref a_t), (1, .int x1), (2, .int y2), (3, .int (y3 + 1))]) dX8_countOf_25 rfl rfl (Nat.le_of_ble_eq_true rfl) rfl ?_
          refine xi_goto C (tgt := 4) dX8_countOf_28 rfl ?_
          exact ih y2 (y3 + 1) h
        · replace h := (if_pos c3).symm.trans h
          refine xi_iinc C (v := y2 + 1) 2 [1, 2, 0, 3] (L2 := [(0, .ref a_t), (1, .int x1), (2, .int (y2 + 1)), (3, .int y3)]) dX8_countOf_22 rfl rfl (Nat.le_of_ble_eq_true rfl) rfl ?_
          refine xi_iinc C (v := y3 + 1) 3 [1, 2, 3, 0] (L2 := [(0, .ref a_t), (1, .int x1), (2, .int (y2 + 1)), (3, .int (y3 + 1))]) dX8_countOf_25 rfl rfl (Nat.le_of_ble_eq_true rfl) rfl ?_
          refine xi_goto C (tgt := 4) dX8_countOf_28 rfl ?_
          exact ih (y2 + 1) (y3 + 1) h
  refine xi_drop (L2 := [(0, .ref a_t), (1, .int x1)]) [0, 1] rfl ?_
  refine xi_iconst C (v := 0) dX8_countOf_0 rfl ?_
  refine xi_istore_n C [1, 2, 0] (L2 := [(0, .ref a_t), (1, .int x1), (2, .int 0)]) dX8_countOf_1 (Nat.le_of_ble_eq_true rfl) rfl ?_
  refine xi_iconst C (v := 0) dX8_countOf_2 rfl ?_
  refine xi_istore_n C [1, 2, 3, 0] (L2 := [(0, .ref a_t), (1, .int x1), (2, .int 0), (3, .int 0)]) dX8_countOf_3 (Nat.le_of_ble_eq_true rfl) rfl ?_
  exact B4 FU 0 0 h
