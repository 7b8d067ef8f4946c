def fX0_pairOf (x0 : Int32) (x1 : Int32) : Int32 := nm (if x0 < x1 then x1 else x0) (fun w1 => nm (if x1 < x0 then x1 else x0) (fun w2 => (w1 * 10) + w2))
set_option maxRecDepth 100000 in
set_option maxHeartbeats 4000000 in
theorem kX0_pairOf (l : Launch) (D : va_G) (cT : Nat → ClassId) (x0 : Int32) (x1 : Int32) (r : Int32) (h : fX0_pairOf x0 x1 = r) : sM l yX0_pairOf cX0_pairOf 2 (some .int) (zR 1) D cT [.int x0, .int x1] [] (some (.int r)) [] := by
  refine sM_int rfl (Nat.le_of_ble_eq_true rfl) ?_
  intro X C hE
  refine xi_drop (L2 := [(0, .int x0), (1, .int x1)]) [0, 1] rfl ?_
  refine xi_iload_n C 0 dX0_pairOf_0 rfl ?_
  refine xi_iload_n C 1 dX0_pairOf_1 rfl ?_
  refine xi_mmax C zmjX0_69 zrj z00 (Nat.le_of_ble_eq_true rfl) dX0_pairOf_2 ?_
  refine xi_topi (fun w1 ew1 => ?_)
  replace h := nmE ew1 h
  refine xi_bipush C (v := 10) dX0_pairOf_5 rfl ?_
  refine xi_imul C dX0_pairOf_7 ?_
  refine xi_iload_n C 0 dX0_pairOf_8 rfl ?_
  refine xi_iload_n C 1 dX0_pairOf_9 rfl ?_
  refine xi_mmin C zmjX0_71 zrj z00 (Nat.le_of_ble_eq_true rfl) dX0_pairOf_10 ?_
  refine xi_topi (fun w2 ew2 => ?_)
  replace h := nmE ew2 h
  refine xi_iadd C dX0_pairOf_13 ?_
  subst h
  exact hE _ _ _ dX0_pairOf_14 rfl
def fX0_worth (x0 : Int32) (x1 : Int32) (x2 : Int32) : Int64 := ((x0.toInt64 <<< ((40 : Int32).toInt64 &&& 63)) - (x1.toInt64 <<< ((24 : Int32).toInt64 &&& 63))) - (1 <<< (x2.toInt64 &&& 63))
set_option maxRecDepth 100000 in
set_option maxHeartbeats 4000000 in
theorem kX0_worth (l : Launch) (D : va_G) (cT : Nat → ClassId) (x0 : Int32) (x1 : Int32) (x2 : Int32) (r : Int64) (h : fX0_worth x0 x1 x2 = r) : sM l yX0_worth cX0_worth 3 (some .long) (zR 1) D cT [.int x0, .int x1, .int x2] [] (some (.long r)) [] := by
  refine sM_long rfl (Nat.le_of_ble_eq_true rfl) ?_
  intro X C hE
  refine xi_drop (L2 := [(0, .int x0), (1, .int x1), (2, .int x2)]) [0, 1, 2] rfl ?_
  refine xi_iload_n C 0 dX0_worth_0 rfl ?_
  refine xi_i2l C dX0_worth_1 ?_
  refine xi_bipush C (v := 40) dX0_worth_2 rfl ?_
  refine xi_lshl C dX0_worth_4 ?_
  refine xi_iload_n C 1 dX0_worth_5 rfl ?_
  refine xi_i2l C dX0_worth_6 ?_
  refine xi_bipush C (v := 24) dX0_worth_7 rfl ?_
  refine xi_lshl C dX0_worth_9 ?_
  refine xi_lsub C dX0_worth_10 ?_
  refine xi_lconst C (v := 1) dX0_worth_11 rfl ?_
  refine xi_iload_n C 2 dX0_worth_12 rfl ?_
  refine xi_lshl C dX0_worth_13 ?_
  refine xi_lsub C dX0_worth_14 ?_
  subst h
  exact hE _ _ _ dX0_worth_15 rfl
def fX0_rankPairs_b62 (p1_first : Nat → Int32) (p1_second : Nat → Int32) (p1_cost : Nat → Int32) (K33 : Int32 → Int32 → (Nat → Int64) → Option (Int32 × (Nat → Int64))) (y4 : Int32) (y5 : Int32) (s0 : Int32) (t_worthOfPair : Nat → Int64) : Option (Int32 × (Nat → Int64)) := if s0 ≤ 0 then K33 y4 (y5 + 1) t_worthOfPair else gd y5 24 (nm (fX0_pairOf (p1_first y5.toNatClampNeg) (p1_second y5.toNatClampNeg)) (fun w13 => gd w13 100 (nm (if (fX0_worth s0 (p1_cost y5.toNatClampNeg) y5) < (t_worthOfPair w13.toNatClampNeg) then (t_worthOfPair w13.toNatClampNeg) else (fX0_worth s0 (p1_cost y5.toNatClampNeg) y5)) (fun w18 => K33 1 (y5 + 1) (vp_updL t_worthOfPair w13.toNatClampNeg w18)))))
def fX0_rankPairs_b33 (p1_lineCount : Int32) (p1_first : Nat → Int32) (p1_second : Nat → Int32) (p1_cost : Nat → Int32) (p1_oneWay : Nat → Int32) (p3_pieces : Nat → Int32) (x2 : Int32) : Nat → Int32 → Int32 → (Nat → Int64) → Option (Int32 × (Nat → Int64))
  | 0, _, _, _ => none
  | n + 1, y4, y5, t_worthOfPair => if p1_lineCount ≤ y5 then gb y4 (some (y4, t_worthOfPair)) else if (fX10_isIn x2 y5) = 0 then fX0_rankPairs_b62 p1_first p1_second p1_cost (fX0_rankPairs_b33 p1_lineCount p1_first p1_second p1_cost p1_oneWay p3_pieces x2 n) y4 y5 0 t_worthOfPair else (fX1_gainOfLine p1_first p1_second p1_oneWay p3_pieces y5).bind (fun u19 => fX0_rankPairs_b62 p1_first p1_second p1_cost (fX0_rankPairs_b33 p1_lineCount p1_first p1_second p1_cost p1_oneWay p3_pieces x2 n) y4 y5 u19 t_worthOfPair)
theorem fX0_rankPairs_b33_0 (p1_lineCount : Int32) (p1_first : Nat → Int32) (p1_second : Nat → Int32) (p1_cost : Nat → Int32) (p1_oneWay : Nat → Int32) (p3_pieces : Nat → Int32) (x2 : Int32) (y4 : Int32) (y5 : Int32) (t_worthOfPair : Nat → Int64) : fX0_rankPairs_b33 p1_lineCount p1_first p1_second p1_cost p1_oneWay p3_pieces x2 0 y4 y5 t_worthOfPair = none := rfl
theorem fX0_rankPairs_b33_s (p1_lineCount : Int32) (p1_first : Nat → Int32) (p1_second : Nat → Int32) (p1_cost : Nat → Int32) (p1_oneWay : Nat → Int32) (p3_pieces : Nat → Int32) (x2 : Int32) (n : Nat) (y4 : Int32) (y5 : Int32) (t_worthOfPair : Nat → Int64) : fX0_rankPairs_b33 p1_lineCount p1_first p1_second p1_cost p1_oneWay p3_pieces x2 (n + 1) y4 y5 t_worthOfPair = (if p1_lineCount ≤ y5 then gb y4 (some (y4, t_worthOfPair)) else if (fX10_isIn x2 y5) = 0 then fX0_rankPairs_b62 p1_first p1_second p1_cost (fX0_rankPairs_b33 p1_lineCount p1_first p1_second p1_cost p1_oneWay p3_pieces x2 n) y4 y5 0 t_worthOfPair else (fX1_gainOfLine p1_first p1_second p1_oneWay p3_pieces y5).bind (fun u19 => fX0_rankPairs_b62 p1_first p1_second p1_cost (fX0_rankPairs_b33 p1_lineCount p1_first p1_second p1_cost p1_oneWay p3_pieces x2 n) y4 y5 u19 t_worthOfPair)) := rfl
def fX0_rankPairs_b6 (p1_lineCount : Int32) (p1_first : Nat → Int32) (p1_second : Nat → Int32) (p1_cost : Nat → Int32) (p1_oneWay : Nat → Int32) (p3_pieces : Nat → Int32) (x2 : Int32) : Nat → Int32 → Int32 → (Nat → Int64) → Option (Int32 × (Nat → Int64))
  | 0, _, _, _ => none
  | n + 1, y4, y5, t_worthOfPair => if 100 ≤ y5 then fX0_rankPairs_b33 p1_lineCount p1_first p1_second p1_cost p1_oneWay p3_pieces x2 FU y4 0 t_worthOfPair else gd y5 100 ((fX0_rankPairs_b6 p1_lineCount p1_first p1_second p1_cost p1_oneWay p3_pieces x2 n) y4 (y5 + 1) (vp_updL t_worthOfPair y5.toNatClampNeg 0))
theorem fX0_rankPairs_b6_0 (p1_lineCount : Int32) (p1_first : Nat → Int32) (p1_second : Nat → Int32) (p1_cost : Nat → Int32) (p1_oneWay : Nat → Int32) (p3_pieces : Nat → Int32) (x2 : Int32) (y4 : Int32) (y5 : Int32) (t_worthOfPair : Nat → Int64) : fX0_rankPairs_b6 p1_lineCount p1_first p1_second p1_cost p1_oneWay p3_pieces x2 0 y4 y5 t_worthOfPair = none := rfl
theorem fX0_rankPairs_b6_s (p1_lineCount : Int32) (p1_first : Nat → Int32) (p1_second : Nat → Int32) (p1_cost : Nat → Int32) (p1_oneWay : Nat → Int32) (p3_pieces : Nat → Int32) (x2 : Int32) (n : Nat) (y4 : Int32) (y5 : Int32) (t_worthOfPair : Nat → Int64) : fX0_rankPairs_b6 p1_lineCount p1_first p1_second p1_cost p1_oneWay p3_pieces x2 (n + 1) y4 y5 t_worthOfPair = (if 100 ≤ y5 then fX0_rankPairs_b33 p1_lineCount p1_first p1_second p1_cost p1_oneWay p3_pieces x2 FU y4 0 t_worthOfPair else gd y5 100 ((fX0_rankPairs_b6 p1_lineCount p1_first p1_second p1_cost p1_oneWay p3_pieces x2 n) y4 (y5 + 1) (vp_updL t_worthOfPair y5.toNatClampNeg 0))) := rfl
def fX0_rankPairs (t_worthOfPair : Nat → Int64) (p1_lineCount : Int32) (p1_first : Nat → Int32) (p1_second : Nat → Int32) (p1_cost : Nat → Int32) (p1_oneWay : Nat → Int32) (p3_pieces : Nat → Int32) (x2 : Int32) : Option (Int32 × (Nat → Int64)) := fX0_rankPairs_b6 p1_lineCount p1_first p1_second p1_cost p1_oneWay p3_pieces x2 FU 0 0 t_worthOfPair
set_option maxRecDepth 100000 in
set_option maxHeartbeats 4000000 in
theorem kX0_rankPairs (l : Launch) (D : va_G) (cT : Nat → ClassId) (a_t : Nat) (a_t_worthOfPair : Nat) (a_t_worthOfGroup : Nat) (a_p1 : Nat) (a_p1_first : Nat) (a_p1_second : Nat) (a_p1_cost : Nat) (a_p1_oneWay : Nat) (a_p1_breaks : Nat) (a_p1_absences : Nat) (a_p3 : Nat) (a_p3_pieces : Nat) (t_worthOfPair : Nat → Int64) (p1_people : Int32) (p1_lineCount : Int32) (p1_first : Nat → Int32) (p1_second : Nat → Int32) (p1_cost : Nat → Int32) (p1_oneWay : Nat → Int32) (p3_people : Int32) (p3_pieces : Nat → Int32) (x2 : Int32) (r : Int32 × (Nat → Int64)) (h : fX0_rankPairs t_worthOfPair p1_lineCount p1_first p1_second p1_cost p1_oneWay p3_pieces x2 = some r) : sM l yX0_rankPairs cX0_rankPairs 8 (some .boolean) (zR 3) D cT [.ref a_t, .ref a_p1, .int x2, .ref a_p3] [(a_t, .inr (0, [.ref a_t_worthOfPair, .ref a_t_worthOfGroup])), (a_t_worthOfPair, .inl (cT 1, 100, .inr (.inl t_worthOfPair))), (a_p1, .inr (1, [.int p1_people, .int p1_lineCount, .ref a_p1_first, .ref a_p1_second, .ref a_p1_cost, .ref a_p1_oneWay, .ref a_p1_breaks, .ref a_p1_absences])), (a_p1_first, .inl (cT 0, 24, .inl p1_first)), (a_p1_second, .inl (cT 0, 24, .inl p1_second)), (a_p1_cost, .inl (cT 0, 24, .inl p1_cost)), (a_p1_oneWay, .inl (cT 3, 24, .inl p1_oneWay)), (a_p3, .inr (3, [.ref a_p3_pieces, .int p3_people])), (a_p3_pieces, .inl (cT 0, 10, .inl p3_pieces))] (some (.int r.1)) [(a_t, .inr (0, [.ref a_t_worthOfPair, .ref a_t_worthOfGroup])), (a_t_worthOfPair, .inl (cT 1, 100, .inr (.inl r.2))), (a_p1, .inr (1, [.int p1_people, .int p1_lineCount, .ref a_p1_first, .ref a_p1_second, .ref a_p1_cost, .ref a_p1_oneWay, .ref a_p1_breaks, .ref a_p1_absences])), (a_p1_first, .inl (cT 0, 24, .inl p1_first)), (a_p1_second, .inl (cT 0, 24, .inl p1_second)), (a_p1_cost, .inl (cT 0, 24, .inl p1_cost)), (a_p1_oneWay, .inl (cT 3, 24, .inl p1_oneWay)), (a_p3, .inr (3, [.ref a_p3_pieces, .int p3_people])), (a_p3_pieces, .inl (cT 0, 10, .inl p3_pieces))] := by
  refine sM_bool rfl (Nat.le_of_ble_eq_true rfl) ?_
  intro X C hE
  have B62 : ∀ (K33 : Int32 → Int32 → (Nat → Int64) → Option (Int32 × (Nat → Int64))) (hK33 : ∀ (y4 : Int32) (y5 : Int32) (t_worthOfPair : Nat → Int64), K33 y4 y5 t_worthOfPair = some r → sW X l (zR 3) D 8 0 0 33 [(0, .ref a_t), (1, .ref a_p1), (2, .int x2), (3, .ref a_p3), (4, .int y4), (5, .int y5)] [] [(a_t, .inr (0, [.ref a_t_worthOfPair, .ref a_t_worthOfGroup])), (a_t_worthOfPair, .inl (cT 1, 100, .inr (.inl t_worthOfPair))), (a_p1, .inr (1, [.int p1_people, .int p1_lineCount, .ref a_p1_first, .ref a_p1_second, .ref a_p1_cost, .ref a_p1_oneWay, .ref a_p1_breaks, .ref a_p1_absences])), (a_p1_first, .inl (cT 0, 24, .inl p1_first)), (a_p1_second, .inl (cT 0, 24, .inl p1_second)), (a_p1_cost, .inl (cT 0, 24, .inl p1_cost)), (a_p1_oneWay, .inl (cT 3, 24, .inl p1_oneWay)), (a_p3, .inr (3, [.ref a_p3_pieces, .int p3_people])), (a_p3_pieces, .inl (cT 0, 10, .inl p3_pieces))]) (y4 : Int32) (y5 : Int32) (s0 : Int32) (t_worthOfPair : Nat → Int64), fX0_rankPairs_b62 p1_first p1_second p1_cost K33 y4 y5 s0 t_worthOfPair = some r → sW X l (zR 3) D 8 0 0 62 [(0, .ref a_t), (1, .ref a_p1), (2, .int x2), (3, .ref a_p3), (4, .int y4), (5, .int y5)] [.int s0] [(a_t, .inr (0, [.ref a_t_worthOfPair, .ref a_t_worthOfGroup])), (a_t_worthOfPair, .inl (cT 1, 100, .inr (.inl t_worthOfPair))), (a_p1, .inr (1, [.int p1_people, .int p1_lineCount, .ref a_p1_first, .ref a_p1_second, .ref a_p1_cost, .ref a_p1_oneWay, .ref a_p1_breaks, .ref a_p1_absences])), (a_p1_first, .inl (cT 0, 24, .inl p1_first)), (a_p1_second, .inl (cT 0, 24, .inl p1_second)), (a_p1_cost, .inl (cT 0, 24, .inl p1_cost)), (a_p1_oneWay, .inl (cT 3, 24, .inl p1_oneWay)), (a_p3, .inr (3, [.ref a_p3_pieces, .int p3_people])), (a_p3_pieces, .inl (cT 0, 10, .inl p3_pieces))] := by
    intro K33 hK33 y4 y5 s0 t_worthOfPair h
    refine xi_istore C [1, 2, 3, 4, 5, 6, 0] (L2 := [(0, .ref a_t), (1, .ref a_p1), (2, .int x2), (3, .ref a_p3), (4, .int y4), (5, .int y5), (6, .int s0)]) dX0_rankPairs_62 (Nat.le_of_ble_eq_true rfl) rfl ?_
    refine xi_iload C 6 dX0_rankPairs_64 rfl ?_
    refine xi_if_le C (tgt := 122) dX0_rankPairs_66 rfl (fun c8 => ?_) (fun c8 => ?_)
    · replace h := (if_pos c8).symm.trans h
      refine xi_iinc C (v := y5 + 1) 5 [1, 2, 3, 4, 5, 0, 6] (L2 := [(0, .ref a_t), (1, .ref a_p1), (2, .int x2), (3, .ref a_p3), (4, .int y4), (5, .int (y5 + 1)), (6, .int s0)]) dX0_rankPairs_122 rfl rfl (Nat.le_of_ble_eq_true rfl) rfl ?_
      refine xi_goto C (tgt := 33) dX0_rankPairs_125 rfl ?_
      refine xi_drop (L2 := [(0, .ref a_t), (1, .ref a_p1), (2, .int x2), (3, .ref a_p3), (4, .int y4), (5, .int (y5 + 1))]) [0, 1, 2, 3, 4, 5] rfl ?_
      exact hK33 y4 (y5 + 1) t_worthOfPair h
    · replace h := (if_neg c8).symm.trans h
      refine xi_aload_n C 1 dX0_rankPairs_69 rfl ?_
      refine xi_get C zkX1 2 2 zlX0_45 (by decide) rfl rfl dX0_rankPairs_70 ?_
      refine xi_iload C 5 dX0_rankPairs_73 rfl ?_
      replace h := ig h
      obtain ⟨c9, h⟩ := h
      refine xi_iald C 3 rfl c9 dX0_rankPairs_75 ?_
      refine xi_aload_n C 1 dX0_rankPairs_76 rfl ?_
      refine xi_get C zkX1 3 2 zlX0_49 (by decide) rfl rfl dX0_rankPairs_77 ?_
      refine xi_iload C 5 dX0_rankPairs_80 rfl ?_
      refine xi_iald C 4 rfl c9 dX0_rankPairs_82 ?_
      refine xi_callSr C (kX0_pairOf l D cT (p1_first y5.toNatClampNeg) (p1_second y5.toNatClampNeg) (fX0_pairOf (p1_first y5.toNatClampNeg) (p1_second y5.toNatClampNeg)) rfl) zcX0_pairOf zmX0_52 zsX0_pairOf (zr rfl rfl) z00 rfl [] rfl rfl rfl (Nat.le_of_ble_eq_true rfl) dX0_rankPairs_83 (fun z12 => ?_)
      refine xi_topi (fun w13 ew13 => ?_)
      replace h := nmE ew13 h
      refine xi_istore C [1, 2, 3, 4, 5, 6, 7, 0] (L2 := [(0, .ref a_t), (1, .ref a_p1), (2, .int x2), (3, .ref a_p3), (4, .int y4), (5, .int y5), (6, .int s0), (7, .int w13)]) dX0_rankPairs_86 (Nat.le_of_ble_eq_true rfl) rfl ?_
      refine xi_aload_n C 0 dX0_rankPairs_88 rfl ?_
      refine xi_get C zkX0 0 0 zlX0_9 (by decide) rfl rfl dX0_rankPairs_89 ?_
      refine xi_iload C 7 dX0_rankPairs_92 rfl ?_
      refine xi_aload_n C 0 dX0_rankPairs_94 rfl ?_
      refine xi_get C zkX0 0 0 zlX0_9 (by decide) rfl rfl dX0_rankPairs_95 ?_
      refine xi_iload C 7 dX0_rankPairs_98 rfl ?_
      replace h := ig h
      obtain ⟨c14, h⟩ := h
      refine xi_lald C 1 rfl c14 dX0_rankPairs_100 ?_
      refine xi_iload C 6 dX0_rankPairs_101 rfl ?_
      refine xi_aload_n C 1 dX0_rankPairs_103 rfl ?_
      refine xi_get C zkX1 4 2 zlX0_56 (by decide) rfl rfl dX0_rankPairs_104 ?_
      refine xi_iload C 5 dX0_rankPairs_107 rfl ?_
      refine xi_iald C 5 rfl c9 dX0_rankPairs_109 ?_
      refine xi_iload C 5 dX0_rankPairs_110 rfl ?_
      refine xi_callSr C (kX0_worth l D cT s0 (p1_cost y5.toNatClampNeg) y5 (fX0_worth s0 (p1_cost y5.toNatClampNeg) y5) rfl) zcX0_worth zmX0_59 zsX0_worth (zr rfl rfl) z00 rfl [] rfl rfl rfl (Nat.le_of_ble_eq_true rfl) dX0_rankPairs_112 (fun z17 => ?_)
      refine xi_mmaxl C zmjX0_63 zrj z00 (Nat.le_of_ble_eq_true rfl) dX0_rankPairs_115 ?_
      refine xi_topl (fun w18 ew18 => ?_)
      replace h := nmE ew18 h
      refine xi_last C 1 rfl c14 dX0_rankPairs_118 (ws2 := [(a_t, .inr (0, [.ref a_t_worthOfPair, .ref a_t_worthOfGroup])), (a_t_worthOfPair, .inl (cT 1, 100, .inr (.inl (vp_updL t_worthOfPair w13.toNatClampNeg w18)))), (a_p1, .inr (1, [.int p1_people, .int p1_lineCount, .ref a_p1_first, .ref a_p1_second, .ref a_p1_cost, .ref a_p1_oneWay, .ref a_p1_breaks, .ref a_p1_absences])), (a_p1_first, .inl (cT 0, 24, .inl p1_first)), (a_p1_second, .inl (cT 0, 24, .inl p1_second)), (a_p1_cost, .inl (cT 0, 24, .inl p1_cost)), (a_p1_oneWay, .inl (cT 3, 24, .inl p1_oneWay)), (a_p3, .inr (3, [.ref a_p3_pieces, .int p3_people])), (a_p3_pieces, .inl (cT 0, 10, .inl p3_pieces))]) rfl ?_
      refine xi_iconst C (v := 1) dX0_rankPairs_119 rfl ?_
      refine xi_istore C [1, 2, 3, 4, 0, 5, 6, 7] (L2 := [(0, .ref a_t), (1, .ref a_p1), (2, .int x2), (3, .ref a_p3), (4, .int 1), (5, .int y5), (6, .int s0), (7, .int w13)]) dX0_rankPairs_120 (Nat.le_of_ble_eq_true rfl) rfl ?_
      refine xi_iinc C (v := y5 + 1) 5 [1, 2, 3, 4, 5, 0, 6, 7] (L2 := [(0, .ref a_t), (1, .ref a_p1), (2, .int x2), (3, .ref a_p3), (4, .int 1), (5, .int (y5 + 1)), (6, .int s0), (7, .int w13)]) dX0_rankPairs_122 rfl rfl (Nat.le_of_ble_eq_true rfl) rfl ?_
      refine xi_goto C (tgt := 33) dX0_rankPairs_125 rfl ?_
      refine xi_drop (L2 := [(0, .ref a_t), (1, .ref a_p1), (2, .int x2), (3, .ref a_p3), (4, .int 1), (5, .int (y5 + 1))]) [0, 1, 2, 3, 4, 5] rfl ?_
      exact hK33 1 (y5 + 1) (vp_updL t_worthOfPair w13.toNatClampNeg w18) h
  have B33 : ∀ (n : Nat) (y4 : Int32) (y5 : Int32) (t_worthOfPair : Nat → Int64), fX0_rankPairs_b33 p1_lineCount p1_first p1_second p1_cost p1_oneWay p3_pieces x2 n y4 y5 t_worthOfPair = some r → sW X l (zR 3) D 8 0 0 33 [(0, .ref a_t), (1, .ref a_p1), (2, .int x2), (3, .ref a_p3), (4, .int y4), (5, .int y5)] [] [(a_t, .inr (0, [.ref a_t_worthOfPair, .ref a_t_worthOfGroup])), (a_t_worthOfPair, .inl (cT 1, 100, .inr (.inl t_worthOfPair))), (a_p1, .inr (1, [.int p1_people, .int p1_lineCount, .ref a_p1_first, .ref a_p1_second, .ref a_p1_cost, .ref a_p1_oneWay, .ref a_p1_breaks, .ref a_p1_absences])), (a_p1_first, .inl (cT 0, 24, .inl p1_first)), (a_p1_second, .inl (cT 0, 24, .inl p1_second)), (a_p1_cost, .inl (cT 0, 24, .inl p1_cost)), (a_p1_oneWay, .inl (cT 3, 24, .inl p1_oneWay)), (a_p3, .inr (3, [.ref a_p3_pieces, .int p3_people])), (a_p3_pieces, .inl (cT 0, 10, .inl p3_pieces))] := by
    intro n
    induction n with
    | zero =>
      intro y4 y5 t_worthOfPair h
      exact zno ((fX0_rankPairs_b33_0 _ _ _ _ _ _ _ _ _ _).symm.trans h)
    | succ n ih =>
      intro y4 y5 t_worthOfPair h
      replace h := (fX0_rankPairs_b33_s _ _ _ _ _ _ _ _ _ _ _).symm.trans h
      refine xi_iload C 5 dX0_rankPairs_33 rfl ?_
      refine xi_aload_n C 1 dX0_rankPairs_35 rfl ?_
      refine xi_get C zkX1 1 2 zlX0_34 (by decide) rfl rfl dX0_rankPairs_36 ?_
      refine xi_icmp_ge C (tgt := 128) dX0_rankPairs_39 rfl (fun c2 => ?_) (fun c2 => ?_)
      · replace h := (if_pos c2).symm.trans h
        refine xi_iload C 4 dX0_rankPairs_128 rfl ?_
        replace h := ib h
        obtain ⟨g3, h⟩ := h
        obtain rfl := Option.some.inj h
        exact hE _ _ _ dX0_rankPairs_130 rfl g3
      · replace h := (if_neg c2).symm.trans h
        refine xi_iload_n C 2 dX0_rankPairs_42 rfl ?_
        refine xi_iload C 5 dX0_rankPairs_43 rfl ?_
        refine xi_callSr C (kX10_isIn l D cT x2 y5 (fX10_isIn x2 y5) rfl) zcX10_isIn zmX0_37 zsX10_isIn (zr rfl rfl) z00 rfl [] rfl rfl rfl (Nat.le_of_ble_eq_true rfl) dX0_rankPairs_45 (fun z6 => ?_)
        refine xi_if_eq C (tgt := 61) dX0_rankPairs_48 rfl (fun c7 => ?_) (fun c7 => ?_)
        · replace h := (if_pos c7).symm.trans h
          refine xi_iconst C (v := 0) dX0_rankPairs_61 rfl ?_
          exact B62 (fX0_rankPairs_b33 p1_lineCount p1_first p1_second p1_cost p1_oneWay p3_pieces x2 n) ih y4 y5 0 t_worthOfPair h
        · replace h := (if_neg c7).symm.trans h
          refine xi_aload_n C 1 dX0_rankPairs_51 rfl ?_
          refine xi_iload C 5 dX0_rankPairs_52 rfl ?_
          refine xi_aload_n C 3 dX0_rankPairs_54 rfl ?_
          replace h := ob h
          obtain ⟨u19, hu20, h⟩ := h
          refine xi_callVr C (kX1_gainOfLine l D cT a_p1 a_p1_first a_p1_second a_p1_cost a_p1_oneWay a_p1_breaks a_p1_absences a_p3 a_p3_pieces p1_people p1_lineCount p1_first p1_second p1_oneWay p3_people p3_pieces y5 u19 hu20) zcX1_gainOfLine zmX0_41 ziX1_gainOfLine (zr rfl rfl) z00 rfl [2, 3, 4, 6, 7, 8] rfl rfl zkX1.1 (qr := 2) rfl rfl (Nat.le_of_ble_eq_true rfl) dX0_rankPairs_55 (fun z21 => ?_)
          refine xi_goto C (tgt := 62) dX0_rankPairs_58 rfl ?_
          exact B62 (fX0_rankPairs_b33 p1_lineCount p1_first p1_second p1_cost p1_oneWay p3_pieces x2 n) ih y4 y5 u19 t_worthOfPair h
  have B6 : ∀ (n : Nat) (y4 : Int32) (y5 : Int32) (t_worthOfPair : Nat → Int64), fX0_rankPairs_b6 p1_lineCount p1_first p1_second p1_cost p1_oneWay p3_pieces x2 n y4 y5 t_worthOfPair = some r → sW X l (zR 3) D 8 0 0 6 [(0, .ref a_t), (1, .ref a_p1), (2, .int x2), (3, .ref a_p3), (4, .int y4), (5, .int y5)] [] [(a_t, .inr (0, [.ref a_t_worthOfPair, .ref a_t_worthOfGroup])), (a_t_worthOfPair, .inl (cT 1, 100, .inr (.inl t_worthOfPair))), (a_p1, .inr (1, [.int p1_people, .int p1_lineCount, .ref a_p1_first, .ref a_p1_second, .ref a_p1_cost, .ref a_p1_oneWay, .ref a_p1_breaks, .ref a_p1_absences])), (a_p1_first, .inl (cT 0, 24, .inl p1_first)), (a_p1_second, .inl (cT 0, 24, .inl p1_second)), (a_p1_cost, .inl (cT 0, 24, .inl p1_cost)), (a_p1_oneWay, .inl (cT 3, 24, .inl p1_oneWay)), (a_p3, .inr (3, [.ref a_p3_pieces, .int p3_people])), (a_p3_pieces, .inl (cT 0, 10, .inl p3_pieces))] := by
    intro n
    induction n with
    | zero =>
      intro y4 y5 t_worthOfPair h
      exact zno ((fX0_rankPairs_b6_0 _ _ _ _ _ _ _ _ _ _).symm.trans h)
    | succ n ih =>
      intro y4 y5 t_worthOfPair h
      replace h := (fX0_rankPairs_b6_s _ _ _ _ _ _ _ _ _ _ _).symm.trans h
      refine xi_iload C 5 dX0_rankPairs_6 rfl ?_
      refine xi_aload_n C 0 dX0_rankPairs_8 rfl ?_
      refine xi_get C zkX0 0 0 zlX0_9 (by decide) rfl rfl dX0_rankPairs_9 ?_
      refine xi_alen C (v := 100) 1 1 rfl rfl rfl dX0_rankPairs_12 ?_
      refine xi_icmp_ge C (tgt := 30) dX0_rankPairs_13 rfl (fun c1 => ?_) (fun c1 => ?_)
      · replace h := (if_pos c1).symm.trans h
        refine xi_iconst C (v := 0) dX0_rankPairs_30 rfl ?_
        refine xi_istore C [1, 2, 3, 4, 5, 0] (L2 := [(0, .ref a_t), (1, .ref a_p1), (2, .int x2), (3, .ref a_p3), (4, .int y4), (5, .int 0)]) dX0_rankPairs_31 (Nat.le_of_ble_eq_true rfl) rfl ?_
        exact B33 FU y4 0 t_worthOfPair h
      · replace h := (if_neg c1).symm.trans h
        refine xi_aload_n C 0 dX0_rankPairs_16 rfl ?_
        refine xi_get C zkX0 0 0 zlX0_9 (by decide) rfl rfl dX0_rankPairs_17 ?_
        refine xi_iload C 5 dX0_rankPairs_20 rfl ?_
        refine xi_lconst C (v := 0) dX0_rankPairs_22 rfl ?_
        replace h := ig h
        obtain ⟨c22, h⟩ := h
        refine xi_last C 1 rfl c22 dX0_rankPairs_23 (ws2 := [(a_t, .inr (0, [.ref a_t_worthOfPair, .ref a_t_worthOfGroup])), (a_t_worthOfPair, .inl (cT 1, 100, .inr (.inl (vp_updL t_worthOfPair y5.toNatClampNeg 0)))), (a_p1, .inr (1, [.int p1_people, .int p1_lineCount, .ref a_p1_first, .ref a_p1_second, .ref a_p1_cost, .ref a_p1_oneWay, .ref a_p1_breaks, .ref a_p1_absences])), (a_p1_first, .inl (cT 0, 24, .inl p1_first)), (a_p1_second, .inl (cT 0, 24, .inl p1_second)), (a_p1_cost, .inl (cT 0, 24, .inl p1_cost)), (a_p1_oneWay, .inl (cT 3, 24, .inl p1_oneWay)), (a_p3, .inr (3, [.ref a_p3_pieces, .int p3_people])), (a_p3_pieces, .inl (cT 0, 10, .inl p3_pieces))]) rfl ?_
        refine xi_iinc C (v := y5 + 1) 5 [1, 2, 3, 4, 5, 0] (L2 := [(0, .ref a_t), (1, .ref a_p1), (2, .int x2), (3, .ref a_p3), (4, .int y4), (5, .int (y5 + 1))]) dX0_rankPairs_24 rfl rfl (Nat.le_of_ble_eq_true rfl) rfl ?_
        refine xi_goto C (tgt := 6) dX0_rankPairs_27 rfl ?_
        exact ih y4 (y5 + 1) (vp_updL t_worthOfPair y5.toNatClampNeg 0) h
  refine xi_drop (L2 := [(0, .ref a_t), (1, .ref a_p1), (2, .int x2), (3, .ref a_p3)]) [0, 1, 2, 3] rfl ?_
  refine xi_iconst C (v := 0) dX0_rankPairs_0 rfl ?_
  refine xi_istore C [1, 2, 3, 4, 0] (L2 := [(0, .ref a_t), (1, .ref a_p1), (2, .int x2), (3, .ref a_p3), (4, .int 0)]) dX0_rankPairs_1 (Nat.le_of_ble_eq_true rfl) rfl ?_
  refine xi_iconst C (v := 0) dX0_rankPairs_3 rfl ?_
  refine xi_istore C [1, 2, 3, 4, 5, 0] (L2 := [(0, .ref a_t), (1, .ref a_p1), (2, .int x2), (3, .ref a_p3), (4, .int 0), (5, .int 0)]) dX0_rankPairs_4 (Nat.le_of_ble_eq_true rfl) rfl ?_
  exact B6 FU 0 0 t_worthOfPair h
def fX0_admitWith_b3 (x1 : Int32) (x2 : Int32) (x3 : Int64) : Nat → Int32 → (Nat → Int64) → Option ((Nat → Int64))
  | 0, _, _ => none
  | n + 1, y5, t_worthOfGroup => if x1 ≤ y5 then some t_worthOfGroup else if (fX10_isIn y5 x2) = 0 then (fX0_admitWith_b3 x1 x2 x3 n) (y5 + 1) t_worthOfGroup else gd (y5 &&& ((1 <<< (x2 &&& 31)) ^^^ (-1))) 1024 (gd (x1 + y5) 1024 (nm (if (x3 + (t_worthOfGroup (y5 &&& ((1 <<< (x2 &&& 31)) ^^^ (-1))).toNatClampNeg)) < (t_worthOfGroup (x1 + y5).toNatClampNeg) then (t_worthOfGroup (x1 + y5).toNatClampNeg) else (x3 + (t_worthOfGroup (y5 &&& ((1 <<< (x2 &&& 31)) ^^^ (-1))).toNatClampNeg))) (fun w8 => (fX0_admitWith_b3 x1 x2 x3 n) (y5 + 1) (vp_updL t_worthOfGroup (x1 + y5).toNatClampNeg w8))))
theorem fX0_admitWith_b3_0 (x1 : Int32) (x2 : Int32) (x3 : Int64) (y5 : Int32) (t_worthOfGroup : Nat → Int64) : fX0_admitWith_b3 x1 x2 x3 0 y5 t_worthOfGroup = none := rfl
theorem fX0_admitWith_b3_s (x1 : Int32) (x2 : Int32) (x3 : Int64) (n : Nat) (y5 : Int32) (t_worthOfGroup : Nat → Int64) : fX0_admitWith_b3 x1 x2 x3 (n + 1) y5 t_worthOfGroup = (if x1 ≤ y5 then some t_worthOfGroup else if (fX10_isIn y5 x2) = 0 then (fX0_admitWith_b3 x1 x2 x3 n) (y5 + 1) t_worthOfGroup else gd (y5 &&& ((1 <<< (x2 &&& 31)) ^^^ (-1))) 1024 (gd (x1 + y5) 1024 (nm (if (x3 + (t_worthOfGroup (y5 &&& ((1 <<< (x2 &&& 31)) ^^^ (-1))).toNatClampNeg)) < (t_worthOfGroup (x1 + y5).toNatClampNeg) then (t_worthOfGroup (x1 + y5).toNatClampNeg) else (x3 + (t_worthOfGroup (y5 &&& ((1 <<< (x2 &&& 31)) ^^^ (-1))).toNatClampNeg))) (fun w8 => (fX0_admitWith_b3 x1 x2 x3 n) (y5 + 1) (vp_updL t_worthOfGroup (x1 + y5).toNatClampNeg w8))))) := rfl
def fX0_admitWith (t_worthOfGroup : Nat → Int64) (x1 : Int32) (x2 : Int32) (x3 : Int64) : Option ((Nat → Int64)) := fX0_admitWith_b3 x1 x2 x3 FU 0 t_worthOfGroup
set_option maxRecDepth 100000 in
set_option maxHeartbeats 4000000 in
theorem kX0_admitWith (l : Launch) (D : va_G) (cT : Nat → ClassId) (a_t : Nat) (a_t_worthOfPair : Nat) (a_t_worthOfGroup : Nat) (t_worthOfGroup : Nat → Int64) (x1 : Int32) (x2 : Int32) (x3 : Int64) (r : (Nat → Int64)) (h : fX0_admitWith t_worthOfGroup x1 x2 x3 = some r) : sM l yX0_admitWith cX0_admitWith 8 none (zR 2) D cT [.ref a_t, .int x1, .int x2, .long x3] [(a_t, .inr (0, [.ref a_t_worthOfPair, .ref a_t_worthOfGroup])), (a_t_worthOfGroup, .inl (cT 1, 1024, .inr (.inl t_worthOfGroup)))] none [(a_t, .inr (0, [.ref a_t_worthOfPair, .ref a_t_worthOfGroup])), (a_t_worthOfGroup, .inl (cT 1, 1024, .inr (.inl r)))] := by
  refine sM_void rfl (Nat.le_of_ble_eq_true rfl) ?_
  intro X C hE
  have B3 : ∀ (n : Nat) (y5 : Int32) (t_worthOfGroup : Nat → Int64), fX0_admitWith_b3 x1 x2 x3 n y5 t_worthOfGroup = some r → sW X l (zR 2) D 8 0 0 3 [(0, .ref a_t), (1, .int x1), (2, .int x2), (3, .long x3), (5, .int y5)] [] [(a_t, .inr (0, [.ref a_t_worthOfPair, .ref a_t_worthOfGroup])), (a_t_worthOfGroup, .inl (cT 1, 1024, .inr (.inl t_worthOfGroup)))] := by
    intro n
    induction n with
    | zero =>
      intro y5 t_worthOfGroup h
      exact zno ((fX0_admitWith_b3_0 _ _ _ _ _).symm.trans h)
    | succ n ih =>
      intro y5 t_worthOfGroup h
      replace h := (fX0_admitWith_b3_s _ _ _ _ _ _).symm.trans h
      refine xi_iload C 4 dX0_admitWith_3 rfl ?_
      refine xi_iload_n C 1 dX0_admitWith_5 rfl ?_
      refine xi_icmp_ge C (tgt := 64) dX0_admitWith_6 rfl (fun c1 => ?_) (fun c1 => ?_)
      · replace h := (if_pos c1).symm.trans h
        obtain rfl := Option.some.inj h
        exact hE _ _ dX0_admitWith_64 rfl
      · replace h := (if_neg c1).symm.trans h
        refine xi_iload C 4 dX0_admitWith_9 rfl ?_
        refine xi_iload_n C 2 dX0_admitWith_11 rfl ?_
        refine xi_callSr C (kX10_isIn l D cT y5 x2 (fX10_isIn y5 x2) rfl) zcX10_isIn zmX0_37 zsX10_isIn (zr rfl rfl) z00 rfl [] rfl rfl rfl (Nat.le_of_ble_eq_true rfl) dX0_admitWith_12 (fun z4 => ?_)
        refine xi_if_eq C (tgt := 58) dX0_admitWith_15 rfl (fun c5 => ?_) (fun c5 => ?_)
        · replace h := (if_pos c5).symm.trans h
          refine xi_iinc C (v := y5 + 1) 4 [1, 2, 3, 4, 0] (L2 := [(0, .ref a_t), (1, .int x1), (2, .int x2), (3, .long x3), (5, .int (y5 + 1))]) dX0_admitWith_58 rfl rfl (Nat.le_of_ble_eq_true rfl) rfl ?_
          refine xi_goto C (tgt := 3) dX0_admitWith_61 rfl ?_
          exact ih (y5 + 1) t_worthOfGroup h
        · replace h := (if_neg c5).symm.trans h
          refine xi_lload_n C 3 dX0_admitWith_18 rfl ?_
          refine xi_aload_n C 0 dX0_admitWith_19 rfl ?_
          refine xi_get C zkX0 1 0 zlX0_15 (by decide) rfl rfl dX0_admitWith_20 ?_
          refine xi_iload C 4 dX0_admitWith_23 rfl ?_
          refine xi_iconst C (v := 1) dX0_admitWith_25 rfl ?_
          refine xi_iload_n C 2 dX0_admitWith_26 rfl ?_
          refine xi_ishl C dX0_admitWith_27 ?_
          refine xi_iconst C (v := (-1)) dX0_admitWith_28 rfl ?_
          refine xi_ixor C dX0_admitWith_29 ?_
          refine xi_iand C dX0_admitWith_30 ?_
          replace h := ig h
          obtain ⟨c6, h⟩ := h
          refine xi_lald C 1 rfl c6 dX0_admitWith_31 ?_
          refine xi_ladd C dX0_admitWith_32 ?_
          refine xi_lstore C [1, 2, 3, 4, 5, 0] (L2 := [(0, .ref a_t), (1, .int x1), (2, .int x2), (3, .long x3), (5, .int y5), (6, .long (x3 + (t_worthOfGroup (y5 &&& ((1 <<< (x2 &&& 31)) ^^^ (-1))).toNatClampNeg)))]) dX0_admitWith_33 (Nat.le_of_ble_eq_true rfl) rfl ?_
          refine xi_aload_n C 0 dX0_admitWith_35 rfl ?_
          refine xi_get C zkX0 1 0 zlX0_15 (by decide) rfl rfl dX0_admitWith_36 ?_
          refine xi_iload_n C 1 dX0_admitWith_39 rfl ?_
          refine xi_iload C 4 dX0_admitWith_40 rfl ?_
          refine xi_iadd C dX0_admitWith_42 ?_
          refine xi_aload_n C 0 dX0_admitWith_43 rfl ?_
          refine xi_get C zkX0 1 0 zlX0_15 (by decide) rfl rfl dX0_admitWith_44 ?_
          refine xi_iload_n C 1 dX0_admitWith_47 rfl ?_
          refine xi_iload C 4 dX0_admitWith_48 rfl ?_
          refine xi_iadd C dX0_admitWith_50 ?_
          replace h := ig h
          obtain ⟨c7, h⟩ := h
          refine xi_lald C 1 rfl c7 dX0_admitWith_51 ?_
          refine xi_lload C 5 dX0_admitWith_52 rfl ?_
          refine xi_mmaxl C zmjX0_63 zrj z00 (Nat.le_of_ble_eq_true rfl) dX0_admitWith_54 ?_
          refine xi_topl (fun w8 ew8 => ?_)
          replace h := nmE ew8 h
          refine xi_last C 1 rfl c7 dX0_admitWith_57 (ws2 := [(a_t, .inr (0, [.ref a_t_worthOfPair, .ref a_t_worthOfGroup])), (a_t_worthOfGroup, .inl (cT 1, 1024, .inr (.inl (vp_updL t_worthOfGroup (x1 + y5).toNatClampNeg w8))))]) rfl ?_
          refine xi_iinc C (v := y5 + 1) 4 [1, 2, 3, 4, 0, 5] (L2 := [(0, .ref a_t), (1, .int x1), (2, .int x2), (3, .long x3), (5, .int (y5 + 1)), (6, .long (x3 + (t_worthOfGroup (y5 &&& ((1 <<< (x2 &&& 31)) ^^^ (-1))).toNatClampNeg)))]) dX0_admitWith_58 rfl rfl (Nat.le_of_ble_eq_true rfl) rfl ?_
          refine xi_goto C (tgt := 3) dX0_admitWith_61 rfl ?_
          refine xi_drop (L2 := [(0, .ref a_t), (1, .int x1), (2, .int x2), (3, .long x3), (5, .int (y5 + 1))]) [0, 1, 2, 3, 4] rfl ?_
          exact ih (y5 + 1) (vp_updL t_worthOfGroup (x1 + y5).toNatClampNeg w8) h
  refine xi_drop (L2 := [(0, .ref a_t), (1, .int x1), (2, .int x2), (3, .long x3)]) [0, 1, 2, 3] rfl ?_
  refine xi_iconst C (v := 0) dX0_admitWith_0 rfl ?_
  refine xi_istore C [1, 2, 3, 4, 0] (L2 := [(0, .ref a_t), (1, .int x1), (2, .int x2), (3, .long x3), (5, .int 0)]) dX0_admitWith_1 (Nat.le_of_ble_eq_true rfl) rfl ?_
  exact B3 FU 0 t_worthOfGroup h
def fX0_admit_b33 (t_worthOfPair : Nat → Int64) (x1 : Int32) : Nat → Int32 → Int32 → (Nat → Int64) → Option ((Nat → Int64))
  | 0, _, _, _ => none
  | n + 1, y2, y3, t_worthOfGroup => if x1 ≤ y3 then some t_worthOfGroup else gd (fX0_pairOf x1 y3) 100 (if (lg_cmp (t_worthOfPair (fX0_pairOf x1 y3).toNatClampNeg) 0) ≤ 0 then (fX0_admit_b33 t_worthOfPair x1 n) y2 (y3 + 1) t_worthOfGroup else (fX0_admitWith t_worthOfGroup y2 y3 (t_worthOfPair (fX0_pairOf x1 y3).toNatClampNeg)).bind (fun u8 => (fX0_admit_b33 t_worthOfPair x1 n) y2 (y3 + 1) u8))
theorem fX0_admit_b33_0 (t_worthOfPair : Nat → Int64) (x1 : Int32) (y2 : Int32) (y3 : Int32) (t_worthOfGroup : Nat → Int64) : fX0_admit_b33 t_worthOfPair x1 0 y2 y3 t_worthOfGroup = none := rfl
theorem fX0_admit_b33_s (t_worthOfPair : Nat → Int64) (x1 : Int32) (n : Nat) (y2 : Int32) (y3 : Int32) (t_worthOfGroup : Nat → Int64) : fX0_admit_b33 t_worthOfPair x1 (n + 1) y2 y3 t_worthOfGroup = (if x1 ≤ y3 then some t_worthOfGroup else gd (fX0_pairOf x1 y3) 100 (if (lg_cmp (t_worthOfPair (fX0_pairOf x1 y3).toNatClampNeg) 0) ≤ 0 then (fX0_admit_b33 t_worthOfPair x1 n) y2 (y3 + 1) t_worthOfGroup else (fX0_admitWith t_worthOfGroup y2 y3 (t_worthOfPair (fX0_pairOf x1 y3).toNatClampNeg)).bind (fun u8 => (fX0_admit_b33 t_worthOfPair x1 n) y2 (y3 + 1) u8))) := rfl
def fX0_admit_b6 (t_worthOfPair : Nat → Int64) (x1 : Int32) : Nat → Int32 → Int32 → (Nat → Int64) → Option ((Nat → Int64))
  | 0, _, _, _ => none
  | n + 1, y2, y3, t_worthOfGroup => if y2 ≤ y3 then fX0_admit_b33 t_worthOfPair x1 FU y2 0 t_worthOfGroup else gd y3 1024 (gd (y2 + y3) 1024 ((fX0_admit_b6 t_worthOfPair x1 n) y2 (y3 + 1) (vp_updL t_worthOfGroup (y2 + y3).toNatClampNeg (t_worthOfGroup y3.toNatClampNeg))))
theorem fX0_admit_b6_0 (t_worthOfPair : Nat → Int64) (x1 : Int32) (y2 : Int32) (y3 : Int32) (t_worthOfGroup : Nat → Int64) : fX0_admit_b6 t_worthOfPair x1 0 y2 y3 t_worthOfGroup = none := rfl
theorem fX0_admit_b6_s (t_worthOfPair : Nat → Int64) (x1 : Int32) (n : Nat) (y2 : Int32) (y3 : Int32) (t_worthOfGroup : Nat → Int64) : fX0_admit_b6 t_worthOfPair x1 (n + 1) y2 y3 t_worthOfGroup = (if y2 ≤ y3 then fX0_admit_b33 t_worthOfPair x1 FU y2 0 t_worthOfGroup else gd y3 1024 (gd (y2 + y3) 1024 ((fX0_admit_b6 t_worthOfPair x1 n) y2 (y3 + 1) (vp_updL t_worthOfGroup (y2 + y3).toNatClampNeg (t_worthOfGroup y3.toNatClampNeg))))) := rfl
def fX0_admit (t_worthOfPair : Nat → Int64) (t_worthOfGroup : Nat → Int64) (x1 : Int32) : Option ((Nat → Int64)) := fX0_admit_b6 t_worthOfPair x1 FU (1 <<< (x1 &&& 31)) 0 t_worthOfGroup
set_option maxRecDepth 100000 in
set_option maxHeartbeats 4000000 in
theorem kX0_admit (l : Launch) (D : va_G) (cT : Nat → ClassId) (a_t : Nat) (a_t_worthOfPair : Nat) (a_t_worthOfGroup : Nat) (t_worthOfPair : Nat → Int64) (t_worthOfGroup : Nat → Int64) (x1 : Int32) (r : (Nat → Int64)) (h : fX0_admit t_worthOfPair t_worthOfGroup x1 = some r) : sM l yX0_admit cX0_admit 6 none (zR 3) D cT [.ref a_t, .int x1] [(a_t, .inr (0, [.ref a_t_worthOfPair, .ref a_t_worthOfGroup])), (a_t_worthOfPair, .inl (cT 1, 100, .inr (.inl t_worthOfPair))), (a_t_worthOfGroup, .inl (cT 1, 1024, .inr (.inl t_worthOfGroup)))] none [(a_t, .inr (0, [.ref a_t_worthOfPair, .ref a_t_worthOfGroup])), (a_t_worthOfPair, .inl (cT 1, 100, .inr (.inl t_worthOfPair))), (a_t_worthOfGroup, .inl (cT 1, 1024, .inr (.inl r)))] := by
  refine sM_void rfl (Nat.le_of_ble_eq_true rfl) ?_
  intro X C hE
  have B33 : ∀ (n : Nat) (y2 : Int32) (y3 : Int32) (t_worthOfGroup : Nat → Int64), fX0_admit_b33 t_worthOfPair x1 n y2 y3 t_worthOfGroup = some r → sW X l (zR 3) D 6 0 0 33 [(0, .ref a_t), (1, .int x1), (2, .int y2), (3, .int y3)] [] [(a_t, .inr (0, [.ref a_t_worthOfPair, .ref a_t_worthOfGroup])), (a_t_worthOfPair, .inl (cT 1, 100, .inr (.inl t_worthOfPair))), (a_t_worthOfGroup, .inl (cT 1, 1024, .inr (.inl t_worthOfGroup)))] := by
    intro n
    induction n with
    | zero =>
      intro y2 y3 t_worthOfGroup h
      exact zno ((fX0_admit_b33_0 _ _ _ _ _).symm.trans h)
    | succ n ih =>
      intro y2 y3 t_worthOfGroup h
      replace h := (fX0_admit_b33_s _ _ _ _ _ _).symm.trans h
      refine xi_iload_n C 3 dX0_admit_33 rfl ?_
      refine xi_iload_n C 1 dX0_admit_34 rfl ?_
      refine xi_icmp_ge C (tgt := 71) dX0_admit_35 rfl (fun c2 => ?_) (fun c2 => ?_)
      · replace h := (if_pos c2).symm.trans h
        obtain rfl := Option.some.inj h
        exact hE _ _ dX0_admit_71 rfl
      · replace h := (if_neg c2).symm.trans h
        refine xi_aload_n C 0 dX0_admit_38 rfl ?_
        refine xi_get C zkX0 0 0 zlX0_9 (by decide) rfl rfl dX0_admit_39 ?_
        refine xi_iload_n C 1 dX0_admit_42 rfl ?_
        refine xi_iload_n C 3 dX0_admit_43 rfl ?_
        refine xi_callSr C (kX0_pairOf l D cT x1 y3 (fX0_pairOf x1 y3) rfl) zcX0_pairOf zmX0_52 zsX0_pairOf (zr rfl rfl) z00 rfl [] rfl rfl rfl (Nat.le_of_ble_eq_true rfl) dX0_admit_44 (fun z5 => ?_)
        replace h := ig h
        obtain ⟨c6, h⟩ := h
        refine xi_lald C 1 rfl c6 dX0_admit_47 ?_
        refine xi_lstore C [1, 2, 3, 4, 0] (L2 := [(0, .ref a_t), (1, .int x1), (2, .int y2), (3, .int y3), (4, .long (t_worthOfPair (fX0_pairOf x1 y3).toNatClampNeg))]) dX0_admit_48 (Nat.le_of_ble_eq_true rfl) rfl ?_
        refine xi_lload C 4 dX0_admit_50 rfl ?_
        refine xi_lconst C (v := 0) dX0_admit_52 rfl ?_
        refine xi_lcmp C dX0_admit_53 ?_
        refine xi_if_le C (tgt := 65) dX0_admit_54 rfl (fun c7 => ?_) (fun c7 => ?_)
        · replace h := (if_pos c7).symm.trans h
          refine xi_iinc C (v := y3 + 1) 3 [1, 2, 3, 0, 4] (L2 := [(0, .ref a_t), (1, .int x1), (2, .int y2), (3, .int (y3 + 1)), (4, .long (t_worthOfPair (fX0_pairOf x1 y3).toNatClampNeg))]) dX0_admit_65 rfl rfl (Nat.le_of_ble_eq_true rfl) rfl ?_
          refine xi_goto C (tgt := 33) dX0_admit_68 rfl ?_
          refine xi_drop (L2 := [(0, .ref a_t), (1, .int x1), (2, .int y2), (3, .int (y3 + 1))]) [0, 1, 2, 3] rfl ?_
          exact ih y2 (y3 + 1) t_worthOfGroup h
        · replace h := (if_neg c7).symm.trans h
          refine xi_aload_n C 0 dX0_admit_57 rfl ?_
          refine xi_iload_n C 2 dX0_admit_58 rfl ?_
          refine xi_iload_n C 3 dX0_admit_59 rfl ?_
          refine xi_lload C 4 dX0_admit_60 rfl ?_
          replace h := ob h
          obtain ⟨u8, hu9, h⟩ := h
          refine xi_callV C (kX0_admitWith l D cT a_t a_t_worthOfPair a_t_worthOfGroup t_worthOfGroup y2 y3 (t_worthOfPair (fX0_pairOf x1 y3).toNatClampNeg) u8 hu9) zcX0_admitWith zmX0_74 ziX0_admitWith (zr rfl rfl) z00 rfl [0, 2] rfl rfl rfl [some 0, none, some 1] (by decide +kernel) (ws2 := [(a_t, .inr (0, [.ref a_t_worthOfPair, .ref a_t_worthOfGroup])), (a_t_worthOfPair, .inl (cT 1, 100, .inr (.inl t_worthOfPair))), (a_t_worthOfGroup, .inl (cT 1, 1024, .inr (.inl u8)))]) rfl zkX0.1 (qr := 0) rfl rfl (Nat.le_of_ble_eq_true rfl) dX0_admit_62 (fun z10 => ?_)
          refine xi_iinc C (v := y3 + 1) 3 [1, 2, 3, 0, 4] (L2 := [(0, .ref a_t), (1, .int x1), (2, .int y2), (3, .int (y3 + 1)), (4, .long (t_worthOfPair (fX0_pairOf x1 y3).toNatClampNeg))]) dX0_admit_65 rfl rfl (Nat.le_of_ble_eq_true rfl) rfl ?_
          refine xi_goto C (tgt := 33) dX0_admit_68 rfl ?_
          refine xi_drop (L2 := [(0, .ref a_t), (1, .int x1), (2, .int y2), (3, .int (y3 + 1))]) [0, 1, 2, 3] rfl ?_
          exact ih y2 (y3 + 1) u8 h
  have B6 : ∀ (n : Nat) (y2 : Int32) (y3 : Int32) (t_worthOfGroup : Nat → Int64), fX0_admit_b6 t_worthOfPair x1 n y2 y3 t_worthOfGroup = some r → sW X l (zR 3) D 6 0 0 6 [(0, .ref a_t), (1, .int x1), (2, .int y2), (3, .int y3)] [] [(a_t, .inr (0, [.ref a_t_worthOfPair, .ref a_t_worthOfGroup])), (a_t_worthOfPair, .inl (cT 1, 100, .inr (.inl t_worthOfPair))), (a_t_worthOfGroup, .inl (cT 1, 1024, .inr (.inl t_worthOfGroup)))] := by
    intro n
    induction n with
    | zero =>
      intro y2 y3 t_worthOfGroup h
      exact zno ((fX0_admit_b6_0 _ _ _ _ _).symm.trans h)
    | succ n ih =>
      intro y2 y3 t_worthOfGroup h
      replace h := (fX0_admit_b6_s _ _ _ _ _ _).symm.trans h
      refine xi_iload_n C 3 dX0_admit_6 rfl ?_
      refine xi_iload_n C 2 dX0_admit_7 rfl ?_
      refine xi_icmp_ge C (tgt := 31) dX0_admit_8 rfl (fun c1 => ?_) (fun c1 => ?_)
      · replace h := (if_pos c1).symm.trans h
        refine xi_iconst C (v := 0) dX0_admit_31 rfl ?_
        refine xi_istore_n C [1, 2, 3, 0] (L2 := [(0, .ref a_t), (1, .int x1), (2, .int y2), (3, .int 0)]) dX0_admit_32 (Nat.le_of_ble_eq_true rfl) rfl ?_
        exact B33 FU y2 0 t_worthOfGroup h
      · replace h := (if_neg c1).symm.trans h
        refine xi_aload_n C 0 dX0_admit_11 rfl ?_
        refine xi_get C zkX0 1 0 zlX0_15 (by decide) rfl rfl dX0_admit_12 ?_
        refine xi_iload_n C 2 dX0_admit_15 rfl ?_
        refine xi_iload_n C 3 dX0_admit_16 rfl ?_
        refine xi_iadd C dX0_admit_17 ?_
        refine xi_aload_n C 0 dX0_admit_18 rfl ?_
        refine xi_get C zkX0 1 0 zlX0_15 (by decide) rfl rfl dX0_admit_19 ?_
        refine xi_iload_n C 3 dX0_admit_22 rfl ?_
        replace h := ig h
        obtain ⟨c11, h⟩ := h
        refine xi_lald C 2 rfl c11 dX0_admit_23 ?_
        replace h := ig h
        obtain ⟨c12, h⟩ := h
        refine xi_last C 2 rfl c12 dX0_admit_24 (ws2 := [(a_t, .inr (0, [.ref a_t_worthOfPair, .ref a_t_worthOfGroup])), (a_t_worthOfPair, .inl (cT 1, 100, .inr (.inl t_worthOfPair))), (a_t_worthOfGroup, .inl (cT 1, 1024, .inr (.inl (vp_updL t_worthOfGroup (y2 + y3).toNatClampNeg (t_worthOfGroup y3.toNatClampNeg)))))]) rfl ?_
        refine xi_iinc C (v := y3 + 1) 3 [1, 2, 3, 0] (L2 := [(0, .ref a_t), (1, .int x1), (2, .int y2), (3, .int (y3 + 1))]) dX0_admit_25 rfl rfl (Nat.le_of_ble_eq_true rfl) rfl ?_
        refine xi_goto C (tgt := 6) dX0_admit_28 rfl ?_
        exact ih y2 (y3 + 1) (vp_updL t_worthOfGroup (y2 + y3).toNatClampNeg (t_worthOfGroup y3.toNatClampNeg)) h
  refine xi_drop (L2 := [(0, .ref a_t), (1, .int x1)]) [0, 1] rfl ?_
  refine xi_iconst C (v := 1) dX0_admit_0 rfl ?_
  refine xi_iload_n C 1 dX0_admit_1 rfl ?_
  refine xi_ishl C dX0_admit_2 ?_
  refine xi_istore_n C [1, 2, 0] (L2 := [(0, .ref a_t), (1, .int x1), (2, .int (1 <<< (x1 &&& 31)))]) dX0_admit_3 (Nat.le_of_ble_eq_true rfl) rfl ?_
  refine xi_iconst C (v := 0) dX0_admit_4 rfl ?_
  refine xi_istore_n C [1, 2, 3, 0] (L2 := [(0, .ref a_t), (1, .int x1), (2, .int (1 <<< (x1 &&& 31))), (3, .int 0)]) dX0_admit_5 (Nat.le_of_ble_eq_true rfl) rfl ?_
  exact B6 FU (1 <<< (x1 &&& 31)) 0 t_worthOfGroup h
def fX0_find_b36 (p1_people : Int32) (t_worthOfPair : Nat → Int64) (t_worthOfGroup : Nat → Int64) : Option (Int32 × (Nat → Int64) × (Nat → Int64)) := gd ((1 <<< (p1_people &&& 31)) - 1) 1024 (some (((-(t_worthOfGroup ((1 <<< (p1_people &&& 31)) - 1).toNatClampNeg)) &&& 16777215).toInt32, t_worthOfPair, t_worthOfGroup))
def fX0_find_b15 (p1_people : Int32) : Nat → Int32 → (Nat → Int64) → (Nat → Int64) → Option (Int32 × (Nat → Int64) × (Nat → Int64))
  | 0, _, _, _ => none
  | n + 1, y4, t_worthOfPair, t_worthOfGroup => if p1_people ≤ y4 then fX0_find_b36 p1_people t_worthOfPair t_worthOfGroup else (fX0_admit t_worthOfPair t_worthOfGroup y4).bind (fun u7 => (fX0_find_b15 p1_people n) (y4 + 1) t_worthOfPair u7)
theorem fX0_find_b15_0 (p1_people : Int32) (y4 : Int32) (t_worthOfPair : Nat → Int64) (t_worthOfGroup : Nat → Int64) : fX0_find_b15 p1_people 0 y4 t_worthOfPair t_worthOfGroup = none := rfl
theorem fX0_find_b15_s (p1_people : Int32) (n : Nat) (y4 : Int32) (t_worthOfPair : Nat → Int64) (t_worthOfGroup : Nat → Int64) : fX0_find_b15 p1_people (n + 1) y4 t_worthOfPair t_worthOfGroup = (if p1_people ≤ y4 then fX0_find_b36 p1_people t_worthOfPair t_worthOfGroup else (fX0_admit t_worthOfPair t_worthOfGroup y4).bind (fun u7 => (fX0_find_b15 p1_people n) (y4 + 1) t_worthOfPair u7)) := rfl
def fX0_find (t_worthOfPair : Nat → Int64) (t_worthOfGroup : Nat → Int64) (p1_people : Int32) (p1_lineCount : Int32) (p1_first : Nat → Int32) (p1_second : Nat → Int32) (p1_cost : Nat → Int32) (p1_oneWay : Nat → Int32) (p3_pieces : Nat → Int32) (x2 : Int32) : Option (Int32 × (Nat → Int64) × (Nat → Int64)) := (fX0_rankPairs t_worthOfPair p1_lineCount p1_first p1_second p1_cost p1_oneWay p3_pieces x2).bind (fun u1 => if u1.1 = 0 then some (0, u1.2, t_worthOfGroup) else fX0_find_b15 p1_people FU 0 u1.2 t_worthOfGroup)
set_option maxRecDepth 100000 in
set_option maxHeartbeats 4000000 in
theorem kX0_find (l : Launch) (D : va_G) (cT : Nat → ClassId) (a_t : Nat) (a_t_worthOfPair : Nat) (a_t_worthOfGroup : Nat) (a_p1 : Nat) (a_p1_first : Nat) (a_p1_second : Nat) (a_p1_cost : Nat) (a_p1_oneWay : Nat) (a_p1_breaks : Nat) (a_p1_absences : Nat) (a_p3 : Nat) (a_p3_pieces : Nat) (t_worthOfPair : Nat → Int64) (t_worthOfGroup : Nat → Int64) (p1_people : Int32) (p1_lineCount : Int32) (p1_first : Nat → Int32) (p1_second : Nat → Int32) (p1_cost : Nat → Int32) (p1_oneWay : Nat → Int32) (p3_people : Int32) (p3_pieces : Nat → Int32) (x2 : Int32) (r : Int32 × (Nat → Int64) × (Nat → Int64)) (h : fX0_find t_worthOfPair t_worthOfGroup p1_people p1_lineCount p1_first p1_second p1_cost p1_oneWay p3_pieces x2 = some r) : sM l yX0_find cX0_find 6 (some .int) (zR 4) D cT [.ref a_t, .ref a_p1, .int x2, .ref a_p3] [(a_t, .inr (0, [.ref a_t_worthOfPair, .ref a_t_worthOfGroup])), (a_t_worthOfPair, .inl (cT 1, 100, .inr (.inl t_worthOfPair))), (a_t_worthOfGroup, .inl (cT 1, 1024, .inr (.inl t_worthOfGroup))), (a_p1, .inr (1, [.int p1_people, .int p1_lineCount, .ref a_p1_first, .ref a_p1_second, .ref a_p1_cost, .ref a_p1_oneWay, .ref a_p1_breaks, .ref a_p1_absences])), (a_p1_first, .inl (cT 0, 24, .inl p1_first)), (a_p1_second, .inl (cT 0, 24, .inl p1_second)), (a_p1_cost, .inl (cT 0, 24, .inl p1_cost)), (a_p1_oneWay, .inl (cT 3, 24, .inl p1_oneWay)), (a_p3, .inr (3, [.ref a_p3_pieces, .int p3_people])), (a_p3_pieces, .inl (cT 0, 10, .inl p3_pieces))] (some (.int r.1)) [(a_t, .inr (0, [.ref a_t_worthOfPair, .ref a_t_worthOfGroup])), (a_t_worthOfPair, .inl (cT 1, 100, .inr (.inl r.2.1))), (a_t_worthOfGroup, .inl (cT 1, 1024, .inr (.inl r.2.2))), (a_p1, .inr (1, [.int p1_people, .int p1_lineCount, .ref a_p1_first, .ref a_p1_second, .ref a_p1_cost, .ref a_p1_oneWay, .ref a_p1_breaks, .ref a_p1_absences])), (a_p1_first, .inl (cT 0, 24, .inl p1_first)), (a_p1_second, .inl (cT 0, 24, .inl p1_second)), (a_p1_cost, .inl (cT 0, 24, .inl p1_cost)), (a_p1_oneWay, .inl (cT 3, 24, .inl p1_oneWay)), (a_p3, .inr (3, [.ref a_p3_pieces, .int p3_people])), (a_p3_pieces, .inl (cT 0, 10, .inl p3_pieces))] := by
  refine sM_int rfl (Nat.le_of_ble_eq_true rfl) ?_
  intro X C hE
  have B36 : ∀ (t_worthOfPair : Nat → Int64) (t_worthOfGroup : Nat → Int64), fX0_find_b36 p1_people t_worthOfPair t_worthOfGroup = some r → sW X l (zR 4) D 6 0 0 36 [(0, .ref a_t), (1, .ref a_p1)] [] [(a_t, .inr (0, [.ref a_t_worthOfPair, .ref a_t_worthOfGroup])), (a_t_worthOfPair, .inl (cT 1, 100, .inr (.inl t_worthOfPair))), (a_t_worthOfGroup, .inl (cT 1, 1024, .inr (.inl t_worthOfGroup))), (a_p1, .inr (1, [.int p1_people, .int p1_lineCount, .ref a_p1_first, .ref a_p1_second, .ref a_p1_cost, .ref a_p1_oneWay, .ref a_p1_breaks, .ref a_p1_absences])), (a_p1_first, .inl (cT 0, 24, .inl p1_first)), (a_p1_second, .inl (cT 0, 24, .inl p1_second)), (a_p1_cost, .inl (cT 0, 24, .inl p1_cost)), (a_p1_oneWay, .inl (cT 3, 24, .inl p1_oneWay)), (a_p3, .inr (3, [.ref a_p3_pieces, .int p3_people])), (a_p3_pieces, .inl (cT 0, 10, .inl p3_pieces))] := by
    intro t_worthOfPair t_worthOfGroup h
    refine xi_aload_n C 0 dX0_find_36 rfl ?_
    refine xi_get C zkX0 1 0 zlX0_15 (by decide) rfl rfl dX0_find_37 ?_
    refine xi_iconst C (v := 1) dX0_find_40 rfl ?_
    refine xi_aload_n C 1 dX0_find_41 rfl ?_
    refine xi_get C zkX1 0 3 zlX0_22 (by decide) rfl rfl dX0_find_42 ?_
    refine xi_ishl C dX0_find_45 ?_
    refine xi_iconst C (v := 1) dX0_find_46 rfl ?_
    refine xi_isub C dX0_find_47 ?_
    replace h := ig h
    obtain ⟨c6, h⟩ := h
    refine xi_lald C 2 rfl c6 dX0_find_48 ?_
    refine xi_lstore C [1, 2, 0] (L2 := [(0, .ref a_t), (1, .ref a_p1), (4, .long (t_worthOfGroup ((1 <<< (p1_people &&& 31)) - 1).toNatClampNeg))]) dX0_find_49 (Nat.le_of_ble_eq_true rfl) rfl ?_
    refine xi_lload C 2 dX0_find_51 rfl ?_
    refine xi_lneg C dX0_find_53 ?_
    refine xi_ldc2 C (v := 16777215) zcoX0_32 dX0_find_54 ?_
    refine xi_land C dX0_find_57 ?_
    refine xi_l2i C dX0_find_58 ?_
    obtain rfl := Option.some.inj h
    exact hE _ _ _ dX0_find_59 rfl
  have B15 : ∀ (n : Nat) (y4 : Int32) (t_worthOfPair : Nat → Int64) (t_worthOfGroup : Nat → Int64), fX0_find_b15 p1_people n y4 t_worthOfPair t_worthOfGroup = some r → sW X l (zR 4) D 6 0 0 15 [(0, .ref a_t), (1, .ref a_p1), (4, .int y4)] [] [(a_t, .inr (0, [.ref a_t_worthOfPair, .ref a_t_worthOfGroup])), (a_t_worthOfPair, .inl (cT 1, 100, .inr (.inl t_worthOfPair))), (a_t_worthOfGroup, .inl (cT 1, 1024, .inr (.inl t_worthOfGroup))), (a_p1, .inr (1, [.int p1_people, .int p1_lineCount, .ref a_p1_first, .ref a_p1_second, .ref a_p1_cost, .ref a_p1_oneWay, .ref a_p1_breaks, .ref a_p1_absences])), (a_p1_first, .inl (cT 0, 24, .inl p1_first)), (a_p1_second, .inl (cT 0, 24, .inl p1_second)), (a_p1_cost, .inl (cT 0, 24, .inl p1_cost)), (a_p1_oneWay, .inl (cT 3, 24, .inl p1_oneWay)), (a_p3, .inr (3, [.ref a_p3_pieces, .int p3_people])), (a_p3_pieces, .inl (cT 0, 10, .inl p3_pieces))] := by
    intro n
    induction n with
    | zero =>
      intro y4 t_worthOfPair t_worthOfGroup h
      exact zno ((fX0_find_b15_0 _ _ _ _).symm.trans h)
    | succ n ih =>
      intro y4 t_worthOfPair t_worthOfGroup h
      replace h := (fX0_find_b15_s _ _ _ _ _).symm.trans h
      refine xi_iload C 2 dX0_find_15 rfl ?_
      refine xi_aload_n C 1 dX0_find_17 rfl ?_
      refine xi_get C zkX1 0 3 zlX0_22 (by decide) rfl rfl dX0_find_18 ?_
      refine xi_icmp_ge C (tgt := 36) dX0_find_21 rfl (fun c5 => ?_) (fun c5 => ?_)
      · replace h := (if_pos c5).symm.trans h
        refine xi_drop (L2 := [(0, .ref a_t), (1, .ref a_p1)]) [0, 1] rfl ?_
        exact B36 t_worthOfPair t_worthOfGroup h
      · replace h := (if_neg c5).symm.trans h
        refine xi_aload_n C 0 dX0_find_24 rfl ?_
        refine xi_iload C 2 dX0_find_25 rfl ?_
        replace h := ob h
        obtain ⟨u7, hu8, h⟩ := h
        refine xi_callV C (kX0_admit l D cT a_t a_t_worthOfPair a_t_worthOfGroup t_worthOfPair t_worthOfGroup y4 u7 hu8) zcX0_admit zmX0_28 ziX0_admit (zr rfl rfl) z00 rfl [0, 1, 2] rfl rfl rfl [some 0, some 1, some 2, none, none, none, none, none, none, none] (by decide +kernel) (ws2 := [(a_t, .inr (0, [.ref a_t_worthOfPair, .ref a_t_worthOfGroup])), (a_t_worthOfPair, .inl (cT 1, 100, .inr (.inl t_worthOfPair))), (a_t_worthOfGroup, .inl (cT 1, 1024, .inr (.inl u7))), (a_p1, .inr (1, [.int p1_people, .int p1_lineCount, .ref a_p1_first, .ref a_p1_second, .ref a_p1_cost, .ref a_p1_oneWay, .ref a_p1_breaks, .ref a_p1_absences])), (a_p1_first, .inl (cT 0, 24, .inl p1_first)), (a_p1_second, .inl (cT 0, 24, .inl p1_second)), (a_p1_cost, .inl (cT 0, 24, .inl p1_cost)), (a_p1_oneWay, .inl (cT 3, 24, .inl p1_oneWay)), (a_p3, .inr (3, [.ref a_p3_pieces, .int p3_people])), (a_p3_pieces, .inl (cT 0, 10, .inl p3_pieces))]) rfl zkX0.1 (qr := 0) rfl rfl (Nat.le_of_ble_eq_true rfl) dX0_find_27 (fun z9 => ?_)
        refine xi_iinc C (v := y4 + 1) 2 [1, 2, 0] (L2 := [(0, .ref a_t), (1, .ref a_p1), (4, .int (y4 + 1))]) dX0_find_30 rfl rfl (Nat.le_of_ble_eq_true rfl) rfl ?_
        refine xi_goto C (tgt := 15) dX0_find_33 rfl ?_
        exact ih (y4 + 1) t_worthOfPair u7 h
  refine xi_drop (L2 := [(0, .ref a_t), (1, .ref a_p1), (2, .int x2), (3, .ref a_p3)]) [0, 1, 2, 3] rfl ?_
  refine xi_aload_n C 0 dX0_find_0 rfl ?_
  refine xi_aload_n C 1 dX0_find_1 rfl ?_
  refine xi_iload_n C 2 dX0_find_2 rfl ?_
  refine xi_aload_n C 3 dX0_find_3 rfl ?_
  replace h := ob h
  obtain ⟨u1, hu2, h⟩ := h
  refine xi_callV C (kX0_rankPairs l D cT a_t a_t_worthOfPair a_t_worthOfGroup a_p1 a_p1_first a_p1_second a_p1_cost a_p1_oneWay a_p1_breaks a_p1_absences a_p3 a_p3_pieces t_worthOfPair p1_people p1_lineCount p1_first p1_second p1_cost p1_oneWay p3_people p3_pieces x2 u1 hu2) zcX0_rankPairs zmX0_18 ziX0_rankPairs (zr rfl rfl) z00 rfl [0, 1, 3, 4, 5, 6, 7, 8, 9] rfl rfl rfl [some 0, some 1, none, some 2, some 3, some 4, some 5, some 6, some 7, some 8] (by decide +kernel) (ws2 := [(a_t, .inr (0, [.ref a_t_worthOfPair, .ref a_t_worthOfGroup])), (a_t_worthOfPair, .inl (cT 1, 100, .inr (.inl u1.2))), (a_t_worthOfGroup, .inl (cT 1, 1024, .inr (.inl t_worthOfGroup))), (a_p1, .inr (1, [.int p1_people, .int p1_lineCount, .ref a_p1_first, .ref a_p1_second, .ref a_p1_cost, .ref a_p1_oneWay, .ref a_p1_breaks, .ref a_p1_absences])), (a_p1_first, .inl (cT 0, 24, .inl p1_first)), (a_p1_second, .inl (cT 0, 24, .inl p1_second)), (a_p1_cost, .inl (cT 0, 24, .inl p1_cost)), (a_p1_oneWay, .inl (cT 3, 24, .inl p1_oneWay)), (a_p3, .inr (3, [.ref a_p3_pieces, .int p3_people])), (a_p3_pieces, .inl (cT 0, 10, .inl p3_pieces))]) rfl zkX0.1 (qr := 0) rfl rfl (Nat.le_of_ble_eq_true rfl) dX0_find_4 (fun z3 => ?_)
  refine xi_if_ne C (tgt := 12) dX0_find_7 rfl (fun c4 => ?_) (fun c4 => ?_)
  · replace h := (if_neg c4).symm.trans h
    refine xi_iconst C (v := 0) dX0_find_12 rfl ?_
    refine xi_istore C [1, 2, 3, 4, 0] (L2 := [(0, .ref a_t), (1, .ref a_p1), (2, .int x2), (3, .ref a_p3), (4, .int 0)]) dX0_find_13 (Nat.le_of_ble_eq_true rfl) rfl ?_
    refine xi_drop (L2 := [(0, .ref a_t), (1, .ref a_p1), (4, .int 0)]) [0, 1, 4] rfl ?_
    exact B15 FU 0 u1.2 t_worthOfGroup h
  · replace h := (if_pos c4).symm.trans h
    refine xi_iconst C (v := 0) dX0_find_10 rfl ?_
    obtain rfl := Option.some.inj h
    exact hE _ _ _ dX0_find_11 rfl
def fX7_copyFrom (t_news_pieces : Nat → Int32) (p1_arrangedLines : Int32) (p1_cutLines : Int32) (p1_rounds : Int32) (p1_calls : Int32) (p1_latest : Option Nat) (p1_news_people : Int32) (p1_news_pieces : Nat → Int32) : Option (Int32 × Int32 × Int32 × Int32 × (Option Nat) × Int32 × (Nat → Int32)) := (fX3_copyFrom t_news_pieces p1_news_people p1_news_pieces).bind (fun u1 => some (p1_arrangedLines, p1_cutLines, p1_rounds, p1_calls, p1_latest, u1.1, u1.2))
set_option maxRecDepth 100000 in
set_option maxHeartbeats 4000000 in
theorem kX7_copyFrom (l : Launch) (D : va_G) (cT : Nat → ClassId) (a_t : Nat) (a_t_news : Nat) (a_t_news_pieces : Nat) (a_p1 : Nat) (a_p1_news : Nat) (a_p1_news_pieces : Nat) (t_arrangedLines : Int32) (t_cutLines : Int32) (t_rounds : Int32) (t_calls : Int32) (t_latest : Option Nat) (t_news_people : Int32) (t_news_pieces : Nat → Int32) (p1_arrangedLines : Int32) (p1_cutLines : Int32) (p1_rounds : Int32) (p1_calls : Int32) (p1_latest : Option Nat) (p1_news_people : Int32) (p1_news_pieces : Nat → Int32) (r : Int32 × Int32 × Int32 × Int32 × (Option Nat) × Int32 × (Nat → Int32)) (h : fX7_copyFrom t_news_pieces p1_arrangedLines p1_cutLines p1_rounds p1_calls p1_latest p1_news_people p1_news_pieces = some r) : sM l yX7_copyFrom cX7_copyFrom 2 none (zR 2) D cT [.ref a_t, .ref a_p1] [(a_t, .inr (7, [.ref a_t_news, .int t_arrangedLines, .int t_cutLines, .int t_rounds, .int t_calls, va_rf t_latest])), (a_t_news, .inr (3, [.ref a_t_news_pieces, .int t_news_people])), (a_t_news_pieces, .inl (cT 0, 10, .inl t_news_pieces)), (a_p1, .inr (7, [.ref a_p1_news, .int p1_arrangedLines, .int p1_cutLines, .int p1_rounds, .int p1_calls, va_rf p1_latest])), (a_p1_news, .inr (3, [.ref a_p1_news_pieces, .int p1_news_people])), (a_p1_news_pieces, .inl (cT 0, 10, .inl p1_news_pieces))] none [(a_t, .inr (7, [.ref a_t_news, .int r.1, .int r.2.1, .int r.2.2.1, .int r.2.2.2.1, va_rf r.2.2.2.2.1])), (a_t_news, .inr (3, [.ref a_t_news_pieces, .int r.2.2.2.2.2.1])), (a_t_news_pieces, .inl (cT 0, 10, .inl r.2.2.2.2.2.2)), (a_p1, .inr (7, [.ref a_p1_news, .int p1_arrangedLines, .int p1_cutLines, .int p1_rounds, .int p1_calls, va_rf p1_latest])), (a_p1_news, .inr (3, [.ref a_p1_news_pieces, .int p1_news_people])), (a_p1_news_pieces, .inl (cT 0, 10, .inl p1_news_pieces))] := by
  refine sM_void rfl (Nat.le_of_ble_eq_true rfl) ?_
  intro X C hE
  refine xi_drop (L2 := [(0, .ref a_t), (1, .ref a_p1)]) [0, 1] rfl ?_
  refine xi_aload_n C 0 dX7_copyFrom_0 rfl ?_
  refine xi_get C zkX7 0 0 zlX7_12 (by decide) rfl rfl dX7_copyFrom_1 ?_
  refine xi_aload_n C 1 dX7_copyFrom_4 rfl ?_
  refine xi_get C zkX7 0 3 zlX7_12 (by decide) rfl rfl dX7_copyFrom_5 ?_
  replace h := ob h
  obtain ⟨u1, hu2, h⟩ := h
  refine xi_callV C (kX3_copyFrom l D cT a_t_news a_t_news_pieces a_p1_news a_p1_news_pieces t_news_people t_news_pieces p1_news_people p1_news_pieces u1 hu2) zcX3_copyFrom zmX7_39 ziX3_copyFrom (zr rfl rfl) z00 rfl [1, 2, 4, 5] rfl rfl rfl [none, some 0, some 1, none, some 2, some 3] (by decide +kernel) (ws2 := [(a_t, .inr (7, [.ref a_t_news, .int t_arrangedLines, .int t_cutLines, .int t_rounds, .int t_calls, va_rf t_latest])), (a_t_news, .inr (3, [.ref a_t_news_pieces, .int u1.1])), (a_t_news_pieces, .inl (cT 0, 10, .inl u1.2)), (a_p1, .inr (7, [.ref a_p1_news, .int p1_arrangedLines, .int p1_cutLines, .int p1_rounds, .int p1_calls, va_rf p1_latest])), (a_p1_news, .inr (3, [.ref a_p1_news_pieces, .int p1_news_people])), (a_p1_news_pieces, .inl (cT 0, 10, .inl p1_news_pieces))]) rfl zkX3.1 (qr := 1) rfl rfl (Nat.le_of_ble_eq_true rfl) dX7_copyFrom_8 (fun z3 => ?_)
  refine xi_aload_n C 0 dX7_copyFrom_11 rfl ?_
  refine xi_aload_n C 1 dX7_copyFrom_12 rfl ?_
  refine xi_get C zkX7 1 3 zlX7_18 (by decide) rfl rfl dX7_copyFrom_13 ?_
  refine xi_put C zkX7 1 0 zlX7_18 (by decide) rfl rfl rfl rfl (Nat.le_of_ble_eq_true rfl) dX7_copyFrom_16 (ws2 := [(a_t, .inr (7, [.ref a_t_news, .int p1_arrangedLines, .int t_cutLines, .int t_rounds, .int t_calls, va_rf t_latest])), (a_t_news, .inr (3, [.ref a_t_news_pieces, .int u1.1])), (a_t_news_pieces, .inl (cT 0, 10, .inl u1.2)), (a_p1, .inr (7, [.ref a_p1_news, .int p1_arrangedLines, .int p1_cutLines, .int p1_rounds, .int p1_calls, va_rf p1_latest])), (a_p1_news, .inr (3, [.ref a_p1_news_pieces, .int p1_news_people])), (a_p1_news_pieces, .inl (cT 0, 10, .inl p1_news_pieces))]) rfl ?_
  refine xi_aload_n C 0 dX7_copyFrom_19 rfl ?_
  refine xi_aload_n C 1 dX7_copyFrom_20 rfl ?_
  refine xi_get C zkX7 2 3 zlX7_22 (by decide) rfl rfl dX7_copyFrom_21 ?_
  refine xi_put C zkX7 2 0 zlX7_22 (by decide) rfl rfl rfl rfl (Nat.le_of_ble_eq_true rfl) dX7_copyFrom_24 (ws2 := [(a_t, .inr (7, [.ref a_t_news, .int p1_arrangedLines, .int p1_cutLines, .int t_rounds, .int t_calls, va_rf t_latest])), (a_t_news, .inr (3, [.ref a_t_news_pieces, .int u1.1])), (a_t_news_pieces, .inl (cT 0, 10, .inl u1.2)), (a_p1, .inr (7, [.ref a_p1_news, .int p1_arrangedLines, .int p1_cutLines, .int p1_rounds, .int p1_calls, va_rf p1_latest])), (a_p1_news, .inr (3, [.ref a_p1_news_pieces, .int p1_news_people])), (a_p1_news_pieces, .inl (cT 0, 10, .inl p1_news_pieces))]) rfl ?_
  refine xi_aload_n C 0 dX7_copyFrom_27 rfl ?_
  refine xi_aload_n C 1 dX7_copyFrom_28 rfl ?_
  refine xi_get C zkX7 3 3 zlX7_25 (by decide) rfl rfl dX7_copyFrom_29 ?_
  refine xi_put C zkX7 3 0 zlX7_25 (by decide) rfl rfl rfl rfl (Nat.le_of_ble_eq_true rfl) dX7_copyFrom_32 (ws2 := [(a_t, .inr (7, [.ref a_t_news, .int p1_arrangedLines, .int p1_cutLines, .int p1_rounds, .int t_calls, va_rf t_latest])), (a_t_news, .inr (3, [.ref a_t_news_pieces, .int u1.1])), (a_t_news_pieces, .inl (cT 0, 10, .inl u1.2)), (a_p1, .inr (7, [.ref a_p1_news, .int p1_arrangedLines, .int p1_cutLines, .int p1_rounds, .int p1_calls, va_rf p1_latest])), (a_p1_news, .inr (3, [.ref a_p1_news_pieces, .int p1_news_people])), (a_p1_news_pieces, .inl (cT 0, 10, .inl p1_news_pieces))]) rfl ?_
  refine xi_aload_n C 0 dX7_copyFrom_35 rfl ?_
  refine xi_aload_n C 1 dX7_copyFrom_36 rfl ?_
  refine xi_get C zkX7 4 3 zlX7_28 (by decide) rfl rfl dX7_copyFrom_37 ?_
  refine xi_put C zkX7 4 0 zlX7_28 (by decide) rfl rfl rfl rfl (Nat.le_of_ble_eq_true rfl) dX7_copyFrom_40 (ws2 := [(a_t, .inr (7, [.ref a_t_news, .int p1_arrangedLines, .int p1_cutLines, .int p1_rounds, .int p1_calls, va_rf t_latest])), (a_t_news, .inr (3, [.ref a_t_news_pieces, .int u1.1])), (a_t_news_pieces, .inl (cT 0, 10, .inl u1.2)), (a_p1, .inr (7, [.ref a_p1_news, .int p1_arrangedLines, .int p1_cutLines, .int p1_rounds, .int p1_calls, va_rf p1_latest])), (a_p1_news, .inr (3, [.ref a_p1_news_pieces, .int p1_news_people])), (a_p1_news_pieces, .inl (cT 0, 10, .inl p1_news_pieces))]) rfl ?_
  refine xi_aload_n C 0 dX7_copyFrom_43 rfl ?_
  refine xi_aload_n C 1 dX7_copyFrom_44 rfl ?_
  refine xi_get C zkX7 5 3 zlX7_31 (by decide) rfl rfl dX7_copyFrom_45 ?_
  refine xi_put C zkX7 5 0 zlX7_31 (by decide) rfl rfl (zrfn _) (zrff _) (Nat.le_of_ble_eq_true rfl) dX7_copyFrom_48 (ws2 := [(a_t, .inr (7, [.ref a_t_news, .int p1_arrangedLines, .int p1_cutLines, .int p1_rounds, .int p1_calls, va_rf p1_latest])), (a_t_news, .inr (3, [.ref a_t_news_pieces, .int u1.1])), (a_t_news_pieces, .inl (cT 0, 10, .inl u1.2)), (a_p1, .inr (7, [.ref a_p1_news, .int p1_arrangedLines, .int p1_cutLines, .int p1_rounds, .int p1_calls, va_rf p1_latest])), (a_p1_news, .inr (3, [.ref a_p1_news_pieces, .int p1_news_people])), (a_p1_news_pieces, .inl (cT 0, 10, .inl p1_news_pieces))]) rfl ?_
  obtain rfl := Option.some.inj h
  exact hE _ _ dX7_copyFrom_51 rfl
def fX4_make_b26 (p1_people : Int32) (p1_lineCount : Int32) (p1_first : Nat → Int32) (p1_second : Nat → Int32) (p1_cost : Nat → Int32) (p1_oneWay : Nat → Int32) (p1_breaks_count : Int32) (p1_breaks_whose : Nat → Int32) (p1_breaks_from : Nat → Int32) (p1_breaks_until : Nat → Int32) (p1_absences_count : Int32) (p1_absences_whose : Nat → Int32) (p1_absences_from : Nat → Int32) (p1_absences_until : Nat → Int32) (p2_cutLines : Int32) (p2_rounds : Int32) : Nat → Int32 → Int32 → Int32 → Int32 → (Nat → Int32) → (Nat → Int64) → (Nat → Int64) → Option (Int32 × Int32 × Int32 × Int32 × (Nat → Int32) × (Nat → Int64) × (Nat → Int64))
  | 0, _, _, _, _, _, _, _ => none
  | n + 1, t_rounds, t_calls, t_cost, t_news_people, t_news_pieces, p3_worthOfPair, p3_worthOfGroup => if 40 ≤ t_rounds then some (t_rounds, t_calls, t_cost, t_news_people, t_news_pieces, p3_worthOfPair, p3_worthOfGroup) else (fX3_missingPieces t_news_people t_news_pieces).bind (fun u5 => if u5 ≤ 0 then some (t_rounds, t_calls, t_cost, t_news_people, t_news_pieces, p3_worthOfPair, p3_worthOfGroup) else (fX1_openLines p1_lineCount p1_first p1_second p1_breaks_count p1_breaks_whose p1_breaks_from p1_breaks_until p1_absences_count p1_absences_whose p1_absences_from p1_absences_until (p2_rounds + (t_rounds + 1))).bind (fun u9 => (fX0_find p3_worthOfPair p3_worthOfGroup p1_people p1_lineCount p1_first p1_second p1_cost p1_oneWay t_news_pieces (u9 &&& (p2_cutLines ^^^ (-1)))).bind (fun u12 => (fX1_makeCalls p1_lineCount p1_first p1_second p1_oneWay t_news_pieces u12.1).bind (fun u15 => (fX1_costOf p1_lineCount p1_cost u12.1).bind (fun u21 => (fX4_make_b26 p1_people p1_lineCount p1_first p1_second p1_cost p1_oneWay p1_breaks_count p1_breaks_whose p1_breaks_from p1_breaks_until p1_absences_count p1_absences_whose p1_absences_from p1_absences_until p2_cutLines p2_rounds n) (t_rounds + 1) (t_calls + (fJ6_bitCount_0f7a4 u12.1)) (t_cost + u21) t_news_people u15 u12.2.1 u12.2.2)))))
theorem fX4_make_b26_0 (p1_people : Int32) (p1_lineCount : Int32) (p1_first : Nat → Int32) (p1_second : Nat → Int32) (p1_cost : Nat → Int32) (p1_oneWay : Nat → Int32) (p1_breaks_count : Int32) (p1_breaks_whose : Nat → Int32) (p1_breaks_from : Nat → Int32) (p1_breaks_until : Nat → Int32) (p1_absences_count : Int32) (p1_absences_whose : Nat → Int32) (p1_absences_from : Nat → Int32) (p1_absences_until : Nat → Int32) (p2_cutLines : Int32) (p2_rounds : Int32) (t_rounds : Int32) (t_calls : Int32) (t_cost : Int32) (t_news_people : Int32) (t_news_pieces : Nat → Int32) (p3_worthOfPair : Nat → Int64) (p3_worthOfGroup : Nat → Int64) : fX4_make_b26 p1_people p1_lineCount p1_first p1_second p1_cost p1_oneWay p1_breaks_count p1_breaks_whose p1_breaks_from p1_breaks_until p1_absences_count p1_absences_whose p1_absences_from p1_absences_until p2_cutLines p2_rounds 0 t_rounds t_calls t_cost t_news_people t_news_pieces p3_worthOfPair p3_worthOfGroup = none := rfl
theorem fX4_make_b26_s (p1_people : Int32) (p1_lineCount : Int32) (p1_first : Nat → Int32) (p1_second : Nat → Int32) (p1_cost : Nat → Int32) (p1_oneWay : Nat → Int32) (p1_breaks_count : Int32) (p1_breaks_whose : Nat → Int32) (p1_breaks_from : Nat → Int32) (p1_breaks_until : Nat → Int32) (p1_absences_count : Int32) (p1_absences_whose : Nat → Int32) (p1_absences_from : Nat → Int32) (p1_absences_until : Nat → Int32) (p2_cutLines : Int32) (p2_rounds : Int32) (n : Nat) (t_rounds : Int32) (t_calls : Int32) (t_cost : Int32) (t_news_people : Int32) (t_news_pieces : Nat → Int32) (p3_worthOfPair : Nat → Int64) (p3_worthOfGroup : Nat → Int64) : fX4_make_b26 p1_people p1_lineCount p1_first p1_second p1_cost p1_oneWay p1_breaks_count p1_breaks_whose p1_breaks_from p1_breaks_until p1_absences_count p1_absences_whose p1_absences_from p1_absences_until p2_cutLines p2_rounds (n + 1) t_rounds t_calls t_cost t_news_people t_news_pieces p3_worthOfPair p3_worthOfGroup = (if 40 ≤ t_rounds then some (t_rounds, t_calls, t_cost, t_news_people, t_news_pieces, p3_worthOfPair, p3_worthOfGroup) else (fX3_missingPieces t_news_people t_news_pieces).bind (fun u5 => if u5 ≤ 0 then some (t_rounds, t_calls, t_cost, t_news_people, t_news_pieces, p3_worthOfPair, p3_worthOfGroup) else (fX1_openLines p1_lineCount p1_first p1_second p1_breaks_count p1_breaks_whose p1_breaks_from p1_breaks_until p1_absences_count p1_absences_whose p1_absences_from p1_absences_until (p2_rounds + (t_rounds + 1))).bind (fun u9 => (fX0_find p3_worthOfPair p3_worthOfGroup p1_people p1_lineCount p1_first p1_second p1_cost p1_oneWay t_news_pieces (u9 &&& (p2_cutLines ^^^ (-1)))).bind (fun u12 => (fX1_makeCalls p1_lineCount p1_first p1_second p1_oneWay t_news_pieces u12.1).bind (fun u15 => (fX1_costOf p1_lineCount p1_cost u12.1).bind (fun u21 => (fX4_make_b26 p1_people p1_lineCount p1_first p1_second p1_cost p1_oneWay p1_breaks_count p1_breaks_whose p1_breaks_from p1_breaks_until p1_absences_count p1_absences_whose p1_absences_from p1_absences_until p2_cutLines p2_rounds n) (t_rounds + 1) (t_calls + (fJ6_bitCount_0f7a4 u12.1)) (t_cost + u21) t_news_people u15 u12.2.1 u12.2.2)))))) := rfl
def fX4_make (t_news_pieces : Nat → Int32) (p1_people : Int32) (p1_lineCount : Int32) (p1_first : Nat → Int32) (p1_second : Nat → Int32) (p1_cost : Nat → Int32) (p1_oneWay : Nat → Int32) (p1_breaks_count : Int32) (p1_breaks_whose : Nat → Int32) (p1_breaks_from : Nat → Int32) (p1_breaks_until : Nat → Int32) (p1_absences_count : Int32) (p1_absences_whose : Nat → Int32) (p1_absences_from : Nat → Int32) (p1_absences_until : Nat → Int32) (p2_cutLines : Int32) (p2_rounds : Int32) (p2_news_people : Int32) (p2_news_pieces : Nat → Int32) (p3_worthOfPair : Nat → Int64) (p3_worthOfGroup : Nat → Int64) : Option (Int32 × Int32 × Int32 × Int32 × (Nat → Int32) × (Nat → Int64) × (Nat → Int64)) := (fX3_copyFrom t_news_pieces p2_news_people p2_news_pieces).bind (fun u1 => fX4_make_b26 p1_people p1_lineCount p1_first p1_second p1_cost p1_oneWay p1_breaks_count p1_breaks_whose p1_breaks_from p1_breaks_until p1_absences_count p1_absences_whose p1_absences_from p1_absences_until p2_cutLines p2_rounds FU 0 0 0 u1.1 u1.2 p3_worthOfPair p3_worthOfGroup)
set_option maxRecDepth 100000 in
set_option maxHeartbeats 4000000 in
theorem kX4_make (l : Launch) (D : va_G) (cT : Nat → ClassId) (a_t : Nat) (a_t_news : Nat) (a_t_news_pieces : Nat) (a_p1 : Nat) (a_p1_first : Nat) (a_p1_second : Nat) (a_p1_cost : Nat) (a_p1_oneWay : Nat) (a_p1_breaks : Nat) (a_p1_absences : Nat) (a_p1_breaks_whose : Nat) (a_p1_breaks_from : Nat) (a_p1_breaks_until : Nat) (a_p1_absences_whose : Nat) (a_p1_absences_from : Nat) (a_p1_absences_until : Nat) (a_p2 : Nat) (a_p2_news : Nat) (a_p2_news_pieces : Nat) (a_p3 : Nat) (a_p3_worthOfPair : Nat) (a_p3_worthOfGroup : Nat) (t_rounds : Int32) (t_calls : Int32) (t_cost : Int32) (t_news_people : Int32) (t_news_pieces : Nat → Int32) (p1_people : Int32) (p1_lineCount : Int32) (p1_first : Nat → Int32) (p1_second : Nat → Int32) (p1_cost : Nat → Int32) (p1_oneWay : Nat → Int32) (p1_breaks_count : Int32) (p1_breaks_whose : Nat → Int32) (p1_breaks_from : Nat → Int32) (p1_breaks_until : Nat → Int32) (p1_absences_count : Int32) (p1_absences_whose : Nat → Int32) (p1_absences_from : Nat → Int32) (p1_absences_until : Nat → Int32) (p2_arrangedLines : Int32) (p2_cutLines : Int32) (p2_rounds : Int32) (p2_calls : Int32) (p2_latest : Option Nat) (p2_news_people : Int32) (p2_news_pieces : Nat → Int32) (p3_worthOfPair : Nat → Int64) (p3_worthOfGroup : Nat → Int64) (r : Int32 × Int32 × Int32 × Int32 × (Nat → Int32) × (Nat → Int64) × (Nat → Int64)) (h : fX4_make t_news_pieces p1_people p1_lineCount p1_first p1_second p1_cost p1_oneWay p1_breaks_count p1_breaks_whose p1_breaks_from p1_breaks_until p1_absences_count p1_absences_whose p1_absences_from p1_absences_until p2_cutLines p2_rounds p2_news_people p2_news_pieces p3_worthOfPair p3_worthOfGroup = some r) : sM l yX4_make cX4_make 6 none (zR 5) D cT [.ref a_t, .ref a_p1, .ref a_p2, .ref a_p3] [(a_t, .inr (4, [.ref a_t_news, .int t_rounds, .int t_calls, .int t_cost])), (a_t_news, .inr (3, [.ref a_t_news_pieces, .int t_news_people])), (a_t_news_pieces, .inl (cT 0, 10, .inl t_news_pieces)), (a_p1, .inr (1, [.int p1_people, .int p1_lineCount, .ref a_p1_first, .ref a_p1_second, .ref a_p1_cost, .ref a_p1_oneWay, .ref a_p1_breaks, .ref a_p1_absences])), (a_p1_first, .inl (cT 0, 24, .inl p1_first)), (a_p1_second, .inl (cT 0, 24, .inl p1_second)), (a_p1_cost, .inl (cT 0, 24, .inl p1_cost)), (a_p1_oneWay, .inl (cT 3, 24, .inl p1_oneWay)), (a_p1_breaks, .inr (8, [.ref a_p1_breaks_whose, .ref a_p1_breaks_from, .ref a_p1_breaks_until, .int p1_breaks_count])), (a_p1_breaks_whose, .inl (cT 0, 12, .inl p1_breaks_whose)), (a_p1_breaks_from, .inl (cT 0, 12, .inl p1_breaks_from)), (a_p1_breaks_until, .inl (cT 0, 12, .inl p1_breaks_until)), (a_p1_absences, .inr (8, [.ref a_p1_absences_whose, .ref a_p1_absences_from, .ref a_p1_absences_until, .int p1_absences_count])), (a_p1_absences_whose, .inl (cT 0, 12, .inl p1_absences_whose)), (a_p1_absences_from, .inl (cT 0, 12, .inl p1_absences_from)), (a_p1_absences_until, .inl (cT 0, 12, .inl p1_absences_until)), (a_p2, .inr (7, [.ref a_p2_news, .int p2_arrangedLines, .int p2_cutLines, .int p2_rounds, .int p2_calls, va_rf p2_latest])), (a_p2_news, .inr (3, [.ref a_p2_news_pieces, .int p2_news_people])), (a_p2_news_pieces, .inl (cT 0, 10, .inl p2_news_pieces)), (a_p3, .inr (0, [.ref a_p3_worthOfPair, .ref a_p3_worthOfGroup])), (a_p3_worthOfPair, .inl (cT 1, 100, .inr (.inl p3_worthOfPair))), (a_p3_worthOfGroup, .inl (cT 1, 1024, .inr (.inl p3_worthOfGroup)))] none [(a_t, .inr (4, [.ref a_t_news, .int r.1, .int r.2.1, .int r.2.2.1])), (a_t_news, .inr (3, [.ref a_t_news_pieces, .int r.2.2.2.1])), (a_t_news_pieces, .inl (cT 0, 10, .inl r.2.2.2.2.1)), (a_p1, .inr (1, [.int p1_people, .int p1_lineCount, .ref a_p1_first, .ref a_p1_second, .ref a_p1_cost, .ref a_p1_oneWay, .ref a_p1_breaks, .ref a_p1_absences])), (a_p1_first, .inl (cT 0, 24, .inl p1_first)), (a_p1_second, .inl (cT 0, 24, .inl p1_second)), (a_p1_cost, .inl (cT 0, 24, .inl p1_cost)), (a_p1_oneWay, .inl (cT 3, 24, .inl p1_oneWay)), (a_p1_breaks, .inr (8, [.ref a_p1_breaks_whose, .ref a_p1_breaks_from, .ref a_p1_breaks_until, .int p1_breaks_count])), (a_p1_breaks_whose, .inl (cT 0, 12, .inl p1_breaks_whose)), (a_p1_breaks_from, .inl (cT 0, 12, .inl p1_breaks_from)), (a_p1_breaks_until, .inl (cT 0, 12, .inl p1_breaks_until)), (a_p1_absences, .inr (8, [.ref a_p1_absences_whose, .ref a_p1_absences_from, .ref a_p1_absences_until, .int p1_absences_count])), (a_p1_absences_whose, .inl (cT 0, 12, .inl p1_absences_whose)), (a_p1_absences_from, .inl (cT 0, 12, .inl p1_absences_from)), (a_p1_absences_until, .inl (cT 0, 12, .inl p1_absences_until)), (a_p2, .inr (7, [.ref a_p2_news, .int p2_arrangedLines, .int p2_cutLines, .int p2_rounds, .int p2_calls, va_rf p2_latest])), (a_p2_news, .inr (3, [.ref a_p2_news_pieces, .int p2_news_people])), (a_p2_news_pieces, .inl (cT 0, 10, .inl p2_news_pieces)), (a_p3, .inr (0, [.ref a_p3_worthOfPair, .ref a_p3_worthOfGroup])), (a_p3_worthOfPair, .inl (cT 1, 100, .inr (.inl r.2.2.2.2.2.1))), (a_p3_worthOfGroup, .inl (cT 1, 1024, .inr (.inl r.2.2.2.2.2.2)))] := by
  refine sM_void rfl (Nat.le_of_ble_eq_true rfl) ?_
  intro X C hE
  have B26 : ∀ (n : Nat) (t_rounds : Int32) (t_calls : Int32) (t_cost : Int32) (t_news_people : Int32) (t_news_pieces : Nat → Int32) (p3_worthOfPair : Nat → Int64) (p3_worthOfGroup : Nat → Int64), fX4_make_b26 p1_people p1_lineCount p1_first p1_second p1_cost p1_oneWay p1_breaks_count p1_breaks_whose p1_breaks_from p1_breaks_until p1_absences_count p1_absences_whose p1_absences_from p1_absences_until p2_cutLines p2_rounds n t_rounds t_calls t_cost t_news_people t_news_pieces p3_worthOfPair p3_worthOfGroup = some r → sW X l (zR 5) D 6 0 0 26 [(0, .ref a_t), (1, .ref a_p1), (2, .ref a_p2), (3, .ref a_p3)] [] [(a_t, .inr (4, [.ref a_t_news, .int t_rounds, .int t_calls, .int t_cost])), (a_t_news, .inr (3, [.ref a_t_news_pieces, .int t_news_people])), (a_t_news_pieces, .inl (cT 0, 10, .inl t_news_pieces)), (a_p1, .inr (1, [.int p1_people, .int p1_lineCount, .ref a_p1_first, .ref a_p1_second, .ref a_p1_cost, .ref a_p1_oneWay, .ref a_p1_breaks, .ref a_p1_absences])), (a_p1_first, .inl (cT 0, 24, .inl p1_first)), (a_p1_second, .inl (cT 0, 24, .inl p1_second)), (a_p1_cost, .inl (cT 0, 24, .inl p1_cost)), (a_p1_oneWay, .inl (cT 3, 24, .inl p1_oneWay)), (a_p1_breaks, .inr (8, [.ref a_p1_breaks_whose, .ref a_p1_breaks_from, .ref a_p1_breaks_until, .int p1_breaks_count])), (a_p1_breaks_whose, .inl (cT 0, 12, .inl p1_breaks_whose)), (a_p1_breaks_from, .inl (cT 0, 12, .inl p1_breaks_from)), (a_p1_breaks_until, .inl (cT 0, 12, .inl p1_breaks_until)), (a_p1_absences, .inr (8, [.ref a_p1_absences_whose, .ref a_p1_absences_from, .ref a_p1_absences_until, .int p1_absences_count])), (a_p1_absences_whose, .inl (cT 0, 12, .inl p1_absences_whose)), (a_p1_absences_from, .inl (cT 0, 12, .inl p1_absences_from)), (a_p1_absences_until, .inl (cT 0, 12, .inl p1_absences_until)), (a_p2, .inr (7, [.ref a_p2_news, .int p2_arrangedLines, .int p2_cutLines, .int p2_rounds, .int p2_calls, va_rf p2_latest])), (a_p2_news, .inr (3, [.ref a_p2_news_pieces, .int p2_news_people])), (a_p2_news_pieces, .inl (cT 0, 10, .inl p2_news_pieces)), (a_p3, .inr (0, [.ref a_p3_worthOfPair, .ref a_p3_worthOfGroup])), (a_p3_worthOfPair, .inl (cT 1, 100, .inr (.inl p3_worthOfPair))), (a_p3_worthOfGroup, .inl (cT 1, 1024, .inr (.inl p3_worthOfGroup)))] := by
    intro n
    induction n with
    | zero =>
      intro t_rounds t_calls t_cost t_news_people t_news_pieces p3_worthOfPair p3_worthOfGroup h
      exact zno ((fX4_make_b26_0 _ _ _ _ _ _ _ _ _ _ _ _ _ _ _ _ _ _ _ _ _ _ _).symm.trans h)
    | succ n ih =>
      intro t_rounds t_calls t_cost t_news_people t_news_pieces p3_worthOfPair p3_worthOfGroup h
      replace h := (fX4_make_b26_s _ _ _ _ _ _ _ _ _ _ _ _ _ _ _ _ _ _ _ _ _ _ _ _).symm.trans h
      refine xi_aload_n C 0 dX4_make_26 rfl ?_
      refine xi_get C zkX4 1 0 zlX4_18 (by decide) rfl rfl dX4_make_27 ?_
      refine xi_bipush C (v := 40) dX4_make_30 rfl ?_
      refine xi_icmp_ge C (tgt := 132) dX4_make_32 rfl (fun c4 => ?_) (fun c4 => ?_)
      · replace h := (if_pos c4).symm.trans h
        obtain rfl := Option.some.inj h
        exact hE _ _ dX4_make_132 rfl
      · replace h := (if_neg c4).symm.trans h
        refine xi_aload_n C 0 dX4_make_35 rfl ?_
        refine xi_get C zkX4 0 0 zlX4_12 (by decide) rfl rfl dX4_make_36 ?_
        replace h := ob h
        obtain ⟨u5, hu6, h⟩ := h
        refine xi_callVr C (kX3_missingPieces l D cT a_t_news a_t_news_pieces t_news_people t_news_pieces u5 hu6) zcX3_missingPieces zmX4_35 ziX3_missingPieces (zr rfl rfl) z00 rfl [1, 2] rfl rfl zkX3.1 (qr := 1) rfl rfl (Nat.le_of_ble_eq_true rfl) dX4_make_39 (fun z7 => ?_)
        refine xi_if_le C (tgt := 132) dX4_make_42 rfl (fun c8 => ?_) (fun c8 => ?_)
        · replace h := (if_pos c8).symm.trans h
          obtain rfl := Option.some.inj h
          exact hE _ _ dX4_make_132 rfl
        · replace h := (if_neg c8).symm.trans h
          refine xi_aload_n C 0 dX4_make_45 rfl ?_
          refine xi_dup C dX4_make_46 rfl ?_
          refine xi_get C zkX4 1 0 zlX4_18 (by decide) rfl rfl dX4_make_47 ?_
          refine xi_iconst C (v := 1) dX4_make_50 rfl ?_
          refine xi_iadd C dX4_make_51 ?_
          refine xi_put C zkX4 1 0 zlX4_18 (by decide) rfl rfl rfl rfl (Nat.le_of_ble_eq_true rfl) dX4_make_52 (ws2 := [(a_t, .inr (4, [.ref a_t_news, .int (t_rounds + 1), .int t_calls, .int t_cost])), (a_t_news, .inr (3, [.ref a_t_news_pieces, .int t_news_people])), (a_t_news_pieces, .inl (cT 0, 10, .inl t_news_pieces)), (a_p1, .inr (1, [.int p1_people, .int p1_lineCount, .ref a_p1_first, .ref a_p1_second, .ref a_p1_cost, .ref a_p1_oneWay, .ref a_p1_breaks, .ref a_p1_absences])), (a_p1_first, .inl (cT 0, 24, .inl p1_first)), (a_p1_second, .inl (cT 0, 24, .inl p1_second)), (a_p1_cost, .inl (cT 0, 24, .inl p1_cost)), (a_p1_oneWay, .inl (cT 3, 24, .inl p1_oneWay)), (a_p1_breaks, .inr (8, [.ref a_p1_breaks_whose, .ref a_p1_breaks_from, .ref a_p1_breaks_until, .int p1_breaks_count])), (a_p1_breaks_whose, .inl (cT 0, 12, .inl p1_breaks_whose)), (a_p1_breaks_from, .inl (cT 0, 12, .inl p1_breaks_from)), (a_p1_breaks_until, .inl (cT 0, 12, .inl p1_breaks_until)), (a_p1_absences, .inr (8, [.ref a_p1_absences_whose, .ref a_p1_absences_from, .ref a_p1_absences_until, .int p1_absences_count])), (a_p1_absences_whose, .inl (cT 0, 12, .inl p1_absences_whose)), (a_p1_absences_from, .inl (cT 0, 12, .inl p1_absences_from)), (a_p1_absences_until, .inl (cT 0, 12, .inl p1_absences_until)), (a_p2, .inr (7, [.ref a_p2_news, .int p2_arrangedLines, .int p2_cutLines, .int p2_rounds, .int p2_calls, va_rf p2_latest])), (a_p2_news, .inr (3, [.ref a_p2_news_pieces, .int p2_news_people])), (a_p2_news_pieces, .inl (cT 0, 10, .inl p2_news_pieces)), (a_p3, .inr (0, [.ref a_p3_worthOfPair, .ref a_p3_worthOfGroup])), (a_p3_worthOfPair, .inl (cT 1, 100, .inr (.inl p3_worthOfPair))), (a_p3_worthOfGroup, .inl (cT 1, 1024, .inr (.inl p3_worthOfGroup)))]) rfl ?_
          refine xi_aload_n C 1 dX4_make_55 rfl ?_
          refine xi_aload_n C 2 dX4_make_56 rfl ?_
          refine xi_get C zkX7 3 16 zlX4_39 (by decide) rfl rfl dX4_make_57 ?_
          refine xi_aload_n C 0 dX4_make_60 rfl ?_
          refine xi_get C zkX4 1 0 zlX4_18 (by decide) rfl rfl dX4_make_61 ?_
          refine xi_iadd C dX4_make_64 ?_
          replace h := ob h
          obtain ⟨u9, hu10, h⟩ := h
          refine xi_callVr C (kX1_openLines l D cT a_p1 a_p1_first a_p1_second a_p1_cost a_p1_oneWay a_p1_breaks a_p1_absences a_p1_breaks_whose a_p1_breaks_from a_p1_breaks_until a_p1_absences_whose a_p1_absences_from a_p1_absences_until p1_people p1_lineCount p1_first p1_second p1_breaks_count p1_breaks_whose p1_breaks_from p1_breaks_until p1_absences_count p1_absences_whose p1_absences_from p1_absences_until (p2_rounds + (t_rounds + 1)) u9 hu10) zcX1_openLines zmX4_40 ziX1_openLines (zr rfl rfl) z00 rfl [3, 4, 5, 8, 9, 10, 11, 12, 13, 14, 15] rfl rfl zkX1.1 (qr := 3) rfl rfl (Nat.le_of_ble_eq_true rfl) dX4_make_65 (fun z11 => ?_)
          refine xi_aload_n C 2 dX4_make_68 rfl ?_
          refine xi_get C zkX7 2 16 zlX4_46 (by decide) rfl rfl dX4_make_69 ?_
          refine xi_iconst C (v := (-1)) dX4_make_72 rfl ?_
          refine xi_ixor C dX4_make_73 ?_
          refine xi_iand C dX4_make_74 ?_
          refine xi_istore C [1, 2, 3, 4, 0] (L2 := [(0, .ref a_t), (1, .ref a_p1), (2, .ref a_p2), (3, .ref a_p3), (4, .int (u9 &&& (p2_cutLines ^^^ (-1))))]) dX4_make_75 (Nat.le_of_ble_eq_true rfl) rfl ?_
          refine xi_aload_n C 3 dX4_make_77 rfl ?_
          refine xi_aload_n C 1 dX4_make_78 rfl ?_
          refine xi_iload C 4 dX4_make_79 rfl ?_
          refine xi_aload_n C 0 dX4_make_81 rfl ?_
          refine xi_get C zkX4 0 0 zlX4_12 (by decide) rfl rfl dX4_make_82 ?_
          replace h := ob h
          obtain ⟨u12, hu13, h⟩ := h
          refine xi_callV C (kX0_find l D cT a_p3 a_p3_worthOfPair a_p3_worthOfGroup a_p1 a_p1_first a_p1_second a_p1_cost a_p1_oneWay a_p1_breaks a_p1_absences a_t_news a_t_news_pieces p3_worthOfPair p3_worthOfGroup p1_people p1_lineCount p1_first p1_second p1_cost p1_oneWay t_news_people t_news_pieces (u9 &&& (p2_cutLines ^^^ (-1))) u12 hu13) zcX0_find zmX4_49 ziX0_find (zr rfl rfl) z00 rfl [19, 20, 21, 3, 4, 5, 6, 7, 1, 2] rfl rfl rfl [none, some 8, some 9, some 3, some 4, some 5, some 6, some 7, none, none, none, none, none, none, none, none, none, none, none, some 0, some 1, some 2] (by decide +kernel) (ws2 := [(a_t, .inr (4, [.ref a_t_news, .int (t_rounds + 1), .int t_calls, .int t_cost])), (a_t_news, .inr (3, [.ref a_t_news_pieces, .int t_news_people])), (a_t_news_pieces, .inl (cT 0, 10, .inl t_news_pieces)), (a_p1, .inr (1, [.int p1_people, .int p1_lineCount, .ref a_p1_first, .ref a_p1_second, .ref a_p1_cost, .ref a_p1_oneWay, .ref a_p1_breaks, .ref a_p1_absences])), (a_p1_first, .inl (cT 0, 24, .inl p1_first)), (a_p1_second, .inl (cT 0, 24, .inl p1_second)), (a_p1_cost, .inl (cT 0, 24, .inl p1_cost)), (a_p1_oneWay, .inl (cT 3, 24, .inl p1_oneWay)), (a_p1_breaks, .inr (8, [.ref a_p1_breaks_whose, .ref a_p1_breaks_from, .ref a_p1_breaks_until, .int p1_breaks_count])), (a_p1_breaks_whose, .inl (cT 0, 12, .inl p1_breaks_whose)), (a_p1_breaks_from, .inl (cT 0, 12, .inl p1_breaks_from)), (a_p1_breaks_until, .inl (cT 0, 12, .inl p1_breaks_until)), (a_p1_absences, .inr (8, [.ref a_p1_absences_whose, .ref a_p1_absences_from, .ref a_p1_absences_until, .int p1_absences_count])), (a_p1_absences_whose, .inl (cT 0, 12, .inl p1_absences_whose)), (a_p1_absences_from, .inl (cT 0, 12, .inl p1_absences_from)), (a_p1_absences_until, .inl (cT 0, 12, .inl p1_absences_until)), (a_p2, .inr (7, [.ref a_p2_news, .int p2_arrangedLines, .int p2_cutLines, .int p2_rounds, .int p2_calls, va_rf p2_latest])), (a_p2_news, .inr (3, [.ref a_p2_news_pieces, .int p2_news_people])), (a_p2_news_pieces, .inl (cT 0, 10, .inl p2_news_pieces)), (a_p3, .inr (0, [.ref a_p3_worthOfPair, .ref a_p3_worthOfGroup])), (a_p3_worthOfPair, .inl (cT 1, 100, .inr (.inl u12.2.1))), (a_p3_worthOfGroup, .inl (cT 1, 1024, .inr (.inl u12.2.2)))]) rfl zkX0.1 (qr := 19) rfl rfl (Nat.le_of_ble_eq_true rfl) dX4_make_85 (fun z14 => ?_)
          refine xi_istore C [1, 2, 3, 4, 5, 0] (L2 := [(0, .ref a_t), (1, .ref a_p1), (2, .ref a_p2), (3, .ref a_p3), (4, .int (u9 &&& (p2_cutLines ^^^ (-1)))), (5, .int u12.1)]) dX4_make_88 (Nat.le_of_ble_eq_true rfl) rfl ?_
          refine xi_aload_n C 1 dX4_make_90 rfl ?_
          refine xi_iload C 5 dX4_make_91 rfl ?_
          refine xi_aload_n C 0 dX4_make_93 rfl ?_
          refine xi_get C zkX4 0 0 zlX4_12 (by decide) rfl rfl dX4_make_94 ?_
          replace h := ob h
          obtain ⟨u15, hu16, h⟩ := h
          refine xi_callV C (kX1_makeCalls l D cT a_p1 a_p1_first a_p1_second a_p1_cost a_p1_oneWay a_p1_breaks a_p1_absences a_t_news a_t_news_pieces p1_people p1_lineCount p1_first p1_second p1_oneWay t_news_people t_news_pieces u12.1 u15 hu16) zcX1_makeCalls zmX4_55 ziX1_makeCalls (zr rfl rfl) z00 rfl [3, 4, 5, 7, 1, 2] rfl rfl rfl [none, some 4, some 5, some 0, some 1, some 2, none, some 3, none, none, none, none, none, none, none, none, none, none, none, none, none, none] (by decide +kernel) (ws2 := [(a_t, .inr (4, [.ref a_t_news, .int (t_rounds + 1), .int t_calls, .int t_cost])), (a_t_news, .inr (3, [.ref a_t_news_pieces, .int t_news_people])), (a_t_news_pieces, .inl (cT 0, 10, .inl u15)), (a_p1, .inr (1, [.int p1_people, .int p1_lineCount, .ref a_p1_first, .ref a_p1_second, .ref a_p1_cost, .ref a_p1_oneWay, .ref a_p1_breaks, .ref a_p1_absences])), (a_p1_first, .inl (cT 0, 24, .inl p1_first)), (a_p1_second, .inl (cT 0, 24, .inl p1_second)), (a_p1_cost, .inl (cT 0, 24, .inl p1_cost)), (a_p1_oneWay, .inl (cT 3, 24, .inl p1_oneWay)), (a_p1_breaks, .inr (8, [.ref a_p1_breaks_whose, .ref a_p1_breaks_from, .ref a_p1_breaks_until, .int p1_breaks_count])), (a_p1_breaks_whose, .inl (cT 0, 12, .inl p1_breaks_whose)), (a_p1_breaks_from, .inl (cT 0, 12, .inl p1_breaks_from)), (a_p1_breaks_until, .inl (cT 0, 12, .inl p1_breaks_until)), (a_p1_absences, .inr (8, [.ref a_p1_absences_whose, .ref a_p1_absences_from, .ref a_p1_absences_until, .int p1_absences_count])), (a_p1_absences_whose, .inl (cT 0, 12, .inl p1_absences_whose)), (a_p1_absences_from, .inl (cT 0, 12, .inl p1_absences_from)), (a_p1_absences_until, .inl (cT 0, 12, .inl p1_absences_until)), (a_p2, .inr (7, [.ref a_p2_news, .int p2_arrangedLines, .int p2_cutLines, .int p2_rounds, .int p2_calls, va_rf p2_latest])), (a_p2_news, .inr (3, [.ref a_p2_news_pieces, .int p2_news_people])), (a_p2_news_pieces, .inl (cT 0, 10, .inl p2_news_pieces)), (a_p3, .inr (0, [.ref a_p3_worthOfPair, .ref a_p3_worthOfGroup])), (a_p3_worthOfPair, .inl (cT 1, 100, .inr (.inl u12.2.1))), (a_p3_worthOfGroup, .inl (cT 1, 1024, .inr (.inl u12.2.2)))]) rfl zkX1.1 (qr := 3) rfl rfl (Nat.le_of_ble_eq_true rfl) dX4_make_97 (fun z17 => ?_)
          refine xi_aload_n C 0 dX4_make_100 rfl ?_
          refine xi_dup C dX4_make_101 rfl ?_
          refine xi_get C zkX4 2 0 zlX4_22 (by decide) rfl rfl dX4_make_102 ?_
          refine xi_iload C 5 dX4_make_105 rfl ?_
          refine xi_callSr C (kJ6_bitCount_0f7a4 l D cT u12.1 (fJ6_bitCount_0f7a4 u12.1) rfl) zcJ6_bitCount_0f7a4 zmX4_59 zsJ6_bitCount_0f7a4 (zr rfl rfl) z00 rfl [] rfl rfl rfl (Nat.le_of_ble_eq_true rfl) dX4_make_107 (fun z20 => ?_)
          refine xi_iadd C dX4_make_110 ?_
          refine xi_put C zkX4 2 0 zlX4_22 (by decide) rfl rfl rfl rfl (Nat.le_of_ble_eq_true rfl) dX4_make_111 (ws2 := [(a_t, .inr (4, [.ref a_t_news, .int (t_rounds + 1), .int (t_calls + (fJ6_bitCount_0f7a4 u12.1)), .int t_cost])), (a_t_news, .inr (3, [.ref a_t_news_pieces, .int t_news_people])), (a_t_news_pieces, .inl (cT 0, 10, .inl u15)), (a_p1, .inr (1, [.int p1_people, .int p1_lineCount, .ref a_p1_first, .ref a_p1_second, .ref a_p1_cost, .ref a_p1_oneWay, .ref a_p1_breaks, .ref a_p1_absences])), (a_p1_first, .inl (cT 0, 24, .inl p1_first)), (a_p1_second, .inl (cT 0, 24, .inl p1_second)), (a_p1_cost, .inl (cT 0, 24, .inl p1_cost)), (a_p1_oneWay, .inl (cT 3, 24, .inl p1_oneWay)), (a_p1_breaks, .inr (8, [.ref a_p1_breaks_whose, .ref a_p1_breaks_from, .ref a_p1_breaks_until, .int p1_breaks_count])), (a_p1_breaks_whose, .inl (cT 0, 12, .inl p1_breaks_whose)), (a_p1_breaks_from, .inl (cT 0, 12, .inl p1_breaks_from)), (a_p1_breaks_until, .inl (cT 0, 12, .inl p1_breaks_until)), (a_p1_absences, .inr (8, [.ref a_p1_absences_whose, .ref a_p1_absences_from, .ref a_p1_absences_until, .int p1_absences_count])), (a_p1_absences_whose, .inl (cT 0, 12, .inl p1_absences_whose)), (a_p1_absences_from, .inl (cT 0, 12, .inl p1_absences_from)), (a_p1_absences_until, .inl (cT 0, 12, .inl p1_absences_until)), (a_p2, .inr (7, [.ref a_p2_news, .int p2_arrangedLines, .int p2_cutLines, .int p2_rounds, .int p2_calls, va_rf p2_latest])), (a_p2_news, .inr (3, [.ref a_p2_news_pieces, .int p2_news_people])), (a_p2_news_pieces, .inl (cT 0, 10, .inl p2_news_pieces)), (a_p3, .inr (0, [.ref a_p3_worthOfPair, .ref a_p3_worthOfGroup])), (a_p3_worthOfPair, .inl (cT 1, 100, .inr (.inl u12.2.1))), (a_p3_worthOfGroup, .inl (cT 1, 1024, .inr (.inl u12.2.2)))]) rfl ?_
          refine xi_aload_n C 0 dX4_make_114 rfl ?_
          refine xi_dup C dX4_make_115 rfl ?_
          refine xi_get C zkX4 3 0 zlX4_25 (by decide) rfl rfl dX4_make_116 ?_
          refine xi_aload_n C 1 dX4_make_119 rfl ?_
          refine xi_iload C 5 dX4_make_120 rfl ?_
          replace h := ob h
          obtain ⟨u21, hu22, h⟩ := h
          refine xi_callVr C (kX1_costOf l D cT a_p1 a_p1_first a_p1_second a_p1_cost a_p1_oneWay a_p1_breaks a_p1_absences p1_people p1_lineCount p1_cost u12.1 u21 hu22) zcX1_costOf zmX4_64 ziX1_costOf (zr rfl rfl) z00 rfl [3, 6] rfl rfl zkX1.1 (qr := 3) rfl rfl (Nat.le_of_ble_eq_true rfl) dX4_make_122 (fun z23 => ?_)
          refine xi_iadd C dX4_make_125 ?_
          refine xi_put C zkX4 3 0 zlX4_25 (by decide) rfl rfl rfl rfl (Nat.le_of_ble_eq_true rfl) dX4_make_126 (ws2 := [(a_t, .inr (4, [.ref a_t_news, .int (t_rounds + 1), .int (t_calls + (fJ6_bitCount_0f7a4 u12.1)), .int (t_cost + u21)])), (a_t_news, .inr (3, [.ref a_t_news_pieces, .int t_news_people])), (a_t_news_pieces, .inl (cT 0, 10, .inl u15)), (a_p1, .inr (1, [.int p1_people, .int p1_lineCount, .ref a_p1_first, .ref a_p1_second, .ref a_p1_cost, .ref a_p1_oneWay, .ref a_p1_breaks, .ref a_p1_absences])), (a_p1_first, .inl (cT 0, 24, .inl p1_first)), (a_p1_second, .inl (cT 0, 24, .inl p1_second)), (a_p1_cost, .inl (cT 0, 24, .inl p1_cost)), (a_p1_oneWay, .inl (cT 3, 24, .inl p1_oneWay)), (a_p1_breaks, .inr (8, [.ref a_p1_breaks_whose, .ref a_p1_breaks_from, .ref a_p1_breaks_until, .int p1_breaks_count])), (a_p1_breaks_whose, .inl (cT 0, 12, .inl p1_breaks_whose)), (a_p1_breaks_from, .inl (cT 0, 12, .inl p1_breaks_from)), (a_p1_breaks_until, .inl (cT 0, 12, .inl p1_breaks_until)), (a_p1_absences, .inr (8, [.ref a_p1_absences_whose, .ref a_p1_absences_from, .ref a_p1_absences_until, .int p1_absences_count])), (a_p1_absences_whose, .inl (cT 0, 12, .inl p1_absences_whose)), (a_p1_absences_from, .inl (cT 0, 12, .inl p1_absences_from)), (a_p1_absences_until, .inl (cT 0, 12, .inl p1_absences_until)), (a_p2, .inr (7, [.ref a_p2_news, .int p2_arrangedLines, .int p2_cutLines, .int p2_rounds, .int p2_calls, va_rf p2_latest])), (a_p2_news, .inr (3, [.ref a_p2_news_pieces, .int p2_news_people])), (a_p2_news_pieces, .inl (cT 0, 10, .inl p2_news_pieces)), (a_p3, .inr (0, [.ref a_p3_worthOfPair, .ref a_p3_worthOfGroup])), (a_p3_worthOfPair, .inl (cT 1, 100, .inr (.inl u12.2.1))), (a_p3_worthOfGroup, .inl (cT 1, 1024, .inr (.inl u12.2.2)))]) rfl ?_
          refine xi_goto C (tgt := 26) dX4_make_129 rfl ?_
          refine xi_drop (L2 := [(0, .ref a_t), (1, .ref a_p1), (2, .ref a_p2), (3, .ref a_p3)]) [0, 1, 2, 3] rfl ?_
          exact ih (t_rounds + 1) (t_calls + (fJ6_bitCount_0f7a4 u12.1)) (t_cost + u21) t_news_people u15 u12.2.1 u12.2.2 h
  refine xi_drop (L2 := [(0, .ref a_t), (1, .ref a_p1), (2, .ref a_p2), (3, .ref a_p3)]) [0, 1, 2, 3] rfl ?_
  refine xi_aload_n C 0 dX4_make_0 rfl ?_
  refine xi_get C zkX4 0 0 zlX4_12 (by decide) rfl rfl dX4_make_1 ?_
  refine xi_aload_n C 2 dX4_make_4 rfl ?_
  refine xi_get C zkX7 0 16 zlX4_28 (by decide) rfl rfl dX4_make_5 ?_
  replace h := ob h
  obtain ⟨u1, hu2, h⟩ := h
  refine xi_callV C (kX3_copyFrom l D cT a_t_news a_t_news_pieces a_p2_news a_p2_news_pieces t_news_people t_news_pieces p2_news_people p2_news_pieces u1 hu2) zcX3_copyFrom zmX4_31 ziX3_copyFrom (zr rfl rfl) z00 rfl [1, 2, 17, 18] rfl rfl rfl [none, some 0, some 1, none, none, none, none, none, none, none, none, none, none, none, none, none, none, some 2, some 3, none, none, none] (by decide +kernel) (ws2 := [(a_t, .inr (4, [.ref a_t_news, .int t_rounds, .int t_calls, .int t_cost])), (a_t_news, .inr (3, [.ref a_t_news_pieces, .int u1.1])), (a_t_news_pieces, .inl (cT 0, 10, .inl u1.2)), (a_p1, .inr (1, [.int p1_people, .int p1_lineCount, .ref a_p1_first, .ref a_p1_second, .ref a_p1_cost, .ref a_p1_oneWay, .ref a_p1_breaks, .ref a_p1_absences])), (a_p1_first, .inl (cT 0, 24, .inl p1_first)), (a_p1_second, .inl (cT 0, 24, .inl p1_second)), (a_p1_cost, .inl (cT 0, 24, .inl p1_cost)), (a_p1_oneWay, .inl (cT 3, 24, .inl p1_oneWay)), (a_p1_breaks, .inr (8, [.ref a_p1_breaks_whose, .ref a_p1_breaks_from, .ref a_p1_breaks_until, .int p1_breaks_count])), (a_p1_breaks_whose, .inl (cT 0, 12, .inl p1_breaks_whose)), (a_p1_breaks_from, .inl (cT 0, 12, .inl p1_breaks_from)), (a_p1_breaks_until, .inl (cT 0, 12, .inl p1_breaks_until)), (a_p1_absences, .inr (8, [.ref a_p1_absences_whose, .ref a_p1_absences_from, .ref a_p1_absences_until, .int p1_absences_count])), (a_p1_absences_whose, .inl (cT 0, 12, .inl p1_absences_whose)), (a_p1_absences_from, .inl (cT 0, 12, .inl p1_absences_from)), (a_p1_absences_until, .inl (cT 0, 12, .inl p1_absences_until)), (a_p2, .inr (7, [.ref a_p2_news, .int p2_arrangedLines, .int p2_cutLines, .int p2_rounds, .int p2_calls, va_rf p2_latest])), (a_p2_news, .inr (3, [.ref a_p2_news_pieces, .int p2_news_people])), (a_p2_news_pieces, .inl (cT 0, 10, .inl p2_news_pieces)), (a_p3, .inr (0, [.ref a_p3_worthOfPair, .ref a_p3_worthOfGroup])), (a_p3_worthOfPair, .inl (cT 1, 100, .inr (.inl p3_worthOfPair))), (a_p3_worthOfGroup, .inl (cT 1, 1024, .inr (.inl p3_worthOfGroup)))]) rfl zkX3.1 (qr := 1) rfl rfl (Nat.le_of_ble_eq_true rfl) dX4_make_8 (fun z3 => ?_)
  refine xi_aload_n C 0 dX4_make_11 rfl ?_
  refine xi_iconst C (v := 0) dX4_make_12 rfl ?_
  refine xi_put C zkX4 1 0 zlX4_18 (by decide) rfl rfl rfl rfl (Nat.le_of_ble_eq_true rfl) dX4_make_13 (ws2 := [(a_t, .inr (4, [.ref a_t_news, .int 0, .int t_calls, .int t_cost])), (a_t_news, .inr (3, [.ref a_t_news_pieces, .int u1.1])), (a_t_news_pieces, .inl (cT 0, 10, .inl u1.2)), (a_p1, .inr (1, [.int p1_people, .int p1_lineCount, .ref a_p1_first, .ref a_p1_second, .ref a_p1_cost, .ref a_p1_oneWay, .ref a_p1_breaks, .ref a_p1_absences])), (a_p1_first, .inl (cT 0, 24, .inl p1_first)), (a_p1_second, .inl (cT 0, 24, .inl p1_second)), (a_p1_cost, .inl (cT 0, 24, .inl p1_cost)), (a_p1_oneWay, .inl (cT 3, 24, .inl p1_oneWay)), (a_p1_breaks, .inr (8, [.ref a_p1_breaks_whose, .ref a_p1_breaks_from, .ref a_p1_breaks_until, .int p1_breaks_count])), (a_p1_breaks_whose, .inl (cT 0, 12, .inl p1_breaks_whose)), (a_p1_breaks_from, .inl (cT 0, 12, .inl p1_breaks_from)), (a_p1_breaks_until, .inl (cT 0, 12, .inl p1_breaks_until)), (a_p1_absences, .inr (8, [.ref a_p1_absences_whose, .ref a_p1_absences_from, .ref a_p1_absences_until, .int p1_absences_count])), (a_p1_absences_whose, .inl (cT 0, 12, .inl p1_absences_whose)), (a_p1_absences_from, .inl (cT 0, 12, .inl p1_absences_from)), (a_p1_absences_until, .inl (cT 0, 12, .inl p1_absences_until)), (a_p2, .inr (7, [.ref a_p2_news, .int p2_arrangedLines, .int p2_cutLines, .int p2_rounds, .int p2_calls, va_rf p2_latest])), (a_p2_news, .inr (3, [.ref a_p2_news_pieces, .int p2_news_people])), (a_p2_news_pieces, .inl (cT 0, 10, .inl p2_news_pieces)), (a_p3, .inr (0, [.ref a_p3_worthOfPair, .ref a_p3_worthOfGroup])), (a_p3_worthOfPair, .inl (cT 1, 100, .inr (.inl p3_worthOfPair))), (a_p3_worthOfGroup, .inl (cT 1, 1024, .inr (.inl p3_worthOfGroup)))]) rfl ?_
  refine xi_aload_n C 0 dX4_make_16 rfl ?_
  refine xi_iconst C (v := 0) dX4_make_17 rfl ?_
  refine xi_put C zkX4 2 0 zlX4_22 (by decide) rfl rfl rfl rfl (Nat.le_of_ble_eq_true rfl) dX4_make_18 (ws2 := [(a_t, .inr (4, [.ref a_t_news, .int 0, .int 0, .int t_cost])), (a_t_news, .inr (3, [.ref a_t_news_pieces, .int u1.1])), (a_t_news_pieces, .inl (cT 0, 10, .inl u1.2)), (a_p1, .inr (1, [.int p1_people, .int p1_lineCount, .ref a_p1_first, .ref a_p1_second, .ref a_p1_cost, .ref a_p1_oneWay, .ref a_p1_breaks, .ref a_p1_absences])), (a_p1_first, .inl (cT 0, 24, .inl p1_first)), (a_p1_second, .inl (cT 0, 24, .inl p1_second)), (a_p1_cost, .inl (cT 0, 24, .inl p1_cost)), (a_p1_oneWay, .inl (cT 3, 24, .inl p1_oneWay)), (a_p1_breaks, .inr (8, [.ref a_p1_breaks_whose, .ref a_p1_breaks_from, .ref a_p1_breaks_until, .int p1_breaks_count])), (a_p1_breaks_whose, .inl (cT 0, 12, .inl p1_breaks_whose)), (a_p1_breaks_from, .inl (cT 0, 12, .inl p1_breaks_from)), (a_p1_breaks_until, .inl (cT 0, 12, .inl p1_breaks_until)), (a_p1_absences, .inr (8, [.ref a_p1_absences_whose, .ref a_p1_absences_from, .ref a_p1_absences_until, .int p1_absences_count])), (a_p1_absences_whose, .inl (cT 0, 12, .inl p1_absences_whose)), (a_p1_absences_from, .inl (cT 0, 12, .inl p1_absences_from)), (a_p1_absences_until, .inl (cT 0, 12, .inl p1_absences_until)), (a_p2, .inr (7, [.ref a_p2_news, .int p2_arrangedLines, .int p2_cutLines, .int p2_rounds, .int p2_calls, va_rf p2_latest])), (a_p2_news, .inr (3, [.ref a_p2_news_pieces, .int p2_news_people])), (a_p2_news_pieces, .inl (cT 0, 10, .inl p2_news_pieces)), (a_p3, .inr (0, [.ref a_p3_worthOfPair, .ref a_p3_worthOfGroup])), (a_p3_worthOfPair, .inl (cT 1, 100, .inr (.inl p3_worthOfPair))), (a_p3_worthOfGroup, .inl (cT 1, 1024, .inr (.inl p3_worthOfGroup)))]) rfl ?_
  refine xi_aload_n C 0 dX4_make_21 rfl ?_
  refine xi_iconst C (v := 0) dX4_make_22 rfl ?_
  refine xi_put C zkX4 3 0 zlX4_25 (by decide) rfl rfl rfl rfl (Nat.le_of_ble_eq_true rfl) dX4_make_23 (ws2 := [(a_t, .inr (4, [.ref a_t_news, .int 0, .int 0, .int 0])), (a_t_news, .inr (3, [.ref a_t_news_pieces, .int u1.1])), (a_t_news_pieces, .inl (cT 0, 10, .inl u1.2)), (a_p1, .inr (1, [.int p1_people, .int p1_lineCount, .ref a_p1_first, .ref a_p1_second, .ref a_p1_cost, .ref a_p1_oneWay, .ref a_p1_breaks, .ref a_p1_absences])), (a_p1_first, .inl (cT 0, 24, .inl p1_first)), (a_p1_second, .inl (cT 0, 24, .inl p1_second)), (a_p1_cost, .inl (cT 0, 24, .inl p1_cost)), (a_p1_oneWay, .inl (cT 3, 24, .inl p1_oneWay)), (a_p1_breaks, .inr (8, [.ref a_p1_breaks_whose, .ref a_p1_breaks_from, .ref a_p1_breaks_until, .int p1_breaks_count])), (a_p1_breaks_whose, .inl (cT 0, 12, .inl p1_breaks_whose)), (a_p1_breaks_from, .inl (cT 0, 12, .inl p1_breaks_from)), (a_p1_breaks_until, .inl (cT 0, 12, .inl p1_breaks_until)), (a_p1_absences, .inr (8, [.ref a_p1_absences_whose, .ref a_p1_absences_from, .ref a_p1_absences_until, .int p1_absences_count])), (a_p1_absences_whose, .inl (cT 0, 12, .inl p1_absences_whose)), (a_p1_absences_from, .inl (cT 0, 12, .inl p1_absences_from)), (a_p1_absences_until, .inl (cT 0, 12, .inl p1_absences_until)), (a_p2, .inr (7, [.ref a_p2_news, .int p2_arrangedLines, .int p2_cutLines, .int p2_rounds, .int p2_calls, va_rf p2_latest])), (a_p2_news, .inr (3, [.ref a_p2_news_pieces, .int p2_news_people])), (a_p2_news_pieces, .inl (cT 0, 10, .inl p2_news_pieces)), (a_p3, .inr (0, [.ref a_p3_worthOfPair, .ref a_p3_worthOfGroup])), (a_p3_worthOfPair, .inl (cT 1, 100, .inr (.inl p3_worthOfPair))), (a_p3_worthOfGroup, .inl (cT 1, 1024, .inr (.inl p3_worthOfGroup)))]) rfl ?_
  exact B26 FU 0 0 0 u1.1 u1.2 p3_worthOfPair p3_worthOfGroup h
def fX7_begin (t_news_pieces : Nat → Int32) (x1 : Int32) : Option (Int32 × Int32 × Int32 × Int32 × (Option Nat) × Int32 × (Nat → Int32)) := (fX3_begin t_news_pieces x1).bind (fun u1 => some (0, 0, 0, 0, none, u1.1, u1.2))
set_option maxRecDepth 100000 in
set_option maxHeartbeats 4000000 in
theorem kX7_begin (l : Launch) (D : va_G) (cT : Nat → ClassId) (a_t : Nat) (a_t_news : Nat) (a_t_news_pieces : Nat) (t_arrangedLines : Int32) (t_cutLines : Int32) (t_rounds : Int32) (t_calls : Int32) (t_latest : Option Nat) (t_news_people : Int32) (t_news_pieces : Nat → Int32) (x1 : Int32) (r : Int32 × Int32 × Int32 × Int32 × (Option Nat) × Int32 × (Nat → Int32)) (h : fX7_begin t_news_pieces x1 = some r) : sM l yX7_begin cX7_begin 2 none (zR 2) D cT [.ref a_t, .int x1] [(a_t, .inr (7, [.ref a_t_news, .int t_arrangedLines, .int t_cutLines, .int t_rounds, .int t_calls, va_rf t_latest])), (a_t_news, .inr (3, [.ref a_t_news_pieces, .int t_news_people])), (a_t_news_pieces, .inl (cT 0, 10, .inl t_news_pieces))] none [(a_t, .inr (7, [.ref a_t_news, .int r.1, .int r.2.1, .int r.2.2.1, .int r.2.2.2.1, va_rf r.2.2.2.2.1])), (a_t_news, .inr (3, [.ref a_t_news_pieces, .int r.2.2.2.2.2.1])), (a_t_news_pieces, .inl (cT 0, 10, .inl r.2.2.2.2.2.2))] := by
  refine sM_void rfl (Nat.le_of_ble_eq_true rfl) ?_
  intro X C hE
  refine xi_drop (L2 := [(0, .ref a_t), (1, .int x1)]) [0, 1] rfl ?_
  refine xi_aload_n C 0 dX7_begin_0 rfl ?_
  refine xi_get C zkX7 0 0 zlX7_12 (by decide) rfl rfl dX7_begin_1 ?_
  refine xi_iload_n C 1 dX7_begin_4 rfl ?_
  replace h := ob h
  obtain ⟨u1, hu2, h⟩ := h
  refine xi_callV C (kX3_begin l D cT a_t_news a_t_news_pieces t_news_people t_news_pieces x1 u1 hu2) zcX3_begin zmX7_35 ziX3_begin (zr rfl rfl) z00 rfl [1, 2] rfl rfl rfl [none, some 0, some 1] (by decide +kernel) (ws2 := [(a_t, .inr (7, [.ref a_t_news, .int t_arrangedLines, .int t_cutLines, .int t_rounds, .int t_calls, va_rf t_latest])), (a_t_news, .inr (3, [.ref a_t_news_pieces, .int u1.1])), (a_t_news_pieces, .inl (cT 0, 10, .inl u1.2))]) rfl zkX3.1 (qr := 1) rfl rfl (Nat.le_of_ble_eq_true rfl) dX7_begin_5 (fun z3 => ?_)
  refine xi_aload_n C 0 dX7_begin_8 rfl ?_
  refine xi_iconst C (v := 0) dX7_begin_9 rfl ?_
  refine xi_put C zkX7 1 0 zlX7_18 (by decide) rfl rfl rfl rfl (Nat.le_of_ble_eq_true rfl) dX7_begin_10 (ws2 := [(a_t, .inr (7, [.ref a_t_news, .int 0, .int t_cutLines, .int t_rounds, .int t_calls, va_rf t_latest])), (a_t_news, .inr (3, [.ref a_t_news_pieces, .int u1.1])), (a_t_news_pieces, .inl (cT 0, 10, .inl u1.2))]) rfl ?_
  refine xi_aload_n C 0 dX7_begin_13 rfl ?_
  refine xi_iconst C (v := 0) dX7_begin_14 rfl ?_
  refine xi_put C zkX7 2 0 zlX7_22 (by decide) rfl rfl rfl rfl (Nat.le_of_ble_eq_true rfl) dX7_begin_15 (ws2 := [(a_t, .inr (7, [.ref a_t_news, .int 0, .int 0, .int t_rounds, .int t_calls, va_rf t_latest])), (a_t_news, .inr (3, [.ref a_t_news_pieces, .int u1.1])), (a_t_news_pieces, .inl (cT 0, 10, .inl u1.2))]) rfl ?_
  refine xi_aload_n C 0 dX7_begin_18 rfl ?_
  refine xi_iconst C (v := 0) dX7_begin_19 rfl ?_
  refine xi_put C zkX7 3 0 zlX7_25 (by decide) rfl rfl rfl rfl (Nat.le_of_ble_eq_true rfl) dX7_begin_20 (ws2 := [(a_t, .inr (7, [.ref a_t_news, .int 0, .int 0, .int 0, .int t_calls, va_rf t_latest])), (a_t_news, .inr (3, [.ref a_t_news_pieces, .int u1.1])), (a_t_news_pieces, .inl (cT 0, 10, .inl u1.2))]) rfl ?_
  refine xi_aload_n C 0 dX7_begin_23 rfl ?_
  refine xi_iconst C (v := 0) dX7_begin_24 rfl ?_
  refine xi_put C zkX7 4 0 zlX7_28 (by decide) rfl rfl rfl rfl (Nat.le_of_ble_eq_true rfl) dX7_begin_25 (ws2 := [(a_t, .inr (7, [.ref a_t_news, .int 0, .int 0, .int 0, .int 0, va_rf t_latest])), (a_t_news, .inr (3, [.ref a_t_news_pieces, .int u1.1])), (a_t_news_pieces, .inl (cT 0, 10, .inl u1.2))]) rfl ?_
  refine xi_aload_n C 0 dX7_begin_28 rfl ?_
  refine xi_null C dX7_begin_29 ?_
  refine xi_put C zkX7 5 0 zlX7_31 (by decide) rfl rfl rfl rfl (Nat.le_of_ble_eq_true rfl) dX7_begin_30 (ws2 := [(a_t, .inr (7, [.ref a_t_news, .int 0, .int 0, .int 0, .int 0, va_rf none])), (a_t_news, .inr (3, [.ref a_t_news_pieces, .int u1.1])), (a_t_news_pieces, .inl (cT 0, 10, .inl u1.2))]) rfl ?_
  obtain rfl := Option.some.inj h
  exact hE _ _ dX7_begin_33 rfl
