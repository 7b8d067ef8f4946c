def fX6_canLearnTheRest_b46_k (t_people : Int32) (t_after_e_pieces : Nat → Nat → Int32) (x2 : Int32) (Jm : Nat) : Nat → Int32 → Int32 → Int32 → Option Int32
  | 0, _, _, _ => none
  | n + 1, y4, y5, y6 => if t_people ≤ y6 then some (0 : Int32) else if (fX10_isIn y5 y6) = 0 then (fX6_canLearnTheRest_b46_k t_people t_after_e_pieces x2 Jm n) y4 y5 (y6 + 1) else gd x2 10 (gd y6 10 (if (((t_after_e_pieces Jm) x2.toNatClampNeg) ||| ((t_after_e_pieces Jm) y6.toNatClampNeg)) = y4 then some (1 : Int32) else (fX6_canLearnTheRest_b46_k t_people t_after_e_pieces x2 Jm n) y4 y5 (y6 + 1)))
theorem fX6_canLearnTheRest_b46_k_0 (t_people : Int32) (t_after_e_pieces : Nat → Nat → Int32) (x2 : Int32) (Jm : Nat) (y4 : Int32) (y5 : Int32) (y6 : Int32) : fX6_canLearnTheRest_b46_k t_people t_after_e_pieces x2 Jm 0 y4 y5 y6 = none := rfl
theorem fX6_canLearnTheRest_b46_k_s (t_people : Int32) (t_after_e_pieces : Nat → Nat → Int32) (x2 : Int32) (Jm : Nat) (n : Nat) (y4 : Int32) (y5 : Int32) (y6 : Int32) : fX6_canLearnTheRest_b46_k t_people t_after_e_pieces x2 Jm (n + 1) y4 y5 y6 = (if t_people ≤ y6 then some (0 : Int32) else if (fX10_isIn y5 y6) = 0 then (fX6_canLearnTheRest_b46_k t_people t_after_e_pieces x2 Jm n) y4 y5 (y6 + 1) else gd x2 10 (gd y6 10 (if (((t_after_e_pieces Jm) x2.toNatClampNeg) ||| ((t_after_e_pieces Jm) y6.toNatClampNeg)) = y4 then some (1 : Int32) else (fX6_canLearnTheRest_b46_k t_people t_after_e_pieces x2 Jm n) y4 y5 (y6 + 1)))) := rfl
def fX6_canLearnTheRest (t_people : Int32) (t_after_e_pieces : Nat → Nat → Int32) (t_hears_e : Nat → Nat → Int32) (t_talks_e : Nat → Nat → Int32) (x1 : Int32) (x2 : Int32) : Option Int32 := gd x1 5 (nm x1.toNatClampNeg (fun J2 => gd x1 4 (gd x2 10 (nm ((((t_talks_e J2) x2.toNatClampNeg) ||| ((t_hears_e J2) x2.toNatClampNeg)) ||| (1 <<< (x2 &&& 31))) (fun w6 => fX6_canLearnTheRest_b46_k t_people t_after_e_pieces x2 J2 FU ((1 <<< (t_people &&& 31)) - 1) w6 0)))))
set_option maxRecDepth 100000 in
set_option maxHeartbeats 4000000 in
theorem kX6_canLearnTheRest (l : Launch) (D : va_G) (cT : Nat → ClassId) (a_t : Nat) (a_t_after : Nat) (a_t_hears : Nat) (a_t_talks : Nat) (a_t_after_e : Nat → Nat) (a_t_after_e_pieces : Nat → Nat) (a_t_hears_e : Nat → Nat) (a_t_talks_e : Nat → Nat) (t_people : Int32) (t_limit : Int32) (t_after_e_people : Nat → Int32) (t_after_e_pieces : Nat → Nat → Int32) (t_hears_e : Nat → Nat → Int32) (t_talks_e : Nat → Nat → Int32) (x1 : Int32) (x2 : Int32) (r : Int32) (h : fX6_canLearnTheRest t_people t_after_e_pieces t_hears_e t_talks_e x1 x2 = some r) : sM l yX6_canLearnTheRest cX6_canLearnTheRest 7 (some .boolean) (zR 2) D cT [.ref a_t, .int x1, .int x2] [(a_t, .inr (6, [.ref a_t_after, .ref a_t_hears, .ref a_t_talks, .int t_people, .int t_limit])), (a_t_after, .inl (cT 5, 5, .inr (.inr (.inr (.inr (fun i => if i < 5 then some (a_t_after_e i) else none)))))), ((a_t_after_e 0), .inr (3, [.ref (a_t_after_e_pieces 0), .int (t_after_e_people 0)])), ((a_t_after_e_pieces 0), .inl (cT 0, 10, .inl (t_after_e_pieces 0))), ((a_t_after_e 1), .inr (3, [.ref (a_t_after_e_pieces 1), .int (t_after_e_people 1)])), ((a_t_after_e_pieces 1), .inl (cT 0, 10, .inl (t_after_e_pieces 1))), ((a_t_after_e 2), .inr (3, [.ref (a_t_after_e_pieces 2), .int (t_after_e_people 2)])), ((a_t_after_e_pieces 2), .inl (cT 0, 10, .inl (t_after_e_pieces 2))), ((a_t_after_e 3), .inr (3, [.ref (a_t_after_e_pieces 3), .int (t_after_e_people 3)])), ((a_t_after_e_pieces 3), .inl (cT 0, 10, .inl (t_after_e_pieces 3))), ((a_t_after_e 4), .inr (3, [.ref (a_t_after_e_pieces 4), .int (t_after_e_people 4)])), ((a_t_after_e_pieces 4), .inl (cT 0, 10, .inl (t_after_e_pieces 4))), (a_t_hears, .inl (cT 6, 4, .inr (.inr (.inr (.inr (fun i => if i < 4 then some (a_t_hears_e i) else none)))))), ((a_t_hears_e 0), .inl (cT 0, 10, .inl (t_hears_e 0))), ((a_t_hears_e 1), .inl (cT 0, 10, .inl (t_hears_e 1))), ((a_t_hears_e 2), .inl (cT 0, 10, .inl (t_hears_e 2))), ((a_t_hears_e 3), .inl (cT 0, 10, .inl (t_hears_e 3))), (a_t_talks, .inl (cT 6, 4, .inr (.inr (.inr (.inr (fun i => if i < 4 then some (a_t_talks_e i) else none)))))), ((a_t_talks_e 0), .inl (cT 0, 10, .inl (t_talks_e 0))), ((a_t_talks_e 1), .inl (cT 0, 10, .inl (t_talks_e 1))), ((a_t_talks_e 2), .inl (cT 0, 10, .inl (t_talks_e 2))), ((a_t_talks_e 3), .inl (cT 0, 10, .inl (t_talks_e 3)))] (some (.int r)) [(a_t, .inr (6, [.ref a_t_after, .ref a_t_hears, .ref a_t_talks, .int t_people, .int t_limit])), (a_t_after, .inl (cT 5, 5, .inr (.inr (.inr (.inr (fun i => if i < 5 then some (a_t_after_e i) else none)))))), ((a_t_after_e 0), .inr (3, [.ref (a_t_after_e_pieces 0), .int (t_after_e_people 0)])), ((a_t_after_e_pieces 0), .inl (cT 0, 10, .inl (t_after_e_pieces 0))), ((a_t_after_e 1), .inr (3, [.ref (a_t_after_e_pieces 1), .int (t_after_e_people 1)])), ((a_t_after_e_pieces 1), .inl (cT 0, 10, .inl (t_after_e_pieces 1))), ((a_t_after_e 2), .inr (3, [.ref (a_t_after_e_pieces 2), .int (t_after_e_people 2)])), ((a_t_after_e_pieces 2), .inl (cT 0, 10, .inl (t_after_e_pieces 2))), ((a_t_after_e 3), .inr (3, [.ref (a_t_after_e_pieces 3), .int (t_after_e_people 3)])), ((a_t_after_e_pieces 3), .inl (cT 0, 10, .inl (t_after_e_pieces 3))), ((a_t_after_e 4), .inr (3, [.ref (a_t_after_e_pieces 4), .int (t_after_e_people 4)])), ((a_t_after_e_pieces 4), .inl (cT 0, 10, .inl (t_after_e_pieces 4))), (a_t_hears, .inl (cT 6, 4, .inr (.inr (.inr (.inr (fun i => if i < 4 then some (a_t_hears_e i) else none)))))), ((a_t_hears_e 0), .inl (cT 0, 10, .inl (t_hears_e 0))), ((a_t_hears_e 1), .inl (cT 0, 10, .inl (t_hears_e 1))), ((a_t_hears_e 2), .inl (cT 0, 10, .inl (t_hears_e 2))), ((a_t_hears_e 3), .inl (cT 0, 10, .inl (t_hears_e 3))), (a_t_talks, .inl (cT 6, 4, .inr (.inr (.inr (.inr (fun i => if i < 4 then some (a_t_talks_e i) else none)))))), ((a_t_talks_e 0), .inl (cT 0, 10, .inl (t_talks_e 0))), ((a_t_talks_e 1), .inl (cT 0, 10, .inl (t_talks_e 1))), ((a_t_talks_e 2), .inl (cT 0, 10, .inl (t_talks_e 2))), ((a_t_talks_e 3), .inl (cT 0, 10, .inl (t_talks_e 3)))] := by
  refine sM_bool rfl (Nat.le_of_ble_eq_true rfl) ?_
  intro X C hE
  have B46_0 : ∀ (hkn0 : x1.toNatClampNeg = 0) (hfa0 : vp_in x1 4) (hfa1 : vp_in x1 5) (n : Nat) (y4 : Int32) (y5 : Int32) (y6 : Int32), fX6_canLearnTheRest_b46_k t_people t_after_e_pieces x2 0 n y4 y5 y6 = some r → sW X l (zR 2) D 7 0 0 46 [(0, .ref a_t), (2, .int x2), (3, .ref (a_t_after_e_pieces 0)), (4, .int y4), (5, .int y5), (6, .int y6)] [] [(a_t, .inr (6, [.ref a_t_after, .ref a_t_hears, .ref a_t_talks, .int t_people, .int t_limit])), (a_t_after, .inl (cT 5, 5, .inr (.inr (.inr (.inr (fun i => if i < 5 then some (a_t_after_e i) else none)))))), ((a_t_after_e 0), .inr (3, [.ref (a_t_after_e_pieces 0), .int (t_after_e_people 0)])), ((a_t_after_e_pieces 0), .inl (cT 0, 10, .inl (t_after_e_pieces 0))), ((a_t_after_e 1), .inr (3, [.ref (a_t_after_e_pieces 1), .int (t_after_e_people 1)])), ((a_t_after_e_pieces 1), .inl (cT 0, 10, .inl (t_after_e_pieces 1))), ((a_t_after_e 2), .inr (3, [.ref (a_t_after_e_pieces 2), .int (t_after_e_people 2)])), ((a_t_after_e_pieces 2), .inl (cT 0, 10, .inl (t_after_e_pieces 2))), ((a_t_after_e 3), .inr (3, [.ref (a_t_after_e_pieces 3), .int (t_after_e_people 3)])), ((a_t_after_e_pieces 3), .inl (cT 0, 10, .inl (t_after_e_pieces 3))), ((a_t_after_e 4), .inr (3, [.ref (a_t_after_e_pieces 4), .int (t_after_e_people 4)])), ((a_t_after_e_pieces 4), .inl (cT 0, 10, .inl (t_after_e_pieces 4))), (a_t_hears, .inl (cT 6, 4, .inr (.inr (.inr (.inr (fun i => if i < 4 then some (a_t_hears_e i) else none)))))), ((a_t_hears_e 0), .inl (cT 0, 10, .inl (t_hears_e 0))), ((a_t_hears_e 1), .inl (cT 0, 10, .inl (t_hears_e 1))), ((a_t_hears_e 2), .inl (cT 0, 10, .inl (t_hears_e 2))), ((a_t_hears_e 3), .inl (cT 0, 10, .inl (t_hears_e 3))), (a_t_talks, .inl (cT 6, 4, .inr (.inr (.inr (.inr (fun i => if i < 4 then some (a_t_talks_e i) else none)))))), ((a_t_talks_e 0), .inl (cT 0, 10, .inl (t_talks_e 0))), ((a_t_talks_e 1), .inl (cT 0, 10, .inl (t_talks_e 1))), ((a_t_talks_e 2), .inl (cT 0, 10, .inl (t_talks_e 2))), ((a_t_talks_e 3), .inl (cT 0, 10, .inl (t_talks_e 3)))] := by
    intro hkn0 hfa0 hfa1 n
    induction n with
    | zero =>
      intro y4 y5 y6 h
      exact zno ((fX6_canLearnTheRest_b46_k_0 _ _ _ _ _ _ _).symm.trans h)
    | succ n ih =>
      intro y4 y5 y6 h
      replace h := (fX6_canLearnTheRest_b46_k_s _ _ _ _ _ _ _ _).symm.trans h
      refine xi_iload C 5 dX6_canLearnTheRest_46 rfl ?_
      refine xi_aload_n C 0 dX6_canLearnTheRest_48 rfl ?_
      refine xi_get C zkX6 3 0 zlX6_25 (by decide) rfl rfl dX6_canLearnTheRest_49 ?_
      refine xi_icmp_ge C (tgt := 86) dX6_canLearnTheRest_52 rfl (fun c18 => ?_) (fun c18 => ?_)
      · replace h := (if_pos c18).symm.trans h
        refine xi_iconst C (v := 0) dX6_canLearnTheRest_86 rfl ?_
        obtain rfl := Option.some.inj h
        exact hE _ _ _ dX6_canLearnTheRest_87 rfl rfl
      · replace h := (if_neg c18).symm.trans h
        refine xi_iload C 4 dX6_canLearnTheRest_55 rfl ?_
        refine xi_iload C 5 dX6_canLearnTheRest_57 rfl ?_
        refine xi_callSr C (kX10_isIn l D cT y5 y6 (fX10_isIn y5 y6) rfl) zcX10_isIn zmX6_80 zsX10_isIn (zr rfl rfl) z00 rfl [] rfl rfl rfl (Nat.le_of_ble_eq_true rfl) dX6_canLearnTheRest_59 (fun z21 => ?_)
        refine xi_if_eq C (tgt := 80) dX6_canLearnTheRest_62 rfl (fun c22 => ?_) (fun c22 => ?_)
        · replace h := (if_pos c22).symm.trans h
          refine xi_iinc C (v := y6 + 1) 5 [1, 2, 3, 4, 5, 0] (L2 := [(0, .ref a_t), (2, .int x2), (3, .ref (a_t_after_e_pieces 0)), (4, .int y4), (5, .int y5), (6, .int (y6 + 1))]) dX6_canLearnTheRest_80 rfl rfl (Nat.le_of_ble_eq_true rfl) rfl ?_
          refine xi_goto C (tgt := 46) dX6_canLearnTheRest_83 rfl ?_
          exact ih y4 y5 (y6 + 1) h
        · replace h := (if_neg c22).symm.trans h
          refine xi_aload_n C 2 dX6_canLearnTheRest_65 rfl ?_
          refine xi_iload_n C 1 dX6_canLearnTheRest_66 rfl ?_
          replace h := ig h
          obtain ⟨c23, h⟩ := h
          refine xi_iald C 3 rfl c23 dX6_canLearnTheRest_67 ?_
          refine xi_aload_n C 2 dX6_canLearnTheRest_68 rfl ?_
          refine xi_iload C 5 dX6_canLearnTheRest_69 rfl ?_
          replace h := ig h
          obtain ⟨c24, h⟩ := h
          refine xi_iald C 3 rfl c24 dX6_canLearnTheRest_71 ?_
          refine xi_ior C dX6_canLearnTheRest_72 ?_
          refine xi_iload C 3 dX6_canLearnTheRest_73 rfl ?_
          refine xi_icmp_ne C (tgt := 80) dX6_canLearnTheRest_75 rfl (fun c25 => ?_) (fun c25 => ?_)
          · replace h := (if_neg c25).symm.trans h
            refine xi_iinc C (v := y6 + 1) 5 [1, 2, 3, 4, 5, 0] (L2 := [(0, .ref a_t), (2, .int x2), (3, .ref (a_t_after_e_pieces 0)), (4, .int y4), (5, .int y5), (6, .int (y6 + 1))]) dX6_canLearnTheRest_80 rfl rfl (Nat.le_of_ble_eq_true rfl) rfl ?_
            refine xi_goto C (tgt := 46) dX6_canLearnTheRest_83 rfl ?_
            exact ih y4 y5 (y6 + 1) h
          · replace h := (if_pos c25).symm.trans h
            refine xi_iconst C (v := 1) dX6_canLearnTheRest_78 rfl ?_
            obtain rfl := Option.some.inj h
            exact hE _ _ _ dX6_canLearnTheRest_79 rfl rfl
  have B46_1 : ∀ (hkn0 : x1.toNatClampNeg = 1) (hfa0 : vp_in x1 4) (hfa1 : vp_in x1 5) (n : Nat) (y4 : Int32) (y5 : Int32) (y6 : Int32), fX6_canLearnTheRest_b46_k t_people t_after_e_pieces x2 1 n y4 y5 y6 = some r → sW X l (zR 2) D 7 0 0 46 [(0, .ref a_t), (2, .int x2), (3, .ref (a_t_after_e_pieces 1)), (4, .int y4), (5, .int y5), (6, .int y6)] [] [(a_t, .inr (6, [.ref a_t_after, .ref a_t_hears, .ref a_t_talks, .int t_people, .int t_limit])), (a_t_after, .inl (cT 5, 5, .inr (.inr (.inr (.inr (fun i => if i < 5 then some (a_t_after_e i) else none)))))), ((a_t_after_e 0), .inr (3, [.ref (a_t_after_e_pieces 0), .int (t_after_e_people 0)])), ((a_t_after_e_pieces 0), .inl (cT 0, 10, .inl (t_after_e_pieces 0))), ((a_t_after_e 1), .inr (3, [.ref (a_t_after_e_pieces 1), .int (t_after_e_people 1)])), ((a_t_after_e_pieces 1), .inl (cT 0, 10, .inl (t_after_e_pieces 1))), ((a_t_after_e 2), .inr (3, [.ref (a_t_after_e_pieces 2), .int (t_after_e_people 2)])), ((a_t_after_e_pieces 2), .inl (cT 0, 10, .inl (t_after_e_pieces 2))), ((a_t_after_e 3), .inr (3, [.ref (a_t_after_e_pieces 3), .int (t_after_e_people 3)])), ((a_t_after_e_pieces 3), .inl (cT 0, 10, .inl (t_after_e_pieces 3))), ((a_t_after_e 4), .inr (3, [.ref (a_t_after_e_pieces 4), .int (t_after_e_people 4)])), ((a_t_after_e_pieces 4), .inl (cT 0, 10, .inl (t_after_e_pieces 4))), (a_t_hears, .inl (cT 6, 4, .inr (.inr (.inr (.inr (fun i => if i < 4 then some (a_t_hears_e i) else none)))))), ((a_t_hears_e 0), .inl (cT 0, 10, .inl (t_hears_e 0))), ((a_t_hears_e 1), .inl (cT 0, 10, .inl (t_hears_e 1))), ((a_t_hears_e 2), .inl (cT 0, 10, .inl (t_hears_e 2))), ((a_t_hears_e 3), .inl (cT 0, 10, .inl (t_hears_e 3))), (a_t_talks, .inl (cT 6, 4, .inr (.inr (.inr (.inr (fun i => if i < 4 then some (a_t_talks_e i) else none)))))), ((a_t_talks_e 0), .inl (cT 0, 10, .inl (t_talks_e 0))), ((a_t_talks_e 1), .inl (cT 0, 10, .inl (t_talks_e 1))), ((a_t_talks_e 2), .inl (cT 0, 10, .inl (t_talks_e 2))), ((a_t_talks_e 3), .inl (cT 0, 10, .inl (t_talks_e 3)))] := by
    intro hkn0 hfa0 hfa1 n
    induction n with
    | zero =>
      intro y4 y5 y6 h
      exact zno ((fX6_canLearnTheRest_b46_k_0 _ _ _ _ _ _ _).symm.trans h)
    | succ n ih =>
      intro y4 y5 y6 h
      replace h := (fX6_canLearnTheRest_b46_k_s _ _ _ _ _ _ _ _).symm.trans h
      refine xi_iload C 5 dX6_canLearnTheRest_46 rfl ?_
      refine xi_aload_n C 0 dX6_canLearnTheRest_48 rfl ?_
      refine xi_get C zkX6 3 0 zlX6_25 (by decide) rfl rfl dX6_canLearnTheRest_49 ?_
      refine xi_icmp_ge C (tgt := 86) dX6_canLearnTheRest_52 rfl (fun c29 => ?_) (fun c29 => ?_)
      · replace h := (if_pos c29).symm.trans h
        refine xi_iconst C (v := 0) dX6_canLearnTheRest_86 rfl ?_
        obtain rfl := Option.some.inj h
        exact hE _ _ _ dX6_canLearnTheRest_87 rfl rfl
      · replace h := (if_neg c29).symm.trans h
        refine xi_iload C 4 dX6_canLearnTheRest_55 rfl ?_
        refine xi_iload C 5 dX6_canLearnTheRest_57 rfl ?_
        refine xi_callSr C (kX10_isIn l D cT y5 y6 (fX10_isIn y5 y6) rfl) zcX10_isIn zmX6_80 zsX10_isIn (zr rfl rfl) z00 rfl [] rfl rfl rfl (Nat.le_of_ble_eq_true rfl) dX6_canLearnTheRest_59 (fun z32 => ?_)
        refine xi_if_eq C (tgt := 80) dX6_canLearnTheRest_62 rfl (fun c33 => ?_) (fun c33 => ?_)
        · replace h := (if_pos c33).symm.trans h
          refine xi_iinc C (v := y6 + 1) 5 [1, 2, 3, 4, 5, 0] (L2 := [(0, .ref a_t), (2, .int x2), (3, .ref (a_t_after_e_pieces 1)), (4, .int y4), (5, .int y5), (6, .int (y6 + 1))]) dX6_canLearnTheRest_80 rfl rfl (Nat.le_of_ble_eq_true rfl) rfl ?_
          refine xi_goto C (tgt := 46) dX6_canLearnTheRest_83 rfl ?_
          exact ih y4 y5 (y6 + 1) h
        · replace h := (if_neg c33).symm.trans h
          refine xi_aload_n C 2 dX6_canLearnTheRest_65 rfl ?_
          refine xi_iload_n C 1 dX6_canLearnTheRest_66 rfl ?_
          replace h := ig h
          obtain ⟨c34, h⟩ := h
          refine xi_iald C 5 rfl c34 dX6_canLearnTheRest_67 ?_
          refine xi_aload_n C 2 dX6_canLearnTheRest_68 rfl ?_
          refine xi_iload C 5 dX6_canLearnTheRest_69 rfl ?_
          replace h := ig h
          obtain ⟨c35, h⟩ := h
          refine xi_iald C 5 rfl c35 dX6_canLearnTheRest_71 ?_
          refine xi_ior C dX6_canLearnTheRest_72 ?_
          refine xi_iload C 3 dX6_canLearnTheRest_73 rfl ?_
          refine xi_icmp_ne C (tgt := 80) dX6_canLearnTheRest_75 rfl (fun c36 => ?_) (fun c36 => ?_)
          · replace h := (if_neg c36).symm.trans h
            refine xi_iinc C (v := y6 + 1) 5 [1, 2, 3, 4, 5, 0] (L2 := [(0, .ref a_t), (2, .int x2), (3, .ref (a_t_after_e_pieces 1)), (4, .int y4), (5, .int y5), (6, .int (y6 + 1))]) dX6_canLearnTheRest_80 rfl rfl (Nat.le_of_ble_eq_true rfl) rfl ?_
            refine xi_goto C (tgt := 46) dX6_canLearnTheRest_83 rfl ?_
            exact ih y4 y5 (y6 + 1) h
          · replace h := (if_pos c36).symm.trans h
            refine xi_iconst C (v := 1) dX6_canLearnTheRest_78 rfl ?_
            obtain rfl := Option.some.inj h
            exact hE _ _ _ dX6_canLearnTheRest_79 rfl rfl
  have B46_2 : ∀ (hkn0 : x1.toNatClampNeg = 2) (hfa0 : vp_in x1 4) (hfa1 : vp_in x1 5) (n : Nat) (y4 : Int32) (y5 : Int32) (y6 : Int32), fX6_canLearnTheRest_b46_k t_people t_after_e_pieces x2 2 n y4 y5 y6 = some r → sW X l (zR 2) D 7 0 0 46 [(0, .ref a_t), (2, .int x2), (3, .ref (a_t_after_e_pieces 2)), (4, .int y4), (5, .int y5), (6, .int y6)] [] [(a_t, .inr (6, [.ref a_t_after, .ref a_t_hears, .ref a_t_talks, .int t_people, .int t_limit])), (a_t_after, .inl (cT 5, 5, .inr (.inr (.inr (.inr (fun i => if i < 5 then some (a_t_after_e i) else none)))))), ((a_t_after_e 0), .inr (3, [.ref (a_t_after_e_pieces 0), .int (t_after_e_people 0)])), ((a_t_after_e_pieces 0), .inl (cT 0, 10, .inl (t_after_e_pieces 0))), ((a_t_after_e 1), .inr (3, [.ref (a_t_after_e_pieces 1), .int (t_after_e_people 1)])), ((a_t_after_e_pieces 1), .inl (cT 0, 10, .inl (t_after_e_pieces 1))), ((a_t_after_e 2), .inr (3, [.ref (a_t_after_e_pieces 2), .int (t_after_e_people 2)])), ((a_t_after_e_pieces 2), .inl (cT 0, 10, .inl (t_after_e_pieces 2))), ((a_t_after_e 3), .inr (3, [.ref (a_t_after_e_pieces 3), .int (t_after_e_people 3)])), ((a_t_after_e_pieces 3), .inl (cT 0, 10, .inl (t_after_e_pieces 3))), ((a_t_after_e 4), .inr (3, [.ref (a_t_after_e_pieces 4), .int (t_after_e_people 4)])), ((a_t_after_e_pieces 4), .inl (cT 0, 10, .inl (t_after_e_pieces 4))), (a_t_hears, .inl (cT 6, 4, .inr (.inr (.inr (.inr (fun i => if i < 4 then some (a_t_hears_e i) else none)))))), ((a_t_hears_e 0), .inl (cT 0, 10, .inl (t_hears_e 0))), ((a_t_hears_e 1), .inl (cT 0, 10, .inl (t_hears_e 1))), ((a_t_hears_e 2), .inl (cT 0, 10, .inl (t_hears_e 2))), ((a_t_hears_e 3), .inl (cT 0, 10, .inl (t_hears_e 3))), (a_t_talks, .inl (cT 6, 4, .inr (.inr (.inr (.inr (fun i => if i < 4 then some (a_t_talks_e i) else none)))))), ((a_t_talks_e 0), .inl (cT 0, 10, .inl (t_talks_e 0))), ((a_t_talks_e 1), .inl (cT 0, 10, .inl (t_talks_e 1))), ((a_t_talks_e 2), .inl (cT 0, 10, .inl (t_talks_e 2))), ((a_t_talks_e 3), .inl (cT 0, 10, .inl (t_talks_e 3)))] := by
    intro hkn0 hfa0 hfa1 n
    induction n with
    | zero =>
      intro y4 y5 y6 h
      exact zno ((fX6_canLearnTheRest_b46_k_0 _ _ _ _ _ _ _).symm.trans h)
    | succ n ih =>
      intro y4 y5 y6 h
      replace h := (fX6_canLearnTheRest_b46_k_s _ _ _ _ _ _ _ _).symm.trans h
      refine xi_iload C 5 dX6_canLearnTheRest_46 rfl ?_
      refine xi_aload_n C 0 dX6_canLearnTheRest_48 rfl ?_
      refine xi_get C zkX6 3 0 zlX6_25 (by decide) rfl rfl dX6_canLearnTheRest_49 ?_
      refine xi_icmp_ge C (tgt := 86) dX6_canLearnTheRest_52 rfl (fun c40 => ?_) (fun c40 => ?_)
      · replace h := (if_pos c40).symm.trans h
        refine xi_iconst C (v := 0) dX6_canLearnTheRest_86 rfl ?_
        obtain rfl := Option.some.inj h
        exact hE _ _ _ dX6_canLearnTheRest_87 rfl rfl
      · replace h := (if_neg c40).symm.trans h
        refine xi_iload C 4 dX6_canLearnTheRest_55 rfl ?_
        refine xi_iload C 5 dX6_canLearnTheRest_57 rfl ?_
        refine xi_callSr C (kX10_isIn l D cT y5 y6 (fX10_isIn y5 y6) rfl) zcX10_isIn zmX6_80 zsX10_isIn (zr rfl rfl) z00 rfl [] rfl rfl rfl (Nat.le_of_ble_eq_true rfl) dX6_canLearnTheRest_59 (fun z43 => ?_)
        refine xi_if_eq C (tgt := 80) dX6_canLearnTheRest_62 rfl (fun c44 => ?_) (fun c44 => ?_)
        · replace h := (if_pos c44).symm.trans h
          refine xi_iinc C (v := y6 + 1) 5 [1, 2, 3, 4, 5, 0] (L2 := [(0, .ref a_t), (2, .int x2), (3, .ref (a_t_after_e_pieces 2)), (4, .int y4), (5, .int y5), (6, .int (y6 + 1))]) dX6_canLearnTheRest_80 rfl rfl (Nat.le_of_ble_eq_true rfl) rfl ?_
          refine xi_goto C (tgt := 46) dX6_canLearnTheRest_83 rfl ?_
          exact ih y4 y5 (y6 + 1) h
        · replace h := (if_neg c44).symm.trans h
          refine xi_aload_n C 2 dX6_canLearnTheRest_65 rfl ?_
          refine xi_iload_n C 1 dX6_canLearnTheRest_66 rfl ?_
          replace h := ig h
          obtain ⟨c45, h⟩ := h
          refine xi_iald C 7 rfl c45 dX6_canLearnTheRest_67 ?_
          refine xi_aload_n C 2 dX6_canLearnTheRest_68 rfl ?_
          refine xi_iload C 5 dX6_canLearnTheRest_69 rfl ?_
          replace h := ig h
          obtain ⟨c46, h⟩ := h
          refine xi_iald C 7 rfl c46 dX6_canLearnTheRest_71 ?_
          refine xi_ior C dX6_canLearnTheRest_72 ?_
          refine xi_iload C 3 dX6_canLearnTheRest_73 rfl ?_
          refine xi_icmp_ne C (tgt := 80) dX6_canLearnTheRest_75 rfl (fun c47 => ?_) (fun c47 => ?_)
          · replace h := (if_neg c47).symm.trans h
            refine xi_iinc C (v := y6 + 1) 5 [1, 2, 3, 4, 5, 0] (L2 := [(0, .ref a_t), (2, .int x2), (3, .ref (a_t_after_e_pieces 2)), (4, .int y4), (5, .int y5), (6, .int (y6 + 1))]) dX6_canLearnTheRest_80 rfl rfl (Nat.le_of_ble_eq_true rfl) rfl ?_
            refine xi_goto C (tgt := 46) dX6_canLearnTheRest_83 rfl ?_
            exact ih y4 y5 (y6 + 1) h
          · replace h := (if_pos c47).symm.trans h
            refine xi_iconst C (v := 1) dX6_canLearnTheRest_78 rfl ?_
            obtain rfl := Option.some.inj h
            exact hE _ _ _ dX6_canLearnTheRest_79 rfl rfl
  have B46_3 : ∀ (hkn0 : x1.toNatClampNeg = 3) (hfa0 : vp_in x1 4) (hfa1 : vp_in x1 5) (n : Nat) (y4 : Int32) (y5 : Int32) (y6 : Int32), fX6_canLearnTheRest_b46_k t_people t_after_e_pieces x2 3 n y4 y5 y6 = some r → sW X l (zR 2) D 7 0 0 46 [(0, .ref a_t), (2, .int x2), (3, .ref (a_t_after_e_pieces 3)), (4, .int y4), (5, .int y5), (6, .int y6)] [] [(a_t, .inr (6, [.ref a_t_after, .ref a_t_hears, .ref a_t_talks, .int t_people, .int t_limit])), (a_t_after, .inl (cT 5, 5, .inr (.inr (.inr (.inr (fun i => if i < 5 then some (a_t_after_e i) else none)))))), ((a_t_after_e 0), .inr (3, [.ref (a_t_after_e_pieces 0), .int (t_after_e_people 0)])), ((a_t_after_e_pieces 0), .inl (cT 0, 10, .inl (t_after_e_pieces 0))), ((a_t_after_e 1), .inr (3, [.ref (a_t_after_e_pieces 1), .int (t_after_e_people 1)])), ((a_t_after_e_pieces 1), .inl (cT 0, 10, .inl (t_after_e_pieces 1))), ((a_t_after_e 2), .inr (3, [.ref (a_t_after_e_pieces 2), .int (t_after_e_people 2)])), ((a_t_after_e_pieces 2), .inl (cT 0, 10, .inl (t_after_e_pieces 2))), ((a_t_after_e 3), .inr (3, [.ref (a_t_after_e_pieces 3), .int (t_after_e_people 3)])), ((a_t_after_e_pieces 3), .inl (cT 0, 10, .inl (t_after_e_pieces 3))), ((a_t_after_e 4), .inr (3, [.ref (a_t_after_e_pieces 4), .int (t_after_e_people 4)])), ((a_t_after_e_pieces 4), .inl (cT 0, 10, .inl (t_after_e_pieces 4))), (a_t_hears, .inl (cT 6, 4, .inr (.inr (.inr (.inr (fun i => if i < 4 then some (a_t_hears_e i) else none)))))), ((a_t_hears_e 0), .inl (cT 0, 10, .inl (t_hears_e 0))), ((a_t_hears_e 1), .inl (cT 0, 10, .inl (t_hears_e 1))), ((a_t_hears_e 2), .inl (cT 0, 10, .inl (t_hears_e 2))), ((a_t_hears_e 3), .inl (cT 0, 10, .inl (t_hears_e 3))), (a_t_talks, .inl (cT 6, 4, .inr (.inr (.inr (.inr (fun i => if i < 4 then some (a_t_talks_e i) else none)))))), ((a_t_talks_e 0), .inl (cT 0, 10, .inl (t_talks_e 0))), ((a_t_talks_e 1), .inl (cT 0, 10, .inl (t_talks_e 1))), ((a_t_talks_e 2), .inl (cT 0, 10, .inl (t_talks_e 2))), ((a_t_talks_e 3), .inl (cT 0, 10, .inl (t_talks_e 3)))] := by
    intro hkn0 hfa0 hfa1 n
    induction n with
    | zero =>
      intro y4 y5 y6 h
      exact zno ((fX6_canLearnTheRest_b46_k_0 _ _ _ _ _ _ _).symm.trans h)
    | succ n ih =>
      intro y4 y5 y6 h
      replace h := (fX6_canLearnTheRest_b46_k_s _ _ _ _ _ _ _ _).symm.trans h
      refine xi_iload C 5 dX6_canLearnTheRest_46 rfl ?_
      refine xi_aload_n C 0 dX6_canLearnTheRest_48 rfl ?_
      refine xi_get C zkX6 3 0 zlX6_25 (by decide) rfl rfl dX6_canLearnTheRest_49 ?_
      refine xi_icmp_ge C (tgt := 86) dX6_canLearnTheRest_52 rfl (fun c51 => ?_) (fun c51 => ?_)
      · replace h := (if_pos c51).symm.trans h
        refine xi_iconst C (v := 0) dX6_canLearnTheRest_86 rfl ?_
        obtain rfl := Option.some.inj h
        exact hE _ _ _ dX6_canLearnTheRest_87 rfl rfl
      · replace h := (if_neg c51).symm.trans h
        refine xi_iload C 4 dX6_canLearnTheRest_55 rfl ?_
        refine xi_iload C 5 dX6_canLearnTheRest_57 rfl ?_
        refine xi_callSr C (kX10_isIn l D cT y5 y6 (fX10_isIn y5 y6) rfl) zcX10_isIn zmX6_80 zsX10_isIn (zr rfl rfl) z00 rfl [] rfl rfl rfl (Nat.le_of_ble_eq_true rfl) dX6_canLearnTheRest_59 (fun z54 => ?_)
        refine xi_if_eq C (tgt := 80) dX6_canLearnTheRest_62 rfl (fun c55 => ?_) (fun c55 => ?_)
        · replace h := (if_pos c55).symm.trans h
          refine xi_iinc C (v := y6 + 1) 5 [1, 2, 3, 4, 5, 0] (L2 := [(0, .ref a_t), (2, .int x2), (3, .ref (a_t_after_e_pieces 3)), (4, .int y4), (5, .int y5), (6, .int (y6 + 1))]) dX6_canLearnTheRest_80 rfl rfl (Nat.le_of_ble_eq_true rfl) rfl ?_
          refine xi_goto C (tgt := 46) dX6_canLearnTheRest_83 rfl ?_
          exact ih y4 y5 (y6 + 1) h
        · replace h := (if_neg c55).symm.trans h
          refine xi_aload_n C 2 dX6_canLearnTheRest_65 rfl ?_
          refine xi_iload_n C 1 dX6_canLearnTheRest_66 rfl ?_
          replace h := ig h
          obtain ⟨c56, h⟩ := h
          refine xi_iald C 9 rfl c56 dX6_canLearnTheRest_67 ?_
          refine xi_aload_n C 2 dX6_canLearnTheRest_68 rfl ?_
          refine xi_iload C 5 dX6_canLearnTheRest_69 rfl ?_
          replace h := ig h
          obtain ⟨c57, h⟩ := h
          refine xi_iald C 9 rfl c57 dX6_canLearnTheRest_71 ?_
          refine xi_ior C dX6_canLearnTheRest_72 ?_
          refine xi_iload C 3 dX6_canLearnTheRest_73 rfl ?_
          refine xi_icmp_ne C (tgt := 80) dX6_canLearnTheRest_75 rfl (fun c58 => ?_) (fun c58 => ?_)
          · replace h := (if_neg c58).symm.trans h
            refine xi_iinc C (v := y6 + 1) 5 [1, 2, 3, 4, 5, 0] (L2 := [(0, .ref a_t), (2, .int x2), (3, .ref (a_t_after_e_pieces 3)), (4, .int y4), (5, .int y5), (6, .int (y6 + 1))]) dX6_canLearnTheRest_80 rfl rfl (Nat.le_of_ble_eq_true rfl) rfl ?_
            refine xi_goto C (tgt := 46) dX6_canLearnTheRest_83 rfl ?_
            exact ih y4 y5 (y6 + 1) h
          · replace h := (if_pos c58).symm.trans h
            refine xi_iconst C (v := 1) dX6_canLearnTheRest_78 rfl ?_
            obtain rfl := Option.some.inj h
            exact hE _ _ _ dX6_canLearnTheRest_79 rfl rfl
  refine xi_drop (L2 := [(0, .ref a_t), (1, .int x1), (2, .int x2)]) [0, 1, 2] rfl ?_
  refine xi_aload_n C 0 dX6_canLearnTheRest_0 rfl ?_
  refine xi_get C zkX6 0 0 zlX6_11 (by decide) rfl rfl dX6_canLearnTheRest_1 ?_
  refine xi_iload_n C 1 dX6_canLearnTheRest_4 rfl ?_
  replace h := ig h
  obtain ⟨c1, h⟩ := h
  rcases zk5 c1 with hj3 | hj3 | hj3 | hj3 | hj3
  · replace h := nmE hj3.symm h
    refine xi_aald C 1 5 (b := (a_t_after_e 0)) rfl rfl c1 (by rw [hj3]; rfl) dX6_canLearnTheRest_5 ?_
    refine xi_get C zkX3 0 2 zlX6_102 (by decide) rfl rfl dX6_canLearnTheRest_6 ?_
    refine xi_astore_n C [1, 2, 3, 0] (L2 := [(0, .ref a_t), (1, .int x1), (2, .int x2), (3, .ref (a_t_after_e_pieces 0))]) dX6_canLearnTheRest_9 (Nat.le_of_ble_eq_true rfl) rfl ?_
    refine xi_iconst C (v := 1) dX6_canLearnTheRest_10 rfl ?_
    refine xi_aload_n C 0 dX6_canLearnTheRest_11 rfl ?_
    refine xi_get C zkX6 3 0 zlX6_25 (by decide) rfl rfl dX6_canLearnTheRest_12 ?_
    refine xi_ishl C dX6_canLearnTheRest_15 ?_
    refine xi_iconst C (v := 1) dX6_canLearnTheRest_16 rfl ?_
    refine xi_isub C dX6_canLearnTheRest_17 ?_
    refine xi_istore C [1, 2, 3, 4, 0] (L2 := [(0, .ref a_t), (1, .int x1), (2, .int x2), (3, .ref (a_t_after_e_pieces 0)), (4, .int ((1 <<< (t_people &&& 31)) - 1))]) dX6_canLearnTheRest_18 (Nat.le_of_ble_eq_true rfl) rfl ?_
    refine xi_aload_n C 0 dX6_canLearnTheRest_20 rfl ?_
    refine xi_get C zkX6 2 0 zlX6_22 (by decide) rfl rfl dX6_canLearnTheRest_21 ?_
    refine xi_iload_n C 1 dX6_canLearnTheRest_24 rfl ?_
    replace h := ig h
    obtain ⟨c15, h⟩ := h
    refine xi_aaldA C 17 (b := (a_t_talks_e 0)) rfl c15 (by rw [hj3]; rfl) dX6_canLearnTheRest_25 ?_
    refine xi_iload_n C 2 dX6_canLearnTheRest_26 rfl ?_
    replace h := ig h
    obtain ⟨c16, h⟩ := h
    refine xi_iald C 18 rfl c16 dX6_canLearnTheRest_27 ?_
    refine xi_aload_n C 0 dX6_canLearnTheRest_28 rfl ?_
    refine xi_get C zkX6 1 0 zlX6_19 (by decide) rfl rfl dX6_canLearnTheRest_29 ?_
    refine xi_iload_n C 1 dX6_canLearnTheRest_32 rfl ?_
    refine xi_aaldA C 12 (b := (a_t_hears_e 0)) rfl c15 (by rw [hj3]; rfl) dX6_canLearnTheRest_33 ?_
    refine xi_iload_n C 2 dX6_canLearnTheRest_34 rfl ?_
    refine xi_iald C 13 rfl c16 dX6_canLearnTheRest_35 ?_
    refine xi_ior C dX6_canLearnTheRest_36 ?_
    refine xi_iconst C (v := 1) dX6_canLearnTheRest_37 rfl ?_
    refine xi_iload_n C 2 dX6_canLearnTheRest_38 rfl ?_
    refine xi_ishl C dX6_canLearnTheRest_39 ?_
    refine xi_ior C dX6_canLearnTheRest_40 ?_
    refine xi_topi (fun w17 ew17 => ?_)
    replace h := nmE ew17 h
    refine xi_istore C [1, 2, 3, 4, 5, 0] (L2 := [(0, .ref a_t), (1, .int x1), (2, .int x2), (3, .ref (a_t_after_e_pieces 0)), (4, .int ((1 <<< (t_people &&& 31)) - 1)), (5, .int w17)]) dX6_canLearnTheRest_41 (Nat.le_of_ble_eq_true rfl) rfl ?_
    refine xi_iconst C (v := 0) dX6_canLearnTheRest_43 rfl ?_
    refine xi_istore C [1, 2, 3, 4, 5, 6, 0] (L2 := [(0, .ref a_t), (1, .int x1), (2, .int x2), (3, .ref (a_t_after_e_pieces 0)), (4, .int ((1 <<< (t_people &&& 31)) - 1)), (5, .int w17), (6, .int 0)]) dX6_canLearnTheRest_44 (Nat.le_of_ble_eq_true rfl) rfl ?_
    refine xi_drop (L2 := [(0, .ref a_t), (2, .int x2), (3, .ref (a_t_after_e_pieces 0)), (4, .int ((1 <<< (t_people &&& 31)) - 1)), (5, .int w17), (6, .int 0)]) [0, 2, 3, 4, 5, 6] rfl ?_
    exact B46_0 hj3 c15 c1 FU ((1 <<< (t_people &&& 31)) - 1) w17 0 h
  · replace h := nmE hj3.symm h
    refine xi_aald C 1 5 (b := (a_t_after_e 1)) rfl rfl c1 (by rw [hj3]; rfl) dX6_canLearnTheRest_5 ?_
    refine xi_get C zkX3 0 4 zlX6_102 (by decide) rfl rfl dX6_canLearnTheRest_6 ?_
    refine xi_astore_n C [1, 2, 3, 0] (L2 := [(0, .ref a_t), (1, .int x1), (2, .int x2), (3, .ref (a_t_after_e_pieces 1))]) dX6_canLearnTheRest_9 (Nat.le_of_ble_eq_true rfl) rfl ?_
    refine xi_iconst C (v := 1) dX6_canLearnTheRest_10 rfl ?_
    refine xi_aload_n C 0 dX6_canLearnTheRest_11 rfl ?_
    refine xi_get C zkX6 3 0 zlX6_25 (by decide) rfl rfl dX6_canLearnTheRest_12 ?_
    refine xi_ishl C dX6_canLearnTheRest_15 ?_
    refine xi_iconst C (v := 1) dX6_canLearnTheRest_16 rfl ?_
    refine xi_isub C dX6_canLearnTheRest_17 ?_
    refine xi_istore C [1, 2, 3, 4, 0] (L2 := [(0, .ref a_t), (1, .int x1), (2, .int x2), (3, .ref (a_t_after_e_pieces 1)), (4, .int ((1 <<< (t_people &&& 31)) - 1))]) dX6_canLearnTheRest_18 (Nat.le_of_ble_eq_true rfl) rfl ?_
    refine xi_aload_n C 0 dX6_canLearnTheRest_20 rfl ?_
    refine xi_get C zkX6 2 0 zlX6_22 (by decide) rfl rfl dX6_canLearnTheRest_21 ?_
    refine xi_iload_n C 1 dX6_canLearnTheRest_24 rfl ?_
    replace h := ig h
    obtain ⟨c26, h⟩ := h
    refine xi_aaldA C 17 (b := (a_t_talks_e 1)) rfl c26 (by rw [hj3]; rfl) dX6_canLearnTheRest_25 ?_
    refine xi_iload_n C 2 dX6_canLearnTheRest_26 rfl ?_
    replace h := ig h
    obtain ⟨c27, h⟩ := h
    refine xi_iald C 19 rfl c27 dX6_canLearnTheRest_27 ?_
    refine xi_aload_n C 0 dX6_canLearnTheRest_28 rfl ?_
    refine xi_get C zkX6 1 0 zlX6_19 (by decide) rfl rfl dX6_canLearnTheRest_29 ?_
    refine xi_iload_n C 1 dX6_canLearnTheRest_32 rfl ?_
    refine xi_aaldA C 12 (b := (a_t_hears_e 1)) rfl c26 (by rw [hj3]; rfl) dX6_canLearnTheRest_33 ?_
    refine xi_iload_n C 2 dX6_canLearnTheRest_34 rfl ?_
    refine xi_iald C 14 rfl c27 dX6_canLearnTheRest_35 ?_
    refine xi_ior C dX6_canLearnTheRest_36 ?_
    refine xi_iconst C (v := 1) dX6_canLearnTheRest_37 rfl ?_
    refine xi_iload_n C 2 dX6_canLearnTheRest_38 rfl ?_
    refine xi_ishl C dX6_canLearnTheRest_39 ?_
    refine xi_ior C dX6_canLearnTheRest_40 ?_
    refine xi_topi (fun w28 ew28 => ?_)
    replace h := nmE ew28 h
    refine xi_istore C [1, 2, 3, 4, 5, 0] (L2 := [(0, .ref a_t), (1, .int x1), (2, .int x2), (3, .ref (a_t_after_e_pieces 1)), (4, .int ((1 <<< (t_people &&& 31)) - 1)), (5, .int w28)]) dX6_canLearnTheRest_41 (Nat.le_of_ble_eq_true rfl) rfl ?_
    refine xi_iconst C (v := 0) dX6_canLearnTheRest_43 rfl ?_
    refine xi_istore C [1, 2, 3, 4, 5, 6, 0] (L2 := [(0, .ref a_t), (1, .int x1), (2, .int x2), (3, .ref (a_t_after_e_pieces 1)), (4, .int ((1 <<< (t_people &&& 31)) - 1)), (5, .int w28), (6, .int 0)]) dX6_canLearnTheRest_44 (Nat.le_of_ble_eq_true rfl) rfl ?_
    refine xi_drop (L2 := [(0, .ref a_t), (2, .int x2), (3, .ref (a_t_after_e_pieces 1)), (4, .int ((1 <<< (t_people &&& 31)) - 1)), (5, .int w28), (6, .int 0)]) [0, 2, 3, 4, 5, 6] rfl ?_
    exact B46_1 hj3 c26 c1 FU ((1 <<< (t_people &&& 31)) - 1) w28 0 h
  · replace h := nmE hj3.symm h
    refine xi_aald C 1 5 (b := (a_t_after_e 2)) rfl rfl c1 (by rw [hj3]; rfl) dX6_canLearnTheRest_5 ?_
    refine xi_get C zkX3 0 6 zlX6_102 (by decide) rfl rfl dX6_canLearnTheRest_6 ?_
    refine xi_astore_n C [1, 2, 3, 0] (L2 := [(0, .ref a_t), (1, .int x1), (2, .int x2), (3, .ref (a_t_after_e_pieces 2))]) dX6_canLearnTheRest_9 (Nat.le_of_ble_eq_true rfl) rfl ?_
    refine xi_iconst C (v := 1) dX6_canLearnTheRest_10 rfl ?_
    refine xi_aload_n C 0 dX6_canLearnTheRest_11 rfl ?_
    refine xi_get C zkX6 3 0 zlX6_25 (by decide) rfl rfl dX6_canLearnTheRest_12 ?_
    refine xi_ishl C dX6_canLearnTheRest_15 ?_
    refine xi_iconst C (v := 1) dX6_canLearnTheRest_16 rfl ?_
    refine xi_isub C dX6_canLearnTheRest_17 ?_
    refine xi_istore C [1, 2, 3, 4, 0] (L2 := [(0, .ref a_t), (1, .int x1), (2, .int x2), (3, .ref (a_t_after_e_pieces 2)), (4, .int ((1 <<< (t_people &&& 31)) - 1))]) dX6_canLearnTheRest_18 (Nat.le_of_ble_eq_true rfl) rfl ?_
    refine xi_aload_n C 0 dX6_canLearnTheRest_20 rfl ?_
    refine xi_get C zkX6 2 0 zlX6_22 (by decide) rfl rfl dX6_canLearnTheRest_21 ?_
    refine xi_iload_n C 1 dX6_canLearnTheRest_24 rfl ?_
    replace h := ig h
    obtain ⟨c37, h⟩ := h
    refine xi_aaldA C 17 (b := (a_t_talks_e 2)) rfl c37 (by rw [hj3]; rfl) dX6_canLearnTheRest_25 ?_
    refine xi_iload_n C 2 dX6_canLearnTheRest_26 rfl ?_
    replace h := ig h
    obtain ⟨c38, h⟩ := h
    refine xi_iald C 20 rfl c38 dX6_canLearnTheRest_27 ?_
    refine xi_aload_n C 0 dX6_canLearnTheRest_28 rfl ?_
    refine xi_get C zkX6 1 0 zlX6_19 (by decide) rfl rfl dX6_canLearnTheRest_29 ?_
    refine xi_iload_n C 1 dX6_canLearnTheRest_32 rfl ?_
    refine xi_aaldA C 12 (b := (a_t_hears_e 2)) rfl c37 (by rw [hj3]; rfl) dX6_canLearnTheRest_33 ?_
    refine xi_iload_n C 2 dX6_canLearnTheRest_34 rfl ?_
    refine xi_iald C 15 rfl c38 dX6_canLearnTheRest_35 ?_
    refine xi_ior C dX6_canLearnTheRest_36 ?_
    refine xi_iconst C (v := 1) dX6_canLearnTheRest_37 rfl ?_
    refine xi_iload_n C 2 dX6_canLearnTheRest_38 rfl ?_
    refine xi_ishl C dX6_canLearnTheRest_39 ?_
    refine xi_ior C dX6_canLearnTheRest_40 ?_
    refine xi_topi (fun w39 ew39 => ?_)
    replace h := nmE ew39 h
    refine xi_istore C [1, 2, 3, 4, 5, 0] (L2 := [(0, .ref a_t), (1, .int x1), (2, .int x2), (3, .ref (a_t_after_e_pieces 2)), (4, .int ((1 <<< (t_people &&& 31)) - 1)), (5, .int w39)]) dX6_canLearnTheRest_41 (Nat.le_of_ble_eq_true rfl) rfl ?_
    refine xi_iconst C (v := 0) dX6_canLearnTheRest_43 rfl ?_
    refine xi_istore C [1, 2, 3, 4, 5, 6, 0] (L2 := [(0, .ref a_t), (1, .int x1), (2, .int x2), (3, .ref (a_t_after_e_pieces 2)), (4, .int ((1 <<< (t_people &&& 31)) - 1)), (5, .int w39), (6, .int 0)]) dX6_canLearnTheRest_44 (Nat.le_of_ble_eq_true rfl) rfl ?_
    refine xi_drop (L2 := [(0, .ref a_t), (2, .int x2), (3, .ref (a_t_after_e_pieces 2)), (4, .int ((1 <<< (t_people &&& 31)) - 1)), (5, .int w39), (6, .int 0)]) [0, 2, 3, 4, 5, 6] rfl ?_
    exact B46_2 hj3 c37 c1 FU ((1 <<< (t_people &&& 31)) - 1) w39 0 h
  · replace h := nmE hj3.symm h
    refine xi_aald C 1 5 (b := (a_t_after_e 3)) rfl rfl c1 (by rw [hj3]; rfl) dX6_canLearnTheRest_5 ?_
    refine xi_get C zkX3 0 8 zlX6_102 (by decide) rfl rfl dX6_canLearnTheRest_6 ?_
    refine xi_astore_n C [1, 2, 3, 0] (L2 := [(0, .ref a_t), (1, .int x1), (2, .int x2), (3, .ref (a_t_after_e_pieces 3))]) dX6_canLearnTheRest_9 (Nat.le_of_ble_eq_true rfl) rfl ?_
    refine xi_iconst C (v := 1) dX6_canLearnTheRest_10 rfl ?_
    refine xi_aload_n C 0 dX6_canLearnTheRest_11 rfl ?_
    refine xi_get C zkX6 3 0 zlX6_25 (by decide) rfl rfl dX6_canLearnTheRest_12 ?_
    refine xi_ishl C dX6_canLearnTheRest_15 ?_
    refine xi_iconst C (v := 1) dX6_canLearnTheRest_16 rfl ?_
    refine xi_isub C dX6_canLearnTheRest_17 ?_
    refine xi_istore C [1, 2, 3, 4, 0] (L2 := [(0, .ref a_t), (1, .int x1), (2, .int x2), (3, .ref (a_t_after_e_pieces 3)), (4, .int ((1 <<< (t_people &&& 31)) - 1))]) dX6_canLearnTheRest_18 (Nat.le_of_ble_eq_true rfl) rfl ?_
    refine xi_aload_n C 0 dX6_canLearnTheRest_20 rfl ?_
    refine xi_get C zkX6 2 0 zlX6_22 (by decide) rfl rfl dX6_canLearnTheRest_21 ?_
    refine xi_iload_n C 1 dX6_canLearnTheRest_24 rfl ?_
    replace h := ig h
    obtain ⟨c48, h⟩ := h
    refine xi_aaldA C 17 (b := (a_t_talks_e 3)) rfl c48 (by rw [hj3]; rfl) dX6_canLearnTheRest_25 ?_
    refine xi_iload_n C 2 dX6_canLearnTheRest_26 rfl ?_
    replace h := ig h
    obtain ⟨c49, h⟩ := h
    refine xi_iald C 21 rfl c49 dX6_canLearnTheRest_27 ?_
    refine xi_aload_n C 0 dX6_canLearnTheRest_28 rfl ?_
    refine xi_get C zkX6 1 0 zlX6_19 (by decide) rfl rfl dX6_canLearnTheRest_29 ?_
    refine xi_iload_n C 1 dX6_canLearnTheRest_32 rfl ?_
    refine xi_aaldA C 12 (b := (a_t_hears_e 3)) rfl c48 (by rw [hj3]; rfl) dX6_canLearnTheRest_33 ?_
    refine xi_iload_n C 2 dX6_canLearnTheRest_34 rfl ?_
    refine xi_iald C 16 rfl c49 dX6_canLearnTheRest_35 ?_
    refine xi_ior C dX6_canLearnTheRest_36 ?_
    refine xi_iconst C (v := 1) dX6_canLearnTheRest_37 rfl ?_
    refine xi_iload_n C 2 dX6_canLearnTheRest_38 rfl ?_
    refine xi_ishl C dX6_canLearnTheRest_39 ?_
    refine xi_ior C dX6_canLearnTheRest_40 ?_
    refine xi_topi (fun w50 ew50 => ?_)
    replace h := nmE ew50 h
    refine xi_istore C [1, 2, 3, 4, 5, 0] (L2 := [(0, .ref a_t), (1, .int x1), (2, .int x2), (3, .ref (a_t_after_e_pieces 3)), (4, .int ((1 <<< (t_people &&& 31)) - 1)), (5, .int w50)]) dX6_canLearnTheRest_41 (Nat.le_of_ble_eq_true rfl) rfl ?_
    refine xi_iconst C (v := 0) dX6_canLearnTheRest_43 rfl ?_
    refine xi_istore C [1, 2, 3, 4, 5, 6, 0] (L2 := [(0, .ref a_t), (1, .int x1), (2, .int x2), (3, .ref (a_t_after_e_pieces 3)), (4, .int ((1 <<< (t_people &&& 31)) - 1)), (5, .int w50), (6, .int 0)]) dX6_canLearnTheRest_44 (Nat.le_of_ble_eq_true rfl) rfl ?_
    refine xi_drop (L2 := [(0, .ref a_t), (2, .int x2), (3, .ref (a_t_after_e_pieces 3)), (4, .int ((1 <<< (t_people &&& 31)) - 1)), (5, .int w50), (6, .int 0)]) [0, 2, 3, 4, 5, 6] rfl ?_
    exact B46_3 hj3 c48 c1 FU ((1 <<< (t_people &&& 31)) - 1) w50 0 h
  · replace h := nmE hj3.symm h
    refine xi_aald C 1 5 (b := (a_t_after_e 4)) rfl rfl c1 (by rw [hj3]; rfl) dX6_canLearnTheRest_5 ?_
    refine xi_get C zkX3 0 10 zlX6_102 (by decide) rfl rfl dX6_canLearnTheRest_6 ?_
    refine xi_astore_n C [1, 2, 3, 0] (L2 := [(0, .ref a_t), (1, .int x1), (2, .int x2), (3, .ref (a_t_after_e_pieces 4))]) dX6_canLearnTheRest_9 (Nat.le_of_ble_eq_true rfl) rfl ?_
    refine xi_iconst C (v := 1) dX6_canLearnTheRest_10 rfl ?_
    refine xi_aload_n C 0 dX6_canLearnTheRest_11 rfl ?_
    refine xi_get C zkX6 3 0 zlX6_25 (by decide) rfl rfl dX6_canLearnTheRest_12 ?_
    refine xi_ishl C dX6_canLearnTheRest_15 ?_
    refine xi_iconst C (v := 1) dX6_canLearnTheRest_16 rfl ?_
    refine xi_isub C dX6_canLearnTheRest_17 ?_
    refine xi_istore C [1, 2, 3, 4, 0] (L2 := [(0, .ref a_t), (1, .int x1), (2, .int x2), (3, .ref (a_t_after_e_pieces 4)), (4, .int ((1 <<< (t_people &&& 31)) - 1))]) dX6_canLearnTheRest_18 (Nat.le_of_ble_eq_true rfl) rfl ?_
    refine xi_aload_n C 0 dX6_canLearnTheRest_20 rfl ?_
    refine xi_get C zkX6 2 0 zlX6_22 (by decide) rfl rfl dX6_canLearnTheRest_21 ?_
    refine xi_iload_n C 1 dX6_canLearnTheRest_24 rfl ?_
    replace h := ig h
    obtain ⟨c59, h⟩ := h
    exact zkx c59 hj3 (by decide)
def fX6_allCanLearnTheRest_b2 (t_people : Int32) (t_after_e_pieces : Nat → Nat → Int32) (t_hears_e : Nat → Nat → Int32) (t_talks_e : Nat → Nat → Int32) (x1 : Int32) : Nat → Int32 → Option Int32
  | 0, _ => none
  | n + 1, y2 => if t_people ≤ y2 then some (1 : Int32) else (fX6_canLearnTheRest t_people t_after_e_pieces t_hears_e t_talks_e x1 y2).bind (fun u2 => if u2 = 0 then some (0 : Int32) else (fX6_allCanLearnTheRest_b2 t_people t_after_e_pieces t_hears_e t_talks_e x1 n) (y2 + 1))
theorem fX6_allCanLearnTheRest_b2_0 (t_people : Int32) (t_after_e_pieces : Nat → Nat → Int32) (t_hears_e : Nat → Nat → Int32) (t_talks_e : Nat → Nat → Int32) (x1 : Int32) (y2 : Int32) : fX6_allCanLearnTheRest_b2 t_people t_after_e_pieces t_hears_e t_talks_e x1 0 y2 = none := rfl
theorem fX6_allCanLearnTheRest_b2_s (t_people : Int32) (t_after_e_pieces : Nat → Nat → Int32) (t_hears_e : Nat → Nat → Int32) (t_talks_e : Nat → Nat → Int32) (x1 : Int32) (n : Nat) (y2 : Int32) : fX6_allCanLearnTheRest_b2 t_people t_after_e_pieces t_hears_e t_talks_e x1 (n + 1) y2 = (if t_people ≤ y2 then some (1 : Int32) else (fX6_canLearnTheRest t_people t_after_e_pieces t_hears_e t_talks_e x1 y2).bind (fun u2 => if u2 = 0 then some (0 : Int32) else (fX6_allCanLearnTheRest_b2 t_people t_after_e_pieces t_hears_e t_talks_e x1 n) (y2 + 1))) := rfl
def fX6_allCanLearnTheRest (t_people : Int32) (t_after_e_pieces : Nat → Nat → Int32) (t_hears_e : Nat → Nat → Int32) (t_talks_e : Nat → Nat → Int32) (x1 : Int32) : Option Int32 := fX6_allCanLearnTheRest_b2 t_people t_after_e_pieces t_hears_e t_talks_e x1 FU 0
set_option maxRecDepth 100000 in
set_option maxHeartbeats 4000000 in
theorem kX6_allCanLearnTheRest (l : Launch) (D : va_G) (cT : Nat → ClassId) (a_t : Nat) (a_t_after : Nat) (a_t_hears : Nat) (a_t_talks : Nat) (a_t_after_e : Nat → Nat) (a_t_after_e_pieces : Nat → Nat) (a_t_hears_e : Nat → Nat) (a_t_talks_e : Nat → Nat) (t_people : Int32) (t_limit : Int32) (t_after_e_people : Nat → Int32) (t_after_e_pieces : Nat → Nat → Int32) (t_hears_e : Nat → Nat → Int32) (t_talks_e : Nat → Nat → Int32) (x1 : Int32) (r : Int32) (h : fX6_allCanLearnTheRest t_people t_after_e_pieces t_hears_e t_talks_e x1 = some r) : sM l yX6_allCanLearnTheRest cX6_allCanLearnTheRest 3 (some .boolean) (zR 3) D cT [.ref a_t, .int x1] [(a_t, .inr (6, [.ref a_t_after, .ref a_t_hears, .ref a_t_talks, .int t_people, .int t_limit])), (a_t_after, .inl (cT 5, 5, .inr (.inr (.inr (.inr (fun i => if i < 5 then some (a_t_after_e i) else none)))))), ((a_t_after_e 0), .inr (3, [.ref (a_t_after_e_pieces 0), .int (t_after_e_people 0)])), ((a_t_after_e_pieces 0), .inl (cT 0, 10, .inl (t_after_e_pieces 0))), ((a_t_after_e 1), .inr (3, [.ref (a_t_after_e_pieces 1), .int (t_after_e_people 1)])), ((a_t_after_e_pieces 1), .inl (cT 0, 10, .inl (t_after_e_pieces 1))), ((a_t_after_e 2), .inr (3, [.ref (a_t_after_e_pieces 2), .int (t_after_e_people 2)])), ((a_t_after_e_pieces 2), .inl (cT 0, 10, .inl (t_after_e_pieces 2))), ((a_t_after_e 3), .inr (3, [.ref (a_t_after_e_pieces 3), .int (t_after_e_people 3)])), ((a_t_after_e_pieces 3), .inl (cT 0, 10, .inl (t_after_e_pieces 3))), ((a_t_after_e 4), .inr (3, [.ref (a_t_after_e_pieces 4), .int (t_after_e_people 4)])), ((a_t_after_e_pieces 4), .inl (cT 0, 10, .inl (t_after_e_pieces 4))), (a_t_hears, .inl (cT 6, 4, .inr (.inr (.inr (.inr (fun i => if i < 4 then some (a_t_hears_e i) else none)))))), ((a_t_hears_e 0), .inl (cT 0, 10, .inl (t_hears_e 0))), ((a_t_hears_e 1), .inl (cT 0, 10, .inl (t_hears_e 1))), ((a_t_hears_e 2), .inl (cT 0, 10, .inl (t_hears_e 2))), ((a_t_hears_e 3), .inl (cT 0, 10, .inl (t_hears_e 3))), (a_t_talks, .inl (cT 6, 4, .inr (.inr (.inr (.inr (fun i => if i < 4 then some (a_t_talks_e i) else none)))))), ((a_t_talks_e 0), .inl (cT 0, 10, .inl (t_talks_e 0))), ((a_t_talks_e 1), .inl (cT 0, 10, .inl (t_talks_e 1))), ((a_t_talks_e 2), .inl (cT 0, 10, .inl (t_talks_e 2))), ((a_t_talks_e 3), .inl (cT 0, 10, .inl (t_talks_e 3)))] (some (.int r)) [(a_t, .inr (6, [.ref a_t_after, .ref a_t_hears, .ref a_t_talks, .int t_people, .int t_limit])), (a_t_after, .inl (cT 5, 5, .inr (.inr (.inr (.inr (fun i => if i < 5 then some (a_t_after_e i) else none)))))), ((a_t_after_e 0), .inr (3, [.ref (a_t_after_e_pieces 0), .int (t_after_e_people 0)])), ((a_t_after_e_pieces 0), .inl (cT 0, 10, .inl (t_after_e_pieces 0))), ((a_t_after_e 1), .inr (3, [.ref (a_t_after_e_pieces 1), .int (t_after_e_people 1)])), ((a_t_after_e_pieces 1), .inl (cT 0, 10, .inl (t_after_e_pieces 1))), ((a_t_after_e 2), .inr (3, [.ref (a_t_after_e_pieces 2), .int (t_after_e_people 2)])), ((a_t_after_e_pieces 2), .inl (cT 0, 10, .inl (t_after_e_pieces 2))), ((a_t_after_e 3), .inr (3, [.ref (a_t_after_e_pieces 3), .int (t_after_e_people 3)])), ((a_t_after_e_pieces 3), .inl (cT 0, 10, .inl (t_after_e_pieces 3))), ((a_t_after_e 4), .inr (3, [.ref (a_t_after_e_pieces 4), .int (t_after_e_people 4)])), ((a_t_after_e_pieces 4), .inl (cT 0, 10, .inl (t_after_e_pieces 4))), (a_t_hears, .inl (cT 6, 4, .inr (.inr (.inr (.inr (fun i => if i < 4 then some (a_t_hears_e i) else none)))))), ((a_t_hears_e 0), .inl (cT 0, 10, .inl (t_hears_e 0))), ((a_t_hears_e 1), .inl (cT 0, 10, .inl (t_hears_e 1))), ((a_t_hears_e 2), .inl (cT 0, 10, .inl (t_hears_e 2))), ((a_t_hears_e 3), .inl (cT 0, 10, .inl (t_hears_e 3))), (a_t_talks, .inl (cT 6, 4, .inr (.inr (.inr (.inr (fun i => if i < 4 then some (a_t_talks_e i) else none)))))), ((a_t_talks_e 0), .inl (cT 0, 10, .inl (t_talks_e 0))), ((a_t_talks_e 1), .inl (cT 0, 10, .inl (t_talks_e 1))), ((a_t_talks_e 2), .inl (cT 0, 10, .inl (t_talks_e 2))), ((a_t_talks_e 3), .inl (cT 0, 10, .inl (t_talks_e 3)))] := by
  refine sM_bool rfl (Nat.le_of_ble_eq_true rfl) ?_
  intro X C hE
  have B2 : ∀ (n : Nat) (y2 : Int32), fX6_allCanLearnTheRest_b2 t_people t_after_e_pieces t_hears_e t_talks_e x1 n y2 = some r → sW X l (zR 3) D 3 0 0 2 [(0, .ref a_t), (1, .int x1), (2, .int y2)] [] [(a_t, .inr (6, [.ref a_t_after, .ref a_t_hears, .ref a_t_talks, .int t_people, .int t_limit])), (a_t_after, .inl (cT 5, 5, .inr (.inr (.inr (.inr (fun i => if i < 5 then some (a_t_after_e i) else none)))))), ((a_t_after_e 0), .inr (3, [.ref (a_t_after_e_pieces 0), .int (t_after_e_people 0)])), ((a_t_after_e_pieces 0), .inl (cT 0, 10, .inl (t_after_e_pieces 0))), ((a_t_after_e 1), .inr (3, [.ref (a_t_after_e_pieces 1), .int (t_after_e_people 1)])), ((a_t_after_e_pieces 1), .inl (cT 0, 10, .inl (t_after_e_pieces 1))), ((a_t_after_e 2), .inr (3, [.ref (a_t_after_e_pieces 2), .int (t_after_e_people 2)])), ((a_t_after_e_pieces 2), .inl (cT 0, 10, .inl (t_after_e_pieces 2))), ((a_t_after_e 3), .inr (3, [.ref (a_t_after_e_pieces 3), .int (t_after_e_people 3)])), ((a_t_after_e_pieces 3), .inl (cT 0, 10, .inl (t_after_e_pieces 3))), ((a_t_after_e 4), .inr (3, [.ref (a_t_after_e_pieces 4), .int (t_after_e_people 4)])), ((a_t_after_e_pieces 4), .inl (cT 0, 10, .inl (t_after_e_pieces 4))), (a_t_hears, .inl (cT 6, 4, .inr (.inr (.inr (.inr (fun i => if i < 4 then some (a_t_hears_e i) else none)))))), ((a_t_hears_e 0), .inl (cT 0, 10, .inl (t_hears_e 0))), ((a_t_hears_e 1), .inl (cT 0, 10, .inl (t_hears_e 1))), ((a_t_hears_e 2), .inl (cT 0, 10, .inl (t_hears_e 2))), ((a_t_hears_e 3), .inl (cT 0, 10, .inl (t_hears_e 3))), (a_t_talks, .inl (cT 6, 4, .inr (.inr (.inr (.inr (fun i => if i < 4 then some (a_t_talks_e i) else none)))))), ((a_t_talks_e 0), .inl (cT 0, 10, .inl (t_talks_e 0))), ((a_t_talks_e 1), .inl (cT 0, 10, .inl (t_talks_e 1))), ((a_t_talks_e 2), .inl (cT 0, 10, .inl (t_talks_e 2))), ((a_t_talks_e 3), .inl (cT 0, 10, .inl (t_talks_e 3)))] := by
    intro n
    induction n with
    | zero =>
      intro y2 h
      exact zno ((fX6_allCanLearnTheRest_b2_0 _ _ _ _ _ _).symm.trans h)
    | succ n ih =>
      intro y2 h
      replace h := (fX6_allCanLearnTheRest_b2_s _ _ _ _ _ _ _).symm.trans h
      refine xi_iload_n C 2 dX6_allCanLearnTheRest_2 rfl ?_
      refine xi_aload_n C 0 dX6_allCanLearnTheRest_3 rfl ?_
      refine xi_get C zkX6 3 0 zlX6_25 (by decide) rfl rfl dX6_allCanLearnTheRest_4 ?_
      refine xi_icmp_ge C (tgt := 27) dX6_allCanLearnTheRest_7 rfl (fun c1 => ?_) (fun c1 => ?_)
      · replace h := (if_pos c1).symm.trans h
        refine xi_iconst C (v := 1) dX6_allCanLearnTheRest_27 rfl ?_
        obtain rfl := Option.some.inj h
        exact hE _ _ _ dX6_allCanLearnTheRest_28 rfl rfl
      · replace h := (if_neg c1).symm.trans h
        refine xi_aload_n C 0 dX6_allCanLearnTheRest_10 rfl ?_
        refine xi_iload_n C 1 dX6_allCanLearnTheRest_11 rfl ?_
        refine xi_iload_n C 2 dX6_allCanLearnTheRest_12 rfl ?_
        replace h := ob h
        obtain ⟨u2, hu3, h⟩ := h
        refine xi_callVr C (kX6_canLearnTheRest l D cT a_t a_t_after a_t_hears a_t_talks a_t_after_e a_t_after_e_pieces a_t_hears_e a_t_talks_e t_people t_limit t_after_e_people t_after_e_pieces t_hears_e t_talks_e x1 y2 u2 hu3) zcX6_canLearnTheRest zmX6_99 ziX6_canLearnTheRest (zr rfl rfl) z00 rfl [0, 1, 2, 3, 4, 5, 6, 7, 8, 9, 10, 11, 12, 13, 14, 15, 16, 17, 18, 19, 20, 21] rfl rfl zkX6.1 (qr := 0) rfl rfl (Nat.le_of_ble_eq_true rfl) dX6_allCanLearnTheRest_13 (fun z4 => ?_)
        refine xi_if_ne C (tgt := 21) dX6_allCanLearnTheRest_16 rfl (fun c5 => ?_) (fun c5 => ?_)
        · replace h := (if_neg c5).symm.trans h
          refine xi_iinc C (v := y2 + 1) 2 [1, 2, 0] (L2 := [(0, .ref a_t), (1, .int x1), (2, .int (y2 + 1))]) dX6_allCanLearnTheRest_21 rfl rfl (Nat.le_of_ble_eq_true rfl) rfl ?_
          refine xi_goto C (tgt := 2) dX6_allCanLearnTheRest_24 rfl ?_
          exact ih (y2 + 1) h
        · replace h := (if_pos c5).symm.trans h
          refine xi_iconst C (v := 0) dX6_allCanLearnTheRest_19 rfl ?_
          obtain rfl := Option.some.inj h
          exact hE _ _ _ dX6_allCanLearnTheRest_20 rfl rfl
  refine xi_drop (L2 := [(0, .ref a_t), (1, .int x1)]) [0, 1] rfl ?_
  refine xi_iconst C (v := 0) dX6_allCanLearnTheRest_0 rfl ?_
  refine xi_istore_n C [1, 2, 0] (L2 := [(0, .ref a_t), (1, .int x1), (2, .int 0)]) dX6_allCanLearnTheRest_1 (Nat.le_of_ble_eq_true rfl) rfl ?_
  exact B2 FU 0 h
def fX6_couldCall_b45 (t_hears_e : Nat → Nat → Int32) (t_talks_e : Nat → Nat → Int32) (x1 : Int32) (x2 : Int32) (x3 : Int32) : Option Int32 := gd x1 4 (nm x1.toNatClampNeg (fun J3 => gd x2 10 (if (x3 &&& (((t_talks_e J3) x2.toNatClampNeg) ||| ((t_hears_e J3) x2.toNatClampNeg))) = 0 then some (0 : Int32) else some (1 : Int32))))
def fX6_couldCall_b3 (t_people : Int32) (t_hears_e : Nat → Nat → Int32) (t_talks_e : Nat → Nat → Int32) (x1 : Int32) (x2 : Int32) (x3 : Int32) : Nat → Int32 → Option Int32
  | 0, _ => none
  | n + 1, y4 => if t_people ≤ y4 then fX6_couldCall_b45 t_hears_e t_talks_e x1 x2 x3 else if (fX10_isIn x3 y4) = 0 then (fX6_couldCall_b3 t_people t_hears_e t_talks_e x1 x2 x3 n) (y4 + 1) else gd x1 4 (nm x1.toNatClampNeg (fun J20 => gd y4 10 (if (fX10_isIn ((t_hears_e J20) y4.toNatClampNeg) x2) = 0 then (fX6_couldCall_b3 t_people t_hears_e t_talks_e x1 x2 x3 n) (y4 + 1) else some (1 : Int32))))
theorem fX6_couldCall_b3_0 (t_people : Int32) (t_hears_e : Nat → Nat → Int32) (t_talks_e : Nat → Nat → Int32) (x1 : Int32) (x2 : Int32) (x3 : Int32) (y4 : Int32) : fX6_couldCall_b3 t_people t_hears_e t_talks_e x1 x2 x3 0 y4 = none := rfl
theorem fX6_couldCall_b3_s (t_people : Int32) (t_hears_e : Nat → Nat → Int32) (t_talks_e : Nat → Nat → Int32) (x1 : Int32) (x2 : Int32) (x3 : Int32) (n : Nat) (y4 : Int32) : fX6_couldCall_b3 t_people t_hears_e t_talks_e x1 x2 x3 (n + 1) y4 = (if t_people ≤ y4 then fX6_couldCall_b45 t_hears_e t_talks_e x1 x2 x3 else if (fX10_isIn x3 y4) = 0 then (fX6_couldCall_b3 t_people t_hears_e t_talks_e x1 x2 x3 n) (y4 + 1) else gd x1 4 (nm x1.toNatClampNeg (fun J20 => gd y4 10 (if (fX10_isIn ((t_hears_e J20) y4.toNatClampNeg) x2) = 0 then (fX6_couldCall_b3 t_people t_hears_e t_talks_e x1 x2 x3 n) (y4 + 1) else some (1 : Int32))))) := rfl
def fX6_couldCall (t_people : Int32) (t_hears_e : Nat → Nat → Int32) (t_talks_e : Nat → Nat → Int32) (x1 : Int32) (x2 : Int32) (x3 : Int32) : Option Int32 := fX6_couldCall_b3 t_people t_hears_e t_talks_e x1 x2 x3 FU 0
set_option maxRecDepth 100000 in
set_option maxHeartbeats 4000000 in
theorem kX6_couldCall (l : Launch) (D : va_G) (cT : Nat → ClassId) (a_t : Nat) (a_t_after : Nat) (a_t_hears : Nat) (a_t_talks : Nat) (a_t_hears_e : Nat → Nat) (a_t_talks_e : Nat → Nat) (t_people : Int32) (t_limit : Int32) (t_hears_e : Nat → Nat → Int32) (t_talks_e : Nat → Nat → Int32) (x1 : Int32) (x2 : Int32) (x3 : Int32) (r : Int32) (h : fX6_couldCall t_people t_hears_e t_talks_e x1 x2 x3 = some r) : sM l yX6_couldCall cX6_couldCall 5 (some .boolean) (zR 2) D cT [.ref a_t, .int x1, .int x2, .int x3] [(a_t, .inr (6, [.ref a_t_after, .ref a_t_hears, .ref a_t_talks, .int t_people, .int t_limit])), (a_t_hears, .inl (cT 6, 4, .inr (.inr (.inr (.inr (fun i => if i < 4 then some (a_t_hears_e i) else none)))))), ((a_t_hears_e 0), .inl (cT 0, 10, .inl (t_hears_e 0))), ((a_t_hears_e 1), .inl (cT 0, 10, .inl (t_hears_e 1))), ((a_t_hears_e 2), .inl (cT 0, 10, .inl (t_hears_e 2))), ((a_t_hears_e 3), .inl (cT 0, 10, .inl (t_hears_e 3))), (a_t_talks, .inl (cT 6, 4, .inr (.inr (.inr (.inr (fun i => if i < 4 then some (a_t_talks_e i) else none)))))), ((a_t_talks_e 0), .inl (cT 0, 10, .inl (t_talks_e 0))), ((a_t_talks_e 1), .inl (cT 0, 10, .inl (t_talks_e 1))), ((a_t_talks_e 2), .inl (cT 0, 10, .inl (t_talks_e 2))), ((a_t_talks_e 3), .inl (cT 0, 10, .inl (t_talks_e 3)))] (some (.int r)) [(a_t, .inr (6, [.ref a_t_after, .ref a_t_hears, .ref a_t_talks, .int t_people, .int t_limit])), (a_t_hears, .inl (cT 6, 4, .inr (.inr (.inr (.inr (fun i => if i < 4 then some (a_t_hears_e i) else none)))))), ((a_t_hears_e 0), .inl (cT 0, 10, .inl (t_hears_e 0))), ((a_t_hears_e 1), .inl (cT 0, 10, .inl (t_hears_e 1))), ((a_t_hears_e 2), .inl (cT 0, 10, .inl (t_hears_e 2))), ((a_t_hears_e 3), .inl (cT 0, 10, .inl (t_hears_e 3))), (a_t_talks, .inl (cT 6, 4, .inr (.inr (.inr (.inr (fun i => if i < 4 then some (a_t_talks_e i) else none)))))), ((a_t_talks_e 0), .inl (cT 0, 10, .inl (t_talks_e 0))), ((a_t_talks_e 1), .inl (cT 0, 10, .inl (t_talks_e 1))), ((a_t_talks_e 2), .inl (cT 0, 10, .inl (t_talks_e 2))), ((a_t_talks_e 3), .inl (cT 0, 10, .inl (t_talks_e 3)))] := by
  refine sM_bool rfl (Nat.le_of_ble_eq_true rfl) ?_
  intro X C hE
  have B45 : fX6_couldCall_b45 t_hears_e t_talks_e x1 x2 x3 = some r → sW X l (zR 2) D 5 0 0 45 [(0, .ref a_t), (1, .int x1), (2, .int x2), (3, .int x3)] [] [(a_t, .inr (6, [.ref a_t_after, .ref a_t_hears, .ref a_t_talks, .int t_people, .int t_limit])), (a_t_hears, .inl (cT 6, 4, .inr (.inr (.inr (.inr (fun i => if i < 4 then some (a_t_hears_e i) else none)))))), ((a_t_hears_e 0), .inl (cT 0, 10, .inl (t_hears_e 0))), ((a_t_hears_e 1), .inl (cT 0, 10, .inl (t_hears_e 1))), ((a_t_hears_e 2), .inl (cT 0, 10, .inl (t_hears_e 2))), ((a_t_hears_e 3), .inl (cT 0, 10, .inl (t_hears_e 3))), (a_t_talks, .inl (cT 6, 4, .inr (.inr (.inr (.inr (fun i => if i < 4 then some (a_t_talks_e i) else none)))))), ((a_t_talks_e 0), .inl (cT 0, 10, .inl (t_talks_e 0))), ((a_t_talks_e 1), .inl (cT 0, 10, .inl (t_talks_e 1))), ((a_t_talks_e 2), .inl (cT 0, 10, .inl (t_talks_e 2))), ((a_t_talks_e 3), .inl (cT 0, 10, .inl (t_talks_e 3)))] := by
    intro h
    refine xi_iload_n C 3 dX6_couldCall_45 rfl ?_
    refine xi_aload_n C 0 dX6_couldCall_46 rfl ?_
    refine xi_get C zkX6 2 0 zlX6_22 (by decide) rfl rfl dX6_couldCall_47 ?_
    refine xi_iload_n C 1 dX6_couldCall_50 rfl ?_
    replace h := ig h
    obtain ⟨c2, h⟩ := h
    rcases zk4 c2 with hj4 | hj4 | hj4 | hj4
    · replace h := nmE hj4.symm h
      refine xi_aaldA C 6 (b := (a_t_talks_e 0)) rfl c2 (by rw [hj4]; rfl) dX6_couldCall_51 ?_
      refine xi_iload_n C 2 dX6_couldCall_52 rfl ?_
      replace h := ig h
      obtain ⟨c7, h⟩ := h
      refine xi_iald C 7 rfl c7 dX6_couldCall_53 ?_
      refine xi_aload_n C 0 dX6_couldCall_54 rfl ?_
      refine xi_get C zkX6 1 0 zlX6_19 (by decide) rfl rfl dX6_couldCall_55 ?_
      refine xi_iload_n C 1 dX6_couldCall_58 rfl ?_
      refine xi_aaldA C 1 (b := (a_t_hears_e 0)) rfl c2 (by rw [hj4]; rfl) dX6_couldCall_59 ?_
      refine xi_iload_n C 2 dX6_couldCall_60 rfl ?_
      refine xi_iald C 2 rfl c7 dX6_couldCall_61 ?_
      refine xi_ior C dX6_couldCall_62 ?_
      refine xi_iand C dX6_couldCall_63 ?_
      refine xi_if_eq C (tgt := 71) dX6_couldCall_64 rfl (fun c8 => ?_) (fun c8 => ?_)
      · replace h := (if_pos c8).symm.trans h
        refine xi_iconst C (v := 0) dX6_couldCall_71 rfl ?_
        obtain rfl := Option.some.inj h
        exact hE _ _ _ dX6_couldCall_72 rfl rfl
      · replace h := (if_neg c8).symm.trans h
        refine xi_iconst C (v := 1) dX6_couldCall_67 rfl ?_
        refine xi_goto C (tgt := 72) dX6_couldCall_68 rfl ?_
        obtain rfl := Option.some.inj h
        exact hE _ _ _ dX6_couldCall_72 rfl rfl
    · replace h := nmE hj4.symm h
      refine xi_aaldA C 6 (b := (a_t_talks_e 1)) rfl c2 (by rw [hj4]; rfl) dX6_couldCall_51 ?_
      refine xi_iload_n C 2 dX6_couldCall_52 rfl ?_
      replace h := ig h
      obtain ⟨c9, h⟩ := h
      refine xi_iald C 8 rfl c9 dX6_couldCall_53 ?_
      refine xi_aload_n C 0 dX6_couldCall_54 rfl ?_
      refine xi_get C zkX6 1 0 zlX6_19 (by decide) rfl rfl dX6_couldCall_55 ?_
      refine xi_iload_n C 1 dX6_couldCall_58 rfl ?_
      refine xi_aaldA C 1 (b := (a_t_hears_e 1)) rfl c2 (by rw [hj4]; rfl) dX6_couldCall_59 ?_
      refine xi_iload_n C 2 dX6_couldCall_60 rfl ?_
      refine xi_iald C 3 rfl c9 dX6_couldCall_61 ?_
      refine xi_ior C dX6_couldCall_62 ?_
      refine xi_iand C dX6_couldCall_63 ?_
      refine xi_if_eq C (tgt := 71) dX6_couldCall_64 rfl (fun c10 => ?_) (fun c10 => ?_)
      · replace h := (if_pos c10).symm.trans h
        refine xi_iconst C (v := 0) dX6_couldCall_71 rfl ?_
        obtain rfl := Option.some.inj h
        exact hE _ _ _ dX6_couldCall_72 rfl rfl
      · replace h := (if_neg c10).symm.trans h
        refine xi_iconst C (v := 1) dX6_couldCall_67 rfl ?_
        refine xi_goto C (tgt := 72) dX6_couldCall_68 rfl ?_
        obtain rfl := Option.some.inj h
        exact hE _ _ _ dX6_couldCall_72 rfl rfl
    · replace h := nmE hj4.symm h
      refine xi_aaldA C 6 (b := (a_t_talks_e 2)) rfl c2 (by rw [hj4]; rfl) dX6_couldCall_51 ?_
      refine xi_iload_n C 2 dX6_couldCall_52 rfl ?_
      replace h := ig h
      obtain ⟨c11, h⟩ := h
      refine xi_iald C 9 rfl c11 dX6_couldCall_53 ?_
      refine xi_aload_n C 0 dX6_couldCall_54 rfl ?_
      refine xi_get C zkX6 1 0 zlX6_19 (by decide) rfl rfl dX6_couldCall_55 ?_
      refine xi_iload_n C 1 dX6_couldCall_58 rfl ?_
      refine xi_aaldA C 1 (b := (a_t_hears_e 2)) rfl c2 (by rw [hj4]; rfl) dX6_couldCall_59 ?_
      refine xi_iload_n C 2 dX6_couldCall_60 rfl ?_
      refine xi_iald C 4 rfl c11 dX6_couldCall_61 ?_
      refine xi_ior C dX6_couldCall_62 ?_
      refine xi_iand C dX6_couldCall_63 ?_
      refine xi_if_eq C (tgt := 71) dX6_couldCall_64 rfl (fun c12 => ?_) (fun c12 => ?_)
      · replace h := (if_pos c12).symm.trans h
        refine xi_iconst C (v := 0) dX6_couldCall_71 rfl ?_
        obtain rfl := Option.some.inj h
        exact hE _ _ _ dX6_couldCall_72 rfl rfl
      · replace h := (if_neg c12).symm.trans h
        refine xi_iconst C (v := 1) dX6_couldCall_67 rfl ?_
        refine xi_goto C (tgt := 72) dX6_couldCall_68 rfl ?_
        obtain rfl := Option.some.inj h
        exact hE _ _ _ dX6_couldCall_72 rfl rfl
    · replace h := nmE hj4.symm h
      refine xi_aaldA C 6 (b := (a_t_talks_e 3)) rfl c2 (by rw [hj4]; rfl) dX6_couldCall_51 ?_
      refine xi_iload_n C 2 dX6_couldCall_52 rfl ?_
      replace h := ig h
      obtain ⟨c13, h⟩ := h
      refine xi_iald C 10 rfl c13 dX6_couldCall_53 ?_
      refine xi_aload_n C 0 dX6_couldCall_54 rfl ?_
      refine xi_get C zkX6 1 0 zlX6_19 (by decide) rfl rfl dX6_couldCall_55 ?_
      refine xi_iload_n C 1 dX6_couldCall_58 rfl ?_
      refine xi_aaldA C 1 (b := (a_t_hears_e 3)) rfl c2 (by rw [hj4]; rfl) dX6_couldCall_59 ?_
      refine xi_iload_n C 2 dX6_couldCall_60 rfl ?_
      refine xi_iald C 5 rfl c13 dX6_couldCall_61 ?_
      refine xi_ior C dX6_couldCall_62 ?_
      refine xi_iand C dX6_couldCall_63 ?_
      refine xi_if_eq C (tgt := 71) dX6_couldCall_64 rfl (fun c14 => ?_) (fun c14 => ?_)
      · replace h := (if_pos c14).symm.trans h
        refine xi_iconst C (v := 0) dX6_couldCall_71 rfl ?_
        obtain rfl := Option.some.inj h
        exact hE _ _ _ dX6_couldCall_72 rfl rfl
      · replace h := (if_neg c14).symm.trans h
        refine xi_iconst C (v := 1) dX6_couldCall_67 rfl ?_
        refine xi_goto C (tgt := 72) dX6_couldCall_68 rfl ?_
        obtain rfl := Option.some.inj h
        exact hE _ _ _ dX6_couldCall_72 rfl rfl
  have B3 : ∀ (n : Nat) (y4 : Int32), fX6_couldCall_b3 t_people t_hears_e t_talks_e x1 x2 x3 n y4 = some r → sW X l (zR 2) D 5 0 0 3 [(0, .ref a_t), (1, .int x1), (2, .int x2), (3, .int x3), (4, .int y4)] [] [(a_t, .inr (6, [.ref a_t_after, .ref a_t_hears, .ref a_t_talks, .int t_people, .int t_limit])), (a_t_hears, .inl (cT 6, 4, .inr (.inr (.inr (.inr (fun i => if i < 4 then some (a_t_hears_e i) else none)))))), ((a_t_hears_e 0), .inl (cT 0, 10, .inl (t_hears_e 0))), ((a_t_hears_e 1), .inl (cT 0, 10, .inl (t_hears_e 1))), ((a_t_hears_e 2), .inl (cT 0, 10, .inl (t_hears_e 2))), ((a_t_hears_e 3), .inl (cT 0, 10, .inl (t_hears_e 3))), (a_t_talks, .inl (cT 6, 4, .inr (.inr (.inr (.inr (fun i => if i < 4 then some (a_t_talks_e i) else none)))))), ((a_t_talks_e 0), .inl (cT 0, 10, .inl (t_talks_e 0))), ((a_t_talks_e 1), .inl (cT 0, 10, .inl (t_talks_e 1))), ((a_t_talks_e 2), .inl (cT 0, 10, .inl (t_talks_e 2))), ((a_t_talks_e 3), .inl (cT 0, 10, .inl (t_talks_e 3)))] := by
    intro n
    induction n with
    | zero =>
      intro y4 h
      exact zno ((fX6_couldCall_b3_0 _ _ _ _ _ _ _).symm.trans h)
    | succ n ih =>
      intro y4 h
      replace h := (fX6_couldCall_b3_s _ _ _ _ _ _ _ _).symm.trans h
      refine xi_iload C 4 dX6_couldCall_3 rfl ?_
      refine xi_aload_n C 0 dX6_couldCall_5 rfl ?_
      refine xi_get C zkX6 3 0 zlX6_25 (by decide) rfl rfl dX6_couldCall_6 ?_
      refine xi_icmp_ge C (tgt := 45) dX6_couldCall_9 rfl (fun c1 => ?_) (fun c1 => ?_)
      · replace h := (if_pos c1).symm.trans h
        refine xi_drop (L2 := [(0, .ref a_t), (1, .int x1), (2, .int x2), (3, .int x3)]) [0, 1, 2, 3] rfl ?_
        exact B45 h
      · replace h := (if_neg c1).symm.trans h
        refine xi_iload_n C 3 dX6_couldCall_12 rfl ?_
        refine xi_iload C 4 dX6_couldCall_13 rfl ?_
        refine xi_callSr C (kX10_isIn l D cT x3 y4 (fX10_isIn x3 y4) rfl) zcX10_isIn zmX6_80 zsX10_isIn (zr rfl rfl) z00 rfl [] rfl rfl rfl (Nat.le_of_ble_eq_true rfl) dX6_couldCall_15 (fun z17 => ?_)
        refine xi_if_eq C (tgt := 39) dX6_couldCall_18 rfl (fun c18 => ?_) (fun c18 => ?_)
        · replace h := (if_pos c18).symm.trans h
          refine xi_iinc C (v := y4 + 1) 4 [1, 2, 3, 4, 0] (L2 := [(0, .ref a_t), (1, .int x1), (2, .int x2), (3, .int x3), (4, .int (y4 + 1))]) dX6_couldCall_39 rfl rfl (Nat.le_of_ble_eq_true rfl) rfl ?_
          refine xi_goto C (tgt := 3) dX6_couldCall_42 rfl ?_
          exact ih (y4 + 1) h
        · replace h := (if_neg c18).symm.trans h
          refine xi_aload_n C 0 dX6_couldCall_21 rfl ?_
          refine xi_get C zkX6 1 0 zlX6_19 (by decide) rfl rfl dX6_couldCall_22 ?_
          refine xi_iload_n C 1 dX6_couldCall_25 rfl ?_
          replace h := ig h
          obtain ⟨c19, h⟩ := h
          rcases zk4 c19 with hj21 | hj21 | hj21 | hj21
          · replace h := nmE hj21.symm h
            refine xi_aaldA C 1 (b := (a_t_hears_e 0)) rfl c19 (by rw [hj21]; rfl) dX6_couldCall_26 ?_
            refine xi_iload C 4 dX6_couldCall_27 rfl ?_
            replace h := ig h
            obtain ⟨c27, h⟩ := h
            refine xi_iald C 2 rfl c27 dX6_couldCall_29 ?_
            refine xi_iload_n C 2 dX6_couldCall_30 rfl ?_
            refine xi_callSr C (kX10_isIn l D cT ((t_hears_e 0) y4.toNatClampNeg) x2 (fX10_isIn ((t_hears_e 0) y4.toNatClampNeg) x2) rfl) zcX10_isIn zmX6_80 zsX10_isIn (zr rfl rfl) z00 rfl [] rfl rfl rfl (Nat.le_of_ble_eq_true rfl) dX6_couldCall_31 (fun z30 => ?_)
            refine xi_if_eq C (tgt := 39) dX6_couldCall_34 rfl (fun c31 => ?_) (fun c31 => ?_)
            · replace h := (if_pos c31).symm.trans h
              refine xi_iinc C (v := y4 + 1) 4 [1, 2, 3, 4, 0] (L2 := [(0, .ref a_t), (1, .int x1), (2, .int x2), (3, .int x3), (4, .int (y4 + 1))]) dX6_couldCall_39 rfl rfl (Nat.le_of_ble_eq_true rfl) rfl ?_
              refine xi_goto C (tgt := 3) dX6_couldCall_42 rfl ?_
              exact ih (y4 + 1) h
            · replace h := (if_neg c31).symm.trans h
              refine xi_iconst C (v := 1) dX6_couldCall_37 rfl ?_
              obtain rfl := Option.some.inj h
              exact hE _ _ _ dX6_couldCall_38 rfl rfl
          · replace h := nmE hj21.symm h
            refine xi_aaldA C 1 (b := (a_t_hears_e 1)) rfl c19 (by rw [hj21]; rfl) dX6_couldCall_26 ?_
            refine xi_iload C 4 dX6_couldCall_27 rfl ?_
            replace h := ig h
            obtain ⟨c32, h⟩ := h
            refine xi_iald C 3 rfl c32 dX6_couldCall_29 ?_
            refine xi_iload_n C 2 dX6_couldCall_30 rfl ?_
            refine xi_callSr C (kX10_isIn l D cT ((t_hears_e 1) y4.toNatClampNeg) x2 (fX10_isIn ((t_hears_e 1) y4.toNatClampNeg) x2) rfl) zcX10_isIn zmX6_80 zsX10_isIn (zr rfl rfl) z00 rfl [] rfl rfl rfl (Nat.le_of_ble_eq_true rfl) dX6_couldCall_31 (fun z35 => ?_)
            refine xi_if_eq C (tgt := 39) dX6_couldCall_34 rfl (fun c36 => ?_) (fun c36 => ?_)
            · replace h := (if_pos c36).symm.trans h
              refine xi_iinc C (v := y4 + 1) 4 [1, 2, 3, 4, 0] (L2 := [(0, .ref a_t), (1, .int x1), (2, .int x2), (3, .int x3), (4, .int (y4 + 1))]) dX6_couldCall_39 rfl rfl (Nat.le_of_ble_eq_true rfl) rfl ?_
              refine xi_goto C (tgt := 3) dX6_couldCall_42 rfl ?_
              exact ih (y4 + 1) h
            · replace h := (if_neg c36).symm.trans h
              refine xi_iconst C (v := 1) dX6_couldCall_37 rfl ?_
              obtain rfl := Option.some.inj h
              exact hE _ _ _ dX6_couldCall_38 rfl rfl
          · replace h := nmE hj21.symm h
            refine xi_aaldA C 1 (b := (a_t_hears_e 2)) rfl c19 (by rw [hj21]; rfl) dX6_couldCall_26 ?_
            refine xi_iload C 4 dX6_couldCall_27 rfl ?_
            replace h := ig h
            obtain ⟨c37, h⟩ := h
            refine xi_iald C 4 rfl c37 dX6_couldCall_29 ?_
            refine xi_iload_n C 2 dX6_couldCall_30 rfl ?_
            refine xi_callSr C (kX10_isIn l D cT ((t_hears_e 2) y4.toNatClampNeg) x2 (fX10_isIn ((t_hears_e 2) y4.toNatClampNeg) x2) rfl) zcX10_isIn zmX6_80 zsX10_isIn (zr rfl rfl) z00 rfl [] rfl rfl rfl (Nat.le_of_ble_eq_true rfl) dX6_couldCall_31 (fun z40 => ?_)
            refine xi_if_eq C (tgt := 39) dX6_couldCall_34 rfl (fun c41 => ?_) (fun c41 => ?_)
            · replace h := (if_pos c41).symm.trans h
              refine xi_iinc C (v := y4 + 1) 4 [1, 2, 3, 4, 0] (L2 := [(0, .ref a_t), (1, .int x1), (2, .int x2), (3, .int x3), (4, .int (y4 + 1))]) dX6_couldCall_39 rfl rfl (Nat.le_of_ble_eq_true rfl) rfl ?_
              refine xi_goto C (tgt := 3) dX6_couldCall_42 rfl ?_
              exact ih (y4 + 1) h
            · replace h := (if_neg c41).symm.trans h
              refine xi_iconst C (v := 1) dX6_couldCall_37 rfl ?_
              obtain rfl := Option.some.inj h
              exact hE _ _ _ dX6_couldCall_38 rfl rfl
          · replace h := nmE hj21.symm h
            refine xi_aaldA C 1 (b := (a_t_hears_e 3)) rfl c19 (by rw [hj21]; rfl) dX6_couldCall_26 ?_
            refine xi_iload C 4 dX6_couldCall_27 rfl ?_
            replace h := ig h
            obtain ⟨c42, h⟩ := h
            refine xi_iald C 5 rfl c42 dX6_couldCall_29 ?_
            refine xi_iload_n C 2 dX6_couldCall_30 rfl ?_
            refine xi_callSr C (kX10_isIn l D cT ((t_hears_e 3) y4.toNatClampNeg) x2 (fX10_isIn ((t_hears_e 3) y4.toNatClampNeg) x2) rfl) zcX10_isIn zmX6_80 zsX10_isIn (zr rfl rfl) z00 rfl [] rfl rfl rfl (Nat.le_of_ble_eq_true rfl) dX6_couldCall_31 (fun z45 => ?_)
            refine xi_if_eq C (tgt := 39) dX6_couldCall_34 rfl (fun c46 => ?_) (fun c46 => ?_)
            · replace h := (if_pos c46).symm.trans h
              refine xi_iinc C (v := y4 + 1) 4 [1, 2, 3, 4, 0] (L2 := [(0, .ref a_t), (1, .int x1), (2, .int x2), (3, .int x3), (4, .int (y4 + 1))]) dX6_couldCall_39 rfl rfl (Nat.le_of_ble_eq_true rfl) rfl ?_
              refine xi_goto C (tgt := 3) dX6_couldCall_42 rfl ?_
              exact ih (y4 + 1) h
            · replace h := (if_neg c46).symm.trans h
              refine xi_iconst C (v := 1) dX6_couldCall_37 rfl ?_
              obtain rfl := Option.some.inj h
              exact hE _ _ _ dX6_couldCall_38 rfl rfl
  refine xi_drop (L2 := [(0, .ref a_t), (1, .int x1), (2, .int x2), (3, .int x3)]) [0, 1, 2, 3] rfl ?_
  refine xi_iconst C (v := 0) dX6_couldCall_0 rfl ?_
  refine xi_istore C [1, 2, 3, 4, 0] (L2 := [(0, .ref a_t), (1, .int x1), (2, .int x2), (3, .int x3), (4, .int 0)]) dX6_couldCall_1 (Nat.le_of_ble_eq_true rfl) rfl ?_
  exact B3 FU 0 h
def fX6_connect_b104 (x1 : Int32) (x3 : Int32) (K39 : Int32 → (Nat → Nat → Int32) → (Nat → Nat → Int32) → Option ((Nat → Nat → Int32) × (Nat → Nat → Int32))) (y4 : Int32) (y5 : Int32) (y6 : Int32) (t_hears_e : Nat → Nat → Int32) (t_talks_e : Nat → Nat → Int32) : Option ((Nat → Nat → Int32) × (Nat → Nat → Int32)) := if (fX10_isIn x3 y4) = 0 then K39 (y4 + 1) t_hears_e t_talks_e else gd x1 4 (nm x1.toNatClampNeg (fun J13 => gd y5 10 (gd y6 10 (K39 (y4 + 1) t_hears_e (va_up t_talks_e J13 (upd (upd (t_talks_e J13) y5.toNatClampNeg (((t_talks_e J13) y5.toNatClampNeg) ||| (1 <<< (y6 &&& 31)))) y6.toNatClampNeg (((upd (t_talks_e J13) y5.toNatClampNeg (((t_talks_e J13) y5.toNatClampNeg) ||| (1 <<< (y6 &&& 31)))) y6.toNatClampNeg) ||| (1 <<< (y5 &&& 31)))))))))
def fX6_connect_b39 (p2_lineCount : Int32) (p2_first : Nat → Int32) (p2_second : Nat → Int32) (p2_oneWay : Nat → Int32) (x1 : Int32) (x3 : Int32) : Nat → Int32 → (Nat → Nat → Int32) → (Nat → Nat → Int32) → Option ((Nat → Nat → Int32) × (Nat → Nat → Int32))
  | 0, _, _, _ => none
  | n + 1, y4, t_hears_e, t_talks_e => if p2_lineCount ≤ y4 then some (t_hears_e, t_talks_e) else gd y4 24 (if (fX10_isIn x3 y4) = 0 then fX6_connect_b104 x1 x3 (fX6_connect_b39 p2_lineCount p2_first p2_second p2_oneWay x1 x3 n) y4 (p2_first y4.toNatClampNeg) (p2_second y4.toNatClampNeg) t_hears_e t_talks_e else if (p2_oneWay y4.toNatClampNeg) = 0 then fX6_connect_b104 x1 x3 (fX6_connect_b39 p2_lineCount p2_first p2_second p2_oneWay x1 x3 n) y4 (p2_first y4.toNatClampNeg) (p2_second y4.toNatClampNeg) t_hears_e t_talks_e else gd x1 4 (nm x1.toNatClampNeg (fun J27 => gd (p2_second y4.toNatClampNeg) 10 ((fX6_connect_b39 p2_lineCount p2_first p2_second p2_oneWay x1 x3 n) (y4 + 1) (va_up t_hears_e J27 (upd (t_hears_e J27) (p2_second y4.toNatClampNeg).toNatClampNeg (((t_hears_e J27) (p2_second y4.toNatClampNeg).toNatClampNeg) ||| (1 <<< ((p2_first y4.toNatClampNeg) &&& 31))))) t_talks_e))))
theorem fX6_connect_b39_0 (p2_lineCount : Int32) (p2_first : Nat → Int32) (p2_second : Nat → Int32) (p2_oneWay : Nat → Int32) (x1 : Int32) (x3 : Int32) (y4 : Int32) (t_hears_e : Nat → Nat → Int32) (t_talks_e : Nat → Nat → Int32) : fX6_connect_b39 p2_lineCount p2_first p2_second p2_oneWay x1 x3 0 y4 t_hears_e t_talks_e = none := rfl
theorem fX6_connect_b39_s (p2_lineCount : Int32) (p2_first : Nat → Int32) (p2_second : Nat → Int32) (p2_oneWay : Nat → Int32) (x1 : Int32) (x3 : Int32) (n : Nat) (y4 : Int32) (t_hears_e : Nat → Nat → Int32) (t_talks_e : Nat → Nat → Int32) : fX6_connect_b39 p2_lineCount p2_first p2_second p2_oneWay x1 x3 (n + 1) y4 t_hears_e t_talks_e = (if p2_lineCount ≤ y4 then some (t_hears_e, t_talks_e) else gd y4 24 (if (fX10_isIn x3 y4) = 0 then fX6_connect_b104 x1 x3 (fX6_connect_b39 p2_lineCount p2_first p2_second p2_oneWay x1 x3 n) y4 (p2_first y4.toNatClampNeg) (p2_second y4.toNatClampNeg) t_hears_e t_talks_e else if (p2_oneWay y4.toNatClampNeg) = 0 then fX6_connect_b104 x1 x3 (fX6_connect_b39 p2_lineCount p2_first p2_second p2_oneWay x1 x3 n) y4 (p2_first y4.toNatClampNeg) (p2_second y4.toNatClampNeg) t_hears_e t_talks_e else gd x1 4 (nm x1.toNatClampNeg (fun J27 => gd (p2_second y4.toNatClampNeg) 10 ((fX6_connect_b39 p2_lineCount p2_first p2_second p2_oneWay x1 x3 n) (y4 + 1) (va_up t_hears_e J27 (upd (t_hears_e J27) (p2_second y4.toNatClampNeg).toNatClampNeg (((t_hears_e J27) (p2_second y4.toNatClampNeg).toNatClampNeg) ||| (1 <<< ((p2_first y4.toNatClampNeg) &&& 31))))) t_talks_e))))) := rfl
def fX6_connect_b3 (p2_lineCount : Int32) (p2_first : Nat → Int32) (p2_second : Nat → Int32) (p2_oneWay : Nat → Int32) (x1 : Int32) (x3 : Int32) : Nat → Int32 → (Nat → Nat → Int32) → (Nat → Nat → Int32) → Option ((Nat → Nat → Int32) × (Nat → Nat → Int32))
  | 0, _, _, _ => none
  | n + 1, y4, t_hears_e, t_talks_e => if 10 ≤ y4 then fX6_connect_b39 p2_lineCount p2_first p2_second p2_oneWay x1 x3 FU 0 t_hears_e t_talks_e else gd x1 4 (nm x1.toNatClampNeg (fun J35 => gd y4 10 ((fX6_connect_b3 p2_lineCount p2_first p2_second p2_oneWay x1 x3 n) (y4 + 1) (va_up t_hears_e J35 (upd (t_hears_e J35) y4.toNatClampNeg 0)) (va_up t_talks_e J35 (upd (t_talks_e J35) y4.toNatClampNeg 0)))))
theorem fX6_connect_b3_0 (p2_lineCount : Int32) (p2_first : Nat → Int32) (p2_second : Nat → Int32) (p2_oneWay : Nat → Int32) (x1 : Int32) (x3 : Int32) (y4 : Int32) (t_hears_e : Nat → Nat → Int32) (t_talks_e : Nat → Nat → Int32) : fX6_connect_b3 p2_lineCount p2_first p2_second p2_oneWay x1 x3 0 y4 t_hears_e t_talks_e = none := rfl
theorem fX6_connect_b3_s (p2_lineCount : Int32) (p2_first : Nat → Int32) (p2_second : Nat → Int32) (p2_oneWay : Nat → Int32) (x1 : Int32) (x3 : Int32) (n : Nat) (y4 : Int32) (t_hears_e : Nat → Nat → Int32) (t_talks_e : Nat → Nat → Int32) : fX6_connect_b3 p2_lineCount p2_first p2_second p2_oneWay x1 x3 (n + 1) y4 t_hears_e t_talks_e = (if 10 ≤ y4 then fX6_connect_b39 p2_lineCount p2_first p2_second p2_oneWay x1 x3 FU 0 t_hears_e t_talks_e else gd x1 4 (nm x1.toNatClampNeg (fun J35 => gd y4 10 ((fX6_connect_b3 p2_lineCount p2_first p2_second p2_oneWay x1 x3 n) (y4 + 1) (va_up t_hears_e J35 (upd (t_hears_e J35) y4.toNatClampNeg 0)) (va_up t_talks_e J35 (upd (t_talks_e J35) y4.toNatClampNeg 0)))))) := rfl
def fX6_connect (t_hears_e : Nat → Nat → Int32) (t_talks_e : Nat → Nat → Int32) (p2_lineCount : Int32) (p2_first : Nat → Int32) (p2_second : Nat → Int32) (p2_oneWay : Nat → Int32) (x1 : Int32) (x3 : Int32) : Option ((Nat → Nat → Int32) × (Nat → Nat → Int32)) := fX6_connect_b3 p2_lineCount p2_first p2_second p2_oneWay x1 x3 FU 0 t_hears_e t_talks_e
set_option maxRecDepth 100000 in
set_option maxHeartbeats 4000000 in
theorem kX6_connect (l : Launch) (D : va_G) (cT : Nat → ClassId) (a_t : Nat) (a_t_after : Nat) (a_t_hears : Nat) (a_t_talks : Nat) (a_t_hears_e : Nat → Nat) (a_t_talks_e : Nat → Nat) (a_p2 : Nat) (a_p2_first : Nat) (a_p2_second : Nat) (a_p2_cost : Nat) (a_p2_oneWay : Nat) (a_p2_breaks : Nat) (a_p2_absences : Nat) (t_people : Int32) (t_limit : Int32) (t_hears_e : Nat → Nat → Int32) (t_talks_e : Nat → Nat → Int32) (p2_people : Int32) (p2_lineCount : Int32) (p2_first : Nat → Int32) (p2_second : Nat → Int32) (p2_oneWay : Nat → Int32) (x1 : Int32) (x3 : Int32) (r : (Nat → Nat → Int32) × (Nat → Nat → Int32)) (h : fX6_connect t_hears_e t_talks_e p2_lineCount p2_first p2_second p2_oneWay x1 x3 = some r) : sM l yX6_connect cX6_connect 7 none (zR 2) D cT [.ref a_t, .int x1, .ref a_p2, .int x3] [(a_t, .inr (6, [.ref a_t_after, .ref a_t_hears, .ref a_t_talks, .int t_people, .int t_limit])), (a_t_hears, .inl (cT 6, 4, .inr (.inr (.inr (.inr (fun i => if i < 4 then some (a_t_hears_e i) else none)))))), ((a_t_hears_e 0), .inl (cT 0, 10, .inl (t_hears_e 0))), ((a_t_hears_e 1), .inl (cT 0, 10, .inl (t_hears_e 1))), ((a_t_hears_e 2), .inl (cT 0, 10, .inl (t_hears_e 2))), ((a_t_hears_e 3), .inl (cT 0, 10, .inl (t_hears_e 3))), (a_t_talks, .inl (cT 6, 4, .inr (.inr (.inr (.inr (fun i => if i < 4 then some (a_t_talks_e i) else none)))))), ((a_t_talks_e 0), .inl (cT 0, 10, .inl (t_talks_e 0))), ((a_t_talks_e 1), .inl (cT 0, 10, .inl (t_talks_e 1))), ((a_t_talks_e 2), .inl (cT 0, 10, .inl (t_talks_e 2))), ((a_t_talks_e 3), .inl (cT 0, 10, .inl (t_talks_e 3))), (a_p2, .inr (1, [.int p2_people, .int p2_lineCount, .ref a_p2_first, .ref a_p2_second, .ref a_p2_cost, .ref a_p2_oneWay, .ref a_p2_breaks, .ref a_p2_absences])), (a_p2_first, .inl (cT 0, 24, .inl p2_first)), (a_p2_second, .inl (cT 0, 24, .inl p2_second)), (a_p2_oneWay, .inl (cT 3, 24, .inl p2_oneWay))] none [(a_t, .inr (6, [.ref a_t_after, .ref a_t_hears, .ref a_t_talks, .int t_people, .int t_limit])), (a_t_hears, .inl (cT 6, 4, .inr (.inr (.inr (.inr (fun i => if i < 4 then some (a_t_hears_e i) else none)))))), ((a_t_hears_e 0), .inl (cT 0, 10, .inl (r.1 0))), ((a_t_hears_e 1), .inl (cT 0, 10, .inl (r.1 1))), ((a_t_hears_e 2), .inl (cT 0, 10, .inl (r.1 2))), ((a_t_hears_e 3), .inl (cT 0, 10, .inl (r.1 3))), (a_t_talks, .inl (cT 6, 4, .inr (.inr (.inr (.inr (fun i => if i < 4 then some (a_t_talks_e i) else none)))))), ((a_t_talks_e 0), .inl (cT 0, 10, .inl (r.2 0))), ((a_t_talks_e 1), .inl (cT 0, 10, .inl (r.2 1))), ((a_t_talks_e 2), .inl (cT 0, 10, .inl (r.2 2))), ((a_t_talks_e 3), .inl (cT 0, 10, .inl (r.2 3))), (a_p2, .inr (1, [.int p2_people, .int p2_lineCount, .ref a_p2_first, .ref a_p2_second, .ref a_p2_cost, .ref a_p2_oneWay, .ref a_p2_breaks, .ref a_p2_absences])), (a_p2_first, .inl (cT 0, 24, .inl p2_first)), (a_p2_second, .inl (cT 0, 24, .inl p2_second)), (a_p2_oneWay, .inl (cT 3, 24, .inl p2_oneWay))] := by
  refine sM_void rfl (Nat.le_of_ble_eq_true rfl) ?_
  intro X C hE
  have B104 : ∀ (K39 : Int32 → (Nat → Nat → Int32) → (Nat → Nat → Int32) → Option ((Nat → Nat → Int32) × (Nat → Nat → Int32))) (hK39 : ∀ (y4 : Int32) (t_hears_e : Nat → Nat → Int32) (t_talks_e : Nat → Nat → Int32), K39 y4 t_hears_e t_talks_e = some r → sW X l (zR 2) D 7 0 0 39 [(0, .ref a_t), (1, .int x1), (2, .ref a_p2), (3, .int x3), (4, .int y4)] [] [(a_t, .inr (6, [.ref a_t_after, .ref a_t_hears, .ref a_t_talks, .int t_people, .int t_limit])), (a_t_hears, .inl (cT 6, 4, .inr (.inr (.inr (.inr (fun i => if i < 4 then some (a_t_hears_e i) else none)))))), ((a_t_hears_e 0), .inl (cT 0, 10, .inl (t_hears_e 0))), ((a_t_hears_e 1), .inl (cT 0, 10, .inl (t_hears_e 1))), ((a_t_hears_e 2), .inl (cT 0, 10, .inl (t_hears_e 2))), ((a_t_hears_e 3), .inl (cT 0, 10, .inl (t_hears_e 3))), (a_t_talks, .inl (cT 6, 4, .inr (.inr (.inr (.inr (fun i => if i < 4 then some (a_t_talks_e i) else none)))))), ((a_t_talks_e 0), .inl (cT 0, 10, .inl (t_talks_e 0))), ((a_t_talks_e 1), .inl (cT 0, 10, .inl (t_talks_e 1))), ((a_t_talks_e 2), .inl (cT 0, 10, .inl (t_talks_e 2))), ((a_t_talks_e 3), .inl (cT 0, 10, .inl (t_talks_e 3))), (a_p2, .inr (1, [.int p2_people, .int p2_lineCount, .ref a_p2_first, .ref a_p2_second, .ref a_p2_cost, .ref a_p2_oneWay, .ref a_p2_breaks, .ref a_p2_absences])), (a_p2_first, .inl (cT 0, 24, .inl p2_first)), (a_p2_second, .inl (cT 0, 24, .inl p2_second)), (a_p2_oneWay, .inl (cT 3, 24, .inl p2_oneWay))]) (y4 : Int32) (y5 : Int32) (y6 : Int32) (t_hears_e : Nat → Nat → Int32) (t_talks_e : Nat → Nat → Int32), fX6_connect_b104 x1 x3 K39 y4 y5 y6 t_hears_e t_talks_e = some r → sW X l (zR 2) D 7 0 0 104 [(0, .ref a_t), (1, .int x1), (2, .ref a_p2), (3, .int x3), (4, .int y4), (5, .int y5), (6, .int y6)] [] [(a_t, .inr (6, [.ref a_t_after, .ref a_t_hears, .ref a_t_talks, .int t_people, .int t_limit])), (a_t_hears, .inl (cT 6, 4, .inr (.inr (.inr (.inr (fun i => if i < 4 then some (a_t_hears_e i) else none)))))), ((a_t_hears_e 0), .inl (cT 0, 10, .inl (t_hears_e 0))), ((a_t_hears_e 1), .inl (cT 0, 10, .inl (t_hears_e 1))), ((a_t_hears_e 2), .inl (cT 0, 10, .inl (t_hears_e 2))), ((a_t_hears_e 3), .inl (cT 0, 10, .inl (t_hears_e 3))), (a_t_talks, .inl (cT 6, 4, .inr (.inr (.inr (.inr (fun i => if i < 4 then some (a_t_talks_e i) else none)))))), ((a_t_talks_e 0), .inl (cT 0, 10, .inl (t_talks_e 0))), ((a_t_talks_e 1), .inl (cT 0, 10, .inl (t_talks_e 1))), ((a_t_talks_e 2), .inl (cT 0, 10, .inl (t_talks_e 2))), ((a_t_talks_e 3), .inl (cT 0, 10, .inl (t_talks_e 3))), (a_p2, .inr (1, [.int p2_people, .int p2_lineCount, .ref a_p2_first, .ref a_p2_second, .ref a_p2_cost, .ref a_p2_oneWay, .ref a_p2_breaks, .ref a_p2_absences])), (a_p2_first, .inl (cT 0, 24, .inl p2_first)), (a_p2_second, .inl (cT 0, 24, .inl p2_second)), (a_p2_oneWay, .inl (cT 3, 24, .inl p2_oneWay))] := by
    intro K39 hK39 y4 y5 y6 t_hears_e t_talks_e h
    refine xi_iload_n C 3 dX6_connect_104 rfl ?_
    refine xi_iload C 4 dX6_connect_105 rfl ?_
    refine xi_callSr C (kX10_isIn l D cT x3 y4 (fX10_isIn x3 y4) rfl) zcX10_isIn zmX6_80 zsX10_isIn (zr rfl rfl) z00 rfl [] rfl rfl rfl (Nat.le_of_ble_eq_true rfl) dX6_connect_107 (fun z10 => ?_)
    refine xi_if_eq C (tgt := 145) dX6_connect_110 rfl (fun c11 => ?_) (fun c11 => ?_)
    · replace h := (if_pos c11).symm.trans h
      refine xi_iinc C (v := y4 + 1) 4 [1, 2, 3, 4, 0, 5, 6] (L2 := [(0, .ref a_t), (1, .int x1), (2, .ref a_p2), (3, .int x3), (4, .int (y4 + 1)), (5, .int y5), (6, .int y6)]) dX6_connect_145 rfl rfl (Nat.le_of_ble_eq_true rfl) rfl ?_
      refine xi_goto C (tgt := 39) dX6_connect_148 rfl ?_
      refine xi_drop (L2 := [(0, .ref a_t), (1, .int x1), (2, .ref a_p2), (3, .int x3), (4, .int (y4 + 1))]) [0, 1, 2, 3, 4] rfl ?_
      exact hK39 (y4 + 1) t_hears_e t_talks_e h
    · replace h := (if_neg c11).symm.trans h
      refine xi_aload_n C 0 dX6_connect_113 rfl ?_
      refine xi_get C zkX6 2 0 zlX6_22 (by decide) rfl rfl dX6_connect_114 ?_
      refine xi_iload_n C 1 dX6_connect_117 rfl ?_
      replace h := ig h
      obtain ⟨c12, h⟩ := h
      rcases zk4 c12 with hj14 | hj14 | hj14 | hj14
      · replace h := nmE hj14.symm h
        refine xi_aaldA C 6 (b := (a_t_talks_e 0)) rfl c12 (by rw [hj14]; rfl) dX6_connect_118 ?_
        refine xi_iload C 5 dX6_connect_119 rfl ?_
        refine xi_dup2 C dX6_connect_121 rfl rfl ?_
        replace h := ig h
        obtain ⟨c17, h⟩ := h
        refine xi_iald C 7 rfl c17 dX6_connect_122 ?_
        refine xi_iconst C (v := 1) dX6_connect_123 rfl ?_
        refine xi_iload C 6 dX6_connect_124 rfl ?_
        refine xi_ishl C dX6_connect_126 ?_
        refine xi_ior C dX6_connect_127 ?_
        refine xi_iast C 7 rfl c17 dX6_connect_128 (ws2 := [(a_t, .inr (6, [.ref a_t_after, .ref a_t_hears, .ref a_t_talks, .int t_people, .int t_limit])), (a_t_hears, .inl (cT 6, 4, .inr (.inr (.inr (.inr (fun i => if i < 4 then some (a_t_hears_e i) else none)))))), ((a_t_hears_e 0), .inl (cT 0, 10, .inl (t_hears_e 0))), ((a_t_hears_e 1), .inl (cT 0, 10, .inl (t_hears_e 1))), ((a_t_hears_e 2), .inl (cT 0, 10, .inl (t_hears_e 2))), ((a_t_hears_e 3), .inl (cT 0, 10, .inl (t_hears_e 3))), (a_t_talks, .inl (cT 6, 4, .inr (.inr (.inr (.inr (fun i => if i < 4 then some (a_t_talks_e i) else none)))))), ((a_t_talks_e 0), .inl (cT 0, 10, .inl (upd (t_talks_e 0) y5.toNatClampNeg (((t_talks_e 0) y5.toNatClampNeg) ||| (1 <<< (y6 &&& 31)))))), ((a_t_talks_e 1), .inl (cT 0, 10, .inl (t_talks_e 1))), ((a_t_talks_e 2), .inl (cT 0, 10, .inl (t_talks_e 2))), ((a_t_talks_e 3), .inl (cT 0, 10, .inl (t_talks_e 3))), (a_p2, .inr (1, [.int p2_people, .int p2_lineCount, .ref a_p2_first, .ref a_p2_second, .ref a_p2_cost, .ref a_p2_oneWay, .ref a_p2_breaks, .ref a_p2_absences])), (a_p2_first, .inl (cT 0, 24, .inl p2_first)), (a_p2_second, .inl (cT 0, 24, .inl p2_second)), (a_p2_oneWay, .inl (cT 3, 24, .inl p2_oneWay))]) rfl ?_
        refine xi_aload_n C 0 dX6_connect_129 rfl ?_
        refine xi_get C zkX6 2 0 zlX6_22 (by decide) rfl rfl dX6_connect_130 ?_
        refine xi_iload_n C 1 dX6_connect_133 rfl ?_
        refine xi_aaldA C 6 (b := (a_t_talks_e 0)) rfl c12 (by rw [hj14]; rfl) dX6_connect_134 ?_
        refine xi_iload C 6 dX6_connect_135 rfl ?_
        refine xi_dup2 C dX6_connect_137 rfl rfl ?_
        replace h := ig h
        obtain ⟨c18, h⟩ := h
        refine xi_iald C 7 rfl c18 dX6_connect_138 ?_
        refine xi_iconst C (v := 1) dX6_connect_139 rfl ?_
        refine xi_iload C 5 dX6_connect_140 rfl ?_
        refine xi_ishl C dX6_connect_142 ?_
        refine xi_ior C dX6_connect_143 ?_
        refine xi_iast C 7 rfl c18 dX6_connect_144 (ws2 := [(a_t, .inr (6, [.ref a_t_after, .ref a_t_hears, .ref a_t_talks, .int t_people, .int t_limit])), (a_t_hears, .inl (cT 6, 4, .inr (.inr (.inr (.inr (fun i => if i < 4 then some (a_t_hears_e i) else none)))))), ((a_t_hears_e 0), .inl (cT 0, 10, .inl (t_hears_e 0))), ((a_t_hears_e 1), .inl (cT 0, 10, .inl (t_hears_e 1))), ((a_t_hears_e 2), .inl (cT 0, 10, .inl (t_hears_e 2))), ((a_t_hears_e 3), .inl (cT 0, 10, .inl (t_hears_e 3))), (a_t_talks, .inl (cT 6, 4, .inr (.inr (.inr (.inr (fun i => if i < 4 then some (a_t_talks_e i) else none)))))), ((a_t_talks_e 0), .inl (cT 0, 10, .inl (upd (upd (t_talks_e 0) y5.toNatClampNeg (((t_talks_e 0) y5.toNatClampNeg) ||| (1 <<< (y6 &&& 31)))) y6.toNatClampNeg (((upd (t_talks_e 0) y5.toNatClampNeg (((t_talks_e 0) y5.toNatClampNeg) ||| (1 <<< (y6 &&& 31)))) y6.toNatClampNeg) ||| (1 <<< (y5 &&& 31)))))), ((a_t_talks_e 1), .inl (cT 0, 10, .inl (t_talks_e 1))), ((a_t_talks_e 2), .inl (cT 0, 10, .inl (t_talks_e 2))), ((a_t_talks_e 3), .inl (cT 0, 10, .inl (t_talks_e 3))), (a_p2, .inr (1, [.int p2_people, .int p2_lineCount, .ref a_p2_first, .ref a_p2_second, .ref a_p2_cost, .ref a_p2_oneWay, .ref a_p2_breaks, .ref a_p2_absences])), (a_p2_first, .inl (cT 0, 24, .inl p2_first)), (a_p2_second, .inl (cT 0, 24, .inl p2_second)), (a_p2_oneWay, .inl (cT 3, 24, .inl p2_oneWay))]) rfl ?_
        refine xi_iinc C (v := y4 + 1) 4 [1, 2, 3, 4, 0, 5, 6] (L2 := [(0, .ref a_t), (1, .int x1), (2, .ref a_p2), (3, .int x3), (4, .int (y4 + 1)), (5, .int y5), (6, .int y6)]) dX6_connect_145 rfl rfl (Nat.le_of_ble_eq_true rfl) rfl ?_
        refine xi_goto C (tgt := 39) dX6_connect_148 rfl ?_
        refine xi_drop (L2 := [(0, .ref a_t), (1, .int x1), (2, .ref a_p2), (3, .int x3), (4, .int (y4 + 1))]) [0, 1, 2, 3, 4] rfl ?_
        exact hK39 (y4 + 1) t_hears_e (va_up t_talks_e 0 (upd (upd (t_talks_e 0) y5.toNatClampNeg (((t_talks_e 0) y5.toNatClampNeg) ||| (1 <<< (y6 &&& 31)))) y6.toNatClampNeg (((upd (t_talks_e 0) y5.toNatClampNeg (((t_talks_e 0) y5.toNatClampNeg) ||| (1 <<< (y6 &&& 31)))) y6.toNatClampNeg) ||| (1 <<< (y5 &&& 31))))) h
      · replace h := nmE hj14.symm h
        refine xi_aaldA C 6 (b := (a_t_talks_e 1)) rfl c12 (by rw [hj14]; rfl) dX6_connect_118 ?_
        refine xi_iload C 5 dX6_connect_119 rfl ?_
        refine xi_dup2 C dX6_connect_121 rfl rfl ?_
        replace h := ig h
        obtain ⟨c19, h⟩ := h
        refine xi_iald C 8 rfl c19 dX6_connect_122 ?_
        refine xi_iconst C (v := 1) dX6_connect_123 rfl ?_
        refine xi_iload C 6 dX6_connect_124 rfl ?_
        refine xi_ishl C dX6_connect_126 ?_
        refine xi_ior C dX6_connect_127 ?_
        refine xi_iast C 8 rfl c19 dX6_connect_128 (ws2 := [(a_t, .inr (6, [.ref a_t_after, .ref a_t_hears, .ref a_t_talks, .int t_people, .int t_limit])), (a_t_hears, .inl (cT 6, 4, .inr (.inr (.inr (.inr (fun i => if i < 4 then some (a_t_hears_e i) else none)))))), ((a_t_hears_e 0), .inl (cT 0, 10, .inl (t_hears_e 0))), ((a_t_hears_e 1), .inl (cT 0, 10, .inl (t_hears_e 1))), ((a_t_hears_e 2), .inl (cT 0, 10, .inl (t_hears_e 2))), ((a_t_hears_e 3), .inl (cT 0, 10, .inl (t_hears_e 3))), (a_t_talks, .inl (cT 6, 4, .inr (.inr (.inr (.inr (fun i => if i < 4 then some (a_t_talks_e i) else none)))))), ((a_t_talks_e 0), .inl (cT 0, 10, .inl (t_talks_e 0))), ((a_t_talks_e 1), .inl (cT 0, 10, .inl (upd (t_talks_e 1) y5.toNatClampNeg (((t_talks_e 1) y5.toNatClampNeg) ||| (1 <<< (y6 &&& 31)))))), ((a_t_talks_e 2), .inl (cT 0, 10, .inl (t_talks_e 2))), ((a_t_talks_e 3), .inl (cT 0, 10, .inl (t_talks_e 3))), (a_p2, .inr (1, [.int p2_people, .int p2_lineCount, .ref a_p2_first, .ref a_p2_second, .ref a_p2_cost, .ref a_p2_oneWay, .ref a_p2_breaks, .ref a_p2_absences])), (a_p2_first, .inl (cT 0, 24, .inl p2_first)), (a_p2_second, .inl (cT 0, 24, .inl p2_second)), (a_p2_oneWay, .inl (cT 3, 24, .inl p2_oneWay))]) rfl ?_
        refine xi_aload_n C 0 dX6_connect_129 rfl ?_
        refine xi_get C zkX6 2 0 zlX6_22 (by decide) rfl rfl dX6_connect_130 ?_
        refine xi_iload_n C 1 dX6_connect_133 rfl ?_
        refine xi_aaldA C 6 (b := (a_t_talks_e 1)) rfl c12 (by rw [hj14]; rfl) dX6_connect_134 ?_
        refine xi_iload C 6 dX6_connect_135 rfl ?_
        refine xi_dup2 C dX6_connect_137 rfl rfl ?_
        replace h := ig h
        obtain ⟨c20, h⟩ := h
        refine xi_iald C 8 rfl c20 dX6_connect_138 ?_
        refine xi_iconst C (v := 1) dX6_connect_139 rfl ?_
        refine xi_iload C 5 dX6_connect_140 rfl ?_
        refine xi_ishl C dX6_connect_142 ?_
        refine xi_ior C dX6_connect_143 ?_
        refine xi_iast C 8 rfl c20 dX6_connect_144 (ws2 := [(a_t, .inr (6, [.ref a_t_after, .ref a_t_hears, .ref a_t_talks, .int t_people, .int t_limit])), (a_t_hears, .inl (cT 6, 4, .inr (.inr (.inr (.inr (fun i => if i < 4 then some (a_t_hears_e i) else none)))))), ((a_t_hears_e 0), .inl (cT 0, 10, .inl (t_hears_e 0))), ((a_t_hears_e 1), .inl (cT 0, 10, .inl (t_hears_e 1))), ((a_t_hears_e 2), .inl (cT 0, 10, .inl (t_hears_e 2))), ((a_t_hears_e 3), .inl (cT 0, 10, .inl (t_hears_e 3))), (a_t_talks, .inl (cT 6, 4, .inr (.inr (.inr (.inr (fun i => if i < 4 then some (a_t_talks_e i) else none)))))), ((a_t_talks_e 0), .inl (cT 0, 10, .inl (t_talks_e 0))), ((a_t_talks_e 1), .inl (cT 0, 10, .inl (upd (upd (t_talks_e 1) y5.toNatClampNeg (((t_talks_e 1) y5.toNatClampNeg) ||| (1 <<< (y6 &&& 31)))) y6.toNatClampNeg (((upd (t_talks_e 1) y5.toNatClampNeg (((t_talks_e 1) y5.toNatClampNeg) ||| (1 <<< (y6 &&& 31)))) y6.toNatClampNeg) ||| (1 <<< (y5 &&& 31)))))), ((a_t_talks_e 2), .inl (cT 0, 10, .inl (t_talks_e 2))), ((a_t_talks_e 3), .inl (cT 0, 10, .inl (t_talks_e 3))), (a_p2, .inr (1, [.int p2_people, .int p2_lineCount, .ref a_p2_first, .ref a_p2_second, .ref a_p2_cost, .ref a_p2_oneWay, .ref a_p2_breaks, .ref a_p2_absences])), (a_p2_first, .inl (cT 0, 24, .inl p2_first)), (a_p2_second, .inl (cT 0, 24, .inl p2_second)), (a_p2_oneWay, .inl (cT 3, 24, .inl p2_oneWay))]) rfl ?_
        refine xi_iinc C (v := y4 + 1) 4 [1, 2, 3, 4, 0, 5, 6] (L2 := [(0, .ref a_t), (1, .int x1), (2, .ref a_p2), (3, .int x3), (4, .int (y4 + 1)), (5, .int y5), (6, .int y6)]) dX6_connect_145 rfl rfl (Nat.le_of_ble_eq_true rfl) rfl ?_
        refine xi_goto C (tgt := 39) dX6_connect_148 rfl ?_
        refine xi_drop (L2 := [(0, .ref a_t), (1, .int x1), (2, .ref a_p2), (3, .int x3), (4, .int (y4 + 1))]) [0, 1, 2, 3, 4] rfl ?_
        exact hK39 (y4 + 1) t_hears_e (va_up t_talks_e 1 (upd (upd (t_talks_e 1) y5.toNatClampNeg (((t_talks_e 1) y5.toNatClampNeg) ||| (1 <<< (y6 &&& 31)))) y6.toNatClampNeg (((upd (t_talks_e 1) y5.toNatClampNeg (((t_talks_e 1) y5.toNatClampNeg) ||| (1 <<< (y6 &&& 31)))) y6.toNatClampNeg) ||| (1 <<< (y5 &&& 31))))) h
      · replace h := nmE hj14.symm h
        refine xi_aaldA C 6 (b := (a_t_talks_e 2)) rfl c12 (by rw [hj14]; rfl) dX6_connect_118 ?_
        refine xi_iload C 5 dX6_connect_119 rfl ?_
        refine xi_dup2 C dX6_connect_121 rfl rfl ?_
        replace h := ig h
        obtain ⟨c21, h⟩ := h
        refine xi_iald C 9 rfl c21 dX6_connect_122 ?_
        refine xi_iconst C (v := 1) dX6_connect_123 rfl ?_
        refine xi_iload C 6 dX6_connect_124 rfl ?_
        refine xi_ishl C dX6_connect_126 ?_
        refine xi_ior C dX6_connect_127 ?_
        refine xi_iast C 9 rfl c21 dX6_connect_128 (ws2 := [(a_t, .inr (6, [.ref a_t_after, .ref a_t_hears, .ref a_t_talks, .int t_people, .int t_limit])), (a_t_hears, .inl (cT 6, 4, .inr (.inr (.inr (.inr (fun i => if i < 4 then some (a_t_hears_e i) else none)))))), ((a_t_hears_e 0), .inl (cT 0, 10, .inl (t_hears_e 0))), ((a_t_hears_e 1), .inl (cT 0, 10, .inl (t_hears_e 1))), ((a_t_hears_e 2), .inl (cT 0, 10, .inl (t_hears_e 2))), ((a_t_hears_e 3), .inl (cT 0, 10, .inl (t_hears_e 3))), (a_t_talks, .inl (cT 6, 4, .inr (.inr (.inr (.inr (fun i => if i < 4 then some (a_t_talks_e i) else none)))))), ((a_t_talks_e 0), .inl (cT 0, 10, .inl (t_talks_e 0))), ((a_t_talks_e 1), .inl (cT 0, 10, .inl (t_talks_e 1))), ((a_t_talks_e 2), .inl (cT 0, 10, .inl (upd (t_talks_e 2) y5.toNatClampNeg (((t_talks_e 2) y5.toNatClampNeg) ||| (1 <<< (y6 &&& 31)))))), ((a_t_talks_e 3), .inl (cT 0, 10, .inl (t_talks_e 3))), (a_p2, .inr (1, [.int p2_people, .int p2_lineCount, .ref a_p2_first, .ref a_p2_second, .ref a_p2_cost, .ref a_p2_oneWay, .ref a_p2_breaks, .ref a_p2_absences])), (a_p2_first, .inl (cT 0, 24, .inl p2_first)), (a_p2_second, .inl (cT 0, 24, .inl p2_second)), (a_p2_oneWay, .inl (cT 3, 24, .inl p2_oneWay))]) rfl ?_
        refine xi_aload_n C 0 dX6_connect_129 rfl ?_
        refine xi_get C zkX6 2 0 zlX6_22 (by decide) rfl rfl dX6_connect_130 ?_
        refine xi_iload_n C 1 dX6_connect_133 rfl ?_
        refine xi_aaldA C 6 (b := (a_t_talks_e 2)) rfl c12 (by rw [hj14]; rfl) dX6_connect_134 ?_
        refine xi_iload C 6 dX6_connect_135 rfl ?_
        refine xi_dup2 C dX6_connect_137 rfl rfl ?_
        replace h := ig h
        obtain ⟨c22, h⟩ := h
        refine xi_iald C 9 rfl c22 dX6_connect_138 ?_
        refine xi_iconst C (v := 1) dX6_connect_139 rfl ?_
        refine xi_iload C 5 dX6_connect_140 rfl ?_
        refine xi_ishl C dX6_connect_142 ?_
        refine xi_ior C dX6_connect_143 ?_
        refine xi_iast C 9 rfl c22 dX6_connect_144 (ws2 := [(a_t, .inr (6, [.ref a_t_after, .ref a_t_hears, .ref a_t_talks, .int t_people, .int t_limit])), (a_t_hears, .inl (cT 6, 4, .inr (.inr (.inr (.inr (fun i => if i < 4 then some (a_t_hears_e i) else none)))))), ((a_t_hears_e 0), .inl (cT 0, 10, .inl (t_hears_e 0))), ((a_t_hears_e 1), .inl (cT 0, 10, .inl (t_hears_e 1))), ((a_t_hears_e 2), .inl (cT 0, 10, .inl (t_hears_e 2))), ((a_t_hears_e 3), .inl (cT 0, 10, .inl (t_hears_e 3))), (a_t_talks, .inl (cT 6, 4, .inr (.inr (.inr (.inr (fun i => if i < 4 then some (a_t_talks_e i) else none)))))), ((a_t_talks_e 0), .inl (cT 0, 10, .inl (t_talks_e 0))), ((a_t_talks_e 1), .inl (cT 0, 10, .inl (t_talks_e 1))), ((a_t_talks_e 2), .inl (cT 0, 10, .inl (upd (upd (t_talks_e 2) y5.toNatClampNeg (((t_talks_e 2) y5.toNatClampNeg) ||| (1 <<< (y6 &&& 31)))) y6.toNatClampNeg (((upd (t_talks_e 2) y5.toNatClampNeg (((t_talks_e 2) y5.toNatClampNeg) ||| (1 <<< (y6 &&& 31)))) y6.toNatClampNeg) ||| (1 <<< (y5 &&& 31)))))), ((a_t_talks_e 3), .inl (cT 0, 10, .inl (t_talks_e 3))), (a_p2, .inr (1, [.int p2_people, .int p2_lineCount, .ref a_p2_first, .ref a_p2_second, .ref a_p2_cost, .ref a_p2_oneWay, .ref a_p2_breaks, .ref a_p2_absences])), (a_p2_first, .inl (cT 0, 24, .inl p2_first)), (a_p2_second, .inl (cT 0, 24, .inl p2_second)), (a_p2_oneWay, .inl (cT 3, 24, .inl p2_oneWay))]) rfl ?_
        refine xi_iinc C (v := y4 + 1) 4 [1, 2, 3, 4, 0, 5, 6] (L2 := [(0, .ref a_t), (1, .int x1), (2, .ref a_p2), (3, .int x3), (4, .int (y4 + 1)), (5, .int y5), (6, .int y6)]) dX6_connect_145 rfl rfl (Nat.le_of_ble_eq_true rfl) rfl ?_
        refine xi_goto C (tgt := 39) dX6_connect_148 rfl ?_
        refine xi_drop (L2 := [(0, .ref a_t), (1, .int x1), (2, .ref a_p2), (3, .int x3), (4, .int (y4 + 1))]) [0, 1, 2, 3, 4] rfl ?_
        exact hK39 (y4 + 1) t_hears_e (va_up t_talks_e 2 (upd (upd (t_talks_e 2) y5.toNatClampNeg (((t_talks_e 2) y5.toNatClampNeg) ||| (1 <<< (y6 &&& 31)))) y6.toNatClampNeg (((upd (t_talks_e 2) y5.toNatClampNeg (((t_talks_e 2) y5.toNatClampNeg) ||| (1 <<< (y6 &&& 31)))) y6.toNatClampNeg) ||| (1 <<< (y5 &&& 31))))) h
      · replace h := nmE hj14.symm h
        refine xi_aaldA C 6 (b := (a_t_talks_e 3)) rfl c12 (by rw [hj14]; rfl) dX6_connect_118 ?_
        refine xi_iload C 5 dX6_connect_119 rfl ?_
        refine xi_dup2 C dX6_connect_121 rfl rfl ?_
        replace h := ig h
        obtain ⟨c23, h⟩ := h
        refine xi_iald C 10 rfl c23 dX6_connect_122 ?_
        refine xi_iconst C (v := 1) dX6_connect_123 rfl ?_
        refine xi_iload C 6 dX6_connect_124 rfl ?_
        refine xi_ishl C dX6_connect_126 ?_
        refine xi_ior C dX6_connect_127 ?_
        refine xi_iast C 10 rfl c23 dX6_connect_128 (ws2 := [(a_t, .inr (6, [.ref a_t_after, .ref a_t_hears, .ref a_t_talks, .int t_people, .int t_limit])), (a_t_hears, .inl (cT 6, 4, .inr (.inr (.inr (.inr (fun i => if i < 4 then some (a_t_hears_e i) else none)))))), ((a_t_hears_e 0), .inl (cT 0, 10, .inl (t_hears_e 0))), ((a_t_hears_e 1), .inl (cT 0, 10, .inl (t_hears_e 1))), ((a_t_hears_e 2), .inl (cT 0, 10, .inl (t_hears_e 2))), ((a_t_hears_e 3), .inl (cT 0, 10, .inl (t_hears_e 3))), (a_t_talks, .inl (cT 6, 4, .inr (.inr (.inr (.inr (fun i => if i < 4 then some (a_t_talks_e i) else none)))))), ((a_t_talks_e 0), .inl (cT 0, 10, .inl (t_talks_e 0))), ((a_t_talks_e 1), .inl (cT 0, 10, .inl (t_talks_e 1))), ((a_t_talks_e 2), .inl (cT 0, 10, .inl (t_talks_e 2))), ((a_t_talks_e 3), .inl (cT 0, 10, .inl (upd (t_talks_e 3) y5.toNatClampNeg (((t_talks_e 3) y5.toNatClampNeg) ||| (1 <<< (y6 &&& 31)))))), (a_p2, .inr (1, [.int p2_people, .int p2_lineCount, .ref a_p2_first, .ref a_p2_second, .ref a_p2_cost, .ref a_p2_oneWay, .ref a_p2_breaks, .ref a_p2_absences])), (a_p2_first, .inl (cT 0, 24, .inl p2_first)), (a_p2_second, .inl (cT 0, 24, .inl p2_second)), (a_p2_oneWay, .inl (cT 3, 24, .inl p2_oneWay))]) rfl ?_
        refine xi_aload_n C 0 dX6_connect_129 rfl ?_
        refine xi_get C zkX6 2 0 zlX6_22 (by decide) rfl rfl dX6_connect_130 ?_
        refine xi_iload_n C 1 dX6_connect_133 rfl ?_
        refine xi_aaldA C 6 (b := (a_t_talks_e 3)) rfl c12 (by rw [hj14]; rfl) dX6_connect_134 ?_
        refine xi_iload C 6 dX6_connect_135 rfl ?_
        refine xi_dup2 C dX6_connect_137 rfl rfl ?_
        replace h := ig h
        obtain ⟨c24, h⟩ := h
        refine xi_iald C 10 rfl c24 dX6_connect_138 ?_
        refine xi_iconst C (v := 1) dX6_connect_139 rfl ?_
        refine xi_iload C 5 dX6_connect_140 rfl ?_
        refine xi_ishl C dX6_connect_142 ?_
        refine xi_ior C dX6_connect_143 ?_
        refine xi_iast C 10 rfl c24 dX6_connect_144 (ws2 := [(a_t, .inr (6, [.ref a_t_after, .ref a_t_hears, .ref a_t_talks, .int t_people, .int t_limit])), (a_t_hears, .inl (cT 6, 4, .inr (.inr (.inr (.inr (fun i => if i < 4 then some (a_t_hears_e i) else none)))))), ((a_t_hears_e 0), .inl (cT 0, 10, .inl (t_hears_e 0))), ((a_t_hears_e 1), .inl (cT 0, 10, .inl (t_hears_e 1))), ((a_t_hears_e 2), .inl (cT 0, 10, .inl (t_hears_e 2))), ((a_t_hears_e 3), .inl (cT 0, 10, .inl (t_hears_e 3))), (a_t_talks, .inl (cT 6, 4, .inr (.inr (.inr (.inr (fun i => if i < 4 then some (a_t_talks_e i) else none)))))), ((a_t_talks_e 0), .inl (cT 0, 10, .inl (t_talks_e 0))), ((a_t_talks_e 1), .inl (cT 0, 10, .inl (t_talks_e 1))), ((a_t_talks_e 2), .inl (cT 0, 10, .inl (t_talks_e 2))), ((a_t_talks_e 3), .inl (cT 0, 10, .inl (upd (upd (t_talks_e 3) y5.toNatClampNeg (((t_talks_e 3) y5.toNatClampNeg) ||| (1 <<< (y6 &&& 31)))) y6.toNatClampNeg (((upd (t_talks_e 3) y5.toNatClampNeg (((t_talks_e 3) y5.toNatClampNeg) ||| (1 <<< (y6 &&& 31)))) y6.toNatClampNeg) ||| (1 <<< (y5 &&& 31)))))), (a_p2, .inr (1, [.int p2_people, .int p2_lineCount, .ref a_p2_first, .ref a_p2_second, .ref a_p2_cost, .ref a_p2_oneWay, .ref a_p2_breaks, .ref a_p2_absences])), (a_p2_first, .inl (cT 0, 24, .inl p2_first)), (a_p2_second, .inl (cT 0, 24, .inl p2_second)), (a_p2_oneWay, .inl (cT 3, 24, .inl p2_oneWay))]) rfl ?_
        refine xi_iinc C (v := y4 + 1) 4 [1, 2, 3, 4, 0, 5, 6] (L2 := [(0, .ref a_t), (1, .int x1), (2, .ref a_p2), (3, .int x3), (4, .int (y4 + 1)), (5, .int y5), (6, .int y6)]) dX6_connect_145 rfl rfl (Nat.le_of_ble_eq_true rfl) rfl ?_
        refine xi_goto C (tgt := 39) dX6_connect_148 rfl ?_
        refine xi_drop (L2 := [(0, .ref a_t), (1, .int x1), (2, .ref a_p2), (3, .int x3), (4, .int (y4 + 1))]) [0, 1, 2, 3, 4] rfl ?_
        exact hK39 (y4 + 1) t_hears_e (va_up t_talks_e 3 (upd (upd (t_talks_e 3) y5.toNatClampNeg (((t_talks_e 3) y5.toNatClampNeg) ||| (1 <<< (y6 &&& 31)))) y6.toNatClampNeg (((upd (t_talks_e 3) y5.toNatClampNeg (((t_talks_e 3) y5.toNatClampNeg) ||| (1 <<< (y6 &&& 31)))) y6.toNatClampNeg) ||| (1 <<< (y5 &&& 31))))) h
  have B39 : ∀ (n : Nat) (y4 : Int32) (t_hears_e : Nat → Nat → Int32) (t_talks_e : Nat → Nat → Int32), fX6_connect_b39 p2_lineCount p2_first p2_second p2_oneWay x1 x3 n y4 t_hears_e t_talks_e = some r → sW X l (zR 2) D 7 0 0 39 [(0, .ref a_t), (1, .int x1), (2, .ref a_p2), (3, .int x3), (4, .int y4)] [] [(a_t, .inr (6, [.ref a_t_after, .ref a_t_hears, .ref a_t_talks, .int t_people, .int t_limit])), (a_t_hears, .inl (cT 6, 4, .inr (.inr (.inr (.inr (fun i => if i < 4 then some (a_t_hears_e i) else none)))))), ((a_t_hears_e 0), .inl (cT 0, 10, .inl (t_hears_e 0))), ((a_t_hears_e 1), .inl (cT 0, 10, .inl (t_hears_e 1))), ((a_t_hears_e 2), .inl (cT 0, 10, .inl (t_hears_e 2))), ((a_t_hears_e 3), .inl (cT 0, 10, .inl (t_hears_e 3))), (a_t_talks, .inl (cT 6, 4, .inr (.inr (.inr (.inr (fun i => if i < 4 then some (a_t_talks_e i) else none)))))), ((a_t_talks_e 0), .inl (cT 0, 10, .inl (t_talks_e 0))), ((a_t_talks_e 1), .inl (cT 0, 10, .inl (t_talks_e 1))), ((a_t_talks_e 2), .inl (cT 0, 10, .inl (t_talks_e 2))), ((a_t_talks_e 3), .inl (cT 0, 10, .inl (t_talks_e 3))), (a_p2, .inr (1, [.int p2_people, .int p2_lineCount, .ref a_p2_first, .ref a_p2_second, .ref a_p2_cost, .ref a_p2_oneWay, .ref a_p2_breaks, .ref a_p2_absences])), (a_p2_first, .inl (cT 0, 24, .inl p2_first)), (a_p2_second, .inl (cT 0, 24, .inl p2_second)), (a_p2_oneWay, .inl (cT 3, 24, .inl p2_oneWay))] := by
    intro n
    induction n with
    | zero =>
      intro y4 t_hears_e t_talks_e h
      exact zno ((fX6_connect_b39_0 _ _ _ _ _ _ _ _ _).symm.trans h)
    | succ n ih =>
      intro y4 t_hears_e t_talks_e h
      replace h := (fX6_connect_b39_s _ _ _ _ _ _ _ _ _ _).symm.trans h
      refine xi_iload C 4 dX6_connect_39 rfl ?_
      refine xi_aload_n C 2 dX6_connect_41 rfl ?_
      refine xi_get C zkX1 1 11 zlX6_70 (by decide) rfl rfl dX6_connect_42 ?_
      refine xi_icmp_ge C (tgt := 151) dX6_connect_45 rfl (fun c2 => ?_) (fun c2 => ?_)
      · replace h := (if_pos c2).symm.trans h
        obtain rfl := Option.some.inj h
        exact hE _ _ dX6_connect_151 rfl
      · replace h := (if_neg c2).symm.trans h
        refine xi_aload_n C 2 dX6_connect_48 rfl ?_
        refine xi_get C zkX1 2 11 zlX6_73 (by decide) rfl rfl dX6_connect_49 ?_
        refine xi_iload C 4 dX6_connect_52 rfl ?_
        replace h := ig h
        obtain ⟨c3, h⟩ := h
        refine xi_iald C 12 rfl c3 dX6_connect_54 ?_
        refine xi_istore C [1, 2, 3, 4, 5, 0] (L2 := [(0, .ref a_t), (1, .int x1), (2, .ref a_p2), (3, .int x3), (4, .int y4), (5, .int (p2_first y4.toNatClampNeg))]) dX6_connect_55 (Nat.le_of_ble_eq_true rfl) rfl ?_
        refine xi_aload_n C 2 dX6_connect_57 rfl ?_
        refine xi_get C zkX1 3 11 zlX6_77 (by decide) rfl rfl dX6_connect_58 ?_
        refine xi_iload C 4 dX6_connect_61 rfl ?_
        refine xi_iald C 13 rfl c3 dX6_connect_63 ?_
        refine xi_istore C [1, 2, 3, 4, 5, 6, 0] (L2 := [(0, .ref a_t), (1, .int x1), (2, .ref a_p2), (3, .int x3), (4, .int y4), (5, .int (p2_first y4.toNatClampNeg)), (6, .int (p2_second y4.toNatClampNeg))]) dX6_connect_64 (Nat.le_of_ble_eq_true rfl) rfl ?_
        refine xi_iload_n C 3 dX6_connect_66 rfl ?_
        refine xi_iload C 4 dX6_connect_67 rfl ?_
        refine xi_callSr C (kX10_isIn l D cT x3 y4 (fX10_isIn x3 y4) rfl) zcX10_isIn zmX6_80 zsX10_isIn (zr rfl rfl) z00 rfl [] rfl rfl rfl (Nat.le_of_ble_eq_true rfl) dX6_connect_69 (fun z6 => ?_)
        refine xi_if_eq C (tgt := 104) dX6_connect_72 rfl (fun c7 => ?_) (fun c7 => ?_)
        · replace h := (if_pos c7).symm.trans h
          exact B104 (fX6_connect_b39 p2_lineCount p2_first p2_second p2_oneWay x1 x3 n) ih y4 (p2_first y4.toNatClampNeg) (p2_second y4.toNatClampNeg) t_hears_e t_talks_e h
        · replace h := (if_neg c7).symm.trans h
          refine xi_aload_n C 2 dX6_connect_75 rfl ?_
          refine xi_get C zkX1 5 11 zlX6_84 (by decide) rfl rfl dX6_connect_76 ?_
          refine xi_iload C 4 dX6_connect_79 rfl ?_
          refine xi_zald C 14 rfl c3 dX6_connect_81 ?_
          refine xi_if_eq C (tgt := 104) dX6_connect_82 rfl (fun c25 => ?_) (fun c25 => ?_)
          · replace h := (if_pos c25).symm.trans h
            exact B104 (fX6_connect_b39 p2_lineCount p2_first p2_second p2_oneWay x1 x3 n) ih y4 (p2_first y4.toNatClampNeg) (p2_second y4.toNatClampNeg) t_hears_e t_talks_e h
          · replace h := (if_neg c25).symm.trans h
            refine xi_aload_n C 0 dX6_connect_85 rfl ?_
            refine xi_get C zkX6 1 0 zlX6_19 (by decide) rfl rfl dX6_connect_86 ?_
            refine xi_iload_n C 1 dX6_connect_89 rfl ?_
            replace h := ig h
            obtain ⟨c26, h⟩ := h
            rcases zk4 c26 with hj28 | hj28 | hj28 | hj28
            · replace h := nmE hj28.symm h
              refine xi_aaldA C 1 (b := (a_t_hears_e 0)) rfl c26 (by rw [hj28]; rfl) dX6_connect_90 ?_
              refine xi_iload C 6 dX6_connect_91 rfl ?_
              refine xi_dup2 C dX6_connect_93 rfl rfl ?_
              replace h := ig h
              obtain ⟨c30, h⟩ := h
              refine xi_iald C 2 rfl c30 dX6_connect_94 ?_
              refine xi_iconst C (v := 1) dX6_connect_95 rfl ?_
              refine xi_iload C 5 dX6_connect_96 rfl ?_
              refine xi_ishl C dX6_connect_98 ?_
              refine xi_ior C dX6_connect_99 ?_
              refine xi_iast C 2 rfl c30 dX6_connect_100 (ws2 := [(a_t, .inr (6, [.ref a_t_after, .ref a_t_hears, .ref a_t_talks, .int t_people, .int t_limit])), (a_t_hears, .inl (cT 6, 4, .inr (.inr (.inr (.inr (fun i => if i < 4 then some (a_t_hears_e i) else none)))))), ((a_t_hears_e 0), .inl (cT 0, 10, .inl (upd (t_hears_e 0) (p2_second y4.toNatClampNeg).toNatClampNeg (((t_hears_e 0) (p2_second y4.toNatClampNeg).toNatClampNeg) ||| (1 <<< ((p2_first y4.toNatClampNeg) &&& 31)))))), ((a_t_hears_e 1), .inl (cT 0, 10, .inl (t_hears_e 1))), ((a_t_hears_e 2), .inl (cT 0, 10, .inl (t_hears_e 2))), ((a_t_hears_e 3), .inl (cT 0, 10, .inl (t_hears_e 3))), (a_t_talks, .inl (cT 6, 4, .inr (.inr (.inr (.inr (fun i => if i < 4 then some (a_t_talks_e i) else none)))))), ((a_t_talks_e 0), .inl (cT 0, 10, .inl (t_talks_e 0))), ((a_t_talks_e 1), .inl (cT 0, 10, .inl (t_talks_e 1))), ((a_t_talks_e 2), .inl (cT 0, 10, .inl (t_talks_e 2))), ((a_t_talks_e 3), .inl (cT 0, 10, .inl (t_talks_e 3))), (a_p2, .inr (1, [.int p2_people, .int p2_lineCount, .ref a_p2_first, .ref a_p2_second, .ref a_p2_cost, .ref a_p2_oneWay, .ref a_p2_breaks, .ref a_p2_absences])), (a_p2_first, .inl (cT 0, 24, .inl p2_first)), (a_p2_second, .inl (cT 0, 24, .inl p2_second)), (a_p2_oneWay, .inl (cT 3, 24, .inl p2_oneWay))]) rfl ?_
              refine xi_goto C (tgt := 145) dX6_connect_101 rfl ?_
              refine xi_iinc C (v := y4 + 1) 4 [1, 2, 3, 4, 0, 5, 6] (L2 := [(0, .ref a_t), (1, .int x1), (2, .ref a_p2), (3, .int x3), (4, .int (y4 + 1)), (5, .int (p2_first y4.toNatClampNeg)), (6, .int (p2_second y4.toNatClampNeg))]) dX6_connect_145 rfl rfl (Nat.le_of_ble_eq_true rfl) rfl ?_
              refine xi_goto C (tgt := 39) dX6_connect_148 rfl ?_
              refine xi_drop (L2 := [(0, .ref a_t), (1, .int x1), (2, .ref a_p2), (3, .int x3), (4, .int (y4 + 1))]) [0, 1, 2, 3, 4] rfl ?_
              exact ih (y4 + 1) (va_up t_hears_e 0 (upd (t_hears_e 0) (p2_second y4.toNatClampNeg).toNatClampNeg (((t_hears_e 0) (p2_second y4.toNatClampNeg).toNatClampNeg) ||| (1 <<< ((p2_first y4.toNatClampNeg) &&& 31))))) t_talks_e h
            · replace h := nmE hj28.symm h
              refine xi_aaldA C 1 (b := (a_t_hears_e 1)) rfl c26 (by rw [hj28]; rfl) dX6_connect_90 ?_
              refine xi_iload C 6 dX6_connect_91 rfl ?_
              refine xi_dup2 C dX6_connect_93 rfl rfl ?_
              replace h := ig h
              obtain ⟨c31, h⟩ := h
              refine xi_iald C 3 rfl c31 dX6_connect_94 ?_
              refine xi_iconst C (v := 1) dX6_connect_95 rfl ?_
              refine xi_iload C 5 dX6_connect_96 rfl ?_
              refine xi_ishl C dX6_connect_98 ?_
              refine xi_ior C dX6_connect_99 ?_
              refine xi_iast C 3 rfl c31 dX6_connect_100 (ws2 := [(a_t, .inr (6, [.ref a_t_after, .ref a_t_hears, .ref a_t_talks, .int t_people, .int t_limit])), (a_t_hears, .inl (cT 6, 4, .inr (.inr (.inr (.inr (fun i => if i < 4 then some (a_t_hears_e i) else none)))))), ((a_t_hears_e 0), .inl (cT 0, 10, .inl (t_hears_e 0))), ((a_t_hears_e 1), .inl (cT 0, 10, .inl (upd (t_hears_e 1) (p2_second y4.toNatClampNeg).toNatClampNeg (((t_hears_e 1) (p2_second y4.toNatClampNeg).toNatClampNeg) ||| (1 <<< ((p2_first y4.toNatClampNeg) &&& 31)))))), ((a_t_hears_e 2), .inl (cT 0, 10, .inl (t_hears_e 2))), ((a_t_hears_e 3), .inl (cT 0, 10, .inl (t_hears_e 3))), (a_t_talks, .inl (cT 6, 4, .inr (.inr (.inr (.inr (fun i => if i < 4 then some (a_t_talks_e i) else none)))))), ((a_t_talks_e 0), .inl (cT 0, 10, .inl (t_talks_e 0))), ((a_t_talks_e 1), .inl (cT 0, 10, .inl (t_talks_e 1))), ((a_t_talks_e 2), .inl (cT 0, 10, .inl (t_talks_e 2))), ((a_t_talks_e 3), .inl (cT 0, 10, .inl (t_talks_e 3))), (a_p2, .inr (1, [.int p2_people, .int p2_lineCount, .ref a_p2_first, .ref a_p2_second, .ref a_p2_cost, .ref a_p2_oneWay, .ref a_p2_breaks, .ref a_p2_absences])), (a_p2_first, .inl (cT 0, 24, .inl p2_first)), (a_p2_second, .inl (cT 0, 24, .inl p2_second)), (a_p2_oneWay, .inl (cT 3, 24, .inl p2_oneWay))]) rfl ?_
              refine xi_goto C (tgt := 145) dX6_connect_101 rfl ?_
              refine xi_iinc C (v := y4 + 1) 4 [1, 2, 3, 4, 0, 5, 6] (L2 := [(0, .ref a_t), (1, .int x1), (2, .ref a_p2), (3, .int x3), (4, .int (y4 + 1)), (5, .int (p2_first y4.toNatClampNeg)), (6, .int (p2_second y4.toNatClampNeg))]) dX6_connect_145 rfl rfl (Nat.le_of_ble_eq_true rfl) rfl ?_
              refine xi_goto C (tgt := 39) dX6_connect_148 rfl ?_
              refine xi_drop (L2 := [(0, .ref a_t), (1, .int x1), (2, .ref a_p2), (3, .int x3), (4, .int (y4 + 1))]) [0, 1, 2, 3, 4] rfl ?_
              exact ih (y4 + 1) (va_up t_hears_e 1 (upd (t_hears_e 1) (p2_second y4.toNatClampNeg).toNatClampNeg (((t_hears_e 1) (p2_second y4.toNatClampNeg).toNatClampNeg) ||| (1 <<< ((p2_first y4.toNatClampNeg) &&& 31))))) t_talks_e h
            · replace h := nmE hj28.symm h
              refine xi_aaldA C 1 (b := (a_t_hears_e 2)) rfl c26 (by rw [hj28]; rfl) dX6_connect_90 ?_
              refine xi_iload C 6 dX6_connect_91 rfl ?_
              refine xi_dup2 C dX6_connect_93 rfl rfl ?_
              replace h := ig h
              obtain ⟨c32, h⟩ := h
              refine xi_iald C 4 rfl c32 dX6_connect_94 ?_
              refine xi_iconst C (v := 1) dX6_connect_95 rfl ?_
              refine xi_iload C 5 dX6_connect_96 rfl ?_
              refine xi_ishl C dX6_connect_98 ?_
              refine xi_ior C dX6_connect_99 ?_
              refine xi_iast C 4 rfl c32 dX6_connect_100 (ws2 := [(a_t, .inr (6, [.ref a_t_after, .ref a_t_hears, .ref a_t_talks, .int t_people, .int t_limit])), (a_t_hears, .inl (cT 6, 4, .inr (.inr (.inr (.inr (fun i => if i < 4 then some (a_t_hears_e i) else none)))))), ((a_t_hears_e 0), .inl (cT 0, 10, .inl (t_hears_e 0))), ((a_t_hears_e 1), .inl (cT 0, 10, .inl (t_hears_e 1))), ((a_t_hears_e 2), .inl (cT 0, 10, .inl (upd (t_hears_e 2) (p2_second y4.toNatClampNeg).toNatClampNeg (((t_hears_e 2) (p2_second y4.toNatClampNeg).toNatClampNeg) ||| (1 <<< ((p2_first y4.toNatClampNeg) &&& 31)))))), ((a_t_hears_e 3), .inl (cT 0, 10, .inl (t_hears_e 3))), (a_t_talks, .inl (cT 6, 4, .inr (.inr (.inr (.inr (fun i => if i < 4 then some (a_t_talks_e i) else none)))))), ((a_t_talks_e 0), .inl (cT 0, 10, .inl (t_talks_e 0))), ((a_t_talks_e 1), .inl (cT 0, 10, .inl (t_talks_e 1))), ((a_t_talks_e 2), .inl (cT 0, 10, .inl (t_talks_e 2))), ((a_t_talks_e 3), .inl (cT 0, 10, .inl (t_talks_e 3))), (a_p2, .inr (1, [.int p2_people, .int p2_lineCount, .ref a_p2_first, .ref a_p2_second, .ref a_p2_cost, .ref a_p2_oneWay, .ref a_p2_breaks, .ref a_p2_absences])), (a_p2_first, .inl (cT 0, 24, .inl p2_first)), (a_p2_second, .inl (cT 0, 24, .inl p2_second)), (a_p2_oneWay, .inl (cT 3, 24, .inl p2_oneWay))]) rfl ?_
              refine xi_goto C (tgt := 145) dX6_connect_101 rfl ?_
              refine xi_iinc C (v := y4 + 1) 4 [1, 2, 3, 4, 0, 5, 6] (L2 := [(0, .ref a_t), (1, .int x1), (2, .ref a_p2), (3, .int x3), (4, .int (y4 + 1)), (5, .int (p2_first y4.toNatClampNeg)), (6, .int (p2_second y4.toNatClampNeg))]) dX6_connect_145 rfl rfl (Nat.le_of_ble_eq_true rfl) rfl ?_
              refine xi_goto C (tgt := 39) dX6_connect_148 rfl ?_
              refine xi_drop (L2 := [(0, .ref a_t), (1, .int x1), (2, .ref a_p2), (3, .int x3), (4, .int (y4 + 1))]) [0, 1, 2, 3, 4] rfl ?_
              exact ih (y4 + 1) (va_up t_hears_e 2 (upd (t_hears_e 2) (p2_second y4.toNatClampNeg).toNatClampNeg (((t_hears_e 2) (p2_second y4.toNatClampNeg).toNatClampNeg) ||| (1 <<< ((p2_first y4.toNatClampNeg) &&& 31))))) t_talks_e h
            · replace h := nmE hj28.symm h
              refine xi_aaldA C 1 (b := (a_t_hears_e 3)) rfl c26 (by rw [hj28]; rfl) dX6_connect_90 ?_
              refine xi_iload C 6 dX6_connect_91 rfl ?_
              refine xi_dup2 C dX6_connect_93 rfl rfl ?_
              replace h := ig h
              obtain ⟨c33, h⟩ := h
              refine xi_iald C 5 rfl c33 dX6_connect_94 ?_
              refine xi_iconst C (v := 1) dX6_connect_95 rfl ?_
              refine xi_iload C 5 dX6_connect_96 rfl ?_
              refine xi_ishl C dX6_connect_98 ?_
              refine xi_ior C dX6_connect_99 ?_
              refine xi_iast C 5 rfl c33 dX6_connect_100 (ws2 := [(a_t, .inr (6, [.ref a_t_after, .ref a_t_hears, .ref a_t_talks, .int t_people, .int t_limit])), (a_t_hears, .inl (cT 6, 4, .inr (.inr (.inr (.inr (fun i => if i < 4 then some (a_t_hears_e i) else none)))))), ((a_t_hears_e 0), .inl (cT 0, 10, .inl (t_hears_e 0))), ((a_t_hears_e 1), .inl (cT 0, 10, .inl (t_hears_e 1))), ((a_t_hears_e 2), .inl (cT 0, 10, .inl (t_hears_e 2))), ((a_t_hears_e 3), .inl (cT 0, 10, .inl (upd (t_hears_e 3) (p2_second y4.toNatClampNeg).toNatClampNeg (((t_hears_e 3) (p2_second y4.toNatClampNeg).toNatClampNeg) ||| (1 <<< ((p2_first y4.toNatClampNeg) &&& 31)))))), (a_t_talks, .inl (cT 6, 4, .inr (.inr (.inr (.inr (fun i => if i < 4 then some (a_t_talks_e i) else none)))))), ((a_t_talks_e 0), .inl (cT 0, 10, .inl (t_talks_e 0))), ((a_t_talks_e 1), .inl (cT 0, 10, .inl (t_talks_e 1))), ((a_t_talks_e 2), .inl (cT 0, 10, .inl (t_talks_e 2))), ((a_t_talks_e 3), .inl (cT 0, 10, .inl (t_talks_e 3))), (a_p2, .inr (1, [.int p2_people, .int p2_lineCount, .ref a_p2_first, .ref a_p2_second, .ref a_p2_cost, .ref a_p2_oneWay, .ref a_p2_breaks, .ref a_p2_absences])), (a_p2_first, .inl (cT 0, 24, .inl p2_first)), (a_p2_second, .inl (cT 0, 24, .inl p2_second)), (a_p2_oneWay, .inl (cT 3, 24, .inl p2_oneWay))]) rfl ?_
              refine xi_goto C (tgt := 145) dX6_connect_101 rfl ?_
              refine xi_iinc C (v := y4 + 1) 4 [1, 2, 3, 4, 0, 5, 6] (L2 := [(0, .ref a_t), (1, .int x1), (2, .ref a_p2), (3, .int x3), (4, .int (y4 + 1)), (5, .int (p2_first y4.toNatClampNeg)), (6, .int (p2_second y4.toNatClampNeg))]) dX6_connect_145 rfl rfl (Nat.le_of_ble_eq_true rfl) rfl ?_
              refine xi_goto C (tgt := 39) dX6_connect_148 rfl ?_
              refine xi_drop (L2 := [(0, .ref a_t), (1, .int x1), (2, .ref a_p2), (3, .int x3), (4, .int (y4 + 1))]) [0, 1, 2, 3, 4] rfl ?_
              exact ih (y4 + 1) (va_up t_hears_e 3 (upd (t_hears_e 3) (p2_second y4.toNatClampNeg).toNatClampNeg (((t_hears_e 3) (p2_second y4.toNatClampNeg).toNatClampNeg) ||| (1 <<< ((p2_first y4.toNatClampNeg) &&& 31))))) t_talks_e h
  have B3 : ∀ (n : Nat) (y4 : Int32) (t_hears_e : Nat → Nat → Int32) (t_talks_e : Nat → Nat → Int32), fX6_connect_b3 p2_lineCount p2_first p2_second p2_oneWay x1 x3 n y4 t_hears_e t_talks_e = some r → sW X l (zR 2) D 7 0 0 3 [(0, .ref a_t), (1, .int x1), (2, .ref a_p2), (3, .int x3), (4, .int y4)] [] [(a_t, .inr (6, [.ref a_t_after, .ref a_t_hears, .ref a_t_talks, .int t_people, .int t_limit])), (a_t_hears, .inl (cT 6, 4, .inr (.inr (.inr (.inr (fun i => if i < 4 then some (a_t_hears_e i) else none)))))), ((a_t_hears_e 0), .inl (cT 0, 10, .inl (t_hears_e 0))), ((a_t_hears_e 1), .inl (cT 0, 10, .inl (t_hears_e 1))), ((a_t_hears_e 2), .inl (cT 0, 10, .inl (t_hears_e 2))), ((a_t_hears_e 3), .inl (cT 0, 10, .inl (t_hears_e 3))), (a_t_talks, .inl (cT 6, 4, .inr (.inr (.inr (.inr (fun i => if i < 4 then some (a_t_talks_e i) else none)))))), ((a_t_talks_e 0), .inl (cT 0, 10, .inl (t_talks_e 0))), ((a_t_talks_e 1), .inl (cT 0, 10, .inl (t_talks_e 1))), ((a_t_talks_e 2), .inl (cT 0, 10, .inl (t_talks_e 2))), ((a_t_talks_e 3), .inl (cT 0, 10, .inl (t_talks_e 3))), (a_p2, .inr (1, [.int p2_people, .int p2_lineCount, .ref a_p2_first, .ref a_p2_second, .ref a_p2_cost, .ref a_p2_oneWay, .ref a_p2_breaks, .ref a_p2_absences])), (a_p2_first, .inl (cT 0, 24, .inl p2_first)), (a_p2_second, .inl (cT 0, 24, .inl p2_second)), (a_p2_oneWay, .inl (cT 3, 24, .inl p2_oneWay))] := by
    intro n
    induction n with
    | zero =>
      intro y4 t_hears_e t_talks_e h
      exact zno ((fX6_connect_b3_0 _ _ _ _ _ _ _ _ _).symm.trans h)
    | succ n ih =>
      intro y4 t_hears_e t_talks_e h
      replace h := (fX6_connect_b3_s _ _ _ _ _ _ _ _ _ _).symm.trans h
      refine xi_iload C 4 dX6_connect_3 rfl ?_
      refine xi_bipush C (v := 10) dX6_connect_5 rfl ?_
      refine xi_icmp_ge C (tgt := 36) dX6_connect_7 rfl (fun c1 => ?_) (fun c1 => ?_)
      · replace h := (if_pos c1).symm.trans h
        refine xi_iconst C (v := 0) dX6_connect_36 rfl ?_
        refine xi_istore C [1, 2, 3, 4, 0] (L2 := [(0, .ref a_t), (1, .int x1), (2, .ref a_p2), (3, .int x3), (4, .int 0)]) dX6_connect_37 (Nat.le_of_ble_eq_true rfl) rfl ?_
        exact B39 FU 0 t_hears_e t_talks_e h
      · replace h := (if_neg c1).symm.trans h
        refine xi_aload_n C 0 dX6_connect_10 rfl ?_
        refine xi_get C zkX6 1 0 zlX6_19 (by decide) rfl rfl dX6_connect_11 ?_
        refine xi_iload_n C 1 dX6_connect_14 rfl ?_
        replace h := ig h
        obtain ⟨c34, h⟩ := h
        rcases zk4 c34 with hj36 | hj36 | hj36 | hj36
        · replace h := nmE hj36.symm h
          refine xi_aaldA C 1 (b := (a_t_hears_e 0)) rfl c34 (by rw [hj36]; rfl) dX6_connect_15 ?_
          refine xi_iload C 4 dX6_connect_16 rfl ?_
          refine xi_iconst C (v := 0) dX6_connect_18 rfl ?_
          replace h := ig h
          obtain ⟨c38, h⟩ := h
          refine xi_iast C 2 rfl c38 dX6_connect_19 (ws2 := [(a_t, .inr (6, [.ref a_t_after, .ref a_t_hears, .ref a_t_talks, .int t_people, .int t_limit])), (a_t_hears, .inl (cT 6, 4, .inr (.inr (.inr (.inr (fun i => if i < 4 then some (a_t_hears_e i) else none)))))), ((a_t_hears_e 0), .inl (cT 0, 10, .inl (upd (t_hears_e 0) y4.toNatClampNeg 0))), ((a_t_hears_e 1), .inl (cT 0, 10, .inl (t_hears_e 1))), ((a_t_hears_e 2), .inl (cT 0, 10, .inl (t_hears_e 2))), ((a_t_hears_e 3), .inl (cT 0, 10, .inl (t_hears_e 3))), (a_t_talks, .inl (cT 6, 4, .inr (.inr (.inr (.inr (fun i => if i < 4 then some (a_t_talks_e i) else none)))))), ((a_t_talks_e 0), .inl (cT 0, 10, .inl (t_talks_e 0))), ((a_t_talks_e 1), .inl (cT 0, 10, .inl (t_talks_e 1))), ((a_t_talks_e 2), .inl (cT 0, 10, .inl (t_talks_e 2))), ((a_t_talks_e 3), .inl (cT 0, 10, .inl (t_talks_e 3))), (a_p2, .inr (1, [.int p2_people, .int p2_lineCount, .ref a_p2_first, .ref a_p2_second, .ref a_p2_cost, .ref a_p2_oneWay, .ref a_p2_breaks, .ref a_p2_absences])), (a_p2_first, .inl (cT 0, 24, .inl p2_first)), (a_p2_second, .inl (cT 0, 24, .inl p2_second)), (a_p2_oneWay, .inl (cT 3, 24, .inl p2_oneWay))]) rfl ?_
          refine xi_aload_n C 0 dX6_connect_20 rfl ?_
          refine xi_get C zkX6 2 0 zlX6_22 (by decide) rfl rfl dX6_connect_21 ?_
          refine xi_iload_n C 1 dX6_connect_24 rfl ?_
          refine xi_aaldA C 6 (b := (a_t_talks_e 0)) rfl c34 (by rw [hj36]; rfl) dX6_connect_25 ?_
          refine xi_iload C 4 dX6_connect_26 rfl ?_
          refine xi_iconst C (v := 0) dX6_connect_28 rfl ?_
          refine xi_iast C 7 rfl c38 dX6_connect_29 (ws2 := [(a_t, .inr (6, [.ref a_t_after, .ref a_t_hears, .ref a_t_talks, .int t_people, .int t_limit])), (a_t_hears, .inl (cT 6, 4, .inr (.inr (.inr (.inr (fun i => if i < 4 then some (a_t_hears_e i) else none)))))), ((a_t_hears_e 0), .inl (cT 0, 10, .inl (upd (t_hears_e 0) y4.toNatClampNeg 0))), ((a_t_hears_e 1), .inl (cT 0, 10, .inl (t_hears_e 1))), ((a_t_hears_e 2), .inl (cT 0, 10, .inl (t_hears_e 2))), ((a_t_hears_e 3), .inl (cT 0, 10, .inl (t_hears_e 3))), (a_t_talks, .inl (cT 6, 4, .inr (.inr (.inr (.inr (fun i => if i < 4 then some (a_t_talks_e i) else none)))))), ((a_t_talks_e 0), .inl (cT 0, 10, .inl (upd (t_talks_e 0) y4.toNatClampNeg 0))), ((a_t_talks_e 1), .inl (cT 0, 10, .inl (t_talks_e 1))), ((a_t_talks_e 2), .inl (cT 0, 10, .inl (t_talks_e 2))), ((a_t_talks_e 3), .inl (cT 0, 10, .inl (t_talks_e 3))), (a_p2, .inr (1, [.int p2_people, .int p2_lineCount, .ref a_p2_first, .ref a_p2_second, .ref a_p2_cost, .ref a_p2_oneWay, .ref a_p2_breaks, .ref a_p2_absences])), (a_p2_first, .inl (cT 0, 24, .inl p2_first)), (a_p2_second, .inl (cT 0, 24, .inl p2_second)), (a_p2_oneWay, .inl (cT 3, 24, .inl p2_oneWay))]) rfl ?_
          refine xi_iinc C (v := y4 + 1) 4 [1, 2, 3, 4, 0] (L2 := [(0, .ref a_t), (1, .int x1), (2, .ref a_p2), (3, .int x3), (4, .int (y4 + 1))]) dX6_connect_30 rfl rfl (Nat.le_of_ble_eq_true rfl) rfl ?_
          refine xi_goto C (tgt := 3) dX6_connect_33 rfl ?_
          exact ih (y4 + 1) (va_up t_hears_e 0 (upd (t_hears_e 0) y4.toNatClampNeg 0)) (va_up t_talks_e 0 (upd (t_talks_e 0) y4.toNatClampNeg 0)) h
        · replace h := nmE hj36.symm h
          refine xi_aaldA C 1 (b := (a_t_hears_e 1)) rfl c34 (by rw [hj36]; rfl) dX6_connect_15 ?_
          refine xi_iload C 4 dX6_connect_16 rfl ?_
          refine xi_iconst C (v := 0) dX6_connect_18 rfl ?_
          replace h := ig h
          obtain ⟨c39, h⟩ := h
          refine xi_iast C 3 rfl c39 dX6_connect_19 (ws2 := [(a_t, .inr (6, [.ref a_t_after, .ref a_t_hears, .ref a_t_talks, .int t_people, .int t_limit])), (a_t_hears, .inl (cT 6, 4, .inr (.inr (.inr (.inr (fun i => if i < 4 then some (a_t_hears_e i) else none)))))), ((a_t_hears_e 0), .inl (cT 0, 10, .inl (t_hears_e 0))), ((a_t_hears_e 1), .inl (cT 0, 10, .inl (upd (t_hears_e 1) y4.toNatClampNeg 0))), ((a_t_hears_e 2), .inl (cT 0, 10, .inl (t_hears_e 2))), ((a_t_hears_e 3), .inl (cT 0, 10, .inl (t_hears_e 3))), (a_t_talks, .inl (cT 6, 4, .inr (.inr (.inr (.inr (fun i => if i < 4 then some (a_t_talks_e i) else none)))))), ((a_t_talks_e 0), .inl (cT 0, 10, .inl (t_talks_e 0))), ((a_t_talks_e 1), .inl (cT 0, 10, .inl (t_talks_e 1))), ((a_t_talks_e 2), .inl (cT 0, 10, .inl (t_talks_e 2))), ((a_t_talks_e 3), .inl (cT 0, 10, .inl (t_talks_e 3))), (a_p2, .inr (1, [.int p2_people, .int p2_lineCount, .ref a_p2_first, .ref a_p2_second, .ref a_p2_cost, .ref a_p2_oneWay, .ref a_p2_breaks, .ref a_p2_absences])), (a_p2_first, .inl (cT 0, 24, .inl p2_first)), (a_p2_second, .inl (cT 0, 24, .inl p2_second)), (a_p2_oneWay, .inl (cT 3, 24, .inl p2_oneWay))]) rfl ?_
          refine xi_aload_n C 0 dX6_connect_20 rfl ?_
          refine xi_get C zkX6 2 0 zlX6_22 (by decide) rfl rfl dX6_connect_21 ?_
          refine xi_iload_n C 1 dX6_connect_24 rfl ?_
          refine xi_aaldA C 6 (b := (a_t_talks_e 1)) rfl c34 (by rw [hj36]; rfl) dX6_connect_25 ?_
          refine xi_iload C 4 dX6_connect_26 rfl ?_
          refine xi_iconst C (v := 0) dX6_connect_28 rfl ?_
          refine xi_iast C 8 rfl c39 dX6_connect_29 (ws2 := [(a_t, .inr (6, [.ref a_t_after, .ref a_t_hears, .ref a_t_talks, .int t_people, .int t_limit])), (a_t_hears, .inl (cT 6, 4, .inr (.inr (.inr (.inr (fun i => if i < 4 then some (a_t_hears_e i) else none)))))), ((a_t_hears_e 0), .inl (cT 0, 10, .inl (t_hears_e 0))), ((a_t_hears_e 1), .inl (cT 0, 10, .inl (upd (t_hears_e 1) y4.toNatClampNeg 0))), ((a_t_hears_e 2), .inl (cT 0, 10, .inl (t_hears_e 2))), ((a_t_hears_e 3), .inl (cT 0, 10, .inl (t_hears_e 3))), (a_t_talks, .inl (cT 6, 4, .inr (.inr (.inr (.inr (fun i => if i < 4 then some (a_t_talks_e i) else none)))))), ((a_t_talks_e 0), .inl (cT 0, 10, .inl (t_talks_e 0))), ((a_t_talks_e 1), .inl (cT 0, 10, .inl (upd (t_talks_e 1) y4.toNatClampNeg 0))), ((a_t_talks_e 2), .inl (cT 0, 10, .inl (t_talks_e 2))), ((a_t_talks_e 3), .inl (cT 0, 10, .inl (t_talks_e 3))), (a_p2, .inr (1, [.int p2_people, .int p2_lineCount, .ref a_p2_first, .ref a_p2_second, .ref a_p2_cost, .ref a_p2_oneWay, .ref a_p2_breaks, .ref a_p2_absences])), (a_p2_first, .inl (cT 0, 24, .inl p2_first)), (a_p2_second, .inl (cT 0, 24, .inl p2_second)), (a_p2_oneWay, .inl (cT 3, 24, .inl p2_oneWay))]) rfl ?_
          refine xi_iinc C (v := y4 + 1) 4 [1, 2, 3, 4, 0] (L2 := [(0, .ref a_t), (1, .int x1), (2, .ref a_p2), (3, .int x3), (4, .int (y4 + 1))]) dX6_connect_30 rfl rfl (Nat.le_of_ble_eq_true rfl) rfl ?_
          refine xi_goto C (tgt := 3) dX6_connect_33 rfl ?_
          exact ih (y4 + 1) (va_up t_hears_e 1 (upd (t_hears_e 1) y4.toNatClampNeg 0)) (va_up t_talks_e 1 (upd (t_talks_e 1) y4.toNatClampNeg 0)) h
        · replace h := nmE hj36.symm h
          refine xi_aaldA C 1 (b := (a_t_hears_e 2)) rfl c34 (by rw [hj36]; rfl) dX6_connect_15 ?_
          refine xi_iload C 4 dX6_connect_16 rfl ?_
          refine xi_iconst C (v := 0) dX6_connect_18 rfl ?_
          replace h := ig h
          obtain ⟨c40, h⟩ := h
          refine xi_iast C 4 rfl c40 dX6_connect_19 (ws2 := [(a_t, .inr (6, [.ref a_t_after, .ref a_t_hears, .ref a_t_talks, .int t_people, .int t_limit])), (a_t_hears, .inl (cT 6, 4, .inr (.inr (.inr (.inr (fun i => if i < 4 then some (a_t_hears_e i) else none)))))), ((a_t_hears_e 0), .inl (cT 0, 10, .inl (t_hears_e 0))), ((a_t_hears_e 1), .inl (cT 0, 10, .inl (t_hears_e 1))), ((a_t_hears_e 2), .inl (cT 0, 10, .inl (upd (t_hears_e 2) y4.toNatClampNeg 0))), ((a_t_hears_e 3), .inl (cT 0, 10, .inl (t_hears_e 3))), (a_t_talks, .inl (cT 6, 4, .inr (.inr (.inr (.inr (fun i => if i < 4 then some (a_t_talks_e i) else none)))))), ((a_t_talks_e 0), .inl (cT 0, 10, .inl (t_talks_e 0))), ((a_t_talks_e 1), .inl (cT 0, 10, .inl (t_talks_e 1))), ((a_t_talks_e 2), .inl (cT 0, 10, .inl (t_talks_e 2))), ((a_t_talks_e 3), .inl (cT 0, 10, .inl (t_talks_e 3))), (a_p2, .inr (1, [.int p2_people, .int p2_lineCount, .ref a_p2_first, .ref a_p2_second, .ref a_p2_cost, .ref a_p2_oneWay, .ref a_p2_breaks, .ref a_p2_absences])), (a_p2_first, .inl (cT 0, 24, .inl p2_first)), (a_p2_second, .inl (cT 0, 24, .inl p2_second)), (a_p2_oneWay, .inl (cT 3, 24, .inl p2_oneWay))]) rfl ?_
          refine xi_aload_n C 0 dX6_connect_20 rfl ?_
          refine xi_get C zkX6 2 0 zlX6_22 (by decide) rfl rfl dX6_connect_21 ?_
          refine xi_iload_n C 1 dX6_connect_24 rfl ?_
          refine xi_aaldA C 6 (b := (a_t_talks_e 2)) rfl c34 (by rw [hj36]; rfl) dX6_connect_25 ?_
          refine xi_iload C 4 dX6_connect_26 rfl ?_
          refine xi_iconst C (v := 0) dX6_connect_28 rfl ?_
          refine xi_iast C 9 rfl c40 dX6_connect_29 (ws2 := [(a_t, .inr (6, [.ref a_t_after, .ref a_t_hears, .ref a_t_talks, .int t_people, .int t_limit])), (a_t_hears, .inl (cT 6, 4, .inr (.inr (.inr (.inr (fun i => if i < 4 then some (a_t_hears_e i) else none)))))), ((a_t_hears_e 0), .inl (cT 0, 10, .inl (t_hears_e 0))), ((a_t_hears_e 1), .inl (cT 0, 10, .inl (t_hears_e 1))), ((a_t_hears_e 2), .inl (cT 0, 10, .inl (upd (t_hears_e 2) y4.toNatClampNeg 0))), ((a_t_hears_e 3), .inl (cT 0, 10, .inl (t_hears_e 3))), (a_t_talks, .inl (cT 6, 4, .inr (.inr (.inr (.inr (fun i => if i < 4 then some (a_t_talks_e i) else none)))))), ((a_t_talks_e 0), .inl (cT 0, 10, .inl (t_talks_e 0))), ((a_t_talks_e 1), .inl (cT 0, 10, .inl (t_talks_e 1))), ((a_t_talks_e 2), .inl (cT 0, 10, .inl (upd (t_talks_e 2) y4.toNatClampNeg 0))), ((a_t_talks_e 3), .inl (cT 0, 10, .inl (t_talks_e 3))), (a_p2, .inr (1, [.int p2_people, .int p2_lineCount, .ref a_p2_first, .ref a_p2_second, .ref a_p2_cost, .ref a_p2_oneWay, .ref a_p2_breaks, .ref a_p2_absences])), (a_p2_first, .inl (cT 0, 24, .inl p2_first)), (a_p2_second, .inl (cT 0, 24, .inl p2_second)), (a_p2_oneWay, .inl (cT 3, 24, .inl p2_oneWay))]) rfl ?_
          refine xi_iinc C (v := y4 + 1) 4 [1, 2, 3, 4, 0] (L2 := [(0, .ref a_t), (1, .int x1), (2, .ref a_p2), (3, .int x3), (4, .int (y4 + 1))]) dX6_connect_30 rfl rfl (Nat.le_of_ble_eq_true rfl) rfl ?_
          refine xi_goto C (tgt := 3) dX6_connect_33 rfl ?_
          exact ih (y4 + 1) (va_up t_hears_e 2 (upd (t_hears_e 2) y4.toNatClampNeg 0)) (va_up t_talks_e 2 (upd (t_talks_e 2) y4.toNatClampNeg 0)) h
        · replace h := nmE hj36.symm h
          refine xi_aaldA C 1 (b := (a_t_hears_e 3)) rfl c34 (by rw [hj36]; rfl) dX6_connect_15 ?_
          refine xi_iload C 4 dX6_connect_16 rfl ?_
          refine xi_iconst C (v := 0) dX6_connect_18 rfl ?_
          replace h := ig h
          obtain ⟨c41, h⟩ := h
          refine xi_iast C 5 rfl c41 dX6_connect_19 (ws2 := [(a_t, .inr (6, [.ref a_t_after, .ref a_t_hears, .ref a_t_talks, .int t_people, .int t_limit])), (a_t_hears, .inl (cT 6, 4, .inr (.inr (.inr (.inr (fun i => if i < 4 then some (a_t_hears_e i) else none)))))), ((a_t_hears_e 0), .inl (cT 0, 10, .inl (t_hears_e 0))), ((a_t_hears_e 1), .inl (cT 0, 10, .inl (t_hears_e 1))), ((a_t_hears_e 2), .inl (cT 0, 10, .inl (t_hears_e 2))), ((a_t_hears_e 3), .inl (cT 0, 10, .inl (upd (t_hears_e 3) y4.toNatClampNeg 0))), (a_t_talks, .inl (cT 6, 4, .inr (.inr (.inr (.inr (fun i => if i < 4 then some (a_t_talks_e i) else none)))))), ((a_t_talks_e 0), .inl (cT 0, 10, .inl (t_talks_e 0))), ((a_t_talks_e 1), .inl (cT 0, 10, .inl (t_talks_e 1))), ((a_t_talks_e 2), .inl (cT 0, 10, .inl (t_talks_e 2))), ((a_t_talks_e 3), .inl (cT 0, 10, .inl (t_talks_e 3))), (a_p2, .inr (1, [.int p2_people, .int p2_lineCount, .ref a_p2_first, .ref a_p2_second, .ref a_p2_cost, .ref a_p2_oneWay, .ref a_p2_breaks, .ref a_p2_absences])), (a_p2_first, .inl (cT 0, 24, .inl p2_first)), (a_p2_second, .inl (cT 0, 24, .inl p2_second)), (a_p2_oneWay, .inl (cT 3, 24, .inl p2_oneWay))]) rfl ?_
          refine xi_aload_n C 0 dX6_connect_20 rfl ?_
          refine xi_get C zkX6 2 0 zlX6_22 (by decide) rfl rfl dX6_connect_21 ?_
          refine xi_iload_n C 1 dX6_connect_24 rfl ?_
          refine xi_aaldA C 6 (b := (a_t_talks_e 3)) rfl c34 (by rw [hj36]; rfl) dX6_connect_25 ?_
          refine xi_iload C 4 dX6_connect_26 rfl ?_
          refine xi_iconst C (v := 0) dX6_connect_28 rfl ?_
          refine xi_iast C 10 rfl c41 dX6_connect_29 (ws2 := [(a_t, .inr (6, [.ref a_t_after, .ref a_t_hears, .ref a_t_talks, .int t_people, .int t_limit])), (a_t_hears, .inl (cT 6, 4, .inr (.inr (.inr (.inr (fun i => if i < 4 then some (a_t_hears_e i) else none)))))), ((a_t_hears_e 0), .inl (cT 0, 10, .inl (t_hears_e 0))), ((a_t_hears_e 1), .inl (cT 0, 10, .inl (t_hears_e 1))), ((a_t_hears_e 2), .inl (cT 0, 10, .inl (t_hears_e 2))), ((a_t_hears_e 3), .inl (cT 0, 10, .inl (upd (t_hears_e 3) y4.toNatClampNeg 0))), (a_t_talks, .inl (cT 6, 4, .inr (.inr (.inr (.inr (fun i => if i < 4 then some (a_t_talks_e i) else none)))))), ((a_t_talks_e 0), .inl (cT 0, 10, .inl (t_talks_e 0))), ((a_t_talks_e 1), .inl (cT 0, 10, .inl (t_talks_e 1))), ((a_t_talks_e 2), .inl (cT 0, 10, .inl (t_talks_e 2))), ((a_t_talks_e 3), .inl (cT 0, 10, .inl (upd (t_talks_e 3) y4.toNatClampNeg 0))), (a_p2, .inr (1, [.int p2_people, .int p2_lineCount, .ref a_p2_first, .ref a_p2_second, .ref a_p2_cost, .ref a_p2_oneWay, .ref a_p2_breaks, .ref a_p2_absences])), (a_p2_first, .inl (cT 0, 24, .inl p2_first)), (a_p2_second, .inl (cT 0, 24, .inl p2_second)), (a_p2_oneWay, .inl (cT 3, 24, .inl p2_oneWay))]) rfl ?_
          refine xi_iinc C (v := y4 + 1) 4 [1, 2, 3, 4, 0] (L2 := [(0, .ref a_t), (1, .int x1), (2, .ref a_p2), (3, .int x3), (4, .int (y4 + 1))]) dX6_connect_30 rfl rfl (Nat.le_of_ble_eq_true rfl) rfl ?_
          refine xi_goto C (tgt := 3) dX6_connect_33 rfl ?_
          exact ih (y4 + 1) (va_up t_hears_e 3 (upd (t_hears_e 3) y4.toNatClampNeg 0)) (va_up t_talks_e 3 (upd (t_talks_e 3) y4.toNatClampNeg 0)) h
  refine xi_drop (L2 := [(0, .ref a_t), (1, .int x1), (2, .ref a_p2), (3, .int x3)]) [0, 1, 2, 3] rfl ?_
  refine xi_iconst C (v := 0) dX6_connect_0 rfl ?_
  refine xi_istore C [1, 2, 3, 4, 0] (L2 := [(0, .ref a_t), (1, .int x1), (2, .ref a_p2), (3, .int x3), (4, .int 0)]) dX6_connect_1 (Nat.le_of_ble_eq_true rfl) rfl ?_
  exact B3 FU 0 t_hears_e t_talks_e h
