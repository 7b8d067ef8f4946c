def fX6_goOn_b57_k (RP : Int32 → Int32 → (Nat → Int32) → (Nat → Nat → Int32) → (Nat → Nat → Int32) → (Nat → Nat → Int32) → Int32 → Int32 → Int32 → Int32 → Option (Int32 × (Nat → Nat → Int32))) (t_people : Int32) (t_limit : Int32) (t_after_e_people : Nat → Int32) (t_hears_e : Nat → Nat → Int32) (t_talks_e : Nat → Nat → Int32) (x1 : Int32) (x2 : Int32) (x4 : Int32) (x5 : Int32) (Jm : Nat) (s0 : Int32) (t_after_e_pieces : Nat → Nat → Int32) : Option (Int32 × (Nat → Nat → Int32)) := if s0 = 0 then some (0, t_after_e_pieces) else (RP t_people t_limit t_after_e_people t_after_e_pieces t_hears_e t_talks_e x1 (x2 + 1) x4 x5).bind (fun u9 => if u9.1 = 0 then some (0, u9.2) else some (1, u9.2))
def fX6_goOn_b52_k (RP : Int32 → Int32 → (Nat → Int32) → (Nat → Nat → Int32) → (Nat → Nat → Int32) → (Nat → Nat → Int32) → Int32 → Int32 → Int32 → Int32 → Option (Int32 × (Nat → Nat → Int32))) (t_people : Int32) (t_limit : Int32) (t_after_e_people : Nat → Int32) (t_hears_e : Nat → Nat → Int32) (t_talks_e : Nat → Nat → Int32) (x1 : Int32) (x2 : Int32) (x4 : Int32) (x5 : Int32) (Jm : Nat) (t_after_e_pieces : Nat → Nat → Int32) : Option (Int32 × (Nat → Nat → Int32)) := fX6_goOn_b57_k RP t_people t_limit t_after_e_people t_hears_e t_talks_e x1 x2 x4 x5 Jm 1 t_after_e_pieces
def fX6_goOn (RP : Int32 → Int32 → (Nat → Int32) → (Nat → Nat → Int32) → (Nat → Nat → Int32) → (Nat → Nat → Int32) → Int32 → Int32 → Int32 → Int32 → Option (Int32 × (Nat → Nat → Int32))) (t_people : Int32) (t_limit : Int32) (t_after_e_people : Nat → Int32) (t_after_e_pieces : Nat → Nat → Int32) (t_hears_e : Nat → Nat → Int32) (t_talks_e : Nat → Nat → Int32) (x1 : Int32) (x2 : Int32) (x3 : Int32) (x4 : Int32) (x5 : Int32) : Option (Int32 × (Nat → Nat → Int32)) := gd (x1 + 1) 5 (nm (x1 + 1).toNatClampNeg (fun J2 => gd x2 10 (gd x3 10 (nm (((t_after_e_pieces J2) x2.toNatClampNeg) &&& ((t_after_e_pieces J2) x3.toNatClampNeg)) (fun w6 => if (x1 + 1) < t_limit then fX6_goOn_b52_k RP t_people t_limit t_after_e_people t_hears_e t_talks_e x1 x2 x4 x5 J2 t_after_e_pieces else if w6 = ((1 <<< (t_people &&& 31)) - 1) then fX6_goOn_b52_k RP t_people t_limit t_after_e_people t_hears_e t_talks_e x1 x2 x4 x5 J2 t_after_e_pieces else fX6_goOn_b57_k RP t_people t_limit t_after_e_people t_hears_e t_talks_e x1 x2 x4 x5 J2 0 t_after_e_pieces)))))
set_option maxRecDepth 100000 in
set_option maxHeartbeats 4000000 in
theorem kX6_goOn (l : Launch) (D : va_G) (cT : Nat → ClassId) (RP : Int32 → Int32 → (Nat → Int32) → (Nat → Nat → Int32) → (Nat → Nat → Int32) → (Nat → Nat → Int32) → Int32 → Int32 → Int32 → Int32 → Option (Int32 × (Nat → Nat → Int32))) (b : Nat) (hb : 12 ≤ b) (a_t : Nat) (a_t_after : Nat) (a_t_hears : Nat) (a_t_talks : Nat) (a_t_after_e : Nat → Nat) (a_t_after_e_pieces : Nat → Nat) (a_t_hears_e : Nat → Nat) (a_t_talks_e : Nat → Nat) (t_people : Int32) (t_limit : Int32) (t_after_e_people : Nat → Int32) (t_after_e_pieces : Nat → Nat → Int32) (t_hears_e : Nat → Nat → Int32) (t_talks_e : Nat → Nat → Int32) (x1 : Int32) (x2 : Int32) (x3 : Int32) (x4 : Int32) (x5 : Int32) (hRP : ∀ (t_people : Int32) (t_limit : Int32) (t_after_e_people : Nat → Int32) (t_after_e_pieces : Nat → Nat → Int32) (t_hears_e : Nat → Nat → Int32) (t_talks_e : Nat → Nat → Int32) (x1 : Int32) (x2 : Int32) (x3 : Int32) (x4 : Int32) (r : Int32 × (Nat → Nat → Int32)), RP t_people t_limit t_after_e_people t_after_e_pieces t_hears_e t_talks_e x1 x2 x3 x4 = some r → sM l yX6_pairUp cX6_pairUp 7 (some .boolean) (zR b) D cT [.ref a_t, .int x1, .int x2, .int x3, .int x4] [(a_t, .inr (6, [.ref a_t_after, .ref a_t_hears, .ref a_t_talks, .int t_people, .int t_limit])), (a_t_after, .inl (cT 5, 5, .inr (.inr (.inr (.inr (fun i => if i < 5 then some (a_t_after_e i) else none)))))), ((a_t_after_e 0), .inr (3, [.ref (a_t_after_e_pieces 0), .int (t_after_e_people 0)])), ((a_t_after_e_pieces 0), .inl (cT 0, 10, .inl (t_after_e_pieces 0))), ((a_t_after_e 1), .inr (3, [.ref (a_t_after_e_pieces 1), .int (t_after_e_people 1)])), ((a_t_after_e_pieces 1), .inl (cT 0, 10, .inl (t_after_e_pieces 1))), ((a_t_after_e 2), .inr (3, [.ref (a_t_after_e_pieces 2), .int (t_after_e_people 2)])), ((a_t_after_e_pieces 2), .inl (cT 0, 10, .inl (t_after_e_pieces 2))), ((a_t_after_e 3), .inr (3, [.ref (a_t_after_e_pieces 3), .int (t_after_e_people 3)])), ((a_t_after_e_pieces 3), .inl (cT 0, 10, .inl (t_after_e_pieces 3))), ((a_t_after_e 4), .inr (3, [.ref (a_t_after_e_pieces 4), .int (t_after_e_people 4)])), ((a_t_after_e_pieces 4), .inl (cT 0, 10, .inl (t_after_e_pieces 4))), (a_t_hears, .inl (cT 6, 4, .inr (.inr (.inr (.inr (fun i => if i < 4 then some (a_t_hears_e i) else none)))))), ((a_t_hears_e 0), .inl (cT 0, 10, .inl (t_hears_e 0))), ((a_t_hears_e 1), .inl (cT 0, 10, .inl (t_hears_e 1))), ((a_t_hears_e 2), .inl (cT 0, 10, .inl (t_hears_e 2))), ((a_t_hears_e 3), .inl (cT 0, 10, .inl (t_hears_e 3))), (a_t_talks, .inl (cT 6, 4, .inr (.inr (.inr (.inr (fun i => if i < 4 then some (a_t_talks_e i) else none)))))), ((a_t_talks_e 0), .inl (cT 0, 10, .inl (t_talks_e 0))), ((a_t_talks_e 1), .inl (cT 0, 10, .inl (t_talks_e 1))), ((a_t_talks_e 2), .inl (cT 0, 10, .inl (t_talks_e 2))), ((a_t_talks_e 3), .inl (cT 0, 10, .inl (t_talks_e 3)))] (some (.int r.1)) [(a_t, .inr (6, [.ref a_t_after, .ref a_t_hears, .ref a_t_talks, .int t_people, .int t_limit])), (a_t_after, .inl (cT 5, 5, .inr (.inr (.inr (.inr (fun i => if i < 5 then some (a_t_after_e i) else none)))))), ((a_t_after_e 0), .inr (3, [.ref (a_t_after_e_pieces 0), .int (t_after_e_people 0)])), ((a_t_after_e_pieces 0), .inl (cT 0, 10, .inl (r.2 0))), ((a_t_after_e 1), .inr (3, [.ref (a_t_after_e_pieces 1), .int (t_after_e_people 1)])), ((a_t_after_e_pieces 1), .inl (cT 0, 10, .inl (r.2 1))), ((a_t_after_e 2), .inr (3, [.ref (a_t_after_e_pieces 2), .int (t_after_e_people 2)])), ((a_t_after_e_pieces 2), .inl (cT 0, 10, .inl (r.2 2))), ((a_t_after_e 3), .inr (3, [.ref (a_t_after_e_pieces 3), .int (t_after_e_people 3)])), ((a_t_after_e_pieces 3), .inl (cT 0, 10, .inl (r.2 3))), ((a_t_after_e 4), .inr (3, [.ref (a_t_after_e_pieces 4), .int (t_after_e_people 4)])), ((a_t_after_e_pieces 4), .inl (cT 0, 10, .inl (r.2 4))), (a_t_hears, .inl (cT 6, 4, .inr (.inr (.inr (.inr (fun i => if i < 4 then some (a_t_hears_e i) else none)))))), ((a_t_hears_e 0), .inl (cT 0, 10, .inl (t_hears_e 0))), ((a_t_hears_e 1), .inl (cT 0, 10, .inl (t_hears_e 1))), ((a_t_hears_e 2), .inl (cT 0, 10, .inl (t_hears_e 2))), ((a_t_hears_e 3), .inl (cT 0, 10, .inl (t_hears_e 3))), (a_t_talks, .inl (cT 6, 4, .inr (.inr (.inr (.inr (fun i => if i < 4 then some (a_t_talks_e i) else none)))))), ((a_t_talks_e 0), .inl (cT 0, 10, .inl (t_talks_e 0))), ((a_t_talks_e 1), .inl (cT 0, 10, .inl (t_talks_e 1))), ((a_t_talks_e 2), .inl (cT 0, 10, .inl (t_talks_e 2))), ((a_t_talks_e 3), .inl (cT 0, 10, .inl (t_talks_e 3)))]) (r : Int32 × (Nat → Nat → Int32)) (h : fX6_goOn RP t_people t_limit t_after_e_people t_after_e_pieces t_hears_e t_talks_e x1 x2 x3 x4 x5 = some r) : sM l yX6_goOn cX6_goOn 8 (some .boolean) (zR (b + 1)) D cT [.ref a_t, .int x1, .int x2, .int x3, .int x4, .int x5] [(a_t, .inr (6, [.ref a_t_after, .ref a_t_hears, .ref a_t_talks, .int t_people, .int t_limit])), (a_t_after, .inl (cT 5, 5, .inr (.inr (.inr (.inr (fun i => if i < 5 then some (a_t_after_e i) else none)))))), ((a_t_after_e 0), .inr (3, [.ref (a_t_after_e_pieces 0), .int (t_after_e_people 0)])), ((a_t_after_e_pieces 0), .inl (cT 0, 10, .inl (t_after_e_pieces 0))), ((a_t_after_e 1), .inr (3, [.ref (a_t_after_e_pieces 1), .int (t_after_e_people 1)])), ((a_t_after_e_pieces 1), .inl (cT 0, 10, .inl (t_after_e_pieces 1))), ((a_t_after_e 2), .inr (3, [.ref (a_t_after_e_pieces 2), .int (t_after_e_people 2)])), ((a_t_after_e_pieces 2), .inl (cT 0, 10, .inl (t_after_e_pieces 2))), ((a_t_after_e 3), .inr (3, [.ref (a_t_after_e_pieces 3), .int (t_after_e_people 3)])), ((a_t_after_e_pieces 3), .inl (cT 0, 10, .inl (t_after_e_pieces 3))), ((a_t_after_e 4), .inr (3, [.ref (a_t_after_e_pieces 4), .int (t_after_e_people 4)])), ((a_t_after_e_pieces 4), .inl (cT 0, 10, .inl (t_after_e_pieces 4))), (a_t_hears, .inl (cT 6, 4, .inr (.inr (.inr (.inr (fun i => if i < 4 then some (a_t_hears_e i) else none)))))), ((a_t_hears_e 0), .inl (cT 0, 10, .inl (t_hears_e 0))), ((a_t_hears_e 1), .inl (cT 0, 10, .inl (t_hears_e 1))), ((a_t_hears_e 2), .inl (cT 0, 10, .inl (t_hears_e 2))), ((a_t_hears_e 3), .inl (cT 0, 10, .inl (t_hears_e 3))), (a_t_talks, .inl (cT 6, 4, .inr (.inr (.inr (.inr (fun i => if i < 4 then some (a_t_talks_e i) else none)))))), ((a_t_talks_e 0), .inl (cT 0, 10, .inl (t_talks_e 0))), ((a_t_talks_e 1), .inl (cT 0, 10, .inl (t_talks_e 1))), ((a_t_talks_e 2), .inl (cT 0, 10, .inl (t_talks_e 2))), ((a_t_talks_e 3), .inl (cT 0, 10, .inl (t_talks_e 3)))] (some (.int r.1)) [(a_t, .inr (6, [.ref a_t_after, .ref a_t_hears, .ref a_t_talks, .int t_people, .int t_limit])), (a_t_after, .inl (cT 5, 5, .inr (.inr (.inr (.inr (fun i => if i < 5 then some (a_t_after_e i) else none)))))), ((a_t_after_e 0), .inr (3, [.ref (a_t_after_e_pieces 0), .int (t_after_e_people 0)])), ((a_t_after_e_pieces 0), .inl (cT 0, 10, .inl (r.2 0))), ((a_t_after_e 1), .inr (3, [.ref (a_t_after_e_pieces 1), .int (t_after_e_people 1)])), ((a_t_after_e_pieces 1), .inl (cT 0, 10, .inl (r.2 1))), ((a_t_after_e 2), .inr (3, [.ref (a_t_after_e_pieces 2), .int (t_after_e_people 2)])), ((a_t_after_e_pieces 2), .inl (cT 0, 10, .inl (r.2 2))), ((a_t_after_e 3), .inr (3, [.ref (a_t_after_e_pieces 3), .int (t_after_e_people 3)])), ((a_t_after_e_pieces 3), .inl (cT 0, 10, .inl (r.2 3))), ((a_t_after_e 4), .inr (3, [.ref (a_t_after_e_pieces 4), .int (t_after_e_people 4)])), ((a_t_after_e_pieces 4), .inl (cT 0, 10, .inl (r.2 4))), (a_t_hears, .inl (cT 6, 4, .inr (.inr (.inr (.inr (fun i => if i < 4 then some (a_t_hears_e i) else none)))))), ((a_t_hears_e 0), .inl (cT 0, 10, .inl (t_hears_e 0))), ((a_t_hears_e 1), .inl (cT 0, 10, .inl (t_hears_e 1))), ((a_t_hears_e 2), .inl (cT 0, 10, .inl (t_hears_e 2))), ((a_t_hears_e 3), .inl (cT 0, 10, .inl (t_hears_e 3))), (a_t_talks, .inl (cT 6, 4, .inr (.inr (.inr (.inr (fun i => if i < 4 then some (a_t_talks_e i) else none)))))), ((a_t_talks_e 0), .inl (cT 0, 10, .inl (t_talks_e 0))), ((a_t_talks_e 1), .inl (cT 0, 10, .inl (t_talks_e 1))), ((a_t_talks_e 2), .inl (cT 0, 10, .inl (t_talks_e 2))), ((a_t_talks_e 3), .inl (cT 0, 10, .inl (t_talks_e 3)))] := by
  refine sM_bool rfl (Nat.le_of_ble_eq_true rfl) ?_
  intro X C hE
  have B57_0 : ∀ (hkn0 : (x1 + 1).toNatClampNeg = 0) (hfa0 : vp_in (x1 + 1) 5) (s0 : Int32) (t_after_e_pieces : Nat → Nat → Int32), fX6_goOn_b57_k RP t_people t_limit t_after_e_people t_hears_e t_talks_e x1 x2 x4 x5 0 s0 t_after_e_pieces = some r → sW X l (zR (b + 1)) D 8 0 0 57 [(0, .ref a_t), (1, .int x1), (2, .int x2), (4, .int x4), (5, .int x5)] [.int s0] [(a_t, .inr (6, [.ref a_t_after, .ref a_t_hears, .ref a_t_talks, .int t_people, .int t_limit])), (a_t_after, .inl (cT 5, 5, .inr (.inr (.inr (.inr (fun i => if i < 5 then some (a_t_after_e i) else none)))))), ((a_t_after_e 0), .inr (3, [.ref (a_t_after_e_pieces 0), .int (t_after_e_people 0)])), ((a_t_after_e_pieces 0), .inl (cT 0, 10, .inl (t_after_e_pieces 0))), ((a_t_after_e 1), .inr (3, [.ref (a_t_after_e_pieces 1), .int (t_after_e_people 1)])), ((a_t_after_e_pieces 1), .inl (cT 0, 10, .inl (t_after_e_pieces 1))), ((a_t_after_e 2), .inr (3, [.ref (a_t_after_e_pieces 2), .int (t_after_e_people 2)])), ((a_t_after_e_pieces 2), .inl (cT 0, 10, .inl (t_after_e_pieces 2))), ((a_t_after_e 3), .inr (3, [.ref (a_t_after_e_pieces 3), .int (t_after_e_people 3)])), ((a_t_after_e_pieces 3), .inl (cT 0, 10, .inl (t_after_e_pieces 3))), ((a_t_after_e 4), .inr (3, [.ref (a_t_after_e_pieces 4), .int (t_after_e_people 4)])), ((a_t_after_e_pieces 4), .inl (cT 0, 10, .inl (t_after_e_pieces 4))), (a_t_hears, .inl (cT 6, 4, .inr (.inr (.inr (.inr (fun i => if i < 4 then some (a_t_hears_e i) else none)))))), ((a_t_hears_e 0), .inl (cT 0, 10, .inl (t_hears_e 0))), ((a_t_hears_e 1), .inl (cT 0, 10, .inl (t_hears_e 1))), ((a_t_hears_e 2), .inl (cT 0, 10, .inl (t_hears_e 2))), ((a_t_hears_e 3), .inl (cT 0, 10, .inl (t_hears_e 3))), (a_t_talks, .inl (cT 6, 4, .inr (.inr (.inr (.inr (fun i => if i < 4 then some (a_t_talks_e i) else none)))))), ((a_t_talks_e 0), .inl (cT 0, 10, .inl (t_talks_e 0))), ((a_t_talks_e 1), .inl (cT 0, 10, .inl (t_talks_e 1))), ((a_t_talks_e 2), .inl (cT 0, 10, .inl (t_talks_e 2))), ((a_t_talks_e 3), .inl (cT 0, 10, .inl (t_talks_e 3)))] := by
    intro hkn0 hfa0 s0 t_after_e_pieces h
    refine xi_istore C [1, 2, 3, 4, 5, 0] (L2 := [(0, .ref a_t), (1, .int x1), (2, .int x2), (4, .int x4), (5, .int x5), (7, .int s0)]) dX6_goOn_57 (Nat.le_of_ble_eq_true rfl) rfl ?_
    refine xi_iload C 5 dX6_goOn_59 rfl ?_
    refine xi_if_eq C (tgt := 83) dX6_goOn_61 rfl (fun c18 => ?_) (fun c18 => ?_)
    · replace h := (if_pos c18).symm.trans h
      refine xi_iconst C (v := 0) dX6_goOn_83 rfl ?_
      obtain rfl := Option.some.inj h
      exact hE _ _ _ dX6_goOn_84 rfl rfl
    · replace h := (if_neg c18).symm.trans h
      refine xi_aload_n C 0 dX6_goOn_64 rfl ?_
      refine xi_iload_n C 1 dX6_goOn_65 rfl ?_
      refine xi_iload_n C 2 dX6_goOn_66 rfl ?_
      refine xi_iconst C (v := 1) dX6_goOn_67 rfl ?_
      refine xi_iadd C dX6_goOn_68 ?_
      refine xi_iload C 3 dX6_goOn_69 rfl ?_
      refine xi_iload C 4 dX6_goOn_71 rfl ?_
      replace h := ob h
      obtain ⟨u19, hu20, h⟩ := h
      refine xi_callV C (hRP t_people t_limit t_after_e_people t_after_e_pieces t_hears_e t_talks_e x1 (x2 + 1) x4 x5 u19 hu20) zcX6_pairUp zmX6_95 ziX6_pairUp (zrd (b := b) (c := 0) (d := 1) rfl rfl) z00 rfl [0, 1, 2, 3, 4, 5, 6, 7, 8, 9, 10, 11, 12, 13, 14, 15, 16, 17, 18, 19, 20, 21] rfl rfl rfl [some 0, some 1, some 2, some 3, some 4, some 5, some 6, some 7, some 8, some 9, some 10, some 11, some 12, some 13, some 14, some 15, some 16, some 17, some 18, some 19, some 20, some 21] (by decide +kernel) (ws2 := [(a_t, .inr (6, [.ref a_t_after, .ref a_t_hears, .ref a_t_talks, .int t_people, .int t_limit])), (a_t_after, .inl (cT 5, 5, .inr (.inr (.inr (.inr (fun i => if i < 5 then some (a_t_after_e i) else none)))))), ((a_t_after_e 0), .inr (3, [.ref (a_t_after_e_pieces 0), .int (t_after_e_people 0)])), ((a_t_after_e_pieces 0), .inl (cT 0, 10, .inl (u19.2 0))), ((a_t_after_e 1), .inr (3, [.ref (a_t_after_e_pieces 1), .int (t_after_e_people 1)])), ((a_t_after_e_pieces 1), .inl (cT 0, 10, .inl (u19.2 1))), ((a_t_after_e 2), .inr (3, [.ref (a_t_after_e_pieces 2), .int (t_after_e_people 2)])), ((a_t_after_e_pieces 2), .inl (cT 0, 10, .inl (u19.2 2))), ((a_t_after_e 3), .inr (3, [.ref (a_t_after_e_pieces 3), .int (t_after_e_people 3)])), ((a_t_after_e_pieces 3), .inl (cT 0, 10, .inl (u19.2 3))), ((a_t_after_e 4), .inr (3, [.ref (a_t_after_e_pieces 4), .int (t_after_e_people 4)])), ((a_t_after_e_pieces 4), .inl (cT 0, 10, .inl (u19.2 4))), (a_t_hears, .inl (cT 6, 4, .inr (.inr (.inr (.inr (fun i => if i < 4 then some (a_t_hears_e i) else none)))))), ((a_t_hears_e 0), .inl (cT 0, 10, .inl (t_hears_e 0))), ((a_t_hears_e 1), .inl (cT 0, 10, .inl (t_hears_e 1))), ((a_t_hears_e 2), .inl (cT 0, 10, .inl (t_hears_e 2))), ((a_t_hears_e 3), .inl (cT 0, 10, .inl (t_hears_e 3))), (a_t_talks, .inl (cT 6, 4, .inr (.inr (.inr (.inr (fun i => if i < 4 then some (a_t_talks_e i) else none)))))), ((a_t_talks_e 0), .inl (cT 0, 10, .inl (t_talks_e 0))), ((a_t_talks_e 1), .inl (cT 0, 10, .inl (t_talks_e 1))), ((a_t_talks_e 2), .inl (cT 0, 10, .inl (t_talks_e 2))), ((a_t_talks_e 3), .inl (cT 0, 10, .inl (t_talks_e 3)))]) rfl zkX6.1 (qr := 0) rfl rfl (Nat.le_of_ble_eq_true rfl) dX6_goOn_73 (fun z21 => ?_)
      refine xi_if_eq C (tgt := 83) dX6_goOn_76 rfl (fun c22 => ?_) (fun c22 => ?_)
      · replace h := (if_pos c22).symm.trans h
        refine xi_iconst C (v := 0) dX6_goOn_83 rfl ?_
        obtain rfl := Option.some.inj h
        exact hE _ _ _ dX6_goOn_84 rfl rfl
      · replace h := (if_neg c22).symm.trans h
        refine xi_iconst C (v := 1) dX6_goOn_79 rfl ?_
        refine xi_goto C (tgt := 84) dX6_goOn_80 rfl ?_
        obtain rfl := Option.some.inj h
        exact hE _ _ _ dX6_goOn_84 rfl rfl
  have B52_0 : ∀ (hkn0 : (x1 + 1).toNatClampNeg = 0) (hfa0 : vp_in (x1 + 1) 5) (t_after_e_pieces : Nat → Nat → Int32), fX6_goOn_b52_k RP t_people t_limit t_after_e_people t_hears_e t_talks_e x1 x2 x4 x5 0 t_after_e_pieces = some r → sW X l (zR (b + 1)) D 8 0 0 52 [(0, .ref a_t), (1, .int x1), (2, .int x2), (4, .int x4), (5, .int x5)] [] [(a_t, .inr (6, [.ref a_t_after, .ref a_t_hears, .ref a_t_talks, .int t_people, .int t_limit])), (a_t_after, .inl (cT 5, 5, .inr (.inr (.inr (.inr (fun i => if i < 5 then some (a_t_after_e i) else none)))))), ((a_t_after_e 0), .inr (3, [.ref (a_t_after_e_pieces 0), .int (t_after_e_people 0)])), ((a_t_after_e_pieces 0), .inl (cT 0, 10, .inl (t_after_e_pieces 0))), ((a_t_after_e 1), .inr (3, [.ref (a_t_after_e_pieces 1), .int (t_after_e_people 1)])), ((a_t_after_e_pieces 1), .inl (cT 0, 10, .inl (t_after_e_pieces 1))), ((a_t_after_e 2), .inr (3, [.ref (a_t_after_e_pieces 2), .int (t_after_e_people 2)])), ((a_t_after_e_pieces 2), .inl (cT 0, 10, .inl (t_after_e_pieces 2))), ((a_t_after_e 3), .inr (3, [.ref (a_t_after_e_pieces 3), .int (t_after_e_people 3)])), ((a_t_after_e_pieces 3), .inl (cT 0, 10, .inl (t_after_e_pieces 3))), ((a_t_after_e 4), .inr (3, [.ref (a_t_after_e_pieces 4), .int (t_after_e_people 4)])), ((a_t_after_e_pieces 4), .inl (cT 0, 10, .inl (t_after_e_pieces 4))), (a_t_hears, .inl (cT 6, 4, .inr (.inr (.inr (.inr (fun i => if i < 4 then some (a_t_hears_e i) else none)))))), ((a_t_hears_e 0), .inl (cT 0, 10, .inl (t_hears_e 0))), ((a_t_hears_e 1), .inl (cT 0, 10, .inl (t_hears_e 1))), ((a_t_hears_e 2), .inl (cT 0, 10, .inl (t_hears_e 2))), ((a_t_hears_e 3), .inl (cT 0, 10, .inl (t_hears_e 3))), (a_t_talks, .inl (cT 6, 4, .inr (.inr (.inr (.inr (fun i => if i < 4 then some (a_t_talks_e i) else none)))))), ((a_t_talks_e 0), .inl (cT 0, 10, .inl (t_talks_e 0))), ((a_t_talks_e 1), .inl (cT 0, 10, .inl (t_talks_e 1))), ((a_t_talks_e 2), .inl (cT 0, 10, .inl (t_talks_e 2))), ((a_t_talks_e 3), .inl (cT 0, 10, .inl (t_talks_e 3)))] := by
    intro hkn0 hfa0 t_after_e_pieces h
    refine xi_iconst C (v := 1) dX6_goOn_52 rfl ?_
    refine xi_goto C (tgt := 57) dX6_goOn_53 rfl ?_
    exact B57_0 hkn0 hfa0 1 t_after_e_pieces h
  have B57_1 : ∀ (hkn0 : (x1 + 1).toNatClampNeg = 1) (hfa0 : vp_in (x1 + 1) 5) (s0 : Int32) (t_after_e_pieces : Nat → Nat → Int32), fX6_goOn_b57_k RP t_people t_limit t_after_e_people t_hears_e t_talks_e x1 x2 x4 x5 1 s0 t_after_e_pieces = some r → sW X l (zR (b + 1)) D 8 0 0 57 [(0, .ref a_t), (1, .int x1), (2, .int x2), (4, .int x4), (5, .int x5)] [.int s0] [(a_t, .inr (6, [.ref a_t_after, .ref a_t_hears, .ref a_t_talks, .int t_people, .int t_limit])), (a_t_after, .inl (cT 5, 5, .inr (.inr (.inr (.inr (fun i => if i < 5 then some (a_t_after_e i) else none)))))), ((a_t_after_e 0), .inr (3, [.ref (a_t_after_e_pieces 0), .int (t_after_e_people 0)])), ((a_t_after_e_pieces 0), .inl (cT 0, 10, .inl (t_after_e_pieces 0))), ((a_t_after_e 1), .inr (3, [.ref (a_t_after_e_pieces 1), .int (t_after_e_people 1)])), ((a_t_after_e_pieces 1), .inl (cT 0, 10, .inl (t_after_e_pieces 1))), ((a_t_after_e 2), .inr (3, [.ref (a_t_after_e_pieces 2), .int (t_after_e_people 2)])), ((a_t_after_e_pieces 2), .inl (cT 0, 10, .inl (t_after_e_pieces 2))), ((a_t_after_e 3), .inr (3, [.ref (a_t_after_e_pieces 3), .int (t_after_e_people 3)])), ((a_t_after_e_pieces 3), .inl (cT 0, 10, .inl (t_after_e_pieces 3))), ((a_t_after_e 4), .inr (3, [.ref (a_t_after_e_pieces 4), .int (t_after_e_people 4)])), ((a_t_after_e_pieces 4), .inl (cT 0, 10, .inl (t_after_e_pieces 4))), (a_t_hears, .inl (cT 6, 4, .inr (.inr (.inr (.inr (fun i => if i < 4 then some (a_t_hears_e i) else none)))))), ((a_t_hears_e 0), .inl (cT 0, 10, .inl (t_hears_e 0))), ((a_t_hears_e 1), .inl (cT 0, 10, .inl (t_hears_e 1))), ((a_t_hears_e 2), .inl (cT 0, 10, .inl (t_hears_e 2))), ((a_t_hears_e 3), .inl (cT 0, 10, .inl (t_hears_e 3))), (a_t_talks, .inl (cT 6, 4, .inr (.inr (.inr (.inr (fun i => if i < 4 then some (a_t_talks_e i) else none)))))), ((a_t_talks_e 0), .inl (cT 0, 10, .inl (t_talks_e 0))), ((a_t_talks_e 1), .inl (cT 0, 10, .inl (t_talks_e 1))), ((a_t_talks_e 2), .inl (cT 0, 10, .inl (t_talks_e 2))), ((a_t_talks_e 3), .inl (cT 0, 10, .inl (t_talks_e 3)))] := by
    intro hkn0 hfa0 s0 t_after_e_pieces h
    refine xi_istore C [1, 2, 3, 4, 5, 0] (L2 := [(0, .ref a_t), (1, .int x1), (2, .int x2), (4, .int x4), (5, .int x5), (7, .int s0)]) dX6_goOn_57 (Nat.le_of_ble_eq_true rfl) rfl ?_
    refine xi_iload C 5 dX6_goOn_59 rfl ?_
    refine xi_if_eq C (tgt := 83) dX6_goOn_61 rfl (fun c28 => ?_) (fun c28 => ?_)
    · replace h := (if_pos c28).symm.trans h
      refine xi_iconst C (v := 0) dX6_goOn_83 rfl ?_
      obtain rfl := Option.some.inj h
      exact hE _ _ _ dX6_goOn_84 rfl rfl
    · replace h := (if_neg c28).symm.trans h
      refine xi_aload_n C 0 dX6_goOn_64 rfl ?_
      refine xi_iload_n C 1 dX6_goOn_65 rfl ?_
      refine xi_iload_n C 2 dX6_goOn_66 rfl ?_
      refine xi_iconst C (v := 1) dX6_goOn_67 rfl ?_
      refine xi_iadd C dX6_goOn_68 ?_
      refine xi_iload C 3 dX6_goOn_69 rfl ?_
      refine xi_iload C 4 dX6_goOn_71 rfl ?_
      replace h := ob h
      obtain ⟨u29, hu30, h⟩ := h
      refine xi_callV C (hRP t_people t_limit t_after_e_people t_after_e_pieces t_hears_e t_talks_e x1 (x2 + 1) x4 x5 u29 hu30) zcX6_pairUp zmX6_95 ziX6_pairUp (zrd (b := b) (c := 0) (d := 1) rfl rfl) z00 rfl [0, 1, 2, 3, 4, 5, 6, 7, 8, 9, 10, 11, 12, 13, 14, 15, 16, 17, 18, 19, 20, 21] rfl rfl rfl [some 0, some 1, some 2, some 3, some 4, some 5, some 6, some 7, some 8, some 9, some 10, some 11, some 12, some 13, some 14, some 15, some 16, some 17, some 18, some 19, some 20, some 21] (by decide +kernel) (ws2 := [(a_t, .inr (6, [.ref a_t_after, .ref a_t_hears, .ref a_t_talks, .int t_people, .int t_limit])), (a_t_after, .inl (cT 5, 5, .inr (.inr (.inr (.inr (fun i => if i < 5 then some (a_t_after_e i) else none)))))), ((a_t_after_e 0), .inr (3, [.ref (a_t_after_e_pieces 0), .int (t_after_e_people 0)])), ((a_t_after_e_pieces 0), .inl (cT 0, 10, .inl (u29.2 0))), ((a_t_after_e 1), .inr (3, [.ref (a_t_after_e_pieces 1), .int (t_after_e_people 1)])), ((a_t_after_e_pieces 1), .inl (cT 0, 10, .inl (u29.2 1))), ((a_t_after_e 2), .inr (3, [.ref (a_t_after_e_pieces 2), .int (t_after_e_people 2)])), ((a_t_after_e_pieces 2), .inl (cT 0, 10, .inl (u29.2 2))), ((a_t_after_e 3), .inr (3, [.ref (a_t_after_e_pieces 3), .int (t_after_e_people 3)])), ((a_t_after_e_pieces 3), .inl (cT 0, 10, .inl (u29.2 3))), ((a_t_after_e 4), .inr (3, [.ref (a_t_after_e_pieces 4), .int (t_after_e_people 4)])), ((a_t_after_e_pieces 4), .inl (cT 0, 10, .inl (u29.2 4))), (a_t_hears, .inl (cT 6, 4, .inr (.inr (.inr (.inr (fun i => if i < 4 then some (a_t_hears_e i) else none)))))), ((a_t_hears_e 0), .inl (cT 0, 10, .inl (t_hears_e 0))), ((a_t_hears_e 1), .inl (cT 0, 10, .inl (t_hears_e 1))), ((a_t_hears_e 2), .inl (cT 0, 10, .inl (t_hears_e 2))), ((a_t_hears_e 3), .inl (cT 0, 10, .inl (t_hears_e 3))), (a_t_talks, .inl (cT 6, 4, .inr (.inr (.inr (.inr (fun i => if i < 4 then some (a_t_talks_e i) else none)))))), ((a_t_talks_e 0), .inl (cT 0, 10, .inl (t_talks_e 0))), ((a_t_talks_e 1), .inl (cT 0, 10, .inl (t_talks_e 1))), ((a_t_talks_e 2), .inl (cT 0, 10, .inl (t_talks_e 2))), ((a_t_talks_e 3), .inl (cT 0, 10, .inl (t_talks_e 3)))]) rfl zkX6.1 (qr := 0) rfl rfl (Nat.le_of_ble_eq_true rfl) dX6_goOn_73 (fun z31 => ?_)
      refine xi_if_eq C (tgt := 83) dX6_goOn_76 rfl (fun c32 => ?_) (fun c32 => ?_)
      · replace h := (if_pos c32).symm.trans h
        refine xi_iconst C (v := 0) dX6_goOn_83 rfl ?_
        obtain rfl := Option.some.inj h
        exact hE _ _ _ dX6_goOn_84 rfl rfl
      · replace h := (if_neg c32).symm.trans h
        refine xi_iconst C (v := 1) dX6_goOn_79 rfl ?_
        refine xi_goto C (tgt := 84) dX6_goOn_80 rfl ?_
        obtain rfl := Option.some.inj h
        exact hE _ _ _ dX6_goOn_84 rfl rfl
  have B52_1 : ∀ (hkn0 : (x1 + 1).toNatClampNeg = 1) (hfa0 : vp_in (x1 + 1) 5) (t_after_e_pieces : Nat → Nat → Int32), fX6_goOn_b52_k RP t_people t_limit t_after_e_people t_hears_e t_talks_e x1 x2 x4 x5 1 t_after_e_pieces = some r → sW X l (zR (b + 1)) D 8 0 0 52 [(0, .ref a_t), (1, .int x1), (2, .int x2), (4, .int x4), (5, .int x5)] [] [(a_t, .inr (6, [.ref a_t_after, .ref a_t_hears, .ref a_t_talks, .int t_people, .int t_limit])), (a_t_after, .inl (cT 5, 5, .inr (.inr (.inr (.inr (fun i => if i < 5 then some (a_t_after_e i) else none)))))), ((a_t_after_e 0), .inr (3, [.ref (a_t_after_e_pieces 0), .int (t_after_e_people 0)])), ((a_t_after_e_pieces 0), .inl (cT 0, 10, .inl (t_after_e_pieces 0))), ((a_t_after_e 1), .inr (3, [.ref (a_t_after_e_pieces 1), .int (t_after_e_people 1)])), ((a_t_after_e_pieces 1), .inl (cT 0, 10, .inl (t_after_e_pieces 1))), ((a_t_after_e 2), .inr (3, [.ref (a_t_after_e_pieces 2), .int (t_after_e_people 2)])), ((a_t_after_e_pieces 2), .inl (cT 0, 10, .inl (t_after_e_pieces 2))), ((a_t_after_e 3), .inr (3, [.ref (a_t_after_e_pieces 3), .int (t_after_e_people 3)])), ((a_t_after_e_pieces 3), .inl (cT 0, 10, .inl (t_after_e_pieces 3))), ((a_t_after_e 4), .inr (3, [.ref (a_t_after_e_pieces 4), .int (t_after_e_people 4)])), ((a_t_after_e_pieces 4), .inl (cT 0, 10, .inl (t_after_e_pieces 4))), (a_t_hears, .inl (cT 6, 4, .inr (.inr (.inr (.inr (fun i => if i < 4 then some (a_t_hears_e i) else none)))))), ((a_t_hears_e 0), .inl (cT 0, 10, .inl (t_hears_e 0))), ((a_t_hears_e 1), .inl (cT 0, 10, .inl (t_hears_e 1))), ((a_t_hears_e 2), .inl (cT 0, 10, .inl (t_hears_e 2))), ((a_t_hears_e 3), .inl (cT 0, 10, .inl (t_hears_e 3))), (a_t_talks, .inl (cT 6, 4, .inr (.inr (.inr (.inr (fun i => if i < 4 then some (a_t_talks_e i) else none)))))), ((a_t_talks_e 0), .inl (cT 0, 10, .inl (t_talks_e 0))), ((a_t_talks_e 1), .inl (cT 0, 10, .inl (t_talks_e 1))), ((a_t_talks_e 2), .inl (cT 0, 10, .inl (t_talks_e 2))), ((a_t_talks_e 3), .inl (cT 0, 10, .inl (t_talks_e 3)))] := by
    intro hkn0 hfa0 t_after_e_pieces h
    refine xi_iconst C (v := 1) dX6_goOn_52 rfl ?_
    refine xi_goto C (tgt := 57) dX6_goOn_53 rfl ?_
    exact B57_1 hkn0 hfa0 1 t_after_e_pieces h
  have B57_2 : ∀ (hkn0 : (x1 + 1).toNatClampNeg = 2) (hfa0 : vp_in (x1 + 1) 5) (s0 : Int32) (t_after_e_pieces : Nat → Nat → Int32), fX6_goOn_b57_k RP t_people t_limit t_after_e_people t_hears_e t_talks_e x1 x2 x4 x5 2 s0 t_after_e_pieces = some r → sW X l (zR (b + 1)) D 8 0 0 57 [(0, .ref a_t), (1, .int x1), (2, .int x2), (4, .int x4), (5, .int x5)] [.int s0] [(a_t, .inr (6, [.ref a_t_after, .ref a_t_hears, .ref a_t_talks, .int t_people, .int t_limit])), (a_t_after, .inl (cT 5, 5, .inr (.inr (.inr (.inr (fun i => if i < 5 then some (a_t_after_e i) else none)))))), ((a_t_after_e 0), .inr (3, [.ref (a_t_after_e_pieces 0), .int (t_after_e_people 0)])), ((a_t_after_e_pieces 0), .inl (cT 0, 10, .inl (t_after_e_pieces 0))), ((a_t_after_e 1), .inr (3, [.ref (a_t_after_e_pieces 1), .int (t_after_e_people 1)])), ((a_t_after_e_pieces 1), .inl (cT 0, 10, .inl (t_after_e_pieces 1))), ((a_t_after_e 2), .inr (3, [.ref (a_t_after_e_pieces 2), .int (t_after_e_people 2)])), ((a_t_after_e_pieces 2), .inl (cT 0, 10, .inl (t_after_e_pieces 2))), ((a_t_after_e 3), .inr (3, [.ref (a_t_after_e_pieces 3), .int (t_after_e_people 3)])), ((a_t_after_e_pieces 3), .inl (cT 0, 10, .inl (t_after_e_pieces 3))), ((a_t_after_e 4), .inr (3, [.ref (a_t_after_e_pieces 4), .int (t_after_e_people 4)])), ((a_t_after_e_pieces 4), .inl (cT 0, 10, .inl (t_after_e_pieces 4))), (a_t_hears, .inl (cT 6, 4, .inr (.inr (.inr (.inr (fun i => if i < 4 then some (a_t_hears_e i) else none)))))), ((a_t_hears_e 0), .inl (cT 0, 10, .inl (t_hears_e 0))), ((a_t_hears_e 1), .inl (cT 0, 10, .inl (t_hears_e 1))), ((a_t_hears_e 2), .inl (cT 0, 10, .inl (t_hears_e 2))), ((a_t_hears_e 3), .inl (cT 0, 10, .inl (t_hears_e 3))), (a_t_talks, .inl (cT 6, 4, .inr (.inr (.inr (.inr (fun i => if i < 4 then some (a_t_talks_e i) else none)))))), ((a_t_talks_e 0), .inl (cT 0, 10, .inl (t_talks_e 0))), ((a_t_talks_e 1), .inl (cT 0, 10, .inl (t_talks_e 1))), ((a_t_talks_e 2), .inl (cT 0, 10, .inl (t_talks_e 2))), ((a_t_talks_e 3), .inl (cT 0, 10, .inl (t_talks_e 3)))] := by
    intro hkn0 hfa0 s0 t_after_e_pieces h
    refine xi_istore C [1, 2, 3, 4, 5, 0] (L2 := [(0, .ref a_t), (1, .int x1), (2, .int x2), (4, .int x4), (5, .int x5), (7, .int s0)]) dX6_goOn_57 (Nat.le_of_ble_eq_true rfl) rfl ?_
    refine xi_iload C 5 dX6_goOn_59 rfl ?_
    refine xi_if_eq C (tgt := 83) dX6_goOn_61 rfl (fun c38 => ?_) (fun c38 => ?_)
    · replace h := (if_pos c38).symm.trans h
      refine xi_iconst C (v := 0) dX6_goOn_83 rfl ?_
      obtain rfl := Option.some.inj h
      exact hE _ _ _ dX6_goOn_84 rfl rfl
    · replace h := (if_neg c38).symm.trans h
      refine xi_aload_n C 0 dX6_goOn_64 rfl ?_
      refine xi_iload_n C 1 dX6_goOn_65 rfl ?_
      refine xi_iload_n C 2 dX6_goOn_66 rfl ?_
      refine xi_iconst C (v := 1) dX6_goOn_67 rfl ?_
      refine xi_iadd C dX6_goOn_68 ?_
      refine xi_iload C 3 dX6_goOn_69 rfl ?_
      refine xi_iload C 4 dX6_goOn_71 rfl ?_
      replace h := ob h
      obtain ⟨u39, hu40, h⟩ := h
      refine xi_callV C (hRP t_people t_limit t_after_e_people t_after_e_pieces t_hears_e t_talks_e x1 (x2 + 1) x4 x5 u39 hu40) zcX6_pairUp zmX6_95 ziX6_pairUp (zrd (b := b) (c := 0) (d := 1) rfl rfl) z00 rfl [0, 1, 2, 3, 4, 5, 6, 7, 8, 9, 10, 11, 12, 13, 14, 15, 16, 17, 18, 19, 20, 21] rfl rfl rfl [some 0, some 1, some 2, some 3, some 4, some 5, some 6, some 7, some 8, some 9, some 10, some 11, some 12, some 13, some 14, some 15, some 16, some 17, some 18, some 19, some 20, some 21] (by decide +kernel) (ws2 := [(a_t, .inr (6, [.ref a_t_after, .ref a_t_hears, .ref a_t_talks, .int t_people, .int t_limit])), (a_t_after, .inl (cT 5, 5, .inr (.inr (.inr (.inr (fun i => if i < 5 then some (a_t_after_e i) else none)))))), ((a_t_after_e 0), .inr (3, [.ref (a_t_after_e_pieces 0), .int (t_after_e_people 0)])), ((a_t_after_e_pieces 0), .inl (cT 0, 10, .inl (u39.2 0))), ((a_t_after_e 1), .inr (3, [.ref (a_t_after_e_pieces 1), .int (t_after_e_people 1)])), ((a_t_after_e_pieces 1), .inl (cT 0, 10, .inl (u39.2 1))), ((a_t_after_e 2), .inr (3, [.ref (a_t_after_e_pieces 2), .int (t_after_e_people 2)])), ((a_t_after_e_pieces 2), .inl (cT 0, 10, .inl (u39.2 2))), ((a_t_after_e 3), .inr (3, [.ref (a_t_after_e_pieces 3), .int (t_after_e_people 3)])), ((a_t_after_e_pieces 3), .inl (cT 0, 10, .inl (u39.2 3))), ((a_t_after_e 4), .inr (3, [.ref (a_t_after_e_pieces 4), .int (t_after_e_people 4)])), ((a_t_after_e_pieces 4), .inl (cT 0, 10, .inl (u39.2 4))), (a_t_hears, .inl (cT 6, 4, .inr (.inr (.inr (.inr (fun i => if i < 4 then some (a_t_hears_e i) else none)))))), ((a_t_hears_e 0), .inl (cT 0, 10, .inl (t_hears_e 0))), ((a_t_hears_e 1), .inl (cT 0, 10, .inl (t_hears_e 1))), ((a_t_hears_e 2), .inl (cT 0, 10, .inl (t_hears_e 2))), ((a_t_hears_e 3), .inl (cT 0, 10, .inl (t_hears_e 3))), (a_t_talks, .inl (cT 6, 4, .inr (.inr (.inr (.inr (fun i => if i < 4 then some (a_t_talks_e i) else none)))))), ((a_t_talks_e 0), .inl (cT 0, 10, .inl (t_talks_e 0))), ((a_t_talks_e 1), .inl (cT 0, 10, .inl (t_talks_e 1))), ((a_t_talks_e 2), .inl (cT 0, 10, .inl (t_talks_e 2))), ((a_t_talks_e 3), .inl (cT 0, 10, .inl (t_talks_e 3)))]) rfl zkX6.1 (qr := 0) rfl rfl (Nat.le_of_ble_eq_true rfl) dX6_goOn_73 (fun z41 => ?_)
      refine xi_if_eq C (tgt := 83) dX6_goOn_76 rfl (fun c42 => ?_) (fun c42 => ?_)
      · replace h := (if_pos c42).symm.trans h
        refine xi_iconst C (v := 0) dX6_goOn_83 rfl ?_
        obtain rfl := Option.some.inj h
        exact hE _ _ _ dX6_goOn_84 rfl rfl
      · replace h := (if_neg c42).symm.trans h
        refine xi_iconst C (v := 1) dX6_goOn_79 rfl ?_
        refine xi_goto C (tgt := 84) dX6_goOn_80 rfl ?_
        obtain rfl := Option.some.inj h
        exact hE _ _ _ dX6_goOn_84 rfl rfl
  have B52_2 : ∀ (hkn0 : (x1 + 1).toNatClampNeg = 2) (hfa0 : vp_in (x1 + 1) 5) (t_after_e_pieces : Nat → Nat → Int32), fX6_goOn_b52_k RP t_people t_limit t_after_e_people t_hears_e t_talks_e x1 x2 x4 x5 2 t_after_e_pieces = some r → sW X l (zR (b + 1)) D 8 0 0 52 [(0, .ref a_t), (1, .int x1), (2, .int x2), (4, .int x4), (5, .int x5)] [] [(a_t, .inr (6, [.ref a_t_after, .ref a_t_hears, .ref a_t_talks, .int t_people, .int t_limit])), (a_t_after, .inl (cT 5, 5, .inr (.inr (.inr (.inr (fun i => if i < 5 then some (a_t_after_e i) else none)))))), ((a_t_after_e 0), .inr (3, [.ref (a_t_after_e_pieces 0), .int (t_after_e_people 0)])), ((a_t_after_e_pieces 0), .inl (cT 0, 10, .inl (t_after_e_pieces 0))), ((a_t_after_e 1), .inr (3, [.ref (a_t_after_e_pieces 1), .int (t_after_e_people 1)])), ((a_t_after_e_pieces 1), .inl (cT 0, 10, .inl (t_after_e_pieces 1))), ((a_t_after_e 2), .inr (3, [.ref (a_t_after_e_pieces 2), .int (t_after_e_people 2)])), ((a_t_after_e_pieces 2), .inl (cT 0, 10, .inl (t_after_e_pieces 2))), ((a_t_after_e 3), .inr (3, [.ref (a_t_after_e_pieces 3), .int (t_after_e_people 3)])), ((a_t_after_e_pieces 3), .inl (cT 0, 10, .inl (t_after_e_pieces 3))), ((a_t_after_e 4), .inr (3, [.ref (a_t_after_e_pieces 4), .int (t_after_e_people 4)])), ((a_t_after_e_pieces 4), .inl (cT 0, 10, .inl (t_after_e_pieces 4))), (a_t_hears, .inl (cT 6, 4, .inr (.inr (.inr (.inr (fun i => if i < 4 then some (a_t_hears_e i) else none)))))), ((a_t_hears_e 0), .inl (cT 0, 10, .inl (t_hears_e 0))), ((a_t_hears_e 1), .inl (cT 0, 10, .inl (t_hears_e 1))), ((a_t_hears_e 2), .inl (cT 0, 10, .inl (t_hears_e 2))), ((a_t_hears_e 3), .inl (cT 0, 10, .inl (t_hears_e 3))), (a_t_talks, .inl (cT 6, 4, .inr (.inr (.inr (.inr (fun i => if i < 4 then some (a_t_talks_e i) else none)))))), ((a_t_talks_e 0), .inl (cT 0, 10, .inl (t_talks_e 0))), ((a_t_talks_e 1), .inl (cT 0, 10, .inl (t_talks_e 1))), ((a_t_talks_e 2), .inl (cT 0, 10, .inl (t_talks_e 2))), ((a_t_talks_e 3), .inl (cT 0, 10, .inl (t_talks_e 3)))] := by
    intro hkn0 hfa0 t_after_e_pieces h
    refine xi_iconst C (v := 1) dX6_goOn_52 rfl ?_
    refine xi_goto C (tgt := 57) dX6_goOn_53 rfl ?_
    exact B57_2 hkn0 hfa0 1 t_after_e_pieces h
  have B57_3 : ∀ (hkn0 : (x1 + 1).toNatClampNeg = 3) (hfa0 : vp_in (x1 + 1) 5) (s0 : Int32) (t_after_e_pieces : Nat → Nat → Int32), fX6_goOn_b57_k RP t_people t_limit t_after_e_people t_hears_e t_talks_e x1 x2 x4 x5 3 s0 t_after_e_pieces = some r → sW X l (zR (b + 1)) D 8 0 0 57 [(0, .ref a_t), (1, .int x1), (2, .int x2), (4, .int x4), (5, .int x5)] [.int s0] [(a_t, .inr (6, [.ref a_t_after, .ref a_t_hears, .ref a_t_talks, .int t_people, .int t_limit])), (a_t_after, .inl (cT 5, 5, .inr (.inr (.inr (.inr (fun i => if i < 5 then some (a_t_after_e i) else none)))))), ((a_t_after_e 0), .inr (3, [.ref (a_t_after_e_pieces 0), .int (t_after_e_people 0)])), ((a_t_after_e_pieces 0), .inl (cT 0, 10, .inl (t_after_e_pieces 0))), ((a_t_after_e 1), .inr (3, [.ref (a_t_after_e_pieces 1), .int (t_after_e_people 1)])), ((a_t_after_e_pieces 1), .inl (cT 0, 10, .inl (t_after_e_pieces 1))), ((a_t_after_e 2), .inr (3, [.ref (a_t_after_e_pieces 2), .int (t_after_e_people 2)])), ((a_t_after_e_pieces 2), .inl (cT 0, 10, .inl (t_after_e_pieces 2))), ((a_t_after_e 3), .inr (3, [.ref (a_t_after_e_pieces 3), .int (t_after_e_people 3)])), ((a_t_after_e_pieces 3), .inl (cT 0, 10, .inl (t_after_e_pieces 3))), ((a_t_after_e 4), .inr (3, [.ref (a_t_after_e_pieces 4), .int (t_after_e_people 4)])), ((a_t_after_e_pieces 4), .inl (cT 0, 10, .inl (t_after_e_pieces 4))), (a_t_hears, .inl (cT 6, 4, .inr (.inr (.inr (.inr (fun i => if i < 4 then some (a_t_hears_e i) else none)))))), ((a_t_hears_e 0), .inl (cT 0, 10, .inl (t_hears_e 0))), ((a_t_hears_e 1), .inl (cT 0, 10, .inl (t_hears_e 1))), ((a_t_hears_e 2), .inl (cT 0, 10, .inl (t_hears_e 2))), ((a_t_hears_e 3), .inl (cT 0, 10, .inl (t_hears_e 3))), (a_t_talks, .inl (cT 6, 4, .inr (.inr (.inr (.inr (fun i => if i < 4 then some (a_t_talks_e i) else none)))))), ((a_t_talks_e 0), .inl (cT 0, 10, .inl (t_talks_e 0))), ((a_t_talks_e 1), .inl (cT 0, 10, .inl (t_talks_e 1))), ((a_t_talks_e 2), .inl (cT 0, 10, .inl (t_talks_e 2))), ((a_t_talks_e 3), .inl (cT 0, 10, .inl (t_talks_e 3)))] := by
    intro hkn0 hfa0 s0 t_after_e_pieces h
    refine xi_istore C [1, 2, 3, 4, 5, 0] (L2 := [(0, .ref a_t), (1, .int x1), (2, .int x2), (4, .int x4), (5, .int x5), (7, .int s0)]) dX6_goOn_57 (Nat.le_of_ble_eq_true rfl) rfl ?_
    refine xi_iload C 5 dX6_goOn_59 rfl ?_
    refine xi_if_eq C (tgt := 83) dX6_goOn_61 rfl (fun c48 => ?_) (fun c48 => ?_)
    · replace h := (if_pos c48).symm.trans h
      refine xi_iconst C (v := 0) dX6_goOn_83 rfl ?_
      obtain rfl := Option.some.inj h
      exact hE _ _ _ dX6_goOn_84 rfl rfl
    · replace h := (if_neg c48).symm.trans h
      refine xi_aload_n C 0 dX6_goOn_64 rfl ?_
      refine xi_iload_n C 1 dX6_goOn_65 rfl ?_
      refine xi_iload_n C 2 dX6_goOn_66 rfl ?_
      refine xi_iconst C (v := 1) dX6_goOn_67 rfl ?_
      refine xi_iadd C dX6_goOn_68 ?_
      refine xi_iload C 3 dX6_goOn_69 rfl ?_
      refine xi_iload C 4 dX6_goOn_71 rfl ?_
      replace h := ob h
      obtain ⟨u49, hu50, h⟩ := h
      refine xi_callV C (hRP t_people t_limit t_after_e_people t_after_e_pieces t_hears_e t_talks_e x1 (x2 + 1) x4 x5 u49 hu50) zcX6_pairUp zmX6_95 ziX6_pairUp (zrd (b := b) (c := 0) (d := 1) rfl rfl) z00 rfl [0, 1, 2, 3, 4, 5, 6, 7, 8, 9, 10, 11, 12, 13, 14, 15, 16, 17, 18, 19, 20, 21] rfl rfl rfl [some 0, some 1, some 2, some 3, some 4, some 5, some 6, some 7, some 8, some 9, some 10, some 11, some 12, some 13, some 14, some 15, some 16, some 17, some 18, some 19, some 20, some 21] (by decide +kernel) (ws2 := [(a_t, .inr (6, [.ref a_t_after, .ref a_t_hears, .ref a_t_talks, .int t_people, .int t_limit])), (a_t_after, .inl (cT 5, 5, .inr (.inr (.inr (.inr (fun i => if i < 5 then some (a_t_after_e i) else none)))))), ((a_t_after_e 0), .inr (3, [.ref (a_t_after_e_pieces 0), .int (t_after_e_people 0)])), ((a_t_after_e_pieces 0), .inl (cT 0, 10, .inl (u49.2 0))), ((a_t_after_e 1), .inr (3, [.ref (a_t_after_e_pieces 1), .int (t_after_e_people 1)])), ((a_t_after_e_pieces 1), .inl (cT 0, 10, .inl (u49.2 1))), ((a_t_after_e 2), .inr (3, [.ref (a_t_after_e_pieces 2), .int (t_after_e_people 2)])), ((a_t_after_e_pieces 2), .inl (cT 0, 10, .inl (u49.2 2))), ((a_t_after_e 3), .inr (3, [.ref (a_t_after_e_pieces 3), .int (t_after_e_people 3)])), ((a_t_after_e_pieces 3), .inl (cT 0, 10, .inl (u49.2 3))), ((a_t_after_e 4), .inr (3, [.ref (a_t_after_e_pieces 4), .int (t_after_e_people 4)])), ((a_t_after_e_pieces 4), .inl (cT 0, 10, .inl (u49.2 4))), (a_t_hears, .inl (cT 6, 4, .inr (.inr (.inr (.inr (fun i => if i < 4 then some (a_t_hears_e i) else none)))))), ((a_t_hears_e 0), .inl (cT 0, 10, .inl (t_hears_e 0))), ((a_t_hears_e 1), .inl (cT 0, 10, .inl (t_hears_e 1))), ((a_t_hears_e 2), .inl (cT 0, 10, .inl (t_hears_e 2))), ((a_t_hears_e 3), .inl (cT 0, 10, .inl (t_hears_e 3))), (a_t_talks, .inl (cT 6, 4, .inr (.inr (.inr (.inr (fun i => if i < 4 then some (a_t_talks_e i) else none)))))), ((a_t_talks_e 0), .inl (cT 0, 10, .inl (t_talks_e 0))), ((a_t_talks_e 1), .inl (cT 0, 10, .inl (t_talks_e 1))), ((a_t_talks_e 2), .inl (cT 0, 10, .inl (t_talks_e 2))), ((a_t_talks_e 3), .inl (cT 0, 10, .inl (t_talks_e 3)))]) rfl zkX6.1 (qr := 0) rfl rfl (Nat.le_of_ble_eq_true rfl) dX6_goOn_73 (fun z51 => ?_)
      refine xi_if_eq C (tgt := 83) dX6_goOn_76 rfl (fun c52 => ?_) (fun c52 => ?_)
      · replace h := (if_pos c52).symm.trans h
        refine xi_iconst C (v := 0) dX6_goOn_83 rfl ?_
        obtain rfl := Option.some.inj h
        exact hE _ _ _ dX6_goOn_84 rfl rfl
      · replace h := (if_neg c52).symm.trans h
        refine xi_iconst C (v := 1) dX6_goOn_79 rfl ?_
        refine xi_goto C (tgt := 84) dX6_goOn_80 rfl ?_
        obtain rfl := Option.some.inj h
        exact hE _ _ _ dX6_goOn_84 rfl rfl
  have B52_3 : ∀ (hkn0 : (x1 + 1).toNatClampNeg = 3) (hfa0 : vp_in (x1 + 1) 5) (t_after_e_pieces : Nat → Nat → Int32), fX6_goOn_b52_k RP t_people t_limit t_after_e_people t_hears_e t_talks_e x1 x2 x4 x5 3 t_after_e_pieces = some r → sW X l (zR (b + 1)) D 8 0 0 52 [(0, .ref a_t), (1, .int x1), (2, .int x2), (4, .int x4), (5, .int x5)] [] [(a_t, .inr (6, [.ref a_t_after, .ref a_t_hears, .ref a_t_talks, .int t_people, .int t_limit])), (a_t_after, .inl (cT 5, 5, .inr (.inr (.inr (.inr (fun i => if i < 5 then some (a_t_after_e i) else none)))))), ((a_t_after_e 0), .inr (3, [.ref (a_t_after_e_pieces 0), .int (t_after_e_people 0)])), ((a_t_after_e_pieces 0), .inl (cT 0, 10, .inl (t_after_e_pieces 0))), ((a_t_after_e 1), .inr (3, [.ref (a_t_after_e_pieces 1), .int (t_after_e_people 1)])), ((a_t_after_e_pieces 1), .inl (cT 0, 10, .inl (t_after_e_pieces 1))), ((a_t_after_e 2), .inr (3, [.ref (a_t_after_e_pieces 2), .int (t_after_e_people 2)])), ((a_t_after_e_pieces 2), .inl (cT 0, 10, .inl (t_after_e_pieces 2))), ((a_t_after_e 3), .inr (3, [.ref (a_t_after_e_pieces 3), .int (t_after_e_people 3)])), ((a_t_after_e_pieces 3), .inl (cT 0, 10, .inl (t_after_e_pieces 3))), ((a_t_after_e 4), .inr (3, [.ref (a_t_after_e_pieces 4), .int (t_after_e_people 4)])), ((a_t_after_e_pieces 4), .inl (cT 0, 10, .inl (t_after_e_pieces 4))), (a_t_hears, .inl (cT 6, 4, .inr (.inr (.inr (.inr (fun i => if i < 4 then some (a_t_hears_e i) else none)))))), ((a_t_hears_e 0), .inl (cT 0, 10, .inl (t_hears_e 0))), ((a_t_hears_e 1), .inl (cT 0, 10, .inl (t_hears_e 1))), ((a_t_hears_e 2), .inl (cT 0, 10, .inl (t_hears_e 2))), ((a_t_hears_e 3), .inl (cT 0, 10, .inl (t_hears_e 3))), (a_t_talks, .inl (cT 6, 4, .inr (.inr (.inr (.inr (fun i => if i < 4 then some (a_t_talks_e i) else none)))))), ((a_t_talks_e 0), .inl (cT 0, 10, .inl (t_talks_e 0))), ((a_t_talks_e 1), .inl (cT 0, 10, .inl (t_talks_e 1))), ((a_t_talks_e 2), .inl (cT 0, 10, .inl (t_talks_e 2))), ((a_t_talks_e 3), .inl (cT 0, 10, .inl (t_talks_e 3)))] := by
    intro hkn0 hfa0 t_after_e_pieces h
    refine xi_iconst C (v := 1) dX6_goOn_52 rfl ?_
    refine xi_goto C (tgt := 57) dX6_goOn_53 rfl ?_
    exact B57_3 hkn0 hfa0 1 t_after_e_pieces h
  have B57_4 : ∀ (hkn0 : (x1 + 1).toNatClampNeg = 4) (hfa0 : vp_in (x1 + 1) 5) (s0 : Int32) (t_after_e_pieces : Nat → Nat → Int32), fX6_goOn_b57_k RP t_people t_limit t_after_e_people t_hears_e t_talks_e x1 x2 x4 x5 4 s0 t_after_e_pieces = some r → sW X l (zR (b + 1)) D 8 0 0 57 [(0, .ref a_t), (1, .int x1), (2, .int x2), (4, .int x4), (5, .int x5)] [.int s0] [(a_t, .inr (6, [.ref a_t_after, .ref a_t_hears, .ref a_t_talks, .int t_people, .int t_limit])), (a_t_after, .inl (cT 5, 5, .inr (.inr (.inr (.inr (fun i => if i < 5 then some (a_t_after_e i) else none)))))), ((a_t_after_e 0), .inr (3, [.ref (a_t_after_e_pieces 0), .int (t_after_e_people 0)])), ((a_t_after_e_pieces 0), .inl (cT 0, 10, .inl (t_after_e_pieces 0))), ((a_t_after_e 1), .inr (3, [.ref (a_t_after_e_pieces 1), .int (t_after_e_people 1)])), ((a_t_after_e_pieces 1), .inl (cT 0, 10, .inl (t_after_e_pieces 1))), ((a_t_after_e 2), .inr (3, [.ref (a_t_after_e_pieces 2), .int (t_after_e_people 2)])), ((a_t_after_e_pieces 2), .inl (cT 0, 10, .inl (t_after_e_pieces 2))), ((a_t_after_e 3), .inr (3, [.ref (a_t_after_e_pieces 3), .int (t_after_e_people 3)])), ((a_t_after_e_pieces 3), .inl (cT 0, 10, .inl (t_after_e_pieces 3))), ((a_t_after_e 4), .inr (3, [.ref (a_t_after_e_pieces 4), .int (t_after_e_people 4)])), ((a_t_after_e_pieces 4), .inl (cT 0, 10, .inl (t_after_e_pieces 4))), (a_t_hears, .inl (cT 6, 4, .inr (.inr (.inr (.inr (fun i => if i < 4 then some (a_t_hears_e i) else none)))))), ((a_t_hears_e 0), .inl (cT 0, 10, .inl (t_hears_e 0))), ((a_t_hears_e 1), .inl (cT 0, 10, .inl (t_hears_e 1))), ((a_t_hears_e 2), .inl (cT 0, 10, .inl (t_hears_e 2))), ((a_t_hears_e 3), .inl (cT 0, 10, .inl (t_hears_e 3))), (a_t_talks, .inl (cT 6, 4, .inr (.inr (.inr (.inr (fun i => if i < 4 then some (a_t_talks_e i) else none)))))), ((a_t_talks_e 0), .inl (cT 0, 10, .inl (t_talks_e 0))), ((a_t_talks_e 1), .inl (cT 0, 10, .inl (t_talks_e 1))), ((a_t_talks_e 2), .inl (cT 0, 10, .inl (t_talks_e 2))), ((a_t_talks_e 3), .inl (cT 0, 10, .inl (t_talks_e 3)))] := by
    intro hkn0 hfa0 s0 t_after_e_pieces h
    refine xi_istore C [1, 2, 3, 4, 5, 0] (L2 := [(0, .ref a_t), (1, .int x1), (2, .int x2), (4, .int x4), (5, .int x5), (7, .int s0)]) dX6_goOn_57 (Nat.le_of_ble_eq_true rfl) rfl ?_
    refine xi_iload C 5 dX6_goOn_59 rfl ?_
    refine xi_if_eq C (tgt := 83) dX6_goOn_61 rfl (fun c58 => ?_) (fun c58 => ?_)
    · replace h := (if_pos c58).symm.trans h
      refine xi_iconst C (v := 0) dX6_goOn_83 rfl ?_
      obtain rfl := Option.some.inj h
      exact hE _ _ _ dX6_goOn_84 rfl rfl
    · replace h := (if_neg c58).symm.trans h
      refine xi_aload_n C 0 dX6_goOn_64 rfl ?_
      refine xi_iload_n C 1 dX6_goOn_65 rfl ?_
      refine xi_iload_n C 2 dX6_goOn_66 rfl ?_
      refine xi_iconst C (v := 1) dX6_goOn_67 rfl ?_
      refine xi_iadd C dX6_goOn_68 ?_
      refine xi_iload C 3 dX6_goOn_69 rfl ?_
      refine xi_iload C 4 dX6_goOn_71 rfl ?_
      replace h := ob h
      obtain ⟨u59, hu60, h⟩ := h
      refine xi_callV C (hRP t_people t_limit t_after_e_people t_after_e_pieces t_hears_e t_talks_e x1 (x2 + 1) x4 x5 u59 hu60) zcX6_pairUp zmX6_95 ziX6_pairUp (zrd (b := b) (c := 0) (d := 1) rfl rfl) z00 rfl [0, 1, 2, 3, 4, 5, 6, 7, 8, 9, 10, 11, 12, 13, 14, 15, 16, 17, 18, 19, 20, 21] rfl rfl rfl [some 0, some 1, some 2, some 3, some 4, some 5, some 6, some 7, some 8, some 9, some 10, some 11, some 12, some 13, some 14, some 15, some 16, some 17, some 18, some 19, some 20, some 21] (by decide +kernel) (ws2 := [(a_t, .inr (6, [.ref a_t_after, .ref a_t_hears, .ref a_t_talks, .int t_people, .int t_limit])), (a_t_after, .inl (cT 5, 5, .inr (.inr (.inr (.inr (fun i => if i < 5 then some (a_t_after_e i) else none)))))), ((a_t_after_e 0), .inr (3, [.ref (a_t_after_e_pieces 0), .int (t_after_e_people 0)])), ((a_t_after_e_pieces 0), .inl (cT 0, 10, .inl (u59.2 0))), ((a_t_after_e 1), .inr (3, [.ref (a_t_after_e_pieces 1), .int (t_after_e_people 1)])), ((a_t_after_e_pieces 1), .inl (cT 0, 10, .inl (u59.2 1))), ((a_t_after_e 2), .inr (3, [.ref (a_t_after_e_pieces 2), .int (t_after_e_people 2)])), ((a_t_after_e_pieces 2), .inl (cT 0, 10, .inl (u59.2 2))), ((a_t_after_e 3), .inr (3, [.ref (a_t_after_e_pieces 3), .int (t_after_e_people 3)])), ((a_t_after_e_pieces 3), .inl (cT 0, 10, .inl (u59.2 3))), ((a_t_after_e 4), .inr (3, [.ref (a_t_after_e_pieces 4), .int (t_after_e_people 4)])), ((a_t_after_e_pieces 4), .inl (cT 0, 10, .inl (u59.2 4))), (a_t_hears, .inl (cT 6, 4, .inr (.inr (.inr (.inr (fun i => if i < 4 then some (a_t_hears_e i) else none)))))), ((a_t_hears_e 0), .inl (cT 0, 10, .inl (t_hears_e 0))), ((a_t_hears_e 1), .inl (cT 0, 10, .inl (t_hears_e 1))), ((a_t_hears_e 2), .inl (cT 0, 10, .inl (t_hears_e 2))), ((a_t_hears_e 3), .inl (cT 0, 10, .inl (t_hears_e 3))), (a_t_talks, .inl (cT 6, 4, .inr (.inr (.inr (.inr (fun i => if i < 4 then some (a_t_talks_e i) else none)))))), ((a_t_talks_e 0), .inl (cT 0, 10, .inl (t_talks_e 0))), ((a_t_talks_e 1), .inl (cT 0, 10, .inl (t_talks_e 1))), ((a_t_talks_e 2), .inl (cT 0, 10, .inl (t_talks_e 2))), ((a_t_talks_e 3), .inl (cT 0, 10, .inl (t_talks_e 3)))]) rfl zkX6.1 (qr := 0) rfl rfl (Nat.le_of_ble_eq_true rfl) dX6_goOn_73 (fun z61 => ?_)
      refine xi_if_eq C (tgt := 83) dX6_goOn_76 rfl (fun c62 => ?_) (fun c62 => ?_)
      · replace h := (if_pos c62).symm.trans h
        refine xi_iconst C (v := 0) dX6_goOn_83 rfl ?_
        obtain rfl := Option.some.inj h
        exact hE _ _ _ dX6_goOn_84 rfl rfl
      · replace h := (if_neg c62).symm.trans h
        refine xi_iconst C (v := 1) dX6_goOn_79 rfl ?_
        refine xi_goto C (tgt := 84) dX6_goOn_80 rfl ?_
        obtain rfl := Option.some.inj h
        exact hE _ _ _ dX6_goOn_84 rfl rfl
  have B52_4 : ∀ (hkn0 : (x1 + 1).toNatClampNeg = 4) (hfa0 : vp_in (x1 + 1) 5) (t_after_e_pieces : Nat → Nat → Int32), fX6_goOn_b52_k RP t_people t_limit t_after_e_people t_hears_e t_talks_e x1 x2 x4 x5 4 t_after_e_pieces = some r → sW X l (zR (b + 1)) D 8 0 0 52 [(0, .ref a_t), (1, .int x1), (2, .int x2), (4, .int x4), (5, .int x5)] [] [(a_t, .inr (6, [.ref a_t_after, .ref a_t_hears, .ref a_t_talks, .int t_people, .int t_limit])), (a_t_after, .inl (cT 5, 5, .inr (.inr (.inr (.inr (fun i => if i < 5 then some (a_t_after_e i) else none)))))), ((a_t_after_e 0), .inr (3, [.ref (a_t_after_e_pieces 0), .int (t_after_e_people 0)])), ((a_t_after_e_pieces 0), .inl (cT 0, 10, .inl (t_after_e_pieces 0))), ((a_t_after_e 1), .inr (3, [.ref (a_t_after_e_pieces 1), .int (t_after_e_people 1)])), ((a_t_after_e_pieces 1), .inl (cT 0, 10, .inl (t_after_e_pieces 1))), ((a_t_after_e 2), .inr (3, [.ref (a_t_after_e_pieces 2), .int (t_after_e_people 2)])), ((a_t_after_e_pieces 2), .inl (cT 0, 10, .inl (t_after_e_pieces 2))), ((a_t_after_e 3), .inr (3, [.ref (a_t_after_e_pieces 3), .int (t_after_e_people 3)])), ((a_t_after_e_pieces 3), .inl (cT 0, 10, .inl (t_after_e_pieces 3))), ((a_t_after_e 4), .inr (3, [.ref (a_t_after_e_pieces 4), .int (t_after_e_people 4)])), ((a_t_after_e_pieces 4), .inl (cT 0, 10, .inl (t_after_e_pieces 4))), (a_t_hears, .inl (cT 6, 4, .inr (.inr (.inr (.inr (fun i => if i < 4 then some (a_t_hears_e i) else none)))))), ((a_t_hears_e 0), .inl (cT 0, 10, .inl (t_hears_e 0))), ((a_t_hears_e 1), .inl (cT 0, 10, .inl (t_hears_e 1))), ((a_t_hears_e 2), .inl (cT 0, 10, .inl (t_hears_e 2))), ((a_t_hears_e 3), .inl (cT 0, 10, .inl (t_hears_e 3))), (a_t_talks, .inl (cT 6, 4, .inr (.inr (.inr (.inr (fun i => if i < 4 then some (a_t_talks_e i) else none)))))), ((a_t_talks_e 0), .inl (cT 0, 10, .inl (t_talks_e 0))), ((a_t_talks_e 1), .inl (cT 0, 10, .inl (t_talks_e 1))), ((a_t_talks_e 2), .inl (cT 0, 10, .inl (t_talks_e 2))), ((a_t_talks_e 3), .inl (cT 0, 10, .inl (t_talks_e 3)))] := by
    intro hkn0 hfa0 t_after_e_pieces h
    refine xi_iconst C (v := 1) dX6_goOn_52 rfl ?_
    refine xi_goto C (tgt := 57) dX6_goOn_53 rfl ?_
    exact B57_4 hkn0 hfa0 1 t_after_e_pieces h
  refine xi_drop (L2 := [(0, .ref a_t), (1, .int x1), (2, .int x2), (3, .int x3), (4, .int x4), (5, .int x5)]) [0, 1, 2, 3, 4, 5] rfl ?_
  refine xi_aload_n C 0 dX6_goOn_0 rfl ?_
  refine xi_get C zkX6 0 0 zlX6_11 (by decide) rfl rfl dX6_goOn_1 ?_
  refine xi_iload_n C 1 dX6_goOn_4 rfl ?_
  refine xi_iconst C (v := 1) dX6_goOn_5 rfl ?_
  refine xi_iadd C dX6_goOn_6 ?_
  replace h := ig h
  obtain ⟨c1, h⟩ := h
  rcases zk5 c1 with hj3 | hj3 | hj3 | hj3 | hj3
  · replace h := nmE hj3.symm h
    refine xi_aald C 1 5 (b := (a_t_after_e 0)) rfl rfl c1 (by rw [hj3]; rfl) dX6_goOn_7 ?_
    refine xi_get C zkX3 0 2 zlX6_102 (by decide) rfl rfl dX6_goOn_8 ?_
    refine xi_iload_n C 2 dX6_goOn_11 rfl ?_
    replace h := ig h
    obtain ⟨c14, h⟩ := h
    refine xi_iald C 3 rfl c14 dX6_goOn_12 ?_
    refine xi_aload_n C 0 dX6_goOn_13 rfl ?_
    refine xi_get C zkX6 0 0 zlX6_11 (by decide) rfl rfl dX6_goOn_14 ?_
    refine xi_iload_n C 1 dX6_goOn_17 rfl ?_
    refine xi_iconst C (v := 1) dX6_goOn_18 rfl ?_
    refine xi_iadd C dX6_goOn_19 ?_
    refine xi_aald C 1 5 (b := (a_t_after_e 0)) rfl rfl c1 (by rw [hj3]; rfl) dX6_goOn_20 ?_
    refine xi_get C zkX3 0 2 zlX6_102 (by decide) rfl rfl dX6_goOn_21 ?_
    refine xi_iload_n C 3 dX6_goOn_24 rfl ?_
    replace h := ig h
    obtain ⟨c15, h⟩ := h
    refine xi_iald C 3 rfl c15 dX6_goOn_25 ?_
    refine xi_iand C dX6_goOn_26 ?_
    refine xi_topi (fun w16 ew16 => ?_)
    replace h := nmE ew16 h
    refine xi_istore C [1, 2, 3, 4, 5, 6, 0] (L2 := [(0, .ref a_t), (1, .int x1), (2, .int x2), (3, .int x3), (4, .int x4), (5, .int x5), (6, .int w16)]) dX6_goOn_27 (Nat.le_of_ble_eq_true rfl) rfl ?_
    refine xi_iload_n C 1 dX6_goOn_29 rfl ?_
    refine xi_iconst C (v := 1) dX6_goOn_30 rfl ?_
    refine xi_iadd C dX6_goOn_31 ?_
    refine xi_aload_n C 0 dX6_goOn_32 rfl ?_
    refine xi_get C zkX6 4 0 zlX6_29 (by decide) rfl rfl dX6_goOn_33 ?_
    refine xi_icmp_lt C (tgt := 52) dX6_goOn_36 rfl (fun c17 => ?_) (fun c17 => ?_)
    · replace h := (if_pos c17).symm.trans h
      refine xi_drop (L2 := [(0, .ref a_t), (1, .int x1), (2, .int x2), (4, .int x4), (5, .int x5)]) [0, 1, 2, 4, 5] rfl ?_
      exact B52_0 hj3 c1 t_after_e_pieces h
    · replace h := (if_neg c17).symm.trans h
      refine xi_iload C 6 dX6_goOn_39 rfl ?_
      refine xi_iconst C (v := 1) dX6_goOn_41 rfl ?_
      refine xi_aload_n C 0 dX6_goOn_42 rfl ?_
      refine xi_get C zkX6 3 0 zlX6_25 (by decide) rfl rfl dX6_goOn_43 ?_
      refine xi_ishl C dX6_goOn_46 ?_
      refine xi_iconst C (v := 1) dX6_goOn_47 rfl ?_
      refine xi_isub C dX6_goOn_48 ?_
      refine xi_icmp_ne C (tgt := 56) dX6_goOn_49 rfl (fun c23 => ?_) (fun c23 => ?_)
      · replace h := (if_neg c23).symm.trans h
        refine xi_iconst C (v := 0) dX6_goOn_56 rfl ?_
        refine xi_drop (L2 := [(0, .ref a_t), (1, .int x1), (2, .int x2), (4, .int x4), (5, .int x5)]) [0, 1, 2, 4, 5] rfl ?_
        exact B57_0 hj3 c1 0 t_after_e_pieces h
      · replace h := (if_pos c23).symm.trans h
        refine xi_drop (L2 := [(0, .ref a_t), (1, .int x1), (2, .int x2), (4, .int x4), (5, .int x5)]) [0, 1, 2, 4, 5] rfl ?_
        exact B52_0 hj3 c1 t_after_e_pieces h
  · replace h := nmE hj3.symm h
    refine xi_aald C 1 5 (b := (a_t_after_e 1)) rfl rfl c1 (by rw [hj3]; rfl) dX6_goOn_7 ?_
    refine xi_get C zkX3 0 4 zlX6_102 (by decide) rfl rfl dX6_goOn_8 ?_
    refine xi_iload_n C 2 dX6_goOn_11 rfl ?_
    replace h := ig h
    obtain ⟨c24, h⟩ := h
    refine xi_iald C 5 rfl c24 dX6_goOn_12 ?_
    refine xi_aload_n C 0 dX6_goOn_13 rfl ?_
    refine xi_get C zkX6 0 0 zlX6_11 (by decide) rfl rfl dX6_goOn_14 ?_
    refine xi_iload_n C 1 dX6_goOn_17 rfl ?_
    refine xi_iconst C (v := 1) dX6_goOn_18 rfl ?_
    refine xi_iadd C dX6_goOn_19 ?_
    refine xi_aald C 1 5 (b := (a_t_after_e 1)) rfl rfl c1 (by rw [hj3]; rfl) dX6_goOn_20 ?_
    refine xi_get C zkX3 0 4 zlX6_102 (by decide) rfl rfl dX6_goOn_21 ?_
    refine xi_iload_n C 3 dX6_goOn_24 rfl ?_
    replace h := ig h
    obtain ⟨c25, h⟩ := h
    refine xi_iald C 5 rfl c25 dX6_goOn_25 ?_
    refine xi_iand C dX6_goOn_26 ?_
    refine xi_topi (fun w26 ew26 => ?_)
    replace h := nmE ew26 h
    refine xi_istore C [1, 2, 3, 4, 5, 6, 0] (L2 := [(0, .ref a_t), (1, .int x1), (2, .int x2), (3, .int x3), (4, .int x4), (5, .int x5), (6, .int w26)]) dX6_goOn_27 (Nat.le_of_ble_eq_true rfl) rfl ?_
    refine xi_iload_n C 1 dX6_goOn_29 rfl ?_
    refine xi_iconst C (v := 1) dX6_goOn_30 rfl ?_
    refine xi_iadd C dX6_goOn_31 ?_
    refine xi_aload_n C 0 dX6_goOn_32 rfl ?_
    refine xi_get C zkX6 4 0 zlX6_29 (by decide) rfl rfl dX6_goOn_33 ?_
    refine xi_icmp_lt C (tgt := 52) dX6_goOn_36 rfl (fun c27 => ?_) (fun c27 => ?_)
    · replace h := (if_pos c27).symm.trans h
      refine xi_drop (L2 := [(0, .ref a_t), (1, .int x1), (2, .int x2), (4, .int x4), (5, .int x5)]) [0, 1, 2, 4, 5] rfl ?_
      exact B52_1 hj3 c1 t_after_e_pieces h
    · replace h := (if_neg c27).symm.trans h
      refine xi_iload C 6 dX6_goOn_39 rfl ?_
      refine xi_iconst C (v := 1) dX6_goOn_41 rfl ?_
      refine xi_aload_n C 0 dX6_goOn_42 rfl ?_
      refine xi_get C zkX6 3 0 zlX6_25 (by decide) rfl rfl dX6_goOn_43 ?_
      refine xi_ishl C dX6_goOn_46 ?_
      refine xi_iconst C (v := 1) dX6_goOn_47 rfl ?_
      refine xi_isub C dX6_goOn_48 ?_
      refine xi_icmp_ne C (tgt := 56) dX6_goOn_49 rfl (fun c33 => ?_) (fun c33 => ?_)
      · replace h := (if_neg c33).symm.trans h
        refine xi_iconst C (v := 0) dX6_goOn_56 rfl ?_
        refine xi_drop (L2 := [(0, .ref a_t), (1, .int x1), (2, .int x2), (4, .int x4), (5, .int x5)]) [0, 1, 2, 4, 5] rfl ?_
        exact B57_1 hj3 c1 0 t_after_e_pieces h
      · replace h := (if_pos c33).symm.trans h
        refine xi_drop (L2 := [(0, .ref a_t), (1, .int x1), (2, .int x2), (4, .int x4), (5, .int x5)]) [0, 1, 2, 4, 5] rfl ?_
        exact B52_1 hj3 c1 t_after_e_pieces h
  · replace h := nmE hj3.symm h
    refine xi_aald C 1 5 (b := (a_t_after_e 2)) rfl rfl c1 (by rw [hj3]; rfl) dX6_goOn_7 ?_
    refine xi_get C zkX3 0 6 zlX6_102 (by decide) rfl rfl dX6_goOn_8 ?_
    refine xi_iload_n C 2 dX6_goOn_11 rfl ?_
    replace h := ig h
    obtain ⟨c34, h⟩ := h
    refine xi_iald C 7 rfl c34 dX6_goOn_12 ?_
    refine xi_aload_n C 0 dX6_goOn_13 rfl ?_
    refine xi_get C zkX6 0 0 zlX6_11 (by decide) rfl rfl dX6_goOn_14 ?_
    refine xi_iload_n C 1 dX6_goOn_17 rfl ?_
    refine xi_iconst C (v := 1) dX6_goOn_18 rfl ?_
    refine xi_iadd C dX6_goOn_19 ?_
    refine xi_aald C 1 5 (b := (a_t_after_e 2)) rfl rfl c1 (by rw [hj3]; rfl) dX6_goOn_20 ?_
    refine xi_get C zkX3 0 6 zlX6_102 (by decide) rfl rfl dX6_goOn_21 ?_
    refine xi_iload_n C 3 dX6_goOn_24 rfl ?_
    replace h := ig h
    obtain ⟨c35, h⟩ := h
    refine xi_iald C 7 rfl c35 dX6_goOn_25 ?_
    refine xi_iand C dX6_goOn_26 ?_
    refine xi_topi (fun w36 ew36 => ?_)
    replace h := nmE ew36 h
    refine xi_istore C [1, 2, 3, 4, 5, 6, 0] (L2 := [(0, .ref a_t), (1, .int x1), (2, .int x2), (3, .int x3), (4, .int x4), (5, .int x5), (6, .int w36)]) dX6_goOn_27 (Nat.le_of_ble_eq_true rfl) rfl ?_
    refine xi_iload_n C 1 dX6_goOn_29 rfl ?_
    refine xi_iconst C (v := 1) dX6_goOn_30 rfl ?_
    refine xi_iadd C dX6_goOn_31 ?_
    refine xi_aload_n C 0 dX6_goOn_32 rfl ?_
    refine xi_get C zkX6 4 0 zlX6_29 (by decide) rfl rfl dX6_goOn_33 ?_
    refine xi_icmp_lt C (tgt := 52) dX6_goOn_36 rfl (fun c37 => ?_) (fun c37 => ?_)
    · replace h := (if_pos c37).symm.trans h
      refine xi_drop (L2 := [(0, .ref a_t), (1, .int x1), (2, .int x2), (4, .int x4), (5, .int x5)]) [0, 1, 2, 4, 5] rfl ?_
      exact B52_2 hj3 c1 t_after_e_pieces h
    · replace h := (if_neg c37).symm.trans h
      refine xi_iload C 6 dX6_goOn_39 rfl ?_
      refine xi_iconst C (v := 1) dX6_goOn_41 rfl ?_
      refine xi_aload_n C 0 dX6_goOn_42 rfl ?_
      refine xi_get C zkX6 3 0 zlX6_25 (by decide) rfl rfl dX6_goOn_43 ?_
      refine xi_ishl C dX6_goOn_46 ?_
      refine xi_iconst C (v := 1) dX6_goOn_47 rfl ?_
      refine xi_isub C dX6_goOn_48 ?_
      refine xi_icmp_ne C (tgt := 56) dX6_goOn_49 rfl (fun c43 => ?_) (fun c43 => ?_)
      · replace h := (if_neg c43).symm.trans h
        refine xi_iconst C (v := 0) dX6_goOn_56 rfl ?_
        refine xi_drop (L2 := [(0, .ref a_t), (1, .int x1), (2, .int x2), (4, .int x4), (5, .int x5)]) [0, 1, 2, 4, 5] rfl ?_
        exact B57_2 hj3 c1 0 t_after_e_pieces h
      · replace h := (if_pos c43).symm.trans h
        refine xi_drop (L2 := [(0, .ref a_t), (1, .int x1), (2, .int x2), (4, .int x4), (5, .int x5)]) [0, 1, 2, 4, 5] rfl ?_
        exact B52_2 hj3 c1 t_after_e_pieces h
  · replace h := nmE hj3.symm h
    refine xi_aald C 1 5 (b := (a_t_after_e 3)) rfl rfl c1 (by rw [hj3]; rfl) dX6_goOn_7 ?_
    refine xi_get C zkX3 0 8 zlX6_102 (by decide) rfl rfl dX6_goOn_8 ?_
    refine xi_iload_n C 2 dX6_goOn_11 rfl ?_
    replace h := ig h
    obtain ⟨c44, h⟩ := h
    refine xi_iald C 9 rfl c44 dX6_goOn_12 ?_
    refine xi_aload_n C 0 dX6_goOn_13 rfl ?_
    refine xi_get C zkX6 0 0 zlX6_11 (by decide) rfl rfl dX6_goOn_14 ?_
    refine xi_iload_n C 1 dX6_goOn_17 rfl ?_
    refine xi_iconst C (v := 1) dX6_goOn_18 rfl ?_
    refine xi_iadd C dX6_goOn_19 ?_
    refine xi_aald C 1 5 (b := (a_t_after_e 3)) rfl rfl c1 (by rw [hj3]; rfl) dX6_goOn_20 ?_
    refine xi_get C zkX3 0 8 zlX6_102 (by decide) rfl rfl dX6_goOn_21 ?_
    refine xi_iload_n C 3 dX6_goOn_24 rfl ?_
    replace h := ig h
    obtain ⟨c45, h⟩ := h
    refine xi_iald C 9 rfl c45 dX6_goOn_25 ?_
    refine xi_iand C dX6_goOn_26 ?_
    refine xi_topi (fun w46 ew46 => ?_)
    replace h := nmE ew46 h
    refine xi_istore C [1, 2, 3, 4, 5, 6, 0] (L2 := [(0, .ref a_t), (1, .int x1), (2, .int x2), (3, .int x3), (4, .int x4), (5, .int x5), (6, .int w46)]) dX6_goOn_27 (Nat.le_of_ble_eq_true rfl) rfl ?_
    refine xi_iload_n C 1 dX6_goOn_29 rfl ?_
    refine xi_iconst C (v := 1) dX6_goOn_30 rfl ?_
    refine xi_iadd C dX6_goOn_31 ?_
    refine xi_aload_n C 0 dX6_goOn_32 rfl ?_
    refine xi_get C zkX6 4 0 zlX6_29 (by decide) rfl rfl dX6_goOn_33 ?_
    refine xi_icmp_lt C (tgt := 52) dX6_goOn_36 rfl (fun c47 => ?_) (fun c47 => ?_)
    · replace h := (if_pos c47).symm.trans h
      refine xi_drop (L2 := [(0, .ref a_t), (1, .int x1), (2, .int x2), (4, .int x4), (5, .int x5)]) [0, 1, 2, 4, 5] rfl ?_
      exact B52_3 hj3 c1 t_after_e_pieces h
    · replace h := (if_neg c47).symm.trans h
      refine xi_iload C 6 dX6_goOn_39 rfl ?_
      refine xi_iconst C (v := 1) dX6_goOn_41 rfl ?_
      refine xi_aload_n C 0 dX6_goOn_42 rfl ?_
      refine xi_get C zkX6 3 0 zlX6_25 (by decide) rfl rfl dX6_goOn_43 ?_
      refine xi_ishl C dX6_goOn_46 ?_
      refine xi_iconst C (v := 1) dX6_goOn_47 rfl ?_
      refine xi_isub C dX6_goOn_48 ?_
      refine xi_icmp_ne C (tgt := 56) dX6_goOn_49 rfl (fun c53 => ?_) (fun c53 => ?_)
      · replace h := (if_neg c53).symm.trans h
        refine xi_iconst C (v := 0) dX6_goOn_56 rfl ?_
        refine xi_drop (L2 := [(0, .ref a_t), (1, .int x1), (2, .int x2), (4, .int x4), (5, .int x5)]) [0, 1, 2, 4, 5] rfl ?_
        exact B57_3 hj3 c1 0 t_after_e_pieces h
      · replace h := (if_pos c53).symm.trans h
        refine xi_drop (L2 := [(0, .ref a_t), (1, .int x1), (2, .int x2), (4, .int x4), (5, .int x5)]) [0, 1, 2, 4, 5] rfl ?_
        exact B52_3 hj3 c1 t_after_e_pieces h
  · replace h := nmE hj3.symm h
    refine xi_aald C 1 5 (b := (a_t_after_e 4)) rfl rfl c1 (by rw [hj3]; rfl) dX6_goOn_7 ?_
    refine xi_get C zkX3 0 10 zlX6_102 (by decide) rfl rfl dX6_goOn_8 ?_
    refine xi_iload_n C 2 dX6_goOn_11 rfl ?_
    replace h := ig h
    obtain ⟨c54, h⟩ := h
    refine xi_iald C 11 rfl c54 dX6_goOn_12 ?_
    refine xi_aload_n C 0 dX6_goOn_13 rfl ?_
    refine xi_get C zkX6 0 0 zlX6_11 (by decide) rfl rfl dX6_goOn_14 ?_
    refine xi_iload_n C 1 dX6_goOn_17 rfl ?_
    refine xi_iconst C (v := 1) dX6_goOn_18 rfl ?_
    refine xi_iadd C dX6_goOn_19 ?_
    refine xi_aald C 1 5 (b := (a_t_after_e 4)) rfl rfl c1 (by rw [hj3]; rfl) dX6_goOn_20 ?_
    refine xi_get C zkX3 0 10 zlX6_102 (by decide) rfl rfl dX6_goOn_21 ?_
    refine xi_iload_n C 3 dX6_goOn_24 rfl ?_
    replace h := ig h
    obtain ⟨c55, h⟩ := h
    refine xi_iald C 11 rfl c55 dX6_goOn_25 ?_
    refine xi_iand C dX6_goOn_26 ?_
    refine xi_topi (fun w56 ew56 => ?_)
    replace h := nmE ew56 h
    refine xi_istore C [1, 2, 3, 4, 5, 6, 0] (L2 := [(0, .ref a_t), (1, .int x1), (2, .int x2), (3, .int x3), (4, .int x4), (5, .int x5), (6, .int w56)]) dX6_goOn_27 (Nat.le_of_ble_eq_true rfl) rfl ?_
    refine xi_iload_n C 1 dX6_goOn_29 rfl ?_
    refine xi_iconst C (v := 1) dX6_goOn_30 rfl ?_
    refine xi_iadd C dX6_goOn_31 ?_
    refine xi_aload_n C 0 dX6_goOn_32 rfl ?_
    refine xi_get C zkX6 4 0 zlX6_29 (by decide) rfl rfl dX6_goOn_33 ?_
    refine xi_icmp_lt C (tgt := 52) dX6_goOn_36 rfl (fun c57 => ?_) (fun c57 => ?_)
    · replace h := (if_pos c57).symm.trans h
      refine xi_drop (L2 := [(0, .ref a_t), (1, .int x1), (2, .int x2), (4, .int x4), (5, .int x5)]) [0, 1, 2, 4, 5] rfl ?_
      exact B52_4 hj3 c1 t_after_e_pieces h
    · replace h := (if_neg c57).symm.trans h
      refine xi_iload C 6 dX6_goOn_39 rfl ?_
      refine xi_iconst C (v := 1) dX6_goOn_41 rfl ?_
      refine xi_aload_n C 0 dX6_goOn_42 rfl ?_
      refine xi_get C zkX6 3 0 zlX6_25 (by decide) rfl rfl dX6_goOn_43 ?_
      refine xi_ishl C dX6_goOn_46 ?_
      refine xi_iconst C (v := 1) dX6_goOn_47 rfl ?_
      refine xi_isub C dX6_goOn_48 ?_
      refine xi_icmp_ne C (tgt := 56) dX6_goOn_49 rfl (fun c63 => ?_) (fun c63 => ?_)
      · replace h := (if_neg c63).symm.trans h
        refine xi_iconst C (v := 0) dX6_goOn_56 rfl ?_
        refine xi_drop (L2 := [(0, .ref a_t), (1, .int x1), (2, .int x2), (4, .int x4), (5, .int x5)]) [0, 1, 2, 4, 5] rfl ?_
        exact B57_4 hj3 c1 0 t_after_e_pieces h
      · replace h := (if_pos c63).symm.trans h
        refine xi_drop (L2 := [(0, .ref a_t), (1, .int x1), (2, .int x2), (4, .int x4), (5, .int x5)]) [0, 1, 2, 4, 5] rfl ?_
        exact B52_4 hj3 c1 t_after_e_pieces h
def fX6_tryPair_b129_k (RP : Int32 → Int32 → (Nat → Int32) → (Nat → Nat → Int32) → (Nat → Nat → Int32) → (Nat → Nat → Int32) → Int32 → Int32 → Int32 → Int32 → Option (Int32 × (Nat → Nat → Int32))) (t_people : Int32) (t_limit : Int32) (t_after_e_people : Nat → Int32) (t_hears_e : Nat → Nat → Int32) (t_talks_e : Nat → Nat → Int32) (x1 : Int32) (x2 : Int32) (x3 : Int32) (x5 : Int32) (Jm : Nat) (y6 : Int32) (y7 : Int32) (y9 : Int32) (t_after_e_pieces : Nat → Nat → Int32) : Option (Int32 × (Nat → Nat → Int32)) := gd x2 10 (gd x3 10 (if (fX10_isIn ((t_hears_e Jm) x2.toNatClampNeg) x3) = 0 then some (0, va_up t_after_e_pieces (Jm + 1) (upd (upd (t_after_e_pieces (Jm + 1)) x2.toNatClampNeg (y6 ||| y7)) x3.toNatClampNeg y7)) else (fX6_goOn RP t_people t_limit t_after_e_people (va_up t_after_e_pieces (Jm + 1) (upd (upd (t_after_e_pieces (Jm + 1)) x2.toNatClampNeg (y6 ||| y7)) x3.toNatClampNeg y7)) t_hears_e t_talks_e x1 x2 x3 y9 x5).bind (fun u23 => if u23.1 = 0 then some (0, u23.2) else some (1, u23.2))))
def fX6_tryPair (RP : Int32 → Int32 → (Nat → Int32) → (Nat → Nat → Int32) → (Nat → Nat → Int32) → (Nat → Nat → Int32) → Int32 → Int32 → Int32 → Int32 → Option (Int32 × (Nat → Nat → Int32))) (t_people : Int32) (t_limit : Int32) (t_after_e_people : Nat → Int32) (t_after_e_pieces : Nat → Nat → Int32) (t_hears_e : Nat → Nat → Int32) (t_talks_e : Nat → Nat → Int32) (x1 : Int32) (x2 : Int32) (x3 : Int32) (x4 : Int32) (x5 : Int32) : Option (Int32 × (Nat → Nat → Int32)) := gd x1 5 (nm x1.toNatClampNeg (fun J2 => gd x2 10 (gd x3 10 (gd (x1 + 1) 5 (gd x1 4 (if (fX10_isIn ((t_talks_e J2) x2.toNatClampNeg) x3) = 0 then if (fX10_isIn ((t_hears_e J2) x3.toNatClampNeg) x2) = 0 then fX6_tryPair_b129_k RP t_people t_limit t_after_e_people t_hears_e t_talks_e x1 x2 x3 x5 J2 ((t_after_e_pieces J2) x2.toNatClampNeg) ((t_after_e_pieces J2) x3.toNatClampNeg) (x4 ||| (1 <<< (x3 &&& 31))) (va_up t_after_e_pieces (J2 + 1) (upd (upd (upd (t_after_e_pieces (J2 + 1)) x2.toNatClampNeg (((t_after_e_pieces J2) x2.toNatClampNeg) ||| ((t_after_e_pieces J2) x3.toNatClampNeg))) x3.toNatClampNeg (((t_after_e_pieces J2) x2.toNatClampNeg) ||| ((t_after_e_pieces J2) x3.toNatClampNeg))) x2.toNatClampNeg ((t_after_e_pieces J2) x2.toNatClampNeg))) else (fX6_goOn RP t_people t_limit t_after_e_people (va_up t_after_e_pieces (J2 + 1) (upd (upd (upd (t_after_e_pieces (J2 + 1)) x2.toNatClampNeg (((t_after_e_pieces J2) x2.toNatClampNeg) ||| ((t_after_e_pieces J2) x3.toNatClampNeg))) x3.toNatClampNeg (((t_after_e_pieces J2) x2.toNatClampNeg) ||| ((t_after_e_pieces J2) x3.toNatClampNeg))) x2.toNatClampNeg ((t_after_e_pieces J2) x2.toNatClampNeg))) t_hears_e t_talks_e x1 x2 x3 (x4 ||| (1 <<< (x3 &&& 31))) x5).bind (fun u27 => if u27.1 = 0 then fX6_tryPair_b129_k RP t_people t_limit t_after_e_people t_hears_e t_talks_e x1 x2 x3 x5 J2 ((t_after_e_pieces J2) x2.toNatClampNeg) ((t_after_e_pieces J2) x3.toNatClampNeg) (x4 ||| (1 <<< (x3 &&& 31))) u27.2 else some (1, u27.2)) else (fX6_goOn RP t_people t_limit t_after_e_people (va_up t_after_e_pieces (J2 + 1) (upd (upd (t_after_e_pieces (J2 + 1)) x2.toNatClampNeg (((t_after_e_pieces J2) x2.toNatClampNeg) ||| ((t_after_e_pieces J2) x3.toNatClampNeg))) x3.toNatClampNeg (((t_after_e_pieces J2) x2.toNatClampNeg) ||| ((t_after_e_pieces J2) x3.toNatClampNeg)))) t_hears_e t_talks_e x1 x2 x3 (x4 ||| (1 <<< (x3 &&& 31))) x5).bind (fun u31 => some (u31.1, u31.2))))))))
set_option maxRecDepth 100000 in
set_option maxHeartbeats 4000000 in
theorem kX6_tryPair (l : Launch) (D : va_G) (cT : Nat → ClassId) (RP : Int32 → Int32 → (Nat → Int32) → (Nat → Nat → Int32) → (Nat → Nat → Int32) → (Nat → Nat → Int32) → Int32 → Int32 → Int32 → Int32 → Option (Int32 × (Nat → Nat → Int32))) (b : Nat) (hb : 12 ≤ b) (a_t : Nat) (a_t_after : Nat) (a_t_hears : Nat) (a_t_talks : Nat) (a_t_after_e : Nat → Nat) (a_t_after_e_pieces : Nat → Nat) (a_t_hears_e : Nat → Nat) (a_t_talks_e : Nat → Nat) (t_people : Int32) (t_limit : Int32) (t_after_e_people : Nat → Int32) (t_after_e_pieces : Nat → Nat → Int32) (t_hears_e : Nat → Nat → Int32) (t_talks_e : Nat → Nat → Int32) (x1 : Int32) (x2 : Int32) (x3 : Int32) (x4 : Int32) (x5 : Int32) (hRP : ∀ (t_people : Int32) (t_limit : Int32) (t_after_e_people : Nat → Int32) (t_after_e_pieces : Nat → Nat → Int32) (t_hears_e : Nat → Nat → Int32) (t_talks_e : Nat → Nat → Int32) (x1 : Int32) (x2 : Int32) (x3 : Int32) (x4 : Int32) (r : Int32 × (Nat → Nat → Int32)), RP t_people t_limit t_after_e_people t_after_e_pieces t_hears_e t_talks_e x1 x2 x3 x4 = some r → sM l yX6_pairUp cX6_pairUp 7 (some .boolean) (zR b) D cT [.ref a_t, .int x1, .int x2, .int x3, .int x4] [(a_t, .inr (6, [.ref a_t_after, .ref a_t_hears, .ref a_t_talks, .int t_people, .int t_limit])), (a_t_after, .inl (cT 5, 5, .inr (.inr (.inr (.inr (fun i => if i < 5 then some (a_t_after_e i) else none)))))), ((a_t_after_e 0), .inr (3, [.ref (a_t_after_e_pieces 0), .int (t_after_e_people 0)])), ((a_t_after_e_pieces 0), .inl (cT 0, 10, .inl (t_after_e_pieces 0))), ((a_t_after_e 1), .inr (3, [.ref (a_t_after_e_pieces 1), .int (t_after_e_people 1)])), ((a_t_after_e_pieces 1), .inl (cT 0, 10, .inl (t_after_e_pieces 1))), ((a_t_after_e 2), .inr (3, [.ref (a_t_after_e_pieces 2), .int (t_after_e_people 2)])), ((a_t_after_e_pieces 2), .inl (cT 0, 10, .inl (t_after_e_pieces 2))), ((a_t_after_e 3), .inr (3, [.ref (a_t_after_e_pieces 3), .int (t_after_e_people 3)])), ((a_t_after_e_pieces 3), .inl (cT 0, 10, .inl (t_after_e_pieces 3))), ((a_t_after_e 4), .inr (3, [.ref (a_t_after_e_pieces 4), .int (t_after_e_people 4)])), ((a_t_after_e_pieces 4), .inl (cT 0, 10, .inl (t_after_e_pieces 4))), (a_t_hears, .inl (cT 6, 4, .inr (.inr (.inr (.inr (fun i => if i < 4 then some (a_t_hears_e i) else none)))))), ((a_t_hears_e 0), .inl (cT 0, 10, .inl (t_hears_e 0))), ((a_t_hears_e 1), .inl (cT 0, 10, .inl (t_hears_e 1))), ((a_t_hears_e 2), .inl (cT 0, 10, .inl (t_hears_e 2))), ((a_t_hears_e 3), .inl (cT 0, 10, .inl (t_hears_e 3))), (a_t_talks, .inl (cT 6, 4, .inr (.inr (.inr (.inr (fun i => if i < 4 then some (a_t_talks_e i) else none)))))), ((a_t_talks_e 0), .inl (cT 0, 10, .inl (t_talks_e 0))), ((a_t_talks_e 1), .inl (cT 0, 10, .inl (t_talks_e 1))), ((a_t_talks_e 2), .inl (cT 0, 10, .inl (t_talks_e 2))), ((a_t_talks_e 3), .inl (cT 0, 10, .inl (t_talks_e 3)))] (some (.int r.1)) [(a_t, .inr (6, [.ref a_t_after, .ref a_t_hears, .ref a_t_talks, .int t_people, .int t_limit])), (a_t_after, .inl (cT 5, 5, .inr (.inr (.inr (.inr (fun i => if i < 5 then some (a_t_after_e i) else none)))))), ((a_t_after_e 0), .inr (3, [.ref (a_t_after_e_pieces 0), .int (t_after_e_people 0)])), ((a_t_after_e_pieces 0), .inl (cT 0, 10, .inl (r.2 0))), ((a_t_after_e 1), .inr (3, [.ref (a_t_after_e_pieces 1), .int (t_after_e_people 1)])), ((a_t_after_e_pieces 1), .inl (cT 0, 10, .inl (r.2 1))), ((a_t_after_e 2), .inr (3, [.ref (a_t_after_e_pieces 2), .int (t_after_e_people 2)])), ((a_t_after_e_pieces 2), .inl (cT 0, 10, .inl (r.2 2))), ((a_t_after_e 3), .inr (3, [.ref (a_t_after_e_pieces 3), .int (t_after_e_people 3)])), ((a_t_after_e_pieces 3), .inl (cT 0, 10, .inl (r.2 3))), ((a_t_after_e 4), .inr (3, [.ref (a_t_after_e_pieces 4), .int (t_after_e_people 4)])), ((a_t_after_e_pieces 4), .inl (cT 0, 10, .inl (r.2 4))), (a_t_hears, .inl (cT 6, 4, .inr (.inr (.inr (.inr (fun i => if i < 4 then some (a_t_hears_e i) else none)))))), ((a_t_hears_e 0), .inl (cT 0, 10, .inl (t_hears_e 0))), ((a_t_hears_e 1), .inl (cT 0, 10, .inl (t_hears_e 1))), ((a_t_hears_e 2), .inl (cT 0, 10, .inl (t_hears_e 2))), ((a_t_hears_e 3), .inl (cT 0, 10, .inl (t_hears_e 3))), (a_t_talks, .inl (cT 6, 4, .inr (.inr (.inr (.inr (fun i => if i < 4 then some (a_t_talks_e i) else none)))))), ((a_t_talks_e 0), .inl (cT 0, 10, .inl (t_talks_e 0))), ((a_t_talks_e 1), .inl (cT 0, 10, .inl (t_talks_e 1))), ((a_t_talks_e 2), .inl (cT 0, 10, .inl (t_talks_e 2))), ((a_t_talks_e 3), .inl (cT 0, 10, .inl (t_talks_e 3)))]) (r : Int32 × (Nat → Nat → Int32)) (h : fX6_tryPair RP t_people t_limit t_after_e_people t_after_e_pieces t_hears_e t_talks_e x1 x2 x3 x4 x5 = some r) : sM l yX6_tryPair cX6_tryPair 10 (some .boolean) (zR (b + 2)) D cT [.ref a_t, .int x1, .int x2, .int x3, .int x4, .int x5] [(a_t, .inr (6, [.ref a_t_after, .ref a_t_hears, .ref a_t_talks, .int t_people, .int t_limit])), (a_t_after, .inl (cT 5, 5, .inr (.inr (.inr (.inr (fun i => if i < 5 then some (a_t_after_e i) else none)))))), ((a_t_after_e 0), .inr (3, [.ref (a_t_after_e_pieces 0), .int (t_after_e_people 0)])), ((a_t_after_e_pieces 0), .inl (cT 0, 10, .inl (t_after_e_pieces 0))), ((a_t_after_e 1), .inr (3, [.ref (a_t_after_e_pieces 1), .int (t_after_e_people 1)])), ((a_t_after_e_pieces 1), .inl (cT 0, 10, .inl (t_after_e_pieces 1))), ((a_t_after_e 2), .inr (3, [.ref (a_t_after_e_pieces 2), .int (t_after_e_people 2)])), ((a_t_after_e_pieces 2), .inl (cT 0, 10, .inl (t_after_e_pieces 2))), ((a_t_after_e 3), .inr (3, [.ref (a_t_after_e_pieces 3), .int (t_after_e_people 3)])), ((a_t_after_e_pieces 3), .inl (cT 0, 10, .inl (t_after_e_pieces 3))), ((a_t_after_e 4), .inr (3, [.ref (a_t_after_e_pieces 4), .int (t_after_e_people 4)])), ((a_t_after_e_pieces 4), .inl (cT 0, 10, .inl (t_after_e_pieces 4))), (a_t_hears, .inl (cT 6, 4, .inr (.inr (.inr (.inr (fun i => if i < 4 then some (a_t_hears_e i) else none)))))), ((a_t_hears_e 0), .inl (cT 0, 10, .inl (t_hears_e 0))), ((a_t_hears_e 1), .inl (cT 0, 10, .inl (t_hears_e 1))), ((a_t_hears_e 2), .inl (cT 0, 10, .inl (t_hears_e 2))), ((a_t_hears_e 3), .inl (cT 0, 10, .inl (t_hears_e 3))), (a_t_talks, .inl (cT 6, 4, .inr (.inr (.inr (.inr (fun i => if i < 4 then some (a_t_talks_e i) else none)))))), ((a_t_talks_e 0), .inl (cT 0, 10, .inl (t_talks_e 0))), ((a_t_talks_e 1), .inl (cT 0, 10, .inl (t_talks_e 1))), ((a_t_talks_e 2), .inl (cT 0, 10, .inl (t_talks_e 2))), ((a_t_talks_e 3), .inl (cT 0, 10, .inl (t_talks_e 3)))] (some (.int r.1)) [(a_t, .inr (6, [.ref a_t_after, .ref a_t_hears, .ref a_t_talks, .int t_people, .int t_limit])), (a_t_after, .inl (cT 5, 5, .inr (.inr (.inr (.inr (fun i => if i < 5 then some (a_t_after_e i) else none)))))), ((a_t_after_e 0), .inr (3, [.ref (a_t_after_e_pieces 0), .int (t_after_e_people 0)])), ((a_t_after_e_pieces 0), .inl (cT 0, 10, .inl (r.2 0))), ((a_t_after_e 1), .inr (3, [.ref (a_t_after_e_pieces 1), .int (t_after_e_people 1)])), ((a_t_after_e_pieces 1), .inl (cT 0, 10, .inl (r.2 1))), ((a_t_after_e 2), .inr (3, [.ref (a_t_after_e_pieces 2), .int (t_after_e_people 2)])), ((a_t_after_e_pieces 2), .inl (cT 0, 10, .inl (r.2 2))), ((a_t_after_e 3), .inr (3, [.ref (a_t_after_e_pieces 3), .int (t_after_e_people 3)])), ((a_t_after_e_pieces 3), .inl (cT 0, 10, .inl (r.2 3))), ((a_t_after_e 4), .inr (3, [.ref (a_t_after_e_pieces 4), .int (t_after_e_people 4)])), ((a_t_after_e_pieces 4), .inl (cT 0, 10, .inl (r.2 4))), (a_t_hears, .inl (cT 6, 4, .inr (.inr (.inr (.inr (fun i => if i < 4 then some (a_t_hears_e i) else none)))))), ((a_t_hears_e 0), .inl (cT 0, 10, .inl (t_hears_e 0))), ((a_t_hears_e 1), .inl (cT 0, 10, .inl (t_hears_e 1))), ((a_t_hears_e 2), .inl (cT 0, 10, .inl (t_hears_e 2))), ((a_t_hears_e 3), .inl (cT 0, 10, .inl (t_hears_e 3))), (a_t_talks, .inl (cT 6, 4, .inr (.inr (.inr (.inr (fun i => if i < 4 then some (a_t_talks_e i) else none)))))), ((a_t_talks_e 0), .inl (cT 0, 10, .inl (t_talks_e 0))), ((a_t_talks_e 1), .inl (cT 0, 10, .inl (t_talks_e 1))), ((a_t_talks_e 2), .inl (cT 0, 10, .inl (t_talks_e 2))), ((a_t_talks_e 3), .inl (cT 0, 10, .inl (t_talks_e 3)))] := by
  refine sM_bool rfl (Nat.le_of_ble_eq_true rfl) ?_
  intro X C hE
  have B129_0 : ∀ (hkn0 : x1.toNatClampNeg = 0) (hkn1 : (x1 + 1).toNatClampNeg = 1) (hfa0 : vp_in x1 4) (hfa1 : vp_in x1 5) (hfa2 : vp_in (x1 + 1) 5) (y6 : Int32) (y7 : Int32) (y9 : Int32) (t_after_e_pieces : Nat → Nat → Int32), fX6_tryPair_b129_k RP t_people t_limit t_after_e_people t_hears_e t_talks_e x1 x2 x3 x5 0 y6 y7 y9 t_after_e_pieces = some r → sW X l (zR (b + 2)) D 10 0 0 129 [(0, .ref a_t), (1, .int x1), (2, .int x2), (3, .int x3), (5, .int x5), (6, .int y6), (7, .int y7), (8, .ref (a_t_after_e_pieces 1)), (9, .int y9)] [] [(a_t, .inr (6, [.ref a_t_after, .ref a_t_hears, .ref a_t_talks, .int t_people, .int t_limit])), (a_t_after, .inl (cT 5, 5, .inr (.inr (.inr (.inr (fun i => if i < 5 then some (a_t_after_e i) else none)))))), ((a_t_after_e 0), .inr (3, [.ref (a_t_after_e_pieces 0), .int (t_after_e_people 0)])), ((a_t_after_e_pieces 0), .inl (cT 0, 10, .inl (t_after_e_pieces 0))), ((a_t_after_e 1), .inr (3, [.ref (a_t_after_e_pieces 1), .int (t_after_e_people 1)])), ((a_t_after_e_pieces 1), .inl (cT 0, 10, .inl (t_after_e_pieces 1))), ((a_t_after_e 2), .inr (3, [.ref (a_t_after_e_pieces 2), .int (t_after_e_people 2)])), ((a_t_after_e_pieces 2), .inl (cT 0, 10, .inl (t_after_e_pieces 2))), ((a_t_after_e 3), .inr (3, [.ref (a_t_after_e_pieces 3), .int (t_after_e_people 3)])), ((a_t_after_e_pieces 3), .inl (cT 0, 10, .inl (t_after_e_pieces 3))), ((a_t_after_e 4), .inr (3, [.ref (a_t_after_e_pieces 4), .int (t_after_e_people 4)])), ((a_t_after_e_pieces 4), .inl (cT 0, 10, .inl (t_after_e_pieces 4))), (a_t_hears, .inl (cT 6, 4, .inr (.inr (.inr (.inr (fun i => if i < 4 then some (a_t_hears_e i) else none)))))), ((a_t_hears_e 0), .inl (cT 0, 10, .inl (t_hears_e 0))), ((a_t_hears_e 1), .inl (cT 0, 10, .inl (t_hears_e 1))), ((a_t_hears_e 2), .inl (cT 0, 10, .inl (t_hears_e 2))), ((a_t_hears_e 3), .inl (cT 0, 10, .inl (t_hears_e 3))), (a_t_talks, .inl (cT 6, 4, .inr (.inr (.inr (.inr (fun i => if i < 4 then some (a_t_talks_e i) else none)))))), ((a_t_talks_e 0), .inl (cT 0, 10, .inl (t_talks_e 0))), ((a_t_talks_e 1), .inl (cT 0, 10, .inl (t_talks_e 1))), ((a_t_talks_e 2), .inl (cT 0, 10, .inl (t_talks_e 2))), ((a_t_talks_e 3), .inl (cT 0, 10, .inl (t_talks_e 3)))] := by
    intro hkn0 hkn1 hfa0 hfa1 hfa2 y6 y7 y9 t_after_e_pieces h
    refine xi_aload C 7 dX6_tryPair_129 rfl ?_
    refine xi_iload_n C 2 dX6_tryPair_131 rfl ?_
    refine xi_iload C 5 dX6_tryPair_132 rfl ?_
    refine xi_iload C 6 dX6_tryPair_134 rfl ?_
    refine xi_ior C dX6_tryPair_136 ?_
    replace h := ig h
    obtain ⟨c47, h⟩ := h
    refine xi_iast C 5 rfl c47 dX6_tryPair_137 (ws2 := [(a_t, .inr (6, [.ref a_t_after, .ref a_t_hears, .ref a_t_talks, .int t_people, .int t_limit])), (a_t_after, .inl (cT 5, 5, .inr (.inr (.inr (.inr (fun i => if i < 5 then some (a_t_after_e i) else none)))))), ((a_t_after_e 0), .inr (3, [.ref (a_t_after_e_pieces 0), .int (t_after_e_people 0)])), ((a_t_after_e_pieces 0), .inl (cT 0, 10, .inl (t_after_e_pieces 0))), ((a_t_after_e 1), .inr (3, [.ref (a_t_after_e_pieces 1), .int (t_after_e_people 1)])), ((a_t_after_e_pieces 1), .inl (cT 0, 10, .inl (upd (t_after_e_pieces 1) x2.toNatClampNeg (y6 ||| y7)))), ((a_t_after_e 2), .inr (3, [.ref (a_t_after_e_pieces 2), .int (t_after_e_people 2)])), ((a_t_after_e_pieces 2), .inl (cT 0, 10, .inl (t_after_e_pieces 2))), ((a_t_after_e 3), .inr (3, [.ref (a_t_after_e_pieces 3), .int (t_after_e_people 3)])), ((a_t_after_e_pieces 3), .inl (cT 0, 10, .inl (t_after_e_pieces 3))), ((a_t_after_e 4), .inr (3, [.ref (a_t_after_e_pieces 4), .int (t_after_e_people 4)])), ((a_t_after_e_pieces 4), .inl (cT 0, 10, .inl (t_after_e_pieces 4))), (a_t_hears, .inl (cT 6, 4, .inr (.inr (.inr (.inr (fun i => if i < 4 then some (a_t_hears_e i) else none)))))), ((a_t_hears_e 0), .inl (cT 0, 10, .inl (t_hears_e 0))), ((a_t_hears_e 1), .inl (cT 0, 10, .inl (t_hears_e 1))), ((a_t_hears_e 2), .inl (cT 0, 10, .inl (t_hears_e 2))), ((a_t_hears_e 3), .inl (cT 0, 10, .inl (t_hears_e 3))), (a_t_talks, .inl (cT 6, 4, .inr (.inr (.inr (.inr (fun i => if i < 4 then some (a_t_talks_e i) else none)))))), ((a_t_talks_e 0), .inl (cT 0, 10, .inl (t_talks_e 0))), ((a_t_talks_e 1), .inl (cT 0, 10, .inl (t_talks_e 1))), ((a_t_talks_e 2), .inl (cT 0, 10, .inl (t_talks_e 2))), ((a_t_talks_e 3), .inl (cT 0, 10, .inl (t_talks_e 3)))]) rfl ?_
    refine xi_aload C 7 dX6_tryPair_138 rfl ?_
    refine xi_iload_n C 3 dX6_tryPair_140 rfl ?_
    refine xi_iload C 6 dX6_tryPair_141 rfl ?_
    replace h := ig h
    obtain ⟨c48, h⟩ := h
    refine xi_iast C 5 rfl c48 dX6_tryPair_143 (ws2 := [(a_t, .inr (6, [.ref a_t_after, .ref a_t_hears, .ref a_t_talks, .int t_people, .int t_limit])), (a_t_after, .inl (cT 5, 5, .inr (.inr (.inr (.inr (fun i => if i < 5 then some (a_t_after_e i) else none)))))), ((a_t_after_e 0), .inr (3, [.ref (a_t_after_e_pieces 0), .int (t_after_e_people 0)])), ((a_t_after_e_pieces 0), .inl (cT 0, 10, .inl (t_after_e_pieces 0))), ((a_t_after_e 1), .inr (3, [.ref (a_t_after_e_pieces 1), .int (t_after_e_people 1)])), ((a_t_after_e_pieces 1), .inl (cT 0, 10, .inl (upd (upd (t_after_e_pieces 1) x2.toNatClampNeg (y6 ||| y7)) x3.toNatClampNeg y7))), ((a_t_after_e 2), .inr (3, [.ref (a_t_after_e_pieces 2), .int (t_after_e_people 2)])), ((a_t_after_e_pieces 2), .inl (cT 0, 10, .inl (t_after_e_pieces 2))), ((a_t_after_e 3), .inr (3, [.ref (a_t_after_e_pieces 3), .int (t_after_e_people 3)])), ((a_t_after_e_pieces 3), .inl (cT 0, 10, .inl (t_after_e_pieces 3))), ((a_t_after_e 4), .inr (3, [.ref (a_t_after_e_pieces 4), .int (t_after_e_people 4)])), ((a_t_after_e_pieces 4), .inl (cT 0, 10, .inl (t_after_e_pieces 4))), (a_t_hears, .inl (cT 6, 4, .inr (.inr (.inr (.inr (fun i => if i < 4 then some (a_t_hears_e i) else none)))))), ((a_t_hears_e 0), .inl (cT 0, 10, .inl (t_hears_e 0))), ((a_t_hears_e 1), .inl (cT 0, 10, .inl (t_hears_e 1))), ((a_t_hears_e 2), .inl (cT 0, 10, .inl (t_hears_e 2))), ((a_t_hears_e 3), .inl (cT 0, 10, .inl (t_hears_e 3))), (a_t_talks, .inl (cT 6, 4, .inr (.inr (.inr (.inr (fun i => if i < 4 then some (a_t_talks_e i) else none)))))), ((a_t_talks_e 0), .inl (cT 0, 10, .inl (t_talks_e 0))), ((a_t_talks_e 1), .inl (cT 0, 10, .inl (t_talks_e 1))), ((a_t_talks_e 2), .inl (cT 0, 10, .inl (t_talks_e 2))), ((a_t_talks_e 3), .inl (cT 0, 10, .inl (t_talks_e 3)))]) rfl ?_
    refine xi_aload_n C 0 dX6_tryPair_144 rfl ?_
    refine xi_get C zkX6 1 0 zlX6_19 (by decide) rfl rfl dX6_tryPair_145 ?_
    refine xi_iload_n C 1 dX6_tryPair_148 rfl ?_
    refine xi_aaldA C 12 (b := (a_t_hears_e 0)) rfl hfa0 (by rw [hkn0]; rfl) dX6_tryPair_149 ?_
    refine xi_iload_n C 2 dX6_tryPair_150 rfl ?_
    refine xi_iald C 13 rfl c47 dX6_tryPair_151 ?_
    refine xi_iload_n C 3 dX6_tryPair_152 rfl ?_
    refine xi_callSr C (kX10_isIn l D cT ((t_hears_e 0) x2.toNatClampNeg) x3 (fX10_isIn ((t_hears_e 0) x2.toNatClampNeg) x3) rfl) zcX10_isIn zmX6_80 zsX10_isIn (zrb hb rfl rfl rfl) z00 rfl [] rfl rfl rfl (Nat.le_of_ble_eq_true rfl) dX6_tryPair_153 (fun z51 => ?_)
    refine xi_if_eq C (tgt := 177) dX6_tryPair_156 rfl (fun c52 => ?_) (fun c52 => ?_)
    · replace h := (if_pos c52).symm.trans h
      refine xi_iconst C (v := 0) dX6_tryPair_177 rfl ?_
      obtain rfl := Option.some.inj h
      exact hE _ _ _ dX6_tryPair_178 rfl rfl
    · replace h := (if_neg c52).symm.trans h
      refine xi_aload_n C 0 dX6_tryPair_159 rfl ?_
      refine xi_iload_n C 1 dX6_tryPair_160 rfl ?_
      refine xi_iload_n C 2 dX6_tryPair_161 rfl ?_
      refine xi_iload_n C 3 dX6_tryPair_162 rfl ?_
      refine xi_iload C 8 dX6_tryPair_163 rfl ?_
      refine xi_iload C 4 dX6_tryPair_165 rfl ?_
      replace h := ob h
      obtain ⟨u53, hu54, h⟩ := h
      refine xi_callV C (kX6_goOn l D cT RP b hb a_t a_t_after a_t_hears a_t_talks a_t_after_e a_t_after_e_pieces a_t_hears_e a_t_talks_e t_people t_limit t_after_e_people (va_up t_after_e_pieces 1 (upd (upd (t_after_e_pieces 1) x2.toNatClampNeg (y6 ||| y7)) x3.toNatClampNeg y7)) t_hears_e t_talks_e x1 x2 x3 y9 x5 hRP u53 hu54) zcX6_goOn zmX6_112 ziX6_goOn (zrd (b := b) (c := 1) (d := 2) rfl rfl) z00 rfl [0, 1, 2, 3, 4, 5, 6, 7, 8, 9, 10, 11, 12, 13, 14, 15, 16, 17, 18, 19, 20, 21] rfl rfl rfl [some 0, some 1, some 2, some 3, some 4, some 5, some 6, some 7, some 8, some 9, some 10, some 11, some 12, some 13, some 14, some 15, some 16, some 17, some 18, some 19, some 20, some 21] (by decide +kernel) (ws2 := [(a_t, .inr (6, [.ref a_t_after, .ref a_t_hears, .ref a_t_talks, .int t_people, .int t_limit])), (a_t_after, .inl (cT 5, 5, .inr (.inr (.inr (.inr (fun i => if i < 5 then some (a_t_after_e i) else none)))))), ((a_t_after_e 0), .inr (3, [.ref (a_t_after_e_pieces 0), .int (t_after_e_people 0)])), ((a_t_after_e_pieces 0), .inl (cT 0, 10, .inl (u53.2 0))), ((a_t_after_e 1), .inr (3, [.ref (a_t_after_e_pieces 1), .int (t_after_e_people 1)])), ((a_t_after_e_pieces 1), .inl (cT 0, 10, .inl (u53.2 1))), ((a_t_after_e 2), .inr (3, [.ref (a_t_after_e_pieces 2), .int (t_after_e_people 2)])), ((a_t_after_e_pieces 2), .inl (cT 0, 10, .inl (u53.2 2))), ((a_t_after_e 3), .inr (3, [.ref (a_t_after_e_pieces 3), .int (t_after_e_people 3)])), ((a_t_after_e_pieces 3), .inl (cT 0, 10, .inl (u53.2 3))), ((a_t_after_e 4), .inr (3, [.ref (a_t_after_e_pieces 4), .int (t_after_e_people 4)])), ((a_t_after_e_pieces 4), .inl (cT 0, 10, .inl (u53.2 4))), (a_t_hears, .inl (cT 6, 4, .inr (.inr (.inr (.inr (fun i => if i < 4 then some (a_t_hears_e i) else none)))))), ((a_t_hears_e 0), .inl (cT 0, 10, .inl (t_hears_e 0))), ((a_t_hears_e 1), .inl (cT 0, 10, .inl (t_hears_e 1))), ((a_t_hears_e 2), .inl (cT 0, 10, .inl (t_hears_e 2))), ((a_t_hears_e 3), .inl (cT 0, 10, .inl (t_hears_e 3))), (a_t_talks, .inl (cT 6, 4, .inr (.inr (.inr (.inr (fun i => if i < 4 then some (a_t_talks_e i) else none)))))), ((a_t_talks_e 0), .inl (cT 0, 10, .inl (t_talks_e 0))), ((a_t_talks_e 1), .inl (cT 0, 10, .inl (t_talks_e 1))), ((a_t_talks_e 2), .inl (cT 0, 10, .inl (t_talks_e 2))), ((a_t_talks_e 3), .inl (cT 0, 10, .inl (t_talks_e 3)))]) rfl zkX6.1 (qr := 0) rfl rfl (Nat.le_of_ble_eq_true rfl) dX6_tryPair_167 (fun z55 => ?_)
      refine xi_if_eq C (tgt := 177) dX6_tryPair_170 rfl (fun c56 => ?_) (fun c56 => ?_)
      · replace h := (if_pos c56).symm.trans h
        refine xi_iconst C (v := 0) dX6_tryPair_177 rfl ?_
        obtain rfl := Option.some.inj h
        exact hE _ _ _ dX6_tryPair_178 rfl rfl
      · replace h := (if_neg c56).symm.trans h
        refine xi_iconst C (v := 1) dX6_tryPair_173 rfl ?_
        refine xi_goto C (tgt := 178) dX6_tryPair_174 rfl ?_
        obtain rfl := Option.some.inj h
        exact hE _ _ _ dX6_tryPair_178 rfl rfl
  have B129_1 : ∀ (hkn0 : x1.toNatClampNeg = 1) (hkn1 : (x1 + 1).toNatClampNeg = 2) (hfa0 : vp_in x1 4) (hfa1 : vp_in x1 5) (hfa2 : vp_in (x1 + 1) 5) (y6 : Int32) (y7 : Int32) (y9 : Int32) (t_after_e_pieces : Nat → Nat → Int32), fX6_tryPair_b129_k RP t_people t_limit t_after_e_people t_hears_e t_talks_e x1 x2 x3 x5 1 y6 y7 y9 t_after_e_pieces = some r → sW X l (zR (b + 2)) D 10 0 0 129 [(0, .ref a_t), (1, .int x1), (2, .int x2), (3, .int x3), (5, .int x5), (6, .int y6), (7, .int y7), (8, .ref (a_t_after_e_pieces 2)), (9, .int y9)] [] [(a_t, .inr (6, [.ref a_t_after, .ref a_t_hears, .ref a_t_talks, .int t_people, .int t_limit])), (a_t_after, .inl (cT 5, 5, .inr (.inr (.inr (.inr (fun i => if i < 5 then some (a_t_after_e i) else none)))))), ((a_t_after_e 0), .inr (3, [.ref (a_t_after_e_pieces 0), .int (t_after_e_people 0)])), ((a_t_after_e_pieces 0), .inl (cT 0, 10, .inl (t_after_e_pieces 0))), ((a_t_after_e 1), .inr (3, [.ref (a_t_after_e_pieces 1), .int (t_after_e_people 1)])), ((a_t_after_e_pieces 1), .inl (cT 0, 10, .inl (t_after_e_pieces 1))), ((a_t_after_e 2), .inr (3, [.ref (a_t_after_e_pieces 2), .int (t_after_e_people 2)])), ((a_t_after_e_pieces 2), .inl (cT 0, 10, .inl (t_after_e_pieces 2))), ((a_t_after_e 3), .inr (3, [.ref (a_t_after_e_pieces 3), .int (t_after_e_people 3)])), ((a_t_after_e_pieces 3), .inl (cT 0, 10, .inl (t_after_e_pieces 3))), ((a_t_after_e 4), .inr (3, [.ref (a_t_after_e_pieces 4), .int (t_after_e_people 4)])), ((a_t_after_e_pieces 4), .inl (cT 0, 10, .inl (t_after_e_pieces 4))), (a_t_hears, .inl (cT 6, 4, .inr (.inr (.inr (.inr (fun i => if i < 4 then some (a_t_hears_e i) else none)))))), ((a_t_hears_e 0), .inl (cT 0, 10, .inl (t_hears_e 0))), ((a_t_hears_e 1), .inl (cT 0, 10, .inl (t_hears_e 1))), ((a_t_hears_e 2), .inl (cT 0, 10, .inl (t_hears_e 2))), ((a_t_hears_e 3), .inl (cT 0, 10, .inl (t_hears_e 3))), (a_t_talks, .inl (cT 6, 4, .inr (.inr (.inr (.inr (fun i => if i < 4 then some (a_t_talks_e i) else none)))))), ((a_t_talks_e 0), .inl (cT 0, 10, .inl (t_talks_e 0))), ((a_t_talks_e 1), .inl (cT 0, 10, .inl (t_talks_e 1))), ((a_t_talks_e 2), .inl (cT 0, 10, .inl (t_talks_e 2))), ((a_t_talks_e 3), .inl (cT 0, 10, .inl (t_talks_e 3)))] := by
    intro hkn0 hkn1 hfa0 hfa1 hfa2 y6 y7 y9 t_after_e_pieces h
    refine xi_aload C 7 dX6_tryPair_129 rfl ?_
    refine xi_iload_n C 2 dX6_tryPair_131 rfl ?_
    refine xi_iload C 5 dX6_tryPair_132 rfl ?_
    refine xi_iload C 6 dX6_tryPair_134 rfl ?_
    refine xi_ior C dX6_tryPair_136 ?_
    replace h := ig h
    obtain ⟨c77, h⟩ := h
    refine xi_iast C 7 rfl c77 dX6_tryPair_137 (ws2 := [(a_t, .inr (6, [.ref a_t_after, .ref a_t_hears, .ref a_t_talks, .int t_people, .int t_limit])), (a_t_after, .inl (cT 5, 5, .inr (.inr (.inr (.inr (fun i => if i < 5 then some (a_t_after_e i) else none)))))), ((a_t_after_e 0), .inr (3, [.ref (a_t_after_e_pieces 0), .int (t_after_e_people 0)])), ((a_t_after_e_pieces 0), .inl (cT 0, 10, .inl (t_after_e_pieces 0))), ((a_t_after_e 1), .inr (3, [.ref (a_t_after_e_pieces 1), .int (t_after_e_people 1)])), ((a_t_after_e_pieces 1), .inl (cT 0, 10, .inl (t_after_e_pieces 1))), ((a_t_after_e 2), .inr (3, [.ref (a_t_after_e_pieces 2), .int (t_after_e_people 2)])), ((a_t_after_e_pieces 2), .inl (cT 0, 10, .inl (upd (t_after_e_pieces 2) x2.toNatClampNeg (y6 ||| y7)))), ((a_t_after_e 3), .inr (3, [.ref (a_t_after_e_pieces 3), .int (t_after_e_people 3)])), ((a_t_after_e_pieces 3), .inl (cT 0, 10, .inl (t_after_e_pieces 3))), ((a_t_after_e 4), .inr (3, [.ref (a_t_after_e_pieces 4), .int (t_after_e_people 4)])), ((a_t_after_e_pieces 4), .inl (cT 0, 10, .inl (t_after_e_pieces 4))), (a_t_hears, .inl (cT 6, 4, .inr (.inr (.inr (.inr (fun i => if i < 4 then some (a_t_hears_e i) else none)))))), ((a_t_hears_e 0), .inl (cT 0, 10, .inl (t_hears_e 0))), ((a_t_hears_e 1), .inl (cT 0, 10, .inl (t_hears_e 1))), ((a_t_hears_e 2), .inl (cT 0, 10, .inl (t_hears_e 2))), ((a_t_hears_e 3), .inl (cT 0, 10, .inl (t_hears_e 3))), (a_t_talks, .inl (cT 6, 4, .inr (.inr (.inr (.inr (fun i => if i < 4 then some (a_t_talks_e i) else none)))))), ((a_t_talks_e 0), .inl (cT 0, 10, .inl (t_talks_e 0))), ((a_t_talks_e 1), .inl (cT 0, 10, .inl (t_talks_e 1))), ((a_t_talks_e 2), .inl (cT 0, 10, .inl (t_talks_e 2))), ((a_t_talks_e 3), .inl (cT 0, 10, .inl (t_talks_e 3)))]) rfl ?_
    refine xi_aload C 7 dX6_tryPair_138 rfl ?_
    refine xi_iload_n C 3 dX6_tryPair_140 rfl ?_
    refine xi_iload C 6 dX6_tryPair_141 rfl ?_
    replace h := ig h
    obtain ⟨c78, h⟩ := h
    refine xi_iast C 7 rfl c78 dX6_tryPair_143 (ws2 := [(a_t, .inr (6, [.ref a_t_after, .ref a_t_hears, .ref a_t_talks, .int t_people, .int t_limit])), (a_t_after, .inl (cT 5, 5, .inr (.inr (.inr (.inr (fun i => if i < 5 then some (a_t_after_e i) else none)))))), ((a_t_after_e 0), .inr (3, [.ref (a_t_after_e_pieces 0), .int (t_after_e_people 0)])), ((a_t_after_e_pieces 0), .inl (cT 0, 10, .inl (t_after_e_pieces 0))), ((a_t_after_e 1), .inr (3, [.ref (a_t_after_e_pieces 1), .int (t_after_e_people 1)])), ((a_t_after_e_pieces 1), .inl (cT 0, 10, .inl (t_after_e_pieces 1))), ((a_t_after_e 2), .inr (3, [.ref (a_t_after_e_pieces 2), .int (t_after_e_people 2)])), ((a_t_after_e_pieces 2), .inl (cT 0, 10, .inl (upd (upd (t_after_e_pieces 2) x2.toNatClampNeg (y6 ||| y7)) x3.toNatClampNeg y7))), ((a_t_after_e 3), .inr (3, [.ref (a_t_after_e_pieces 3), .int (t_after_e_people 3)])), ((a_t_after_e_pieces 3), .inl (cT 0, 10, .inl (t_after_e_pieces 3))), ((a_t_after_e 4), .inr (3, [.ref (a_t_after_e_pieces 4), .int (t_after_e_people 4)])), ((a_t_after_e_pieces 4), .inl (cT 0, 10, .inl (t_after_e_pieces 4))), (a_t_hears, .inl (cT 6, 4, .inr (.inr (.inr (.inr (fun i => if i < 4 then some (a_t_hears_e i) else none)))))), ((a_t_hears_e 0), .inl (cT 0, 10, .inl (t_hears_e 0))), ((a_t_hears_e 1), .inl (cT 0, 10, .inl (t_hears_e 1))), ((a_t_hears_e 2), .inl (cT 0, 10, .inl (t_hears_e 2))), ((a_t_hears_e 3), .inl (cT 0, 10, .inl (t_hears_e 3))), (a_t_talks, .inl (cT 6, 4, .inr (.inr (.inr (.inr (fun i => if i < 4 then some (a_t_talks_e i) else none)))))), ((a_t_talks_e 0), .inl (cT 0, 10, .inl (t_talks_e 0))), ((a_t_talks_e 1), .inl (cT 0, 10, .inl (t_talks_e 1))), ((a_t_talks_e 2), .inl (cT 0, 10, .inl (t_talks_e 2))), ((a_t_talks_e 3), .inl (cT 0, 10, .inl (t_talks_e 3)))]) rfl ?_
    refine xi_aload_n C 0 dX6_tryPair_144 rfl ?_
    refine xi_get C zkX6 1 0 zlX6_19 (by decide) rfl rfl dX6_tryPair_145 ?_
    refine xi_iload_n C 1 dX6_tryPair_148 rfl ?_
    refine xi_aaldA C 12 (b := (a_t_hears_e 1)) rfl hfa0 (by rw [hkn0]; rfl) dX6_tryPair_149 ?_
    refine xi_iload_n C 2 dX6_tryPair_150 rfl ?_
    refine xi_iald C 14 rfl c77 dX6_tryPair_151 ?_
    refine xi_iload_n C 3 dX6_tryPair_152 rfl ?_
    refine xi_callSr C (kX10_isIn l D cT ((t_hears_e 1) x2.toNatClampNeg) x3 (fX10_isIn ((t_hears_e 1) x2.toNatClampNeg) x3) rfl) zcX10_isIn zmX6_80 zsX10_isIn (zrb hb rfl rfl rfl) z00 rfl [] rfl rfl rfl (Nat.le_of_ble_eq_true rfl) dX6_tryPair_153 (fun z81 => ?_)
    refine xi_if_eq C (tgt := 177) dX6_tryPair_156 rfl (fun c82 => ?_) (fun c82 => ?_)
    · replace h := (if_pos c82).symm.trans h
      refine xi_iconst C (v := 0) dX6_tryPair_177 rfl ?_
      obtain rfl := Option.some.inj h
      exact hE _ _ _ dX6_tryPair_178 rfl rfl
    · replace h := (if_neg c82).symm.trans h
      refine xi_aload_n C 0 dX6_tryPair_159 rfl ?_
      refine xi_iload_n C 1 dX6_tryPair_160 rfl ?_
      refine xi_iload_n C 2 dX6_tryPair_161 rfl ?_
      refine xi_iload_n C 3 dX6_tryPair_162 rfl ?_
      refine xi_iload C 8 dX6_tryPair_163 rfl ?_
      refine xi_iload C 4 dX6_tryPair_165 rfl ?_
      replace h := ob h
      obtain ⟨u83, hu84, h⟩ := h
      refine xi_callV C (kX6_goOn l D cT RP b hb a_t a_t_after a_t_hears a_t_talks a_t_after_e a_t_after_e_pieces a_t_hears_e a_t_talks_e t_people t_limit t_after_e_people (va_up t_after_e_pieces 2 (upd (upd (t_after_e_pieces 2) x2.toNatClampNeg (y6 ||| y7)) x3.toNatClampNeg y7)) t_hears_e t_talks_e x1 x2 x3 y9 x5 hRP u83 hu84) zcX6_goOn zmX6_112 ziX6_goOn (zrd (b := b) (c := 1) (d := 2) rfl rfl) z00 rfl [0, 1, 2, 3, 4, 5, 6, 7, 8, 9, 10, 11, 12, 13, 14, 15, 16, 17, 18, 19, 20, 21] rfl rfl rfl [some 0, some 1, some 2, some 3, some 4, some 5, some 6, some 7, some 8, some 9, some 10, some 11, some 12, some 13, some 14, some 15, some 16, some 17, some 18, some 19, some 20, some 21] (by decide +kernel) (ws2 := [(a_t, .inr (6, [.ref a_t_after, .ref a_t_hears, .ref a_t_talks, .int t_people, .int t_limit])), (a_t_after, .inl (cT 5, 5, .inr (.inr (.inr (.inr (fun i => if i < 5 then some (a_t_after_e i) else none)))))), ((a_t_after_e 0), .inr (3, [.ref (a_t_after_e_pieces 0), .int (t_after_e_people 0)])), ((a_t_after_e_pieces 0), .inl (cT 0, 10, .inl (u83.2 0))), ((a_t_after_e 1), .inr (3, [.ref (a_t_after_e_pieces 1), .int (t_after_e_people 1)])), ((a_t_after_e_pieces 1), .inl (cT 0, 10, .inl (u83.2 1))), ((a_t_after_e 2), .inr (3, [.ref (a_t_after_e_pieces 2), .int (t_after_e_people 2)])), ((a_t_after_e_pieces 2), .inl (cT 0, 10, .inl (u83.2 2))), ((a_t_after_e 3), .inr (3, [.ref (a_t_after_e_pieces 3), .int (t_after_e_people 3)])), ((a_t_after_e_pieces 3), .inl (cT 0, 10, .inl (u83.2 3))), ((a_t_after_e 4), .inr (3, [.ref (a_t_after_e_pieces 4), .int (t_after_e_people 4)])), ((a_t_after_e_pieces 4), .inl (cT 0, 10, .inl (u83.2 4))), (a_t_hears, .inl (cT 6, 4, .inr (.inr (.inr (.inr (fun i => if i < 4 then some (a_t_hears_e i) else none)))))), ((a_t_hears_e 0), .inl (cT 0, 10, .inl (t_hears_e 0))), ((a_t_hears_e 1), .inl (cT 0, 10, .inl (t_hears_e 1))), ((a_t_hears_e 2), .inl (cT 0, 10, .inl (t_hears_e 2))), ((a_t_hears_e 3), .inl (cT 0, 10, .inl (t_hears_e 3))), (a_t_talks, .inl (cT 6, 4, .inr (.inr (.inr (.inr (fun i => if i < 4 then some (a_t_talks_e i) else none)))))), ((a_t_talks_e 0), .inl (cT 0, 10, .inl (t_talks_e 0))), ((a_t_talks_e 1), .inl (cT 0, 10, .inl (t_talks_e 1))), ((a_t_talks_e 2), .inl (cT 0, 10, .inl (t_talks_e 2))), ((a_t_talks_e 3), .inl (cT 0, 10, .inl (t_talks_e 3)))]) rfl zkX6.1 (qr := 0) rfl rfl (Nat.le_of_ble_eq_true rfl) dX6_tryPair_167 (fun z85 => ?_)
      refine xi_if_eq C (tgt := 177) dX6_tryPair_170 rfl (fun c86 => ?_) (fun c86 => ?_)
      · replace h := (if_pos c86).symm.trans h
        refine xi_iconst C (v := 0) dX6_tryPair_177 rfl ?_
        obtain rfl := Option.some.inj h
        exact hE _ _ _ dX6_tryPair_178 rfl rfl
      · replace h := (if_neg c86).symm.trans h
        refine xi_iconst C (v := 1) dX6_tryPair_173 rfl ?_
        refine xi_goto C (tgt := 178) dX6_tryPair_174 rfl ?_
        obtain rfl := Option.some.inj h
        exact hE _ _ _ dX6_tryPair_178 rfl rfl
  have B129_2 : ∀ (hkn0 : x1.toNatClampNeg = 2) (hkn1 : (x1 + 1).toNatClampNeg = 3) (hfa0 : vp_in x1 4) (hfa1 : vp_in x1 5) (hfa2 : vp_in (x1 + 1) 5) (y6 : Int32) (y7 : Int32) (y9 : Int32) (t_after_e_pieces : Nat → Nat → Int32), fX6_tryPair_b129_k RP t_people t_limit t_after_e_people t_hears_e t_talks_e x1 x2 x3 x5 2 y6 y7 y9 t_after_e_pieces = some r → sW X l (zR (b + 2)) D 10 0 0 129 [(0, .ref a_t), (1, .int x1), (2, .int x2), (3, .int x3), (5, .int x5), (6, .int y6), (7, .int y7), (8, .ref (a_t_after_e_pieces 3)), (9, .int y9)] [] [(a_t, .inr (6, [.ref a_t_after, .ref a_t_hears, .ref a_t_talks, .int t_people, .int t_limit])), (a_t_after, .inl (cT 5, 5, .inr (.inr (.inr (.inr (fun i => if i < 5 then some (a_t_after_e i) else none)))))), ((a_t_after_e 0), .inr (3, [.ref (a_t_after_e_pieces 0), .int (t_after_e_people 0)])), ((a_t_after_e_pieces 0), .inl (cT 0, 10, .inl (t_after_e_pieces 0))), ((a_t_after_e 1), .inr (3, [.ref (a_t_after_e_pieces 1), .int (t_after_e_people 1)])), ((a_t_after_e_pieces 1), .inl (cT 0, 10, .inl (t_after_e_pieces 1))), ((a_t_after_e 2), .inr (3, [.ref (a_t_after_e_pieces 2), .int (t_after_e_people 2)])), ((a_t_after_e_pieces 2), .inl (cT 0, 10, .inl (t_after_e_pieces 2))), ((a_t_after_e 3), .inr (3, [.ref (a_t_after_e_pieces 3), .int (t_after_e_people 3)])), ((a_t_after_e_pieces 3), .inl (cT 0, 10, .inl (t_after_e_pieces 3))), ((a_t_after_e 4), .inr (3, [.ref (a_t_after_e_pieces 4), .int (t_after_e_people 4)])), ((a_t_after_e_pieces 4), .inl (cT 0, 10, .inl (t_after_e_pieces 4))), (a_t_hears, .inl (cT 6, 4, .inr (.inr (.inr (.inr (fun i => if i < 4 then some (a_t_hears_e i) else none)))))), ((a_t_hears_e 0), .inl (cT 0, 10, .inl (t_hears_e 0))), ((a_t_hears_e 1), .inl (cT 0, 10, .inl (t_hears_e 1))), ((a_t_hears_e 2), .inl (cT 0, 10, .inl (t_hears_e 2))), ((a_t_hears_e 3), .inl (cT 0, 10, .inl (t_hears_e 3))), (a_t_talks, .inl (cT 6, 4, .inr (.inr (.inr (.inr (fun i => if i < 4 then some (a_t_talks_e i) else none)))))), ((a_t_talks_e 0), .inl (cT 0, 10, .inl (t_talks_e 0))), ((a_t_talks_e 1), .inl (cT 0, 10, .inl (t_talks_e 1))), ((a_t_talks_e 2), .inl (cT 0, 10, .inl (t_talks_e 2))), ((a_t_talks_e 3), .inl (cT 0, 10, .inl (t_talks_e 3)))] := by
    intro hkn0 hkn1 hfa0 hfa1 hfa2 y6 y7 y9 t_after_e_pieces h
    refine xi_aload C 7 dX6_tryPair_129 rfl ?_
    refine xi_iload_n C 2 dX6_tryPair_131 rfl ?_
    refine xi_iload C 5 dX6_tryPair_132 rfl ?_
    refine xi_iload C 6 dX6_tryPair_134 rfl ?_
    refine xi_ior C dX6_tryPair_136 ?_
    replace h := ig h
    obtain ⟨c107, h⟩ := h
    refine xi_iast C 9 rfl c107 dX6_tryPair_137 (ws2 := [(a_t, .inr (6, [.ref a_t_after, .ref a_t_hears, .ref a_t_talks, .int t_people, .int t_limit])), (a_t_after, .inl (cT 5, 5, .inr (.inr (.inr (.inr (fun i => if i < 5 then some (a_t_after_e i) else none)))))), ((a_t_after_e 0), .inr (3, [.ref (a_t_after_e_pieces 0), .int (t_after_e_people 0)])), ((a_t_after_e_pieces 0), .inl (cT 0, 10, .inl (t_after_e_pieces 0))), ((a_t_after_e 1), .inr (3, [.ref (a_t_after_e_pieces 1), .int (t_after_e_people 1)])), ((a_t_after_e_pieces 1), .inl (cT 0, 10, .inl (t_after_e_pieces 1))), ((a_t_after_e 2), .inr (3, [.ref (a_t_after_e_pieces 2), .int (t_after_e_people 2)])), ((a_t_after_e_pieces 2), .inl (cT 0, 10, .inl (t_after_e_pieces 2))), ((a_t_after_e 3), .inr (3, [.ref (a_t_after_e_pieces 3), .int (t_after_e_people 3)])), ((a_t_after_e_pieces 3), .inl (cT 0, 10, .inl (upd (t_after_e_pieces 3) x2.toNatClampNeg (y6 ||| y7)))), ((a_t_after_e 4), .inr (3, [.ref (a_t_after_e_pieces 4), .int (t_after_e_people 4)])), ((a_t_after_e_pieces 4), .inl (cT 0, 10, .inl (t_after_e_pieces 4))), (a_t_hears, .inl (cT 6, 4, .inr (.inr (.inr (.inr (fun i => if i < 4 then some (a_t_hears_e i) else none)))))), ((a_t_hears_e 0), .inl (cT 0, 10, .inl (t_hears_e 0))), ((a_t_hears_e 1), .inl (cT 0, 10, .inl (t_hears_e 1))), ((a_t_hears_e 2), .inl (cT 0, 10, .inl (t_hears_e 2))), ((a_t_hears_e 3), .inl (cT 0, 10, .inl (t_hears_e 3))), (a_t_talks, .inl (cT 6, 4, .inr (.inr (.inr (.inr (fun i => if i < 4 then some (a_t_talks_e i) else none)))))), ((a_t_talks_e 0), .inl (cT 0, 10, .inl (t_talks_e 0))), ((a_t_talks_e 1), .inl (cT 0, 10, .inl (t_talks_e 1))), ((a_t_talks_e 2), .inl (cT 0, 10, .inl (t_talks_e 2))), ((a_t_talks_e 3), .inl (cT 0, 10, .inl (t_talks_e 3)))]) rfl ?_
    refine xi_aload C 7 dX6_tryPair_138 rfl ?_
    refine xi_iload_n C 3 dX6_tryPair_140 rfl ?_
    refine xi_iload C 6 dX6_tryPair_141 rfl ?_
    replace h := ig h
    obtain ⟨c108, h⟩ := h
    refine xi_iast C 9 rfl c108 dX6_tryPair_143 (ws2 := [(a_t, .inr (6, [.ref a_t_after, .ref a_t_hears, .ref a_t_talks, .int t_people, .int t_limit])), (a_t_after, .inl (cT 5, 5, .inr (.inr (.inr (.inr (fun i => if i < 5 then some (a_t_after_e i) else none)))))), ((a_t_after_e 0), .inr (3, [.ref (a_t_after_e_pieces 0), .int (t_after_e_people 0)])), ((a_t_after_e_pieces 0), .inl (cT 0, 10, .inl (t_after_e_pieces 0))), ((a_t_after_e 1), .inr (3, [.ref (a_t_after_e_pieces 1), .int (t_after_e_people 1)])), ((a_t_after_e_pieces 1), .inl (cT 0, 10, .inl (t_after_e_pieces 1))), ((a_t_after_e 2), .inr (3, [.ref (a_t_after_e_pieces 2), .int (t_after_e_people 2)])), ((a_t_after_e_pieces 2), .inl (cT 0, 10, .inl (t_after_e_pieces 2))), ((a_t_after_e 3), .inr (3, [.ref (a_t_after_e_pieces 3), .int (t_after_e_people 3)])), ((a_t_after_e_pieces 3), .inl (cT 0, 10, .inl (upd (upd (t_after_e_pieces 3) x2.toNatClampNeg (y6 ||| y7)) x3.toNatClampNeg y7))), ((a_t_after_e 4), .inr (3, [.ref (a_t_after_e_pieces 4), .int (t_after_e_people 4)])), ((a_t_after_e_pieces 4), .inl (cT 0, 10, .inl (t_after_e_pieces 4))), (a_t_hears, .inl (cT 6, 4, .inr (.inr (.inr (.inr (fun i => if i < 4 then some (a_t_hears_e i) else none)))))), ((a_t_hears_e 0), .inl (cT 0, 10, .inl (t_hears_e 0))), ((a_t_hears_e 1), .inl (cT 0, 10, .inl (t_hears_e 1))), ((a_t_hears_e 2), .inl (cT 0, 10, .inl (t_hears_e 2))), ((a_t_hears_e 3), .inl (cT 0, 10, .inl (t_hears_e 3))), (a_t_talks, .inl (cT 6, 4, .inr (.inr (.inr (.inr (fun i => if i < 4 then some (a_t_talks_e i) else none)))))), ((a_t_talks_e 0), .inl (cT 0, 10, .inl (t_talks_e 0))), ((a_t_talks_e 1), .inl (cT 0, 10, .inl (t_talks_e 1))), ((a_t_talks_e 2), .inl (cT 0, 10, .inl (t_talks_e 2))), ((a_t_talks_e 3), .inl (cT 0, 10, .inl (t_talks_e 3)))]) rfl ?_
    refine xi_aload_n C 0 dX6_tryPair_144 rfl ?_
    refine xi_get C zkX6 1 0 zlX6_19 (by decide) rfl rfl dX6_tryPair_145 ?_
    refine xi_iload_n C 1 dX6_tryPair_148 rfl ?_
    refine xi_aaldA C 12 (b := (a_t_hears_e 2)) rfl hfa0 (by rw [hkn0]; rfl) dX6_tryPair_149 ?_
    refine xi_iload_n C 2 dX6_tryPair_150 rfl ?_
    refine xi_iald C 15 rfl c107 dX6_tryPair_151 ?_
    refine xi_iload_n C 3 dX6_tryPair_152 rfl ?_
    refine xi_callSr C (kX10_isIn l D cT ((t_hears_e 2) x2.toNatClampNeg) x3 (fX10_isIn ((t_hears_e 2) x2.toNatClampNeg) x3) rfl) zcX10_isIn zmX6_80 zsX10_isIn (zrb hb rfl rfl rfl) z00 rfl [] rfl rfl rfl (Nat.le_of_ble_eq_true rfl) dX6_tryPair_153 (fun z111 => ?_)
    refine xi_if_eq C (tgt := 177) dX6_tryPair_156 rfl (fun c112 => ?_) (fun c112 => ?_)
    · replace h := (if_pos c112).symm.trans h
      refine xi_iconst C (v := 0) dX6_tryPair_177 rfl ?_
      obtain rfl := Option.some.inj h
      exact hE _ _ _ dX6_tryPair_178 rfl rfl
    · replace h := (if_neg c112).symm.trans h
      refine xi_aload_n C 0 dX6_tryPair_159 rfl ?_
      refine xi_iload_n C 1 dX6_tryPair_160 rfl ?_
      refine xi_iload_n C 2 dX6_tryPair_161 rfl ?_
      refine xi_iload_n C 3 dX6_tryPair_162 rfl ?_
      refine xi_iload C 8 dX6_tryPair_163 rfl ?_
      refine xi_iload C 4 dX6_tryPair_165 rfl ?_
      replace h := ob h
      obtain ⟨u113, hu114, h⟩ := h
      refine xi_callV C (kX6_goOn l D cT RP b hb a_t a_t_after a_t_hears a_t_talks a_t_after_e a_t_after_e_pieces a_t_hears_e a_t_talks_e t_people t_limit t_after_e_people (va_up t_after_e_pieces 3 (upd (upd (t_after_e_pieces 3) x2.toNatClampNeg (y6 ||| y7)) x3.toNatClampNeg y7)) t_hears_e t_talks_e x1 x2 x3 y9 x5 hRP u113 hu114) zcX6_goOn zmX6_112 ziX6_goOn (zrd (b := b) (c := 1) (d := 2) rfl rfl) z00 rfl [0, 1, 2, 3, 4, 5, 6, 7, 8, 9, 10, 11, 12, 13, 14, 15, 16, 17, 18, 19, 20, 21] rfl rfl rfl [some 0, some 1, some 2, some 3, some 4, some 5, some 6, some 7, some 8, some 9, some 10, some 11, some 12, some 13, some 14, some 15, some 16, some 17, some 18, some 19, some 20, some 21] (by decide +kernel) (ws2 := [(a_t, .inr (6, [.ref a_t_after, .ref a_t_hears, .ref a_t_talks, .int t_people, .int t_limit])), (a_t_after, .inl (cT 5, 5, .inr (.inr (.inr (.inr (fun i => if i < 5 then some (a_t_after_e i) else none)))))), ((a_t_after_e 0), .inr (3, [.ref (a_t_after_e_pieces 0), .int (t_after_e_people 0)])), ((a_t_after_e_pieces 0), .inl (cT 0, 10, .inl (u113.2 0))), ((a_t_after_e 1), .inr (3, [.ref (a_t_after_e_pieces 1), .int (t_after_e_people 1)])), ((a_t_after_e_pieces 1), .inl (cT 0, 10, .inl (u113.2 1))), ((a_t_after_e 2), .inr (3, [.ref (a_t_after_e_pieces 2), .int (t_after_e_people 2)])), ((a_t_after_e_pieces 2), .inl (cT 0, 10, .inl (u113.2 2))), ((a_t_after_e 3), .inr (3, [.ref (a_t_after_e_pieces 3), .int (t_after_e_people 3)])), ((a_t_after_e_pieces 3), .inl (cT 0, 10, .inl (u113.2 3))), ((a_t_after_e 4), .inr (3, [.ref (a_t_after_e_pieces 4), .int (t_after_e_people 4)])), ((a_t_after_e_pieces 4), .inl (cT 0, 10, .inl (u113.2 4))), (a_t_hears, .inl (cT 6, 4, .inr (.inr (.inr (.inr (fun i => if i < 4 then some (a_t_hears_e i) else none)))))), ((a_t_hears_e 0), .inl (cT 0, 10, .inl (t_hears_e 0))), ((a_t_hears_e 1), .inl (cT 0, 10, .inl (t_hears_e 1))), ((a_t_hears_e 2), .inl (cT 0, 10, .inl (t_hears_e 2))), ((a_t_hears_e 3), .inl (cT 0, 10, .inl (t_hears_e 3))), (a_t_talks, .inl (cT 6, 4, .inr (.inr (.inr (.inr (fun i => if i < 4 then some (a_t_talks_e i) else none)))))), ((a_t_talks_e 0), .inl (cT 0, 10, .inl (t_talks_e 0))), ((a_t_talks_e 1), .inl (cT 0, 10, .inl (t_talks_e 1))), ((a_t_talks_e 2), .inl (cT 0, 10, .inl (t_talks_e 2))), ((a_t_talks_e 3), .inl (cT 0, 10, .inl (t_talks_e 3)))]) rfl zkX6.1 (qr := 0) rfl rfl (Nat.le_of_ble_eq_true rfl) dX6_tryPair_167 (fun z115 => ?_)
      refine xi_if_eq C (tgt := 177) dX6_tryPair_170 rfl (fun c116 => ?_) (fun c116 => ?_)
      · replace h := (if_pos c116).symm.trans h
        refine xi_iconst C (v := 0) dX6_tryPair_177 rfl ?_
        obtain rfl := Option.some.inj h
        exact hE _ _ _ dX6_tryPair_178 rfl rfl
      · replace h := (if_neg c116).symm.trans h
        refine xi_iconst C (v := 1) dX6_tryPair_173 rfl ?_
        refine xi_goto C (tgt := 178) dX6_tryPair_174 rfl ?_
        obtain rfl := Option.some.inj h
        exact hE _ _ _ dX6_tryPair_178 rfl rfl
  have B129_3 : ∀ (hkn0 : x1.toNatClampNeg = 3) (hkn1 : (x1 + 1).toNatClampNeg = 4) (hfa0 : vp_in x1 4) (hfa1 : vp_in x1 5) (hfa2 : vp_in (x1 + 1) 5) (y6 : Int32) (y7 : Int32) (y9 : Int32) (t_after_e_pieces : Nat → Nat → Int32), fX6_tryPair_b129_k RP t_people t_limit t_after_e_people t_hears_e t_talks_e x1 x2 x3 x5 3 y6 y7 y9 t_after_e_pieces = some r → sW X l (zR (b + 2)) D 10 0 0 129 [(0, .ref a_t), (1, .int x1), (2, .int x2), (3, .int x3), (5, .int x5), (6, .int y6), (7, .int y7), (8, .ref (a_t_after_e_pieces 4)), (9, .int y9)] [] [(a_t, .inr (6, [.ref a_t_after, .ref a_t_hears, .ref a_t_talks, .int t_people, .int t_limit])), (a_t_after, .inl (cT 5, 5, .inr (.inr (.inr (.inr (fun i => if i < 5 then some (a_t_after_e i) else none)))))), ((a_t_after_e 0), .inr (3, [.ref (a_t_after_e_pieces 0), .int (t_after_e_people 0)])), ((a_t_after_e_pieces 0), .inl (cT 0, 10, .inl (t_after_e_pieces 0))), ((a_t_after_e 1), .inr (3, [.ref (a_t_after_e_pieces 1), .int (t_after_e_people 1)])), ((a_t_after_e_pieces 1), .inl (cT 0, 10, .inl (t_after_e_pieces 1))), ((a_t_after_e 2), .inr (3, [.ref (a_t_after_e_pieces 2), .int (t_after_e_people 2)])), ((a_t_after_e_pieces 2), .inl (cT 0, 10, .inl (t_after_e_pieces 2))), ((a_t_after_e 3), .inr (3, [.ref (a_t_after_e_pieces 3), .int (t_after_e_people 3)])), ((a_t_after_e_pieces 3), .inl (cT 0, 10, .inl (t_after_e_pieces 3))), ((a_t_after_e 4), .inr (3, [.ref (a_t_after_e_pieces 4), .int (t_after_e_people 4)])), ((a_t_after_e_pieces 4), .inl (cT 0, 10, .inl (t_after_e_pieces 4))), (a_t_hears, .inl (cT 6, 4, .inr (.inr (.inr (.inr (fun i => if i < 4 then some (a_t_hears_e i) else none)))))), ((a_t_hears_e 0), .inl (cT 0, 10, .inl (t_hears_e 0))), ((a_t_hears_e 1), .inl (cT 0, 10, .inl (t_hears_e 1))), ((a_t_hears_e 2), .inl (cT 0, 10, .inl (t_hears_e 2))), ((a_t_hears_e 3), .inl (cT 0, 10, .inl (t_hears_e 3))), (a_t_talks, .inl (cT 6, 4, .inr (.inr (.inr (.inr (fun i => if i < 4 then some (a_t_talks_e i) else none)))))), ((a_t_talks_e 0), .inl (cT 0, 10, .inl (t_talks_e 0))), ((a_t_talks_e 1), .inl (cT 0, 10, .inl (t_talks_e 1))), ((a_t_talks_e 2), .inl (cT 0, 10, .inl (t_talks_e 2))), ((a_t_talks_e 3), .inl (cT 0, 10, .inl (t_talks_e 3)))] := by
    intro hkn0 hkn1 hfa0 hfa1 hfa2 y6 y7 y9 t_after_e_pieces h
    refine xi_aload C 7 dX6_tryPair_129 rfl ?_
    refine xi_iload_n C 2 dX6_tryPair_131 rfl ?_
    refine xi_iload C 5 dX6_tryPair_132 rfl ?_
    refine xi_iload C 6 dX6_tryPair_134 rfl ?_
    refine xi_ior C dX6_tryPair_136 ?_
    replace h := ig h
    obtain ⟨c137, h⟩ := h
    refine xi_iast C 11 rfl c137 dX6_tryPair_137 (ws2 := [(a_t, .inr (6, [.ref a_t_after, .ref a_t_hears, .ref a_t_talks, .int t_people, .int t_limit])), (a_t_after, .inl (cT 5, 5, .inr (.inr (.inr (.inr (fun i => if i < 5 then some (a_t_after_e i) else none)))))), ((a_t_after_e 0), .inr (3, [.ref (a_t_after_e_pieces 0), .int (t_after_e_people 0)])), ((a_t_after_e_pieces 0), .inl (cT 0, 10, .inl (t_after_e_pieces 0))), ((a_t_after_e 1), .inr (3, [.ref (a_t_after_e_pieces 1), .int (t_after_e_people 1)])), ((a_t_after_e_pieces 1), .inl (cT 0, 10, .inl (t_after_e_pieces 1))), ((a_t_after_e 2), .inr (3, [.ref (a_t_after_e_pieces 2), .int (t_after_e_people 2)])), ((a_t_after_e_pieces 2), .inl (cT 0, 10, .inl (t_after_e_pieces 2))), ((a_t_after_e 3), .inr (3, [.ref (a_t_after_e_pieces 3), .int (t_after_e_people 3)])), ((a_t_after_e_pieces 3), .inl (cT 0, 10, .inl (t_after_e_pieces 3))), ((a_t_after_e 4), .inr (3, [.ref (a_t_after_e_pieces 4), .int (t_after_e_people 4)])), ((a_t_after_e_pieces 4), .inl (cT 0, 10, .inl (upd (t_after_e_pieces 4) x2.toNatClampNeg (y6 ||| y7)))), (a_t_hears, .inl (cT 6, 4, .inr (.inr (.inr (.inr (fun i => if i < 4 then some (a_t_hears_e i) else none)))))), ((a_t_hears_e 0), .inl (cT 0, 10, .inl (t_hears_e 0))), ((a_t_hears_e 1), .inl (cT 0, 10, .inl (t_hears_e 1))), ((a_t_hears_e 2), .inl (cT 0, 10, .inl (t_hears_e 2))), ((a_t_hears_e 3), .inl (cT 0, 10, .inl (t_hears_e 3))), (a_t_talks, .inl (cT 6, 4, .inr (.inr (.inr (.inr (fun i => if i < 4 then some (a_t_talks_e i) else none)))))), ((a_t_talks_e 0), .inl (cT 0, 10, .inl (t_talks_e 0))), ((a_t_talks_e 1), .inl (cT 0, 10, .inl (t_talks_e 1))), ((a_t_talks_e 2), .inl (cT 0, 10, .inl (t_talks_e 2))), ((a_t_talks_e 3), .inl (cT 0, 10, .inl (t_talks_e 3)))]) rfl ?_
    refine xi_aload C 7 dX6_tryPair_138 rfl ?_
    refine xi_iload_n C 3 dX6_tryPair_140 rfl ?_
    refine xi_iload C 6 dX6_tryPair_141 rfl ?_
    replace h := ig h
    obtain ⟨c138, h⟩ := h
    refine xi_iast C 11 rfl c138 dX6_tryPair_143 (ws2 := [(a_t, .inr (6, [.ref a_t_after, .ref a_t_hears, .ref a_t_talks, .int t_people, .int t_limit])), (a_t_after, .inl (cT 5, 5, .inr (.inr (.inr (.inr (fun i => if i < 5 then some (a_t_after_e i) else none)))))), ((a_t_after_e 0), .inr (3, [.ref (a_t_after_e_pieces 0), .int (t_after_e_people 0)])), ((a_t_after_e_pieces 0), .inl (cT 0, 10, .inl (t_after_e_pieces 0))), ((a_t_after_e 1), .inr (3, [.ref (a_t_after_e_pieces 1), .int (t_after_e_people 1)])), ((a_t_after_e_pieces 1), .inl (cT 0, 10, .inl (t_after_e_pieces 1))), ((a_t_after_e 2), .inr (3, [.ref (a_t_after_e_pieces 2), .int (t_after_e_people 2)])), ((a_t_after_e_pieces 2), .inl (cT 0, 10, .inl (t_after_e_pieces 2))), ((a_t_after_e 3), .inr (3, [.ref (a_t_after_e_pieces 3), .int (t_after_e_people 3)])), ((a_t_after_e_pieces 3), .inl (cT 0, 10, .inl (t_after_e_pieces 3))), ((a_t_after_e 4), .inr (3, [.ref (a_t_after_e_pieces 4), .int (t_after_e_people 4)])), ((a_t_after_e_pieces 4), .inl (cT 0, 10, .inl (upd (upd (t_after_e_pieces 4) x2.toNatClampNeg (y6 ||| y7)) x3.toNatClampNeg y7))), (a_t_hears, .inl (cT 6, 4, .inr (.inr (.inr (.inr (fun i => if i < 4 then some (a_t_hears_e i) else none)))))), ((a_t_hears_e 0), .inl (cT 0, 10, .inl (t_hears_e 0))), ((a_t_hears_e 1), .inl (cT 0, 10, .inl (t_hears_e 1))), ((a_t_hears_e 2), .inl (cT 0, 10, .inl (t_hears_e 2))), ((a_t_hears_e 3), .inl (cT 0, 10, .inl (t_hears_e 3))), (a_t_talks, .inl (cT 6, 4, .inr (.inr (.inr (.inr (fun i => if i < 4 then some (a_t_talks_e i) else none)))))), ((a_t_talks_e 0), .inl (cT 0, 10, .inl (t_talks_e 0))), ((a_t_talks_e 1), .inl (cT 0, 10, .inl (t_talks_e 1))), ((a_t_talks_e 2), .inl (cT 0, 10, .inl (t_talks_e 2))), ((a_t_talks_e 3), .inl (cT 0, 10, .inl (t_talks_e 3)))]) rfl ?_
    refine xi_aload_n C 0 dX6_tryPair_144 rfl ?_
    refine xi_get C zkX6 1 0 zlX6_19 (by decide) rfl rfl dX6_tryPair_145 ?_
    refine xi_iload_n C 1 dX6_tryPair_148 rfl ?_
    refine xi_aaldA C 12 (b := (a_t_hears_e 3)) rfl hfa0 (by rw [hkn0]; rfl) dX6_tryPair_149 ?_
    refine xi_iload_n C 2 dX6_tryPair_150 rfl ?_
    refine xi_iald C 16 rfl c137 dX6_tryPair_151 ?_
    refine xi_iload_n C 3 dX6_tryPair_152 rfl ?_
    refine xi_callSr C (kX10_isIn l D cT ((t_hears_e 3) x2.toNatClampNeg) x3 (fX10_isIn ((t_hears_e 3) x2.toNatClampNeg) x3) rfl) zcX10_isIn zmX6_80 zsX10_isIn (zrb hb rfl rfl rfl) z00 rfl [] rfl rfl rfl (Nat.le_of_ble_eq_true rfl) dX6_tryPair_153 (fun z141 => ?_)
    refine xi_if_eq C (tgt := 177) dX6_tryPair_156 rfl (fun c142 => ?_) (fun c142 => ?_)
    · replace h := (if_pos c142).symm.trans h
      refine xi_iconst C (v := 0) dX6_tryPair_177 rfl ?_
      obtain rfl := Option.some.inj h
      exact hE _ _ _ dX6_tryPair_178 rfl rfl
    · replace h := (if_neg c142).symm.trans h
      refine xi_aload_n C 0 dX6_tryPair_159 rfl ?_
      refine xi_iload_n C 1 dX6_tryPair_160 rfl ?_
      refine xi_iload_n C 2 dX6_tryPair_161 rfl ?_
      refine xi_iload_n C 3 dX6_tryPair_162 rfl ?_
      refine xi_iload C 8 dX6_tryPair_163 rfl ?_
      refine xi_iload C 4 dX6_tryPair_165 rfl ?_
      replace h := ob h
      obtain ⟨u143, hu144, h⟩ := h
      refine xi_callV C (kX6_goOn l D cT RP b hb a_t a_t_after a_t_hears a_t_talks a_t_after_e a_t_after_e_pieces a_t_hears_e a_t_talks_e t_people t_limit t_after_e_people (va_up t_after_e_pieces 4 (upd (upd (t_after_e_pieces 4) x2.toNatClampNeg (y6 ||| y7)) x3.toNatClampNeg y7)) t_hears_e t_talks_e x1 x2 x3 y9 x5 hRP u143 hu144) zcX6_goOn zmX6_112 ziX6_goOn (zrd (b := b) (c := 1) (d := 2) rfl rfl) z00 rfl [0, 1, 2, 3, 4, 5, 6, 7, 8, 9, 10, 11, 12, 13, 14, 15, 16, 17, 18, 19, 20, 21] rfl rfl rfl [some 0, some 1, some 2, some 3, some 4, some 5, some 6, some 7, some 8, some 9, some 10, some 11, some 12, some 13, some 14, some 15, some 16, some 17, some 18, some 19, some 20, some 21] (by decide +kernel) (ws2 := [(a_t, .inr (6, [.ref a_t_after, .ref a_t_hears, .ref a_t_talks, .int t_people, .int t_limit])), (a_t_after, .inl (cT 5, 5, .inr (.inr (.inr (.inr (fun i => if i < 5 then some (a_t_after_e i) else none)))))), ((a_t_after_e 0), .inr (3, [.ref (a_t_after_e_pieces 0), .int (t_after_e_people 0)])), ((a_t_after_e_pieces 0), .inl (cT 0, 10, .inl (u143.2 0))), ((a_t_after_e 1), .inr (3, [.ref (a_t_after_e_pieces 1), .int (t_after_e_people 1)])), ((a_t_after_e_pieces 1), .inl (cT 0, 10, .inl (u143.2 1))), ((a_t_after_e 2), .inr (3, [.ref (a_t_after_e_pieces 2), .int (t_after_e_people 2)])), ((a_t_after_e_pieces 2), .inl (cT 0, 10, .inl (u143.2 2))), ((a_t_after_e 3), .inr (3, [.ref (a_t_after_e_pieces 3), .int (t_after_e_people 3)])), ((a_t_after_e_pieces 3), .inl (cT 0, 10, .inl (u143.2 3))), ((a_t_after_e 4), .inr (3, [.ref (a_t_after_e_pieces 4), .int (t_after_e_people 4)])), ((a_t_after_e_pieces 4), .inl (cT 0, 10, .inl (u143.2 4))), (a_t_hears, .inl (cT 6, 4, .inr (.inr (.inr (.inr (fun i => if i < 4 then some (a_t_hears_e i) else none)))))), ((a_t_hears_e 0), .inl (cT 0, 10, .inl (t_hears_e 0))), ((a_t_hears_e 1), .inl (cT 0, 10, .inl (t_hears_e 1))), ((a_t_hears_e 2), .inl (cT 0, 10, .inl (t_hears_e 2))), ((a_t_hears_e 3), .inl (cT 0, 10, .inl (t_hears_e 3))), (a_t_talks, .inl (cT 6, 4, .inr (.inr (.inr (.inr (fun i => if i < 4 then some (a_t_talks_e i) else none)))))), ((a_t_talks_e 0), .inl (cT 0, 10, .inl (t_talks_e 0))), ((a_t_talks_e 1), .inl (cT 0, 10, .inl (t_talks_e 1))), ((a_t_talks_e 2), .inl (cT 0, 10, .inl (t_talks_e 2))), ((a_t_talks_e 3), .inl (cT 0, 10, .inl (t_talks_e 3)))]) rfl zkX6.1 (qr := 0) rfl rfl (Nat.le_of_ble_eq_true rfl) dX6_tryPair_167 (fun z145 => ?_)
      refine xi_if_eq C (tgt := 177) dX6_tryPair_170 rfl (fun c146 => ?_) (fun c146 => ?_)
      · replace h := (if_pos c146).symm.trans h
        refine xi_iconst C (v := 0) dX6_tryPair_177 rfl ?_
        obtain rfl := Option.some.inj h
        exact hE _ _ _ dX6_tryPair_178 rfl rfl
      · replace h := (if_neg c146).symm.trans h
        refine xi_iconst C (v := 1) dX6_tryPair_173 rfl ?_
        refine xi_goto C (tgt := 178) dX6_tryPair_174 rfl ?_
        obtain rfl := Option.some.inj h
        exact hE _ _ _ dX6_tryPair_178 rfl rfl
  refine xi_drop (L2 := [(0, .ref a_t), (1, .int x1), (2, .int x2), (3, .int x3), (4, .int x4), (5, .int x5)]) [0, 1, 2, 3, 4, 5] rfl ?_
  refine xi_aload_n C 0 dX6_tryPair_0 rfl ?_
  refine xi_get C zkX6 0 0 zlX6_11 (by decide) rfl rfl dX6_tryPair_1 ?_
  refine xi_iload_n C 1 dX6_tryPair_4 rfl ?_
  replace h := ig h
  obtain ⟨c1, h⟩ := h
  rcases zk5 c1 with hj3 | hj3 | hj3 | hj3 | hj3
  · replace h := nmE hj3.symm h
    refine xi_aald C 1 5 (b := (a_t_after_e 0)) rfl rfl c1 (by rw [hj3]; rfl) dX6_tryPair_5 ?_
    refine xi_get C zkX3 0 2 zlX6_102 (by decide) rfl rfl dX6_tryPair_6 ?_
    refine xi_iload_n C 2 dX6_tryPair_9 rfl ?_
    replace h := ig h
    obtain ⟨c34, h⟩ := h
    refine xi_iald C 3 rfl c34 dX6_tryPair_10 ?_
    refine xi_istore C [1, 2, 3, 4, 5, 6, 0] (L2 := [(0, .ref a_t), (1, .int x1), (2, .int x2), (3, .int x3), (4, .int x4), (5, .int x5), (6, .int ((t_after_e_pieces 0) x2.toNatClampNeg))]) dX6_tryPair_11 (Nat.le_of_ble_eq_true rfl) rfl ?_
    refine xi_aload_n C 0 dX6_tryPair_13 rfl ?_
    refine xi_get C zkX6 0 0 zlX6_11 (by decide) rfl rfl dX6_tryPair_14 ?_
    refine xi_iload_n C 1 dX6_tryPair_17 rfl ?_
    refine xi_aald C 1 5 (b := (a_t_after_e 0)) rfl rfl c1 (by rw [hj3]; rfl) dX6_tryPair_18 ?_
    refine xi_get C zkX3 0 2 zlX6_102 (by decide) rfl rfl dX6_tryPair_19 ?_
    refine xi_iload_n C 3 dX6_tryPair_22 rfl ?_
    replace h := ig h
    obtain ⟨c35, h⟩ := h
    refine xi_iald C 3 rfl c35 dX6_tryPair_23 ?_
    refine xi_istore C [1, 2, 3, 4, 5, 6, 7, 0] (L2 := [(0, .ref a_t), (1, .int x1), (2, .int x2), (3, .int x3), (4, .int x4), (5, .int x5), (6, .int ((t_after_e_pieces 0) x2.toNatClampNeg)), (7, .int ((t_after_e_pieces 0) x3.toNatClampNeg))]) dX6_tryPair_24 (Nat.le_of_ble_eq_true rfl) rfl ?_
    refine xi_aload_n C 0 dX6_tryPair_26 rfl ?_
    refine xi_get C zkX6 0 0 zlX6_11 (by decide) rfl rfl dX6_tryPair_27 ?_
    refine xi_iload_n C 1 dX6_tryPair_30 rfl ?_
    refine xi_iconst C (v := 1) dX6_tryPair_31 rfl ?_
    refine xi_iadd C dX6_tryPair_32 ?_
    replace h := ig h
    obtain ⟨c36, h⟩ := h
    have hj37 : (x1 + 1).toNatClampNeg = 1 := zks c1 hj3 (by decide)
    refine xi_aald C 1 5 (b := (a_t_after_e 1)) rfl rfl c36 (by rw [hj37]; rfl) dX6_tryPair_33 ?_
    refine xi_get C zkX3 0 4 zlX6_102 (by decide) rfl rfl dX6_tryPair_34 ?_
    refine xi_astore C [1, 2, 3, 4, 5, 6, 7, 8, 0] (L2 := [(0, .ref a_t), (1, .int x1), (2, .int x2), (3, .int x3), (4, .int x4), (5, .int x5), (6, .int ((t_after_e_pieces 0) x2.toNatClampNeg)), (7, .int ((t_after_e_pieces 0) x3.toNatClampNeg)), (8, .ref (a_t_after_e_pieces 1))]) dX6_tryPair_37 (Nat.le_of_ble_eq_true rfl) rfl ?_
    refine xi_iload C 4 dX6_tryPair_39 rfl ?_
    refine xi_iconst C (v := 1) dX6_tryPair_41 rfl ?_
    refine xi_iload_n C 3 dX6_tryPair_42 rfl ?_
    refine xi_ishl C dX6_tryPair_43 ?_
    refine xi_ior C dX6_tryPair_44 ?_
    refine xi_istore C [1, 2, 3, 4, 5, 6, 7, 8, 9, 0] (L2 := [(0, .ref a_t), (1, .int x1), (2, .int x2), (3, .int x3), (4, .int x4), (5, .int x5), (6, .int ((t_after_e_pieces 0) x2.toNatClampNeg)), (7, .int ((t_after_e_pieces 0) x3.toNatClampNeg)), (8, .ref (a_t_after_e_pieces 1)), (9, .int (x4 ||| (1 <<< (x3 &&& 31))))]) dX6_tryPair_45 (Nat.le_of_ble_eq_true rfl) rfl ?_
    refine xi_aload C 8 dX6_tryPair_47 rfl ?_
    refine xi_iload_n C 2 dX6_tryPair_49 rfl ?_
    refine xi_iload C 6 dX6_tryPair_50 rfl ?_
    refine xi_iload C 7 dX6_tryPair_52 rfl ?_
    refine xi_ior C dX6_tryPair_54 ?_
    refine xi_iast C 5 rfl c34 dX6_tryPair_55 (ws2 := [(a_t, .inr (6, [.ref a_t_after, .ref a_t_hears, .ref a_t_talks, .int t_people, .int t_limit])), (a_t_after, .inl (cT 5, 5, .inr (.inr (.inr (.inr (fun i => if i < 5 then some (a_t_after_e i) else none)))))), ((a_t_after_e 0), .inr (3, [.ref (a_t_after_e_pieces 0), .int (t_after_e_people 0)])), ((a_t_after_e_pieces 0), .inl (cT 0, 10, .inl (t_after_e_pieces 0))), ((a_t_after_e 1), .inr (3, [.ref (a_t_after_e_pieces 1), .int (t_after_e_people 1)])), ((a_t_after_e_pieces 1), .inl (cT 0, 10, .inl (upd (t_after_e_pieces 1) x2.toNatClampNeg (((t_after_e_pieces 0) x2.toNatClampNeg) ||| ((t_after_e_pieces 0) x3.toNatClampNeg))))), ((a_t_after_e 2), .inr (3, [.ref (a_t_after_e_pieces 2), .int (t_after_e_people 2)])), ((a_t_after_e_pieces 2), .inl (cT 0, 10, .inl (t_after_e_pieces 2))), ((a_t_after_e 3), .inr (3, [.ref (a_t_after_e_pieces 3), .int (t_after_e_people 3)])), ((a_t_after_e_pieces 3), .inl (cT 0, 10, .inl (t_after_e_pieces 3))), ((a_t_after_e 4), .inr (3, [.ref (a_t_after_e_pieces 4), .int (t_after_e_people 4)])), ((a_t_after_e_pieces 4), .inl (cT 0, 10, .inl (t_after_e_pieces 4))), (a_t_hears, .inl (cT 6, 4, .inr (.inr (.inr (.inr (fun i => if i < 4 then some (a_t_hears_e i) else none)))))), ((a_t_hears_e 0), .inl (cT 0, 10, .inl (t_hears_e 0))), ((a_t_hears_e 1), .inl (cT 0, 10, .inl (t_hears_e 1))), ((a_t_hears_e 2), .inl (cT 0, 10, .inl (t_hears_e 2))), ((a_t_hears_e 3), .inl (cT 0, 10, .inl (t_hears_e 3))), (a_t_talks, .inl (cT 6, 4, .inr (.inr (.inr (.inr (fun i => if i < 4 then some (a_t_talks_e i) else none)))))), ((a_t_talks_e 0), .inl (cT 0, 10, .inl (t_talks_e 0))), ((a_t_talks_e 1), .inl (cT 0, 10, .inl (t_talks_e 1))), ((a_t_talks_e 2), .inl (cT 0, 10, .inl (t_talks_e 2))), ((a_t_talks_e 3), .inl (cT 0, 10, .inl (t_talks_e 3)))]) rfl ?_
    refine xi_aload C 8 dX6_tryPair_56 rfl ?_
    refine xi_iload_n C 3 dX6_tryPair_58 rfl ?_
    refine xi_iload C 6 dX6_tryPair_59 rfl ?_
    refine xi_iload C 7 dX6_tryPair_61 rfl ?_
    refine xi_ior C dX6_tryPair_63 ?_
    refine xi_iast C 5 rfl c35 dX6_tryPair_64 (ws2 := [(a_t, .inr (6, [.ref a_t_after, .ref a_t_hears, .ref a_t_talks, .int t_people, .int t_limit])), (a_t_after, .inl (cT 5, 5, .inr (.inr (.inr (.inr (fun i => if i < 5 then some (a_t_after_e i) else none)))))), ((a_t_after_e 0), .inr (3, [.ref (a_t_after_e_pieces 0), .int (t_after_e_people 0)])), ((a_t_after_e_pieces 0), .inl (cT 0, 10, .inl (t_after_e_pieces 0))), ((a_t_after_e 1), .inr (3, [.ref (a_t_after_e_pieces 1), .int (t_after_e_people 1)])), ((a_t_after_e_pieces 1), .inl (cT 0, 10, .inl (upd (upd (t_after_e_pieces 1) x2.toNatClampNeg (((t_after_e_pieces 0) x2.toNatClampNeg) ||| ((t_after_e_pieces 0) x3.toNatClampNeg))) x3.toNatClampNeg (((t_after_e_pieces 0) x2.toNatClampNeg) ||| ((t_after_e_pieces 0) x3.toNatClampNeg))))), ((a_t_after_e 2), .inr (3, [.ref (a_t_after_e_pieces 2), .int (t_after_e_people 2)])), ((a_t_after_e_pieces 2), .inl (cT 0, 10, .inl (t_after_e_pieces 2))), ((a_t_after_e 3), .inr (3, [.ref (a_t_after_e_pieces 3), .int (t_after_e_people 3)])), ((a_t_after_e_pieces 3), .inl (cT 0, 10, .inl (t_after_e_pieces 3))), ((a_t_after_e 4), .inr (3, [.ref (a_t_after_e_pieces 4), .int (t_after_e_people 4)])), ((a_t_after_e_pieces 4), .inl (cT 0, 10, .inl (t_after_e_pieces 4))), (a_t_hears, .inl (cT 6, 4, .inr (.inr (.inr (.inr (fun i => if i < 4 then some (a_t_hears_e i) else none)))))), ((a_t_hears_e 0), .inl (cT 0, 10, .inl (t_hears_e 0))), ((a_t_hears_e 1), .inl (cT 0, 10, .inl (t_hears_e 1))), ((a_t_hears_e 2), .inl (cT 0, 10, .inl (t_hears_e 2))), ((a_t_hears_e 3), .inl (cT 0, 10, .inl (t_hears_e 3))), (a_t_talks, .inl (cT 6, 4, .inr (.inr (.inr (.inr (fun i => if i < 4 then some (a_t_talks_e i) else none)))))), ((a_t_talks_e 0), .inl (cT 0, 10, .inl (t_talks_e 0))), ((a_t_talks_e 1), .inl (cT 0, 10, .inl (t_talks_e 1))), ((a_t_talks_e 2), .inl (cT 0, 10, .inl (t_talks_e 2))), ((a_t_talks_e 3), .inl (cT 0, 10, .inl (t_talks_e 3)))]) rfl ?_
    refine xi_aload_n C 0 dX6_tryPair_65 rfl ?_
    refine xi_get C zkX6 2 0 zlX6_22 (by decide) rfl rfl dX6_tryPair_66 ?_
    refine xi_iload_n C 1 dX6_tryPair_69 rfl ?_
    replace h := ig h
    obtain ⟨c38, h⟩ := h
    refine xi_aaldA C 17 (b := (a_t_talks_e 0)) rfl c38 (by rw [hj3]; rfl) dX6_tryPair_70 ?_
    refine xi_iload_n C 2 dX6_tryPair_71 rfl ?_
    refine xi_iald C 18 rfl c34 dX6_tryPair_72 ?_
    refine xi_iload_n C 3 dX6_tryPair_73 rfl ?_
    refine xi_callSr C (kX10_isIn l D cT ((t_talks_e 0) x2.toNatClampNeg) x3 (fX10_isIn ((t_talks_e 0) x2.toNatClampNeg) x3) rfl) zcX10_isIn zmX6_80 zsX10_isIn (zrb hb rfl rfl rfl) z00 rfl [] rfl rfl rfl (Nat.le_of_ble_eq_true rfl) dX6_tryPair_74 (fun z41 => ?_)
    refine xi_if_eq C (tgt := 92) dX6_tryPair_77 rfl (fun c42 => ?_) (fun c42 => ?_)
    · replace h := (if_pos c42).symm.trans h
      refine xi_aload C 8 dX6_tryPair_92 rfl ?_
      refine xi_iload_n C 2 dX6_tryPair_94 rfl ?_
      refine xi_iload C 6 dX6_tryPair_95 rfl ?_
      refine xi_iast C 5 rfl c34 dX6_tryPair_97 (ws2 := [(a_t, .inr (6, [.ref a_t_after, .ref a_t_hears, .ref a_t_talks, .int t_people, .int t_limit])), (a_t_after, .inl (cT 5, 5, .inr (.inr (.inr (.inr (fun i => if i < 5 then some (a_t_after_e i) else none)))))), ((a_t_after_e 0), .inr (3, [.ref (a_t_after_e_pieces 0), .int (t_after_e_people 0)])), ((a_t_after_e_pieces 0), .inl (cT 0, 10, .inl (t_after_e_pieces 0))), ((a_t_after_e 1), .inr (3, [.ref (a_t_after_e_pieces 1), .int (t_after_e_people 1)])), ((a_t_after_e_pieces 1), .inl (cT 0, 10, .inl (upd (upd (upd (t_after_e_pieces 1) x2.toNatClampNeg (((t_after_e_pieces 0) x2.toNatClampNeg) ||| ((t_after_e_pieces 0) x3.toNatClampNeg))) x3.toNatClampNeg (((t_after_e_pieces 0) x2.toNatClampNeg) ||| ((t_after_e_pieces 0) x3.toNatClampNeg))) x2.toNatClampNeg ((t_after_e_pieces 0) x2.toNatClampNeg)))), ((a_t_after_e 2), .inr (3, [.ref (a_t_after_e_pieces 2), .int (t_after_e_people 2)])), ((a_t_after_e_pieces 2), .inl (cT 0, 10, .inl (t_after_e_pieces 2))), ((a_t_after_e 3), .inr (3, [.ref (a_t_after_e_pieces 3), .int (t_after_e_people 3)])), ((a_t_after_e_pieces 3), .inl (cT 0, 10, .inl (t_after_e_pieces 3))), ((a_t_after_e 4), .inr (3, [.ref (a_t_after_e_pieces 4), .int (t_after_e_people 4)])), ((a_t_after_e_pieces 4), .inl (cT 0, 10, .inl (t_after_e_pieces 4))), (a_t_hears, .inl (cT 6, 4, .inr (.inr (.inr (.inr (fun i => if i < 4 then some (a_t_hears_e i) else none)))))), ((a_t_hears_e 0), .inl (cT 0, 10, .inl (t_hears_e 0))), ((a_t_hears_e 1), .inl (cT 0, 10, .inl (t_hears_e 1))), ((a_t_hears_e 2), .inl (cT 0, 10, .inl (t_hears_e 2))), ((a_t_hears_e 3), .inl (cT 0, 10, .inl (t_hears_e 3))), (a_t_talks, .inl (cT 6, 4, .inr (.inr (.inr (.inr (fun i => if i < 4 then some (a_t_talks_e i) else none)))))), ((a_t_talks_e 0), .inl (cT 0, 10, .inl (t_talks_e 0))), ((a_t_talks_e 1), .inl (cT 0, 10, .inl (t_talks_e 1))), ((a_t_talks_e 2), .inl (cT 0, 10, .inl (t_talks_e 2))), ((a_t_talks_e 3), .inl (cT 0, 10, .inl (t_talks_e 3)))]) rfl ?_
      refine xi_aload_n C 0 dX6_tryPair_98 rfl ?_
      refine xi_get C zkX6 1 0 zlX6_19 (by decide) rfl rfl dX6_tryPair_99 ?_
      refine xi_iload_n C 1 dX6_tryPair_102 rfl ?_
      refine xi_aaldA C 12 (b := (a_t_hears_e 0)) rfl c38 (by rw [hj3]; rfl) dX6_tryPair_103 ?_
      refine xi_iload_n C 3 dX6_tryPair_104 rfl ?_
      refine xi_iald C 13 rfl c35 dX6_tryPair_105 ?_
      refine xi_iload_n C 2 dX6_tryPair_106 rfl ?_
      refine xi_callSr C (kX10_isIn l D cT ((t_hears_e 0) x3.toNatClampNeg) x2 (fX10_isIn ((t_hears_e 0) x3.toNatClampNeg) x2) rfl) zcX10_isIn zmX6_80 zsX10_isIn (zrb hb rfl rfl rfl) z00 rfl [] rfl rfl rfl (Nat.le_of_ble_eq_true rfl) dX6_tryPair_107 (fun z45 => ?_)
      refine xi_if_eq C (tgt := 129) dX6_tryPair_110 rfl (fun c46 => ?_) (fun c46 => ?_)
      · replace h := (if_pos c46).symm.trans h
        refine xi_drop (L2 := [(0, .ref a_t), (1, .int x1), (2, .int x2), (3, .int x3), (5, .int x5), (6, .int ((t_after_e_pieces 0) x2.toNatClampNeg)), (7, .int ((t_after_e_pieces 0) x3.toNatClampNeg)), (8, .ref (a_t_after_e_pieces 1)), (9, .int (x4 ||| (1 <<< (x3 &&& 31))))]) [0, 1, 2, 3, 5, 6, 7, 8, 9] rfl ?_
        exact B129_0 hj3 hj37 c38 c1 c36 ((t_after_e_pieces 0) x2.toNatClampNeg) ((t_after_e_pieces 0) x3.toNatClampNeg) (x4 ||| (1 <<< (x3 &&& 31))) (va_up t_after_e_pieces 1 (upd (upd (upd (t_after_e_pieces 1) x2.toNatClampNeg (((t_after_e_pieces 0) x2.toNatClampNeg) ||| ((t_after_e_pieces 0) x3.toNatClampNeg))) x3.toNatClampNeg (((t_after_e_pieces 0) x2.toNatClampNeg) ||| ((t_after_e_pieces 0) x3.toNatClampNeg))) x2.toNatClampNeg ((t_after_e_pieces 0) x2.toNatClampNeg))) h
      · replace h := (if_neg c46).symm.trans h
        refine xi_aload_n C 0 dX6_tryPair_113 rfl ?_
        refine xi_iload_n C 1 dX6_tryPair_114 rfl ?_
        refine xi_iload_n C 2 dX6_tryPair_115 rfl ?_
        refine xi_iload_n C 3 dX6_tryPair_116 rfl ?_
        refine xi_iload C 9 dX6_tryPair_117 rfl ?_
        refine xi_iload C 5 dX6_tryPair_119 rfl ?_
        replace h := ob h
        obtain ⟨u57, hu58, h⟩ := h
        refine xi_callV C (kX6_goOn l D cT RP b hb a_t a_t_after a_t_hears a_t_talks a_t_after_e a_t_after_e_pieces a_t_hears_e a_t_talks_e t_people t_limit t_after_e_people (va_up t_after_e_pieces 1 (upd (upd (upd (t_after_e_pieces 1) x2.toNatClampNeg (((t_after_e_pieces 0) x2.toNatClampNeg) ||| ((t_after_e_pieces 0) x3.toNatClampNeg))) x3.toNatClampNeg (((t_after_e_pieces 0) x2.toNatClampNeg) ||| ((t_after_e_pieces 0) x3.toNatClampNeg))) x2.toNatClampNeg ((t_after_e_pieces 0) x2.toNatClampNeg))) t_hears_e t_talks_e x1 x2 x3 (x4 ||| (1 <<< (x3 &&& 31))) x5 hRP u57 hu58) zcX6_goOn zmX6_112 ziX6_goOn (zrd (b := b) (c := 1) (d := 2) rfl rfl) z00 rfl [0, 1, 2, 3, 4, 5, 6, 7, 8, 9, 10, 11, 12, 13, 14, 15, 16, 17, 18, 19, 20, 21] rfl rfl rfl [some 0, some 1, some 2, some 3, some 4, some 5, some 6, some 7, some 8, some 9, some 10, some 11, some 12, some 13, some 14, some 15, some 16, some 17, some 18, some 19, some 20, some 21] (by decide +kernel) (ws2 := [(a_t, .inr (6, [.ref a_t_after, .ref a_t_hears, .ref a_t_talks, .int t_people, .int t_limit])), (a_t_after, .inl (cT 5, 5, .inr (.inr (.inr (.inr (fun i => if i < 5 then some (a_t_after_e i) else none)))))), ((a_t_after_e 0), .inr (3, [.ref (a_t_after_e_pieces 0), .int (t_after_e_people 0)])), ((a_t_after_e_pieces 0), .inl (cT 0, 10, .inl (u57.2 0))), ((a_t_after_e 1), .inr (3, [.ref (a_t_after_e_pieces 1), .int (t_after_e_people 1)])), ((a_t_after_e_pieces 1), .inl (cT 0, 10, .inl (u57.2 1))), ((a_t_after_e 2), .inr (3, [.ref (a_t_after_e_pieces 2), .int (t_after_e_people 2)])), ((a_t_after_e_pieces 2), .inl (cT 0, 10, .inl (u57.2 2))), ((a_t_after_e 3), .inr (3, [.ref (a_t_after_e_pieces 3), .int (t_after_e_people 3)])), ((a_t_after_e_pieces 3), .inl (cT 0, 10, .inl (u57.2 3))), ((a_t_after_e 4), .inr (3, [.ref (a_t_after_e_pieces 4), .int (t_after_e_people 4)])), ((a_t_after_e_pieces 4), .inl (cT 0, 10, .inl (u57.2 4))), (a_t_hears, .inl (cT 6, 4, .inr (.inr (.inr (.inr (fun i => if i < 4 then some (a_t_hears_e i) else none)))))), ((a_t_hears_e 0), .inl (cT 0, 10, .inl (t_hears_e 0))), ((a_t_hears_e 1), .inl (cT 0, 10, .inl (t_hears_e 1))), ((a_t_hears_e 2), .inl (cT 0, 10, .inl (t_hears_e 2))), ((a_t_hears_e 3), .inl (cT 0, 10, .inl (t_hears_e 3))), (a_t_talks, .inl (cT 6, 4, .inr (.inr (.inr (.inr (fun i => if i < 4 then some (a_t_talks_e i) else none)))))), ((a_t_talks_e 0), .inl (cT 0, 10, .inl (t_talks_e 0))), ((a_t_talks_e 1), .inl (cT 0, 10, .inl (t_talks_e 1))), ((a_t_talks_e 2), .inl (cT 0, 10, .inl (t_talks_e 2))), ((a_t_talks_e 3), .inl (cT 0, 10, .inl (t_talks_e 3)))]) rfl zkX6.1 (qr := 0) rfl rfl (Nat.le_of_ble_eq_true rfl) dX6_tryPair_121 (fun z59 => ?_)
        refine xi_if_eq C (tgt := 129) dX6_tryPair_124 rfl (fun c60 => ?_) (fun c60 => ?_)
        · replace h := (if_pos c60).symm.trans h
          refine xi_drop (L2 := [(0, .ref a_t), (1, .int x1), (2, .int x2), (3, .int x3), (5, .int x5), (6, .int ((t_after_e_pieces 0) x2.toNatClampNeg)), (7, .int ((t_after_e_pieces 0) x3.toNatClampNeg)), (8, .ref (a_t_after_e_pieces 1)), (9, .int (x4 ||| (1 <<< (x3 &&& 31))))]) [0, 1, 2, 3, 5, 6, 7, 8, 9] rfl ?_
          exact B129_0 hj3 hj37 c38 c1 c36 ((t_after_e_pieces 0) x2.toNatClampNeg) ((t_after_e_pieces 0) x3.toNatClampNeg) (x4 ||| (1 <<< (x3 &&& 31))) u57.2 h
        · replace h := (if_neg c60).symm.trans h
          refine xi_iconst C (v := 1) dX6_tryPair_127 rfl ?_
          obtain rfl := Option.some.inj h
          exact hE _ _ _ dX6_tryPair_128 rfl rfl
    · replace h := (if_neg c42).symm.trans h
      refine xi_aload_n C 0 dX6_tryPair_80 rfl ?_
      refine xi_iload_n C 1 dX6_tryPair_81 rfl ?_
      refine xi_iload_n C 2 dX6_tryPair_82 rfl ?_
      refine xi_iload_n C 3 dX6_tryPair_83 rfl ?_
      refine xi_iload C 9 dX6_tryPair_84 rfl ?_
      refine xi_iload C 5 dX6_tryPair_86 rfl ?_
      replace h := ob h
      obtain ⟨u61, hu62, h⟩ := h
      refine xi_callV C (kX6_goOn l D cT RP b hb a_t a_t_after a_t_hears a_t_talks a_t_after_e a_t_after_e_pieces a_t_hears_e a_t_talks_e t_people t_limit t_after_e_people (va_up t_after_e_pieces 1 (upd (upd (t_after_e_pieces 1) x2.toNatClampNeg (((t_after_e_pieces 0) x2.toNatClampNeg) ||| ((t_after_e_pieces 0) x3.toNatClampNeg))) x3.toNatClampNeg (((t_after_e_pieces 0) x2.toNatClampNeg) ||| ((t_after_e_pieces 0) x3.toNatClampNeg)))) t_hears_e t_talks_e x1 x2 x3 (x4 ||| (1 <<< (x3 &&& 31))) x5 hRP u61 hu62) zcX6_goOn zmX6_112 ziX6_goOn (zrd (b := b) (c := 1) (d := 2) rfl rfl) z00 rfl [0, 1, 2, 3, 4, 5, 6, 7, 8, 9, 10, 11, 12, 13, 14, 15, 16, 17, 18, 19, 20, 21] rfl rfl rfl [some 0, some 1, some 2, some 3, some 4, some 5, some 6, some 7, some 8, some 9, some 10, some 11, some 12, some 13, some 14, some 15, some 16, some 17, some 18, some 19, some 20, some 21] (by decide +kernel) (ws2 := [(a_t, .inr (6, [.ref a_t_after, .ref a_t_hears, .ref a_t_talks, .int t_people, .int t_limit])), (a_t_after, .inl (cT 5, 5, .inr (.inr (.inr (.inr (fun i => if i < 5 then some (a_t_after_e i) else none)))))), ((a_t_after_e 0), .inr (3, [.ref (a_t_after_e_pieces 0), .int (t_after_e_people 0)])), ((a_t_after_e_pieces 0), .inl (cT 0, 10, .inl (u61.2 0))), ((a_t_after_e 1), .inr (3, [.ref (a_t_after_e_pieces 1), .int (t_after_e_people 1)])), ((a_t_after_e_pieces 1), .inl (cT 0, 10, .inl (u61.2 1))), ((a_t_after_e 2), .inr (3, [.ref (a_t_after_e_pieces 2), .int (t_after_e_people 2)])), ((a_t_after_e_pieces 2), .inl (cT 0, 10, .inl (u61.2 2))), ((a_t_after_e 3), .inr (3, [.ref (a_t_after_e_pieces 3), .int (t_after_e_people 3)])), ((a_t_after_e_pieces 3), .inl (cT 0, 10, .inl (u61.2 3))), ((a_t_after_e 4), .inr (3, [.ref (a_t_after_e_pieces 4), .int (t_after_e_people 4)])), ((a_t_after_e_pieces 4), .inl (cT 0, 10, .inl (u61.2 4))), (a_t_hears, .inl (cT 6, 4, .inr (.inr (.inr (.inr (fun i => if i < 4 then some (a_t_hears_e i) else none)))))), ((a_t_hears_e 0), .inl (cT 0, 10, .inl (t_hears_e 0))), ((a_t_hears_e 1), .inl (cT 0, 10, .inl (t_hears_e 1))), ((a_t_hears_e 2), .inl (cT 0, 10, .inl (t_hears_e 2))), ((a_t_hears_e 3), .inl (cT 0, 10, .inl (t_hears_e 3))), (a_t_talks, .inl (cT 6, 4, .inr (.inr (.inr (.inr (fun i => if i < 4 then some (a_t_talks_e i) else none)))))), ((a_t_talks_e 0), .inl (cT 0, 10, .inl (t_talks_e 0))), ((a_t_talks_e 1), .inl (cT 0, 10, .inl (t_talks_e 1))), ((a_t_talks_e 2), .inl (cT 0, 10, .inl (t_talks_e 2))), ((a_t_talks_e 3), .inl (cT 0, 10, .inl (t_talks_e 3)))]) rfl zkX6.1 (qr := 0) rfl rfl (Nat.le_of_ble_eq_true rfl) dX6_tryPair_88 (fun z63 => ?_)
      obtain rfl := Option.some.inj h
      exact hE _ _ _ dX6_tryPair_91 rfl (z63 _ rfl _ rfl)
  · replace h := nmE hj3.symm h
    refine xi_aald C 1 5 (b := (a_t_after_e 1)) rfl rfl c1 (by rw [hj3]; rfl) dX6_tryPair_5 ?_
    refine xi_get C zkX3 0 4 zlX6_102 (by decide) rfl rfl dX6_tryPair_6 ?_
    refine xi_iload_n C 2 dX6_tryPair_9 rfl ?_
    replace h := ig h
    obtain ⟨c64, h⟩ := h
    refine xi_iald C 5 rfl c64 dX6_tryPair_10 ?_
    refine xi_istore C [1, 2, 3, 4, 5, 6, 0] (L2 := [(0, .ref a_t), (1, .int x1), (2, .int x2), (3, .int x3), (4, .int x4), (5, .int x5), (6, .int ((t_after_e_pieces 1) x2.toNatClampNeg))]) dX6_tryPair_11 (Nat.le_of_ble_eq_true rfl) rfl ?_
    refine xi_aload_n C 0 dX6_tryPair_13 rfl ?_
    refine xi_get C zkX6 0 0 zlX6_11 (by decide) rfl rfl dX6_tryPair_14 ?_
    refine xi_iload_n C 1 dX6_tryPair_17 rfl ?_
    refine xi_aald C 1 5 (b := (a_t_after_e 1)) rfl rfl c1 (by rw [hj3]; rfl) dX6_tryPair_18 ?_
    refine xi_get C zkX3 0 4 zlX6_102 (by decide) rfl rfl dX6_tryPair_19 ?_
    refine xi_iload_n C 3 dX6_tryPair_22 rfl ?_
    replace h := ig h
    obtain ⟨c65, h⟩ := h
    refine xi_iald C 5 rfl c65 dX6_tryPair_23 ?_
    refine xi_istore C [1, 2, 3, 4, 5, 6, 7, 0] (L2 := [(0, .ref a_t), (1, .int x1), (2, .int x2), (3, .int x3), (4, .int x4), (5, .int x5), (6, .int ((t_after_e_pieces 1) x2.toNatClampNeg)), (7, .int ((t_after_e_pieces 1) x3.toNatClampNeg))]) dX6_tryPair_24 (Nat.le_of_ble_eq_true rfl) rfl ?_
    refine xi_aload_n C 0 dX6_tryPair_26 rfl ?_
    refine xi_get C zkX6 0 0 zlX6_11 (by decide) rfl rfl dX6_tryPair_27 ?_
    refine xi_iload_n C 1 dX6_tryPair_30 rfl ?_
    refine xi_iconst C (v := 1) dX6_tryPair_31 rfl ?_
    refine xi_iadd C dX6_tryPair_32 ?_
    replace h := ig h
    obtain ⟨c66, h⟩ := h
    have hj67 : (x1 + 1).toNatClampNeg = 2 := zks c1 hj3 (by decide)
    refine xi_aald C 1 5 (b := (a_t_after_e 2)) rfl rfl c66 (by rw [hj67]; rfl) dX6_tryPair_33 ?_
    refine xi_get C zkX3 0 6 zlX6_102 (by decide) rfl rfl dX6_tryPair_34 ?_
    refine xi_astore C [1, 2, 3, 4, 5, 6, 7, 8, 0] (L2 := [(0, .ref a_t), (1, .int x1), (2, .int x2), (3, .int x3), (4, .int x4), (5, .int x5), (6, .int ((t_after_e_pieces 1) x2.toNatClampNeg)), (7, .int ((t_after_e_pieces 1) x3.toNatClampNeg)), (8, .ref (a_t_after_e_pieces 2))]) dX6_tryPair_37 (Nat.le_of_ble_eq_true rfl) rfl ?_
    refine xi_iload C 4 dX6_tryPair_39 rfl ?_
    refine xi_iconst C (v := 1) dX6_tryPair_41 rfl ?_
    refine xi_iload_n C 3 dX6_tryPair_42 rfl ?_
    refine xi_ishl C dX6_tryPair_43 ?_
    refine xi_ior C dX6_tryPair_44 ?_
    refine xi_istore C [1, 2, 3, 4, 5, 6, 7, 8, 9, 0] (L2 := [(0, .ref a_t), (1, .int x1), (2, .int x2), (3, .int x3), (4, .int x4), (5, .int x5), (6, .int ((t_after_e_pieces 1) x2.toNatClampNeg)), (7, .int ((t_after_e_pieces 1) x3.toNatClampNeg)), (8, .ref (a_t_after_e_pieces 2)), (9, .int (x4 ||| (1 <<< (x3 &&& 31))))]) dX6_tryPair_45 (Nat.le_of_ble_eq_true rfl) rfl ?_
    refine xi_aload C 8 dX6_tryPair_47 rfl ?_
    refine xi_iload_n C 2 dX6_tryPair_49 rfl ?_
    refine xi_iload C 6 dX6_tryPair_50 rfl ?_
    refine xi_iload C 7 dX6_tryPair_52 rfl ?_
    refine xi_ior C dX6_tryPair_54 ?_
    refine xi_iast C 7 rfl c64 dX6_tryPair_55 (ws2 := [(a_t, .inr (6, [.ref a_t_after, .ref a_t_hears, .ref a_t_talks, .int t_people, .int t_limit])), (a_t_after, .inl (cT 5, 5, .inr (.inr (.inr (.inr (fun i => if i < 5 then some (a_t_after_e i) else none)))))), ((a_t_after_e 0), .inr (3, [.ref (a_t_after_e_pieces 0), .int (t_after_e_people 0)])), ((a_t_after_e_pieces 0), .inl (cT 0, 10, .inl (t_after_e_pieces 0))), ((a_t_after_e 1), .inr (3, [.ref (a_t_after_e_pieces 1), .int (t_after_e_people 1)])), ((a_t_after_e_pieces 1), .inl (cT 0, 10, .inl (t_after_e_pieces 1))), ((a_t_after_e 2), .inr (3, [.ref (a_t_after_e_pieces 2), .int (t_after_e_people 2)])), ((a_t_after_e_pieces 2), .inl (cT 0, 10, .inl (upd (t_after_e_pieces 2) x2.toNatClampNeg (((t_after_e_pieces 1) x2.toNatClampNeg) ||| ((t_after_e_pieces 1) x3.toNatClampNeg))))), ((a_t_after_e 3), .inr (3, [.ref (a_t_after_e_pieces 3), .int (t_after_e_people 3)])), ((a_t_after_e_pieces 3), .inl (cT 0, 10, .inl (t_after_e_pieces 3))), ((a_t_after_e 4), .inr (3, [.ref (a_t_after_e_pieces 4), .int (t_after_e_people 4)])), ((a_t_after_e_pieces 4), .inl (cT 0, 10, .inl (t_after_e_pieces 4))), (a_t_hears, .inl (cT 6, 4, .inr (.inr (.inr (.inr (fun i => if i < 4 then some (a_t_hears_e i) else none)))))), ((a_t_hears_e 0), .inl (cT 0, 10, .inl (t_hears_e 0))), ((a_t_hears_e 1), .inl (cT 0, 10, .inl (t_hears_e 1))), ((a_t_hears_e 2), .inl (cT 0, 10, .inl (t_hears_e 2))), ((a_t_hears_e 3), .inl (cT 0, 10, .inl (t_hears_e 3))), (a_t_talks, .inl (cT 6, 4, .inr (.inr (.inr (.inr (fun i => if i < 4 then some (a_t_talks_e i) else none)))))), ((a_t_talks_e 0), .inl (cT 0, 10, .inl (t_talks_e 0))), ((a_t_talks_e 1), .inl (cT 0, 10, .inl (t_talks_e 1))), ((a_t_talks_e 2), .inl (cT 0, 10, .inl (t_talks_e 2))), ((a_t_talks_e 3), .inl (cT 0, 10, .inl (t_talks_e 3)))]) rfl ?_
    refine xi_aload C 8 dX6_tryPair_56 rfl ?_
    refine xi_iload_n C 3 dX6_tryPair_58 rfl ?_
    refine xi_iload C 6 dX6_tryPair_59 rfl ?_
    refine xi_iload C 7 dX6_tryPair_61 rfl ?_
    refine xi_ior C dX6_tryPair_63 ?_
    refine xi_iast C 7 rfl c65 dX6_tryPair_64 (ws2 := [(a_t, .inr (6, [.ref a_t_after, .ref a_t_hears, .ref a_t_talks, .int t_people, .int t_limit])), (a_t_after, .inl (cT 5, 5, .inr (.inr (.inr (.inr (fun i => if i < 5 then some (a_t_after_e i) else none)))))), ((a_t_after_e 0), .inr (3, [.ref (a_t_after_e_pieces 0), .int (t_after_e_people 0)])), ((a_t_after_e_pieces 0), .inl (cT 0, 10, .inl (t_after_e_pieces 0))), ((a_t_after_e 1), .inr (3, [.ref (a_t_after_e_pieces 1), .int (t_after_e_people 1)])), ((a_t_after_e_pieces 1), .inl (cT 0, 10, .inl (t_after_e_pieces 1))), ((a_t_after_e 2), .inr (3, [.ref (a_t_after_e_pieces 2), .int (t_after_e_people 2)])), ((a_t_after_e_pieces 2), .inl (cT 0, 10, .inl (upd (upd (t_after_e_pieces 2) x2.toNatClampNeg (((t_after_e_pieces 1) x2.toNatClampNeg) ||| ((t_after_e_pieces 1) x3.toNatClampNeg))) x3.toNatClampNeg (((t_after_e_pieces 1) x2.toNatClampNeg) ||| ((t_after_e_pieces 1) x3.toNatClampNeg))))), ((a_t_after_e 3), .inr (3, [.ref (a_t_after_e_pieces 3), .int (t_after_e_people 3)])), ((a_t_after_e_pieces 3), .inl (cT 0, 10, .inl (t_after_e_pieces 3))), ((a_t_after_e 4), .inr (3, [.ref (a_t_after_e_pieces 4), .int (t_after_e_people 4)])), ((a_t_after_e_pieces 4), .inl (cT 0, 10, .inl (t_after_e_pieces 4))), (a_t_hears, .inl (cT 6, 4, .inr (.inr (.inr (.inr (fun i => if i < 4 then some (a_t_hears_e i) else none)))))), ((a_t_hears_e 0), .inl (cT 0, 10, .inl (t_hears_e 0))), ((a_t_hears_e 1), .inl (cT 0, 10, .inl (t_hears_e 1))), ((a_t_hears_e 2), .inl (cT 0, 10, .inl (t_hears_e 2))), ((a_t_hears_e 3), .inl (cT 0, 10, .inl (t_hears_e 3))), (a_t_talks, .inl (cT 6, 4, .inr (.inr (.inr (.inr (fun i => if i < 4 then some (a_t_talks_e i) else none)))))), ((a_t_talks_e 0), .inl (cT 0, 10, .inl (t_talks_e 0))), ((a_t_talks_e 1), .inl (cT 0, 10, .inl (t_talks_e 1))), ((a_t_talks_e 2), .inl (cT 0, 10, .inl (t_talks_e 2))), ((a_t_talks_e 3), .inl (cT 0, 10, .inl (t_talks_e 3)))]) rfl ?_
    refine xi_aload_n C 0 dX6_tryPair_65 rfl ?_
    refine xi_get C zkX6 2 0 zlX6_22 (by decide) rfl rfl dX6_tryPair_66 ?_
    refine xi_iload_n C 1 dX6_tryPair_69 rfl ?_
    replace h := ig h
    obtain ⟨c68, h⟩ := h
    refine xi_aaldA C 17 (b := (a_t_talks_e 1)) rfl c68 (by rw [hj3]; rfl) dX6_tryPair_70 ?_
    refine xi_iload_n C 2 dX6_tryPair_71 rfl ?_
    refine xi_iald C 19 rfl c64 dX6_tryPair_72 ?_
    refine xi_iload_n C 3 dX6_tryPair_73 rfl ?_
    refine xi_callSr C (kX10_isIn l D cT ((t_talks_e 1) x2.toNatClampNeg) x3 (fX10_isIn ((t_talks_e 1) x2.toNatClampNeg) x3) rfl) zcX10_isIn zmX6_80 zsX10_isIn (zrb hb rfl rfl rfl) z00 rfl [] rfl rfl rfl (Nat.le_of_ble_eq_true rfl) dX6_tryPair_74 (fun z71 => ?_)
    refine xi_if_eq C (tgt := 92) dX6_tryPair_77 rfl (fun c72 => ?_) (fun c72 => ?_)
    · replace h := (if_pos c72).symm.trans h
      refine xi_aload C 8 dX6_tryPair_92 rfl ?_
      refine xi_iload_n C 2 dX6_tryPair_94 rfl ?_
      refine xi_iload C 6 dX6_tryPair_95 rfl ?_
      refine xi_iast C 7 rfl c64 dX6_tryPair_97 (ws2 := [(a_t, .inr (6, [.ref a_t_after, .ref a_t_hears, .ref a_t_talks, .int t_people, .int t_limit])), (a_t_after, .inl (cT 5, 5, .inr (.inr (.inr (.inr (fun i => if i < 5 then some (a_t_after_e i) else none)))))), ((a_t_after_e 0), .inr (3, [.ref (a_t_after_e_pieces 0), .int (t_after_e_people 0)])), ((a_t_after_e_pieces 0), .inl (cT 0, 10, .inl (t_after_e_pieces 0))), ((a_t_after_e 1), .inr (3, [.ref (a_t_after_e_pieces 1), .int (t_after_e_people 1)])), ((a_t_after_e_pieces 1), .inl (cT 0, 10, .inl (t_after_e_pieces 1))), ((a_t_after_e 2), .inr (3, [.ref (a_t_after_e_pieces 2), .int (t_after_e_people 2)])), ((a_t_after_e_pieces 2), .inl (cT 0, 10, .inl (upd (upd (upd (t_after_e_pieces 2) x2.toNatClampNeg (((t_after_e_pieces 1) x2.toNatClampNeg) ||| ((t_after_e_pieces 1) x3.toNatClampNeg))) x3.toNatClampNeg (((t_after_e_pieces 1) x2.toNatClampNeg) ||| ((t_after_e_pieces 1) x3.toNatClampNeg))) x2.toNatClampNeg ((t_after_e_pieces 1) x2.toNatClampNeg)))), ((a_t_after_e 3), .inr (3, [.ref (a_t_after_e_pieces 3), .int (t_after_e_people 3)])), ((a_t_after_e_pieces 3), .inl (cT 0, 10, .inl (t_after_e_pieces 3))), ((a_t_after_e 4), .inr (3, [.ref (a_t_after_e_pieces 4), .int (t_after_e_people 4)])), ((a_t_after_e_pieces 4), .inl (cT 0, 10, .inl (t_after_e_pieces 4))), (a_t_hears, .inl (cT 6, 4, .inr (.inr (.inr (.inr (fun i => if i < 4 then some (a_t_hears_e i) else none)))))), ((a_t_hears_e 0), .inl (cT 0, 10, .inl (t_hears_e 0))), ((a_t_hears_e 1), .inl (cT 0, 10, .inl (t_hears_e 1))), ((a_t_hears_e 2), .inl (cT 0, 10, .inl (t_hears_e 2))), ((a_t_hears_e 3), .inl (cT 0, 10, .inl (t_hears_e 3))), (a_t_talks, .inl (cT 6, 4, .inr (.inr (.inr (.inr (fun i => if i < 4 then some (a_t_talks_e i) else none)))))), ((a_t_talks_e 0), .inl (cT 0, 10, .inl (t_talks_e 0))), ((a_t_talks_e 1), .inl (cT 0, 10, .inl (t_talks_e 1))), ((a_t_talks_e 2), .inl (cT 0, 10, .inl (t_talks_e 2))), ((a_t_talks_e 3), .inl (cT 0, 10, .inl (t_talks_e 3)))]) rfl ?_
      refine xi_aload_n C 0 dX6_tryPair_98 rfl ?_
      refine xi_get C zkX6 1 0 zlX6_19 (by decide) rfl rfl dX6_tryPair_99 ?_
      refine xi_iload_n C 1 dX6_tryPair_102 rfl ?_
      refine xi_aaldA C 12 (b := (a_t_hears_e 1)) rfl c68 (by rw [hj3]; rfl) dX6_tryPair_103 ?_
      refine xi_iload_n C 3 dX6_tryPair_104 rfl ?_
      refine xi_iald C 14 rfl c65 dX6_tryPair_105 ?_
      refine xi_iload_n C 2 dX6_tryPair_106 rfl ?_
      refine xi_callSr C (kX10_isIn l D cT ((t_hears_e 1) x3.toNatClampNeg) x2 (fX10_isIn ((t_hears_e 1) x3.toNatClampNeg) x2) rfl) zcX10_isIn zmX6_80 zsX10_isIn (zrb hb rfl rfl rfl) z00 rfl [] rfl rfl rfl (Nat.le_of_ble_eq_true rfl) dX6_tryPair_107 (fun z75 => ?_)
      refine xi_if_eq C (tgt := 129) dX6_tryPair_110 rfl (fun c76 => ?_) (fun c76 => ?_)
      · replace h := (if_pos c76).symm.trans h
        refine xi_drop (L2 := [(0, .ref a_t), (1, .int x1), (2, .int x2), (3, .int x3), (5, .int x5), (6, .int ((t_after_e_pieces 1) x2.toNatClampNeg)), (7, .int ((t_after_e_pieces 1) x3.toNatClampNeg)), (8, .ref (a_t_after_e_pieces 2)), (9, .int (x4 ||| (1 <<< (x3 &&& 31))))]) [0, 1, 2, 3, 5, 6, 7, 8, 9] rfl ?_
        exact B129_1 hj3 hj67 c68 c1 c66 ((t_after_e_pieces 1) x2.toNatClampNeg) ((t_after_e_pieces 1) x3.toNatClampNeg) (x4 ||| (1 <<< (x3 &&& 31))) (va_up t_after_e_pieces 2 (upd (upd (upd (t_after_e_pieces 2) x2.toNatClampNeg (((t_after_e_pieces 1) x2.toNatClampNeg) ||| ((t_after_e_pieces 1) x3.toNatClampNeg))) x3.toNatClampNeg (((t_after_e_pieces 1) x2.toNatClampNeg) ||| ((t_after_e_pieces 1) x3.toNatClampNeg))) x2.toNatClampNeg ((t_after_e_pieces 1) x2.toNatClampNeg))) h
      · replace h := (if_neg c76).symm.trans h
        refine xi_aload_n C 0 dX6_tryPair_113 rfl ?_
        refine xi_iload_n C 1 dX6_tryPair_114 rfl ?_
        refine xi_iload_n C 2 dX6_tryPair_115 rfl ?_
        refine xi_iload_n C 3 dX6_tryPair_116 rfl ?_
        refine xi_iload C 9 dX6_tryPair_117 rfl ?_
        refine xi_iload C 5 dX6_tryPair_119 rfl ?_
        replace h := ob h
        obtain ⟨u87, hu88, h⟩ := h
        refine xi_callV C (kX6_goOn l D cT RP b hb a_t a_t_after a_t_hears a_t_talks a_t_after_e a_t_after_e_pieces a_t_hears_e a_t_talks_e t_people t_limit t_after_e_people (va_up t_after_e_pieces 2 (upd (upd (upd (t_after_e_pieces 2) x2.toNatClampNeg (((t_after_e_pieces 1) x2.toNatClampNeg) ||| ((t_after_e_pieces 1) x3.toNatClampNeg))) x3.toNatClampNeg (((t_after_e_pieces 1) x2.toNatClampNeg) ||| ((t_after_e_pieces 1) x3.toNatClampNeg))) x2.toNatClampNeg ((t_after_e_pieces 1) x2.toNatClampNeg))) t_hears_e t_talks_e x1 x2 x3 (x4 ||| (1 <<< (x3 &&& 31))) x5 hRP u87 hu88) zcX6_goOn zmX6_112 ziX6_goOn (zrd (b := b) (c := 1) (d := 2) rfl rfl) z00 rfl [0, 1, 2, 3, 4, 5, 6, 7, 8, 9, 10, 11, 12, 13, 14, 15, 16, 17, 18, 19, 20, 21] rfl rfl rfl [some 0, some 1, some 2, some 3, some 4, some 5, some 6, some 7, some 8, some 9, some 10, some 11, some 12, some 13, some 14, some 15, some 16, some 17, some 18, some 19, some 20, some 21] (by decide +kernel) (ws2 := [(a_t, .inr (6, [.ref a_t_after, .ref a_t_hears, .ref a_t_talks, .int t_people, .int t_limit])), (a_t_after, .inl (cT 5, 5, .inr (.inr (.inr (.inr (fun i => if i < 5 then some (a_t_after_e i) else none)))))), ((a_t_after_e 0), .inr (3, [.ref (a_t_after_e_pieces 0), .int (t_after_e_people 0)])), ((a_t_after_e_pieces 0), .inl (cT 0, 10, .inl (u87.2 0))), ((a_t_after_e 1), .inr (3, [.ref (a_t_after_e_pieces 1), .int (t_after_e_people 1)])), ((a_t_after_e_pieces 1), .inl (cT 0, 10, .inl (u87.2 1))), ((a_t_after_e 2), .inr (3, [.ref (a_t_after_e_pieces 2), .int (t_after_e_people 2)])), ((a_t_after_e_pieces 2), .inl (cT 0, 10, .inl (u87.2 2))), ((a_t_after_e 3), .inr (3, [.ref (a_t_after_e_pieces 3), .int (t_after_e_people 3)])), ((a_t_after_e_pieces 3), .inl (cT 0, 10, .inl (u87.2 3))), ((a_t_after_e 4), .inr (3, [.ref (a_t_after_e_pieces 4), .int (t_after_e_people 4)])), ((a_t_after_e_pieces 4), .inl (cT 0, 10, .inl (u87.2 4))), (a_t_hears, .inl (cT 6, 4, .inr (.inr (.inr (.inr (fun i => if i < 4 then some (a_t_hears_e i) else none)))))), ((a_t_hears_e 0), .inl (cT 0, 10, .inl (t_hears_e 0))), ((a_t_hears_e 1), .inl (cT 0, 10, .inl (t_hears_e 1))), ((a_t_hears_e 2), .inl (cT 0, 10, .inl (t_hears_e 2))), ((a_t_hears_e 3), .inl (cT 0, 10, .inl (t_hears_e 3))), (a_t_talks, .inl (cT 6, 4, .inr (.inr (.inr (.inr (fun i => if i < 4 then some (a_t_talks_e i) else none)))))), ((a_t_talks_e 0), .inl (cT 0, 10, .inl (t_talks_e 0))), ((a_t_talks_e 1), .inl (cT 0, 10, .inl (t_talks_e 1))), ((a_t_talks_e 2), .inl (cT 0, 10, .inl (t_talks_e 2))), ((a_t_talks_e 3), .inl (cT 0, 10, .inl (t_talks_e 3)))]) rfl zkX6.1 (qr := 0) rfl rfl (Nat.le_of_ble_eq_true rfl) dX6_tryPair_121 (fun z89 => ?_)
        refine xi_if_eq C (tgt := 129) dX6_tryPair_124 rfl (fun c90 => ?_) (fun c90 => ?_)
        · replace h := (if_pos c90).symm.trans h
          refine xi_drop (L2 := [(0, .ref a_t), (1, .int x1), (2, .int x2), (3, .int x3), (5, .int x5), (6, .int ((t_after_e_pieces 1) x2.toNatClampNeg)), (7, .int ((t_after_e_pieces 1) x3.toNatClampNeg)), (8, .ref (a_t_after_e_pieces 2)), (9, .int (x4 ||| (1 <<< (x3 &&& 31))))]) [0, 1, 2, 3, 5, 6, 7, 8, 9] rfl ?_
          exact B129_1 hj3 hj67 c68 c1 c66 ((t_after_e_pieces 1) x2.toNatClampNeg) ((t_after_e_pieces 1) x3.toNatClampNeg) (x4 ||| (1 <<< (x3 &&& 31))) u87.2 h
        · replace h := (if_neg c90).symm.trans h
          refine xi_iconst C (v := 1) dX6_tryPair_127 rfl ?_
          obtain rfl := Option.some.inj h
          exact hE _ _ _ dX6_tryPair_128 rfl rfl
    · replace h := (if_neg c72).symm.trans h
      refine xi_aload_n C 0 dX6_tryPair_80 rfl ?_
      refine xi_iload_n C 1 dX6_tryPair_81 rfl ?_
      refine xi_iload_n C 2 dX6_tryPair_82 rfl ?_
      refine xi_iload_n C 3 dX6_tryPair_83 rfl ?_
      refine xi_iload C 9 dX6_tryPair_84 rfl ?_
      refine xi_iload C 5 dX6_tryPair_86 rfl ?_
      replace h := ob h
      obtain ⟨u91, hu92, h⟩ := h
      refine xi_callV C (kX6_goOn l D cT RP b hb a_t a_t_after a_t_hears a_t_talks a_t_after_e a_t_after_e_pieces a_t_hears_e a_t_talks_e t_people t_limit t_after_e_people (va_up t_after_e_pieces 2 (upd (upd (t_after_e_pieces 2) x2.toNatClampNeg (((t_after_e_pieces 1) x2.toNatClampNeg) ||| ((t_after_e_pieces 1) x3.toNatClampNeg))) x3.toNatClampNeg (((t_after_e_pieces 1) x2.toNatClampNeg) ||| ((t_after_e_pieces 1) x3.toNatClampNeg)))) t_hears_e t_talks_e x1 x2 x3 (x4 ||| (1 <<< (x3 &&& 31))) x5 hRP u91 hu92) zcX6_goOn zmX6_112 ziX6_goOn (zrd (b := b) (c := 1) (d := 2) rfl rfl) z00 rfl [0, 1, 2, 3, 4, 5, 6, 7, 8, 9, 10, 11, 12, 13, 14, 15, 16, 17, 18, 19, 20, 21] rfl rfl rfl [some 0, some 1, some 2, some 3, some 4, some 5, some 6, some 7, some 8, some 9, some 10, some 11, some 12, some 13, some 14, some 15, some 16, some 17, some 18, some 19, some 20, some 21] (by decide +kernel) (ws2 := [(a_t, .inr (6, [.ref a_t_after, .ref a_t_hears, .ref a_t_talks, .int t_people, .int t_limit])), (a_t_after, .inl (cT 5, 5, .inr (.inr (.inr (.inr (fun i => if i < 5 then some (a_t_after_e i) else none)))))), ((a_t_after_e 0), .inr (3, [.ref (a_t_after_e_pieces 0), .int (t_after_e_people 0)])), ((a_t_after_e_pieces 0), .inl (cT 0, 10, .inl (u91.2 0))), ((a_t_after_e 1), .inr (3, [.ref (a_t_after_e_pieces 1), .int (t_after_e_people 1)])), ((a_t_after_e_pieces 1), .inl (cT 0, 10, .inl (u91.2 1))), ((a_t_after_e 2), .inr (3, [.ref (a_t_after_e_pieces 2), .int (t_after_e_people 2)])), ((a_t_after_e_pieces 2), .inl (cT 0, 10, .inl (u91.2 2))), ((a_t_after_e 3), .inr (3, [.ref (a_t_after_e_pieces 3), .int (t_after_e_people 3)])), ((a_t_after_e_pieces 3), .inl (cT 0, 10, .inl (u91.2 3))), ((a_t_after_e 4), .inr (3, [.ref (a_t_after_e_pieces 4), .int (t_after_e_people 4)])), ((a_t_after_e_pieces 4), .inl (cT 0, 10, .inl (u91.2 4))), (a_t_hears, .inl (cT 6, 4, .inr (.inr (.inr (.inr (fun i => if i < 4 then some (a_t_hears_e i) else none)))))), ((a_t_hears_e 0), .inl (cT 0, 10, .inl (t_hears_e 0))), ((a_t_hears_e 1), .inl (cT 0, 10, .inl (t_hears_e 1))), ((a_t_hears_e 2), .inl (cT 0, 10, .inl (t_hears_e 2))), ((a_t_hears_e 3), .inl (cT 0, 10, .inl (t_hears_e 3))), (a_t_talks, .inl (cT 6, 4, .inr (.inr (.inr (.inr (fun i => if i < 4 then some (a_t_talks_e i) else none)))))), ((a_t_talks_e 0), .inl (cT 0, 10, .inl (t_talks_e 0))), ((a_t_talks_e 1), .inl (cT 0, 10, .inl (t_talks_e 1))), ((a_t_talks_e 2), .inl (cT 0, 10, .inl (t_talks_e 2))), ((a_t_talks_e 3), .inl (cT 0, 10, .inl (t_talks_e 3)))]) rfl zkX6.1 (qr := 0) rfl rfl (Nat.le_of_ble_eq_true rfl) dX6_tryPair_88 (fun z93 => ?_)
      obtain rfl := Option.some.inj h
      exact hE _ _ _ dX6_tryPair_91 rfl (z93 _ rfl _ rfl)
  · replace h := nmE hj3.symm h
    refine xi_aald C 1 5 (b := (a_t_after_e 2)) rfl rfl c1 (by rw [hj3]; rfl) dX6_tryPair_5 ?_
    refine xi_get C zkX3 0 6 zlX6_102 (by decide) rfl rfl dX6_tryPair_6 ?_
    refine xi_iload_n C 2 dX6_tryPair_9 rfl ?_
    replace h := ig h
    obtain ⟨c94, h⟩ := h
    refine xi_iald C 7 rfl c94 dX6_tryPair_10 ?_
    refine xi_istore C [1, 2, 3, 4, 5, 6, 0] (L2 := [(0, .ref a_t), (1, .int x1), (2, .int x2), (3, .int x3), (4, .int x4), (5, .int x5), (6, .int ((t_after_e_pieces 2) x2.toNatClampNeg))]) dX6_tryPair_11 (Nat.le_of_ble_eq_true rfl) rfl ?_
    refine xi_aload_n C 0 dX6_tryPair_13 rfl ?_
    refine xi_get C zkX6 0 0 zlX6_11 (by decide) rfl rfl dX6_tryPair_14 ?_
    refine xi_iload_n C 1 dX6_tryPair_17 rfl ?_
    refine xi_aald C 1 5 (b := (a_t_after_e 2)) rfl rfl c1 (by rw [hj3]; rfl) dX6_tryPair_18 ?_
    refine xi_get C zkX3 0 6 zlX6_102 (by decide) rfl rfl dX6_tryPair_19 ?_
    refine xi_iload_n C 3 dX6_tryPair_22 rfl ?_
    replace h := ig h
    obtain ⟨c95, h⟩ := h
    refine xi_iald C 7 rfl c95 dX6_tryPair_23 ?_
    refine xi_istore C [1, 2, 3, 4, 5, 6, 7, 0] (L2 := [(0, .ref a_t), (1, .int x1), (2, .int x2), (3, .int x3), (4, .int x4), (5, .int x5), (6, .int ((t_after_e_pieces 2) x2.toNatClampNeg)), (7, .int ((t_after_e_pieces 2) x3.toNatClampNeg))]) dX6_tryPair_24 (Nat.le_of_ble_eq_true rfl) rfl ?_
    refine xi_aload_n C 0 dX6_tryPair_26 rfl ?_
    refine xi_get C zkX6 0 0 zlX6_11 (by decide) rfl rfl dX6_tryPair_27 ?_
    refine xi_iload_n C 1 dX6_tryPair_30 rfl ?_
    refine xi_iconst C (v := 1) dX6_tryPair_31 rfl ?_
    refine xi_iadd C dX6_tryPair_32 ?_
    replace h := ig h
    obtain ⟨c96, h⟩ := h
    have hj97 : (x1 + 1).toNatClampNeg = 3 := zks c1 hj3 (by decide)
    refine xi_aald C 1 5 (b := (a_t_after_e 3)) rfl rfl c96 (by rw [hj97]; rfl) dX6_tryPair_33 ?_
    refine xi_get C zkX3 0 8 zlX6_102 (by decide) rfl rfl dX6_tryPair_34 ?_
    refine xi_astore C [1, 2, 3, 4, 5, 6, 7, 8, 0] (L2 := [(0, .ref a_t), (1, .int x1), (2, .int x2), (3, .int x3), (4, .int x4), (5, .int x5), (6, .int ((t_after_e_pieces 2) x2.toNatClampNeg)), (7, .int ((t_after_e_pieces 2) x3.toNatClampNeg)), (8, .ref (a_t_after_e_pieces 3))]) dX6_tryPair_37 (Nat.le_of_ble_eq_true rfl) rfl ?_
    refine xi_iload C 4 dX6_tryPair_39 rfl ?_
    refine xi_iconst C (v := 1) dX6_tryPair_41 rfl ?_
    refine xi_iload_n C 3 dX6_tryPair_42 rfl ?_
    refine xi_ishl C dX6_tryPair_43 ?_
    refine xi_ior C dX6_tryPair_44 ?_
    refine xi_istore C [1, 2, 3, 4, 5, 6, 7, 8, 9, 0] (L2 := [(0, .ref a_t), (1, .int x1), (2, .int x2), (3, .int x3), (4, .int x4), (5, .int x5), (6, .int ((t_after_e_pieces 2) x2.toNatClampNeg)), (7, .int ((t_after_e_pieces 2) x3.toNatClampNeg)), (8, .ref (a_t_after_e_pieces 3)), (9, .int (x4 ||| (1 <<< (x3 &&& 31))))]) dX6_tryPair_45 (Nat.le_of_ble_eq_true rfl) rfl ?_
    refine xi_aload C 8 dX6_tryPair_47 rfl ?_
    refine xi_iload_n C 2 dX6_tryPair_49 rfl ?_
    refine xi_iload C 6 dX6_tryPair_50 rfl ?_
    refine xi_iload C 7 dX6_tryPair_52 rfl ?_
    refine xi_ior C dX6_tryPair_54 ?_
    refine xi_iast C 9 rfl c94 dX6_tryPair_55 (ws2 := [(a_t, .inr (6, [.ref a_t_after, .ref a_t_hears, .ref a_t_talks, .int t_people, .int t_limit])), (a_t_after, .inl (cT 5, 5, .inr (.inr (.inr (.inr (fun i => if i < 5 then some (a_t_after_e i) else none)))))), ((a_t_after_e 0), .inr (3, [.ref (a_t_after_e_pieces 0), .int (t_after_e_people 0)])), ((a_t_after_e_pieces 0), .inl (cT 0, 10, .inl (t_after_e_pieces 0))), ((a_t_after_e 1), .inr (3, [.ref (a_t_after_e_pieces 1), .int (t_after_e_people 1)])), ((a_t_after_e_pieces 1), .inl (cT 0, 10, .inl (t_after_e_pieces 1))), ((a_t_after_e 2), .inr (3, [.ref (a_t_after_e_pieces 2), .int (t_after_e_people 2)])), ((a_t_after_e_pieces 2), .inl (cT 0, 10, .inl (t_after_e_pieces 2))), ((a_t_after_e 3), .inr (3, [.ref (a_t_after_e_pieces 3), .int (t_after_e_people 3)])), ((a_t_after_e_pieces 3), .inl (cT 0, 10, .inl (upd (t_after_e_pieces 3) x2.toNatClampNeg (((t_after_e_pieces 2) x2.toNatClampNeg) ||| ((t_after_e_pieces 2) x3.toNatClampNeg))))), ((a_t_after_e 4), .inr (3, [.ref (a_t_after_e_pieces 4), .int (t_after_e_people 4)])), ((a_t_after_e_pieces 4), .inl (cT 0, 10, .inl (t_after_e_pieces 4))), (a_t_hears, .inl (cT 6, 4, .inr (.inr (.inr (.inr (fun i => if i < 4 then some (a_t_hears_e i) else none)))))), ((a_t_hears_e 0), .inl (cT 0, 10, .inl (t_hears_e 0))), ((a_t_hears_e 1), .inl (cT 0, 10, .inl (t_hears_e 1))), ((a_t_hears_e 2), .inl (cT 0, 10, .inl (t_hears_e 2))), ((a_t_hears_e 3), .inl (cT 0, 10, .inl (t_hears_e 3))), (a_t_talks, .inl (cT 6, 4, .inr (.inr (.inr (.inr (fun i => if i < 4 then some (a_t_talks_e i) else none)))))), ((a_t_talks_e 0), .inl (cT 0, 10, .inl (t_talks_e 0))), ((a_t_talks_e 1), .inl (cT 0, 10, .inl (t_talks_e 1))), ((a_t_talks_e 2), .inl (cT 0, 10, .inl (t_talks_e 2))), ((a_t_talks_e 3), .inl (cT 0, 10, .inl (t_talks_e 3)))]) rfl ?_
    refine xi_aload C 8 dX6_tryPair_56 rfl ?_
    refine xi_iload_n C 3 dX6_tryPair_58 rfl ?_
    refine xi_iload C 6 dX6_tryPair_59 rfl ?_
    refine xi_iload C 7 dX6_tryPair_61 rfl ?_
    refine xi_ior C dX6_tryPair_63 ?_
    refine xi_iast C 9 rfl c95 dX6_tryPair_64 (ws2 := [(a_t, .inr (6, [.ref a_t_after, .ref a_t_hears, .ref a_t_talks, .int t_people, .int t_limit])), (a_t_after, .inl (cT 5, 5, .inr (.inr (.inr (.inr (fun i => if i < 5 then some (a_t_after_e i) else none)))))), ((a_t_after_e 0), .inr (3, [.ref (a_t_after_e_pieces 0), .int (t_after_e_people 0)])), ((a_t_after_e_pieces 0), .inl (cT 0, 10, .inl (t_after_e_pieces 0))), ((a_t_after_e 1), .inr (3, [.ref (a_t_after_e_pieces 1), .int (t_after_e_people 1)])), ((a_t_after_e_pieces 1), .inl (cT 0, 10, .inl (t_after_e_pieces 1))), ((a_t_after_e 2), .inr (3, [.ref (a_t_after_e_pieces 2), .int (t_after_e_people 2)])), ((a_t_after_e_pieces 2), .inl (cT 0, 10, .inl (t_after_e_pieces 2))), ((a_t_after_e 3), .inr (3, [.ref (a_t_after_e_pieces 3), .int (t_after_e_people 3)])), ((a_t_after_e_pieces 3), .inl (cT 0, 10, .inl (upd (upd (t_after_e_pieces 3) x2.toNatClampNeg (((t_after_e_pieces 2) x2.toNatClampNeg) ||| ((t_after_e_pieces 2) x3.toNatClampNeg))) x3.toNatClampNeg (((t_after_e_pieces 2) x2.toNatClampNeg) ||| ((t_after_e_pieces 2) x3.toNatClampNeg))))), ((a_t_after_e 4), .inr (3, [.ref (a_t_after_e_pieces 4), .int (t_after_e_people 4)])), ((a_t_after_e_pieces 4), .inl (cT 0, 10, .inl (t_after_e_pieces 4))), (a_t_hears, .inl (cT 6, 4, .inr (.inr (.inr (.inr (fun i => if i < 4 then some (a_t_hears_e i) else none)))))), ((a_t_hears_e 0), .inl (cT 0, 10, .inl (t_hears_e 0))), ((a_t_hears_e 1), .inl (cT 0, 10, .inl (t_hears_e 1))), ((a_t_hears_e 2), .inl (cT 0, 10, .inl (t_hears_e 2))), ((a_t_hears_e 3), .inl (cT 0, 10, .inl (t_hears_e 3))), (a_t_talks, .inl (cT 6, 4, .inr (.inr (.inr (.inr (fun i => if i < 4 then some (a_t_talks_e i) else none)))))), ((a_t_talks_e 0), .inl (cT 0, 10, .inl (t_talks_e 0))), ((a_t_talks_e 1), .inl (cT 0, 10, .inl (t_talks_e 1))), ((a_t_talks_e 2), .inl (cT 0, 10, .inl (t_talks_e 2))), ((a_t_talks_e 3), .inl (cT 0, 10, .inl (t_talks_e 3)))]) rfl ?_
    refine xi_aload_n C 0 dX6_tryPair_65 rfl ?_
    refine xi_get C zkX6 2 0 zlX6_22 (by decide) rfl rfl dX6_tryPair_66 ?_
    refine xi_iload_n C 1 dX6_tryPair_69 rfl ?_
    replace h := ig h
    obtain ⟨c98, h⟩ := h
    refine xi_aaldA C 17 (b := (a_t_talks_e 2)) rfl c98 (by rw [hj3]; rfl) dX6_tryPair_70 ?_
    refine xi_iload_n C 2 dX6_tryPair_71 rfl ?_
    refine xi_iald C 20 rfl c94 dX6_tryPair_72 ?_
    refine xi_iload_n C 3 dX6_tryPair_73 rfl ?_
    refine xi_callSr C (kX10_isIn l D cT ((t_talks_e 2) x2.toNatClampNeg) x3 (fX10_isIn ((t_talks_e 2) x2.toNatClampNeg) x3) rfl) zcX10_isIn zmX6_80 zsX10_isIn (zrb hb rfl rfl rfl) z00 rfl [] rfl rfl rfl (Nat.le_of_ble_eq_true rfl) dX6_tryPair_74 (fun z101 => ?_)
    refine xi_if_eq C (tgt := 92) dX6_tryPair_77 rfl (fun c102 => ?_) (fun c102 => ?_)
    · replace h := (if_pos c102).symm.trans h
      refine xi_aload C 8 dX6_tryPair_92 rfl ?_
      refine xi_iload_n C 2 dX6_tryPair_94 rfl ?_
      refine xi_iload C 6 dX6_tryPair_95 rfl ?_
      refine xi_iast C 9 rfl c94 dX6_tryPair_97 (ws2 := [(a_t, .inr (6, [.ref a_t_after, .ref a_t_hears, .ref a_t_talks, .int t_people, .int t_limit])), (a_t_after, .inl (cT 5, 5, .inr (.inr (.inr (.inr (fun i => if i < 5 then some (a_t_after_e i) else none)))))), ((a_t_after_e 0), .inr (3, [.ref (a_t_after_e_pieces 0), .int (t_after_e_people 0)])), ((a_t_after_e_pieces 0), .inl (cT 0, 10, .inl (t_after_e_pieces 0))), ((a_t_after_e 1), .inr (3, [.ref (a_t_after_e_pieces 1), .int (t_after_e_people 1)])), ((a_t_after_e_pieces 1), .inl (cT 0, 10, .inl (t_after_e_pieces 1))), ((a_t_after_e 2), .inr (3, [.ref (a_t_after_e_pieces 2), .int (t_after_e_people 2)])), ((a_t_after_e_pieces 2), .inl (cT 0, 10, .inl (t_after_e_pieces 2))), ((a_t_after_e 3), .inr (3, [.ref (a_t_after_e_pieces 3), .int (t_after_e_people 3)])), ((a_t_after_e_pieces 3), .inl (cT 0, 10, .inl (upd (upd (upd (t_after_e_pieces 3) x2.toNatClampNeg (((t_after_e_pieces 2) x2.toNatClampNeg) ||| ((t_after_e_pieces 2) x3.toNatClampNeg))) x3.toNatClampNeg (((t_after_e_pieces 2) x2.toNatClampNeg) ||| ((t_after_e_pieces 2) x3.toNatClampNeg))) x2.toNatClampNeg ((t_after_e_pieces 2) x2.toNatClampNeg)))), ((a_t_after_e 4), .inr (3, [.ref (a_t_after_e_pieces 4), .int (t_after_e_people 4)])), ((a_t_after_e_pieces 4), .inl (cT 0, 10, .inl (t_after_e_pieces 4))), (a_t_hears, .inl (cT 6, 4, .inr (.inr (.inr (.inr (fun i => if i < 4 then some (a_t_hears_e i) else none)))))), ((a_t_hears_e 0), .inl (cT 0, 10, .inl (t_hears_e 0))), ((a_t_hears_e 1), .inl (cT 0, 10, .inl (t_hears_e 1))), ((a_t_hears_e 2), .inl (cT 0, 10, .inl (t_hears_e 2))), ((a_t_hears_e 3), .inl (cT 0, 10, .inl (t_hears_e 3))), (a_t_talks, .inl (cT 6, 4, .inr (.inr (.inr (.inr (fun i => if i < 4 then some (a_t_talks_e i) else none)))))), ((a_t_talks_e 0), .inl (cT 0, 10, .inl (t_talks_e 0))), ((a_t_talks_e 1), .inl (cT 0, 10, .inl (t_talks_e 1))), ((a_t_talks_e 2), .inl (cT 0, 10, .inl (t_talks_e 2))), ((a_t_talks_e 3), .inl (cT 0, 10, .inl (t_talks_e 3)))]) rfl ?_
      refine xi_aload_n C 0 dX6_tryPair_98 rfl ?_
      refine xi_get C zkX6 1 0 zlX6_19 (by decide) rfl rfl dX6_tryPair_99 ?_
      refine xi_iload_n C 1 dX6_tryPair_102 rfl ?_
      refine xi_aaldA C 12 (b := (a_t_hears_e 2)) rfl c98 (by rw [hj3]; rfl) dX6_tryPair_103 ?_
      refine xi_iload_n C 3 dX6_tryPair_104 rfl ?_
      refine xi_iald C 15 rfl c95 dX6_tryPair_105 ?_
      refine xi_iload_n C 2 dX6_tryPair_106 rfl ?_
      refine xi_callSr C (kX10_isIn l D cT ((t_hears_e 2) x3.toNatClampNeg) x2 (fX10_isIn ((t_hears_e 2) x3.toNatClampNeg) x2) rfl) zcX10_isIn zmX6_80 zsX10_isIn (zrb hb rfl rfl rfl) z00 rfl [] rfl rfl rfl (Nat.le_of_ble_eq_true rfl) dX6_tryPair_107 (fun z105 => ?_)
      refine xi_if_eq C (tgt := 129) dX6_tryPair_110 rfl (fun c106 => ?_) (fun c106 => ?_)
      · replace h := (if_pos c106).symm.trans h
        refine xi_drop (L2 := [(0, .ref a_t), (1, .int x1), (2, .int x2), (3, .int x3), (5, .int x5), (6, .int ((t_after_e_pieces 2) x2.toNatClampNeg)), (7, .int ((t_after_e_pieces 2) x3.toNatClampNeg)), (8, .ref (a_t_after_e_pieces 3)), (9, .int (x4 ||| (1 <<< (x3 &&& 31))))]) [0, 1, 2, 3, 5, 6, 7, 8, 9] rfl ?_
        exact B129_2 hj3 hj97 c98 c1 c96 ((t_after_e_pieces 2) x2.toNatClampNeg) ((t_after_e_pieces 2) x3.toNatClampNeg) (x4 ||| (1 <<< (x3 &&& 31))) (va_up t_after_e_pieces 3 (upd (upd (upd (t_after_e_pieces 3) x2.toNatClampNeg (((t_after_e_pieces 2) x2.toNatClampNeg) ||| ((t_after_e_pieces 2) x3.toNatClampNeg))) x3.toNatClampNeg (((t_after_e_pieces 2) x2.toNatClampNeg) ||| ((t_after_e_pieces 2) x3.toNatClampNeg))) x2.toNatClampNeg ((t_after_e_pieces 2) x2.toNatClampNeg))) h
      · replace h := (if_neg c106).symm.trans h
        refine xi_aload_n C 0 dX6_tryPair_113 rfl ?_
        refine xi_iload_n C 1 dX6_tryPair_114 rfl ?_
        refine xi_iload_n C 2 dX6_tryPair_115 rfl ?_
        refine xi_iload_n C 3 dX6_tryPair_116 rfl ?_
        refine xi_iload C 9 dX6_tryPair_117 rfl ?_
        refine xi_iload C 5 dX6_tryPair_119 rfl ?_
        replace h := ob h
        obtain ⟨u117, hu118, h⟩ := h
        refine xi_callV C (kX6_goOn l D cT RP b hb a_t a_t_after a_t_hears a_t_talks a_t_after_e a_t_after_e_pieces a_t_hears_e a_t_talks_e t_people t_limit t_after_e_people (va_up t_after_e_pieces 3 (upd (upd (upd (t_after_e_pieces 3) x2.toNatClampNeg (((t_after_e_pieces 2) x2.toNatClampNeg) ||| ((t_after_e_pieces 2) x3.toNatClampNeg))) x3.toNatClampNeg (((t_after_e_pieces 2) x2.toNatClampNeg) ||| ((t_after_e_pieces 2) x3.toNatClampNeg))) x2.toNatClampNeg ((t_after_e_pieces 2) x2.toNatClampNeg))) t_hears_e t_talks_e x1 x2 x3 (x4 ||| (1 <<< (x3 &&& 31))) x5 hRP u117 hu118) zcX6_goOn zmX6_112 ziX6_goOn (zrd (b := b) (c := 1) (d := 2) rfl rfl) z00 rfl [0, 1, 2, 3, 4, 5, 6, 7, 8, 9, 10, 11, 12, 13, 14, 15, 16, 17, 18, 19, 20, 21] rfl rfl rfl [some 0, some 1, some 2, some 3, some 4, some 5, some 6, some 7, some 8, some 9, some 10, some 11, some 12, some 13, some 14, some 15, some 16, some 17, some 18, some 19, some 20, some 21] (by decide +kernel) (ws2 := [(a_t, .inr (6, [.ref a_t_after, .ref a_t_hears, .ref a_t_talks, .int t_people, .int t_limit])), (a_t_after, .inl (cT 5, 5, .inr (.inr (.inr (.inr (fun i => if i < 5 then some (a_t_after_e i) else none)))))), ((a_t_after_e 0), .inr (3, [.ref (a_t_after_e_pieces 0), .int (t_after_e_people 0)])), ((a_t_after_e_pieces 0), .inl (cT 0, 10, .inl (u117.2 0))), ((a_t_after_e 1), .inr (3, [.ref (a_t_after_e_pieces 1), .int (t_after_e_people 1)])), ((a_t_after_e_pieces 1), .inl (cT 0, 10, .inl (u117.2 1))), ((a_t_after_e 2), .inr (3, [.ref (a_t_after_e_pieces 2), .int (t_after_e_people 2)])), ((a_t_after_e_pieces 2), .inl (cT 0, 10, .inl (u117.2 2))), ((a_t_after_e 3), .inr (3, [.ref (a_t_after_e_pieces 3), .int (t_after_e_people 3)])), ((a_t_after_e_pieces 3), .inl (cT 0, 10, .inl (u117.2 3))), ((a_t_after_e 4), .inr (3, [.ref (a_t_after_e_pieces 4), .int (t_after_e_people 4)])), ((a_t_after_e_pieces 4), .inl (cT 0, 10, .inl (u117.2 4))), (a_t_hears, .inl (cT 6, 4, .inr (.inr (.inr (.inr (fun i => if i < 4 then some (a_t_hears_e i) else none)))))), ((a_t_hears_e 0), .inl (cT 0, 10, .inl (t_hears_e 0))), ((a_t_hears_e 1), .inl (cT 0, 10, .inl (t_hears_e 1))), ((a_t_hears_e 2), .inl (cT 0, 10, .inl (t_hears_e 2))), ((a_t_hears_e 3), .inl (cT 0, 10, .inl (t_hears_e 3))), (a_t_talks, .inl (cT 6, 4, .inr (.inr (.inr (.inr (fun i => if i < 4 then some (a_t_talks_e i) else none)))))), ((a_t_talks_e 0), .inl (cT 0, 10, .inl (t_talks_e 0))), ((a_t_talks_e 1), .inl (cT 0, 10, .inl (t_talks_e 1))), ((a_t_talks_e 2), .inl (cT 0, 10, .inl (t_talks_e 2))), ((a_t_talks_e 3), .inl (cT 0, 10, .inl (t_talks_e 3)))]) rfl zkX6.1 (qr := 0) rfl rfl (Nat.le_of_ble_eq_true rfl) dX6_tryPair_121 (fun z119 => ?_)
        refine xi_if_eq C (tgt := 129) dX6_tryPair_124 rfl (fun c120 => ?_) (fun c120 => ?_)
        · replace h := (if_pos c120).symm.trans h
          refine xi_drop (L2 := [(0, .ref a_t), (1, .int x1), (2, .int x2), (3, .int x3), (5, .int x5), (6, .int ((t_after_e_pieces 2) x2.toNatClampNeg)), (7, .int ((t_after_e_pieces 2) x3.toNatClampNeg)), (8, .ref (a_t_after_e_pieces 3)), (9, .int (x4 ||| (1 <<< (x3 &&& 31))))]) [0, 1, 2, 3, 5, 6, 7, 8, 9] rfl ?_
          exact B129_2 hj3 hj97 c98 c1 c96 ((t_after_e_pieces 2) x2.toNatClampNeg) ((t_after_e_pieces 2) x3.toNatClampNeg) (x4 ||| (1 <<< (x3 &&& 31))) u117.2 h
        · replace h := (if_neg c120).symm.trans h
          refine xi_iconst C (v := 1) dX6_tryPair_127 rfl ?_
          obtain rfl := Option.some.inj h
          exact hE _ _ _ dX6_tryPair_128 rfl rfl
    · replace h := (if_neg c102).symm.trans h
      refine xi_aload_n C 0 dX6_tryPair_80 rfl ?_
      refine xi_iload_n C 1 dX6_tryPair_81 rfl ?_
      refine xi_iload_n C 2 dX6_tryPair_82 rfl ?_
      refine xi_iload_n C 3 dX6_tryPair_83 rfl ?_
      refine xi_iload C 9 dX6_tryPair_84 rfl ?_
      refine xi_iload C 5 dX6_tryPair_86 rfl ?_
      replace h := ob h
      obtain ⟨u121, hu122, h⟩ := h
      refine xi_callV C (kX6_goOn l D cT RP b hb a_t a_t_after a_t_hears a_t_talks a_t_after_e a_t_after_e_pieces a_t_hears_e a_t_talks_e t_people t_limit t_after_e_people (va_up t_after_e_pieces 3 (upd (upd (t_after_e_pieces 3) x2.toNatClampNeg (((t_after_e_pieces 2) x2.toNatClampNeg) ||| ((t_after_e_pieces 2) x3.toNatClampNeg))) x3.toNatClampNeg (((t_after_e_pieces 2) x2.toNatClampNeg) ||| ((t_after_e_pieces 2) x3.toNatClampNeg)))) t_hears_e t_talks_e x1 x2 x3 (x4 ||| (1 <<< (x3 &&& 31))) x5 hRP u121 hu122) zcX6_goOn zmX6_112 ziX6_goOn (zrd (b := b) (c := 1) (d := 2) rfl rfl) z00 rfl [0, 1, 2, 3, 4, 5, 6, 7, 8, 9, 10, 11, 12, 13, 14, 15, 16, 17, 18, 19, 20, 21] rfl rfl rfl [some 0, some 1, some 2, some 3, some 4, some 5, some 6, some 7, some 8, some 9, some 10, some 11, some 12, some 13, some 14, some 15, some 16, some 17, some 18, some 19, some 20, some 21] (by decide +kernel) (ws2 := [(a_t, .inr (6, [.ref a_t_after, .ref a_t_hears, .ref a_t_talks, .int t_people, .int t_limit])), (a_t_after, .inl (cT 5, 5, .inr (.inr (.inr (.inr (fun i => if i < 5 then some (a_t_after_e i) else none)))))), ((a_t_after_e 0), .inr (3, [.ref (a_t_after_e_pieces 0), .int (t_after_e_people 0)])), ((a_t_after_e_pieces 0), .inl (cT 0, 10, .inl (u121.2 0))), ((a_t_after_e 1), .inr (3, [.ref (a_t_after_e_pieces 1), .int (t_after_e_people 1)])), ((a_t_after_e_pieces 1), .inl (cT 0, 10, .inl (u121.2 1))), ((a_t_after_e 2), .inr (3, [.ref (a_t_after_e_pieces 2), .int (t_after_e_people 2)])), ((a_t_after_e_pieces 2), .inl (cT 0, 10, .inl (u121.2 2))), ((a_t_after_e 3), .inr (3, [.ref (a_t_after_e_pieces 3), .int (t_after_e_people 3)])), ((a_t_after_e_pieces 3), .inl (cT 0, 10, .inl (u121.2 3))), ((a_t_after_e 4), .inr (3, [.ref (a_t_after_e_pieces 4), .int (t_after_e_people 4)])), ((a_t_after_e_pieces 4), .inl (cT 0, 10, .inl (u121.2 4))), (a_t_hears, .inl (cT 6, 4, .inr (.inr (.inr (.inr (fun i => if i < 4 then some (a_t_hears_e i) else none)))))), ((a_t_hears_e 0), .inl (cT 0, 10, .inl (t_hears_e 0))), ((a_t_hears_e 1), .inl (cT 0, 10, .inl (t_hears_e 1))), ((a_t_hears_e 2), .inl (cT 0, 10, .inl (t_hears_e 2))), ((a_t_hears_e 3), .inl (cT 0, 10, .inl (t_hears_e 3))), (a_t_talks, .inl (cT 6, 4, .inr (.inr (.inr (.inr (fun i => if i < 4 then some (a_t_talks_e i) else none)))))), ((a_t_talks_e 0), .inl (cT 0, 10, .inl (t_talks_e 0))), ((a_t_talks_e 1), .inl (cT 0, 10, .inl (t_talks_e 1))), ((a_t_talks_e 2), .inl (cT 0, 10, .inl (t_talks_e 2))), ((a_t_talks_e 3), .inl (cT 0, 10, .inl (t_talks_e 3)))]) rfl zkX6.1 (qr := 0) rfl rfl (Nat.le_of_ble_eq_true rfl) dX6_tryPair_88 (fun z123 => ?_)
      obtain rfl := Option.some.inj h
      exact hE _ _ _ dX6_tryPair_91 rfl (z123 _ rfl _ rfl)
  · replace h := nmE hj3.symm h
    refine xi_aald C 1 5 (b := (a_t_after_e 3)) rfl rfl c1 (by rw [hj3]; rfl) dX6_tryPair_5 ?_
    refine xi_get C zkX3 0 8 zlX6_102 (by decide) rfl rfl dX6_tryPair_6 ?_
    refine xi_iload_n C 2 dX6_tryPair_9 rfl ?_
    replace h := ig h
    obtain ⟨c124, h⟩ := h
    refine xi_iald C 9 rfl c124 dX6_tryPair_10 ?_
    refine xi_istore C [1, 2, 3, 4, 5, 6, 0] (L2 := [(0, .ref a_t), (1, .int x1), (2, .int x2), (3, .int x3), (4, .int x4), (5, .int x5), (6, .int ((t_after_e_pieces 3) x2.toNatClampNeg))]) dX6_tryPair_11 (Nat.le_of_ble_eq_true rfl) rfl ?_
    refine xi_aload_n C 0 dX6_tryPair_13 rfl ?_
    refine xi_get C zkX6 0 0 zlX6_11 (by decide) rfl rfl dX6_tryPair_14 ?_
    refine xi_iload_n C 1 dX6_tryPair_17 rfl ?_
    refine xi_aald C 1 5 (b := (a_t_after_e 3)) rfl rfl c1 (by rw [hj3]; rfl) dX6_tryPair_18 ?_
    refine xi_get C zkX3 0 8 zlX6_102 (by decide) rfl rfl dX6_tryPair_19 ?_
    refine xi_iload_n C 3 dX6_tryPair_22 rfl ?_
    replace h := ig h
    obtain ⟨c125, h⟩ := h
    refine xi_iald C 9 rfl c125 dX6_tryPair_23 ?_
    refine xi_istore C [1, 2, 3, 4, 5, 6, 7, 0] (L2 := [(0, .ref a_t), (1, .int x1), (2, .int x2), (3, .int x3), (4, .int x4), (5, .int x5), (6, .int ((t_after_e_pieces 3) x2.toNatClampNeg)), (7, .int ((t_after_e_pieces 3) x3.toNatClampNeg))]) dX6_tryPair_24 (Nat.le_of_ble_eq_true rfl) rfl ?_
    refine xi_aload_n C 0 dX6_tryPair_26 rfl ?_
    refine xi_get C zkX6 0 0 zlX6_11 (by decide) rfl rfl dX6_tryPair_27 ?_
    refine xi_iload_n C 1 dX6_tryPair_30 rfl ?_
    refine xi_iconst C (v := 1) dX6_tryPair_31 rfl ?_
    refine xi_iadd C dX6_tryPair_32 ?_
    replace h := ig h
    obtain ⟨c126, h⟩ := h
    have hj127 : (x1 + 1).toNatClampNeg = 4 := zks c1 hj3 (by decide)
    refine xi_aald C 1 5 (b := (a_t_after_e 4)) rfl rfl c126 (by rw [hj127]; rfl) dX6_tryPair_33 ?_
    refine xi_get C zkX3 0 10 zlX6_102 (by decide) rfl rfl dX6_tryPair_34 ?_
    refine xi_astore C [1, 2, 3, 4, 5, 6, 7, 8, 0] (L2 := [(0, .ref a_t), (1, .int x1), (2, .int x2), (3, .int x3), (4, .int x4), (5, .int x5), (6, .int ((t_after_e_pieces 3) x2.toNatClampNeg)), (7, .int ((t_after_e_pieces 3) x3.toNatClampNeg)), (8, .ref (a_t_after_e_pieces 4))]) dX6_tryPair_37 (Nat.le_of_ble_eq_true rfl) rfl ?_
    refine xi_iload C 4 dX6_tryPair_39 rfl ?_
    refine xi_iconst C (v := 1) dX6_tryPair_41 rfl ?_
    refine xi_iload_n C 3 dX6_tryPair_42 rfl ?_
    refine xi_ishl C dX6_tryPair_43 ?_
    refine xi_ior C dX6_tryPair_44 ?_
    refine xi_istore C [1, 2, 3, 4, 5, 6, 7, 8, 9, 0] (L2 := [(0, .ref a_t), (1, .int x1), (2, .int x2), (3, .int x3), (4, .int x4), (5, .int x5), (6, .int ((t_after_e_pieces 3) x2.toNatClampNeg)), (7, .int ((t_after_e_pieces 3) x3.toNatClampNeg)), (8, .ref (a_t_after_e_pieces 4)), (9, .int (x4 ||| (1 <<< (x3 &&& 31))))]) dX6_tryPair_45 (Nat.le_of_ble_eq_true rfl) rfl ?_
    refine xi_aload C 8 dX6_tryPair_47 rfl ?_
    refine xi_iload_n C 2 dX6_tryPair_49 rfl ?_
    refine xi_iload C 6 dX6_tryPair_50 rfl ?_
    refine xi_iload C 7 dX6_tryPair_52 rfl ?_
    refine xi_ior C dX6_tryPair_54 ?_
    refine xi_iast C 11 rfl c124 dX6_tryPair_55 (ws2 := [(a_t, .inr (6, [.ref a_t_after, .ref a_t_hears, .ref a_t_talks, .int t_people, .int t_limit])), (a_t_after, .inl (cT 5, 5, .inr (.inr (.inr (.inr (fun i => if i < 5 then some (a_t_after_e i) else none)))))), ((a_t_after_e 0), .inr (3, [.ref (a_t_after_e_pieces 0), .int (t_after_e_people 0)])), ((a_t_after_e_pieces 0), .inl (cT 0, 10, .inl (t_after_e_pieces 0))), ((a_t_after_e 1), .inr (3, [.ref (a_t_after_e_pieces 1), .int (t_after_e_people 1)])), ((a_t_after_e_pieces 1), .inl (cT 0, 10, .inl (t_after_e_pieces 1))), ((a_t_after_e 2), .inr (3, [.ref (a_t_after_e_pieces 2), .int (t_after_e_people 2)])), ((a_t_after_e_pieces 2), .inl (cT 0, 10, .inl (t_after_e_pieces 2))), ((a_t_after_e 3), .inr (3, [.ref (a_t_after_e_pieces 3), .int (t_after_e_people 3)])), ((a_t_after_e_pieces 3), .inl (cT 0, 10, .inl (t_after_e_pieces 3))), ((a_t_after_e 4), .inr (3, [.ref (a_t_after_e_pieces 4), .int (t_after_e_people 4)])), ((a_t_after_e_pieces 4), .inl (cT 0, 10, .inl (upd (t_after_e_pieces 4) x2.toNatClampNeg (((t_after_e_pieces 3) x2.toNatClampNeg) ||| ((t_after_e_pieces 3) x3.toNatClampNeg))))), (a_t_hears, .inl (cT 6, 4, .inr (.inr (.inr (.inr (fun i => if i < 4 then some (a_t_hears_e i) else none)))))), ((a_t_hears_e 0), .inl (cT 0, 10, .inl (t_hears_e 0))), ((a_t_hears_e 1), .inl (cT 0, 10, .inl (t_hears_e 1))), ((a_t_hears_e 2), .inl (cT 0, 10, .inl (t_hears_e 2))), ((a_t_hears_e 3), .inl (cT 0, 10, .inl (t_hears_e 3))), (a_t_talks, .inl (cT 6, 4, .inr (.inr (.inr (.inr (fun i => if i < 4 then some (a_t_talks_e i) else none)))))), ((a_t_talks_e 0), .inl (cT 0, 10, .inl (t_talks_e 0))), ((a_t_talks_e 1), .inl (cT 0, 10, .inl (t_talks_e 1))), ((a_t_talks_e 2), .inl (cT 0, 10, .inl (t_talks_e 2))), ((a_t_talks_e 3), .inl (cT 0, 10, .inl (t_talks_e 3)))]) rfl ?_
    refine xi_aload C 8 dX6_tryPair_56 rfl ?_
    refine xi_iload_n C 3 dX6_tryPair_58 rfl ?_
    refine xi_iload C 6 dX6_tryPair_59 rfl ?_
    refine xi_iload C 7 dX6_tryPair_61 rfl ?_
    refine xi_ior C dX6_tryPair_63 ?_
    refine xi_iast C 11 rfl c125 dX6_tryPair_64 (ws2 := [(a_t, .inr (6, [.ref a_t_after, .ref a_t_hears, .ref a_t_talks, .int t_people, .int t_limit])), (a_t_after, .inl (cT 5, 5, .inr (.inr (.inr (.inr (fun i => if i < 5 then some (a_t_after_e i) else none)))))), ((a_t_after_e 0), .inr (3, [.ref (a_t_after_e_pieces 0), .int (t_after_e_people 0)])), ((a_t_after_e_pieces 0), .inl (cT 0, 10, .inl (t_after_e_pieces 0))), ((a_t_after_e 1), .inr (3, [.ref (a_t_after_e_pieces 1), .int (t_after_e_people 1)])), ((a_t_after_e_pieces 1), .inl (cT 0, 10, .inl (t_after_e_pieces 1))), ((a_t_after_e 2), .inr (3, [.ref (a_t_after_e_pieces 2), .int (t_after_e_people 2)])), ((a_t_after_e_pieces 2), .inl (cT 0, 10, .inl (t_after_e_pieces 2))), ((a_t_after_e 3), .inr (3, [.ref (a_t_after_e_pieces 3), .int (t_after_e_people 3)])), ((a_t_after_e_pieces 3), .inl (cT 0, 10, .inl (t_after_e_pieces 3))), ((a_t_after_e 4), .inr (3, [.ref (a_t_after_e_pieces 4), .int (t_after_e_people 4)])), ((a_t_after_e_pieces 4), .inl (cT 0, 10, .inl (upd (upd (t_after_e_pieces 4) x2.toNatClampNeg (((t_after_e_pieces 3) x2.toNatClampNeg) ||| ((t_after_e_pieces 3) x3.toNatClampNeg))) x3.toNatClampNeg (((t_after_e_pieces 3) x2.toNatClampNeg) ||| ((t_after_e_pieces 3) x3.toNatClampNeg))))), (a_t_hears, .inl (cT 6, 4, .inr (.inr (.inr (.inr (fun i => if i < 4 then some (a_t_hears_e i) else none)))))), ((a_t_hears_e 0), .inl (cT 0, 10, .inl (t_hears_e 0))), ((a_t_hears_e 1), .inl (cT 0, 10, .inl (t_hears_e 1))), ((a_t_hears_e 2), .inl (cT 0, 10, .inl (t_hears_e 2))), ((a_t_hears_e 3), .inl (cT 0, 10, .inl (t_hears_e 3))), (a_t_talks, .inl (cT 6, 4, .inr (.inr (.inr (.inr (fun i => if i < 4 then some (a_t_talks_e i) else none)))))), ((a_t_talks_e 0), .inl (cT 0, 10, .inl (t_talks_e 0))), ((a_t_talks_e 1), .inl (cT 0, 10, .inl (t_talks_e 1))), ((a_t_talks_e 2), .inl (cT 0, 10, .inl (t_talks_e 2))), ((a_t_talks_e 3), .inl (cT 0, 10, .inl (t_talks_e 3)))]) rfl ?_
    refine xi_aload_n C 0 dX6_tryPair_65 rfl ?_
    refine xi_get C zkX6 2 0 zlX6_22 (by decide) rfl rfl dX6_tryPair_66 ?_
    refine xi_iload_n C 1 dX6_tryPair_69 rfl ?_
    replace h := ig h
    obtain ⟨c128, h⟩ := h
    refine xi_aaldA C 17 (b := (a_t_talks_e 3)) rfl c128 (by rw [hj3]; rfl) dX6_tryPair_70 ?_
    refine xi_iload_n C 2 dX6_tryPair_71 rfl ?_
    refine xi_iald C 21 rfl c124 dX6_tryPair_72 ?_
    refine xi_iload_n C 3 dX6_tryPair_73 rfl ?_
    refine xi_callSr C (kX10_isIn l D cT ((t_talks_e 3) x2.toNatClampNeg) x3 (fX10_isIn ((t_talks_e 3) x2.toNatClampNeg) x3) rfl) zcX10_isIn zmX6_80 zsX10_isIn (zrb hb rfl rfl rfl) z00 rfl [] rfl rfl rfl (Nat.le_of_ble_eq_true rfl) dX6_tryPair_74 (fun z131 => ?_)
    refine xi_if_eq C (tgt := 92) dX6_tryPair_77 rfl (fun c132 => ?_) (fun c132 => ?_)
    · replace h := (if_pos c132).symm.trans h
      refine xi_aload C 8 dX6_tryPair_92 rfl ?_
      refine xi_iload_n C 2 dX6_tryPair_94 rfl ?_
      refine xi_iload C 6 dX6_tryPair_95 rfl ?_
      refine xi_iast C 11 rfl c124 dX6_tryPair_97 (ws2 := [(a_t, .inr (6, [.ref a_t_after, .ref a_t_hears, .ref a_t_talks, .int t_people, .int t_limit])), (a_t_after, .inl (cT 5, 5, .inr (.inr (.inr (.inr (fun i => if i < 5 then some (a_t_after_e i) else none)))))), ((a_t_after_e 0), .inr (3, [.ref (a_t_after_e_pieces 0), .int (t_after_e_people 0)])), ((a_t_after_e_pieces 0), .inl (cT 0, 10, .inl (t_after_e_pieces 0))), ((a_t_after_e 1), .inr (3, [.ref (a_t_after_e_pieces 1), .int (t_after_e_people 1)])), ((a_t_after_e_pieces 1), .inl (cT 0, 10, .inl (t_after_e_pieces 1))), ((a_t_after_e 2), .inr (3, [.ref (a_t_after_e_pieces 2), .int (t_after_e_people 2)])), ((a_t_after_e_pieces 2), .inl (cT 0, 10, .inl (t_after_e_pieces 2))), ((a_t_after_e 3), .inr (3, [.ref (a_t_after_e_pieces 3), .int (t_after_e_people 3)])), ((a_t_after_e_pieces 3), .inl (cT 0, 10, .inl (t_after_e_pieces 3))), ((a_t_after_e 4), .inr (3, [.ref (a_t_after_e_pieces 4), .int (t_after_e_people 4)])), ((a_t_after_e_pieces 4), .inl (cT 0, 10, .inl (upd (upd (upd (t_after_e_pieces 4) x2.toNatClampNeg (((t_after_e_pieces 3) x2.toNatClampNeg) ||| ((t_after_e_pieces 3) x3.toNatClampNeg))) x3.toNatClampNeg (((t_after_e_pieces 3) x2.toNatClampNeg) ||| ((t_after_e_pieces 3) x3.toNatClampNeg))) x2.toNatClampNeg ((t_after_e_pieces 3) x2.toNatClampNeg)))), (a_t_hears, .inl (cT 6, 4, .inr (.inr (.inr (.inr (fun i => if i < 4 then some (a_t_hears_e i) else none)))))), ((a_t_hears_e 0), .inl (cT 0, 10, .inl (t_hears_e 0))), ((a_t_hears_e 1), .inl (cT 0, 10, .inl (t_hears_e 1))), ((a_t_hears_e 2), .inl (cT 0, 10, .inl (t_hears_e 2))), ((a_t_hears_e 3), .inl (cT 0, 10, .inl (t_hears_e 3))), (a_t_talks, .inl (cT 6, 4, .inr (.inr (.inr (.inr (fun i => if i < 4 then some (a_t_talks_e i) else none)))))), ((a_t_talks_e 0), .inl (cT 0, 10, .inl (t_talks_e 0))), ((a_t_talks_e 1), .inl (cT 0, 10, .inl (t_talks_e 1))), ((a_t_talks_e 2), .inl (cT 0, 10, .inl (t_talks_e 2))), ((a_t_talks_e 3), .inl (cT 0, 10, .inl (t_talks_e 3)))]) rfl ?_
      refine xi_aload_n C 0 dX6_tryPair_98 rfl ?_
      refine xi_get C zkX6 1 0 zlX6_19 (by decide) rfl rfl dX6_tryPair_99 ?_
      refine xi_iload_n C 1 dX6_tryPair_102 rfl ?_
      refine xi_aaldA C 12 (b := (a_t_hears_e 3)) rfl c128 (by rw [hj3]; rfl) dX6_tryPair_103 ?_
      refine xi_iload_n C 3 dX6_tryPair_104 rfl ?_
      refine xi_iald C 16 rfl c125 dX6_tryPair_105 ?_
      refine xi_iload_n C 2 dX6_tryPair_106 rfl ?_
      refine xi_callSr C (kX10_isIn l D cT ((t_hears_e 3) x3.toNatClampNeg) x2 (fX10_isIn ((t_hears_e 3) x3.toNatClampNeg) x2) rfl) zcX10_isIn zmX6_80 zsX10_isIn (zrb hb rfl rfl rfl) z00 rfl [] rfl rfl rfl (Nat.le_of_ble_eq_true rfl) dX6_tryPair_107 (fun z135 => ?_)
      refine xi_if_eq C (tgt := 129) dX6_tryPair_110 rfl (fun c136 => ?_) (fun c136 => ?_)
      · replace h := (if_pos c136).symm.trans h
        refine xi_drop (L2 := [(0, .ref a_t), (1, .int x1), (2, .int x2), (3, .int x3), (5, .int x5), (6, .int ((t_after_e_pieces 3) x2.toNatClampNeg)), (7, .int ((t_after_e_pieces 3) x3.toNatClampNeg)), (8, .ref (a_t_after_e_pieces 4)), (9, .int (x4 ||| (1 <<< (x3 &&& 31))))]) [0, 1, 2, 3, 5, 6, 7, 8, 9] rfl ?_
        exact B129_3 hj3 hj127 c128 c1 c126 ((t_after_e_pieces 3) x2.toNatClampNeg) ((t_after_e_pieces 3) x3.toNatClampNeg) (x4 ||| (1 <<< (x3 &&& 31))) (va_up t_after_e_pieces 4 (upd (upd (upd (t_after_e_pieces 4) x2.toNatClampNeg (((t_after_e_pieces 3) x2.toNatClampNeg) ||| ((t_after_e_pieces 3) x3.toNatClampNeg))) x3.toNatClampNeg (((t_after_e_pieces 3) x2.toNatClampNeg) ||| ((t_after_e_pieces 3) x3.toNatClampNeg))) x2.toNatClampNeg ((t_after_e_pieces 3) x2.toNatClampNeg))) h
      · replace h := (if_neg c136).symm.trans h
        refine xi_aload_n C 0 dX6_tryPair_113 rfl ?_
        refine xi_iload_n C 1 dX6_tryPair_114 rfl ?_
        refine xi_iload_n C 2 dX6_tryPair_115 rfl ?_
        refine xi_iload_n C 3 dX6_tryPair_116 rfl ?_
        refine xi_iload C 9 dX6_tryPair_117 rfl ?_
        refine xi_iload C 5 dX6_tryPair_119 rfl ?_
        replace h := ob h
        obtain ⟨u147, hu148, h⟩ := h
        refine xi_callV C (kX6_goOn l D cT RP b hb a_t a_t_after a_t_hears a_t_talks a_t_after_e a_t_after_e_pieces a_t_hears_e a_t_talks_e t_people t_limit t_after_e_people (va_up t_after_e_pieces 4 (upd (upd (upd (t_after_e_pieces 4) x2.toNatClampNeg (((t_after_e_pieces 3) x2.toNatClampNeg) ||| ((t_after_e_pieces 3) x3.toNatClampNeg))) x3.toNatClampNeg (((t_after_e_pieces 3) x2.toNatClampNeg) ||| ((t_after_e_pieces 3) x3.toNatClampNeg))) x2.toNatClampNeg ((t_after_e_pieces 3) x2.toNatClampNeg))) t_hears_e t_talks_e x1 x2 x3 (x4 ||| (1 <<< (x3 &&& 31))) x5 hRP u147 hu148) zcX6_goOn zmX6_112 ziX6_goOn (zrd (b := b) (c := 1) (d := 2) rfl rfl) z00 rfl [0, 1, 2, 3, 4, 5, 6, 7, 8, 9, 10, 11, 12, 13, 14, 15, 16, 17, 18, 19, 20, 21] rfl rfl rfl [some 0, some 1, some 2, some 3, some 4, some 5, some 6, some 7, some 8, some 9, some 10, some 11, some 12, some 13, some 14, some 15, some 16, some 17, some 18, some 19, some 20, some 21] (by decide +kernel) (ws2 := [(a_t, .inr (6, [.ref a_t_after, .ref a_t_hears, .ref a_t_talks, .int t_people, .int t_limit])), (a_t_after, .inl (cT 5, 5, .inr (.inr (.inr (.inr (fun i => if i < 5 then some (a_t_after_e i) else none)))))), ((a_t_after_e 0), .inr (3, [.ref (a_t_after_e_pieces 0), .int (t_after_e_people 0)])), ((a_t_after_e_pieces 0), .inl (cT 0, 10, .inl (u147.2 0))), ((a_t_after_e 1), .inr (3, [.ref (a_t_after_e_pieces 1), .int (t_after_e_people 1)])), ((a_t_after_e_pieces 1), .inl (cT 0, 10, .inl (u147.2 1))), ((a_t_after_e 2), .inr (3, [.ref (a_t_after_e_pieces 2), .int (t_after_e_people 2)])), ((a_t_after_e_pieces 2), .inl (cT 0, 10, .inl (u147.2 2))), ((a_t_after_e 3), .inr (3, [.ref (a_t_after_e_pieces 3), .int (t_after_e_people 3)])), ((a_t_after_e_pieces 3), .inl (cT 0, 10, .inl (u147.2 3))), ((a_t_after_e 4), .inr (3, [.ref (a_t_after_e_pieces 4), .int (t_after_e_people 4)])), ((a_t_after_e_pieces 4), .inl (cT 0, 10, .inl (u147.2 4))), (a_t_hears, .inl (cT 6, 4, .inr (.inr (.inr (.inr (fun i => if i < 4 then some (a_t_hears_e i) else none)))))), ((a_t_hears_e 0), .inl (cT 0, 10, .inl (t_hears_e 0))), ((a_t_hears_e 1), .inl (cT 0, 10, .inl (t_hears_e 1))), ((a_t_hears_e 2), .inl (cT 0, 10, .inl (t_hears_e 2))), ((a_t_hears_e 3), .inl (cT 0, 10, .inl (t_hears_e 3))), (a_t_talks, .inl (cT 6, 4, .inr (.inr (.inr (.inr (fun i => if i < 4 then some (a_t_talks_e i) else none)))))), ((a_t_talks_e 0), .inl (cT 0, 10, .inl (t_talks_e 0))), ((a_t_talks_e 1), .inl (cT 0, 10, .inl (t_talks_e 1))), ((a_t_talks_e 2), .inl (cT 0, 10, .inl (t_talks_e 2))), ((a_t_talks_e 3), .inl (cT 0, 10, .inl (t_talks_e 3)))]) rfl zkX6.1 (qr := 0) rfl rfl (Nat.le_of_ble_eq_true rfl) dX6_tryPair_121 (fun z149 => ?_)
        refine xi_if_eq C (tgt := 129) dX6_tryPair_124 rfl (fun c150 => ?_) (fun c150 => ?_)
        · replace h := (if_pos c150).symm.trans h
          refine xi_drop (L2 := [(0, .ref a_t), (1, .int x1), (2, .int x2), (3, .int x3), (5, .int x5), (6, .int ((t_after_e_pieces 3) x2.toNatClampNeg)), (7, .int ((t_after_e_pieces 3) x3.toNatClampNeg)), (8, .ref (a_t_after_e_pieces 4)), (9, .int (x4 ||| (1 <<< (x3 &&& 31))))]) [0, 1, 2, 3, 5, 6, 7, 8, 9] rfl ?_
          exact B129_3 hj3 hj127 c128 c1 c126 ((t_after_e_pieces 3) x2.toNatClampNeg) ((t_after_e_pieces 3) x3.toNatClampNeg) (x4 ||| (1 <<< (x3 &&& 31))) u147.2 h
        · replace h := (if_neg c150).symm.trans h
          refine xi_iconst C (v := 1) dX6_tryPair_127 rfl ?_
          obtain rfl := Option.some.inj h
          exact hE _ _ _ dX6_tryPair_128 rfl rfl
    · replace h := (if_neg c132).symm.trans h
      refine xi_aload_n C 0 dX6_tryPair_80 rfl ?_
      refine xi_iload_n C 1 dX6_tryPair_81 rfl ?_
      refine xi_iload_n C 2 dX6_tryPair_82 rfl ?_
      refine xi_iload_n C 3 dX6_tryPair_83 rfl ?_
      refine xi_iload C 9 dX6_tryPair_84 rfl ?_
      refine xi_iload C 5 dX6_tryPair_86 rfl ?_
      replace h := ob h
      obtain ⟨u151, hu152, h⟩ := h
      refine xi_callV C (kX6_goOn l D cT RP b hb a_t a_t_after a_t_hears a_t_talks a_t_after_e a_t_after_e_pieces a_t_hears_e a_t_talks_e t_people t_limit t_after_e_people (va_up t_after_e_pieces 4 (upd (upd (t_after_e_pieces 4) x2.toNatClampNeg (((t_after_e_pieces 3) x2.toNatClampNeg) ||| ((t_after_e_pieces 3) x3.toNatClampNeg))) x3.toNatClampNeg (((t_after_e_pieces 3) x2.toNatClampNeg) ||| ((t_after_e_pieces 3) x3.toNatClampNeg)))) t_hears_e t_talks_e x1 x2 x3 (x4 ||| (1 <<< (x3 &&& 31))) x5 hRP u151 hu152) zcX6_goOn zmX6_112 ziX6_goOn (zrd (b := b) (c := 1) (d := 2) rfl rfl) z00 rfl [0, 1, 2, 3, 4, 5, 6, 7, 8, 9, 10, 11, 12, 13, 14, 15, 16, 17, 18, 19, 20, 21] rfl rfl rfl [some 0, some 1, some 2, some 3, some 4, some 5, some 6, some 7, some 8, some 9, some 10, some 11, some 12, some 13, some 14, some 15, some 16, some 17, some 18, some 19, some 20, some 21] (by decide +kernel) (ws2 := [(a_t, .inr (6, [.ref a_t_after, .ref a_t_hears, .ref a_t_talks, .int t_people, .int t_limit])), (a_t_after, .inl (cT 5, 5, .inr (.inr (.inr (.inr (fun i => if i < 5 then some (a_t_after_e i) else none)))))), ((a_t_after_e 0), .inr (3, [.ref (a_t_after_e_pieces 0), .int (t_after_e_people 0)])), ((a_t_after_e_pieces 0), .inl (cT 0, 10, .inl (u151.2 0))), ((a_t_after_e 1), .inr (3, [.ref (a_t_after_e_pieces 1), .int (t_after_e_people 1)])), ((a_t_after_e_pieces 1), .inl (cT 0, 10, .inl (u151.2 1))), ((a_t_after_e 2), .inr (3, [.ref (a_t_after_e_pieces 2), .int (t_after_e_people 2)])), ((a_t_after_e_pieces 2), .inl (cT 0, 10, .inl (u151.2 2))), ((a_t_after_e 3), .inr (3, [.ref (a_t_after_e_pieces 3), .int (t_after_e_people 3)])), ((a_t_after_e_pieces 3), .inl (cT 0, 10, .inl (u151.2 3))), ((a_t_after_e 4), .inr (3, [.ref (a_t_after_e_pieces 4), .int (t_after_e_people 4)])), ((a_t_after_e_pieces 4), .inl (cT 0, 10, .inl (u151.2 4))), (a_t_hears, .inl (cT 6, 4, .inr (.inr (.inr (.inr (fun i => if i < 4 then some (a_t_hears_e i) else none)))))), ((a_t_hears_e 0), .inl (cT 0, 10, .inl (t_hears_e 0))), ((a_t_hears_e 1), .inl (cT 0, 10, .inl (t_hears_e 1))), ((a_t_hears_e 2), .inl (cT 0, 10, .inl (t_hears_e 2))), ((a_t_hears_e 3), .inl (cT 0, 10, .inl (t_hears_e 3))), (a_t_talks, .inl (cT 6, 4, .inr (.inr (.inr (.inr (fun i => if i < 4 then some (a_t_talks_e i) else none)))))), ((a_t_talks_e 0), .inl (cT 0, 10, .inl (t_talks_e 0))), ((a_t_talks_e 1), .inl (cT 0, 10, .inl (t_talks_e 1))), ((a_t_talks_e 2), .inl (cT 0, 10, .inl (t_talks_e 2))), ((a_t_talks_e 3), .inl (cT 0, 10, .inl (t_talks_e 3)))]) rfl zkX6.1 (qr := 0) rfl rfl (Nat.le_of_ble_eq_true rfl) dX6_tryPair_88 (fun z153 => ?_)
      obtain rfl := Option.some.inj h
      exact hE _ _ _ dX6_tryPair_91 rfl (z153 _ rfl _ rfl)
  · replace h := nmE hj3.symm h
    refine xi_aald C 1 5 (b := (a_t_after_e 4)) rfl rfl c1 (by rw [hj3]; rfl) dX6_tryPair_5 ?_
    refine xi_get C zkX3 0 10 zlX6_102 (by decide) rfl rfl dX6_tryPair_6 ?_
    refine xi_iload_n C 2 dX6_tryPair_9 rfl ?_
    replace h := ig h
    obtain ⟨c154, h⟩ := h
    refine xi_iald C 11 rfl c154 dX6_tryPair_10 ?_
    refine xi_istore C [1, 2, 3, 4, 5, 6, 0] (L2 := [(0, .ref a_t), (1, .int x1), (2, .int x2), (3, .int x3), (4, .int x4), (5, .int x5), (6, .int ((t_after_e_pieces 4) x2.toNatClampNeg))]) dX6_tryPair_11 (Nat.le_of_ble_eq_true rfl) rfl ?_
    refine xi_aload_n C 0 dX6_tryPair_13 rfl ?_
    refine xi_get C zkX6 0 0 zlX6_11 (by decide) rfl rfl dX6_tryPair_14 ?_
    refine xi_iload_n C 1 dX6_tryPair_17 rfl ?_
    refine xi_aald C 1 5 (b := (a_t_after_e 4)) rfl rfl c1 (by rw [hj3]; rfl) dX6_tryPair_18 ?_
    refine xi_get C zkX3 0 10 zlX6_102 (by decide) rfl rfl dX6_tryPair_19 ?_
    refine xi_iload_n C 3 dX6_tryPair_22 rfl ?_
    replace h := ig h
    obtain ⟨c155, h⟩ := h
    refine xi_iald C 11 rfl c155 dX6_tryPair_23 ?_
    refine xi_istore C [1, 2, 3, 4, 5, 6, 7, 0] (L2 := [(0, .ref a_t), (1, .int x1), (2, .int x2), (3, .int x3), (4, .int x4), (5, .int x5), (6, .int ((t_after_e_pieces 4) x2.toNatClampNeg)), (7, .int ((t_after_e_pieces 4) x3.toNatClampNeg))]) dX6_tryPair_24 (Nat.le_of_ble_eq_true rfl) rfl ?_
    refine xi_aload_n C 0 dX6_tryPair_26 rfl ?_
    refine xi_get C zkX6 0 0 zlX6_11 (by decide) rfl rfl dX6_tryPair_27 ?_
    refine xi_iload_n C 1 dX6_tryPair_30 rfl ?_
    refine xi_iconst C (v := 1) dX6_tryPair_31 rfl ?_
    refine xi_iadd C dX6_tryPair_32 ?_
    replace h := ig h
    obtain ⟨c156, h⟩ := h
    have hj157 : (x1 + 1).toNatClampNeg = 5 := zks c1 hj3 (by decide)
    exact zkx c156 hj157 (by decide)
