/-! the law's body (the room's numbers, which a TURN measures anew, are not named: only that they are large enough) -/
theorem zRmC : 25000 ≤ room_1.cells := Nat.le_of_ble_eq_true rfl
theorem zRmS : 2000000 ≤ room_1.slots := Nat.le_of_ble_eq_true rfl
theorem zRmF : 2000 ≤ room_1.frames := Nat.le_of_ble_eq_true rfl
theorem zRmL : 60000 ≤ room_1.locals := Nat.le_of_ble_eq_true rfl
theorem zrWN {a m mc ms : Nat} (ha : Nat.ble a 400 = true) (hm : Nat.ble m 80 = true) : zRmN (zRA a mc ms) room_1 m mc ms := by
  have h1 : a ≤ 400 := Nat.le_of_ble_eq_true ha
  have h2 : m ≤ 80 := Nat.le_of_ble_eq_true hm
  refine ⟨rfl, rfl, ?_, ?_⟩
  · exact Nat.le_trans (show 4 * a + 1 ≤ 2000 by omega) zRmF
  · exact Nat.le_trans (show 8 + (m + 11) + 100 * a ≤ 60000 by omega) zRmL
set_option maxRecDepth 100000 in
set_option maxHeartbeats 4000000 in
theorem law_body (l : Launch) (hls : l.stackTraces = false) (D : va_G) (cT : Nat → ClassId) {X : sX} (C : sC X room_1 D cT 4 code RL) {b N : Nat} {xs : Nat → Int32} (hN : N ≤ 260) (SC : zScr X b N xs) (hend : ∀ (k n : Nat) (L : List (Nat × Value)) (ws : va_W), k ≤ room_1.cells → n ≤ room_1.slots → sW X l room_1 D 4 k n 48 L [.int 1] ws) : sW X l room_1 D 4 0 0 0 [(0, .ref b)] [] [] := by
  have hcc : code = cL_law := rfl
  rw [hcc] at C
  obtain ⟨g9, hg9⟩ : ∃ g, FU = g + 1 + 10 := ⟨FU - 11, by have := FUge; omega⟩
  obtain ⟨u9, hu9, -⟩ := begin7 (np := 4) (by decide) 10 0 rfl g9 (fun _ => 0) (fun p h => absurd h (Nat.not_lt_zero _))
  have hv22 : fX7_begin (fun _ => 0) 4 = some (0, 0, 0, 0, none, nI 4, u9) := by
    unfold fX7_begin fX3_begin
    rw [hg9]
    show (fX3_begin_b7 (nI 4) (g9 + 1 + 10) (nI 0) (nI 4) (fun _ => 0)).bind _ = _
    rw [hu9, obs]
  refine xi_new C [.null, .null, .null, .null, .null, .null, .null, .null, .null, .null] zkX10 zclL_18 zibX10 zitX10 (fun j hj => by rcases (show j = 0 ∨ j = 1 ∨ j = 2 ∨ j = 3 ∨ j = 4 ∨ j = 5 ∨ j = 6 ∨ j = 7 ∨ j = 8 ∨ j = 9 by omega) with rfl | rfl | rfl | rfl | rfl | rfl | rfl | rfl | rfl | rfl <;> rfl) (Nat.le_of_ble_eq_true rfl) (Nat.le_of_ble_eq_true rfl) dL_law_0 (fun ax => ?_)
  refine xi_dup C dL_law_3 rfl ?_
  refine xi_callI C (kX10_init l D cT ax _ hv22) zcX10_init zmL_25 ziiX10_init rfl (fun _ => rfl) (zrWN rfl rfl) ⟨Nat.le_of_ble_eq_true rfl, Nat.le_of_ble_eq_true rfl⟩ rfl [0] [] rfl rfl (Wr := []) rfl rfl rfl rfl (Nat.le_of_ble_eq_true rfl) dL_law_4 (fun u => ?_)
  obtain ⟨F9, hF9⟩ := fresh_perm cT ax u (0, 0, 0, 0, none, nI 4, u9)
  have hO := OB_new cT ax u (0, 0, 0, 0, none, nI 4, u9) (fun _ => 0)
  refine xi_permL hF9 ?_
  refine xi_less (List.sublist_append_left _ _) ?_
  generalize (zO cT ax _ _ _ _ _ _ _ _ _ _ _ _ _ _ _ _ _ _ _).flatten = Wo at hO ⊢
  refine xi_astore_n C [1, 0] (L2 := [(0, .ref b), (1, .ref ax)]) dL_law_7 (Nat.le_of_ble_eq_true rfl) rfl ?_
  refine xi_eqw (ws2 := Wo ++ ([])) (List.append_nil _).symm ?_
  refine xi_aload_n C 0 dL_law_8 rfl ?_
  refine xi_scrlen C SC dL_law_9 ?_
  refine xi_istore_n C [1, 2, 0] (L2 := [(0, .ref b), (1, .ref ax), (2, .int (nI N))]) dL_law_10 (Nat.le_of_ble_eq_true rfl) rfl ?_
  refine xi_iconst C (v := 0) dL_law_11 rfl ?_
  refine xi_istore_n C [1, 2, 3, 0] (L2 := [(0, .ref b), (1, .ref ax), (2, .int (nI N)), (3, .int 0)]) dL_law_12 (Nat.le_of_ble_eq_true rfl) rfl ?_
  have LL : ∀ (d i : Nat), i + d = 5 → ∀ (Wo : va_W), OB cT ax 0 (fun _ => 0) Wo → sW X l (room_1) D 4 (200 + 4001 * i) (3000 + 350001 * i) 13 [(0, .ref b), (1, .ref ax), (2, .int (nI N)), (3, .int (nI i))] [] (Wo ++ ([])) := by
    have hout : ∀ (i : Nat) (Wo : va_W), i ≤ 5 → sW X l room_1 D 4 (200 + 4001 * i) (3000 + 350001 * i) 47 [(0, .ref b), (1, .ref ax), (2, .int (nI N)), (3, .int (nI i))] [] (Wo ++ []) := by
      intro i Wo hi
      refine xi_iconst C (v := 1) dL_law_47 rfl ?_
      exact hend _ _ _ _ (Nat.le_trans (show 200 + 4001 * i ≤ 25000 by omega) zRmC) (Nat.le_trans (show 3000 + 350001 * i ≤ 2000000 by omega) zRmS)
    intro d
    induction d with
    | zero =>
      intro i hi Wo hO
      refine xi_iload_n C 3 dL_law_13 rfl ?_
      refine xi_iload_n C 2 dL_law_14 rfl ?_
      rcases Nat.lt_or_ge i N with hlt | hge
      · refine xi_icmp_ge C (tgt := 47) dL_law_15 rfl (fun c1 => False.elim ((fun z => nI_ge (a := i) (b := N) hlt (by omega) z) c1)) (fun c1 => ?_)
        refine xi_iload_n C 3 dL_law_18 rfl ?_
        refine xi_iconst C (v := 5) dL_law_19 rfl ?_
        refine xi_rwi (y := nI 5) rfl ?_
        refine xi_icmp_ge C (tgt := 47) dL_law_20 rfl (fun c3 => ?_) (fun c3 => False.elim ((fun z => z (nI_le (by omega) (by omega))) c3))
        exact hout i Wo (by omega)
      · refine xi_icmp_ge C (tgt := 47) dL_law_15 rfl (fun c2 => ?_) (fun c2 => False.elim ((fun z => z (nI_le hge (by omega))) c2))
        exact hout i Wo (by omega)
    | succ d ih =>
      intro i hi Wo hO
      refine xi_iload_n C 3 dL_law_13 rfl ?_
      refine xi_iload_n C 2 dL_law_14 rfl ?_
      rcases Nat.lt_or_ge i N with hlt | hge
      · refine xi_icmp_ge C (tgt := 47) dL_law_15 rfl (fun c4 => False.elim ((fun z => nI_ge (a := i) (b := N) hlt (by omega) z) c4)) (fun c4 => ?_)
        refine xi_iload_n C 3 dL_law_18 rfl ?_
        refine xi_iconst C (v := 5) dL_law_19 rfl ?_
        refine xi_rwi (y := nI 5) rfl ?_
        refine xi_icmp_ge C (tgt := 47) dL_law_20 rfl (fun c6 => False.elim ((fun z => nI_ge (a := i) (b := 5) (by omega) (by decide) z) c6)) (fun c6 => ?_)
        refine xi_aload_n C 1 dL_law_23 rfl ?_
        refine xi_iconst C (v := 1) dL_law_24 rfl ?_
        refine xi_newaI C (N := 1) (zm1 (i := 71) rfl rfl) (by decide) rfl (by decide) (by exact Nat.le_trans (show (200 + 4001 * i) + 1 ≤ 25000 by omega) zRmC) (by exact Nat.le_trans (show (3000 + 350001 * i) + 1 ≤ 2000000 by omega) zRmS) dL_law_25 (fun ag => ?_)
        refine xi_eqw (ws2 := Wo ++ (([(ag, .inl (cT 0, 1, .inl (fun _ => 0)))] : va_W) ++ ([]))) (by simp only [List.append_assoc, List.nil_append, List.append_nil]) ?_
        refine xi_dup C dL_law_27 rfl ?_
        refine xi_iconst C (v := 0) dL_law_28 rfl ?_
        refine xi_aload_n C 0 dL_law_29 rfl ?_
        refine xi_iload_n C 3 dL_law_30 rfl ?_
        refine xi_scrld C SC (vp_in_nI hlt (by omega)) dL_law_31 ?_
        refine xi_rwi2 (show (0 : Int32) = nI 0 from rfl) ?_
        refine xw_iast C _ (zap2 rfl (zap1 ((rfl : (([(ag, .inl (cT 0, 1, .inl (fun _ => 0)))] : va_W) : va_W)[0]? = some _)))) (by decide) (by decide) dL_law_32 (ws2 := Wo ++ (([(ag, .inl (cT 0, 1, .inl (upd (fun _ => 0) 0 (xs (nI i).toNatClampNeg))))] : va_W) ++ ([]))) (zse2 rfl (zse1 (Nat.zero_lt_succ _) rfl)) ?_
        refine xi_callES C (kL_plays l D cT hls hO) ([]) (by have h := permX (bs := [Wo, ([(ag, .inl (cT 0, 1, .inl (upd (fun _ => 0) 0 (xs (nI i).toNatClampNeg))))] : va_W)]) (A := [Wo, ([(ag, .inl (cT 0, 1, .inl (upd (fun _ => 0) 0 (xs (nI i).toNatClampNeg))))] : va_W)]) (B := []) (n := 2) rfl [0, 1] rfl (by decide) flat2; simp only [List.flatten_cons, List.flatten_nil, List.append_assoc, List.nil_append, List.append_nil, List.cons_append] at h ⊢; exact h) zcL_plays zmL_26 zsL_plays (zrWN rfl rfl) ⟨by exact Nat.le_trans (show (200 + 4001 * i) + 1 + 4000 ≤ 25000 by omega) zRmC, by exact Nat.le_trans (show (3000 + 350001 * i) + 1 + 350000 ≤ 2000000 by omega) zRmS⟩ rfl rfl (Nat.le_of_ble_eq_true rfl) dL_law_33 (fun v7 W8 hv9 _ => ?_)
        obtain ⟨rfl, gv2, Wo2, hO2, rfl⟩ := hv9
        refine xi_eqw (ws2 := Wo2 ++ (([(ag, .inl (cT 0, 1, .inl gv2))] : va_W) ++ ([]))) (by simp only [List.append_assoc, List.nil_append, List.append_nil, List.cons_append]) ?_
        refine xi_if_ne C (tgt := 41) dL_law_36 rfl (fun c10 => ?_) (fun c10 => False.elim ((fun z => absurd z (by decide)) c10))
        refine xi_iinc C (v := nI (i + 1)) 3 [1, 2, 3, 0] (L2 := [(0, .ref b), (1, .ref ax), (2, .int (nI N)), (3, .int (nI (i + 1)))]) dL_law_41 rfl (nI_1 i) (Nat.le_of_ble_eq_true rfl) rfl ?_
        refine xi_goto C (tgt := 13) dL_law_44 rfl ?_
        refine xi_permL (ws2 := Wo2 ++ (([(ag, .inl (cT 0, 1, .inl gv2))] : va_W) ++ ([]))) (by have h := permR (bs := [Wo2, ([(ag, .inl (cT 0, 1, .inl gv2))] : va_W)]) (bs2 := [Wo2, ([(ag, .inl (cT 0, 1, .inl gv2))] : va_W)]) (n := 2) rfl [0, 1] rfl (by decide); simp only [List.flatten_cons, List.flatten_nil] at h; exact h) ?_
        refine xi_less (ws2 := Wo2 ++ ([])) (List.Sublist.append_left (List.nil_sublist _) _) ?_
        refine xi_wide (k2 := (200 + 4001 * (i + 1))) (n2 := (3000 + 350001 * (i + 1))) (by omega) (by omega) ?_
        exact ih (i + 1) (by omega) Wo2 hO2
      · refine xi_icmp_ge C (tgt := 47) dL_law_15 rfl (fun c5 => ?_) (fun c5 => False.elim ((fun z => z (nI_le hge (by omega))) c5))
        exact hout i Wo (by omega)
  refine xi_wide (k2 := (200 + 4001 * 0)) (n2 := (3000 + 350001 * 0)) (by decide) (by decide) ?_
  exact LL 5 0 rfl Wo hO
