/-! a text handed over, twenty letters a time -/
theorem acc_step {ch : Nat → Nat} {g : Nat → Int32} {j : Nat} (hch : ∀ q, ch q < 128) (hj : j < 20) (hg : ∀ w, w < 5 → g w = nI (accN ch (4 * w) (min 4 (j - 4 * w)))) : ∀ w, w < 5 → upd g (j / 4) ((g (j / 4) <<< ((8 : Int32) &&& 31)) ||| nI (ch j)) w = nI (accN ch (4 * w) (min 4 (j + 1 - 4 * w))) := by
  intro w hw
  by_cases c : w = j / 4
  · subst c
    have hl := accN_lt hch (4 * (j / 4))
    have hc := hch j
    obtain ⟨m, hm4, hm⟩ : ∃ m, m < 4 ∧ j = 4 * (j / 4) + m := ⟨j % 4, by omega, by omega⟩
    have e1 : min 4 (j - 4 * (j / 4)) = m := by omega
    have e2 : min 4 (j + 1 - 4 * (j / 4)) = m + 1 := by omega
    have hb : accN ch (4 * (j / 4)) m < 2 ^ 23 := by
      rcases (show m = 0 ∨ m = 1 ∨ m = 2 ∨ m = 3 by omega) with z | z | z | z <;> rw [z]
      · rw [hl.1]; decide
      · exact Nat.lt_trans hl.2.1 (by decide)
      · exact Nat.lt_trans hl.2.2.1 (by decide)
      · exact hl.2.2.2.1
    rw [pk_us, hg _ hw, e1, e2, shl8 hb (by omega)]
    show nI (accN ch (4 * (j / 4)) m * 256 + ch j) = nI (accN ch (4 * (j / 4)) m * 256 + ch (4 * (j / 4) + m))
    rw [← hm]
  · rw [pk_un c, hg w hw]
    have e : min 4 (j - 4 * w) = min 4 (j + 1 - 4 * w) := by omega
    rw [e]
theorem OB_T {cT : Nat → ClassId} {a_t bh : Nat} {T T2 : Nat → Nat} {W : va_W} (h : OB cT a_t bh T W) (e : T = T2) : OB cT a_t bh T2 W := e ▸ h
theorem OB_0 {cT : Nat → ClassId} {a_t : Nat} {T T2 : Nat → Nat} {W : va_W} (h : OB cT a_t 0 T W) : OB cT a_t 0 T2 W := by
  obtain ⟨A, AE, I, F, J, O, OE, G, rl, pe, lc, bc, ac, ro, ca, npp, hn, hc, hf, hp0⟩ := h
  exact ⟨A, AE, I, F, J, O, OE, G, rl, pe, lc, bc, ac, ro, ca, npp, hn, hc, ⟨hf.1, hf.2.1, hf.2.2.1, hf.2.2.2.1, fun i hi => absurd hi (Nat.not_lt_zero _)⟩, hp0⟩
set_option maxRecDepth 100000 in
set_option maxHeartbeats 4000000 in
theorem kL_feeds (l : Launch) (D : va_G) (cT : Nat → ClassId) {a_t s v n : Nat} {f : Nat → Int32} {Tx T0 : Nat → Nat} {W0 : va_W} (hn : n ≤ 220) (hx : ∀ q, Tx q < 128) (hf : ∀ q, q < n → f q = nI (Tx q)) (h32 : ∀ q, n ≤ q → Tx q = 32) (hW : OB cT a_t 0 T0 W0) : sE l yL_feeds (zw yL_feeds cL_feeds 6 (some .boolean)) (zRA 8 12 60) 12 60 (some .boolean) D cT [.ref a_t, .ref s] (W0 ++ (([(s, .inr (13, [.ref v, .int 0, .int 0, .int 0]))] : va_W) ++ (([(v, .inl (cT 2, n, .inl f))] : va_W) ++ ([])))) (fun r W => r = some (.int 1) ∧ ∃ (bh : Nat) (Wo : va_W), n ≤ bh ∧ OB cT a_t bh Tx Wo ∧ W = Wo ++ []) := by
  have hW0 : OB cT a_t 0 Tx W0 := OB_0 hW
  refine sE_bool rfl (Nat.le_of_ble_eq_true rfl) ?_
  intro X C hE
  have KX : ∀ (i b : Nat) (Wo : va_W), b = 20 * i → i ≤ 11 → OB cT a_t b Tx Wo → n ≤ b → sW X l (zRA 8 12 60) D 6 i (5 * i) 4 [(0, .ref a_t), (1, .ref s), (2, .int (nI b)), (3, .int (nI b))] [] (Wo ++ (([(s, .inr (13, [.ref v, .int 0, .int 0, .int 0]))] : va_W) ++ (([(v, .inl (cT 2, n, .inl f))] : va_W) ++ ([])))) := by
    intro i b Wo hb hi hO hle
    refine xi_iload_n C 3 dL_feeds_4 rfl ?_
    refine xi_aload_n C 1 dL_feeds_5 rfl ?_
    refine xi_callEV C (sE_of_sM (kJ0_lengthW l D cT)) (Wo ++ ([])) (by have h := permX (bs := [Wo, ([(s, .inr (13, [.ref v, .int 0, .int 0, .int 0]))] : va_W), ([(v, .inl (cT 2, n, .inl f))] : va_W)]) (A := [([(s, .inr (13, [.ref v, .int 0, .int 0, .int 0]))] : va_W), ([(v, .inl (cT 2, n, .inl f))] : va_W)]) (B := [Wo]) (n := 3) rfl [1, 2, 0] rfl (by decide) flat2; simp only [List.flatten_cons, List.flatten_nil, List.append_assoc, List.nil_append, List.append_nil, List.cons_append] at h ⊢; exact h) zcJ0_length_8abf5 zmL_7 ziJ0_length_8abf5 (zrE rfl rfl) ⟨by show _ ≤ 12; omega, by show _ ≤ 60; omega⟩ rfl zkJ0.1 (qr := 0) rfl rfl (Nat.le_of_ble_eq_true rfl) dL_feeds_6 (fun v1 W2 hv3 _ => ?_)
    obtain ⟨rfl, rfl⟩ := hv3
    refine xi_eqw (ws2 := ([(s, .inr (13, [.ref v, .int 0, .int 0, .int 0]))] : va_W) ++ (([(v, .inl (cT 2, n, .inl f))] : va_W) ++ (Wo ++ ([])))) (by simp only [List.append_assoc, List.nil_append, List.append_nil, List.cons_append]) ?_
    refine xi_icmp_ge C (tgt := 114) dL_feeds_9 rfl (fun c4 => ?_) (fun c4 => False.elim ((fun z => z (nI_le (by omega) (by omega))) c4))
    refine xi_iconst C (v := 1) dL_feeds_114 rfl ?_
    refine xi_permL (ws2 := Wo ++ (([(s, .inr (13, [.ref v, .int 0, .int 0, .int 0]))] : va_W) ++ (([(v, .inl (cT 2, n, .inl f))] : va_W) ++ ([])))) (by have h := permR (bs := [([(s, .inr (13, [.ref v, .int 0, .int 0, .int 0]))] : va_W), ([(v, .inl (cT 2, n, .inl f))] : va_W), Wo]) (bs2 := [Wo, ([(s, .inr (13, [.ref v, .int 0, .int 0, .int 0]))] : va_W), ([(v, .inl (cT 2, n, .inl f))] : va_W)]) (n := 3) rfl [2, 0, 1] rfl (by decide); simp only [List.flatten_cons, List.flatten_nil] at h; exact h) ?_
    refine xi_less (ws2 := Wo ++ ([])) (List.Sublist.append_left (List.nil_sublist _) _) ?_
    refine xi_wide (k2 := 12) (n2 := 60) (by omega) (by omega) ?_
    exact hE _ _ _ _ dL_feeds_115 rfl ⟨rfl, b, Wo, hle, hO, rfl⟩
  have LO : ∀ (d i b : Nat) (Wo : va_W), b = 20 * i → i + d ≤ 11 → n ≤ b + 20 * d → OB cT a_t b Tx Wo → sW X l (zRA 8 12 60) D 6 i (5 * i) 4 [(0, .ref a_t), (1, .ref s), (2, .int (nI b)), (3, .int (nI b))] [] (Wo ++ (([(s, .inr (13, [.ref v, .int 0, .int 0, .int 0]))] : va_W) ++ (([(v, .inl (cT 2, n, .inl f))] : va_W) ++ ([])))) := by
    intro d
    induction d with
    | zero => intro i b Wo hb hi hle hO; exact KX i b Wo hb (by omega) hO (by omega)
    | succ d ih =>
      intro i b Wo hb hi hle hO
      rcases Nat.lt_or_ge b n with hlt | hge
      · skip
        refine xi_iload_n C 3 dL_feeds_4 rfl ?_
        refine xi_aload_n C 1 dL_feeds_5 rfl ?_
        refine xi_callEV C (sE_of_sM (kJ0_lengthW l D cT)) (Wo ++ ([])) (by have h := permX (bs := [Wo, ([(s, .inr (13, [.ref v, .int 0, .int 0, .int 0]))] : va_W), ([(v, .inl (cT 2, n, .inl f))] : va_W)]) (A := [([(s, .inr (13, [.ref v, .int 0, .int 0, .int 0]))] : va_W), ([(v, .inl (cT 2, n, .inl f))] : va_W)]) (B := [Wo]) (n := 3) rfl [1, 2, 0] rfl (by decide) flat2; simp only [List.flatten_cons, List.flatten_nil, List.append_assoc, List.nil_append, List.append_nil, List.cons_append] at h ⊢; exact h) zcJ0_length_8abf5 zmL_7 ziJ0_length_8abf5 (zrE rfl rfl) ⟨by show _ ≤ 12; omega, by show _ ≤ 60; omega⟩ rfl zkJ0.1 (qr := 0) rfl rfl (Nat.le_of_ble_eq_true rfl) dL_feeds_6 (fun v5 W6 hv7 _ => ?_)
        obtain ⟨rfl, rfl⟩ := hv7
        refine xi_eqw (ws2 := ([(s, .inr (13, [.ref v, .int 0, .int 0, .int 0]))] : va_W) ++ (([(v, .inl (cT 2, n, .inl f))] : va_W) ++ (Wo ++ ([])))) (by simp only [List.append_assoc, List.nil_append, List.append_nil, List.cons_append]) ?_
        refine xi_icmp_ge C (tgt := 114) dL_feeds_9 rfl (fun c8 => False.elim ((fun z => nI_ge (a := b) (b := n) hlt (by omega) z) c8)) (fun c8 => ?_)
        refine xi_iconst C (v := 5) dL_feeds_12 rfl ?_
        refine xi_newaI C (N := 5) (zm1 (i := 71) rfl rfl) (by decide) rfl (by decide) (by show _ + 1 ≤ 12; omega) (by show _ + 5 ≤ 60; omega) dL_feeds_13 (fun ar => ?_)
        refine xi_eqw (ws2 := ([(s, .inr (13, [.ref v, .int 0, .int 0, .int 0]))] : va_W) ++ (([(v, .inl (cT 2, n, .inl f))] : va_W) ++ (Wo ++ (([(ar, .inl (cT 0, 5, .inl (fun _ => 0)))] : va_W) ++ ([]))))) (by simp only [List.append_assoc, List.nil_append, List.append_nil]) ?_
        refine xi_astore C [1, 2, 3, 4, 0] (L2 := [(0, .ref a_t), (1, .ref s), (2, .int (nI b)), (3, .int (nI b)), (4, .ref ar)]) dL_feeds_15 (Nat.le_of_ble_eq_true rfl) rfl ?_
        refine xi_iconst C (v := 0) dL_feeds_17 rfl ?_
        refine xi_istore C [1, 2, 3, 4, 5, 0] (L2 := [(0, .ref a_t), (1, .ref s), (2, .int (nI b)), (3, .int (nI b)), (4, .ref ar), (5, .int 0)]) dL_feeds_18 (Nat.le_of_ble_eq_true rfl) rfl ?_
        obtain ⟨ch, hch⟩ : ∃ ch : Nat → Nat, ch = fun q => Tx (b + q) := ⟨_, rfl⟩
        have hc1 : ∀ q, ch q < 128 := fun q => by rw [hch]; exact hx _
        refine xi_wide (k2 := (i + 1)) (n2 := (5 * i + 5)) (by omega) (by omega) ?_
        refine xi_permL (ws2 := Wo ++ (([(s, .inr (13, [.ref v, .int 0, .int 0, .int 0]))] : va_W) ++ (([(v, .inl (cT 2, n, .inl f))] : va_W) ++ (([(ar, .inl (cT 0, 5, .inl (fun _ => 0)))] : va_W) ++ ([]))))) (by have h := permR (bs := [([(s, .inr (13, [.ref v, .int 0, .int 0, .int 0]))] : va_W), ([(v, .inl (cT 2, n, .inl f))] : va_W), Wo, ([(ar, .inl (cT 0, 5, .inl (fun _ => 0)))] : va_W)]) (bs2 := [Wo, ([(s, .inr (13, [.ref v, .int 0, .int 0, .int 0]))] : va_W), ([(v, .inl (cT 2, n, .inl f))] : va_W), ([(ar, .inl (cT 0, 5, .inl (fun _ => 0)))] : va_W)]) (n := 4) rfl [2, 0, 1, 3] rfl (by decide); simp only [List.flatten_cons, List.flatten_nil] at h; exact h) ?_
        have LI : ∀ (e j : Nat), j + e = 20 → ∀ (g : Nat → Int32), (∀ w, w < 5 → g w = nI (accN ch (4 * w) (min 4 (j - 4 * w)))) → sW X l (zRA 8 12 60) D 6 (i + 1) (5 * i + 5) 20 [(0, .ref a_t), (1, .ref s), (2, .int (nI b)), (3, .int (nI b)), (4, .ref ar), (5, .int (nI j))] [] (Wo ++ (([(s, .inr (13, [.ref v, .int 0, .int 0, .int 0]))] : va_W) ++ (([(v, .inl (cT 2, n, .inl f))] : va_W) ++ (([(ar, .inl (cT 0, 5, .inl g))] : va_W) ++ ([]))))) := by
          intro e
          induction e with
          | zero =>
            intro j hj g hg
            have hj20 : j = 20 := by omega
            subst hj20
            refine xi_iload C 5 dL_feeds_20 rfl ?_
            refine xi_bipush C (v := 20) dL_feeds_22 rfl ?_
            refine xi_rwi (y := nI 20) rfl ?_
            refine xi_icmp_ge C (tgt := 75) dL_feeds_24 rfl (fun c9 => ?_) (fun c9 => False.elim ((fun z => z (nI_le (Nat.le_refl _) (by decide))) c9))
            refine xi_iinc C (v := nI (b + 20)) 2 [1, 2, 0, 3, 4, 5] (L2 := [(0, .ref a_t), (1, .ref s), (2, .int (nI (b + 20))), (3, .int (nI b)), (4, .ref ar), (5, .int (nI 20))]) dL_feeds_75 rfl (nI_add b 20) (Nat.le_of_ble_eq_true rfl) rfl ?_
            refine xi_aload_n C 0 dL_feeds_78 rfl ?_
            refine xi_aload C 4 dL_feeds_79 rfl ?_
            refine xi_iconst C (v := 0) dL_feeds_81 rfl ?_
            refine xi_rwi (y := nI 0) (show (0 : Int32) = nI 0 from rfl) ?_
            refine xw_iald C _ (zap2 rfl (zap2 rfl (zap2 rfl (zap1 ((rfl : (([(ar, .inl (cT 0, 5, .inl g))] : va_W) : va_W)[0]? = some _)))))) (by omega) (by decide) dL_feeds_82 ?_
            refine xi_rwi (y := nI (accN ch 0 4)) (hg 0 (by decide)) ?_
            refine xi_aload C 4 dL_feeds_83 rfl ?_
            refine xi_iconst C (v := 1) dL_feeds_85 rfl ?_
            refine xi_rwi (y := nI 1) (show (1 : Int32) = nI 1 from rfl) ?_
            refine xw_iald C _ (zap2 rfl (zap2 rfl (zap2 rfl (zap1 ((rfl : (([(ar, .inl (cT 0, 5, .inl g))] : va_W) : va_W)[0]? = some _)))))) (by omega) (by decide) dL_feeds_86 ?_
            refine xi_rwi (y := nI (accN ch 4 4)) (hg 1 (by decide)) ?_
            refine xi_aload C 4 dL_feeds_87 rfl ?_
            refine xi_iconst C (v := 2) dL_feeds_89 rfl ?_
            refine xi_rwi (y := nI 2) (show (2 : Int32) = nI 2 from rfl) ?_
            refine xw_iald C _ (zap2 rfl (zap2 rfl (zap2 rfl (zap1 ((rfl : (([(ar, .inl (cT 0, 5, .inl g))] : va_W) : va_W)[0]? = some _)))))) (by omega) (by decide) dL_feeds_90 ?_
            refine xi_rwi (y := nI (accN ch 8 4)) (hg 2 (by decide)) ?_
            refine xi_aload C 4 dL_feeds_91 rfl ?_
            refine xi_iconst C (v := 3) dL_feeds_93 rfl ?_
            refine xi_rwi (y := nI 3) (show (3 : Int32) = nI 3 from rfl) ?_
            refine xw_iald C _ (zap2 rfl (zap2 rfl (zap2 rfl (zap1 ((rfl : (([(ar, .inl (cT 0, 5, .inl g))] : va_W) : va_W)[0]? = some _)))))) (by omega) (by decide) dL_feeds_94 ?_
            refine xi_rwi (y := nI (accN ch 12 4)) (hg 3 (by decide)) ?_
            refine xi_aload C 4 dL_feeds_95 rfl ?_
            refine xi_iconst C (v := 4) dL_feeds_97 rfl ?_
            refine xi_rwi (y := nI 4) (show (4 : Int32) = nI 4 from rfl) ?_
            refine xw_iald C _ (zap2 rfl (zap2 rfl (zap2 rfl (zap1 ((rfl : (([(ar, .inl (cT 0, 5, .inl g))] : va_W) : va_W)[0]? = some _)))))) (by omega) (by decide) dL_feeds_98 ?_
            refine xi_rwi (y := nI (accN ch 16 4)) (hg 4 (by decide)) ?_
            obtain ⟨fs, qz, hq⟩ := OB_at hO
            refine xi_callEV C (kB_append l D cT hO (ch := ch) hc1 (by omega)) (([(s, .inr (13, [.ref v, .int 0, .int 0, .int 0]))] : va_W) ++ (([(v, .inl (cT 2, n, .inl f))] : va_W) ++ (([(ar, .inl (cT 0, 5, .inl g))] : va_W) ++ ([])))) (by have h := permX (bs := [Wo, ([(s, .inr (13, [.ref v, .int 0, .int 0, .int 0]))] : va_W), ([(v, .inl (cT 2, n, .inl f))] : va_W), ([(ar, .inl (cT 0, 5, .inl g))] : va_W)]) (A := [Wo]) (B := [([(s, .inr (13, [.ref v, .int 0, .int 0, .int 0]))] : va_W), ([(v, .inl (cT 2, n, .inl f))] : va_W), ([(ar, .inl (cT 0, 5, .inl g))] : va_W)]) (n := 4) rfl [0, 1, 2, 3] rfl (by decide) flat1; simp only [List.flatten_cons, List.flatten_nil, List.append_assoc, List.nil_append, List.append_nil, List.cons_append] at h ⊢; exact h) zcX10_append zmL_17 ziX10_append (zrE rfl rfl) ⟨by show _ ≤ 12; omega, by show _ ≤ 60; omega⟩ rfl zkX10.1 (qr := qz) hq rfl (Nat.le_of_ble_eq_true rfl) dL_feeds_99 (fun v10 W11 hv12 _ => ?_)
            obtain ⟨rfl, hO2⟩ := hv12
            have hO3 := OB_T hO2 (T2 := Tx) (funext (fun q => by
              by_cases c9 : q < b
              · exact if_pos c9
              · rw [if_neg c9, hch]
                show Tx (b + (q - b)) = Tx q
                rw [Nat.add_sub_cancel' (by omega)]))
            refine xi_eqw (ws2 := W11 ++ (([(s, .inr (13, [.ref v, .int 0, .int 0, .int 0]))] : va_W) ++ (([(v, .inl (cT 2, n, .inl f))] : va_W) ++ (([(ar, .inl (cT 0, 5, .inl g))] : va_W) ++ ([]))))) (by simp only [List.append_assoc, List.nil_append, List.append_nil, List.cons_append]) ?_
            refine xi_iload_n C 2 dL_feeds_102 rfl ?_
            refine xi_icmp_eq C (tgt := 108) dL_feeds_103 rfl (fun c13 => ?_) (fun c13 => False.elim ((fun z => z rfl) c13))
            refine xi_iinc C (v := nI (b + 20)) 3 [1, 2, 3, 0, 4, 5] (L2 := [(0, .ref a_t), (1, .ref s), (2, .int (nI (b + 20))), (3, .int (nI (b + 20))), (4, .ref ar), (5, .int (nI 20))]) dL_feeds_108 rfl (nI_add b 20) (Nat.le_of_ble_eq_true rfl) rfl ?_
            refine xi_goto C (tgt := 4) dL_feeds_111 rfl ?_
            refine xi_drop (L2 := [(0, .ref a_t), (1, .ref s), (2, .int (nI (b + 20))), (3, .int (nI (b + 20)))]) [0, 1, 2, 3] rfl ?_
            refine xi_permL (ws2 := W11 ++ (([(s, .inr (13, [.ref v, .int 0, .int 0, .int 0]))] : va_W) ++ (([(v, .inl (cT 2, n, .inl f))] : va_W) ++ (([(ar, .inl (cT 0, 5, .inl g))] : va_W) ++ ([]))))) (by have h := permR (bs := [W11, ([(s, .inr (13, [.ref v, .int 0, .int 0, .int 0]))] : va_W), ([(v, .inl (cT 2, n, .inl f))] : va_W), ([(ar, .inl (cT 0, 5, .inl g))] : va_W)]) (bs2 := [W11, ([(s, .inr (13, [.ref v, .int 0, .int 0, .int 0]))] : va_W), ([(v, .inl (cT 2, n, .inl f))] : va_W), ([(ar, .inl (cT 0, 5, .inl g))] : va_W)]) (n := 4) rfl [0, 1, 2, 3] rfl (by decide); simp only [List.flatten_cons, List.flatten_nil] at h; exact h) ?_
            refine xi_less (ws2 := W11 ++ (([(s, .inr (13, [.ref v, .int 0, .int 0, .int 0]))] : va_W) ++ (([(v, .inl (cT 2, n, .inl f))] : va_W) ++ ([])))) (List.Sublist.append_left (List.Sublist.append_left (List.Sublist.append_left (List.nil_sublist _) _) _) _) ?_
            refine xi_wide (k2 := (i + 1)) (n2 := (5 * (i + 1))) (by omega) (by omega) ?_
            exact ih (i + 1) (b + 20) W11 (by omega) (by omega) (by omega) hO3
          | succ e ihe =>
            intro j hj g hg
            refine xi_iload C 5 dL_feeds_20 rfl ?_
            refine xi_bipush C (v := 20) dL_feeds_22 rfl ?_
            refine xi_rwi (y := nI 20) rfl ?_
            refine xi_icmp_ge C (tgt := 75) dL_feeds_24 rfl (fun c14 => False.elim ((fun z => nI_ge (a := j) (b := 20) (by omega) (by decide) z) c14)) (fun c14 => ?_)
            refine xi_aload C 4 dL_feeds_27 rfl ?_
            refine xi_iload C 5 dL_feeds_29 rfl ?_
            refine xi_iconst C (v := 4) dL_feeds_31 rfl ?_
            refine xi_idiv C dL_feeds_32 (by decide) ?_
            refine xi_rwi (y := nI (j / 4)) (pk_div (a := j) (d := 4) (by omega) (by decide) (by decide)) ?_
            refine xi_aload C 4 dL_feeds_33 rfl ?_
            refine xi_iload C 5 dL_feeds_35 rfl ?_
            refine xi_iconst C (v := 4) dL_feeds_37 rfl ?_
            refine xi_idiv C dL_feeds_38 (by decide) ?_
            refine xi_rwi (y := nI (j / 4)) (pk_div (a := j) (d := 4) (by omega) (by decide) (by decide)) ?_
            refine xw_iald C _ (zap2 rfl (zap2 rfl (zap2 rfl (zap1 ((rfl : (([(ar, .inl (cT 0, 5, .inl g))] : va_W) : va_W)[0]? = some _)))))) (by omega) (by decide) dL_feeds_39 ?_
            refine xi_bipush C (v := 8) dL_feeds_40 rfl ?_
            refine xi_ishl C dL_feeds_42 ?_
            refine xi_iload_n C 3 dL_feeds_43 rfl ?_
            refine xi_iload C 5 dL_feeds_44 rfl ?_
            refine xi_iadd C dL_feeds_46 ?_
            refine xi_rwi (y := nI (b + j)) (nI_add b j) ?_
            refine xi_aload_n C 1 dL_feeds_47 rfl ?_
            refine xi_callEV C (sE_of_sM (kJ0_lengthW l D cT)) (Wo ++ (([(ar, .inl (cT 0, 5, .inl g))] : va_W) ++ ([]))) (by have h := permX (bs := [Wo, ([(s, .inr (13, [.ref v, .int 0, .int 0, .int 0]))] : va_W), ([(v, .inl (cT 2, n, .inl f))] : va_W), ([(ar, .inl (cT 0, 5, .inl g))] : va_W)]) (A := [([(s, .inr (13, [.ref v, .int 0, .int 0, .int 0]))] : va_W), ([(v, .inl (cT 2, n, .inl f))] : va_W)]) (B := [Wo, ([(ar, .inl (cT 0, 5, .inl g))] : va_W)]) (n := 4) rfl [1, 2, 0, 3] rfl (by decide) flat2; simp only [List.flatten_cons, List.flatten_nil, List.append_assoc, List.nil_append, List.append_nil, List.cons_append] at h ⊢; exact h) zcJ0_length_8abf5 zmL_7 ziJ0_length_8abf5 (zrE rfl rfl) ⟨by show _ ≤ 12; omega, by show _ ≤ 60; omega⟩ rfl zkJ0.1 (qr := 0) rfl rfl (Nat.le_of_ble_eq_true rfl) dL_feeds_48 (fun v15 W16 hv17 _ => ?_)
            obtain ⟨rfl, rfl⟩ := hv17
            refine xi_eqw (ws2 := ([(s, .inr (13, [.ref v, .int 0, .int 0, .int 0]))] : va_W) ++ (([(v, .inl (cT 2, n, .inl f))] : va_W) ++ (Wo ++ (([(ar, .inl (cT 0, 5, .inl g))] : va_W) ++ ([]))))) (by simp only [List.append_assoc, List.nil_append, List.append_nil, List.cons_append]) ?_
            refine xi_permL (ws2 := Wo ++ (([(s, .inr (13, [.ref v, .int 0, .int 0, .int 0]))] : va_W) ++ (([(v, .inl (cT 2, n, .inl f))] : va_W) ++ (([(ar, .inl (cT 0, 5, .inl g))] : va_W) ++ ([]))))) (by have h := permR (bs := [([(s, .inr (13, [.ref v, .int 0, .int 0, .int 0]))] : va_W), ([(v, .inl (cT 2, n, .inl f))] : va_W), Wo, ([(ar, .inl (cT 0, 5, .inl g))] : va_W)]) (bs2 := [Wo, ([(s, .inr (13, [.ref v, .int 0, .int 0, .int 0]))] : va_W), ([(v, .inl (cT 2, n, .inl f))] : va_W), ([(ar, .inl (cT 0, 5, .inl g))] : va_W)]) (n := 4) rfl [2, 0, 1, 3] rfl (by decide); simp only [List.flatten_cons, List.flatten_nil] at h; exact h) ?_
            refine xi_wide (k2 := (i + 1)) (n2 := (5 * i + 5)) (by omega) (by omega) ?_
            have K67 : sW X l (zRA 8 12 60) D 6 (i + 1) (5 * i + 5) 67 [(0, .ref a_t), (1, .ref s), (2, .int (nI b)), (3, .int (nI b)), (4, .ref ar), (5, .int (nI j))] [.int (nI (ch j)), .int ((g (j / 4)) <<< (8 &&& 31)), .int (nI (j / 4)), .ref ar] (Wo ++ (([(s, .inr (13, [.ref v, .int 0, .int 0, .int 0]))] : va_W) ++ (([(v, .inl (cT 2, n, .inl f))] : va_W) ++ (([(ar, .inl (cT 0, 5, .inl g))] : va_W) ++ ([]))))) := by
              refine xi_ior C dL_feeds_67 ?_
              refine xw_iast C _ (zap2 rfl (zap2 rfl (zap2 rfl (zap1 ((rfl : (([(ar, .inl (cT 0, 5, .inl g))] : va_W) : va_W)[0]? = some _)))))) (by omega) (by decide) dL_feeds_68 (ws2 := Wo ++ (([(s, .inr (13, [.ref v, .int 0, .int 0, .int 0]))] : va_W) ++ (([(v, .inl (cT 2, n, .inl f))] : va_W) ++ (([(ar, .inl (cT 0, 5, .inl (upd g (j / 4) (((g (j / 4)) <<< (8 &&& 31)) ||| (nI (ch j))))))] : va_W) ++ ([]))))) (zse2 rfl (zse2 rfl (zse2 rfl (zse1 (Nat.zero_lt_succ _) rfl)))) ?_
              refine xi_iinc C (v := nI (j + 1)) 5 [1, 2, 3, 4, 5, 0] (L2 := [(0, .ref a_t), (1, .ref s), (2, .int (nI b)), (3, .int (nI b)), (4, .ref ar), (5, .int (nI (j + 1)))]) dL_feeds_69 rfl (nI_1 j) (Nat.le_of_ble_eq_true rfl) rfl ?_
              refine xi_goto C (tgt := 20) dL_feeds_72 rfl ?_
              exact ihe (j + 1) (by omega) _ (acc_step hc1 (by omega) hg)
            refine xi_icmp_ge C (tgt := 65) dL_feeds_51 rfl (fun c18 => ?_) (fun c18 => ?_)
            · have hge := (nI_leI (a := n) (b := b + j) (by omega) (by omega)).mp c18
              refine xi_bipush C (v := 32) dL_feeds_65 rfl ?_
              refine xi_rwi (y := nI (ch j)) (by rw [hch]; show nI 32 = nI (Tx (b + j)) ; rw [h32 _ hge]) ?_
              exact K67
            · have hlt2 : b + j < n := Nat.not_le.mp (fun z => c18 (nI_le z (by omega)))
              refine xi_aload_n C 1 dL_feeds_54 rfl ?_
              refine xi_iload_n C 3 dL_feeds_55 rfl ?_
              refine xi_iload C 5 dL_feeds_56 rfl ?_
              refine xi_iadd C dL_feeds_58 ?_
              refine xi_rwi (y := nI (b + j)) (nI_add b j) ?_
              refine xi_callEV C (sE_of_sM (kJ0_charAtW l D cT (j := b + j) (b := Tx (b + j)) (f := f) (by omega) hlt2 (hf _ hlt2) (hx _))) (Wo ++ (([(ar, .inl (cT 0, 5, .inl g))] : va_W) ++ ([]))) (by have h := permX (bs := [Wo, ([(s, .inr (13, [.ref v, .int 0, .int 0, .int 0]))] : va_W), ([(v, .inl (cT 2, n, .inl f))] : va_W), ([(ar, .inl (cT 0, 5, .inl g))] : va_W)]) (A := [([(s, .inr (13, [.ref v, .int 0, .int 0, .int 0]))] : va_W), ([(v, .inl (cT 2, n, .inl f))] : va_W)]) (B := [Wo, ([(ar, .inl (cT 0, 5, .inl g))] : va_W)]) (n := 4) rfl [1, 2, 0, 3] rfl (by decide) flat2; simp only [List.flatten_cons, List.flatten_nil, List.append_assoc, List.nil_append, List.append_nil, List.cons_append] at h ⊢; exact h) zcJ0_charAt_5068e zmL_13 ziJ0_charAt_5068e (zrE rfl rfl) ⟨by show _ ≤ 12; omega, by show _ ≤ 60; omega⟩ rfl zkJ0.1 (qr := 0) rfl rfl (Nat.le_of_ble_eq_true rfl) dL_feeds_59 (fun v19 W20 hv21 _ => ?_)
              obtain ⟨rfl, rfl⟩ := hv21
              refine xi_eqw (ws2 := ([(s, .inr (13, [.ref v, .int 0, .int 0, .int 0]))] : va_W) ++ (([(v, .inl (cT 2, n, .inl f))] : va_W) ++ (Wo ++ (([(ar, .inl (cT 0, 5, .inl g))] : va_W) ++ ([]))))) (by simp only [List.append_assoc, List.nil_append, List.append_nil, List.cons_append]) ?_
              refine xi_rwi (y := nI (ch j)) (by rw [hch]) ?_
              refine xi_goto C (tgt := 67) dL_feeds_62 rfl ?_
              refine xi_permL (ws2 := Wo ++ (([(s, .inr (13, [.ref v, .int 0, .int 0, .int 0]))] : va_W) ++ (([(v, .inl (cT 2, n, .inl f))] : va_W) ++ (([(ar, .inl (cT 0, 5, .inl g))] : va_W) ++ ([]))))) (by have h := permR (bs := [([(s, .inr (13, [.ref v, .int 0, .int 0, .int 0]))] : va_W), ([(v, .inl (cT 2, n, .inl f))] : va_W), Wo, ([(ar, .inl (cT 0, 5, .inl g))] : va_W)]) (bs2 := [Wo, ([(s, .inr (13, [.ref v, .int 0, .int 0, .int 0]))] : va_W), ([(v, .inl (cT 2, n, .inl f))] : va_W), ([(ar, .inl (cT 0, 5, .inl g))] : va_W)]) (n := 4) rfl [2, 0, 1, 3] rfl (by decide); simp only [List.flatten_cons, List.flatten_nil] at h; exact h) ?_
              refine xi_wide (k2 := (i + 1)) (n2 := (5 * i + 5)) (by omega) (by omega) ?_
              exact K67
        exact LI 20 0 rfl _ (fun w hw => by rw [show min 4 (0 - 4 * w) = 0 by omega]; rfl)
      · exact KX i b Wo hb (by omega) hO hge
  refine xi_eqw (ws2 := W0 ++ (([(s, .inr (13, [.ref v, .int 0, .int 0, .int 0]))] : va_W) ++ (([(v, .inl (cT 2, n, .inl f))] : va_W) ++ ([])))) rfl ?_
  refine xi_drop (L2 := [(0, .ref a_t), (1, .ref s)]) [0, 1] rfl ?_
  refine xi_iconst C (v := 0) dL_feeds_0 rfl ?_
  refine xi_istore_n C [1, 2, 0] (L2 := [(0, .ref a_t), (1, .ref s), (2, .int 0)]) dL_feeds_1 (Nat.le_of_ble_eq_true rfl) rfl ?_
  refine xi_iconst C (v := 0) dL_feeds_2 rfl ?_
  refine xi_istore_n C [1, 2, 3, 0] (L2 := [(0, .ref a_t), (1, .ref s), (2, .int 0), (3, .int 0)]) dL_feeds_3 (Nat.le_of_ble_eq_true rfl) rfl ?_
  exact LO 11 0 0 W0 rfl (by omega) (by omega) hW0
