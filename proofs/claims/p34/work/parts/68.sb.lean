/-! the builder of texts -/
section Word
variable {X : sX} {l : Launch} {R : Room} {D : va_G} {cT : Nat → ClassId} {nL k n pc : Nat} {cc : ByteArray} {own : String} {L : List (Nat × Value)} {st : List Value} {ws : va_W}
theorem xi_callEVr (C : sC X R D cT nL cc own) {index b maxL np mc ms : Nat} {y : MethodName} {bytes : ByteArray} {ret : Option FieldType} {rm : Room} {As : List Value} {W0 : va_W} {Φ : Option Value → va_W → Prop} {st0 : List Value}
    (hM : sE l y (zw y bytes maxL ret) rm mc ms ret D cT (.ref b :: As) W0 Φ) (F : va_W) (hp : ws.Perm (W0 ++ F)) (hc : zC y bytes maxL ret np) (hml : zMl own index y) (hi : zI y) (hR : zRmN rm R maxL mc ms) (hk : k + mc ≤ R.cells ∧ n + ms ≤ R.slots) (hnp : As.length = np)
    (hrv : zRv X D y.cls b (W0 ++ F)) (hst : st0 = As.reverse ++ .ref b :: st) (hroom : (st.map fun v => v.category).sum ≤ 8)
    (hdg : decode cc pc = .ok (.invokevirtual index, 3)) (kk : ∀ rv W1, Φ rv W1 → zN ret rv → sW X l R D nL (k + mc) (n + ms) (pc + 3) L (rv.toList ++ st) (W1 ++ F)) : sW X l R D nL k n pc L st0 ws := by
  refine xi_permL hp ?_
  obtain ⟨p, e, s, m, args, below, meth, c, Q, A⟩ := X
  intro H locs ls hP hD hS hl
  subst hst
  have hF := vaA_A hD hS C.2.2.1
  have hPc : va_P D vwQ W0 H := vaP_mem hP (fun q hq => List.mem_append_left _ hq)
  have hDc : va_D A W0 := vaD_sub hD (List.sublist_append_left W0 F)
  have hpre : PreV s H y.cls b (zP D cT (.ref b :: As) H.size W0) As := ⟨zP_blind, hrv H locs hP hS, fun U hU hW => ⟨rfl, by rw [hU], by rw [hU]; exact hPc, va_K.moved hW.alike C.2.1, hDc.weaken (fun _ _ _ _ => trivial), by rw [hU]; exact zF_move C.2.2.2.2.1 hS hW hF, zH_move C.2.2.2.2.2 hW⟩⟩
  have hroom' : 2 * (F0 m pc ls (As.reverse ++ .ref b :: st)).monitorRoom + (st.map fun v => v.category).sum ≤ 8 := lv_room hroom
  refine z_afterE (mc := mc) (ms := ms) (W0 := W0) (Φ := Φ) (ret := ret) (D := D) (cT := cT) (a := (Value.ref b :: As).toArray) (rest := st) ?_ hS hF (fun rv W1 H1 locs1 hΦ hz hP1 hD1 hs1 hk1 hS1 => ?_)
  · rcases hml with hml | ⟨host, hml⟩
    · exact va_runV C.1 (hM H.size) ⟨callB_of np C.1.2.2.2.2 (zw_good hc.1) rfl hR.1 hR.2.1 (C.1.2.2.2.2 _ hc.2.1) (C.1.2.2.2.2 _ hml) hc.2.2 hR.2.2, C.1.2.2.2.2 _ hi.1, C.1.2.2.2.2 _ hi.2⟩ hpre rfl hnp hl.1 rfl hroom' hdg hk
    · exact va_runVN C.1 (hM H.size) ⟨va_cnB np C.1.2.2.2.2 (zw_good hc.1) rfl hR.1 hR.2.1 (C.2.2.2.2.2 _ hml) (C.1.2.2.2.2 _ hc.2.1) hc.2.2 hR.2.2, C.1.2.2.2.2 _ hi.1, C.1.2.2.2.2 _ hi.2⟩ hpre rfl hnp hl.1 rfl hroom' hdg hk
  · obtain ⟨h1, h2⟩ := z_worldF hP hD hk1 hF hP1 hD1
    exact kk rv W1 hΦ hz H1 locs1 ls h1 h2 hS1 hl
end Word
theorem nI_subj {a b : Nat} (h : b ≤ a) : nI a - nI b = nI (a - b) := by
  have e : nI a = nI (a - b) + nI b := by rw [nI_add, Nat.sub_add_cancel h]
  rw [e, Int32.add_sub_cancel]
theorem nI_max {a b : Nat} (ha : a < 2 ^ 31) (hb : b < 2 ^ 31) : (if nI a < nI b then nI b else nI a) = nI (Nat.max a b) := by
  by_cases h : a < b
  · rw [if_pos (nI_lt h hb), show Nat.max a b = b from Nat.max_eq_right (by omega)]
  · rw [if_neg (nI_nlt (by omega) ha), show Nat.max a b = a from Nat.max_eq_left (by omega)]
theorem nI_min {a b : Nat} (ha : a < 2 ^ 31) (hb : b < 2 ^ 31) : (if nI b < nI a then nI b else nI a) = nI (Nat.min a b) := by
  by_cases h : b < a
  · rw [if_pos (nI_lt h ha), show Nat.min a b = b from Nat.min_eq_right (by omega)]
  · rw [if_neg (nI_nlt (by omega) hb), show Nat.min a b = a from Nat.min_eq_left (by omega)]
theorem flat2 {α : Type} {a b : List α} : List.flatten [a, b] = a ++ b := by simp
/-- a text's bytes -/
def hT (t : List Int32) (f : Nat → Int32) : Prop := sb_Fit f ∧ ∀ j, j < t.length → f j = t.getD j 0
set_option maxRecDepth 100000 in
set_option maxHeartbeats 4000000 in
theorem kJ8_newLength (l : Launch) (D : va_G) (cT : Nat → ClassId) {a b c : Nat} (ha : a < 500000) (hb : b < 500000) (hb0 : 0 < b) (hc : c < 500000) : sE l yJ8_newLength_cabcc (zw yJ8_newLength_cabcc cJ8_newLength_cabcc 4 (some .int)) (zR 2) 0 0 (some .int) D cT [.int (nI a), .int (nI b), .int (nI c)] ([]) (fun r W => r = some (.int (nI (a + Nat.max b c))) ∧ W = []) := by
  refine sE_int rfl (Nat.le_of_ble_eq_true rfl) ?_
  intro X C hE
  refine xi_eqw (ws2 := []) (by first | rfl | simp only [List.append_assoc, List.nil_append, List.append_nil, List.cons_append]) ?_
  refine xi_drop (L2 := [(0, .int (nI a)), (1, .int (nI b)), (2, .int (nI c))]) [0, 1, 2] rfl ?_
  refine xi_iload_n C 0 dJ8_newLength_cabcc_0 rfl ?_
  refine xi_iload_n C 1 dJ8_newLength_cabcc_1 rfl ?_
  refine xi_iload_n C 2 dJ8_newLength_cabcc_2 rfl ?_
  refine xi_mmax C zmjJ8_194 ⟨Nat.le_of_ble_eq_true rfl, Nat.le_of_ble_eq_true rfl⟩ ⟨Nat.le_of_ble_eq_true rfl, Nat.le_of_ble_eq_true rfl⟩ (Nat.le_of_ble_eq_true rfl) dJ8_newLength_cabcc_3 ?_
  refine xi_rwi (y := nI (Nat.max b c)) (nI_max (by omega) (by omega)) ?_
  refine xi_iadd C dJ8_newLength_cabcc_6 ?_
  refine xi_rwi (y := nI (a + Nat.max b c)) (nI_add a (Nat.max b c)) ?_
  have hm : Nat.max b c < 1000000 := Nat.max_lt.mpr ⟨by omega, by omega⟩
  have hm1 : b ≤ Nat.max b c := Nat.le_max_left b c
  have hm0 : 0 < a + Nat.max b c := by omega
  refine xi_istore_n C [1, 2, 3, 0] (L2 := [(0, .int (nI a)), (1, .int (nI b)), (2, .int (nI c)), (3, .int (nI (a + Nat.max b c)))]) dJ8_newLength_cabcc_7 (Nat.le_of_ble_eq_true rfl) rfl ?_
  refine xi_iconst C (v := 0) dJ8_newLength_cabcc_8 rfl ?_
  refine xi_iload_n C 3 dJ8_newLength_cabcc_9 rfl ?_
  refine xi_icmp_ge C (tgt := 21) dJ8_newLength_cabcc_10 rfl (fun c1 => False.elim ((fun z => nI_ge (a := 0) (b := a + Nat.max b c) hm0 (by omega) z) c1)) (fun c1 => ?_)
  refine xi_iload_n C 3 dJ8_newLength_cabcc_13 rfl ?_
  refine xi_ldc C (v := 2147483639) zcoJ8_200 dJ8_newLength_cabcc_14 ?_
  refine xi_icmp_gt C (tgt := 21) dJ8_newLength_cabcc_16 rfl (fun c2 => False.elim ((fun z => nI_nlt (a := 2147483639) (b := a + Nat.max b c) (by omega) (by omega) z) c2)) (fun c2 => ?_)
  refine xi_iload_n C 3 dJ8_newLength_cabcc_19 rfl ?_
  exact hE _ _ _ _ dJ8_newLength_cabcc_20 ⟨rfl, rfl⟩
set_option maxRecDepth 100000 in
set_option maxHeartbeats 4000000 in
theorem kJ5_isLatin1 (l : Launch) (D : va_G) (cT : Nat → ClassId) {sb v : Nat} {z x : Int32} : sE l yJ5_isLatin1_aae02 (zw yJ5_isLatin1_aae02 cJ5_isLatin1_aae02 1 (some .boolean)) (zR 1) 0 0 (some .boolean) D cT [.ref sb] (([(sb, .inr (14, [.ref v, .int 0, .int z, .int x]))] : va_W)) (fun r W => r = some (.int 1) ∧ W = ([(sb, .inr (14, [.ref v, .int 0, .int z, .int x]))] : va_W)) := by
  refine sE_bool rfl (Nat.le_of_ble_eq_true rfl) ?_
  intro X C hE
  refine xi_eqw (ws2 := ([(sb, .inr (14, [.ref v, .int 0, .int z, .int x]))] : va_W) ++ ([])) (by first | rfl | simp only [List.append_assoc, List.nil_append, List.append_nil, List.cons_append]) ?_
  refine xi_drop (L2 := [(0, .ref sb)]) [0] rfl ?_
  refine xi_compact5 C dJ5_isLatin1_aae02_0 ?_
  refine xi_if_eq C (tgt := 17) dJ5_isLatin1_aae02_3 rfl (fun c3 => False.elim ((fun z => absurd z (by decide)) c3)) (fun c3 => ?_)
  refine xi_aload_n C 0 dJ5_isLatin1_aae02_6 rfl ?_
  refine xi_get C zkJ4 1 _ zlJ5_22 (by decide) (zap1 ((rfl : (([(sb, .inr (14, [.ref v, .int 0, .int z, .int x]))] : va_W) : va_W)[0]? = some _))) rfl dJ5_isLatin1_aae02_7 ?_
  refine xi_if_ne C (tgt := 17) dJ5_isLatin1_aae02_10 rfl (fun c4 => False.elim ((fun z => absurd rfl z) c4)) (fun c4 => ?_)
  refine xi_iconst C (v := 1) dJ5_isLatin1_aae02_13 rfl ?_
  refine xi_goto C (tgt := 18) dJ5_isLatin1_aae02_14 rfl ?_
  exact hE _ _ _ _ dJ5_isLatin1_aae02_18 rfl ⟨rfl, rfl⟩
set_option maxRecDepth 100000 in
set_option maxHeartbeats 4000000 in
theorem kJ5_getValue (l : Launch) (D : va_G) (cT : Nat → ClassId) {sb v : Nat} {z x : Int32} : sE l yJ5_getValue_6d5f1 (zw yJ5_getValue_6d5f1 cJ5_getValue_6d5f1 1 (some (.array .byte))) (zR 1) 0 0 (some (.array .byte)) D cT [.ref sb] (([(sb, .inr (14, [.ref v, .int 0, .int z, .int x]))] : va_W)) (fun r W => r = some (.ref v) ∧ W = ([(sb, .inr (14, [.ref v, .int 0, .int z, .int x]))] : va_W)) := by
  refine sE_arrB rfl (Nat.le_of_ble_eq_true rfl) ?_
  intro X C hE
  refine xi_eqw (ws2 := ([(sb, .inr (14, [.ref v, .int 0, .int z, .int x]))] : va_W) ++ ([])) (by first | rfl | simp only [List.append_assoc, List.nil_append, List.append_nil, List.cons_append]) ?_
  refine xi_drop (L2 := [(0, .ref sb)]) [0] rfl ?_
  refine xi_aload_n C 0 dJ5_getValue_6d5f1_0 rfl ?_
  refine xi_get C zkJ4 0 _ zlJ5_15 (by decide) (zap1 ((rfl : (([(sb, .inr (14, [.ref v, .int 0, .int z, .int x]))] : va_W) : va_W)[0]? = some _))) rfl dJ5_getValue_6d5f1_1 ?_
  exact hE _ _ _ _ dJ5_getValue_6d5f1_4 ⟨rfl, rfl⟩
set_option maxRecDepth 100000 in
set_option maxHeartbeats 4000000 in
theorem kJ5_length (l : Launch) (D : va_G) (cT : Nat → ClassId) {sb v : Nat} {z x : Int32} : sE l yJ5_length_8abf5 (zw yJ5_length_8abf5 cJ5_length_8abf5 1 (some .int)) (zR 1) 0 0 (some .int) D cT [.ref sb] (([(sb, .inr (14, [.ref v, .int 0, .int z, .int x]))] : va_W)) (fun r W => r = some (.int x) ∧ W = ([(sb, .inr (14, [.ref v, .int 0, .int z, .int x]))] : va_W)) := by
  refine sE_int rfl (Nat.le_of_ble_eq_true rfl) ?_
  intro X C hE
  refine xi_eqw (ws2 := ([(sb, .inr (14, [.ref v, .int 0, .int z, .int x]))] : va_W) ++ ([])) (by first | rfl | simp only [List.append_assoc, List.nil_append, List.append_nil, List.cons_append]) ?_
  refine xi_drop (L2 := [(0, .ref sb)]) [0] rfl ?_
  refine xi_aload_n C 0 dJ5_length_8abf5_0 rfl ?_
  refine xi_get C zkJ4 3 _ zlJ5_79 (by decide) (zap1 ((rfl : (([(sb, .inr (14, [.ref v, .int 0, .int z, .int x]))] : va_W) : va_W)[0]? = some _))) rfl dJ5_length_8abf5_1 ?_
  exact hE _ _ _ _ dJ5_length_8abf5_4 ⟨rfl, rfl⟩
set_option maxRecDepth 100000 in
set_option maxHeartbeats 4000000 in
theorem kJ4_length (l : Launch) (D : va_G) (cT : Nat → ClassId) {sb v : Nat} {z x : Int32} : sE l yJ4_length_8abf5 (zw yJ4_length_8abf5 cJ4_length_8abf5 1 (some .int)) (zR 2) 0 0 (some .int) D cT [.ref sb] (([(sb, .inr (14, [.ref v, .int 0, .int z, .int x]))] : va_W)) (fun r W => r = some (.int x) ∧ W = ([(sb, .inr (14, [.ref v, .int 0, .int z, .int x]))] : va_W)) := by
  refine sE_int rfl (Nat.le_of_ble_eq_true rfl) ?_
  intro X C hE
  refine xi_eqw (ws2 := ([(sb, .inr (14, [.ref v, .int 0, .int z, .int x]))] : va_W) ++ ([])) (by first | rfl | simp only [List.append_assoc, List.nil_append, List.append_nil, List.cons_append]) ?_
  refine xi_drop (L2 := [(0, .ref sb)]) [0] rfl ?_
  refine xi_aload_n C 0 dJ4_length_8abf5_0 rfl ?_
  refine xi_callESU C (kJ5_length l D cT) ([]) (by have h := permX (bs := [([(sb, .inr (14, [.ref v, .int 0, .int z, .int x]))] : va_W)]) (A := [([(sb, .inr (14, [.ref v, .int 0, .int z, .int x]))] : va_W)]) (B := []) (n := 1) rfl [0] rfl (by decide) flat1; simp only [List.flatten_cons, List.flatten_nil, List.append_assoc, List.nil_append, List.append_nil, List.cons_append] at h ⊢; exact h) zsuJ4_343 (zrE rfl rfl) ⟨Nat.le_of_ble_eq_true rfl, Nat.le_of_ble_eq_true rfl⟩ rfl zkJ4.1 (qr := 0) rfl rfl (Nat.le_of_ble_eq_true rfl) dJ4_length_8abf5_1 (fun v5 W6 hv7 _ => ?_)
  obtain ⟨rfl, rfl⟩ := hv7
  refine xi_eqw (ws2 := ([(sb, .inr (14, [.ref v, .int 0, .int z, .int x]))] : va_W) ++ ([])) (by simp only [List.append_assoc, List.nil_append, List.append_nil, List.cons_append]) ?_
  exact hE _ _ _ _ dJ4_length_8abf5_4 ⟨rfl, rfl⟩
set_option maxRecDepth 100000 in
set_option maxHeartbeats 4000000 in
theorem kJ5_newCapacity (l : Launch) (D : va_G) (cT : Nat → ClassId) {sb v : Nat} {z x : Int32} {N q : Nat} {f : Nat → Int32} (hq : N < q) (hq5 : q ≤ 500) : sE l yJ5_newCapacity_0f7a4 (zw yJ5_newCapacity_0f7a4 cJ5_newCapacity_0f7a4 6 (some .int)) (zR 3) 0 0 (some .int) D cT [.ref sb, .int (nI q)] (([(sb, .inr (14, [.ref v, .int 0, .int z, .int x]))] : va_W) ++ (([(v, .inl (cT 2, N, .inl f))] : va_W) ++ ([]))) (fun r W => r = some (.int (nI (Nat.max q (N + N + 2)))) ∧ W = ([(sb, .inr (14, [.ref v, .int 0, .int z, .int x]))] : va_W) ++ (([(v, .inl (cT 2, N, .inl f))] : va_W) ++ ([]))) := by
  refine sE_int rfl (Nat.le_of_ble_eq_true rfl) ?_
  intro X C hE
  refine xi_eqw (ws2 := ([(sb, .inr (14, [.ref v, .int 0, .int z, .int x]))] : va_W) ++ (([(v, .inl (cT 2, N, .inl f))] : va_W) ++ ([]))) (by first | rfl | simp only [List.append_assoc, List.nil_append, List.append_nil, List.cons_append]) ?_
  refine xi_drop (L2 := [(0, .ref sb), (1, .int (nI q))]) [0, 1] rfl ?_
  refine xi_aload_n C 0 dJ5_newCapacity_0f7a4_0 rfl ?_
  refine xi_get C zkJ4 0 _ zlJ5_15 (by decide) (zap1 ((rfl : (([(sb, .inr (14, [.ref v, .int 0, .int z, .int x]))] : va_W) : va_W)[0]? = some _))) rfl dJ5_newCapacity_0f7a4_1 ?_
  refine xi_alen C (v := nI N) _ 2 (zap2 rfl (zap1 ((rfl : (([(v, .inl (cT 2, N, .inl f))] : va_W) : va_W)[0]? = some _)))) rfl rfl dJ5_newCapacity_0f7a4_4 ?_
  refine xi_istore_n C [1, 2, 0] (L2 := [(0, .ref sb), (1, .int (nI q)), (2, .int (nI N))]) dJ5_newCapacity_0f7a4_5 (Nat.le_of_ble_eq_true rfl) rfl ?_
  refine xi_iload_n C 1 dJ5_newCapacity_0f7a4_6 rfl ?_
  refine xi_aload_n C 0 dJ5_newCapacity_0f7a4_7 rfl ?_
  refine xi_get C zkJ4 1 _ zlJ5_22 (by decide) (zap1 ((rfl : (([(sb, .inr (14, [.ref v, .int 0, .int z, .int x]))] : va_W) : va_W)[0]? = some _))) rfl dJ5_newCapacity_0f7a4_8 ?_
  refine xi_ishl C dJ5_newCapacity_0f7a4_11 ?_
  refine xi_rwi (y := nI q) (sb_shl0 _) ?_
  refine xi_istore_n C [1, 2, 3, 0] (L2 := [(0, .ref sb), (1, .int (nI q)), (2, .int (nI N)), (3, .int (nI q))]) dJ5_newCapacity_0f7a4_12 (Nat.le_of_ble_eq_true rfl) rfl ?_
  refine xi_iload_n C 3 dJ5_newCapacity_0f7a4_13 rfl ?_
  refine xi_iload_n C 2 dJ5_newCapacity_0f7a4_14 rfl ?_
  refine xi_isub C dJ5_newCapacity_0f7a4_15 ?_
  refine xi_rwi (y := nI (q - N)) (nI_subj (by omega)) ?_
  refine xi_istore C [1, 2, 3, 4, 0] (L2 := [(0, .ref sb), (1, .int (nI q)), (2, .int (nI N)), (3, .int (nI q)), (4, .int (nI (q - N)))]) dJ5_newCapacity_0f7a4_16 (Nat.le_of_ble_eq_true rfl) rfl ?_
  refine xi_iload_n C 2 dJ5_newCapacity_0f7a4_18 rfl ?_
  refine xi_iload C 4 dJ5_newCapacity_0f7a4_19 rfl ?_
  refine xi_iload_n C 2 dJ5_newCapacity_0f7a4_21 rfl ?_
  refine xi_iconst C (v := 2) dJ5_newCapacity_0f7a4_22 rfl ?_
  refine xi_aload_n C 0 dJ5_newCapacity_0f7a4_23 rfl ?_
  refine xi_get C zkJ4 1 _ zlJ5_22 (by decide) (zap1 ((rfl : (([(sb, .inr (14, [.ref v, .int 0, .int z, .int x]))] : va_W) : va_W)[0]? = some _))) rfl dJ5_newCapacity_0f7a4_24 ?_
  refine xi_ishl C dJ5_newCapacity_0f7a4_27 ?_
  refine xi_rwi (y := 2) (sb_shl0 _) ?_
  refine xi_iadd C dJ5_newCapacity_0f7a4_28 ?_
  refine xi_rwi (y := nI (N + 2)) (nI_add N 2) ?_
  refine xi_callES C (kJ8_newLength l D cT (a := N) (b := q - N) (c := N + 2) (by omega) (by omega) (by omega) (by omega)) (([(sb, .inr (14, [.ref v, .int 0, .int z, .int x]))] : va_W) ++ (([(v, .inl (cT 2, N, .inl f))] : va_W) ++ ([]))) (by have h := permX (bs := [([(sb, .inr (14, [.ref v, .int 0, .int z, .int x]))] : va_W), ([(v, .inl (cT 2, N, .inl f))] : va_W)]) (A := []) (B := [([(sb, .inr (14, [.ref v, .int 0, .int z, .int x]))] : va_W), ([(v, .inl (cT 2, N, .inl f))] : va_W)]) (n := 2) rfl [0, 1] rfl (by decide) rfl; simp only [List.flatten_cons, List.flatten_nil, List.append_assoc, List.nil_append, List.append_nil, List.cons_append] at h ⊢; exact h) zcJ8_newLength_cabcc zmJ5_114 zsJ8_newLength_cabcc (zrE rfl rfl) ⟨Nat.le_of_ble_eq_true rfl, Nat.le_of_ble_eq_true rfl⟩ rfl rfl (Nat.le_of_ble_eq_true rfl) dJ5_newCapacity_0f7a4_29 (fun v8 W9 hv10 _ => ?_)
  obtain ⟨rfl, rfl⟩ := hv10
  refine xi_eqw (ws2 := ([(sb, .inr (14, [.ref v, .int 0, .int z, .int x]))] : va_W) ++ (([(v, .inl (cT 2, N, .inl f))] : va_W) ++ ([]))) (by simp only [List.append_assoc, List.nil_append, List.append_nil, List.cons_append]) ?_
  have hm : N + Nat.max (q - N) (N + 2) = Nat.max q (N + N + 2) := by show N + max (q - N) (N + 2) = max q (N + N + 2); omega
  refine xi_rwi (y := nI (Nat.max q (N + N + 2))) (by rw [hm]) ?_
  have hm1 : Nat.max q (N + N + 2) < 5000 := Nat.max_lt.mpr ⟨by omega, by omega⟩
  refine xi_istore C [1, 2, 3, 4, 5, 0] (L2 := [(0, .ref sb), (1, .int (nI q)), (2, .int (nI N)), (3, .int (nI q)), (4, .int (nI (q - N))), (5, .int (nI (Nat.max q (N + N + 2))))]) dJ5_newCapacity_0f7a4_32 (Nat.le_of_ble_eq_true rfl) rfl ?_
  refine xi_iload C 5 dJ5_newCapacity_0f7a4_34 rfl ?_
  refine xi_ldc C (v := 2147483647) zcoJ5_39 dJ5_newCapacity_0f7a4_36 ?_
  refine xi_icmp_ne C (tgt := 51) dJ5_newCapacity_0f7a4_38 rfl (fun c11 => ?_) (fun c11 => False.elim ((fun e => absurd ((nI_eq (a := Nat.max q (N + N + 2)) (b := 2147483647) (by omega) (by omega)).mp e) (by omega)) c11))
  refine xi_iload C 5 dJ5_newCapacity_0f7a4_51 rfl ?_
  refine xi_aload_n C 0 dJ5_newCapacity_0f7a4_53 rfl ?_
  refine xi_get C zkJ4 1 _ zlJ5_22 (by decide) (zap1 ((rfl : (([(sb, .inr (14, [.ref v, .int 0, .int z, .int x]))] : va_W) : va_W)[0]? = some _))) rfl dJ5_newCapacity_0f7a4_54 ?_
  refine xi_ishr C dJ5_newCapacity_0f7a4_57 ?_
  refine xi_rwi (y := nI (Nat.max q (N + N + 2))) (sb_shr0 _) ?_
  exact hE _ _ _ _ dJ5_newCapacity_0f7a4_58 ⟨rfl, rfl⟩
set_option maxRecDepth 100000 in
set_option maxHeartbeats 4000000 in
theorem kJ7_copyOf (l : Launch) (D : va_G) (cT : Nat → ClassId) {v N M : Nat} {f : Nat → Int32} (hF : sb_Fit f) (hM : N < M) (hM2 : M ≤ 1002) : sE l yJ7_copyOf_9075b (zw yJ7_copyOf_9075b cJ7_copyOf_9075b 3 (some (.array .byte))) (zRA 2 1 1002) 1 1002 (some (.array .byte)) D cT [.ref v, .int (nI M)] (([(v, .inl (cT 2, N, .inl f))] : va_W) ++ ([])) (fun r W => ∃ v2 : Nat, r = some (.ref v2) ∧ W = ([(v, .inl (cT 2, N, .inl f))] : va_W) ++ (([(v2, .inl (cT 2, M, .inl (va_cpy f (fun _ => 0) 0 0 N)))] : va_W) ++ ([]))) := by
  refine sE_arrB rfl (Nat.le_of_ble_eq_true rfl) ?_
  intro X C hE
  refine xi_eqw (ws2 := ([(v, .inl (cT 2, N, .inl f))] : va_W) ++ ([])) (by first | rfl | simp only [List.append_assoc, List.nil_append, List.append_nil, List.cons_append]) ?_
  refine xi_drop (L2 := [(0, .ref v), (1, .int (nI M))]) [0, 1] rfl ?_
  refine xi_iload_n C 1 dJ7_copyOf_9075b_0 rfl ?_
  refine xi_aload_n C 0 dJ7_copyOf_9075b_1 rfl ?_
  refine xi_alen C (v := nI N) _ 2 (zap1 ((rfl : (([(v, .inl (cT 2, N, .inl f))] : va_W) : va_W)[0]? = some _))) rfl rfl dJ7_copyOf_9075b_2 ?_
  refine xi_icmp_ne C (tgt := 14) dJ7_copyOf_9075b_3 rfl (fun c12 => ?_) (fun c12 => False.elim ((fun e => absurd ((nI_eq (a := M) (b := N) (by omega) (by omega)).mp e) (by omega)) c12))
  refine xi_iload_n C 1 dJ7_copyOf_9075b_14 rfl ?_
  refine xi_newaB C (N := M) (zm1 (i := 70) rfl rfl) (nI_pos (by omega)) (nI_clamp (by omega)) (by omega) (by show 0 + 1 ≤ 1; omega) (by show 0 + M ≤ 1002; omega) dJ7_copyOf_9075b_15 (fun v2 => ?_)
  refine xi_eqw (ws2 := ([(v, .inl (cT 2, N, .inl f))] : va_W) ++ (([(v2, .inl (cT 2, M, .inl (fun _ => 0)))] : va_W) ++ ([]))) (by simp only [List.append_assoc, List.nil_append, List.append_nil]) ?_
  refine xi_astore_n C [1, 2, 0] (L2 := [(0, .ref v), (1, .int (nI M)), (2, .ref v2)]) dJ7_copyOf_9075b_17 (Nat.le_of_ble_eq_true rfl) rfl ?_
  refine xi_aload_n C 0 dJ7_copyOf_9075b_18 rfl ?_
  refine xi_iconst C (v := 0) dJ7_copyOf_9075b_19 rfl ?_
  refine xi_aload_n C 2 dJ7_copyOf_9075b_20 rfl ?_
  refine xi_iconst C (v := 0) dJ7_copyOf_9075b_21 rfl ?_
  refine xi_aload_n C 0 dJ7_copyOf_9075b_22 rfl ?_
  refine xi_alen C (v := nI N) _ 2 (zap1 ((rfl : (([(v, .inl (cT 2, N, .inl f))] : va_W) : va_W)[0]? = some _))) rfl rfl dJ7_copyOf_9075b_23 ?_
  refine xi_iload_n C 1 dJ7_copyOf_9075b_24 rfl ?_
  refine xi_mmin C zmjJ7_304 ⟨Nat.le_of_ble_eq_true rfl, Nat.le_of_ble_eq_true rfl⟩ ⟨(by show 0 + 1 ≤ 1; omega), (by show 0 + M ≤ 1002; omega)⟩ (Nat.le_of_ble_eq_true rfl) dJ7_copyOf_9075b_25 ?_
  refine xi_rwi (y := nI (Nat.min N M)) (nI_min (by omega) (by omega)) ?_
  refine xi_rwi (y := nI N) (by rw [show Nat.min N M = N from Nat.min_eq_left (by omega)]) ?_
  refine xi_acopy C (n0 := N) (n1 := M) (f := f) (g := fun _ => 0) _ _ (zap1 ((rfl : (([(v, .inl (cT 2, N, .inl f))] : va_W) : va_W)[0]? = some _))) (zap2 rfl (zap1 ((rfl : (([(v2, .inl (cT 2, M, .inl (fun _ => 0)))] : va_W) : va_W)[0]? = some _)))) (zm2 (i := 221) rfl rfl) (sp := 0) (dp := 0) (w := N) (by omega) (by omega) ⟨by omega, by omega⟩ (fun i _ => hF _) ⟨Nat.le_of_ble_eq_true rfl, Nat.le_of_ble_eq_true rfl⟩ (Nat.le_of_ble_eq_true rfl) dJ7_copyOf_9075b_28 (ws2 := ([(v, .inl (cT 2, N, .inl f))] : va_W) ++ (([(v2, .inl (cT 2, M, .inl (va_cpy f (fun _ => 0) 0 0 N)))] : va_W) ++ ([]))) (zse2 rfl (zse1 (Nat.zero_lt_succ _) rfl)) ?_
  refine xi_aload_n C 2 dJ7_copyOf_9075b_31 rfl ?_
  refine xi_wide (k2 := 1) (n2 := 1002) (by omega) (by omega) ?_
  exact hE _ _ _ _ dJ7_copyOf_9075b_32 ⟨v2, rfl, rfl⟩
