/-! the builder of texts: appends -/
theorem nI_subneg {a b : Nat} (h : a ≤ b) (hb : b < 2 ^ 31) : nI a - nI b ≤ 0 := by
  rw [← Int32.neg_sub, nI_subj h]
  exact (sb_nle (a := b - a) (b := 0) (by omega) (by omega)).mpr (Nat.zero_le _)
theorem nar7 : ∀ b, b < 128 → vp_nar .byte ((nI b).toInt8.toInt32) = nI b ∧ vp_nar .byte (nI b) = nI b := by decide +kernel
theorem fit7 {b : Nat} (h : b < 128) : fits .byte (.int (nI b)) = true := by
  have e : (nI b) = sb_b b := (by decide +kernel : ∀ b, b < 128 → nI b = sb_b b) b h
  rw [e]
  exact sb_fitB b
theorem hT_put {t : List Int32} {f : Nat → Int32} {b : Nat} (h : hT t f) (hb : b < 128) : hT (t ++ [nI b]) (upd f t.length (nI b)) := by
  refine ⟨sb_fitU h.1 (fit7 hb), fun j hj => ?_⟩
  rw [List.length_append, List.length_singleton] at hj
  rw [List.getD_eq_getElem?_getD]
  by_cases e : j = t.length
  · subst e
    rw [pk_us]
    simp
  · rw [pk_un e, h.2 j (by omega), List.getD_eq_getElem?_getD, List.getElem?_append_left (by omega)]
theorem hT_cat {t x : List Int32} {f g : Nat → Int32} (h : hT t f) (hg : sb_Fit g) (hx : ∀ j, j < x.length → g j = x.getD j 0) : hT (t ++ x) (va_cpy g f 0 t.length x.length) := by
  refine ⟨sb_fitC hg h.1, fun j hj => ?_⟩
  rw [List.length_append] at hj
  rw [List.getD_eq_getElem?_getD]
  by_cases e : j < t.length
  · rw [pk_cpy_out (Or.inl e), h.2 j e, List.getD_eq_getElem?_getD, List.getElem?_append_left e]
  · rw [pk_cpy_in (by omega) (by omega), Nat.zero_add, hx _ (by omega), List.getD_eq_getElem?_getD, List.getElem?_append_right (by omega)]
theorem hT_keep {t : List Int32} {f g : Nat → Int32} {N : Nat} (h : hT t f) (hn : t.length ≤ N) (hg : sb_Fit g) (hk : ∀ j, j < N → g j = f j) : hT t g := ⟨hg, fun j hj => by rw [hk j (by omega)]; exact h.2 j hj⟩
theorem zByt_fit : ∀ i, i < 12 → sb_Fit (fun j => (zByt.getD i []).getD j 0) := by
  intro i hi j
  have h1 : ∀ i, i < 12 → ∀ j, j < 10 → fits .byte (.int ((zByt.getD i []).getD j 0)) = true := by decide +kernel
  by_cases e : j < 10
  · exact h1 i hi j e
  · have h2 : ∀ i, i < 12 → (zByt.getD i []).length ≤ 10 := by decide +kernel
    show fits .byte (.int ((zByt.getD i []).getD j 0)) = true
    rw [List.getD_eq_getElem?_getD, List.getElem?_eq_none (Nat.le_trans (h2 i hi) (by omega))]
    exact sb_fit0 0
theorem zByt_len : ∀ i, i < 12 → (zByt.getD i []).length = zLen.getD i 0 := by decide +kernel
/-- a builder that holds a text -/
def sbP (cT : Nat → ClassId) (sb : Nat) (t : List Int32) (W : va_W) : Prop := ∃ (v N : Nat) (f : Nat → Int32), W = [(sb, .inr (14, [.ref v, .int 0, .int 0, .int (nI t.length)]))] ++ ([(v, .inl (cT 2, N, .inl f))] ++ []) ∧ hT t f ∧ t.length ≤ N ∧ N ≤ 1002
set_option maxRecDepth 100000 in
set_option maxHeartbeats 4000000 in
theorem kJ5_ensure (l : Launch) (D : va_G) (cT : Nat → ClassId) {sb v N q : Nat} {f : Nat → Int32} {x : Int32} (hF : sb_Fit f) (hN : N ≤ 1002) (hq : q ≤ 500) : sE l yJ5_ensureCapacityInternal_d00df (zw yJ5_ensureCapacityInternal_d00df cJ5_ensureCapacityInternal_d00df 3 none) (zRA 5 1 1002) 1 1002 none D cT [.ref sb, .int (nI q)] (([(sb, .inr (14, [.ref v, .int 0, .int 0, .int x]))] : va_W) ++ (([(v, .inl (cT 2, N, .inl f))] : va_W) ++ ([]))) (fun r W => ∃ (v2 N2 : Nat) (f2 : Nat → Int32), r = none ∧ W = ([(sb, .inr (14, [.ref v2, .int 0, .int 0, .int x]))] : va_W) ++ (([(v2, .inl (cT 2, N2, .inl f2))] : va_W) ++ ([])) ∧ sb_Fit f2 ∧ (∀ j, j < N → f2 j = f j) ∧ q ≤ N2 ∧ N ≤ N2 ∧ N2 ≤ 1002) := by
  refine sE_void rfl (Nat.le_of_ble_eq_true rfl) ?_
  intro X C _ hE
  refine xi_eqw (ws2 := ([(sb, .inr (14, [.ref v, .int 0, .int 0, .int x]))] : va_W) ++ (([(v, .inl (cT 2, N, .inl f))] : va_W) ++ ([]))) (by first | rfl | simp only [List.append_assoc, List.nil_append, List.append_nil, List.cons_append]) ?_
  refine xi_drop (L2 := [(0, .ref sb), (1, .int (nI q))]) [0, 1] rfl ?_
  refine xi_aload_n C 0 dJ5_ensureCapacityInternal_d00df_0 rfl ?_
  refine xi_get C zkJ4 0 _ zlJ5_15 (by decide) (zap1 ((rfl : (([(sb, .inr (14, [.ref v, .int 0, .int 0, .int x]))] : va_W) : va_W)[0]? = some _))) rfl dJ5_ensureCapacityInternal_d00df_1 ?_
  refine xi_alen C (v := nI N) _ 2 (zap2 rfl (zap1 ((rfl : (([(v, .inl (cT 2, N, .inl f))] : va_W) : va_W)[0]? = some _)))) rfl rfl dJ5_ensureCapacityInternal_d00df_4 ?_
  refine xi_aload_n C 0 dJ5_ensureCapacityInternal_d00df_5 rfl ?_
  refine xi_get C zkJ4 1 _ zlJ5_22 (by decide) (zap1 ((rfl : (([(sb, .inr (14, [.ref v, .int 0, .int 0, .int x]))] : va_W) : va_W)[0]? = some _))) rfl dJ5_ensureCapacityInternal_d00df_6 ?_
  refine xi_ishr C dJ5_ensureCapacityInternal_d00df_9 ?_
  refine xi_rwi (y := nI N) (sb_shr0 _) ?_
  refine xi_istore_n C [1, 2, 0] (L2 := [(0, .ref sb), (1, .int (nI q)), (2, .int (nI N))]) dJ5_ensureCapacityInternal_d00df_10 (Nat.le_of_ble_eq_true rfl) rfl ?_
  refine xi_iload_n C 1 dJ5_ensureCapacityInternal_d00df_11 rfl ?_
  refine xi_iload_n C 2 dJ5_ensureCapacityInternal_d00df_12 rfl ?_
  rcases Nat.lt_or_ge N q with hlt | hge
  · refine xi_isub C dJ5_ensureCapacityInternal_d00df_13 ?_
    refine xi_rwi (y := nI (q - N)) (nI_subj (by omega)) ?_
    refine xi_if_le C (tgt := 38) dJ5_ensureCapacityInternal_d00df_14 rfl (fun c1 => False.elim ((fun z => nI_nle (n := q - N) (by omega) (by omega) z) c1)) (fun c1 => ?_)
    refine xi_aload_n C 0 dJ5_ensureCapacityInternal_d00df_17 rfl ?_
    refine xi_aload_n C 0 dJ5_ensureCapacityInternal_d00df_18 rfl ?_
    refine xi_get C zkJ4 0 _ zlJ5_15 (by decide) (zap1 ((rfl : (([(sb, .inr (14, [.ref v, .int 0, .int 0, .int x]))] : va_W) : va_W)[0]? = some _))) rfl dJ5_ensureCapacityInternal_d00df_19 ?_
    refine xi_aload_n C 0 dJ5_ensureCapacityInternal_d00df_22 rfl ?_
    refine xi_iload_n C 1 dJ5_ensureCapacityInternal_d00df_23 rfl ?_
    refine xi_callEU C (kJ5_newCapacity l D cT hlt hq) ([]) (by have h := permX (bs := [([(sb, .inr (14, [.ref v, .int 0, .int 0, .int x]))] : va_W), ([(v, .inl (cT 2, N, .inl f))] : va_W)]) (A := [([(sb, .inr (14, [.ref v, .int 0, .int 0, .int x]))] : va_W), ([(v, .inl (cT 2, N, .inl f))] : va_W)]) (B := []) (n := 2) rfl [0, 1] rfl (by decide) flat2; simp only [List.flatten_cons, List.flatten_nil, List.append_assoc, List.nil_append, List.append_nil, List.cons_append] at h ⊢; exact h) zuJ5_104 (zrE rfl rfl) ⟨Nat.le_of_ble_eq_true rfl, Nat.le_of_ble_eq_true rfl⟩ rfl zkJ4.1 (qr := 0) rfl rfl (Nat.le_of_ble_eq_true rfl) dJ5_ensureCapacityInternal_d00df_24 (fun v2 W3 hv4 _ => ?_)
    obtain ⟨rfl, rfl⟩ := hv4
    refine xi_eqw (ws2 := ([(sb, .inr (14, [.ref v, .int 0, .int 0, .int x]))] : va_W) ++ (([(v, .inl (cT 2, N, .inl f))] : va_W) ++ ([]))) (by simp only [List.append_assoc, List.nil_append, List.append_nil, List.cons_append]) ?_
    have hm1 : N < Nat.max q (N + N + 2) := Nat.lt_of_lt_of_le hlt (Nat.le_max_left _ _)
    have hm2 : Nat.max q (N + N + 2) ≤ 1002 := Nat.max_le.mpr ⟨by omega, by omega⟩
    have hm3 : q ≤ Nat.max q (N + N + 2) := Nat.le_max_left _ _
    refine xi_topi (fun m5 em5 => ?_)
    generalize hM : Nat.max q (N + N + 2) = M at em5 hm1 hm2 hm3
    rw [em5]
    refine xi_aload_n C 0 dJ5_ensureCapacityInternal_d00df_27 rfl ?_
    refine xi_get C zkJ4 1 _ zlJ5_22 (by decide) (zap1 ((rfl : (([(sb, .inr (14, [.ref v, .int 0, .int 0, .int x]))] : va_W) : va_W)[0]? = some _))) rfl dJ5_ensureCapacityInternal_d00df_28 ?_
    refine xi_ishl C dJ5_ensureCapacityInternal_d00df_31 ?_
    refine xi_rwi (y := nI M) (sb_shl0 _) ?_
    refine xi_callES C (kJ7_copyOf l D cT hF hm1 hm2) (([(sb, .inr (14, [.ref v, .int 0, .int 0, .int x]))] : va_W) ++ ([])) (by have h := permX (bs := [([(sb, .inr (14, [.ref v, .int 0, .int 0, .int x]))] : va_W), ([(v, .inl (cT 2, N, .inl f))] : va_W)]) (A := [([(v, .inl (cT 2, N, .inl f))] : va_W)]) (B := [([(sb, .inr (14, [.ref v, .int 0, .int 0, .int x]))] : va_W)]) (n := 2) rfl [1, 0] rfl (by decide) flat1; simp only [List.flatten_cons, List.flatten_nil, List.append_assoc, List.nil_append, List.append_nil, List.cons_append] at h ⊢; exact h) zcJ7_copyOf_9075b zmJ5_108 zsJ7_copyOf_9075b (zrA rfl rfl) ⟨Nat.le_of_ble_eq_true rfl, Nat.le_of_ble_eq_true rfl⟩ rfl rfl (Nat.le_of_ble_eq_true rfl) dJ5_ensureCapacityInternal_d00df_32 (fun v6 W7 hv8 _ => ?_)
    obtain ⟨v2, rfl, rfl⟩ := hv8
    refine xi_eqw (ws2 := ([(v, .inl (cT 2, N, .inl f))] : va_W) ++ (([(v2, .inl (cT 2, M, .inl (va_cpy f (fun _ => 0) 0 0 N)))] : va_W) ++ (([(sb, .inr (14, [.ref v, .int 0, .int 0, .int x]))] : va_W) ++ ([])))) (by simp only [List.append_assoc, List.nil_append, List.append_nil, List.cons_append]) ?_
    refine xi_put C zkJ4 0 _ zlJ5_15 (by decide) (zap2 rfl (zap2 rfl (zap1 ((rfl : (([(sb, .inr (14, [.ref v, .int 0, .int 0, .int x]))] : va_W) : va_W)[0]? = some _))))) rfl rfl rfl (Nat.le_of_ble_eq_true rfl) dJ5_ensureCapacityInternal_d00df_35 (ws2 := ([(v, .inl (cT 2, N, .inl f))] : va_W) ++ (([(v2, .inl (cT 2, M, .inl (va_cpy f (fun _ => 0) 0 0 N)))] : va_W) ++ (([(sb, .inr (14, [.ref v2, .int 0, .int 0, .int x]))] : va_W) ++ ([])))) (zse2 rfl (zse2 rfl (zse1 (Nat.zero_lt_succ _) rfl))) ?_
    refine xi_permL (ws2 := ([(sb, .inr (14, [.ref v2, .int 0, .int 0, .int x]))] : va_W) ++ (([(v2, .inl (cT 2, M, .inl (va_cpy f (fun _ => 0) 0 0 N)))] : va_W) ++ (([(v, .inl (cT 2, N, .inl f))] : va_W) ++ ([])))) (by have h := permR (bs := [([(v, .inl (cT 2, N, .inl f))] : va_W), ([(v2, .inl (cT 2, M, .inl (va_cpy f (fun _ => 0) 0 0 N)))] : va_W), ([(sb, .inr (14, [.ref v2, .int 0, .int 0, .int x]))] : va_W)]) (bs2 := [([(sb, .inr (14, [.ref v2, .int 0, .int 0, .int x]))] : va_W), ([(v2, .inl (cT 2, M, .inl (va_cpy f (fun _ => 0) 0 0 N)))] : va_W), ([(v, .inl (cT 2, N, .inl f))] : va_W)]) (n := 3) rfl [2, 1, 0] rfl (by decide); simp only [List.flatten_cons, List.flatten_nil] at h; exact h) ?_
    refine xi_less (ws2 := ([(sb, .inr (14, [.ref v2, .int 0, .int 0, .int x]))] : va_W) ++ (([(v2, .inl (cT 2, M, .inl (va_cpy f (fun _ => 0) 0 0 N)))] : va_W) ++ ([]))) (List.Sublist.cons_cons _ (List.Sublist.cons_cons _ (List.nil_sublist _))) ?_
    exact hE _ _ _ dJ5_ensureCapacityInternal_d00df_38 ⟨v2, M, _, rfl, rfl, sb_fitC hF sb_fit0, fun j hj => sb_cpy0 hj, hm3, by omega, hm2⟩
  · refine xi_isub C dJ5_ensureCapacityInternal_d00df_13 ?_
    refine xi_if_le C (tgt := 38) dJ5_ensureCapacityInternal_d00df_14 rfl (fun c9 => ?_) (fun c9 => False.elim ((fun z => z (nI_subneg hge (by omega))) c9))
    refine xi_wide (k2 := 1) (n2 := 1002) (by decide) (by decide) ?_
    exact hE _ _ _ dJ5_ensureCapacityInternal_d00df_38 ⟨v, N, f, rfl, rfl, hF, fun j _ => rfl, hge, Nat.le_refl _, hN⟩
set_option maxRecDepth 100000 in
set_option maxHeartbeats 4000000 in
theorem kJ1_canEncode (l : Launch) (D : va_G) (cT : Nat → ClassId) {b : Nat} (hb : b < 128) : sE l yJ1_canEncode_fc78d (zw yJ1_canEncode_fc78d cJ1_canEncode_fc78d 1 (some .boolean)) (zR 1) 0 0 (some .boolean) D cT [.int (nI b)] ([]) (fun r W => r = some (.int 1) ∧ W = []) := by
  refine sE_bool rfl (Nat.le_of_ble_eq_true rfl) ?_
  intro X C hE
  refine xi_eqw (ws2 := []) (by first | rfl | simp only [List.append_assoc, List.nil_append, List.append_nil, List.cons_append]) ?_
  refine xi_drop (L2 := [(0, .int (nI b))]) [0] rfl ?_
  refine xi_iload_n C 0 dJ1_canEncode_fc78d_0 rfl ?_
  refine xi_sipush C (v := 255) dJ1_canEncode_fc78d_1 rfl ?_
  refine xi_icmp_gt C (tgt := 11) dJ1_canEncode_fc78d_4 rfl (fun c10 => False.elim ((fun z => nI_nlt (a := 255) (b := b) (by omega) (by omega) z) c10)) (fun c10 => ?_)
  refine xi_iconst C (v := 1) dJ1_canEncode_fc78d_7 rfl ?_
  refine xi_goto C (tgt := 12) dJ1_canEncode_fc78d_8 rfl ?_
  exact hE _ _ _ _ dJ1_canEncode_fc78d_12 rfl ⟨rfl, rfl⟩
set_option maxRecDepth 100000 in
set_option maxHeartbeats 4000000 in
theorem kJ5_appendC (l : Launch) (D : va_G) (cT : Nat → ClassId) {sb v N : Nat} {f : Nat → Int32} {t : List Int32} (h : hT t f) (hn : t.length ≤ N) (hN : N ≤ 1002) (ht : t.length ≤ 400) {b : Nat} (hb : b < 128) : sE l yJ5_append_3fe6f (zw yJ5_append_3fe6f cJ5_append_3fe6f 2 (some (.object "java/lang/AbstractStringBuilder"))) (zRA 6 1 1002) 1 1002 (some (.object "java/lang/AbstractStringBuilder")) D cT [.ref sb, .int (nI b)] (([(sb, .inr (14, [.ref v, .int 0, .int 0, .int (nI t.length)]))] : va_W) ++ (([(v, .inl (cT 2, N, .inl f))] : va_W) ++ ([]))) (fun r W => r = some (.ref sb) ∧ sbP cT sb (t ++ [nI b]) W) := by
  refine sE_ref rfl (Nat.le_of_ble_eq_true rfl) ?_
  intro X C hE
  refine xi_eqw (ws2 := ([(sb, .inr (14, [.ref v, .int 0, .int 0, .int (nI t.length)]))] : va_W) ++ (([(v, .inl (cT 2, N, .inl f))] : va_W) ++ ([]))) (by first | rfl | simp only [List.append_assoc, List.nil_append, List.append_nil, List.cons_append]) ?_
  refine xi_drop (L2 := [(0, .ref sb), (1, .int (nI b))]) [0, 1] rfl ?_
  refine xi_aload_n C 0 dJ5_append_3fe6f_0 rfl ?_
  refine xi_aload_n C 0 dJ5_append_3fe6f_1 rfl ?_
  refine xi_get C zkJ4 3 _ zlJ5_79 (by decide) (zap1 ((rfl : (([(sb, .inr (14, [.ref v, .int 0, .int 0, .int (nI t.length)]))] : va_W) : va_W)[0]? = some _))) rfl dJ5_append_3fe6f_2 ?_
  refine xi_iconst C (v := 1) dJ5_append_3fe6f_5 rfl ?_
  refine xi_iadd C dJ5_append_3fe6f_6 ?_
  refine xi_rwi (y := nI (t.length + 1)) (nI_1 t.length) ?_
  refine xi_callEU C (kJ5_ensure l D cT (x := nI t.length) h.1 hN (q := t.length + 1) (by omega)) ([]) (by have h := permX (bs := [([(sb, .inr (14, [.ref v, .int 0, .int 0, .int (nI t.length)]))] : va_W), ([(v, .inl (cT 2, N, .inl f))] : va_W)]) (A := [([(sb, .inr (14, [.ref v, .int 0, .int 0, .int (nI t.length)]))] : va_W), ([(v, .inl (cT 2, N, .inl f))] : va_W)]) (B := []) (n := 2) rfl [0, 1] rfl (by decide) flat2; simp only [List.flatten_cons, List.flatten_nil, List.append_assoc, List.nil_append, List.append_nil, List.cons_append] at h ⊢; exact h) zuJ5_100 (zrA rfl rfl) ⟨(by decide), (by decide)⟩ rfl zkJ4.1 (qr := 0) rfl rfl (Nat.le_of_ble_eq_true rfl) dJ5_append_3fe6f_7 (fun v11 W12 hv13 _ => ?_)
  obtain ⟨v2, N2, f2, rfl, rfl, h1, h2, h3, h4, h5⟩ := hv13
  refine xi_eqw (ws2 := ([(sb, .inr (14, [.ref v2, .int 0, .int 0, .int (nI t.length)]))] : va_W) ++ (([(v2, .inl (cT 2, N2, .inl f2))] : va_W) ++ ([]))) (by simp only [List.append_assoc, List.nil_append, List.append_nil, List.cons_append]) ?_
  have g1 := hT_keep h hn h1 h2
  refine xi_aload_n C 0 dJ5_append_3fe6f_10 rfl ?_
  refine xi_callEU C (kJ5_isLatin1 l D cT) (([(v2, .inl (cT 2, N2, .inl f2))] : va_W) ++ ([])) (by have h := permX (bs := [([(sb, .inr (14, [.ref v2, .int 0, .int 0, .int (nI t.length)]))] : va_W), ([(v2, .inl (cT 2, N2, .inl f2))] : va_W)]) (A := [([(sb, .inr (14, [.ref v2, .int 0, .int 0, .int (nI t.length)]))] : va_W)]) (B := [([(v2, .inl (cT 2, N2, .inl f2))] : va_W)]) (n := 2) rfl [0, 1] rfl (by decide) flat1; simp only [List.flatten_cons, List.flatten_nil, List.append_assoc, List.nil_append, List.append_nil, List.cons_append] at h ⊢; exact h) zuJ5_83 (zrE rfl rfl) ⟨Nat.le_of_ble_eq_true rfl, Nat.le_of_ble_eq_true rfl⟩ rfl zkJ4.1 (qr := 0) rfl rfl (Nat.le_of_ble_eq_true rfl) dJ5_append_3fe6f_11 (fun v14 W15 hv16 _ => ?_)
  obtain ⟨rfl, rfl⟩ := hv16
  refine xi_eqw (ws2 := ([(sb, .inr (14, [.ref v2, .int 0, .int 0, .int (nI t.length)]))] : va_W) ++ (([(v2, .inl (cT 2, N2, .inl f2))] : va_W) ++ ([]))) (by simp only [List.append_assoc, List.nil_append, List.append_nil, List.cons_append]) ?_
  refine xi_if_eq C (tgt := 45) dJ5_append_3fe6f_14 rfl (fun c17 => False.elim ((fun z => absurd z (by decide)) c17)) (fun c17 => ?_)
  refine xi_iload_n C 1 dJ5_append_3fe6f_17 rfl ?_
  refine xi_callES C (kJ1_canEncode l D cT hb) (([(sb, .inr (14, [.ref v2, .int 0, .int 0, .int (nI t.length)]))] : va_W) ++ (([(v2, .inl (cT 2, N2, .inl f2))] : va_W) ++ ([]))) (by have h := permX (bs := [([(sb, .inr (14, [.ref v2, .int 0, .int 0, .int (nI t.length)]))] : va_W), ([(v2, .inl (cT 2, N2, .inl f2))] : va_W)]) (A := []) (B := [([(sb, .inr (14, [.ref v2, .int 0, .int 0, .int (nI t.length)]))] : va_W), ([(v2, .inl (cT 2, N2, .inl f2))] : va_W)]) (n := 2) rfl [0, 1] rfl (by decide) rfl; simp only [List.flatten_cons, List.flatten_nil, List.append_assoc, List.nil_append, List.append_nil, List.cons_append] at h ⊢; exact h) zcJ1_canEncode_fc78d zmJ5_191 zsJ1_canEncode_fc78d (zrE rfl rfl) ⟨Nat.le_of_ble_eq_true rfl, Nat.le_of_ble_eq_true rfl⟩ rfl rfl (Nat.le_of_ble_eq_true rfl) dJ5_append_3fe6f_18 (fun v18 W19 hv20 _ => ?_)
  obtain ⟨rfl, rfl⟩ := hv20
  refine xi_eqw (ws2 := ([(sb, .inr (14, [.ref v2, .int 0, .int 0, .int (nI t.length)]))] : va_W) ++ (([(v2, .inl (cT 2, N2, .inl f2))] : va_W) ++ ([]))) (by simp only [List.append_assoc, List.nil_append, List.append_nil, List.cons_append]) ?_
  refine xi_if_eq C (tgt := 45) dJ5_append_3fe6f_21 rfl (fun c21 => False.elim ((fun z => absurd z (by decide)) c21)) (fun c21 => ?_)
  refine xi_aload_n C 0 dJ5_append_3fe6f_24 rfl ?_
  refine xi_get C zkJ4 0 _ zlJ5_15 (by decide) (zap1 ((rfl : (([(sb, .inr (14, [.ref v2, .int 0, .int 0, .int (nI t.length)]))] : va_W) : va_W)[0]? = some _))) rfl dJ5_append_3fe6f_25 ?_
  refine xi_aload_n C 0 dJ5_append_3fe6f_28 rfl ?_
  refine xi_dup C dJ5_append_3fe6f_29 rfl ?_
  refine xi_get C zkJ4 3 _ zlJ5_79 (by decide) (zap1 ((rfl : (([(sb, .inr (14, [.ref v2, .int 0, .int 0, .int (nI t.length)]))] : va_W) : va_W)[0]? = some _))) rfl dJ5_append_3fe6f_30 ?_
  refine xi_dup_x1 C dJ5_append_3fe6f_33 rfl rfl ?_
  refine xi_iconst C (v := 1) dJ5_append_3fe6f_34 rfl ?_
  refine xi_iadd C dJ5_append_3fe6f_35 ?_
  refine xi_rwi (y := nI (t.length + 1)) (nI_1 t.length) ?_
  refine xi_put C zkJ4 3 _ zlJ5_79 (by decide) (zap1 ((rfl : (([(sb, .inr (14, [.ref v2, .int 0, .int 0, .int (nI t.length)]))] : va_W) : va_W)[0]? = some _))) rfl rfl rfl (Nat.le_of_ble_eq_true rfl) dJ5_append_3fe6f_36 (ws2 := ([(sb, .inr (14, [.ref v2, .int 0, .int 0, .int (nI (t.length + 1))]))] : va_W) ++ (([(v2, .inl (cT 2, N2, .inl f2))] : va_W) ++ ([]))) (zse1 (Nat.zero_lt_succ _) rfl) ?_
  refine xi_iload_n C 1 dJ5_append_3fe6f_39 rfl ?_
  refine xi_i2b C dJ5_append_3fe6f_40 ?_
  refine xw_bast C _ (zap2 rfl (zap1 ((rfl : (([(v2, .inl (cT 2, N2, .inl f2))] : va_W) : va_W)[0]? = some _)))) (by omega) (by omega) dJ5_append_3fe6f_41 (ws2 := ([(sb, .inr (14, [.ref v2, .int 0, .int 0, .int (nI (t.length + 1))]))] : va_W) ++ (([(v2, .inl (cT 2, N2, .inl (upd f2 t.length (vp_nar .byte ((nI b).toInt8.toInt32)))))] : va_W) ++ ([]))) (zse2 rfl (zse1 (Nat.zero_lt_succ _) rfl)) ?_
  refine xi_goto C (tgt := 75) dJ5_append_3fe6f_42 rfl ?_
  refine xi_aload_n C 0 dJ5_append_3fe6f_75 rfl ?_
  have hb7 := nar7 b hb
  refine hE _ _ _ _ dJ5_append_3fe6f_76 ⟨rfl, v2, N2, upd f2 t.length (nI b), ?_, hT_put g1 hb, ?_, h5⟩
  · rw [hb7.1, List.length_append, List.length_singleton]
  · rw [List.length_append, List.length_singleton]; exact h3
set_option maxRecDepth 100000 in
set_option maxHeartbeats 4000000 in
theorem kJ6_stringSize (l : Launch) (D : va_G) (cT : Nat → ClassId) {d : Nat} (hd : d ≤ 9) : sE l yJ6_stringSize_0f7a4 (zw yJ6_stringSize_0f7a4 cJ6_stringSize_0f7a4 4 (some .int)) (zR 1) 0 0 (some .int) D cT [.int (nI d)] ([]) (fun r W => r = some (.int 1) ∧ W = []) := by
  refine sE_int rfl (Nat.le_of_ble_eq_true rfl) ?_
  intro X C hE
  refine xi_eqw (ws2 := []) (by first | rfl | simp only [List.append_assoc, List.nil_append, List.append_nil, List.cons_append]) ?_
  refine xi_drop (L2 := [(0, .int (nI d))]) [0] rfl ?_
  refine xi_iconst C (v := 1) dJ6_stringSize_0f7a4_0 rfl ?_
  refine xi_istore_n C [1, 0] (L2 := [(0, .int (nI d)), (1, .int 1)]) dJ6_stringSize_0f7a4_1 (Nat.le_of_ble_eq_true rfl) rfl ?_
  refine xi_iload_n C 0 dJ6_stringSize_0f7a4_2 rfl ?_
  refine xi_if_lt C (tgt := 11) dJ6_stringSize_0f7a4_3 rfl (fun c22 => False.elim ((fun z => nI_pos (n := d) (by omega) z) c22)) (fun c22 => ?_)
  refine xi_iconst C (v := 0) dJ6_stringSize_0f7a4_6 rfl ?_
  refine xi_istore_n C [1, 0] (L2 := [(0, .int (nI d)), (1, .int 0)]) dJ6_stringSize_0f7a4_7 (Nat.le_of_ble_eq_true rfl) rfl ?_
  refine xi_iload_n C 0 dJ6_stringSize_0f7a4_8 rfl ?_
  refine xi_ineg C dJ6_stringSize_0f7a4_9 ?_
  refine xi_istore_n C [0, 1] (L2 := [(0, .int (-(nI d))), (1, .int 0)]) dJ6_stringSize_0f7a4_10 (Nat.le_of_ble_eq_true rfl) rfl ?_
  refine xi_bipush C (v := (-10)) dJ6_stringSize_0f7a4_11 rfl ?_
  refine xi_istore_n C [1, 2, 0] (L2 := [(0, .int (-(nI d))), (1, .int 0), (2, .int (-10))]) dJ6_stringSize_0f7a4_13 (Nat.le_of_ble_eq_true rfl) rfl ?_
  refine xi_iconst C (v := 1) dJ6_stringSize_0f7a4_14 rfl ?_
  refine xi_istore_n C [1, 2, 3, 0] (L2 := [(0, .int (-(nI d))), (1, .int 0), (2, .int (-10)), (3, .int 1)]) dJ6_stringSize_0f7a4_15 (Nat.le_of_ble_eq_true rfl) rfl ?_
  refine xi_iload_n C 3 dJ6_stringSize_0f7a4_16 rfl ?_
  refine xi_bipush C (v := 10) dJ6_stringSize_0f7a4_17 rfl ?_
  refine xi_icmp_ge C (tgt := 42) dJ6_stringSize_0f7a4_19 rfl (fun c23 => False.elim ((fun z => absurd z (by decide)) c23)) (fun c23 => ?_)
  refine xi_iload_n C 0 dJ6_stringSize_0f7a4_22 rfl ?_
  refine xi_iload_n C 2 dJ6_stringSize_0f7a4_23 rfl ?_
  refine xi_icmp_le C (tgt := 31) dJ6_stringSize_0f7a4_24 rfl (fun c24 => False.elim ((fun z => absurd ((sb_nle (a := d) (b := 10) (by omega) (by omega)).mp z) (by omega)) c24)) (fun c24 => ?_)
  refine xi_iload_n C 3 dJ6_stringSize_0f7a4_27 rfl ?_
  refine xi_iload_n C 1 dJ6_stringSize_0f7a4_28 rfl ?_
  refine xi_iadd C dJ6_stringSize_0f7a4_29 ?_
  refine xi_rwi (y := nI (1 + 0)) (nI_add 1 0) ?_
  exact hE _ _ _ _ dJ6_stringSize_0f7a4_30 ⟨rfl, rfl⟩
set_option maxRecDepth 100000 in
set_option maxHeartbeats 4000000 in
theorem kJ6_getChars (l : Launch) (D : va_G) (cT : Nat → ClassId) {v N n d : Nat} {f : Nat → Int32} (hd : d ≤ 9) (hn : n < N) (hN : N ≤ 1002) : sE l yJ6_getChars_ba4f3 (zw yJ6_getChars_ba4f3 cJ6_getChars_ba4f3 7 (some .int)) (zR 1) 0 0 (some .int) D cT [.int (nI d), .int (nI (n + 1)), .ref v] (([(v, .inl (cT 2, N, .inl f))] : va_W) ++ ([])) (fun r W => ∃ q : Int32, r = some (.int q) ∧ W = ([(v, .inl (cT 2, N, .inl (upd f n (nI (48 + d)))))] : va_W) ++ ([])) := by
  refine sE_int rfl (Nat.le_of_ble_eq_true rfl) ?_
  intro X C hE
  refine xi_eqw (ws2 := ([(v, .inl (cT 2, N, .inl f))] : va_W) ++ ([])) (by first | rfl | simp only [List.append_assoc, List.nil_append, List.append_nil, List.cons_append]) ?_
  refine xi_drop (L2 := [(0, .int (nI d)), (1, .int (nI (n + 1))), (2, .ref v)]) [0, 1, 2] rfl ?_
  refine xi_iload_n C 1 dJ6_getChars_ba4f3_0 rfl ?_
  refine xi_istore C [1, 2, 3, 0] (L2 := [(0, .int (nI d)), (1, .int (nI (n + 1))), (2, .ref v), (5, .int (nI (n + 1)))]) dJ6_getChars_ba4f3_1 (Nat.le_of_ble_eq_true rfl) rfl ?_
  refine xi_iload_n C 0 dJ6_getChars_ba4f3_3 rfl ?_
  refine xi_if_ge C (tgt := 11) dJ6_getChars_ba4f3_4 rfl (fun c25 => ?_) (fun c25 => False.elim ((fun z => z (nI_pos' (n := d) (by omega))) c25))
  refine xi_iconst C (v := 0) dJ6_getChars_ba4f3_11 rfl ?_
  refine xi_istore C [1, 2, 3, 4, 0] (L2 := [(0, .int (nI d)), (1, .int (nI (n + 1))), (2, .ref v), (5, .int (nI (n + 1))), (6, .int 0)]) dJ6_getChars_ba4f3_12 (Nat.le_of_ble_eq_true rfl) rfl ?_
  refine xi_iload C 4 dJ6_getChars_ba4f3_14 rfl ?_
  refine xi_if_ne C (tgt := 22) dJ6_getChars_ba4f3_16 rfl (fun c26 => False.elim ((fun z => absurd rfl z) c26)) (fun c26 => ?_)
  refine xi_iload_n C 0 dJ6_getChars_ba4f3_19 rfl ?_
  refine xi_ineg C dJ6_getChars_ba4f3_20 ?_
  refine xi_istore_n C [0, 1, 2, 3, 4] (L2 := [(0, .int (-(nI d))), (1, .int (nI (n + 1))), (2, .ref v), (5, .int (nI (n + 1))), (6, .int 0)]) dJ6_getChars_ba4f3_21 (Nat.le_of_ble_eq_true rfl) rfl ?_
  refine xi_iload_n C 0 dJ6_getChars_ba4f3_22 rfl ?_
  refine xi_bipush C (v := (-100)) dJ6_getChars_ba4f3_23 rfl ?_
  refine xi_icmp_gt C (tgt := 72) dJ6_getChars_ba4f3_25 rfl (fun c27 => ?_) (fun c27 => False.elim ((fun z => z ((sb_nlt (a := 100) (b := d) (by omega) (by omega)).mpr (by omega))) c27))
  refine xi_aload_n C 2 dJ6_getChars_ba4f3_72 rfl ?_
  refine xi_iinc C (v := (nI (n + 1)) + (-1)) 3 [1, 2, 3, 0, 4] (L2 := [(0, .int (-(nI d))), (1, .int (nI (n + 1))), (2, .ref v), (5, .int ((nI (n + 1)) + (-1))), (6, .int 0)]) dJ6_getChars_ba4f3_73 rfl rfl (Nat.le_of_ble_eq_true rfl) rfl ?_
  refine xi_iload C 3 dJ6_getChars_ba4f3_76 rfl ?_
  refine xi_rwi (y := nI n) (sb_m1 (p := n + 1) (by omega)) ?_
  refine xi_digit C dJ6_getChars_ba4f3_78 (fun dt hdt => ?_)
  refine xi_iload_n C 0 dJ6_getChars_ba4f3_81 rfl ?_
  refine xi_ineg C dJ6_getChars_ba4f3_82 ?_
  refine xi_rwi (y := nI d) Int32.neg_neg ?_
  refine hdt (j := d) (by omega) dJ6_getChars_ba4f3_83 ?_
  refine xw_bast C _ (zap1 ((rfl : (([(v, .inl (cT 2, N, .inl f))] : va_W) : va_W)[0]? = some _))) (by omega) (by omega) dJ6_getChars_ba4f3_84 (ws2 := ([(v, .inl (cT 2, N, .inl (upd f n (vp_nar .byte (nI (48 + d))))))] : va_W) ++ ([])) (zse1 (Nat.zero_lt_succ _) rfl) ?_
  refine xi_iload_n C 0 dJ6_getChars_ba4f3_85 rfl ?_
  refine xi_bipush C (v := (-9)) dJ6_getChars_ba4f3_86 rfl ?_
  refine xi_icmp_ge C (tgt := 104) dJ6_getChars_ba4f3_88 rfl (fun c28 => ?_) (fun c28 => False.elim ((fun z => z ((sb_nle (a := 9) (b := d) (by omega) (by omega)).mpr hd)) c28))
  refine xi_iload C 4 dJ6_getChars_ba4f3_104 rfl ?_
  refine xi_if_eq C (tgt := 118) dJ6_getChars_ba4f3_106 rfl (fun c29 => ?_) (fun c29 => False.elim ((fun z => z rfl) c29))
  refine xi_iload C 3 dJ6_getChars_ba4f3_118 rfl ?_
  refine hE _ _ _ _ dJ6_getChars_ba4f3_120 ⟨_, rfl, ?_⟩
  rw [(nar7 (48 + d) (by omega)).2]
set_option maxRecDepth 100000 in
set_option maxHeartbeats 4000000 in
theorem kJ5_appendI (l : Launch) (D : va_G) (cT : Nat → ClassId) {sb v N : Nat} {f : Nat → Int32} {t : List Int32} (h : hT t f) (hn : t.length ≤ N) (hN : N ≤ 1002) (ht : t.length ≤ 400) {d : Nat} (hd : d ≤ 9) : sE l yJ5_append_c97b9 (zw yJ5_append_c97b9 cJ5_append_c97b9 4 (some (.object "java/lang/AbstractStringBuilder"))) (zRA 6 1 1002) 1 1002 (some (.object "java/lang/AbstractStringBuilder")) D cT [.ref sb, .int (nI d)] (([(sb, .inr (14, [.ref v, .int 0, .int 0, .int (nI t.length)]))] : va_W) ++ (([(v, .inl (cT 2, N, .inl f))] : va_W) ++ ([]))) (fun r W => r = some (.ref sb) ∧ sbP cT sb (t ++ [nI (48 + d)]) W) := by
  refine sE_ref rfl (Nat.le_of_ble_eq_true rfl) ?_
  intro X C hE
  refine xi_eqw (ws2 := ([(sb, .inr (14, [.ref v, .int 0, .int 0, .int (nI t.length)]))] : va_W) ++ (([(v, .inl (cT 2, N, .inl f))] : va_W) ++ ([]))) (by first | rfl | simp only [List.append_assoc, List.nil_append, List.append_nil, List.cons_append]) ?_
  refine xi_drop (L2 := [(0, .ref sb), (1, .int (nI d))]) [0, 1] rfl ?_
  refine xi_aload_n C 0 dJ5_append_c97b9_0 rfl ?_
  refine xi_get C zkJ4 3 _ zlJ5_79 (by decide) (zap1 ((rfl : (([(sb, .inr (14, [.ref v, .int 0, .int 0, .int (nI t.length)]))] : va_W) : va_W)[0]? = some _))) rfl dJ5_append_c97b9_1 ?_
  refine xi_istore_n C [1, 2, 0] (L2 := [(0, .ref sb), (1, .int (nI d)), (2, .int (nI t.length))]) dJ5_append_c97b9_4 (Nat.le_of_ble_eq_true rfl) rfl ?_
  refine xi_iload_n C 2 dJ5_append_c97b9_5 rfl ?_
  refine xi_iload_n C 1 dJ5_append_c97b9_6 rfl ?_
  refine xi_callES C (kJ6_stringSize l D cT hd) (([(sb, .inr (14, [.ref v, .int 0, .int 0, .int (nI t.length)]))] : va_W) ++ (([(v, .inl (cT 2, N, .inl f))] : va_W) ++ ([]))) (by have h := permX (bs := [([(sb, .inr (14, [.ref v, .int 0, .int 0, .int (nI t.length)]))] : va_W), ([(v, .inl (cT 2, N, .inl f))] : va_W)]) (A := []) (B := [([(sb, .inr (14, [.ref v, .int 0, .int 0, .int (nI t.length)]))] : va_W), ([(v, .inl (cT 2, N, .inl f))] : va_W)]) (n := 2) rfl [0, 1] rfl (by decide) rfl; simp only [List.flatten_cons, List.flatten_nil, List.append_assoc, List.nil_append, List.append_nil, List.cons_append] at h ⊢; exact h) zcJ6_stringSize_0f7a4 zmJ5_245 zsJ6_stringSize_0f7a4 (zrE rfl rfl) ⟨Nat.le_of_ble_eq_true rfl, Nat.le_of_ble_eq_true rfl⟩ rfl rfl (Nat.le_of_ble_eq_true rfl) dJ5_append_c97b9_7 (fun v30 W31 hv32 _ => ?_)
  obtain ⟨rfl, rfl⟩ := hv32
  refine xi_eqw (ws2 := ([(sb, .inr (14, [.ref v, .int 0, .int 0, .int (nI t.length)]))] : va_W) ++ (([(v, .inl (cT 2, N, .inl f))] : va_W) ++ ([]))) (by simp only [List.append_assoc, List.nil_append, List.append_nil, List.cons_append]) ?_
  refine xi_iadd C dJ5_append_c97b9_10 ?_
  refine xi_rwi (y := nI (t.length + 1)) (nI_1 t.length) ?_
  refine xi_istore_n C [1, 2, 3, 0] (L2 := [(0, .ref sb), (1, .int (nI d)), (2, .int (nI t.length)), (3, .int (nI (t.length + 1)))]) dJ5_append_c97b9_11 (Nat.le_of_ble_eq_true rfl) rfl ?_
  refine xi_aload_n C 0 dJ5_append_c97b9_12 rfl ?_
  refine xi_iload_n C 3 dJ5_append_c97b9_13 rfl ?_
  refine xi_callEU C (kJ5_ensure l D cT (x := nI t.length) h.1 hN (q := t.length + 1) (by omega)) ([]) (by have h := permX (bs := [([(sb, .inr (14, [.ref v, .int 0, .int 0, .int (nI t.length)]))] : va_W), ([(v, .inl (cT 2, N, .inl f))] : va_W)]) (A := [([(sb, .inr (14, [.ref v, .int 0, .int 0, .int (nI t.length)]))] : va_W), ([(v, .inl (cT 2, N, .inl f))] : va_W)]) (B := []) (n := 2) rfl [0, 1] rfl (by decide) flat2; simp only [List.flatten_cons, List.flatten_nil, List.append_assoc, List.nil_append, List.append_nil, List.cons_append] at h ⊢; exact h) zuJ5_100 (zrA rfl rfl) ⟨(by decide), (by decide)⟩ rfl zkJ4.1 (qr := 0) rfl rfl (Nat.le_of_ble_eq_true rfl) dJ5_append_c97b9_14 (fun v33 W34 hv35 _ => ?_)
  obtain ⟨v2, N2, f2, rfl, rfl, h1, h2, h3, h4, h5⟩ := hv35
  refine xi_eqw (ws2 := ([(sb, .inr (14, [.ref v2, .int 0, .int 0, .int (nI t.length)]))] : va_W) ++ (([(v2, .inl (cT 2, N2, .inl f2))] : va_W) ++ ([]))) (by simp only [List.append_assoc, List.nil_append, List.append_nil, List.cons_append]) ?_
  have g1 := hT_keep h hn h1 h2
  refine xi_aload_n C 0 dJ5_append_c97b9_17 rfl ?_
  refine xi_callEU C (kJ5_isLatin1 l D cT) (([(v2, .inl (cT 2, N2, .inl f2))] : va_W) ++ ([])) (by have h := permX (bs := [([(sb, .inr (14, [.ref v2, .int 0, .int 0, .int (nI t.length)]))] : va_W), ([(v2, .inl (cT 2, N2, .inl f2))] : va_W)]) (A := [([(sb, .inr (14, [.ref v2, .int 0, .int 0, .int (nI t.length)]))] : va_W)]) (B := [([(v2, .inl (cT 2, N2, .inl f2))] : va_W)]) (n := 2) rfl [0, 1] rfl (by decide) flat1; simp only [List.flatten_cons, List.flatten_nil, List.append_assoc, List.nil_append, List.append_nil, List.cons_append] at h ⊢; exact h) zuJ5_83 (zrE rfl rfl) ⟨Nat.le_of_ble_eq_true rfl, Nat.le_of_ble_eq_true rfl⟩ rfl zkJ4.1 (qr := 0) rfl rfl (Nat.le_of_ble_eq_true rfl) dJ5_append_c97b9_18 (fun v36 W37 hv38 _ => ?_)
  obtain ⟨rfl, rfl⟩ := hv38
  refine xi_eqw (ws2 := ([(sb, .inr (14, [.ref v2, .int 0, .int 0, .int (nI t.length)]))] : va_W) ++ (([(v2, .inl (cT 2, N2, .inl f2))] : va_W) ++ ([]))) (by simp only [List.append_assoc, List.nil_append, List.append_nil, List.cons_append]) ?_
  refine xi_if_eq C (tgt := 37) dJ5_append_c97b9_21 rfl (fun c39 => False.elim ((fun z => absurd z (by decide)) c39)) (fun c39 => ?_)
  refine xi_iload_n C 1 dJ5_append_c97b9_24 rfl ?_
  refine xi_iload_n C 3 dJ5_append_c97b9_25 rfl ?_
  refine xi_aload_n C 0 dJ5_append_c97b9_26 rfl ?_
  refine xi_get C zkJ4 0 _ zlJ5_15 (by decide) (zap1 ((rfl : (([(sb, .inr (14, [.ref v2, .int 0, .int 0, .int (nI t.length)]))] : va_W) : va_W)[0]? = some _))) rfl dJ5_append_c97b9_27 ?_
  refine xi_callES C (kJ6_getChars l D cT (n := t.length) (f := f2) hd (by omega) h5) (([(sb, .inr (14, [.ref v2, .int 0, .int 0, .int (nI t.length)]))] : va_W) ++ ([])) (by have h := permX (bs := [([(sb, .inr (14, [.ref v2, .int 0, .int 0, .int (nI t.length)]))] : va_W), ([(v2, .inl (cT 2, N2, .inl f2))] : va_W)]) (A := [([(v2, .inl (cT 2, N2, .inl f2))] : va_W)]) (B := [([(sb, .inr (14, [.ref v2, .int 0, .int 0, .int (nI t.length)]))] : va_W)]) (n := 2) rfl [1, 0] rfl (by decide) flat1; simp only [List.flatten_cons, List.flatten_nil, List.append_assoc, List.nil_append, List.append_nil, List.cons_append] at h ⊢; exact h) zcJ6_getChars_ba4f3 zmJ5_248 zsJ6_getChars_ba4f3 (zrE rfl rfl) ⟨Nat.le_of_ble_eq_true rfl, Nat.le_of_ble_eq_true rfl⟩ rfl rfl (Nat.le_of_ble_eq_true rfl) dJ5_append_c97b9_30 (fun v40 W41 hv42 _ => ?_)
  obtain ⟨qz, rfl, rfl⟩ := hv42
  refine xi_eqw (ws2 := ([(v2, .inl (cT 2, N2, .inl (upd f2 t.length (nI (48 + d)))))] : va_W) ++ (([(sb, .inr (14, [.ref v2, .int 0, .int 0, .int (nI t.length)]))] : va_W) ++ ([]))) (by simp only [List.append_assoc, List.nil_append, List.append_nil, List.cons_append]) ?_
  refine xi_pop C dJ5_append_c97b9_33 rfl ?_
  refine xi_goto C (tgt := 48) dJ5_append_c97b9_34 rfl ?_
  refine xi_aload_n C 0 dJ5_append_c97b9_48 rfl ?_
  refine xi_iload_n C 3 dJ5_append_c97b9_49 rfl ?_
  refine xi_put C zkJ4 3 _ zlJ5_79 (by decide) (zap2 rfl (zap1 ((rfl : (([(sb, .inr (14, [.ref v2, .int 0, .int 0, .int (nI t.length)]))] : va_W) : va_W)[0]? = some _)))) rfl rfl rfl (Nat.le_of_ble_eq_true rfl) dJ5_append_c97b9_50 (ws2 := ([(v2, .inl (cT 2, N2, .inl (upd f2 t.length (nI (48 + d)))))] : va_W) ++ (([(sb, .inr (14, [.ref v2, .int 0, .int 0, .int (nI (t.length + 1))]))] : va_W) ++ ([]))) (zse2 rfl (zse1 (Nat.zero_lt_succ _) rfl)) ?_
  refine xi_aload_n C 0 dJ5_append_c97b9_53 rfl ?_
  refine xi_permL (ws2 := ([(sb, .inr (14, [.ref v2, .int 0, .int 0, .int (nI (t.length + 1))]))] : va_W) ++ (([(v2, .inl (cT 2, N2, .inl (upd f2 t.length (nI (48 + d)))))] : va_W) ++ ([]))) (by have h := permR (bs := [([(v2, .inl (cT 2, N2, .inl (upd f2 t.length (nI (48 + d)))))] : va_W), ([(sb, .inr (14, [.ref v2, .int 0, .int 0, .int (nI (t.length + 1))]))] : va_W)]) (bs2 := [([(sb, .inr (14, [.ref v2, .int 0, .int 0, .int (nI (t.length + 1))]))] : va_W), ([(v2, .inl (cT 2, N2, .inl (upd f2 t.length (nI (48 + d)))))] : va_W)]) (n := 2) rfl [1, 0] rfl (by decide); simp only [List.flatten_cons, List.flatten_nil] at h; exact h) ?_
  refine xi_less (ws2 := ([(sb, .inr (14, [.ref v2, .int 0, .int 0, .int (nI (t.length + 1))]))] : va_W) ++ (([(v2, .inl (cT 2, N2, .inl (upd f2 t.length (nI (48 + d)))))] : va_W) ++ ([]))) (List.Sublist.cons_cons _ (List.Sublist.cons_cons _ (List.nil_sublist _))) ?_
  refine hE _ _ _ _ dJ5_append_c97b9_54 ⟨rfl, v2, N2, _, ?_, hT_put g1 (by omega), ?_, h5⟩
  · rw [List.length_append, List.length_singleton]
  · rw [List.length_append, List.length_singleton]; exact h3
set_option maxRecDepth 100000 in
set_option maxHeartbeats 4000000 in
theorem kJ5_inflateIf (l : Launch) (D : va_G) (cT : Nat → ClassId) {sb v i : Nat} {x : Int32} (hi : i < 12) : sE l yJ5_inflateIfNeededFor_a7421 (zw yJ5_inflateIfNeededFor_a7421 cJ5_inflateIfNeededFor_a7421 2 none) (zR 2) 0 0 none D cT [.ref sb, .ref (D.2 100 i)] (([(sb, .inr (14, [.ref v, .int 0, .int 0, .int x]))] : va_W)) (fun r W => r = none ∧ W = ([(sb, .inr (14, [.ref v, .int 0, .int 0, .int x]))] : va_W)) := by
  refine sE_void rfl (Nat.le_of_ble_eq_true rfl) ?_
  intro X C _ hE
  refine xi_eqw (ws2 := ([(sb, .inr (14, [.ref v, .int 0, .int 0, .int x]))] : va_W) ++ ([])) (by first | rfl | simp only [List.append_assoc, List.nil_append, List.append_nil, List.cons_append]) ?_
  refine xi_drop (L2 := [(0, .ref sb), (1, .ref (D.2 100 i))]) [0, 1] rfl ?_
  refine xi_compact5 C dJ5_inflateIfNeededFor_a7421_0 ?_
  refine xi_if_eq C (tgt := 21) dJ5_inflateIfNeededFor_a7421_3 rfl (fun c43 => False.elim ((fun z => absurd z (by decide)) c43)) (fun c43 => ?_)
  refine xi_aload_n C 0 dJ5_inflateIfNeededFor_a7421_6 rfl ?_
  refine xi_get C zkJ4 1 _ zlJ5_22 (by decide) (zap1 ((rfl : (([(sb, .inr (14, [.ref v, .int 0, .int 0, .int x]))] : va_W) : va_W)[0]? = some _))) rfl dJ5_inflateIfNeededFor_a7421_7 ?_
  refine xi_aload_n C 1 dJ5_inflateIfNeededFor_a7421_10 rfl ?_
  refine xi_callEVr C (sE_of_sM (kJ0_coder l D cT hi)) (([(sb, .inr (14, [.ref v, .int 0, .int 0, .int x]))] : va_W) ++ ([])) (by have h := permX (bs := [([(sb, .inr (14, [.ref v, .int 0, .int 0, .int x]))] : va_W)]) (A := []) (B := [([(sb, .inr (14, [.ref v, .int 0, .int 0, .int x]))] : va_W)]) (n := 1) rfl [0] rfl (by decide) rfl; simp only [List.flatten_cons, List.flatten_nil, List.append_assoc, List.nil_append, List.append_nil, List.cons_append] at h ⊢; exact h) zcJ0_coder_7d493 zmJ5_40 ziJ0_coder_7d493 (zrE rfl rfl) ⟨Nat.le_of_ble_eq_true rfl, Nat.le_of_ble_eq_true rfl⟩ rfl (zrS C hi) rfl (Nat.le_of_ble_eq_true rfl) dJ5_inflateIfNeededFor_a7421_11 (fun v44 W45 hv46 _ => ?_)
  obtain ⟨rfl, rfl⟩ := hv46
  refine xi_eqw (ws2 := ([(sb, .inr (14, [.ref v, .int 0, .int 0, .int x]))] : va_W) ++ ([])) (by simp only [List.append_assoc, List.nil_append, List.append_nil, List.cons_append]) ?_
  refine xi_icmp_eq C (tgt := 21) dJ5_inflateIfNeededFor_a7421_14 rfl (fun c47 => ?_) (fun c47 => False.elim ((fun z => z rfl) c47))
  exact hE _ _ _ dJ5_inflateIfNeededFor_a7421_21 ⟨rfl, rfl⟩
set_option maxRecDepth 100000 in
set_option maxHeartbeats 4000000 in
theorem kJ0_getBytes (l : Launch) (D : va_G) (cT : Nat → ClassId) {v N n i : Nat} {f : Nat → Int32} (hi : i < 12) (hn : n + zLen.getD i 0 ≤ N) (hN : N ≤ 1002) : sE l yJ0_getBytes_840e7 (zw yJ0_getBytes_840e7 cJ0_getBytes_840e7 4 none) (zR 2) 0 0 none D cT [.ref (D.2 100 i), .ref v, .int (nI n), .int 0] (([(v, .inl (cT 2, N, .inl f))] : va_W) ++ ([])) (fun r W => r = none ∧ W = ([(v, .inl (cT 2, N, .inl (va_cpy (fun j => (zByt.getD i []).getD j 0) f 0 n (zLen.getD i 0))))] : va_W) ++ ([])) := by
  refine sE_void rfl (Nat.le_of_ble_eq_true rfl) ?_
  intro X C _ hE
  refine xi_eqw (ws2 := ([(v, .inl (cT 2, N, .inl f))] : va_W) ++ ([])) (by first | rfl | simp only [List.append_assoc, List.nil_append, List.append_nil, List.cons_append]) ?_
  refine xi_drop (L2 := [(0, .ref (D.2 100 i)), (1, .ref v), (2, .int (nI n)), (3, .int 0)]) [0, 1, 2, 3] rfl ?_
  have hl := zlen_lt i hi
  refine xi_aload_n C 0 dJ0_getBytes_840e7_0 rfl ?_
  refine xi_callEVr C (sE_of_sM (kJ0_coder l D cT hi)) (([(v, .inl (cT 2, N, .inl f))] : va_W) ++ ([])) (by have h := permX (bs := [([(v, .inl (cT 2, N, .inl f))] : va_W)]) (A := []) (B := [([(v, .inl (cT 2, N, .inl f))] : va_W)]) (n := 1) rfl [0] rfl (by decide) rfl; simp only [List.flatten_cons, List.flatten_nil, List.append_assoc, List.nil_append, List.append_nil, List.cons_append] at h ⊢; exact h) zcJ0_coder_7d493 zmJ0_335 ziJ0_coder_7d493 (zrE rfl rfl) ⟨Nat.le_of_ble_eq_true rfl, Nat.le_of_ble_eq_true rfl⟩ rfl (zrS C hi) rfl (Nat.le_of_ble_eq_true rfl) dJ0_getBytes_840e7_1 (fun v48 W49 hv50 _ => ?_)
  obtain ⟨rfl, rfl⟩ := hv50
  refine xi_eqw (ws2 := ([(v, .inl (cT 2, N, .inl f))] : va_W) ++ ([])) (by simp only [List.append_assoc, List.nil_append, List.append_nil, List.cons_append]) ?_
  refine xi_iload_n C 3 dJ0_getBytes_840e7_4 rfl ?_
  refine xi_icmp_ne C (tgt := 28) dJ0_getBytes_840e7_5 rfl (fun c51 => False.elim ((fun z => absurd rfl z) c51)) (fun c51 => ?_)
  refine xi_aload_n C 0 dJ0_getBytes_840e7_8 rfl ?_
  refine xi_sval C hi dJ0_getBytes_840e7_9 ?_
  refine xi_iconst C (v := 0) dJ0_getBytes_840e7_12 rfl ?_
  refine xi_aload_n C 1 dJ0_getBytes_840e7_13 rfl ?_
  refine xi_iload_n C 2 dJ0_getBytes_840e7_14 rfl ?_
  refine xi_iload_n C 3 dJ0_getBytes_840e7_15 rfl ?_
  refine xi_ishl C dJ0_getBytes_840e7_16 ?_
  refine xi_rwi (y := nI n) (sb_shl0 _) ?_
  refine xi_aload_n C 0 dJ0_getBytes_840e7_17 rfl ?_
  refine xi_sval C hi dJ0_getBytes_840e7_18 ?_
  refine xi_slen C hi dJ0_getBytes_840e7_21 ?_
  refine xi_acopyS C hi _ (zap1 ((rfl : (([(v, .inl (cT 2, N, .inl f))] : va_W) : va_W)[0]? = some _))) (zm3 (i := 56) rfl rfl) hn (by omega) (fun j _ => zByt_fit i hi j) ⟨Nat.le_of_ble_eq_true rfl, Nat.le_of_ble_eq_true rfl⟩ (Nat.le_of_ble_eq_true rfl) dJ0_getBytes_840e7_22 (ws2 := ([(v, .inl (cT 2, N, .inl (va_cpy (fun j => (zByt.getD i []).getD j 0) f 0 n (zLen.getD i 0))))] : va_W) ++ ([])) (zse1 (Nat.zero_lt_succ _) rfl) ?_
  refine xi_goto C (tgt := 43) dJ0_getBytes_840e7_25 rfl ?_
  exact hE _ _ _ dJ0_getBytes_840e7_43 ⟨rfl, rfl⟩
set_option maxRecDepth 100000 in
set_option maxHeartbeats 4000000 in
theorem kJ5_putString (l : Launch) (D : va_G) (cT : Nat → ClassId) {sb v N n i : Nat} {f : Nat → Int32} {x : Int32} (hi : i < 12) (hn : n + zLen.getD i 0 ≤ N) (hN : N ≤ 1002) : sE l yJ5_putStringAt_47b60 (zw yJ5_putStringAt_47b60 cJ5_putStringAt_47b60 3 none) (zR 3) 0 0 none D cT [.ref sb, .int (nI n), .ref (D.2 100 i)] (([(sb, .inr (14, [.ref v, .int 0, .int 0, .int x]))] : va_W) ++ (([(v, .inl (cT 2, N, .inl f))] : va_W) ++ ([]))) (fun r W => r = none ∧ W = ([(sb, .inr (14, [.ref v, .int 0, .int 0, .int x]))] : va_W) ++ (([(v, .inl (cT 2, N, .inl (va_cpy (fun j => (zByt.getD i []).getD j 0) f 0 n (zLen.getD i 0))))] : va_W) ++ ([]))) := by
  refine sE_void rfl (Nat.le_of_ble_eq_true rfl) ?_
  intro X C _ hE
  refine xi_eqw (ws2 := ([(sb, .inr (14, [.ref v, .int 0, .int 0, .int x]))] : va_W) ++ (([(v, .inl (cT 2, N, .inl f))] : va_W) ++ ([]))) (by first | rfl | simp only [List.append_assoc, List.nil_append, List.append_nil, List.cons_append]) ?_
  refine xi_drop (L2 := [(0, .ref sb), (1, .int (nI n)), (2, .ref (D.2 100 i))]) [0, 1, 2] rfl ?_
  refine xi_aload_n C 0 dJ5_putStringAt_47b60_0 rfl ?_
  refine xi_aload_n C 2 dJ5_putStringAt_47b60_1 rfl ?_
  refine xi_callEU C (kJ5_inflateIf l D cT hi) (([(v, .inl (cT 2, N, .inl f))] : va_W) ++ ([])) (by have h := permX (bs := [([(sb, .inr (14, [.ref v, .int 0, .int 0, .int x]))] : va_W), ([(v, .inl (cT 2, N, .inl f))] : va_W)]) (A := [([(sb, .inr (14, [.ref v, .int 0, .int 0, .int x]))] : va_W)]) (B := [([(v, .inl (cT 2, N, .inl f))] : va_W)]) (n := 2) rfl [0, 1] rfl (by decide) flat1; simp only [List.flatten_cons, List.flatten_nil, List.append_assoc, List.nil_append, List.append_nil, List.cons_append] at h ⊢; exact h) zuJ5_397 (zrE rfl rfl) ⟨Nat.le_of_ble_eq_true rfl, Nat.le_of_ble_eq_true rfl⟩ rfl zkJ4.1 (qr := 0) rfl rfl (Nat.le_of_ble_eq_true rfl) dJ5_putStringAt_47b60_2 (fun v52 W53 hv54 _ => ?_)
  obtain ⟨rfl, rfl⟩ := hv54
  refine xi_eqw (ws2 := ([(sb, .inr (14, [.ref v, .int 0, .int 0, .int x]))] : va_W) ++ (([(v, .inl (cT 2, N, .inl f))] : va_W) ++ ([]))) (by simp only [List.append_assoc, List.nil_append, List.append_nil, List.cons_append]) ?_
  refine xi_aload_n C 2 dJ5_putStringAt_47b60_5 rfl ?_
  refine xi_aload_n C 0 dJ5_putStringAt_47b60_6 rfl ?_
  refine xi_get C zkJ4 0 _ zlJ5_15 (by decide) (zap1 ((rfl : (([(sb, .inr (14, [.ref v, .int 0, .int 0, .int x]))] : va_W) : va_W)[0]? = some _))) rfl dJ5_putStringAt_47b60_7 ?_
  refine xi_iload_n C 1 dJ5_putStringAt_47b60_10 rfl ?_
  refine xi_aload_n C 0 dJ5_putStringAt_47b60_11 rfl ?_
  refine xi_get C zkJ4 1 _ zlJ5_22 (by decide) (zap1 ((rfl : (([(sb, .inr (14, [.ref v, .int 0, .int 0, .int x]))] : va_W) : va_W)[0]? = some _))) rfl dJ5_putStringAt_47b60_12 ?_
  refine xi_callEVr C (kJ0_getBytes l D cT (f := f) hi hn hN) (([(sb, .inr (14, [.ref v, .int 0, .int 0, .int x]))] : va_W) ++ ([])) (by have h := permX (bs := [([(sb, .inr (14, [.ref v, .int 0, .int 0, .int x]))] : va_W), ([(v, .inl (cT 2, N, .inl f))] : va_W)]) (A := [([(v, .inl (cT 2, N, .inl f))] : va_W)]) (B := [([(sb, .inr (14, [.ref v, .int 0, .int 0, .int x]))] : va_W)]) (n := 2) rfl [1, 0] rfl (by decide) flat1; simp only [List.flatten_cons, List.flatten_nil, List.append_assoc, List.nil_append, List.append_nil, List.cons_append] at h ⊢; exact h) zcJ0_getBytes_840e7 zmJ5_399 ziJ0_getBytes_840e7 (zrE rfl rfl) ⟨Nat.le_of_ble_eq_true rfl, Nat.le_of_ble_eq_true rfl⟩ rfl (zrS C hi) rfl (Nat.le_of_ble_eq_true rfl) dJ5_putStringAt_47b60_15 (fun v55 W56 hv57 _ => ?_)
  obtain ⟨rfl, rfl⟩ := hv57
  refine xi_eqw (ws2 := ([(v, .inl (cT 2, N, .inl (va_cpy (fun j => (zByt.getD i []).getD j 0) f 0 n (zLen.getD i 0))))] : va_W) ++ (([(sb, .inr (14, [.ref v, .int 0, .int 0, .int x]))] : va_W) ++ ([]))) (by simp only [List.append_assoc, List.nil_append, List.append_nil, List.cons_append]) ?_
  refine xi_permL (ws2 := ([(sb, .inr (14, [.ref v, .int 0, .int 0, .int x]))] : va_W) ++ (([(v, .inl (cT 2, N, .inl (va_cpy (fun j => (zByt.getD i []).getD j 0) f 0 n (zLen.getD i 0))))] : va_W) ++ ([]))) (by have h := permR (bs := [([(v, .inl (cT 2, N, .inl (va_cpy (fun j => (zByt.getD i []).getD j 0) f 0 n (zLen.getD i 0))))] : va_W), ([(sb, .inr (14, [.ref v, .int 0, .int 0, .int x]))] : va_W)]) (bs2 := [([(sb, .inr (14, [.ref v, .int 0, .int 0, .int x]))] : va_W), ([(v, .inl (cT 2, N, .inl (va_cpy (fun j => (zByt.getD i []).getD j 0) f 0 n (zLen.getD i 0))))] : va_W)]) (n := 2) rfl [1, 0] rfl (by decide); simp only [List.flatten_cons, List.flatten_nil] at h; exact h) ?_
  exact hE _ _ _ dJ5_putStringAt_47b60_18 ⟨rfl, rfl⟩
set_option maxRecDepth 100000 in
set_option maxHeartbeats 4000000 in
theorem kJ5_appendS (l : Launch) (D : va_G) (cT : Nat → ClassId) {sb v N : Nat} {f : Nat → Int32} {t : List Int32} (h : hT t f) (hn : t.length ≤ N) (hN : N ≤ 1002) (ht : t.length ≤ 400) {i : Nat} (hi : i < 12) : sE l yJ5_append_cf1ce (zw yJ5_append_cf1ce cJ5_append_cf1ce 3 (some (.object "java/lang/AbstractStringBuilder"))) (zRA 6 1 1002) 1 1002 (some (.object "java/lang/AbstractStringBuilder")) D cT [.ref sb, .ref (D.2 100 i)] (([(sb, .inr (14, [.ref v, .int 0, .int 0, .int (nI t.length)]))] : va_W) ++ (([(v, .inl (cT 2, N, .inl f))] : va_W) ++ ([]))) (fun r W => r = some (.ref sb) ∧ sbP cT sb (t ++ zByt.getD i []) W) := by
  refine sE_ref rfl (Nat.le_of_ble_eq_true rfl) ?_
  intro X C hE
  refine xi_eqw (ws2 := ([(sb, .inr (14, [.ref v, .int 0, .int 0, .int (nI t.length)]))] : va_W) ++ (([(v, .inl (cT 2, N, .inl f))] : va_W) ++ ([]))) (by first | rfl | simp only [List.append_assoc, List.nil_append, List.append_nil, List.cons_append]) ?_
  refine xi_drop (L2 := [(0, .ref sb), (1, .ref (D.2 100 i))]) [0, 1] rfl ?_
  have hl := zlen_lt i hi
  have hl2 := zByt_len i hi
  refine xi_aload_n C 1 dJ5_append_cf1ce_0 rfl ?_
  refine xi_ifnonnull C (tgt := 9) dJ5_append_cf1ce_1 rfl ?_
  refine xi_aload_n C 1 dJ5_append_cf1ce_9 rfl ?_
  refine xi_callEVr C (sE_of_sM (kJ0_length l D cT hi)) (([(sb, .inr (14, [.ref v, .int 0, .int 0, .int (nI t.length)]))] : va_W) ++ (([(v, .inl (cT 2, N, .inl f))] : va_W) ++ ([]))) (by have h := permX (bs := [([(sb, .inr (14, [.ref v, .int 0, .int 0, .int (nI t.length)]))] : va_W), ([(v, .inl (cT 2, N, .inl f))] : va_W)]) (A := []) (B := [([(sb, .inr (14, [.ref v, .int 0, .int 0, .int (nI t.length)]))] : va_W), ([(v, .inl (cT 2, N, .inl f))] : va_W)]) (n := 2) rfl [0, 1] rfl (by decide) rfl; simp only [List.flatten_cons, List.flatten_nil, List.append_assoc, List.nil_append, List.append_nil, List.cons_append] at h ⊢; exact h) zcJ0_length_8abf5 zmJ5_32 ziJ0_length_8abf5 (zrE rfl rfl) ⟨Nat.le_of_ble_eq_true rfl, Nat.le_of_ble_eq_true rfl⟩ rfl (zrS C hi) rfl (Nat.le_of_ble_eq_true rfl) dJ5_append_cf1ce_10 (fun v58 W59 hv60 _ => ?_)
  obtain ⟨rfl, rfl⟩ := hv60
  refine xi_eqw (ws2 := ([(sb, .inr (14, [.ref v, .int 0, .int 0, .int (nI t.length)]))] : va_W) ++ (([(v, .inl (cT 2, N, .inl f))] : va_W) ++ ([]))) (by simp only [List.append_assoc, List.nil_append, List.append_nil, List.cons_append]) ?_
  refine xi_istore_n C [1, 2, 0] (L2 := [(0, .ref sb), (1, .ref (D.2 100 i)), (2, .int (nI (zLen.getD i 0)))]) dJ5_append_cf1ce_13 (Nat.le_of_ble_eq_true rfl) rfl ?_
  refine xi_aload_n C 0 dJ5_append_cf1ce_14 rfl ?_
  refine xi_aload_n C 0 dJ5_append_cf1ce_15 rfl ?_
  refine xi_get C zkJ4 3 _ zlJ5_79 (by decide) (zap1 ((rfl : (([(sb, .inr (14, [.ref v, .int 0, .int 0, .int (nI t.length)]))] : va_W) : va_W)[0]? = some _))) rfl dJ5_append_cf1ce_16 ?_
  refine xi_iload_n C 2 dJ5_append_cf1ce_19 rfl ?_
  refine xi_iadd C dJ5_append_cf1ce_20 ?_
  refine xi_rwi (y := nI (t.length + zLen.getD i 0)) (nI_add t.length (zLen.getD i 0)) ?_
  refine xi_callEU C (kJ5_ensure l D cT (x := nI t.length) h.1 hN (q := t.length + zLen.getD i 0) (by omega)) ([]) (by have h := permX (bs := [([(sb, .inr (14, [.ref v, .int 0, .int 0, .int (nI t.length)]))] : va_W), ([(v, .inl (cT 2, N, .inl f))] : va_W)]) (A := [([(sb, .inr (14, [.ref v, .int 0, .int 0, .int (nI t.length)]))] : va_W), ([(v, .inl (cT 2, N, .inl f))] : va_W)]) (B := []) (n := 2) rfl [0, 1] rfl (by decide) flat2; simp only [List.flatten_cons, List.flatten_nil, List.append_assoc, List.nil_append, List.append_nil, List.cons_append] at h ⊢; exact h) zuJ5_100 (zrA rfl rfl) ⟨(by decide), (by decide)⟩ rfl zkJ4.1 (qr := 0) rfl rfl (Nat.le_of_ble_eq_true rfl) dJ5_append_cf1ce_21 (fun v61 W62 hv63 _ => ?_)
  obtain ⟨v2, N2, f2, rfl, rfl, h1, h2, h3, h4, h5⟩ := hv63
  refine xi_eqw (ws2 := ([(sb, .inr (14, [.ref v2, .int 0, .int 0, .int (nI t.length)]))] : va_W) ++ (([(v2, .inl (cT 2, N2, .inl f2))] : va_W) ++ ([]))) (by simp only [List.append_assoc, List.nil_append, List.append_nil, List.cons_append]) ?_
  have g1 := hT_keep h hn h1 h2
  refine xi_aload_n C 0 dJ5_append_cf1ce_24 rfl ?_
  refine xi_aload_n C 0 dJ5_append_cf1ce_25 rfl ?_
  refine xi_get C zkJ4 3 _ zlJ5_79 (by decide) (zap1 ((rfl : (([(sb, .inr (14, [.ref v2, .int 0, .int 0, .int (nI t.length)]))] : va_W) : va_W)[0]? = some _))) rfl dJ5_append_cf1ce_26 ?_
  refine xi_aload_n C 1 dJ5_append_cf1ce_29 rfl ?_
  refine xi_callEU C (kJ5_putString l D cT (x := nI t.length) (f := f2) hi h3 h5) ([]) (by have h := permX (bs := [([(sb, .inr (14, [.ref v2, .int 0, .int 0, .int (nI t.length)]))] : va_W), ([(v2, .inl (cT 2, N2, .inl f2))] : va_W)]) (A := [([(sb, .inr (14, [.ref v2, .int 0, .int 0, .int (nI t.length)]))] : va_W), ([(v2, .inl (cT 2, N2, .inl f2))] : va_W)]) (B := []) (n := 2) rfl [0, 1] rfl (by decide) flat2; simp only [List.flatten_cons, List.flatten_nil, List.append_assoc, List.nil_append, List.append_nil, List.cons_append] at h ⊢; exact h) zuJ5_208 (zrE rfl rfl) ⟨Nat.le_of_ble_eq_true rfl, Nat.le_of_ble_eq_true rfl⟩ rfl zkJ4.1 (qr := 0) rfl rfl (Nat.le_of_ble_eq_true rfl) dJ5_append_cf1ce_30 (fun v64 W65 hv66 _ => ?_)
  obtain ⟨rfl, rfl⟩ := hv66
  refine xi_eqw (ws2 := ([(sb, .inr (14, [.ref v2, .int 0, .int 0, .int (nI t.length)]))] : va_W) ++ (([(v2, .inl (cT 2, N2, .inl (va_cpy (fun j => (zByt.getD i []).getD j 0) f2 0 t.length (zLen.getD i 0))))] : va_W) ++ ([]))) (by simp only [List.append_assoc, List.nil_append, List.append_nil, List.cons_append]) ?_
  refine xi_aload_n C 0 dJ5_append_cf1ce_33 rfl ?_
  refine xi_dup C dJ5_append_cf1ce_34 rfl ?_
  refine xi_get C zkJ4 3 _ zlJ5_79 (by decide) (zap1 ((rfl : (([(sb, .inr (14, [.ref v2, .int 0, .int 0, .int (nI t.length)]))] : va_W) : va_W)[0]? = some _))) rfl dJ5_append_cf1ce_35 ?_
  refine xi_iload_n C 2 dJ5_append_cf1ce_38 rfl ?_
  refine xi_iadd C dJ5_append_cf1ce_39 ?_
  refine xi_rwi (y := nI (t.length + zLen.getD i 0)) (nI_add t.length (zLen.getD i 0)) ?_
  refine xi_put C zkJ4 3 _ zlJ5_79 (by decide) (zap1 ((rfl : (([(sb, .inr (14, [.ref v2, .int 0, .int 0, .int (nI t.length)]))] : va_W) : va_W)[0]? = some _))) rfl rfl rfl (Nat.le_of_ble_eq_true rfl) dJ5_append_cf1ce_40 (ws2 := ([(sb, .inr (14, [.ref v2, .int 0, .int 0, .int (nI (t.length + zLen.getD i 0))]))] : va_W) ++ (([(v2, .inl (cT 2, N2, .inl (va_cpy (fun j => (zByt.getD i []).getD j 0) f2 0 t.length (zLen.getD i 0))))] : va_W) ++ ([]))) (zse1 (Nat.zero_lt_succ _) rfl) ?_
  refine xi_aload_n C 0 dJ5_append_cf1ce_43 rfl ?_
  refine hE _ _ _ _ dJ5_append_cf1ce_44 ⟨rfl, v2, N2, va_cpy (fun j => (zByt.getD i []).getD j 0) f2 0 t.length (zByt.getD i []).length, ?_, hT_cat g1 (zByt_fit i hi) (fun _ _ => rfl), ?_, h5⟩
  · rw [List.length_append, hl2]
  · rw [List.length_append, hl2]; exact h3
set_option maxRecDepth 100000 in
set_option maxHeartbeats 4000000 in
theorem kJ4_appendC (l : Launch) (D : va_G) (cT : Nat → ClassId) {sb v N : Nat} {f : Nat → Int32} {t : List Int32} (h : hT t f) (hn : t.length ≤ N) (hN : N ≤ 1002) (ht : t.length ≤ 400) {b : Nat} (hb : b < 128) : sE l yJ4_append_cf468 (zw yJ4_append_cf468 cJ4_append_cf468 2 (some (.object "java/lang/StringBuilder"))) (zRA 7 1 1002) 1 1002 (some (.object "java/lang/StringBuilder")) D cT [.ref sb, .int (nI b)] (([(sb, .inr (14, [.ref v, .int 0, .int 0, .int (nI t.length)]))] : va_W) ++ (([(v, .inl (cT 2, N, .inl f))] : va_W) ++ ([]))) (fun r W => r = some (.ref sb) ∧ sbP cT sb (t ++ [nI b]) W) := by
  refine sE_ref rfl (Nat.le_of_ble_eq_true rfl) ?_
  intro X C hE
  refine xi_eqw (ws2 := ([(sb, .inr (14, [.ref v, .int 0, .int 0, .int (nI t.length)]))] : va_W) ++ (([(v, .inl (cT 2, N, .inl f))] : va_W) ++ ([]))) (by first | rfl | simp only [List.append_assoc, List.nil_append, List.append_nil, List.cons_append]) ?_
  refine xi_drop (L2 := [(0, .ref sb), (1, .int (nI b))]) [0, 1] rfl ?_
  refine xi_aload_n C 0 dJ4_append_cf468_0 rfl ?_
  refine xi_iload_n C 1 dJ4_append_cf468_1 rfl ?_
  refine xi_callESU C (kJ5_appendC l D cT h hn hN ht hb) ([]) (by have h := permX (bs := [([(sb, .inr (14, [.ref v, .int 0, .int 0, .int (nI t.length)]))] : va_W), ([(v, .inl (cT 2, N, .inl f))] : va_W)]) (A := [([(sb, .inr (14, [.ref v, .int 0, .int 0, .int (nI t.length)]))] : va_W), ([(v, .inl (cT 2, N, .inl f))] : va_W)]) (B := []) (n := 2) rfl [0, 1] rfl (by decide) flat2; simp only [List.flatten_cons, List.flatten_nil, List.append_assoc, List.nil_append, List.append_nil, List.cons_append] at h ⊢; exact h) zsuJ4_50 (zrA rfl rfl) ⟨Nat.le_of_ble_eq_true rfl, Nat.le_of_ble_eq_true rfl⟩ rfl zkJ4.1 (qr := 0) rfl rfl (Nat.le_of_ble_eq_true rfl) dJ4_append_cf468_2 (fun v67 W68 hv69 _ => ?_)
  obtain ⟨rfl, hW⟩ := hv69
  refine xi_eqw (ws2 := W68 ++ ([])) (by simp only [List.append_assoc, List.nil_append, List.append_nil, List.cons_append]) ?_
  refine xi_pop C dJ4_append_cf468_5 rfl ?_
  refine xi_aload_n C 0 dJ4_append_cf468_6 rfl ?_
  rw [List.append_nil]
  exact hE _ _ _ _ dJ4_append_cf468_7 ⟨rfl, hW⟩
set_option maxRecDepth 100000 in
set_option maxHeartbeats 4000000 in
theorem kJ4_appendI (l : Launch) (D : va_G) (cT : Nat → ClassId) {sb v N : Nat} {f : Nat → Int32} {t : List Int32} (h : hT t f) (hn : t.length ≤ N) (hN : N ≤ 1002) (ht : t.length ≤ 400) {d : Nat} (hd : d ≤ 9) : sE l yJ4_append_bf812 (zw yJ4_append_bf812 cJ4_append_bf812 2 (some (.object "java/lang/StringBuilder"))) (zRA 7 1 1002) 1 1002 (some (.object "java/lang/StringBuilder")) D cT [.ref sb, .int (nI d)] (([(sb, .inr (14, [.ref v, .int 0, .int 0, .int (nI t.length)]))] : va_W) ++ (([(v, .inl (cT 2, N, .inl f))] : va_W) ++ ([]))) (fun r W => r = some (.ref sb) ∧ sbP cT sb (t ++ [nI (48 + d)]) W) := by
  refine sE_ref rfl (Nat.le_of_ble_eq_true rfl) ?_
  intro X C hE
  refine xi_eqw (ws2 := ([(sb, .inr (14, [.ref v, .int 0, .int 0, .int (nI t.length)]))] : va_W) ++ (([(v, .inl (cT 2, N, .inl f))] : va_W) ++ ([]))) (by first | rfl | simp only [List.append_assoc, List.nil_append, List.append_nil, List.cons_append]) ?_
  refine xi_drop (L2 := [(0, .ref sb), (1, .int (nI d))]) [0, 1] rfl ?_
  refine xi_aload_n C 0 dJ4_append_bf812_0 rfl ?_
  refine xi_iload_n C 1 dJ4_append_bf812_1 rfl ?_
  refine xi_callESU C (kJ5_appendI l D cT h hn hN ht hd) ([]) (by have h := permX (bs := [([(sb, .inr (14, [.ref v, .int 0, .int 0, .int (nI t.length)]))] : va_W), ([(v, .inl (cT 2, N, .inl f))] : va_W)]) (A := [([(sb, .inr (14, [.ref v, .int 0, .int 0, .int (nI t.length)]))] : va_W), ([(v, .inl (cT 2, N, .inl f))] : va_W)]) (B := []) (n := 2) rfl [0, 1] rfl (by decide) flat2; simp only [List.flatten_cons, List.flatten_nil, List.append_assoc, List.nil_append, List.append_nil, List.cons_append] at h ⊢; exact h) zsuJ4_53 (zrA rfl rfl) ⟨Nat.le_of_ble_eq_true rfl, Nat.le_of_ble_eq_true rfl⟩ rfl zkJ4.1 (qr := 0) rfl rfl (Nat.le_of_ble_eq_true rfl) dJ4_append_bf812_2 (fun v70 W71 hv72 _ => ?_)
  obtain ⟨rfl, hW⟩ := hv72
  refine xi_eqw (ws2 := W71 ++ ([])) (by simp only [List.append_assoc, List.nil_append, List.append_nil, List.cons_append]) ?_
  refine xi_pop C dJ4_append_bf812_5 rfl ?_
  refine xi_aload_n C 0 dJ4_append_bf812_6 rfl ?_
  rw [List.append_nil]
  exact hE _ _ _ _ dJ4_append_bf812_7 ⟨rfl, hW⟩
set_option maxRecDepth 100000 in
set_option maxHeartbeats 4000000 in
theorem kJ4_appendS (l : Launch) (D : va_G) (cT : Nat → ClassId) {sb v N : Nat} {f : Nat → Int32} {t : List Int32} (h : hT t f) (hn : t.length ≤ N) (hN : N ≤ 1002) (ht : t.length ≤ 400) {i : Nat} (hi : i < 12) : sE l yJ4_append_15ec4 (zw yJ4_append_15ec4 cJ4_append_15ec4 2 (some (.object "java/lang/StringBuilder"))) (zRA 7 1 1002) 1 1002 (some (.object "java/lang/StringBuilder")) D cT [.ref sb, .ref (D.2 100 i)] (([(sb, .inr (14, [.ref v, .int 0, .int 0, .int (nI t.length)]))] : va_W) ++ (([(v, .inl (cT 2, N, .inl f))] : va_W) ++ ([]))) (fun r W => r = some (.ref sb) ∧ sbP cT sb (t ++ zByt.getD i []) W) := by
  refine sE_ref rfl (Nat.le_of_ble_eq_true rfl) ?_
  intro X C hE
  refine xi_eqw (ws2 := ([(sb, .inr (14, [.ref v, .int 0, .int 0, .int (nI t.length)]))] : va_W) ++ (([(v, .inl (cT 2, N, .inl f))] : va_W) ++ ([]))) (by first | rfl | simp only [List.append_assoc, List.nil_append, List.append_nil, List.cons_append]) ?_
  refine xi_drop (L2 := [(0, .ref sb), (1, .ref (D.2 100 i))]) [0, 1] rfl ?_
  refine xi_aload_n C 0 dJ4_append_15ec4_0 rfl ?_
  refine xi_aload_n C 1 dJ4_append_15ec4_1 rfl ?_
  refine xi_callESU C (kJ5_appendS l D cT h hn hN ht hi) ([]) (by have h := permX (bs := [([(sb, .inr (14, [.ref v, .int 0, .int 0, .int (nI t.length)]))] : va_W), ([(v, .inl (cT 2, N, .inl f))] : va_W)]) (A := [([(sb, .inr (14, [.ref v, .int 0, .int 0, .int (nI t.length)]))] : va_W), ([(v, .inl (cT 2, N, .inl f))] : va_W)]) (B := []) (n := 2) rfl [0, 1] rfl (by decide) flat2; simp only [List.flatten_cons, List.flatten_nil, List.append_assoc, List.nil_append, List.append_nil, List.cons_append] at h ⊢; exact h) zsuJ4_29 (zrA rfl rfl) ⟨Nat.le_of_ble_eq_true rfl, Nat.le_of_ble_eq_true rfl⟩ rfl zkJ4.1 (qr := 0) rfl rfl (Nat.le_of_ble_eq_true rfl) dJ4_append_15ec4_2 (fun v73 W74 hv75 _ => ?_)
  obtain ⟨rfl, hW⟩ := hv75
  refine xi_eqw (ws2 := W74 ++ ([])) (by simp only [List.append_assoc, List.nil_append, List.append_nil, List.cons_append]) ?_
  refine xi_pop C dJ4_append_15ec4_5 rfl ?_
  refine xi_aload_n C 0 dJ4_append_15ec4_6 rfl ?_
  rw [List.append_nil]
  exact hE _ _ _ _ dJ4_append_15ec4_7 ⟨rfl, hW⟩
