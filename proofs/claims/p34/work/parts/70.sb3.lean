/-! the builder made, its text taken -/
section CloneB
variable {X : sX} {l : Launch} {R : Room} {D : va_G} {cT : Nat → ClassId} {nL k n pc : Nat} {cc : ByteArray} {own : String} {L : List (Nat × Value)} {st : List Value} {ws : va_W}
theorem xi_cloneB (C : sC X R D cT nL cc own) {a N index : Nat} {g : Nat → Int32} (q : Nat) (he : ws[q]? = some (a, .inl (cT 2, N, .inl g))) (hfit : sb_Fit g) (hlink : Cond.methodLink own index ⟨"[B", "clone", "()Ljava/lang/Object;"⟩ ∈ zG) (hsame : Cond.sameMethod "[B" "java/lang/Object" "clone" "()Ljava/lang/Object;" ∈ zG) (hnat : Cond.native ⟨"java/lang/Object", "clone", "()Ljava/lang/Object;"⟩ ∈ zG) (hinst : Cond.instanceMethod ⟨"java/lang/Object", "clone", "()Ljava/lang/Object;"⟩ ∈ zG)
    (hsel : Cond.selects "[B" ⟨"[B", "clone", "()Ljava/lang/Object;"⟩ ⟨"java/lang/Object", "clone", "()Ljava/lang/Object;"⟩ ∈ zG) (hcl : Cond.castable "[B" "java/lang/Cloneable" ∈ zH) (hf : 1 ≤ R.frames ∧ (st.map fun v => v.category).sum + 14 ≤ R.locals) (hcells : k + 1 ≤ R.cells) (hslots : n + N ≤ R.slots) (hdg : decode cc pc = .ok (.invokevirtual index, 3))
    (kk : ∀ q1 : Nat, sW X l R D nL (k + 1) (n + N) (pc + 3) L (.ref q1 :: st) (ws ++ [(q1, .inl (cT 2, N, .inl g))])) : sW X l R D nL k n pc L (.ref a :: st) ws := by
  obtain ⟨p, e, s, m, args, below, meth, c, Q, A⟩ := X
  intro H locs ls hP hD hS hl
  have hs : ("[" ++ (FieldType.byte).toString) = "[B" := by decide
  have e1 : s.vm.findClass "[B" = some (cT 2) := by rw [← hs]; exact (C.2.1.2 2 _ rfl).2
  refine va_clone (x := (N, .inl g)) C.1.1 C.1.2.1 (C.1.2.2.1.trans hl.1.symm) C.1.2.2.2.1 (C.1.2.2.2.2 _ hlink) (C.1.2.2.2.2 _ hsame) (C.1.2.2.2.2 _ hnat) (C.1.2.2.2.2 _ hinst) (C.1.2.2.2.2 _ hsel) (C.2.2.2.2.2 _ hcl) C.2.1 hP hD hS C.2.2.1 q 2 he rfl e1 (fun i v hv => ?_) hf.1 hf.2 hcells hslots hdg (fun q1 H1 hK1 hP1 hD1 hS1 => kk q1 H1 locs ls hP1 hD1 hS1 hl)
  have hv' : (arrV (cT 2) N (fun j => .int (g j))).slots[i]? = some v := hv
  by_cases hi : i < N
  · rw [arrV_read _ _ hi] at hv'
    cases hv'
    exact hfit i
  · have h2 : (arrV (cT 2) N (fun j => .int (g j))).slots.size ≤ i := by rw [arrV_size]; omega
    rw [Array.getElem?_eq_none h2] at hv'
    cases hv'
theorem xi_castAB (C : sC X R D cT nL cc own) {a N index : Nat} {g : Nat → Int32} (q : Nat) (he : ws[q]? = some (a, .inl (cT 2, N, .inl g))) (hlink : Cond.classLink own index "[B" ∈ zG) (hdg : decode cc pc = .ok (.checkcast index, 3)) (kk : sW X l R D nL k n (pc + 3) L (.ref a :: st) ws) : sW X l R D nL k n pc L (.ref a :: st) ws := by
  obtain ⟨p, e, s, m, args, below, meth, c, Q, A⟩ := X
  intro H locs ls hP hD hS hl
  have hs : ("[" ++ (FieldType.byte).toString) = "[B" := by decide
  have e1 : s.vm.findClass "[B" = some (cT 2) := by rw [← hs]; exact (C.2.1.2 2 _ rfl).2
  exact va_castA C.1.1 C.1.2.1 C.1.2.2.2.1 (C.1.2.2.2.2 _ hlink) hP q he e1 hdg (kk H locs ls hP hD hS hl)
end CloneB
theorem chr7 : ∀ b, b < 128 → (((nI b &&& 255).toUInt32 % 65536).toInt32 = nI b ∧ narrow .char (.int (nI b)) = .int (nI b)) := by decide +kernel
theorem flat3 {α : Type} {a b c : List α} : List.flatten [a, b, c] = a ++ (b ++ c) := by simp
theorem hT_nil : hT [] (fun _ => 0) := ⟨sb_fit0, fun j hj => absurd hj (Nat.not_lt_zero _)⟩
/-- a text that lies in the world -/
def stW (cT : Nat → ClassId) (s v : Nat) (n : Nat) (f : Nat → Int32) : va_W := [(s, .inr (13, [.ref v, .int 0, .int 0, .int 0]))] ++ ([(v, .inl (cT 2, n, .inl f))] ++ [])
set_option maxRecDepth 100000 in
set_option maxHeartbeats 4000000 in
theorem kJ5_init (l : Launch) (D : va_G) (cT : Nat → ClassId) {sb : Nat} : sE l yJ5_init_d00df (zw yJ5_init_d00df cJ5_init_d00df 2 none) (zRA 2 1 16) 1 16 none D cT [.ref sb, .int 16] (([(sb, .inr (14, [.null, .int 0, .int 0, .int 0]))] : va_W)) (fun r W => ∃ v : Nat, r = none ∧ W = ([(sb, .inr (14, [.ref v, .int 0, .int 0, .int 0]))] : va_W) ++ (([(v, .inl (cT 2, 16, .inl (fun _ => 0)))] : va_W) ++ ([]))) := by
  refine sE_void rfl (Nat.le_of_ble_eq_true rfl) ?_
  intro X C _ hE
  refine xi_eqw (ws2 := ([(sb, .inr (14, [.null, .int 0, .int 0, .int 0]))] : va_W) ++ ([])) (by first | rfl | simp only [List.append_assoc, List.nil_append, List.append_nil, List.cons_append]) ?_
  refine xi_drop (L2 := [(0, .ref sb), (1, .int 16)]) [0, 1] rfl ?_
  refine xi_aload_n C 0 dJ5_init_d00df_0 rfl ?_
  refine xi_objinit C (zm2 (i := 91) rfl rfl) (zm1 (i := 37) rfl rfl) (zm1 (i := 38) rfl rfl) ⟨Nat.le_of_ble_eq_true rfl, Nat.le_of_ble_eq_true rfl⟩ (Nat.le_of_ble_eq_true rfl) dJ5_init_d00df_1 ?_
  refine xi_compact5 C dJ5_init_d00df_4 ?_
  refine xi_if_eq C (tgt := 25) dJ5_init_d00df_7 rfl (fun c1 => False.elim ((fun z => absurd z (by decide)) c1)) (fun c1 => ?_)
  refine xi_aload_n C 0 dJ5_init_d00df_10 rfl ?_
  refine xi_iload_n C 1 dJ5_init_d00df_11 rfl ?_
  refine xi_newaB C (N := 16) (zm1 (i := 70) rfl rfl) (by decide) rfl (by decide) (by show 0 + 1 ≤ 1; omega) (by show 0 + 16 ≤ 16; omega) dJ5_init_d00df_12 (fun v => ?_)
  refine xi_eqw (ws2 := ([(sb, .inr (14, [.null, .int 0, .int 0, .int 0]))] : va_W) ++ (([(v, .inl (cT 2, 16, .inl (fun _ => 0)))] : va_W) ++ ([]))) (by simp only [List.append_assoc, List.nil_append, List.append_nil]) ?_
  refine xi_put C zkJ4 0 _ zlJ5_15 (by decide) (zap1 ((rfl : (([(sb, .inr (14, [.null, .int 0, .int 0, .int 0]))] : va_W) : va_W)[0]? = some _))) rfl rfl rfl (Nat.le_of_ble_eq_true rfl) dJ5_init_d00df_14 (ws2 := ([(sb, .inr (14, [.ref v, .int 0, .int 0, .int 0]))] : va_W) ++ (([(v, .inl (cT 2, 16, .inl (fun _ => 0)))] : va_W) ++ ([]))) (zse1 (Nat.zero_lt_succ _) rfl) ?_
  refine xi_aload_n C 0 dJ5_init_d00df_17 rfl ?_
  refine xi_iconst C (v := 0) dJ5_init_d00df_18 rfl ?_
  refine xi_put C zkJ4 1 _ zlJ5_22 (by decide) (zap1 ((rfl : (([(sb, .inr (14, [.ref v, .int 0, .int 0, .int 0]))] : va_W) : va_W)[0]? = some _))) rfl rfl rfl (Nat.le_of_ble_eq_true rfl) dJ5_init_d00df_19 (ws2 := ([(sb, .inr (14, [.ref v, .int 0, .int 0, .int 0]))] : va_W) ++ (([(v, .inl (cT 2, 16, .inl (fun _ => 0)))] : va_W) ++ ([]))) (zse1 (Nat.zero_lt_succ _) rfl) ?_
  refine xi_goto C (tgt := 38) dJ5_init_d00df_22 rfl ?_
  refine xi_wide (k2 := 1) (n2 := 16) (by decide) (by decide) ?_
  exact hE _ _ _ dJ5_init_d00df_38 ⟨v, rfl, rfl⟩
set_option maxRecDepth 100000 in
set_option maxHeartbeats 4000000 in
theorem kJ4_init (l : Launch) (D : va_G) (cT : Nat → ClassId) {sb : Nat} : sE l yJ4_init_da8c8 (zw yJ4_init_da8c8 cJ4_init_da8c8 1 none) (zRA 3 1 16) 1 16 none D cT [.ref sb] (([(sb, .inr (14, [.null, .int 0, .int 0, .int 0]))] : va_W)) (fun r W => r = none ∧ sbP cT sb [] W) := by
  refine sE_void rfl (Nat.le_of_ble_eq_true rfl) ?_
  intro X C _ hE
  refine xi_eqw (ws2 := ([(sb, .inr (14, [.null, .int 0, .int 0, .int 0]))] : va_W) ++ ([])) (by first | rfl | simp only [List.append_assoc, List.nil_append, List.append_nil, List.cons_append]) ?_
  refine xi_drop (L2 := [(0, .ref sb)]) [0] rfl ?_
  refine xi_aload_n C 0 dJ4_init_da8c8_0 rfl ?_
  refine xi_bipush C (v := 16) dJ4_init_da8c8_1 rfl ?_
  refine xi_callEI C (kJ5_init l D cT) ([]) (by have h := permX (bs := [([(sb, .inr (14, [.null, .int 0, .int 0, .int 0]))] : va_W)]) (A := [([(sb, .inr (14, [.null, .int 0, .int 0, .int 0]))] : va_W)]) (B := []) (n := 1) rfl [0] rfl (by decide) flat1; simp only [List.flatten_cons, List.flatten_nil, List.append_assoc, List.nil_append, List.append_nil, List.cons_append] at h ⊢; exact h) zcJ5_init_d00df zmJ4_1 ziiJ5_init_d00df rfl (zrA rfl rfl) ⟨Nat.le_of_ble_eq_true rfl, Nat.le_of_ble_eq_true rfl⟩ rfl rfl (Nat.le_of_ble_eq_true rfl) dJ4_init_da8c8_3 (fun v2 W3 hv4 => ?_)
  obtain ⟨v, rfl, rfl⟩ := hv4
  refine xi_eqw (ws2 := ([(sb, .inr (14, [.ref v, .int 0, .int 0, .int 0]))] : va_W) ++ (([(v, .inl (cT 2, 16, .inl (fun _ => 0)))] : va_W) ++ ([]))) (by simp only [List.append_assoc, List.nil_append, List.append_nil, List.cons_append]) ?_
  exact hE _ _ _ dJ4_init_da8c8_6 ⟨rfl, v, 16, fun _ => 0, rfl, hT_nil, by decide, by decide⟩
set_option maxRecDepth 100000 in
set_option maxHeartbeats 4000000 in
theorem kJ7_checkLength (l : Launch) (D : va_G) (cT : Nat → ClassId) {n : Nat} (hn : n ≤ 1002) : sE l yJ7_checkLength_df160 (zw yJ7_checkLength_df160 cJ7_checkLength_df160 2 none) (zR 1) 0 0 none D cT [.int 0, .int (nI n)] ([]) (fun r W => r = none ∧ W = []) := by
  refine sE_void rfl (Nat.le_of_ble_eq_true rfl) ?_
  intro X C _ hE
  refine xi_eqw (ws2 := []) (by first | rfl | simp only [List.append_assoc, List.nil_append, List.append_nil, List.cons_append]) ?_
  refine xi_drop (L2 := [(0, .int 0), (1, .int (nI n))]) [0, 1] rfl ?_
  refine xi_iload_n C 1 dJ7_checkLength_df160_0 rfl ?_
  refine xi_iload_n C 0 dJ7_checkLength_df160_1 rfl ?_
  refine xi_icmp_ge C (tgt := 37) dJ7_checkLength_df160_2 rfl (fun c5 => ?_) (fun c5 => False.elim ((fun z => z (nI_pos' (n := n) (by omega))) c5))
  exact hE _ _ _ dJ7_checkLength_df160_37 ⟨rfl, rfl⟩
set_option maxRecDepth 100000 in
set_option maxHeartbeats 4000000 in
theorem kJ7_copyOfRangeByte (l : Launch) (D : va_G) (cT : Nat → ClassId) {v N n : Nat} {f : Nat → Int32} (hF : sb_Fit f) (hn : n ≤ N) (hN : N ≤ 1002) : sE l yJ7_copyOfRangeByte_39247 (zw yJ7_copyOfRangeByte_39247 cJ7_copyOfRangeByte_39247 5 (some (.array .byte))) (zRA 2 1 1002) 1 1002 (some (.array .byte)) D cT [.ref v, .int 0, .int (nI n)] (([(v, .inl (cT 2, N, .inl f))] : va_W) ++ ([])) (fun r W => ∃ (v2 : Nat) (f2 : Nat → Int32), r = some (.ref v2) ∧ W = ([(v, .inl (cT 2, N, .inl f))] : va_W) ++ (([(v2, .inl (cT 2, n, .inl f2))] : va_W) ++ ([])) ∧ sb_Fit f2 ∧ (∀ j, j < n → f2 j = f j)) := by
  refine sE_arrB rfl (Nat.le_of_ble_eq_true rfl) ?_
  intro X C hE
  refine xi_eqw (ws2 := ([(v, .inl (cT 2, N, .inl f))] : va_W) ++ ([])) (by first | rfl | simp only [List.append_assoc, List.nil_append, List.append_nil, List.cons_append]) ?_
  refine xi_drop (L2 := [(0, .ref v), (1, .int 0), (2, .int (nI n))]) [0, 1, 2] rfl ?_
  refine xi_iload_n C 1 dJ7_copyOfRangeByte_39247_0 rfl ?_
  refine xi_iload_n C 2 dJ7_copyOfRangeByte_39247_1 rfl ?_
  refine xi_callES C (kJ7_checkLength l D cT (n := n) (by omega)) (([(v, .inl (cT 2, N, .inl f))] : va_W) ++ ([])) (by have h := permX (bs := [([(v, .inl (cT 2, N, .inl f))] : va_W)]) (A := []) (B := [([(v, .inl (cT 2, N, .inl f))] : va_W)]) (n := 1) rfl [0] rfl (by decide) rfl; simp only [List.flatten_cons, List.flatten_nil, List.append_assoc, List.nil_append, List.append_nil, List.cons_append] at h ⊢; exact h) zcJ7_checkLength_df160 zmJ7_343 zsJ7_checkLength_df160 (zrE rfl rfl) ⟨Nat.le_of_ble_eq_true rfl, Nat.le_of_ble_eq_true rfl⟩ rfl rfl (Nat.le_of_ble_eq_true rfl) dJ7_copyOfRangeByte_39247_2 (fun v6 W7 hv8 _ => ?_)
  obtain ⟨rfl, rfl⟩ := hv8
  refine xi_eqw (ws2 := ([(v, .inl (cT 2, N, .inl f))] : va_W) ++ ([])) (by simp only [List.append_assoc, List.nil_append, List.append_nil, List.cons_append]) ?_
  refine xi_iload_n C 2 dJ7_copyOfRangeByte_39247_5 rfl ?_
  refine xi_iload_n C 1 dJ7_copyOfRangeByte_39247_6 rfl ?_
  refine xi_isub C dJ7_copyOfRangeByte_39247_7 ?_
  refine xi_rwi (y := nI n) (Int32.sub_zero _) ?_
  refine xi_istore_n C [1, 2, 3, 0] (L2 := [(0, .ref v), (1, .int 0), (2, .int (nI n)), (3, .int (nI n))]) dJ7_copyOfRangeByte_39247_8 (Nat.le_of_ble_eq_true rfl) rfl ?_
  refine xi_iload_n C 3 dJ7_copyOfRangeByte_39247_9 rfl ?_
  refine xi_newaB C (N := n) (zm1 (i := 70) rfl rfl) (nI_pos (by omega)) (nI_clamp (by omega)) (by omega) (by show 0 + 1 ≤ 1; omega) (by show 0 + n ≤ 1002; omega) dJ7_copyOfRangeByte_39247_10 (fun v2 => ?_)
  refine xi_eqw (ws2 := ([(v, .inl (cT 2, N, .inl f))] : va_W) ++ (([(v2, .inl (cT 2, n, .inl (fun _ => 0)))] : va_W) ++ ([]))) (by simp only [List.append_assoc, List.nil_append, List.append_nil]) ?_
  refine xi_astore C [1, 2, 3, 4, 0] (L2 := [(0, .ref v), (1, .int 0), (2, .int (nI n)), (3, .int (nI n)), (4, .ref v2)]) dJ7_copyOfRangeByte_39247_12 (Nat.le_of_ble_eq_true rfl) rfl ?_
  refine xi_aload_n C 0 dJ7_copyOfRangeByte_39247_14 rfl ?_
  refine xi_iload_n C 1 dJ7_copyOfRangeByte_39247_15 rfl ?_
  refine xi_aload C 4 dJ7_copyOfRangeByte_39247_16 rfl ?_
  refine xi_iconst C (v := 0) dJ7_copyOfRangeByte_39247_18 rfl ?_
  refine xi_aload_n C 0 dJ7_copyOfRangeByte_39247_19 rfl ?_
  refine xi_alen C (v := nI N) _ 2 (zap1 ((rfl : (([(v, .inl (cT 2, N, .inl f))] : va_W) : va_W)[0]? = some _))) rfl rfl dJ7_copyOfRangeByte_39247_20 ?_
  refine xi_iload_n C 1 dJ7_copyOfRangeByte_39247_21 rfl ?_
  refine xi_isub C dJ7_copyOfRangeByte_39247_22 ?_
  refine xi_rwi (y := nI N) (Int32.sub_zero _) ?_
  refine xi_iload_n C 3 dJ7_copyOfRangeByte_39247_23 rfl ?_
  refine xi_mmin C zmjJ7_304 ⟨Nat.le_of_ble_eq_true rfl, Nat.le_of_ble_eq_true rfl⟩ ⟨(by show 0 + 1 ≤ 1; omega), (by show 0 + n ≤ 1002; omega)⟩ (Nat.le_of_ble_eq_true rfl) dJ7_copyOfRangeByte_39247_24 ?_
  refine xi_rwi (y := nI (Nat.min N n)) (nI_min (by omega) (by omega)) ?_
  refine xi_rwi (y := nI n) (by rw [show Nat.min N n = n from Nat.min_eq_right hn]) ?_
  refine xi_acopy C (n0 := N) (n1 := n) (f := f) (g := fun _ => 0) _ _ (zap1 ((rfl : (([(v, .inl (cT 2, N, .inl f))] : va_W) : va_W)[0]? = some _))) (zap2 rfl (zap1 ((rfl : (([(v2, .inl (cT 2, n, .inl (fun _ => 0)))] : va_W) : va_W)[0]? = some _)))) (zm2 (i := 221) rfl rfl) (sp := 0) (dp := 0) (w := n) (by omega) (by omega) ⟨by omega, by omega⟩ (fun i _ => hF _) ⟨Nat.le_of_ble_eq_true rfl, Nat.le_of_ble_eq_true rfl⟩ (Nat.le_of_ble_eq_true rfl) dJ7_copyOfRangeByte_39247_27 (ws2 := ([(v, .inl (cT 2, N, .inl f))] : va_W) ++ (([(v2, .inl (cT 2, n, .inl (va_cpy f (fun _ => 0) 0 0 n)))] : va_W) ++ ([]))) (zse2 rfl (zse1 (Nat.zero_lt_succ _) rfl)) ?_
  refine xi_aload C 4 dJ7_copyOfRangeByte_39247_30 rfl ?_
  refine xi_wide (k2 := 1) (n2 := 1002) (by omega) (by omega) ?_
  exact hE _ _ _ _ dJ7_copyOfRangeByte_39247_32 ⟨v2, _, rfl, rfl, sb_fitC hF sb_fit0, fun j hj => sb_cpy0 hj⟩
set_option maxRecDepth 100000 in
set_option maxHeartbeats 4000000 in
theorem kJ7_copyOfRange (l : Launch) (D : va_G) (cT : Nat → ClassId) {v N n : Nat} {f : Nat → Int32} (hF : sb_Fit f) (hn : n ≤ N) (hN : N ≤ 1002) : sE l yJ7_copyOfRange_39247 (zw yJ7_copyOfRange_39247 cJ7_copyOfRange_39247 3 (some (.array .byte))) (zRA 3 1 1002) 1 1002 (some (.array .byte)) D cT [.ref v, .int 0, .int (nI n)] (([(v, .inl (cT 2, N, .inl f))] : va_W) ++ ([])) (fun r W => ∃ (v2 : Nat) (f2 : Nat → Int32), r = some (.ref v2) ∧ W = ([(v, .inl (cT 2, N, .inl f))] : va_W) ++ (([(v2, .inl (cT 2, n, .inl f2))] : va_W) ++ ([])) ∧ sb_Fit f2 ∧ (∀ j, j < n → f2 j = f j)) := by
  refine sE_arrB rfl (Nat.le_of_ble_eq_true rfl) ?_
  intro X C hE
  refine xi_eqw (ws2 := ([(v, .inl (cT 2, N, .inl f))] : va_W) ++ ([])) (by first | rfl | simp only [List.append_assoc, List.nil_append, List.append_nil, List.cons_append]) ?_
  refine xi_drop (L2 := [(0, .ref v), (1, .int 0), (2, .int (nI n))]) [0, 1, 2] rfl ?_
  refine xi_iload_n C 1 dJ7_copyOfRange_39247_0 rfl ?_
  refine xi_if_ne C (tgt := 10) dJ7_copyOfRange_39247_1 rfl (fun c9 => False.elim ((fun z => absurd rfl z) c9)) (fun c9 => ?_)
  refine xi_iload_n C 2 dJ7_copyOfRange_39247_4 rfl ?_
  refine xi_aload_n C 0 dJ7_copyOfRange_39247_5 rfl ?_
  refine xi_alen C (v := nI N) _ 2 (zap1 ((rfl : (([(v, .inl (cT 2, N, .inl f))] : va_W) : va_W)[0]? = some _))) rfl rfl dJ7_copyOfRange_39247_6 ?_
  refine xi_icmp_eq C (tgt := 17) dJ7_copyOfRange_39247_7 rfl (fun c10 => ?_) (fun c10 => ?_)
  · have hnn := (nI_eq (a := n) (b := N) (by omega) (by omega)).mp c10
    subst hnn
    refine xi_aload_n C 0 dJ7_copyOfRange_39247_17 rfl ?_
    refine xi_cloneB C _ (zap1 ((rfl : (([(v, .inl (cT 2, n, .inl f))] : va_W) : va_W)[0]? = some _))) hF (zm2 (i := 211) rfl rfl) (zm2 (i := 212) rfl rfl) (zm2 (i := 213) rfl rfl) (zm2 (i := 214) rfl rfl) (zm2 (i := 215) rfl rfl) (zh2 (i := 216) rfl rfl) ⟨Nat.le_of_ble_eq_true rfl, Nat.le_of_ble_eq_true rfl⟩ (Nat.le_of_ble_eq_true rfl) (by show 0 + n ≤ 1002; omega) dJ7_copyOfRange_39247_18 (fun v2 => ?_)
    refine xi_eqw (ws2 := ([(v, .inl (cT 2, n, .inl f))] : va_W) ++ (([(v2, .inl (cT 2, n, .inl f))] : va_W) ++ ([]))) (by simp only [List.append_assoc, List.nil_append, List.append_nil]) ?_
    refine xi_castAB C _ (zap2 rfl (zap1 ((rfl : (([(v2, .inl (cT 2, n, .inl f))] : va_W) : va_W)[0]? = some _)))) (zm2 (i := 217) rfl rfl) dJ7_copyOfRange_39247_21 ?_
    refine xi_wide (k2 := 1) (n2 := 1002) (by omega) (by omega) ?_
    exact hE _ _ _ _ dJ7_copyOfRange_39247_24 ⟨v2, f, rfl, rfl, hF, fun _ _ => rfl⟩
  · refine xi_aload_n C 0 dJ7_copyOfRange_39247_10 rfl ?_
    refine xi_iload_n C 1 dJ7_copyOfRange_39247_11 rfl ?_
    refine xi_iload_n C 2 dJ7_copyOfRange_39247_12 rfl ?_
    refine xi_callES C (kJ7_copyOfRangeByte l D cT hF hn hN) ([]) (by have h := permX (bs := [([(v, .inl (cT 2, N, .inl f))] : va_W)]) (A := [([(v, .inl (cT 2, N, .inl f))] : va_W)]) (B := []) (n := 1) rfl [0] rfl (by decide) flat1; simp only [List.flatten_cons, List.flatten_nil, List.append_assoc, List.nil_append, List.append_nil, List.cons_append] at h ⊢; exact h) zcJ7_copyOfRangeByte_39247 zmJ7_339 zsJ7_copyOfRangeByte_39247 (zrA rfl rfl) ⟨Nat.le_of_ble_eq_true rfl, Nat.le_of_ble_eq_true rfl⟩ rfl rfl (Nat.le_of_ble_eq_true rfl) dJ7_copyOfRange_39247_13 (fun v11 W12 hv13 _ => ?_)
    obtain ⟨v2, f2, rfl, rfl, h1, h2⟩ := hv13
    refine xi_eqw (ws2 := ([(v, .inl (cT 2, N, .inl f))] : va_W) ++ (([(v2, .inl (cT 2, n, .inl f2))] : va_W) ++ ([]))) (by simp only [List.append_assoc, List.nil_append, List.append_nil, List.cons_append]) ?_
    exact hE _ _ _ _ dJ7_copyOfRange_39247_16 ⟨v2, f2, rfl, rfl, h1, h2⟩
set_option maxRecDepth 100000 in
set_option maxHeartbeats 4000000 in
theorem kJ0_init2 (l : Launch) (D : va_G) (cT : Nat → ClassId) {sb v N s : Nat} {f : Nat → Int32} {t : List Int32} (h : hT t f) (hn : t.length ≤ N) (hN : N ≤ 1002) : sE l yJ0_init_db425 (zw yJ0_init_db425 cJ0_init_db425 5 none) (zRA 4 1 1002) 1 1002 none D cT [.ref s, .ref sb, .null] (([(s, .inr (13, [.null, .int 0, .int 0, .int 0]))] : va_W) ++ (([(sb, .inr (14, [.ref v, .int 0, .int 0, .int (nI t.length)]))] : va_W) ++ (([(v, .inl (cT 2, N, .inl f))] : va_W) ++ ([])))) (fun r W => ∃ (v2 : Nat) (f2 : Nat → Int32), r = none ∧ W = ([(sb, .inr (14, [.ref v, .int 0, .int 0, .int (nI t.length)]))] : va_W) ++ (([(v, .inl (cT 2, N, .inl f))] : va_W) ++ (([(s, .inr (13, [.ref v2, .int 0, .int 0, .int 0]))] : va_W) ++ (([(v2, .inl (cT 2, t.length, .inl f2))] : va_W) ++ ([])))) ∧ hT t f2) := by
  refine sE_void rfl (Nat.le_of_ble_eq_true rfl) ?_
  intro X C hI hE
  refine xi_eqw (ws2 := ([(s, .inr (13, [.null, .int 0, .int 0, .int 0]))] : va_W) ++ (([(sb, .inr (14, [.ref v, .int 0, .int 0, .int (nI t.length)]))] : va_W) ++ (([(v, .inl (cT 2, N, .inl f))] : va_W) ++ ([])))) (by first | rfl | simp only [List.append_assoc, List.nil_append, List.append_nil, List.cons_append]) ?_
  refine xi_drop (L2 := [(0, .ref s), (1, .ref sb), (2, .null)]) [0, 1, 2] rfl ?_
  refine xi_aload_n C 0 dJ0_init_db425_0 rfl ?_
  refine xi_objinit C (zm3 (i := 154) rfl rfl) (zm1 (i := 37) rfl rfl) (zm1 (i := 38) rfl rfl) ⟨Nat.le_of_ble_eq_true rfl, Nat.le_of_ble_eq_true rfl⟩ (Nat.le_of_ble_eq_true rfl) dJ0_init_db425_1 ?_
  refine xi_aload_n C 1 dJ0_init_db425_4 rfl ?_
  refine xi_callEU C (kJ5_getValue l D cT) (([(s, .inr (13, [.null, .int 0, .int 0, .int 0]))] : va_W) ++ (([(v, .inl (cT 2, N, .inl f))] : va_W) ++ ([]))) (by have h := permX (bs := [([(s, .inr (13, [.null, .int 0, .int 0, .int 0]))] : va_W), ([(sb, .inr (14, [.ref v, .int 0, .int 0, .int (nI t.length)]))] : va_W), ([(v, .inl (cT 2, N, .inl f))] : va_W)]) (A := [([(sb, .inr (14, [.ref v, .int 0, .int 0, .int (nI t.length)]))] : va_W)]) (B := [([(s, .inr (13, [.null, .int 0, .int 0, .int 0]))] : va_W), ([(v, .inl (cT 2, N, .inl f))] : va_W)]) (n := 3) rfl [1, 0, 2] rfl (by decide) flat1; simp only [List.flatten_cons, List.flatten_nil, List.append_assoc, List.nil_append, List.append_nil, List.cons_append] at h ⊢; exact h) zuJ0_552 (zrE rfl rfl) ⟨Nat.le_of_ble_eq_true rfl, Nat.le_of_ble_eq_true rfl⟩ rfl zkJ4.1 (qr := 0) rfl rfl (Nat.le_of_ble_eq_true rfl) dJ0_init_db425_5 (fun v14 W15 hv16 _ => ?_)
  obtain ⟨rfl, rfl⟩ := hv16
  refine xi_eqw (ws2 := ([(sb, .inr (14, [.ref v, .int 0, .int 0, .int (nI t.length)]))] : va_W) ++ (([(s, .inr (13, [.null, .int 0, .int 0, .int 0]))] : va_W) ++ (([(v, .inl (cT 2, N, .inl f))] : va_W) ++ ([])))) (by simp only [List.append_assoc, List.nil_append, List.append_nil, List.cons_append]) ?_
  refine xi_astore_n C [1, 2, 3, 0] (L2 := [(0, .ref s), (1, .ref sb), (2, .null), (3, .ref v)]) dJ0_init_db425_8 (Nat.le_of_ble_eq_true rfl) rfl ?_
  refine xi_aload_n C 1 dJ0_init_db425_9 rfl ?_
  refine xi_callEU C (kJ4_length l D cT) (([(s, .inr (13, [.null, .int 0, .int 0, .int 0]))] : va_W) ++ (([(v, .inl (cT 2, N, .inl f))] : va_W) ++ ([]))) (by have h := permX (bs := [([(sb, .inr (14, [.ref v, .int 0, .int 0, .int (nI t.length)]))] : va_W), ([(s, .inr (13, [.null, .int 0, .int 0, .int 0]))] : va_W), ([(v, .inl (cT 2, N, .inl f))] : va_W)]) (A := [([(sb, .inr (14, [.ref v, .int 0, .int 0, .int (nI t.length)]))] : va_W)]) (B := [([(s, .inr (13, [.null, .int 0, .int 0, .int 0]))] : va_W), ([(v, .inl (cT 2, N, .inl f))] : va_W)]) (n := 3) rfl [0, 1, 2] rfl (by decide) flat1; simp only [List.flatten_cons, List.flatten_nil, List.append_assoc, List.nil_append, List.append_nil, List.cons_append] at h ⊢; exact h) zuJ0_549 (zrE rfl rfl) ⟨Nat.le_of_ble_eq_true rfl, Nat.le_of_ble_eq_true rfl⟩ rfl zkJ4.1 (qr := 0) rfl rfl (Nat.le_of_ble_eq_true rfl) dJ0_init_db425_10 (fun v17 W18 hv19 _ => ?_)
  obtain ⟨rfl, rfl⟩ := hv19
  refine xi_eqw (ws2 := ([(sb, .inr (14, [.ref v, .int 0, .int 0, .int (nI t.length)]))] : va_W) ++ (([(s, .inr (13, [.null, .int 0, .int 0, .int 0]))] : va_W) ++ (([(v, .inl (cT 2, N, .inl f))] : va_W) ++ ([])))) (by simp only [List.append_assoc, List.nil_append, List.append_nil, List.cons_append]) ?_
  refine xi_istore C [1, 2, 3, 4, 0] (L2 := [(0, .ref s), (1, .ref sb), (2, .null), (3, .ref v), (4, .int (nI t.length))]) dJ0_init_db425_13 (Nat.le_of_ble_eq_true rfl) rfl ?_
  refine xi_aload_n C 1 dJ0_init_db425_15 rfl ?_
  refine xi_callEU C (kJ5_isLatin1 l D cT) (([(s, .inr (13, [.null, .int 0, .int 0, .int 0]))] : va_W) ++ (([(v, .inl (cT 2, N, .inl f))] : va_W) ++ ([]))) (by have h := permX (bs := [([(sb, .inr (14, [.ref v, .int 0, .int 0, .int (nI t.length)]))] : va_W), ([(s, .inr (13, [.null, .int 0, .int 0, .int 0]))] : va_W), ([(v, .inl (cT 2, N, .inl f))] : va_W)]) (A := [([(sb, .inr (14, [.ref v, .int 0, .int 0, .int (nI t.length)]))] : va_W)]) (B := [([(s, .inr (13, [.null, .int 0, .int 0, .int 0]))] : va_W), ([(v, .inl (cT 2, N, .inl f))] : va_W)]) (n := 3) rfl [0, 1, 2] rfl (by decide) flat1; simp only [List.flatten_cons, List.flatten_nil, List.append_assoc, List.nil_append, List.append_nil, List.cons_append] at h ⊢; exact h) zuJ0_1047 (zrE rfl rfl) ⟨Nat.le_of_ble_eq_true rfl, Nat.le_of_ble_eq_true rfl⟩ rfl zkJ4.1 (qr := 0) rfl rfl (Nat.le_of_ble_eq_true rfl) dJ0_init_db425_16 (fun v20 W21 hv22 _ => ?_)
  obtain ⟨rfl, rfl⟩ := hv22
  refine xi_eqw (ws2 := ([(sb, .inr (14, [.ref v, .int 0, .int 0, .int (nI t.length)]))] : va_W) ++ (([(s, .inr (13, [.null, .int 0, .int 0, .int 0]))] : va_W) ++ (([(v, .inl (cT 2, N, .inl f))] : va_W) ++ ([])))) (by simp only [List.append_assoc, List.nil_append, List.append_nil, List.cons_append]) ?_
  refine xi_if_eq C (tgt := 41) dJ0_init_db425_19 rfl (fun c23 => False.elim ((fun z => absurd z (by decide)) c23)) (fun c23 => ?_)
  refine xi_aload_n C 0 dJ0_init_db425_22 rfl ?_
  refine xi_iconst C (v := 0) dJ0_init_db425_23 rfl ?_
  refine xi_putF C (hI rfl) zkJ0 1 _ (zm3 (i := 192) rfl rfl) (by decide) (zap2 rfl (zap1 ((rfl : (([(s, .inr (13, [.null, .int 0, .int 0, .int 0]))] : va_W) : va_W)[0]? = some _)))) rfl rfl rfl rfl (Nat.le_of_ble_eq_true rfl) dJ0_init_db425_24 (ws2 := ([(sb, .inr (14, [.ref v, .int 0, .int 0, .int (nI t.length)]))] : va_W) ++ (([(s, .inr (13, [.null, .int 0, .int 0, .int 0]))] : va_W) ++ (([(v, .inl (cT 2, N, .inl f))] : va_W) ++ ([])))) (zse2 rfl (zse1 (Nat.zero_lt_succ _) rfl)) ?_
  refine xi_aload_n C 0 dJ0_init_db425_27 rfl ?_
  refine xi_aload_n C 3 dJ0_init_db425_28 rfl ?_
  refine xi_iconst C (v := 0) dJ0_init_db425_29 rfl ?_
  refine xi_iload C 4 dJ0_init_db425_30 rfl ?_
  refine xi_callES C (kJ7_copyOfRange l D cT h.1 hn hN) (([(sb, .inr (14, [.ref v, .int 0, .int 0, .int (nI t.length)]))] : va_W) ++ (([(s, .inr (13, [.null, .int 0, .int 0, .int 0]))] : va_W) ++ ([]))) (by have h := permX (bs := [([(sb, .inr (14, [.ref v, .int 0, .int 0, .int (nI t.length)]))] : va_W), ([(s, .inr (13, [.null, .int 0, .int 0, .int 0]))] : va_W), ([(v, .inl (cT 2, N, .inl f))] : va_W)]) (A := [([(v, .inl (cT 2, N, .inl f))] : va_W)]) (B := [([(sb, .inr (14, [.ref v, .int 0, .int 0, .int (nI t.length)]))] : va_W), ([(s, .inr (13, [.null, .int 0, .int 0, .int 0]))] : va_W)]) (n := 3) rfl [2, 0, 1] rfl (by decide) flat1; simp only [List.flatten_cons, List.flatten_nil, List.append_assoc, List.nil_append, List.append_nil, List.cons_append] at h ⊢; exact h) zcJ7_copyOfRange_39247 zmJ0_54 zsJ7_copyOfRange_39247 (zrA rfl rfl) ⟨Nat.le_of_ble_eq_true rfl, Nat.le_of_ble_eq_true rfl⟩ rfl rfl (Nat.le_of_ble_eq_true rfl) dJ0_init_db425_32 (fun v24 W25 hv26 _ => ?_)
  obtain ⟨v2, f2, rfl, rfl, h1, h2⟩ := hv26
  refine xi_eqw (ws2 := ([(v, .inl (cT 2, N, .inl f))] : va_W) ++ (([(v2, .inl (cT 2, t.length, .inl f2))] : va_W) ++ (([(sb, .inr (14, [.ref v, .int 0, .int 0, .int (nI t.length)]))] : va_W) ++ (([(s, .inr (13, [.null, .int 0, .int 0, .int 0]))] : va_W) ++ ([]))))) (by simp only [List.append_assoc, List.nil_append, List.append_nil, List.cons_append]) ?_
  refine xi_putF C (hI rfl) zkJ0 0 _ (zm3 (i := 191) rfl rfl) (by decide) (zap2 rfl (zap2 rfl (zap2 rfl (zap1 ((rfl : (([(s, .inr (13, [.null, .int 0, .int 0, .int 0]))] : va_W) : va_W)[0]? = some _)))))) rfl rfl rfl rfl (Nat.le_of_ble_eq_true rfl) dJ0_init_db425_35 (ws2 := ([(v, .inl (cT 2, N, .inl f))] : va_W) ++ (([(v2, .inl (cT 2, t.length, .inl f2))] : va_W) ++ (([(sb, .inr (14, [.ref v, .int 0, .int 0, .int (nI t.length)]))] : va_W) ++ (([(s, .inr (13, [.ref v2, .int 0, .int 0, .int 0]))] : va_W) ++ ([]))))) (zse2 rfl (zse2 rfl (zse2 rfl (zse1 (Nat.zero_lt_succ _) rfl)))) ?_
  refine xi_goto C (tgt := 97) dJ0_init_db425_38 rfl ?_
  refine xi_permL (ws2 := ([(sb, .inr (14, [.ref v, .int 0, .int 0, .int (nI t.length)]))] : va_W) ++ (([(v, .inl (cT 2, N, .inl f))] : va_W) ++ (([(s, .inr (13, [.ref v2, .int 0, .int 0, .int 0]))] : va_W) ++ (([(v2, .inl (cT 2, t.length, .inl f2))] : va_W) ++ ([]))))) (by have h := permR (bs := [([(v, .inl (cT 2, N, .inl f))] : va_W), ([(v2, .inl (cT 2, t.length, .inl f2))] : va_W), ([(sb, .inr (14, [.ref v, .int 0, .int 0, .int (nI t.length)]))] : va_W), ([(s, .inr (13, [.ref v2, .int 0, .int 0, .int 0]))] : va_W)]) (bs2 := [([(sb, .inr (14, [.ref v, .int 0, .int 0, .int (nI t.length)]))] : va_W), ([(v, .inl (cT 2, N, .inl f))] : va_W), ([(s, .inr (13, [.ref v2, .int 0, .int 0, .int 0]))] : va_W), ([(v2, .inl (cT 2, t.length, .inl f2))] : va_W)]) (n := 4) rfl [2, 0, 3, 1] rfl (by decide); simp only [List.flatten_cons, List.flatten_nil] at h; exact h) ?_
  exact hE _ _ _ dJ0_init_db425_97 ⟨v2, f2, rfl, rfl, h1, fun j hj => (h2 j hj).trans (h.2 j hj)⟩
set_option maxRecDepth 100000 in
set_option maxHeartbeats 4000000 in
theorem kJ0_init1 (l : Launch) (D : va_G) (cT : Nat → ClassId) {sb v N s : Nat} {f : Nat → Int32} {t : List Int32} (h : hT t f) (hn : t.length ≤ N) (hN : N ≤ 1002) : sE l yJ0_init_81219 (zw yJ0_init_81219 cJ0_init_81219 2 none) (zRA 5 1 1002) 1 1002 none D cT [.ref s, .ref sb] (([(s, .inr (13, [.null, .int 0, .int 0, .int 0]))] : va_W) ++ (([(sb, .inr (14, [.ref v, .int 0, .int 0, .int (nI t.length)]))] : va_W) ++ (([(v, .inl (cT 2, N, .inl f))] : va_W) ++ ([])))) (fun r W => ∃ (v2 : Nat) (f2 : Nat → Int32), r = none ∧ W = ([(sb, .inr (14, [.ref v, .int 0, .int 0, .int (nI t.length)]))] : va_W) ++ (([(v, .inl (cT 2, N, .inl f))] : va_W) ++ (([(s, .inr (13, [.ref v2, .int 0, .int 0, .int 0]))] : va_W) ++ (([(v2, .inl (cT 2, t.length, .inl f2))] : va_W) ++ ([])))) ∧ hT t f2) := by
  refine sE_void rfl (Nat.le_of_ble_eq_true rfl) ?_
  intro X C hI hE
  refine xi_eqw (ws2 := ([(s, .inr (13, [.null, .int 0, .int 0, .int 0]))] : va_W) ++ (([(sb, .inr (14, [.ref v, .int 0, .int 0, .int (nI t.length)]))] : va_W) ++ (([(v, .inl (cT 2, N, .inl f))] : va_W) ++ ([])))) (by first | rfl | simp only [List.append_assoc, List.nil_append, List.append_nil, List.cons_append]) ?_
  refine xi_drop (L2 := [(0, .ref s), (1, .ref sb)]) [0, 1] rfl ?_
  refine xi_aload_n C 0 dJ0_init_81219_0 rfl ?_
  refine xi_aload_n C 1 dJ0_init_81219_1 rfl ?_
  refine xi_null C dJ0_init_81219_2 ?_
  refine xi_callEI C (kJ0_init2 l D cT h hn hN) ([]) (by have h := permX (bs := [([(s, .inr (13, [.null, .int 0, .int 0, .int 0]))] : va_W), ([(sb, .inr (14, [.ref v, .int 0, .int 0, .int (nI t.length)]))] : va_W), ([(v, .inl (cT 2, N, .inl f))] : va_W)]) (A := [([(s, .inr (13, [.null, .int 0, .int 0, .int 0]))] : va_W), ([(sb, .inr (14, [.ref v, .int 0, .int 0, .int (nI t.length)]))] : va_W), ([(v, .inl (cT 2, N, .inl f))] : va_W)]) (B := []) (n := 3) rfl [0, 1, 2] rfl (by decide) flat3; simp only [List.flatten_cons, List.flatten_nil, List.append_assoc, List.nil_append, List.append_nil, List.cons_append] at h ⊢; exact h) zcJ0_init_db425 zmJ0_489 ziiJ0_init_db425 rfl (zrA rfl rfl) ⟨Nat.le_of_ble_eq_true rfl, Nat.le_of_ble_eq_true rfl⟩ rfl rfl (Nat.le_of_ble_eq_true rfl) dJ0_init_81219_3 (fun v27 W28 hv29 => ?_)
  obtain ⟨v2, f2, rfl, rfl, h1⟩ := hv29
  refine xi_eqw (ws2 := ([(sb, .inr (14, [.ref v, .int 0, .int 0, .int (nI t.length)]))] : va_W) ++ (([(v, .inl (cT 2, N, .inl f))] : va_W) ++ (([(s, .inr (13, [.ref v2, .int 0, .int 0, .int 0]))] : va_W) ++ (([(v2, .inl (cT 2, t.length, .inl f2))] : va_W) ++ ([]))))) (by simp only [List.append_assoc, List.nil_append, List.append_nil, List.cons_append]) ?_
  exact hE _ _ _ dJ0_init_81219_6 ⟨v2, f2, rfl, rfl, h1⟩
set_option maxRecDepth 100000 in
set_option maxHeartbeats 4000000 in
theorem kJ4_toString (l : Launch) (D : va_G) (cT : Nat → ClassId) {sb v N : Nat} {f : Nat → Int32} {t : List Int32} (h : hT t f) (hn : t.length ≤ N) (hN : N ≤ 1002) : sE l yJ4_toString_0e30d (zw yJ4_toString_0e30d cJ4_toString_0e30d 1 (some (.object "java/lang/String"))) (zRA 6 2 1006) 2 1006 (some (.object "java/lang/String")) D cT [.ref sb] (([(sb, .inr (14, [.ref v, .int 0, .int 0, .int (nI t.length)]))] : va_W) ++ (([(v, .inl (cT 2, N, .inl f))] : va_W) ++ ([]))) (fun r W => ∃ (s v2 : Nat) (f2 : Nat → Int32), r = some (.ref s) ∧ W = ([(sb, .inr (14, [.ref v, .int 0, .int 0, .int (nI t.length)]))] : va_W) ++ (([(v, .inl (cT 2, N, .inl f))] : va_W) ++ (([(s, .inr (13, [.ref v2, .int 0, .int 0, .int 0]))] : va_W) ++ (([(v2, .inl (cT 2, t.length, .inl f2))] : va_W) ++ ([])))) ∧ hT t f2) := by
  refine sE_ref rfl (Nat.le_of_ble_eq_true rfl) ?_
  intro X C hE
  refine xi_eqw (ws2 := ([(sb, .inr (14, [.ref v, .int 0, .int 0, .int (nI t.length)]))] : va_W) ++ (([(v, .inl (cT 2, N, .inl f))] : va_W) ++ ([]))) (by first | rfl | simp only [List.append_assoc, List.nil_append, List.append_nil, List.cons_append]) ?_
  refine xi_drop (L2 := [(0, .ref sb)]) [0] rfl ?_
  refine xi_new C [.null, .int 0, .int 0, .int 0] zkJ0 zclJ4_18 zibJ0 zitJ0 (fun j hj => by rcases (show j = 0 ∨ j = 1 ∨ j = 2 ∨ j = 3 by omega) with rfl | rfl | rfl | rfl <;> rfl) (Nat.le_of_ble_eq_true rfl) (Nat.le_of_ble_eq_true rfl) dJ4_toString_0e30d_0 (fun s => ?_)
  refine xi_eqw (ws2 := ([(sb, .inr (14, [.ref v, .int 0, .int 0, .int (nI t.length)]))] : va_W) ++ (([(v, .inl (cT 2, N, .inl f))] : va_W) ++ (([(s, .inr (13, [.null, .int 0, .int 0, .int 0]))] : va_W) ++ ([])))) (by simp only [List.append_assoc, List.nil_append, List.append_nil]) ?_
  refine xi_dup C dJ4_toString_0e30d_3 rfl ?_
  refine xi_aload_n C 0 dJ4_toString_0e30d_4 rfl ?_
  refine xi_callEI C (kJ0_init1 l D cT h hn hN) ([]) (by have h := permX (bs := [([(sb, .inr (14, [.ref v, .int 0, .int 0, .int (nI t.length)]))] : va_W), ([(v, .inl (cT 2, N, .inl f))] : va_W), ([(s, .inr (13, [.null, .int 0, .int 0, .int 0]))] : va_W)]) (A := [([(s, .inr (13, [.null, .int 0, .int 0, .int 0]))] : va_W), ([(sb, .inr (14, [.ref v, .int 0, .int 0, .int (nI t.length)]))] : va_W), ([(v, .inl (cT 2, N, .inl f))] : va_W)]) (B := []) (n := 3) rfl [2, 0, 1] rfl (by decide) flat3; simp only [List.flatten_cons, List.flatten_nil, List.append_assoc, List.nil_append, List.append_nil, List.cons_append] at h ⊢; exact h) zcJ0_init_81219 zmJ4_137 ziiJ0_init_81219 rfl (zrA rfl rfl) ⟨Nat.le_of_ble_eq_true rfl, Nat.le_of_ble_eq_true rfl⟩ rfl rfl (Nat.le_of_ble_eq_true rfl) dJ4_toString_0e30d_5 (fun v30 W31 hv32 => ?_)
  obtain ⟨v2, f2, rfl, rfl, h1⟩ := hv32
  refine xi_eqw (ws2 := ([(sb, .inr (14, [.ref v, .int 0, .int 0, .int (nI t.length)]))] : va_W) ++ (([(v, .inl (cT 2, N, .inl f))] : va_W) ++ (([(s, .inr (13, [.ref v2, .int 0, .int 0, .int 0]))] : va_W) ++ (([(v2, .inl (cT 2, t.length, .inl f2))] : va_W) ++ ([]))))) (by simp only [List.append_assoc, List.nil_append, List.append_nil, List.cons_append]) ?_
  refine xi_wide (k2 := 2) (n2 := 1006) (by decide) (by decide) ?_
  exact hE _ _ _ _ dJ4_toString_0e30d_8 ⟨s, v2, f2, rfl, rfl, h1⟩
set_option maxRecDepth 100000 in
set_option maxHeartbeats 4000000 in
theorem kJ0_coderW (l : Launch) (D : va_G) (cT : Nat → ClassId) {s v : Nat} : sM l yJ0_coder_7d493 cJ0_coder_7d493 1 (some .byte) (zR 1) D cT [.ref s] (([(s, .inr (13, [.ref v, .int 0, .int 0, .int 0]))] : va_W)) (some (.int 0)) (([(s, .inr (13, [.ref v, .int 0, .int 0, .int 0]))] : va_W)) := by
  refine sM_of rfl (Nat.le_of_ble_eq_true rfl) ?_
  intro X C hE
  refine xi_eqw (ws2 := ([(s, .inr (13, [.ref v, .int 0, .int 0, .int 0]))] : va_W) ++ ([])) (by first | rfl | simp only [List.append_assoc, List.nil_append, List.append_nil, List.cons_append]) ?_
  refine xi_drop (L2 := [(0, .ref s)]) [0] rfl ?_
  refine xi_compact C dJ0_coder_7d493_0 ?_
  refine xi_if_eq C (tgt := 13) dJ0_coder_7d493_3 rfl (fun c33 => False.elim ((fun z => absurd z (by decide)) c33)) (fun c33 => ?_)
  refine xi_aload_n C 0 dJ0_coder_7d493_6 rfl ?_
  refine xi_get C zkJ0 1 _ zlJ0_15 (by decide) (zap1 ((rfl : (([(s, .inr (13, [.ref v, .int 0, .int 0, .int 0]))] : va_W) : va_W)[0]? = some _))) rfl dJ0_coder_7d493_7 ?_
  refine xi_goto C (tgt := 14) dJ0_coder_7d493_10 rfl ?_
  exact hE _ _ _ dJ0_coder_7d493_14 rfl rfl
set_option maxRecDepth 100000 in
set_option maxHeartbeats 4000000 in
theorem kJ0_isLatin1W (l : Launch) (D : va_G) (cT : Nat → ClassId) {s v : Nat} : sM l yJ0_isLatin1_aae02 cJ0_isLatin1_aae02 1 (some .boolean) (zR 1) D cT [.ref s] (([(s, .inr (13, [.ref v, .int 0, .int 0, .int 0]))] : va_W)) (some (.int 1)) (([(s, .inr (13, [.ref v, .int 0, .int 0, .int 0]))] : va_W)) := by
  refine sM_bool rfl (Nat.le_of_ble_eq_true rfl) ?_
  intro X C hE
  refine xi_eqw (ws2 := ([(s, .inr (13, [.ref v, .int 0, .int 0, .int 0]))] : va_W) ++ ([])) (by first | rfl | simp only [List.append_assoc, List.nil_append, List.append_nil, List.cons_append]) ?_
  refine xi_drop (L2 := [(0, .ref s)]) [0] rfl ?_
  refine xi_compact C dJ0_isLatin1_aae02_0 ?_
  refine xi_if_eq C (tgt := 17) dJ0_isLatin1_aae02_3 rfl (fun c34 => False.elim ((fun z => absurd z (by decide)) c34)) (fun c34 => ?_)
  refine xi_aload_n C 0 dJ0_isLatin1_aae02_6 rfl ?_
  refine xi_get C zkJ0 1 _ zlJ0_15 (by decide) (zap1 ((rfl : (([(s, .inr (13, [.ref v, .int 0, .int 0, .int 0]))] : va_W) : va_W)[0]? = some _))) rfl dJ0_isLatin1_aae02_7 ?_
  refine xi_if_ne C (tgt := 17) dJ0_isLatin1_aae02_10 rfl (fun c35 => False.elim ((fun z => absurd rfl z) c35)) (fun c35 => ?_)
  refine xi_iconst C (v := 1) dJ0_isLatin1_aae02_13 rfl ?_
  refine xi_goto C (tgt := 18) dJ0_isLatin1_aae02_14 rfl ?_
  exact hE _ _ _ dJ0_isLatin1_aae02_18 rfl rfl
set_option maxRecDepth 100000 in
set_option maxHeartbeats 4000000 in
theorem kJ0_lengthW (l : Launch) (D : va_G) (cT : Nat → ClassId) {s v n : Nat} {f : Nat → Int32} : sM l yJ0_length_8abf5 cJ0_length_8abf5 1 (some .int) (zR 2) D cT [.ref s] (([(s, .inr (13, [.ref v, .int 0, .int 0, .int 0]))] : va_W) ++ (([(v, .inl (cT 2, n, .inl f))] : va_W) ++ ([]))) (some (.int (nI n))) (([(s, .inr (13, [.ref v, .int 0, .int 0, .int 0]))] : va_W) ++ (([(v, .inl (cT 2, n, .inl f))] : va_W) ++ ([]))) := by
  refine sM_int rfl (Nat.le_of_ble_eq_true rfl) ?_
  intro X C hE
  refine xi_eqw (ws2 := ([(s, .inr (13, [.ref v, .int 0, .int 0, .int 0]))] : va_W) ++ (([(v, .inl (cT 2, n, .inl f))] : va_W) ++ ([]))) (by first | rfl | simp only [List.append_assoc, List.nil_append, List.append_nil, List.cons_append]) ?_
  refine xi_drop (L2 := [(0, .ref s)]) [0] rfl ?_
  refine xi_aload_n C 0 dJ0_length_8abf5_0 rfl ?_
  refine xi_get C zkJ0 0 _ zlJ0_9 (by decide) (zap1 ((rfl : (([(s, .inr (13, [.ref v, .int 0, .int 0, .int 0]))] : va_W) : va_W)[0]? = some _))) rfl dJ0_length_8abf5_1 ?_
  refine xi_alen C (v := nI n) _ 2 (zap2 rfl (zap1 ((rfl : (([(v, .inl (cT 2, n, .inl f))] : va_W) : va_W)[0]? = some _)))) rfl rfl dJ0_length_8abf5_4 ?_
  refine xi_aload_n C 0 dJ0_length_8abf5_5 rfl ?_
  refine xi_callEV C (sE_of_sM (kJ0_coderW l D cT)) (([(v, .inl (cT 2, n, .inl f))] : va_W) ++ ([])) (by have h := permX (bs := [([(s, .inr (13, [.ref v, .int 0, .int 0, .int 0]))] : va_W), ([(v, .inl (cT 2, n, .inl f))] : va_W)]) (A := [([(s, .inr (13, [.ref v, .int 0, .int 0, .int 0]))] : va_W)]) (B := [([(v, .inl (cT 2, n, .inl f))] : va_W)]) (n := 2) rfl [0, 1] rfl (by decide) flat1; simp only [List.flatten_cons, List.flatten_nil, List.append_assoc, List.nil_append, List.append_nil, List.cons_append] at h ⊢; exact h) zcJ0_coder_7d493 zmJ0_335 ziJ0_coder_7d493 (zrE rfl rfl) ⟨Nat.le_of_ble_eq_true rfl, Nat.le_of_ble_eq_true rfl⟩ rfl zkJ0.1 (qr := 0) rfl rfl (Nat.le_of_ble_eq_true rfl) dJ0_length_8abf5_6 (fun v36 W37 hv38 _ => ?_)
  obtain ⟨rfl, rfl⟩ := hv38
  refine xi_eqw (ws2 := ([(s, .inr (13, [.ref v, .int 0, .int 0, .int 0]))] : va_W) ++ (([(v, .inl (cT 2, n, .inl f))] : va_W) ++ ([]))) (by simp only [List.append_assoc, List.nil_append, List.append_nil, List.cons_append]) ?_
  refine xi_ishr C dJ0_length_8abf5_9 ?_
  refine xi_rwi (y := nI n) (sb_shr0 _) ?_
  exact hE _ _ _ dJ0_length_8abf5_10 rfl
set_option maxRecDepth 100000 in
set_option maxHeartbeats 4000000 in
theorem kJ1_charAtW (l : Launch) (D : va_G) (cT : Nat → ClassId) {v n j b : Nat} {f : Nat → Int32} (hn : n ≤ 1002) (hj : j < n) (hb : f j = nI b) (hb7 : b < 128) : sM l yJ1_charAt_3b067 cJ1_charAt_3b067 2 (some .char) (zR 3) D cT [.ref v, .int (nI j)] (([(v, .inl (cT 2, n, .inl f))] : va_W) ++ ([])) (some (.int (nI b))) (([(v, .inl (cT 2, n, .inl f))] : va_W) ++ ([])) := by
  refine sM_of rfl (Nat.le_of_ble_eq_true rfl) ?_
  intro X C hE
  refine xi_eqw (ws2 := ([(v, .inl (cT 2, n, .inl f))] : va_W) ++ ([])) (by first | rfl | simp only [List.append_assoc, List.nil_append, List.append_nil, List.cons_append]) ?_
  refine xi_drop (L2 := [(0, .ref v), (1, .int (nI j))]) [0, 1] rfl ?_
  refine xi_iload_n C 1 dJ1_charAt_3b067_0 rfl ?_
  refine xi_aload_n C 0 dJ1_charAt_3b067_1 rfl ?_
  refine xi_alen C (v := nI n) _ 2 (zap1 ((rfl : (([(v, .inl (cT 2, n, .inl f))] : va_W) : va_W)[0]? = some _))) rfl rfl dJ1_charAt_3b067_2 ?_
  refine xi_callES C (sE_of_sM (kJ0_checkIndex l D cT (nI j) (nI n) (nI_pos (by omega)) (nI_lt hj (by omega)))) (([(v, .inl (cT 2, n, .inl f))] : va_W) ++ ([])) (by have h := permX (bs := [([(v, .inl (cT 2, n, .inl f))] : va_W)]) (A := []) (B := [([(v, .inl (cT 2, n, .inl f))] : va_W)]) (n := 1) rfl [0] rfl (by decide) rfl; simp only [List.flatten_cons, List.flatten_nil, List.append_assoc, List.nil_append, List.append_nil, List.cons_append] at h ⊢; exact h) zcJ0_checkIndex_df160 zmJ1_9 zsJ0_checkIndex_df160 (zrE rfl rfl) ⟨Nat.le_of_ble_eq_true rfl, Nat.le_of_ble_eq_true rfl⟩ rfl rfl (Nat.le_of_ble_eq_true rfl) dJ1_charAt_3b067_3 (fun v39 W40 hv41 _ => ?_)
  obtain ⟨rfl, rfl⟩ := hv41
  refine xi_eqw (ws2 := ([(v, .inl (cT 2, n, .inl f))] : va_W) ++ ([])) (by simp only [List.append_assoc, List.nil_append, List.append_nil, List.cons_append]) ?_
  refine xi_aload_n C 0 dJ1_charAt_3b067_6 rfl ?_
  refine xi_iload_n C 1 dJ1_charAt_3b067_7 rfl ?_
  refine xw_bald C _ (zap1 ((rfl : (([(v, .inl (cT 2, n, .inl f))] : va_W) : va_W)[0]? = some _))) (by omega) (by omega) dJ1_charAt_3b067_8 ?_
  refine xi_rwi (y := nI b) hb ?_
  refine xi_sipush C (v := 255) dJ1_charAt_3b067_9 rfl ?_
  refine xi_iand C dJ1_charAt_3b067_12 ?_
  refine xi_i2c C dJ1_charAt_3b067_13 (v := nI b) (chr7 b hb7).1 ?_
  exact hE _ _ _ dJ1_charAt_3b067_14 rfl (chr7 b hb7).2
set_option maxRecDepth 100000 in
set_option maxHeartbeats 4000000 in
theorem kJ0_charAtW (l : Launch) (D : va_G) (cT : Nat → ClassId) {s v n j b : Nat} {f : Nat → Int32} (hn : n ≤ 1002) (hj : j < n) (hb : f j = nI b) (hb7 : b < 128) : sM l yJ0_charAt_5068e cJ0_charAt_5068e 2 (some .char) (zR 4) D cT [.ref s, .int (nI j)] (([(s, .inr (13, [.ref v, .int 0, .int 0, .int 0]))] : va_W) ++ (([(v, .inl (cT 2, n, .inl f))] : va_W) ++ ([]))) (some (.int (nI b))) (([(s, .inr (13, [.ref v, .int 0, .int 0, .int 0]))] : va_W) ++ (([(v, .inl (cT 2, n, .inl f))] : va_W) ++ ([]))) := by
  refine sM_of rfl (Nat.le_of_ble_eq_true rfl) ?_
  intro X C hE
  refine xi_eqw (ws2 := ([(s, .inr (13, [.ref v, .int 0, .int 0, .int 0]))] : va_W) ++ (([(v, .inl (cT 2, n, .inl f))] : va_W) ++ ([]))) (by first | rfl | simp only [List.append_assoc, List.nil_append, List.append_nil, List.cons_append]) ?_
  refine xi_drop (L2 := [(0, .ref s), (1, .int (nI j))]) [0, 1] rfl ?_
  refine xi_aload_n C 0 dJ0_charAt_5068e_0 rfl ?_
  refine xi_callEV C (sE_of_sM (kJ0_isLatin1W l D cT)) (([(v, .inl (cT 2, n, .inl f))] : va_W) ++ ([])) (by have h := permX (bs := [([(s, .inr (13, [.ref v, .int 0, .int 0, .int 0]))] : va_W), ([(v, .inl (cT 2, n, .inl f))] : va_W)]) (A := [([(s, .inr (13, [.ref v, .int 0, .int 0, .int 0]))] : va_W)]) (B := [([(v, .inl (cT 2, n, .inl f))] : va_W)]) (n := 2) rfl [0, 1] rfl (by decide) flat1; simp only [List.flatten_cons, List.flatten_nil, List.append_assoc, List.nil_append, List.append_nil, List.cons_append] at h ⊢; exact h) zcJ0_isLatin1_aae02 zmJ0_492 ziJ0_isLatin1_aae02 (zrE rfl rfl) ⟨Nat.le_of_ble_eq_true rfl, Nat.le_of_ble_eq_true rfl⟩ rfl zkJ0.1 (qr := 0) rfl rfl (Nat.le_of_ble_eq_true rfl) dJ0_charAt_5068e_1 (fun v42 W43 hv44 _ => ?_)
  obtain ⟨rfl, rfl⟩ := hv44
  refine xi_eqw (ws2 := ([(s, .inr (13, [.ref v, .int 0, .int 0, .int 0]))] : va_W) ++ (([(v, .inl (cT 2, n, .inl f))] : va_W) ++ ([]))) (by simp only [List.append_assoc, List.nil_append, List.append_nil, List.cons_append]) ?_
  refine xi_if_eq C (tgt := 16) dJ0_charAt_5068e_4 rfl (fun c45 => False.elim ((fun z => absurd z (by decide)) c45)) (fun c45 => ?_)
  refine xi_aload_n C 0 dJ0_charAt_5068e_7 rfl ?_
  refine xi_get C zkJ0 0 _ zlJ0_9 (by decide) (zap1 ((rfl : (([(s, .inr (13, [.ref v, .int 0, .int 0, .int 0]))] : va_W) : va_W)[0]? = some _))) rfl dJ0_charAt_5068e_8 ?_
  refine xi_iload_n C 1 dJ0_charAt_5068e_11 rfl ?_
  refine xi_callES C (sE_of_sM (kJ1_charAtW l D cT hn hj hb hb7)) (([(s, .inr (13, [.ref v, .int 0, .int 0, .int 0]))] : va_W) ++ ([])) (by have h := permX (bs := [([(s, .inr (13, [.ref v, .int 0, .int 0, .int 0]))] : va_W), ([(v, .inl (cT 2, n, .inl f))] : va_W)]) (A := [([(v, .inl (cT 2, n, .inl f))] : va_W)]) (B := [([(s, .inr (13, [.ref v, .int 0, .int 0, .int 0]))] : va_W)]) (n := 2) rfl [1, 0] rfl (by decide) flat1; simp only [List.flatten_cons, List.flatten_nil, List.append_assoc, List.nil_append, List.append_nil, List.cons_append] at h ⊢; exact h) zcJ1_charAt_3b067 zmJ0_495 zsJ1_charAt_3b067 (zrE rfl rfl) ⟨Nat.le_of_ble_eq_true rfl, Nat.le_of_ble_eq_true rfl⟩ rfl rfl (Nat.le_of_ble_eq_true rfl) dJ0_charAt_5068e_12 (fun v46 W47 hv48 _ => ?_)
  obtain ⟨rfl, rfl⟩ := hv48
  refine xi_eqw (ws2 := ([(v, .inl (cT 2, n, .inl f))] : va_W) ++ (([(s, .inr (13, [.ref v, .int 0, .int 0, .int 0]))] : va_W) ++ ([]))) (by simp only [List.append_assoc, List.nil_append, List.append_nil, List.cons_append]) ?_
  refine xi_permL (ws2 := ([(s, .inr (13, [.ref v, .int 0, .int 0, .int 0]))] : va_W) ++ (([(v, .inl (cT 2, n, .inl f))] : va_W) ++ ([]))) (by have h := permR (bs := [([(v, .inl (cT 2, n, .inl f))] : va_W), ([(s, .inr (13, [.ref v, .int 0, .int 0, .int 0]))] : va_W)]) (bs2 := [([(s, .inr (13, [.ref v, .int 0, .int 0, .int 0]))] : va_W), ([(v, .inl (cT 2, n, .inl f))] : va_W)]) (n := 2) rfl [1, 0] rfl (by decide); simp only [List.flatten_cons, List.flatten_nil] at h; exact h) ?_
  exact hE _ _ _ dJ0_charAt_5068e_15 rfl (chr7 b hb7).2
