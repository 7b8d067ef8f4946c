theorem zfS_value : Cond.fieldLink RJ0 9 "java/lang/String" "value" "[B" ∈ zG := zm3 (i := 191) rfl rfl
theorem zfS_coder : Cond.fieldLink RJ0 15 "java/lang/String" "coder" "B" ∈ zG := zm3 (i := 192) rfl rfl
theorem zfS_compact : Cond.fieldLink RJ0 38 "java/lang/String" "COMPACT_STRINGS" "Z" ∈ zG := zm3 (i := 23) rfl rfl
theorem zfS_fmt : Cond.fieldLink RJ0 1053 "jdk/internal/util/Preconditions" "SIOOBE_FORMATTER" "Ljava/util/function/BiFunction;" ∈ zG := zm3 (i := 1) rfl rfl
theorem zsI (x : Int32) : x >>> ((0 : Int32) &&& 31) = x := sb_shr0 x
/-- the sign at place k of word i -/
def zCh (i k : Nat) : Int32 := (zByt.getD i []).getD k 0 &&& 255
section STR
variable {X : sX} {l : Launch} {R : Room} {D : va_G} {cT : Nat → ClassId} {nL k n pc : Nat} {cc : ByteArray} {own : String} {L : List (Nat × Value)} {st : List Value} {ws : va_W}
theorem xi_sval (C : sC X R D cT nL cc RJ0) {i : Nat} (hi : i < 12) (hdg : decode cc pc = .ok (.getfield 9, 3)) (kk : sW X l R D nL k n (pc + 3) L (.ref (D.2 101 i) :: st) ws) : sW X l R D nL k n pc L (.ref (D.2 100 i) :: st) ws := by
  obtain ⟨p, e, s, m, args, below, meth, c, Q, A⟩ := X
  intro H locs ls hP hD hS hl
  exact vk_getf C.1.1 C.1.2.1 (C.2.2.2.2.1.1.1 i hi).2.2.1 hS C.1.2.2.2.1 (C.1.2.2.2.2 _ zfS_value) (fun _ h => h) hdg (kk H locs ls hP hD hS hl)
theorem xi_scoder (C : sC X R D cT nL cc RJ0) {i : Nat} (hi : i < 12) (hdg : decode cc pc = .ok (.getfield 15, 3)) (kk : sW X l R D nL k n (pc + 3) L (.int 0 :: st) ws) : sW X l R D nL k n pc L (.ref (D.2 100 i) :: st) ws := by
  obtain ⟨p, e, s, m, args, below, meth, c, Q, A⟩ := X
  intro H locs ls hP hD hS hl
  exact vk_getf C.1.1 C.1.2.1 (C.2.2.2.2.1.1.1 i hi).2.1 hS C.1.2.2.2.1 (C.1.2.2.2.2 _ zfS_coder) (fun _ h => h) hdg (kk H locs ls hP hD hS hl)
theorem xi_slen (C : sC X R D cT nL cc own) {i : Nat} (hi : i < 12) (hdg : decode cc pc = .ok (.arraylength, 1)) (kk : sW X l R D nL k n (pc + 1) L (.int (nI (zLen.getD i 0)) :: st) ws) : sW X l R D nL k n pc L (.ref (D.2 101 i) :: st) ws := by
  obtain ⟨p, e, s, m, args, below, meth, c, Q, A⟩ := X
  intro H locs ls hP hD hS hl
  exact va_tlen C.1.1 C.1.2.1 (C.2.2.2.2.1.1.1 i hi).2.2.2 hS rfl hdg (kk H locs ls hP hD hS hl)
theorem xi_sbyte (C : sC X R D cT nL cc own) {i : Nat} (hi : i < 12) {j : Int32} (hj : vp_in j (zLen.getD i 0)) (hdg : decode cc pc = .ok (.baload, 1)) (kk : sW X l R D nL k n (pc + 1) L (.int ((zByt.getD i []).getD j.toNatClampNeg 0) :: st) ws) : sW X l R D nL k n pc L (.int j :: .ref (D.2 101 i) :: st) ws := by
  obtain ⟨p, e, s, m, args, below, meth, c, Q, A⟩ := X
  intro H locs ls hP hD hS hl
  exact va_tb C.1.1 C.1.2.1 (C.2.2.2.2.1.1.1 i hi).2.2.2 hS hj rfl hdg (kk H locs ls hP hD hS hl)
theorem xi_compact (C : sC X R D cT nL cc RJ0) (hdg : decode cc pc = .ok (.getstatic 38, 3)) (kk : sW X l R D nL k n (pc + 3) L (.int 1 :: st) ws) : sW X l R D nL k n pc L st ws := by
  obtain ⟨p, e, s, m, args, below, meth, c, Q, A⟩ := X
  intro H locs ls hP hD hS hl
  exact va_gets C.1.1 C.1.2.1 C.2.2.2.2.1.2.2.2.1 hS C.1.2.2.2.1 (C.1.2.2.2.2 _ zfS_compact) (fun _ h => h) hdg (kk H locs ls hP hD hS hl)
theorem xi_fmt (C : sC X R D cT nL cc RJ0) (hdg : decode cc pc = .ok (.getstatic 1053, 3)) (kk : ∀ q : Option Nat, sW X l R D nL k n (pc + 3) L (va_rf q :: st) ws) : sW X l R D nL k n pc L st ws := by
  obtain ⟨p, e, s, m, args, below, meth, c, Q, A⟩ := X
  intro H locs ls hP hD hS hl
  rcases C.2.2.2.2.1.2.2.2.2.1 with h | ⟨t, h⟩
  · exact va_gets C.1.1 C.1.2.1 h hS C.1.2.2.2.1 (C.1.2.2.2.2 _ zfS_fmt) (fun _ h => h) hdg (kk none H locs ls hP hD hS hl)
  · exact va_gets C.1.1 C.1.2.1 h hS C.1.2.2.2.1 (C.1.2.2.2.2 _ zfS_fmt) (fun _ h => h) hdg (kk (some t) H locs ls hP hD hS hl)
theorem xi_i2c (C : sC X R D cT nL cc own) {x v : Int32} (hdg : decode cc pc = .ok (.i2c, 1)) (hv : (x.toUInt32 % 65536).toInt32 = v) (kk : sW X l R D nL k n (pc + 1) L (.int v :: st) ws) : sW X l R D nL k n pc L (.int x :: st) ws := by
  obtain ⟨p, e, s, m, args, below, meth, c, Q, A⟩ := X
  intro H locs ls hP hD hS hl
  exact lv_i2c C.1.1 C.1.2.1 hdg hv (kk H locs ls hP hD hS hl)
theorem xi_pop (C : sC X R D cT nL cc own) {va : Value} (hdg : decode cc pc = .ok (.pop, 1)) (hva : va.category = 1) (kk : sW X l R D nL k n (pc + 1) L st ws) : sW X l R D nL k n pc L (va :: st) ws := by
  obtain ⟨p, e, s, m, args, below, meth, c, Q, A⟩ := X
  intro H locs ls hP hD hS hl
  exact lv_pop C.1.1 C.1.2.1 hdg hva (kk H locs ls hP hD hS hl)
theorem zrS (C : sC X R D cT nL cc own) {i : Nat} (hi : i < 12) : zRv X D RJ0 (D.2 100 i) ws := by
  obtain ⟨p, e, s, m, args, below, meth, c, Q, A⟩ := X
  intro H locs hP hS
  exact vk_recv C.2.2.2.2.1.1 hi hS
end STR
theorem kJ0_coder (l : Launch) (D : va_G) (cT : Nat → ClassId) {i : Nat} (hi : i < 12) : sM l yJ0_coder_7d493 cJ0_coder_7d493 1 (some .byte) (zR 1) D cT [.ref (D.2 100 i)] [] (some (.int 0)) [] := by
  refine sM_of rfl (Nat.le_of_ble_eq_true rfl) ?_
  intro X C hE
  refine xi_drop (L2 := [(0, .ref (D.2 100 i))]) [0] rfl ?_
  refine xi_compact C dJ0_coder_7d493_0 ?_
  refine xi_if_eq C (tgt := 13) dJ0_coder_7d493_3 rfl (fun c => absurd c (by decide)) (fun c => ?_)
  refine xi_aload_n C 0 dJ0_coder_7d493_6 rfl ?_
  refine xi_scoder C hi dJ0_coder_7d493_7 ?_
  refine xi_goto C (tgt := 14) dJ0_coder_7d493_10 rfl ?_
  exact hE _ _ _ dJ0_coder_7d493_14 rfl rfl
theorem kJ0_length (l : Launch) (D : va_G) (cT : Nat → ClassId) {i : Nat} (hi : i < 12) : sM l yJ0_length_8abf5 cJ0_length_8abf5 1 (some .int) (zR 2) D cT [.ref (D.2 100 i)] [] (some (.int (nI (zLen.getD i 0)))) [] := by
  refine sM_int rfl (Nat.le_of_ble_eq_true rfl) ?_
  intro X C hE
  refine xi_drop (L2 := [(0, .ref (D.2 100 i))]) [0] rfl ?_
  refine xi_aload_n C 0 dJ0_length_8abf5_0 rfl ?_
  refine xi_sval C hi dJ0_length_8abf5_1 ?_
  refine xi_slen C hi dJ0_length_8abf5_4 ?_
  refine xi_aload_n C 0 dJ0_length_8abf5_5 rfl ?_
  refine xi_callV0r C (kJ0_coder l D cT hi) zcJ0_coder_7d493 zmJ0_335 ziJ0_coder_7d493 (zr rfl rfl) z00 rfl [] rfl rfl (zrS C hi) rfl (Nat.le_of_ble_eq_true rfl) dJ0_length_8abf5_6 (fun z => ?_)
  refine xi_ishr C dJ0_length_8abf5_9 ?_
  refine hE _ _ _ dJ0_length_8abf5_10 ?_
  rw [zsI]
theorem kJ0_isLatin1 (l : Launch) (D : va_G) (cT : Nat → ClassId) {i : Nat} (hi : i < 12) : sM l yJ0_isLatin1_aae02 cJ0_isLatin1_aae02 1 (some .boolean) (zR 1) D cT [.ref (D.2 100 i)] [] (some (.int 1)) [] := by
  refine sM_bool rfl (Nat.le_of_ble_eq_true rfl) ?_
  intro X C hE
  refine xi_drop (L2 := [(0, .ref (D.2 100 i))]) [0] rfl ?_
  refine xi_compact C dJ0_isLatin1_aae02_0 ?_
  refine xi_if_eq C (tgt := 17) dJ0_isLatin1_aae02_3 rfl (fun c => absurd c (by decide)) (fun c => ?_)
  refine xi_aload_n C 0 dJ0_isLatin1_aae02_6 rfl ?_
  refine xi_scoder C hi dJ0_isLatin1_aae02_7 ?_
  refine xi_if_ne C (tgt := 17) dJ0_isLatin1_aae02_10 rfl (fun c => absurd rfl c) (fun c => ?_)
  refine xi_iconst C (v := 1) dJ0_isLatin1_aae02_13 rfl ?_
  refine xi_goto C (tgt := 18) dJ0_isLatin1_aae02_14 rfl ?_
  exact hE _ _ _ dJ0_isLatin1_aae02_18 rfl rfl
theorem kJ3_checkIndex (l : Launch) (D : va_G) (cT : Nat → ClassId) (x0 x1 : Int32) (q : Option Nat) (h0 : ¬ x0 < 0) (h1 : x0 < x1) : sM l yJ3_checkIndex_8e157 cJ3_checkIndex_8e157 3 (some .int) (zR 1) D cT [.int x0, .int x1, va_rf q] [] (some (.int x0)) [] := by
  refine sM_int rfl (by cases q <;> exact Nat.le_of_ble_eq_true rfl) ?_
  intro X C hE
  refine xi_drop (L2 := [(0, .int x0), (1, .int x1), (2, va_rf q)]) [0, 1, 2] rfl ?_
  refine xi_iload_n C 0 dJ3_checkIndex_8e157_0 rfl ?_
  refine xi_if_lt C (tgt := 9) dJ3_checkIndex_8e157_1 rfl (fun c => absurd c h0) (fun c => ?_)
  refine xi_iload_n C 0 dJ3_checkIndex_8e157_4 rfl ?_
  refine xi_iload_n C 1 dJ3_checkIndex_8e157_5 rfl ?_
  refine xi_icmp_lt C (tgt := 16) dJ3_checkIndex_8e157_6 rfl (fun c => ?_) (fun c => absurd h1 c)
  refine xi_iload_n C 0 dJ3_checkIndex_8e157_16 rfl ?_
  exact hE _ _ _ dJ3_checkIndex_8e157_17 rfl
theorem kJ0_checkIndex (l : Launch) (D : va_G) (cT : Nat → ClassId) (x0 x1 : Int32) (h0 : ¬ x0 < 0) (h1 : x0 < x1) : sM l yJ0_checkIndex_df160 cJ0_checkIndex_df160 2 none (zR 2) D cT [.int x0, .int x1] [] none [] := by
  refine sM_void rfl (Nat.le_of_ble_eq_true rfl) ?_
  intro X C hE
  refine xi_drop (L2 := [(0, .int x0), (1, .int x1)]) [0, 1] rfl ?_
  refine xi_iload_n C 0 dJ0_checkIndex_df160_0 rfl ?_
  refine xi_iload_n C 1 dJ0_checkIndex_df160_1 rfl ?_
  refine xi_fmt C dJ0_checkIndex_df160_2 (fun q => ?_)
  refine xi_callSr C (kJ3_checkIndex l D cT x0 x1 q h0 h1) zcJ3_checkIndex_8e157 zmJ0_1059 zsJ3_checkIndex_8e157 (zr rfl rfl) z00 rfl [] rfl rfl rfl (Nat.le_of_ble_eq_true rfl) dJ0_checkIndex_df160_5 (fun z => ?_)
  refine xi_pop C dJ0_checkIndex_df160_8 rfl ?_
  exact hE _ _ dJ0_checkIndex_df160_9 rfl
theorem zlen_lt : ∀ i, i < 12 → zLen.getD i 0 < 10 := by decide
theorem kJ1_charAt (l : Launch) (D : va_G) (cT : Nat → ClassId) {i : Nat} (hi : i < 12) (x1 : Int32) (hj : vp_in x1 (zLen.getD i 0)) : sM l yJ1_charAt_3b067 cJ1_charAt_3b067 2 (some .char) (zR 3) D cT [.ref (D.2 101 i), .int x1] [] (some (.int (zCh i x1.toNatClampNeg))) [] := by
  refine sM_of rfl (Nat.le_of_ble_eq_true rfl) ?_
  intro X C hE
  have h0 : ¬ x1 < 0 := fun h => hj (Or.inl h)
  have h1 : x1 < nI (zLen.getD i 0) := by
    have hlen := zlen_lt i hi
    obtain ⟨j, hj1, hj2⟩ := vp_in_of hj (by omega)
    rw [hj2]
    exact nI_lt hj1 (by omega)
  refine xi_drop (L2 := [(0, .ref (D.2 101 i)), (1, .int x1)]) [0, 1] rfl ?_
  refine xi_iload_n C 1 dJ1_charAt_3b067_0 rfl ?_
  refine xi_aload_n C 0 dJ1_charAt_3b067_1 rfl ?_
  refine xi_slen C hi dJ1_charAt_3b067_2 ?_
  refine xi_callSr C (kJ0_checkIndex l D cT x1 (nI (zLen.getD i 0)) h0 h1) zcJ0_checkIndex_df160 zmJ1_9 zsJ0_checkIndex_df160 (zr rfl rfl) z00 rfl [] rfl rfl rfl (Nat.le_of_ble_eq_true rfl) dJ1_charAt_3b067_3 (fun z => ?_)
  refine xi_aload_n C 0 dJ1_charAt_3b067_6 rfl ?_
  refine xi_iload_n C 1 dJ1_charAt_3b067_7 rfl ?_
  refine xi_sbyte C hi hj dJ1_charAt_3b067_8 ?_
  refine xi_sipush C (v := 255) dJ1_charAt_3b067_9 rfl ?_
  refine xi_iand C dJ1_charAt_3b067_12 ?_
  refine xi_i2c C dJ1_charAt_3b067_13 (sc_c2 _) ?_
  exact hE _ _ _ dJ1_charAt_3b067_14 rfl (sc_nar _)
theorem kJ0_charAt (l : Launch) (D : va_G) (cT : Nat → ClassId) {i : Nat} (hi : i < 12) (x1 : Int32) (hj : vp_in x1 (zLen.getD i 0)) : sM l yJ0_charAt_5068e cJ0_charAt_5068e 2 (some .char) (zR 4) D cT [.ref (D.2 100 i), .int x1] [] (some (.int (zCh i x1.toNatClampNeg))) [] := by
  refine sM_of rfl (Nat.le_of_ble_eq_true rfl) ?_
  intro X C hE
  refine xi_drop (L2 := [(0, .ref (D.2 100 i)), (1, .int x1)]) [0, 1] rfl ?_
  refine xi_aload_n C 0 dJ0_charAt_5068e_0 rfl ?_
  refine xi_callV0r C (kJ0_isLatin1 l D cT hi) zcJ0_isLatin1_aae02 zmJ0_492 ziJ0_isLatin1_aae02 (zr rfl rfl) z00 rfl [] rfl rfl (zrS C hi) rfl (Nat.le_of_ble_eq_true rfl) dJ0_charAt_5068e_1 (fun z => ?_)
  refine xi_if_eq C (tgt := 16) dJ0_charAt_5068e_4 rfl (fun c => absurd c (by decide)) (fun c => ?_)
  refine xi_aload_n C 0 dJ0_charAt_5068e_7 rfl ?_
  refine xi_sval C hi dJ0_charAt_5068e_8 ?_
  refine xi_iload_n C 1 dJ0_charAt_5068e_11 rfl ?_
  refine xi_callSr C (kJ1_charAt l D cT hi x1 hj) zcJ1_charAt_3b067 zmJ0_495 zsJ1_charAt_3b067 (zr rfl rfl) z00 rfl [] rfl rfl rfl (Nat.le_of_ble_eq_true rfl) dJ0_charAt_5068e_12 (fun z => ?_)
  exact hE _ _ _ dJ0_charAt_5068e_15 rfl (sc_nar _)
