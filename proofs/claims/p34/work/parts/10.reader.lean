def fX9_putFourBytes_b3 (x1 : Int32) : Nat → Int32 → Int32 → (Nat → Int32) → Option (Int32 × (Nat → Int32))
  | 0, _, _, _ => none
  | n + 1, y2, t_bytesHeld, t_text => if y2 < 0 then some (t_bytesHeld, t_text) else if 500 ≤ t_bytesHeld then some (t_bytesHeld, t_text) else gd t_bytesHeld 500 ((fX9_putFourBytes_b3 x1 n) (y2 + (-8)) (t_bytesHeld + 1) (upd t_text t_bytesHeld.toNatClampNeg (vp_nar .byte ((x1 >>> (y2 &&& 31)).toInt8.toInt32))))
theorem fX9_putFourBytes_b3_0 (x1 : Int32) (y2 : Int32) (t_bytesHeld : Int32) (t_text : Nat → Int32) : fX9_putFourBytes_b3 x1 0 y2 t_bytesHeld t_text = none := rfl
theorem fX9_putFourBytes_b3_s (x1 : Int32) (n : Nat) (y2 : Int32) (t_bytesHeld : Int32) (t_text : Nat → Int32) : fX9_putFourBytes_b3 x1 (n + 1) y2 t_bytesHeld t_text = (if y2 < 0 then some (t_bytesHeld, t_text) else if 500 ≤ t_bytesHeld then some (t_bytesHeld, t_text) else gd t_bytesHeld 500 ((fX9_putFourBytes_b3 x1 n) (y2 + (-8)) (t_bytesHeld + 1) (upd t_text t_bytesHeld.toNatClampNeg (vp_nar .byte ((x1 >>> (y2 &&& 31)).toInt8.toInt32))))) := rfl
def fX9_putFourBytes (t_bytesHeld : Int32) (t_text : Nat → Int32) (x1 : Int32) : Option (Int32 × (Nat → Int32)) := fX9_putFourBytes_b3 x1 FU 24 t_bytesHeld t_text
set_option maxRecDepth 100000 in
set_option maxHeartbeats 4000000 in
theorem kX9_putFourBytes (l : Launch) (D : va_G) (cT : Nat → ClassId) (a_t : Nat) (a_t_text : Nat) (a_t_draft : Nat) (t_bytesHeld : Int32) (t_code : Int32) (t_wrongAt : Int32) (t_length : Int32) (t_kind : Int32) (t_start : Int32) (t_end : Int32) (t_number : Int32) (t_text : Nat → Int32) (x1 : Int32) (r : Int32 × (Nat → Int32)) (h : fX9_putFourBytes t_bytesHeld t_text x1 = some r) : sM l yX9_putFourBytes cX9_putFourBytes 3 none (zR 1) D cT [.ref a_t, .int x1] [(a_t, .inr (9, [.ref a_t_text, .int t_bytesHeld, .ref a_t_draft, .int t_code, .int t_wrongAt, .int t_length, .int t_kind, .int t_start, .int t_end, .int t_number])), (a_t_text, .inl (cT 2, 500, .inl t_text))] none [(a_t, .inr (9, [.ref a_t_text, .int r.1, .ref a_t_draft, .int t_code, .int t_wrongAt, .int t_length, .int t_kind, .int t_start, .int t_end, .int t_number])), (a_t_text, .inl (cT 2, 500, .inl r.2))] := by
  refine sM_void rfl (Nat.le_of_ble_eq_true rfl) ?_
  intro X C hE
  have B3 : ∀ (n : Nat) (y2 : Int32) (t_bytesHeld : Int32) (t_text : Nat → Int32), fX9_putFourBytes_b3 x1 n y2 t_bytesHeld t_text = some r → sW X l (zR 1) D 3 0 0 3 [(0, .ref a_t), (1, .int x1), (2, .int y2)] [] [(a_t, .inr (9, [.ref a_t_text, .int t_bytesHeld, .ref a_t_draft, .int t_code, .int t_wrongAt, .int t_length, .int t_kind, .int t_start, .int t_end, .int t_number])), (a_t_text, .inl (cT 2, 500, .inl t_text))] := by
    intro n
    induction n with
    | zero =>
      intro y2 t_bytesHeld t_text h
      exact zno ((fX9_putFourBytes_b3_0 _ _ _ _).symm.trans h)
    | succ n ih =>
      intro y2 t_bytesHeld t_text h
      replace h := (fX9_putFourBytes_b3_s _ _ _ _ _).symm.trans h
      refine xi_iload_n C 2 dX9_putFourBytes_3 rfl ?_
      refine xi_if_lt C (tgt := 46) dX9_putFourBytes_4 rfl (fun c1 => ?_) (fun c1 => ?_)
      · replace h := (if_pos c1).symm.trans h
        obtain rfl := Option.some.inj h
        exact hE _ _ dX9_putFourBytes_46 rfl
      · replace h := (if_neg c1).symm.trans h
        refine xi_aload_n C 0 dX9_putFourBytes_7 rfl ?_
        refine xi_get C zkX9 1 0 zlX9_15 (by decide) rfl rfl dX9_putFourBytes_8 ?_
        refine xi_sipush C (v := 500) dX9_putFourBytes_11 rfl ?_
        refine xi_icmp_ge C (tgt := 46) dX9_putFourBytes_14 rfl (fun c2 => ?_) (fun c2 => ?_)
        · replace h := (if_pos c2).symm.trans h
          obtain rfl := Option.some.inj h
          exact hE _ _ dX9_putFourBytes_46 rfl
        · replace h := (if_neg c2).symm.trans h
          refine xi_aload_n C 0 dX9_putFourBytes_17 rfl ?_
          refine xi_get C zkX9 0 0 zlX9_9 (by decide) rfl rfl dX9_putFourBytes_18 ?_
          refine xi_aload_n C 0 dX9_putFourBytes_21 rfl ?_
          refine xi_get C zkX9 1 0 zlX9_15 (by decide) rfl rfl dX9_putFourBytes_22 ?_
          refine xi_iload_n C 1 dX9_putFourBytes_25 rfl ?_
          refine xi_iload_n C 2 dX9_putFourBytes_26 rfl ?_
          refine xi_ishr C dX9_putFourBytes_27 ?_
          refine xi_i2b C dX9_putFourBytes_28 ?_
          replace h := ig h
          obtain ⟨c3, h⟩ := h
          refine xi_bast C 1 rfl c3 dX9_putFourBytes_29 (ws2 := [(a_t, .inr (9, [.ref a_t_text, .int t_bytesHeld, .ref a_t_draft, .int t_code, .int t_wrongAt, .int t_length, .int t_kind, .int t_start, .int t_end, .int t_number])), (a_t_text, .inl (cT 2, 500, .inl (upd t_text t_bytesHeld.toNatClampNeg (vp_nar .byte ((x1 >>> (y2 &&& 31)).toInt8.toInt32)))))]) rfl ?_
          refine xi_aload_n C 0 dX9_putFourBytes_30 rfl ?_
          refine xi_dup C dX9_putFourBytes_31 rfl ?_
          refine xi_get C zkX9 1 0 zlX9_15 (by decide) rfl rfl dX9_putFourBytes_32 ?_
          refine xi_iconst C (v := 1) dX9_putFourBytes_35 rfl ?_
          refine xi_iadd C dX9_putFourBytes_36 ?_
          refine xi_put C zkX9 1 0 zlX9_15 (by decide) rfl rfl rfl rfl (Nat.le_of_ble_eq_true rfl) dX9_putFourBytes_37 (ws2 := [(a_t, .inr (9, [.ref a_t_text, .int (t_bytesHeld + 1), .ref a_t_draft, .int t_code, .int t_wrongAt, .int t_length, .int t_kind, .int t_start, .int t_end, .int t_number])), (a_t_text, .inl (cT 2, 500, .inl (upd t_text t_bytesHeld.toNatClampNeg (vp_nar .byte ((x1 >>> (y2 &&& 31)).toInt8.toInt32)))))]) rfl ?_
          refine xi_iinc C (v := y2 + (-8)) 2 [1, 2, 0] (L2 := [(0, .ref a_t), (1, .int x1), (2, .int (y2 + (-8)))]) dX9_putFourBytes_40 rfl rfl (Nat.le_of_ble_eq_true rfl) rfl ?_
          refine xi_goto C (tgt := 3) dX9_putFourBytes_43 rfl ?_
          exact ih (y2 + (-8)) (t_bytesHeld + 1) (upd t_text t_bytesHeld.toNatClampNeg (vp_nar .byte ((x1 >>> (y2 &&& 31)).toInt8.toInt32))) h
  refine xi_drop (L2 := [(0, .ref a_t), (1, .int x1)]) [0, 1] rfl ?_
  refine xi_bipush C (v := 24) dX9_putFourBytes_0 rfl ?_
  refine xi_istore_n C [1, 2, 0] (L2 := [(0, .ref a_t), (1, .int x1), (2, .int 24)]) dX9_putFourBytes_2 (Nat.le_of_ble_eq_true rfl) rfl ?_
  exact B3 FU 24 t_bytesHeld t_text h
def fX9_skipSeparators_b60 (t_start : Int32) : Option (Int32 × Int32) := some (t_start, t_start)
def fX9_skipSeparators_b47 (K8 : Int32 → Int32 → Option (Int32 × Int32)) (t_start : Int32) (t_end : Int32) : Option (Int32 × Int32) := K8 (t_start + 1) t_end
def fX9_skipSeparators_b8 (t_length : Int32) (t_text : Nat → Int32) : Nat → Int32 → Int32 → Option (Int32 × Int32)
  | 0, _, _ => none
  | n + 1, t_start, t_end => if t_length ≤ t_start then fX9_skipSeparators_b60 t_start else gd t_start 500 (if (t_text t_start.toNatClampNeg) = 32 then fX9_skipSeparators_b47 (fX9_skipSeparators_b8 t_length t_text n) t_start t_end else if (t_text t_start.toNatClampNeg) = 10 then fX9_skipSeparators_b47 (fX9_skipSeparators_b8 t_length t_text n) t_start t_end else fX9_skipSeparators_b60 t_start)
theorem fX9_skipSeparators_b8_0 (t_length : Int32) (t_text : Nat → Int32) (t_start : Int32) (t_end : Int32) : fX9_skipSeparators_b8 t_length t_text 0 t_start t_end = none := rfl
theorem fX9_skipSeparators_b8_s (t_length : Int32) (t_text : Nat → Int32) (n : Nat) (t_start : Int32) (t_end : Int32) : fX9_skipSeparators_b8 t_length t_text (n + 1) t_start t_end = (if t_length ≤ t_start then fX9_skipSeparators_b60 t_start else gd t_start 500 (if (t_text t_start.toNatClampNeg) = 32 then fX9_skipSeparators_b47 (fX9_skipSeparators_b8 t_length t_text n) t_start t_end else if (t_text t_start.toNatClampNeg) = 10 then fX9_skipSeparators_b47 (fX9_skipSeparators_b8 t_length t_text n) t_start t_end else fX9_skipSeparators_b60 t_start)) := rfl
def fX9_skipSeparators (t_length : Int32) (t_end : Int32) (t_text : Nat → Int32) : Option (Int32 × Int32) := fX9_skipSeparators_b8 t_length t_text FU t_end t_end
set_option maxRecDepth 100000 in
set_option maxHeartbeats 4000000 in
theorem kX9_skipSeparators (l : Launch) (D : va_G) (cT : Nat → ClassId) (a_t : Nat) (a_t_text : Nat) (a_t_draft : Nat) (t_bytesHeld : Int32) (t_code : Int32) (t_wrongAt : Int32) (t_length : Int32) (t_kind : Int32) (t_start : Int32) (t_end : Int32) (t_number : Int32) (t_text : Nat → Int32) (r : Int32 × Int32) (h : fX9_skipSeparators t_length t_end t_text = some r) : sM l yX9_skipSeparators cX9_skipSeparators 1 none (zR 1) D cT [.ref a_t] [(a_t, .inr (9, [.ref a_t_text, .int t_bytesHeld, .ref a_t_draft, .int t_code, .int t_wrongAt, .int t_length, .int t_kind, .int t_start, .int t_end, .int t_number])), (a_t_text, .inl (cT 2, 500, .inl t_text))] none [(a_t, .inr (9, [.ref a_t_text, .int t_bytesHeld, .ref a_t_draft, .int t_code, .int t_wrongAt, .int t_length, .int t_kind, .int r.1, .int r.2, .int t_number])), (a_t_text, .inl (cT 2, 500, .inl t_text))] := by
  refine sM_void rfl (Nat.le_of_ble_eq_true rfl) ?_
  intro X C hE
  have B60 : ∀ (t_start : Int32) (t_end : Int32), fX9_skipSeparators_b60 t_start = some r → sW X l (zR 1) D 1 0 0 60 [(0, .ref a_t)] [] [(a_t, .inr (9, [.ref a_t_text, .int t_bytesHeld, .ref a_t_draft, .int t_code, .int t_wrongAt, .int t_length, .int t_kind, .int t_start, .int t_end, .int t_number])), (a_t_text, .inl (cT 2, 500, .inl t_text))] := by
    intro t_start t_end h
    refine xi_aload_n C 0 dX9_skipSeparators_60 rfl ?_
    refine xi_aload_n C 0 dX9_skipSeparators_61 rfl ?_
    refine xi_get C zkX9 7 0 zlX9_38 (by decide) rfl rfl dX9_skipSeparators_62 ?_
    refine xi_put C zkX9 8 0 zlX9_41 (by decide) rfl rfl rfl rfl (Nat.le_of_ble_eq_true rfl) dX9_skipSeparators_65 (ws2 := [(a_t, .inr (9, [.ref a_t_text, .int t_bytesHeld, .ref a_t_draft, .int t_code, .int t_wrongAt, .int t_length, .int t_kind, .int t_start, .int t_start, .int t_number])), (a_t_text, .inl (cT 2, 500, .inl t_text))]) rfl ?_
    obtain rfl := Option.some.inj h
    exact hE _ _ dX9_skipSeparators_68 rfl
  have B47 : ∀ (K8 : Int32 → Int32 → Option (Int32 × Int32)) (hK8 : ∀ (t_start : Int32) (t_end : Int32), K8 t_start t_end = some r → sW X l (zR 1) D 1 0 0 8 [(0, .ref a_t)] [] [(a_t, .inr (9, [.ref a_t_text, .int t_bytesHeld, .ref a_t_draft, .int t_code, .int t_wrongAt, .int t_length, .int t_kind, .int t_start, .int t_end, .int t_number])), (a_t_text, .inl (cT 2, 500, .inl t_text))]) (t_start : Int32) (t_end : Int32), fX9_skipSeparators_b47 K8 t_start t_end = some r → sW X l (zR 1) D 1 0 0 47 [(0, .ref a_t)] [] [(a_t, .inr (9, [.ref a_t_text, .int t_bytesHeld, .ref a_t_draft, .int t_code, .int t_wrongAt, .int t_length, .int t_kind, .int t_start, .int t_end, .int t_number])), (a_t_text, .inl (cT 2, 500, .inl t_text))] := by
    intro K8 hK8 t_start t_end h
    refine xi_aload_n C 0 dX9_skipSeparators_47 rfl ?_
    refine xi_dup C dX9_skipSeparators_48 rfl ?_
    refine xi_get C zkX9 7 0 zlX9_38 (by decide) rfl rfl dX9_skipSeparators_49 ?_
    refine xi_iconst C (v := 1) dX9_skipSeparators_52 rfl ?_
    refine xi_iadd C dX9_skipSeparators_53 ?_
    refine xi_put C zkX9 7 0 zlX9_38 (by decide) rfl rfl rfl rfl (Nat.le_of_ble_eq_true rfl) dX9_skipSeparators_54 (ws2 := [(a_t, .inr (9, [.ref a_t_text, .int t_bytesHeld, .ref a_t_draft, .int t_code, .int t_wrongAt, .int t_length, .int t_kind, .int (t_start + 1), .int t_end, .int t_number])), (a_t_text, .inl (cT 2, 500, .inl t_text))]) rfl ?_
    refine xi_goto C (tgt := 8) dX9_skipSeparators_57 rfl ?_
    exact hK8 (t_start + 1) t_end h
  have B8 : ∀ (n : Nat) (t_start : Int32) (t_end : Int32), fX9_skipSeparators_b8 t_length t_text n t_start t_end = some r → sW X l (zR 1) D 1 0 0 8 [(0, .ref a_t)] [] [(a_t, .inr (9, [.ref a_t_text, .int t_bytesHeld, .ref a_t_draft, .int t_code, .int t_wrongAt, .int t_length, .int t_kind, .int t_start, .int t_end, .int t_number])), (a_t_text, .inl (cT 2, 500, .inl t_text))] := by
    intro n
    induction n with
    | zero =>
      intro t_start t_end h
      exact zno ((fX9_skipSeparators_b8_0 _ _ _ _).symm.trans h)
    | succ n ih =>
      intro t_start t_end h
      replace h := (fX9_skipSeparators_b8_s _ _ _ _ _).symm.trans h
      refine xi_aload_n C 0 dX9_skipSeparators_8 rfl ?_
      refine xi_get C zkX9 7 0 zlX9_38 (by decide) rfl rfl dX9_skipSeparators_9 ?_
      refine xi_aload_n C 0 dX9_skipSeparators_12 rfl ?_
      refine xi_get C zkX9 5 0 zlX9_32 (by decide) rfl rfl dX9_skipSeparators_13 ?_
      refine xi_icmp_ge C (tgt := 60) dX9_skipSeparators_16 rfl (fun c1 => ?_) (fun c1 => ?_)
      · replace h := (if_pos c1).symm.trans h
        exact B60 t_start t_end h
      · replace h := (if_neg c1).symm.trans h
        refine xi_aload_n C 0 dX9_skipSeparators_19 rfl ?_
        refine xi_get C zkX9 0 0 zlX9_9 (by decide) rfl rfl dX9_skipSeparators_20 ?_
        refine xi_aload_n C 0 dX9_skipSeparators_23 rfl ?_
        refine xi_get C zkX9 7 0 zlX9_38 (by decide) rfl rfl dX9_skipSeparators_24 ?_
        replace h := ig h
        obtain ⟨c2, h⟩ := h
        refine xi_bald C 1 rfl c2 dX9_skipSeparators_27 ?_
        refine xi_bipush C (v := 32) dX9_skipSeparators_28 rfl ?_
        refine xi_icmp_eq C (tgt := 47) dX9_skipSeparators_30 rfl (fun c3 => ?_) (fun c3 => ?_)
        · replace h := (if_pos c3).symm.trans h
          exact B47 (fX9_skipSeparators_b8 t_length t_text n) ih t_start t_end h
        · replace h := (if_neg c3).symm.trans h
          refine xi_aload_n C 0 dX9_skipSeparators_33 rfl ?_
          refine xi_get C zkX9 0 0 zlX9_9 (by decide) rfl rfl dX9_skipSeparators_34 ?_
          refine xi_aload_n C 0 dX9_skipSeparators_37 rfl ?_
          refine xi_get C zkX9 7 0 zlX9_38 (by decide) rfl rfl dX9_skipSeparators_38 ?_
          refine xi_bald C 1 rfl c2 dX9_skipSeparators_41 ?_
          refine xi_bipush C (v := 10) dX9_skipSeparators_42 rfl ?_
          refine xi_icmp_ne C (tgt := 60) dX9_skipSeparators_44 rfl (fun c4 => ?_) (fun c4 => ?_)
          · replace h := (if_neg c4).symm.trans h
            exact B60 t_start t_end h
          · replace h := (if_pos c4).symm.trans h
            exact B47 (fX9_skipSeparators_b8 t_length t_text n) ih t_start t_end h
  refine xi_drop (L2 := [(0, .ref a_t)]) [0] rfl ?_
  refine xi_aload_n C 0 dX9_skipSeparators_0 rfl ?_
  refine xi_aload_n C 0 dX9_skipSeparators_1 rfl ?_
  refine xi_get C zkX9 8 0 zlX9_41 (by decide) rfl rfl dX9_skipSeparators_2 ?_
  refine xi_put C zkX9 7 0 zlX9_38 (by decide) rfl rfl rfl rfl (Nat.le_of_ble_eq_true rfl) dX9_skipSeparators_5 (ws2 := [(a_t, .inr (9, [.ref a_t_text, .int t_bytesHeld, .ref a_t_draft, .int t_code, .int t_wrongAt, .int t_length, .int t_kind, .int t_end, .int t_end, .int t_number])), (a_t_text, .inl (cT 2, 500, .inl t_text))]) rfl ?_
  exact B8 FU t_end t_end h
def fX9_takeRun_b50 (t_start : Int32) (t_end : Int32) : Option (Int32 × Int32) := if t_end ≤ t_start then some (0, t_end) else some (1, t_end)
def fX9_takeRun_b0 (t_length : Int32) (t_start : Int32) (t_text : Nat → Int32) (x1 : Int32) (x2 : Int32) : Nat → Int32 → Option (Int32 × Int32)
  | 0, _ => none
  | n + 1, t_end => if t_length ≤ t_end then fX9_takeRun_b50 t_start t_end else gd t_end 500 (if (t_text t_end.toNatClampNeg) < x1 then fX9_takeRun_b50 t_start t_end else if x2 < (t_text t_end.toNatClampNeg) then fX9_takeRun_b50 t_start t_end else (fX9_takeRun_b0 t_length t_start t_text x1 x2 n) (t_end + 1))
theorem fX9_takeRun_b0_0 (t_length : Int32) (t_start : Int32) (t_text : Nat → Int32) (x1 : Int32) (x2 : Int32) (t_end : Int32) : fX9_takeRun_b0 t_length t_start t_text x1 x2 0 t_end = none := rfl
theorem fX9_takeRun_b0_s (t_length : Int32) (t_start : Int32) (t_text : Nat → Int32) (x1 : Int32) (x2 : Int32) (n : Nat) (t_end : Int32) : fX9_takeRun_b0 t_length t_start t_text x1 x2 (n + 1) t_end = (if t_length ≤ t_end then fX9_takeRun_b50 t_start t_end else gd t_end 500 (if (t_text t_end.toNatClampNeg) < x1 then fX9_takeRun_b50 t_start t_end else if x2 < (t_text t_end.toNatClampNeg) then fX9_takeRun_b50 t_start t_end else (fX9_takeRun_b0 t_length t_start t_text x1 x2 n) (t_end + 1))) := rfl
def fX9_takeRun (t_length : Int32) (t_start : Int32) (t_end : Int32) (t_text : Nat → Int32) (x1 : Int32) (x2 : Int32) : Option (Int32 × Int32) := fX9_takeRun_b0 t_length t_start t_text x1 x2 FU t_end
set_option maxRecDepth 100000 in
set_option maxHeartbeats 4000000 in
theorem kX9_takeRun (l : Launch) (D : va_G) (cT : Nat → ClassId) (a_t : Nat) (a_t_text : Nat) (a_t_draft : Nat) (t_bytesHeld : Int32) (t_code : Int32) (t_wrongAt : Int32) (t_length : Int32) (t_kind : Int32) (t_start : Int32) (t_end : Int32) (t_number : Int32) (t_text : Nat → Int32) (x1 : Int32) (x2 : Int32) (r : Int32 × Int32) (h : fX9_takeRun t_length t_start t_end t_text x1 x2 = some r) : sM l yX9_takeRun cX9_takeRun 3 (some .boolean) (zR 1) D cT [.ref a_t, .int x1, .int x2] [(a_t, .inr (9, [.ref a_t_text, .int t_bytesHeld, .ref a_t_draft, .int t_code, .int t_wrongAt, .int t_length, .int t_kind, .int t_start, .int t_end, .int t_number])), (a_t_text, .inl (cT 2, 500, .inl t_text))] (some (.int r.1)) [(a_t, .inr (9, [.ref a_t_text, .int t_bytesHeld, .ref a_t_draft, .int t_code, .int t_wrongAt, .int t_length, .int t_kind, .int t_start, .int r.2, .int t_number])), (a_t_text, .inl (cT 2, 500, .inl t_text))] := by
  refine sM_bool rfl (Nat.le_of_ble_eq_true rfl) ?_
  intro X C hE
  have B50 : ∀ (t_end : Int32), fX9_takeRun_b50 t_start t_end = some r → sW X l (zR 1) D 3 0 0 50 [(0, .ref a_t)] [] [(a_t, .inr (9, [.ref a_t_text, .int t_bytesHeld, .ref a_t_draft, .int t_code, .int t_wrongAt, .int t_length, .int t_kind, .int t_start, .int t_end, .int t_number])), (a_t_text, .inl (cT 2, 500, .inl t_text))] := by
    intro t_end h
    refine xi_aload_n C 0 dX9_takeRun_50 rfl ?_
    refine xi_get C zkX9 8 0 zlX9_41 (by decide) rfl rfl dX9_takeRun_51 ?_
    refine xi_aload_n C 0 dX9_takeRun_54 rfl ?_
    refine xi_get C zkX9 7 0 zlX9_38 (by decide) rfl rfl dX9_takeRun_55 ?_
    refine xi_icmp_le C (tgt := 65) dX9_takeRun_58 rfl (fun c2 => ?_) (fun c2 => ?_)
    · replace h := (if_pos c2).symm.trans h
      refine xi_iconst C (v := 0) dX9_takeRun_65 rfl ?_
      obtain rfl := Option.some.inj h
      exact hE _ _ _ dX9_takeRun_66 rfl rfl
    · replace h := (if_neg c2).symm.trans h
      refine xi_iconst C (v := 1) dX9_takeRun_61 rfl ?_
      refine xi_goto C (tgt := 66) dX9_takeRun_62 rfl ?_
      obtain rfl := Option.some.inj h
      exact hE _ _ _ dX9_takeRun_66 rfl rfl
  have B0 : ∀ (n : Nat) (t_end : Int32), fX9_takeRun_b0 t_length t_start t_text x1 x2 n t_end = some r → sW X l (zR 1) D 3 0 0 0 [(0, .ref a_t), (1, .int x1), (2, .int x2)] [] [(a_t, .inr (9, [.ref a_t_text, .int t_bytesHeld, .ref a_t_draft, .int t_code, .int t_wrongAt, .int t_length, .int t_kind, .int t_start, .int t_end, .int t_number])), (a_t_text, .inl (cT 2, 500, .inl t_text))] := by
    intro n
    induction n with
    | zero =>
      intro t_end h
      exact zno ((fX9_takeRun_b0_0 _ _ _ _ _ _).symm.trans h)
    | succ n ih =>
      intro t_end h
      replace h := (fX9_takeRun_b0_s _ _ _ _ _ _ _).symm.trans h
      refine xi_aload_n C 0 dX9_takeRun_0 rfl ?_
      refine xi_get C zkX9 8 0 zlX9_41 (by decide) rfl rfl dX9_takeRun_1 ?_
      refine xi_aload_n C 0 dX9_takeRun_4 rfl ?_
      refine xi_get C zkX9 5 0 zlX9_32 (by decide) rfl rfl dX9_takeRun_5 ?_
      refine xi_icmp_ge C (tgt := 50) dX9_takeRun_8 rfl (fun c1 => ?_) (fun c1 => ?_)
      · replace h := (if_pos c1).symm.trans h
        refine xi_drop (L2 := [(0, .ref a_t)]) [0] rfl ?_
        exact B50 t_end h
      · replace h := (if_neg c1).symm.trans h
        refine xi_aload_n C 0 dX9_takeRun_11 rfl ?_
        refine xi_get C zkX9 0 0 zlX9_9 (by decide) rfl rfl dX9_takeRun_12 ?_
        refine xi_aload_n C 0 dX9_takeRun_15 rfl ?_
        refine xi_get C zkX9 8 0 zlX9_41 (by decide) rfl rfl dX9_takeRun_16 ?_
        replace h := ig h
        obtain ⟨c3, h⟩ := h
        refine xi_bald C 1 rfl c3 dX9_takeRun_19 ?_
        refine xi_iload_n C 1 dX9_takeRun_20 rfl ?_
        refine xi_icmp_lt C (tgt := 50) dX9_takeRun_21 rfl (fun c4 => ?_) (fun c4 => ?_)
        · replace h := (if_pos c4).symm.trans h
          refine xi_drop (L2 := [(0, .ref a_t)]) [0] rfl ?_
          exact B50 t_end h
        · replace h := (if_neg c4).symm.trans h
          refine xi_aload_n C 0 dX9_takeRun_24 rfl ?_
          refine xi_get C zkX9 0 0 zlX9_9 (by decide) rfl rfl dX9_takeRun_25 ?_
          refine xi_aload_n C 0 dX9_takeRun_28 rfl ?_
          refine xi_get C zkX9 8 0 zlX9_41 (by decide) rfl rfl dX9_takeRun_29 ?_
          refine xi_bald C 1 rfl c3 dX9_takeRun_32 ?_
          refine xi_iload_n C 2 dX9_takeRun_33 rfl ?_
          refine xi_icmp_gt C (tgt := 50) dX9_takeRun_34 rfl (fun c5 => ?_) (fun c5 => ?_)
          · replace h := (if_pos c5).symm.trans h
            refine xi_drop (L2 := [(0, .ref a_t)]) [0] rfl ?_
            exact B50 t_end h
          · replace h := (if_neg c5).symm.trans h
            refine xi_aload_n C 0 dX9_takeRun_37 rfl ?_
            refine xi_dup C dX9_takeRun_38 rfl ?_
            refine xi_get C zkX9 8 0 zlX9_41 (by decide) rfl rfl dX9_takeRun_39 ?_
            refine xi_iconst C (v := 1) dX9_takeRun_42 rfl ?_
            refine xi_iadd C dX9_takeRun_43 ?_
            refine xi_put C zkX9 8 0 zlX9_41 (by decide) rfl rfl rfl rfl (Nat.le_of_ble_eq_true rfl) dX9_takeRun_44 (ws2 := [(a_t, .inr (9, [.ref a_t_text, .int t_bytesHeld, .ref a_t_draft, .int t_code, .int t_wrongAt, .int t_length, .int t_kind, .int t_start, .int (t_end + 1), .int t_number])), (a_t_text, .inl (cT 2, 500, .inl t_text))]) rfl ?_
            refine xi_goto C (tgt := 0) dX9_takeRun_47 rfl ?_
            exact ih (t_end + 1) h
  refine xi_drop (L2 := [(0, .ref a_t), (1, .int x1), (2, .int x2)]) [0, 1, 2] rfl ?_
  exact B0 FU t_end h
def fX9_nextToken_b116 (s0 : Int32) (t_start : Int32) : Option (Int32 × Int32 × Int32) := some (s0, t_start, t_start + 1)
def fX9_nextToken_b90 (s0 : Int32) (t_start : Int32) (t_end : Int32) : Option (Int32 × Int32 × Int32) := some (s0, t_start, t_end)
def fX9_nextToken_b54 (s0 : Int32) (t_start : Int32) (t_end : Int32) : Option (Int32 × Int32 × Int32) := some (s0, t_start, t_end)
def fX9_nextToken (t_length : Int32) (t_end : Int32) (t_text : Nat → Int32) : Option (Int32 × Int32 × Int32) := (fX9_skipSeparators t_length t_end t_text).bind (fun u1 => if u1.1 < t_length then (fX9_takeRun t_length u1.1 u1.2 t_text 97 122).bind (fun u5 => if u5.1 = 0 then (fX9_takeRun t_length u1.1 u5.2 t_text 48 57).bind (fun u9 => if u9.1 = 0 then gd u1.1 500 (if (t_text u1.1.toNatClampNeg) = 59 then fX9_nextToken_b116 3 u1.1 else fX9_nextToken_b116 4 u1.1) else if 4 < (u9.2 - u1.1) then fX9_nextToken_b90 4 u1.1 u9.2 else fX9_nextToken_b90 2 u1.1 u9.2) else if 8 < (u5.2 - u1.1) then fX9_nextToken_b54 4 u1.1 u5.2 else fX9_nextToken_b54 1 u1.1 u5.2) else some (0, u1.1, u1.2))
set_option maxRecDepth 100000 in
set_option maxHeartbeats 4000000 in
theorem kX9_nextToken (l : Launch) (D : va_G) (cT : Nat → ClassId) (a_t : Nat) (a_t_text : Nat) (a_t_draft : Nat) (t_bytesHeld : Int32) (t_code : Int32) (t_wrongAt : Int32) (t_length : Int32) (t_kind : Int32) (t_start : Int32) (t_end : Int32) (t_number : Int32) (t_text : Nat → Int32) (r : Int32 × Int32 × Int32) (h : fX9_nextToken t_length t_end t_text = some r) : sM l yX9_nextToken cX9_nextToken 1 none (zR 2) D cT [.ref a_t] [(a_t, .inr (9, [.ref a_t_text, .int t_bytesHeld, .ref a_t_draft, .int t_code, .int t_wrongAt, .int t_length, .int t_kind, .int t_start, .int t_end, .int t_number])), (a_t_text, .inl (cT 2, 500, .inl t_text))] none [(a_t, .inr (9, [.ref a_t_text, .int t_bytesHeld, .ref a_t_draft, .int t_code, .int t_wrongAt, .int t_length, .int r.1, .int r.2.1, .int r.2.2, .int t_number])), (a_t_text, .inl (cT 2, 500, .inl t_text))] := by
  refine sM_void rfl (Nat.le_of_ble_eq_true rfl) ?_
  intro X C hE
  have B116 : ∀ (s0 : Int32) (t_kind : Int32) (t_start : Int32) (t_end : Int32), fX9_nextToken_b116 s0 t_start = some r → sW X l (zR 2) D 1 0 0 116 [(0, .ref a_t)] [.int s0, .ref a_t] [(a_t, .inr (9, [.ref a_t_text, .int t_bytesHeld, .ref a_t_draft, .int t_code, .int t_wrongAt, .int t_length, .int t_kind, .int t_start, .int t_end, .int t_number])), (a_t_text, .inl (cT 2, 500, .inl t_text))] := by
    intro s0 t_kind t_start t_end h
    refine xi_put C zkX9 6 0 zlX9_35 (by decide) rfl rfl rfl rfl (Nat.le_of_ble_eq_true rfl) dX9_nextToken_116 (ws2 := [(a_t, .inr (9, [.ref a_t_text, .int t_bytesHeld, .ref a_t_draft, .int t_code, .int t_wrongAt, .int t_length, .int s0, .int t_start, .int t_end, .int t_number])), (a_t_text, .inl (cT 2, 500, .inl t_text))]) rfl ?_
    refine xi_aload_n C 0 dX9_nextToken_119 rfl ?_
    refine xi_aload_n C 0 dX9_nextToken_120 rfl ?_
    refine xi_get C zkX9 7 0 zlX9_38 (by decide) rfl rfl dX9_nextToken_121 ?_
    refine xi_iconst C (v := 1) dX9_nextToken_124 rfl ?_
    refine xi_iadd C dX9_nextToken_125 ?_
    refine xi_put C zkX9 8 0 zlX9_41 (by decide) rfl rfl rfl rfl (Nat.le_of_ble_eq_true rfl) dX9_nextToken_126 (ws2 := [(a_t, .inr (9, [.ref a_t_text, .int t_bytesHeld, .ref a_t_draft, .int t_code, .int t_wrongAt, .int t_length, .int s0, .int t_start, .int (t_start + 1), .int t_number])), (a_t_text, .inl (cT 2, 500, .inl t_text))]) rfl ?_
    obtain rfl := Option.some.inj h
    exact hE _ _ dX9_nextToken_129 rfl
  have B90 : ∀ (s0 : Int32) (t_kind : Int32) (t_start : Int32) (t_end : Int32), fX9_nextToken_b90 s0 t_start t_end = some r → sW X l (zR 2) D 1 0 0 90 [] [.int s0, .ref a_t] [(a_t, .inr (9, [.ref a_t_text, .int t_bytesHeld, .ref a_t_draft, .int t_code, .int t_wrongAt, .int t_length, .int t_kind, .int t_start, .int t_end, .int t_number])), (a_t_text, .inl (cT 2, 500, .inl t_text))] := by
    intro s0 t_kind t_start t_end h
    refine xi_put C zkX9 6 0 zlX9_35 (by decide) rfl rfl rfl rfl (Nat.le_of_ble_eq_true rfl) dX9_nextToken_90 (ws2 := [(a_t, .inr (9, [.ref a_t_text, .int t_bytesHeld, .ref a_t_draft, .int t_code, .int t_wrongAt, .int t_length, .int s0, .int t_start, .int t_end, .int t_number])), (a_t_text, .inl (cT 2, 500, .inl t_text))]) rfl ?_
    refine xi_goto C (tgt := 129) dX9_nextToken_93 rfl ?_
    obtain rfl := Option.some.inj h
    exact hE _ _ dX9_nextToken_129 rfl
  have B54 : ∀ (s0 : Int32) (t_kind : Int32) (t_start : Int32) (t_end : Int32), fX9_nextToken_b54 s0 t_start t_end = some r → sW X l (zR 2) D 1 0 0 54 [] [.int s0, .ref a_t] [(a_t, .inr (9, [.ref a_t_text, .int t_bytesHeld, .ref a_t_draft, .int t_code, .int t_wrongAt, .int t_length, .int t_kind, .int t_start, .int t_end, .int t_number])), (a_t_text, .inl (cT 2, 500, .inl t_text))] := by
    intro s0 t_kind t_start t_end h
    refine xi_put C zkX9 6 0 zlX9_35 (by decide) rfl rfl rfl rfl (Nat.le_of_ble_eq_true rfl) dX9_nextToken_54 (ws2 := [(a_t, .inr (9, [.ref a_t_text, .int t_bytesHeld, .ref a_t_draft, .int t_code, .int t_wrongAt, .int t_length, .int s0, .int t_start, .int t_end, .int t_number])), (a_t_text, .inl (cT 2, 500, .inl t_text))]) rfl ?_
    refine xi_goto C (tgt := 129) dX9_nextToken_57 rfl ?_
    obtain rfl := Option.some.inj h
    exact hE _ _ dX9_nextToken_129 rfl
  refine xi_drop (L2 := [(0, .ref a_t)]) [0] rfl ?_
  refine xi_aload_n C 0 dX9_nextToken_0 rfl ?_
  replace h := ob h
  obtain ⟨u1, hu2, h⟩ := h
  refine xi_callV C (kX9_skipSeparators l D cT a_t a_t_text a_t_draft t_bytesHeld t_code t_wrongAt t_length t_kind t_start t_end t_number t_text u1 hu2) zcX9_skipSeparators zmX9_136 ziX9_skipSeparators (zr rfl rfl) z00 rfl [0, 1] rfl rfl rfl [some 0, some 1] (by decide +kernel) (ws2 := [(a_t, .inr (9, [.ref a_t_text, .int t_bytesHeld, .ref a_t_draft, .int t_code, .int t_wrongAt, .int t_length, .int t_kind, .int u1.1, .int u1.2, .int t_number])), (a_t_text, .inl (cT 2, 500, .inl t_text))]) rfl zkX9.1 (qr := 0) rfl rfl (Nat.le_of_ble_eq_true rfl) dX9_nextToken_1 (fun z3 => ?_)
  refine xi_aload_n C 0 dX9_nextToken_4 rfl ?_
  refine xi_get C zkX9 7 0 zlX9_38 (by decide) rfl rfl dX9_nextToken_5 ?_
  refine xi_aload_n C 0 dX9_nextToken_8 rfl ?_
  refine xi_get C zkX9 5 0 zlX9_32 (by decide) rfl rfl dX9_nextToken_9 ?_
  refine xi_icmp_lt C (tgt := 23) dX9_nextToken_12 rfl (fun c4 => ?_) (fun c4 => ?_)
  · replace h := (if_pos c4).symm.trans h
    refine xi_aload_n C 0 dX9_nextToken_23 rfl ?_
    refine xi_bipush C (v := 97) dX9_nextToken_24 rfl ?_
    refine xi_bipush C (v := 122) dX9_nextToken_26 rfl ?_
    replace h := ob h
    obtain ⟨u5, hu6, h⟩ := h
    refine xi_callV C (kX9_takeRun l D cT a_t a_t_text a_t_draft t_bytesHeld t_code t_wrongAt t_length t_kind u1.1 u1.2 t_number t_text 97 122 u5 hu6) zcX9_takeRun zmX9_139 ziX9_takeRun (zr rfl rfl) z00 rfl [0, 1] rfl rfl rfl [some 0, some 1] (by decide +kernel) (ws2 := [(a_t, .inr (9, [.ref a_t_text, .int t_bytesHeld, .ref a_t_draft, .int t_code, .int t_wrongAt, .int t_length, .int t_kind, .int u1.1, .int u5.2, .int t_number])), (a_t_text, .inl (cT 2, 500, .inl t_text))]) rfl zkX9.1 (qr := 0) rfl rfl (Nat.le_of_ble_eq_true rfl) dX9_nextToken_28 (fun z7 => ?_)
    refine xi_if_eq C (tgt := 60) dX9_nextToken_31 rfl (fun c8 => ?_) (fun c8 => ?_)
    · replace h := (if_pos c8).symm.trans h
      refine xi_aload_n C 0 dX9_nextToken_60 rfl ?_
      refine xi_bipush C (v := 48) dX9_nextToken_61 rfl ?_
      refine xi_bipush C (v := 57) dX9_nextToken_63 rfl ?_
      replace h := ob h
      obtain ⟨u9, hu10, h⟩ := h
      refine xi_callV C (kX9_takeRun l D cT a_t a_t_text a_t_draft t_bytesHeld t_code t_wrongAt t_length t_kind u1.1 u5.2 t_number t_text 48 57 u9 hu10) zcX9_takeRun zmX9_139 ziX9_takeRun (zr rfl rfl) z00 rfl [0, 1] rfl rfl rfl [some 0, some 1] (by decide +kernel) (ws2 := [(a_t, .inr (9, [.ref a_t_text, .int t_bytesHeld, .ref a_t_draft, .int t_code, .int t_wrongAt, .int t_length, .int t_kind, .int u1.1, .int u9.2, .int t_number])), (a_t_text, .inl (cT 2, 500, .inl t_text))]) rfl zkX9.1 (qr := 0) rfl rfl (Nat.le_of_ble_eq_true rfl) dX9_nextToken_65 (fun z11 => ?_)
      refine xi_if_eq C (tgt := 96) dX9_nextToken_68 rfl (fun c12 => ?_) (fun c12 => ?_)
      · replace h := (if_pos c12).symm.trans h
        refine xi_aload_n C 0 dX9_nextToken_96 rfl ?_
        refine xi_aload_n C 0 dX9_nextToken_97 rfl ?_
        refine xi_get C zkX9 0 0 zlX9_9 (by decide) rfl rfl dX9_nextToken_98 ?_
        refine xi_aload_n C 0 dX9_nextToken_101 rfl ?_
        refine xi_get C zkX9 7 0 zlX9_38 (by decide) rfl rfl dX9_nextToken_102 ?_
        replace h := ig h
        obtain ⟨c13, h⟩ := h
        refine xi_bald C 1 rfl c13 dX9_nextToken_105 ?_
        refine xi_bipush C (v := 59) dX9_nextToken_106 rfl ?_
        refine xi_icmp_ne C (tgt := 115) dX9_nextToken_108 rfl (fun c14 => ?_) (fun c14 => ?_)
        · replace h := (if_neg c14).symm.trans h
          refine xi_iconst C (v := 4) dX9_nextToken_115 rfl ?_
          exact B116 4 t_kind u1.1 u9.2 h
        · replace h := (if_pos c14).symm.trans h
          refine xi_iconst C (v := 3) dX9_nextToken_111 rfl ?_
          refine xi_goto C (tgt := 116) dX9_nextToken_112 rfl ?_
          exact B116 3 t_kind u1.1 u9.2 h
      · replace h := (if_neg c12).symm.trans h
        refine xi_aload_n C 0 dX9_nextToken_71 rfl ?_
        refine xi_aload_n C 0 dX9_nextToken_72 rfl ?_
        refine xi_get C zkX9 8 0 zlX9_41 (by decide) rfl rfl dX9_nextToken_73 ?_
        refine xi_aload_n C 0 dX9_nextToken_76 rfl ?_
        refine xi_get C zkX9 7 0 zlX9_38 (by decide) rfl rfl dX9_nextToken_77 ?_
        refine xi_isub C dX9_nextToken_80 ?_
        refine xi_iconst C (v := 4) dX9_nextToken_81 rfl ?_
        refine xi_icmp_gt C (tgt := 89) dX9_nextToken_82 rfl (fun c15 => ?_) (fun c15 => ?_)
        · replace h := (if_pos c15).symm.trans h
          refine xi_iconst C (v := 4) dX9_nextToken_89 rfl ?_
          refine xi_drop (L2 := []) [] rfl ?_
          exact B90 4 t_kind u1.1 u9.2 h
        · replace h := (if_neg c15).symm.trans h
          refine xi_iconst C (v := 2) dX9_nextToken_85 rfl ?_
          refine xi_goto C (tgt := 90) dX9_nextToken_86 rfl ?_
          refine xi_drop (L2 := []) [] rfl ?_
          exact B90 2 t_kind u1.1 u9.2 h
    · replace h := (if_neg c8).symm.trans h
      refine xi_aload_n C 0 dX9_nextToken_34 rfl ?_
      refine xi_aload_n C 0 dX9_nextToken_35 rfl ?_
      refine xi_get C zkX9 8 0 zlX9_41 (by decide) rfl rfl dX9_nextToken_36 ?_
      refine xi_aload_n C 0 dX9_nextToken_39 rfl ?_
      refine xi_get C zkX9 7 0 zlX9_38 (by decide) rfl rfl dX9_nextToken_40 ?_
      refine xi_isub C dX9_nextToken_43 ?_
      refine xi_bipush C (v := 8) dX9_nextToken_44 rfl ?_
      refine xi_icmp_gt C (tgt := 53) dX9_nextToken_46 rfl (fun c16 => ?_) (fun c16 => ?_)
      · replace h := (if_pos c16).symm.trans h
        refine xi_iconst C (v := 4) dX9_nextToken_53 rfl ?_
        refine xi_drop (L2 := []) [] rfl ?_
        exact B54 4 t_kind u1.1 u5.2 h
      · replace h := (if_neg c16).symm.trans h
        refine xi_iconst C (v := 1) dX9_nextToken_49 rfl ?_
        refine xi_goto C (tgt := 54) dX9_nextToken_50 rfl ?_
        refine xi_drop (L2 := []) [] rfl ?_
        exact B54 1 t_kind u1.1 u5.2 h
  · replace h := (if_neg c4).symm.trans h
    refine xi_aload_n C 0 dX9_nextToken_15 rfl ?_
    refine xi_iconst C (v := 0) dX9_nextToken_16 rfl ?_
    refine xi_put C zkX9 6 0 zlX9_35 (by decide) rfl rfl rfl rfl (Nat.le_of_ble_eq_true rfl) dX9_nextToken_17 (ws2 := [(a_t, .inr (9, [.ref a_t_text, .int t_bytesHeld, .ref a_t_draft, .int t_code, .int t_wrongAt, .int t_length, .int 0, .int u1.1, .int u1.2, .int t_number])), (a_t_text, .inl (cT 2, 500, .inl t_text))]) rfl ?_
    refine xi_goto C (tgt := 129) dX9_nextToken_20 rfl ?_
    obtain rfl := Option.some.inj h
    exact hE _ _ dX9_nextToken_129 rfl
def fX9_isWord_b28 (t_start : Int32) (t_text : Nat → Int32) (w1 : Nat) : Nat → Int32 → Option Int32
  | 0, _ => none
  | n + 1, y2 => if (nI (zLen.getD w1 0)) ≤ y2 then some (1 : Int32) else gd (t_start + y2) 500 (gd y2 (zLen.getD w1 0) (if (t_text (t_start + y2).toNatClampNeg) = (zCh w1 y2.toNatClampNeg) then (fX9_isWord_b28 t_start t_text w1 n) (y2 + 1) else some (0 : Int32)))
theorem fX9_isWord_b28_0 (t_start : Int32) (t_text : Nat → Int32) (w1 : Nat) (y2 : Int32) : fX9_isWord_b28 t_start t_text w1 0 y2 = none := rfl
theorem fX9_isWord_b28_s (t_start : Int32) (t_text : Nat → Int32) (w1 : Nat) (n : Nat) (y2 : Int32) : fX9_isWord_b28 t_start t_text w1 (n + 1) y2 = (if (nI (zLen.getD w1 0)) ≤ y2 then some (1 : Int32) else gd (t_start + y2) 500 (gd y2 (zLen.getD w1 0) (if (t_text (t_start + y2).toNatClampNeg) = (zCh w1 y2.toNatClampNeg) then (fX9_isWord_b28 t_start t_text w1 n) (y2 + 1) else some (0 : Int32)))) := rfl
def fX9_isWord (t_kind : Int32) (t_start : Int32) (t_end : Int32) (t_text : Nat → Int32) (w1 : Nat) : Option Int32 := if t_kind = 1 then if (t_end - t_start) = (nI (zLen.getD w1 0)) then fX9_isWord_b28 t_start t_text w1 FU 0 else some (0 : Int32) else some (0 : Int32)
set_option maxRecDepth 100000 in
set_option maxHeartbeats 4000000 in
theorem kX9_isWord (l : Launch) (D : va_G) (cT : Nat → ClassId) (a_t : Nat) (a_t_text : Nat) (a_t_draft : Nat) (t_bytesHeld : Int32) (t_code : Int32) (t_wrongAt : Int32) (t_length : Int32) (t_kind : Int32) (t_start : Int32) (t_end : Int32) (t_number : Int32) (t_text : Nat → Int32) (w1 : Nat) (hs_w1 : w1 < 12) (r : Int32) (h : fX9_isWord t_kind t_start t_end t_text w1 = some r) : sM l yX9_isWord cX9_isWord 3 (some .boolean) (zR 5) D cT [.ref a_t, .ref (D.2 100 w1)] [(a_t, .inr (9, [.ref a_t_text, .int t_bytesHeld, .ref a_t_draft, .int t_code, .int t_wrongAt, .int t_length, .int t_kind, .int t_start, .int t_end, .int t_number])), (a_t_text, .inl (cT 2, 500, .inl t_text))] (some (.int r)) [(a_t, .inr (9, [.ref a_t_text, .int t_bytesHeld, .ref a_t_draft, .int t_code, .int t_wrongAt, .int t_length, .int t_kind, .int t_start, .int t_end, .int t_number])), (a_t_text, .inl (cT 2, 500, .inl t_text))] := by
  refine sM_bool rfl (Nat.le_of_ble_eq_true rfl) ?_
  intro X C hE
  have B28 : ∀ (n : Nat) (y2 : Int32), fX9_isWord_b28 t_start t_text w1 n y2 = some r → sW X l (zR 5) D 3 0 0 28 [(0, .ref a_t), (1, .ref (D.2 100 w1)), (2, .int y2)] [] [(a_t, .inr (9, [.ref a_t_text, .int t_bytesHeld, .ref a_t_draft, .int t_code, .int t_wrongAt, .int t_length, .int t_kind, .int t_start, .int t_end, .int t_number])), (a_t_text, .inl (cT 2, 500, .inl t_text))] := by
    intro n
    induction n with
    | zero =>
      intro y2 h
      exact zno ((fX9_isWord_b28_0 _ _ _ _).symm.trans h)
    | succ n ih =>
      intro y2 h
      replace h := (fX9_isWord_b28_s _ _ _ _ _).symm.trans h
      refine xi_iload_n C 2 dX9_isWord_28 rfl ?_
      refine xi_aload_n C 1 dX9_isWord_29 rfl ?_
      refine xi_callV0r C (kJ0_length l D cT (i := w1) hs_w1) zcJ0_length_8abf5 zmX9_127 ziJ0_length_8abf5 (zr rfl rfl) z00 rfl [] rfl rfl (zrS C hs_w1) rfl (Nat.le_of_ble_eq_true rfl) dX9_isWord_30 (fun _ => ?_)
      refine xi_icmp_ge C (tgt := 63) dX9_isWord_33 rfl (fun c3 => ?_) (fun c3 => ?_)
      · replace h := (if_pos c3).symm.trans h
        refine xi_iconst C (v := 1) dX9_isWord_63 rfl ?_
        obtain rfl := Option.some.inj h
        exact hE _ _ _ dX9_isWord_64 rfl rfl
      · replace h := (if_neg c3).symm.trans h
        refine xi_aload_n C 0 dX9_isWord_36 rfl ?_
        refine xi_get C zkX9 0 0 zlX9_9 (by decide) rfl rfl dX9_isWord_37 ?_
        refine xi_aload_n C 0 dX9_isWord_40 rfl ?_
        refine xi_get C zkX9 7 0 zlX9_38 (by decide) rfl rfl dX9_isWord_41 ?_
        refine xi_iload_n C 2 dX9_isWord_44 rfl ?_
        refine xi_iadd C dX9_isWord_45 ?_
        replace h := ig h
        obtain ⟨c4, h⟩ := h
        refine xi_bald C 1 rfl c4 dX9_isWord_46 ?_
        refine xi_aload_n C 1 dX9_isWord_47 rfl ?_
        refine xi_iload_n C 2 dX9_isWord_48 rfl ?_
        replace h := ig h
        obtain ⟨c5, h⟩ := h
        refine xi_callV0r C (kJ0_charAt l D cT (i := w1) hs_w1 y2 c5) zcJ0_charAt_5068e zmX9_132 ziJ0_charAt_5068e (zr rfl rfl) z00 rfl [] rfl rfl (zrS C hs_w1) rfl (Nat.le_of_ble_eq_true rfl) dX9_isWord_49 (fun _ => ?_)
        refine xi_icmp_eq C (tgt := 57) dX9_isWord_52 rfl (fun c6 => ?_) (fun c6 => ?_)
        · replace h := (if_pos c6).symm.trans h
          refine xi_iinc C (v := y2 + 1) 2 [1, 2, 0] (L2 := [(0, .ref a_t), (1, .ref (D.2 100 w1)), (2, .int (y2 + 1))]) dX9_isWord_57 rfl rfl (Nat.le_of_ble_eq_true rfl) rfl ?_
          refine xi_goto C (tgt := 28) dX9_isWord_60 rfl ?_
          exact ih (y2 + 1) h
        · replace h := (if_neg c6).symm.trans h
          refine xi_iconst C (v := 0) dX9_isWord_55 rfl ?_
          obtain rfl := Option.some.inj h
          exact hE _ _ _ dX9_isWord_56 rfl rfl
  refine xi_drop (L2 := [(0, .ref a_t), (1, .ref (D.2 100 w1))]) [0, 1] rfl ?_
  refine xi_aload_n C 0 dX9_isWord_0 rfl ?_
  refine xi_get C zkX9 6 0 zlX9_35 (by decide) rfl rfl dX9_isWord_1 ?_
  refine xi_iconst C (v := 1) dX9_isWord_4 rfl ?_
  refine xi_icmp_ne C (tgt := 24) dX9_isWord_5 rfl (fun c1 => ?_) (fun c1 => ?_)
  · replace h := (if_neg c1).symm.trans h
    refine xi_iconst C (v := 0) dX9_isWord_24 rfl ?_
    obtain rfl := Option.some.inj h
    exact hE _ _ _ dX9_isWord_25 rfl rfl
  · replace h := (if_pos c1).symm.trans h
    refine xi_aload_n C 0 dX9_isWord_8 rfl ?_
    refine xi_get C zkX9 8 0 zlX9_41 (by decide) rfl rfl dX9_isWord_9 ?_
    refine xi_aload_n C 0 dX9_isWord_12 rfl ?_
    refine xi_get C zkX9 7 0 zlX9_38 (by decide) rfl rfl dX9_isWord_13 ?_
    refine xi_isub C dX9_isWord_16 ?_
    refine xi_aload_n C 1 dX9_isWord_17 rfl ?_
    refine xi_callV0r C (kJ0_length l D cT (i := w1) hs_w1) zcJ0_length_8abf5 zmX9_127 ziJ0_length_8abf5 (zr rfl rfl) z00 rfl [] rfl rfl (zrS C hs_w1) rfl (Nat.le_of_ble_eq_true rfl) dX9_isWord_18 (fun _ => ?_)
    refine xi_icmp_eq C (tgt := 26) dX9_isWord_21 rfl (fun c2 => ?_) (fun c2 => ?_)
    · replace h := (if_pos c2).symm.trans h
      refine xi_iconst C (v := 0) dX9_isWord_26 rfl ?_
      refine xi_istore_n C [1, 2, 0] (L2 := [(0, .ref a_t), (1, .ref (D.2 100 w1)), (2, .int 0)]) dX9_isWord_27 (Nat.le_of_ble_eq_true rfl) rfl ?_
      exact B28 FU 0 h
    · replace h := (if_neg c2).symm.trans h
      refine xi_iconst C (v := 0) dX9_isWord_24 rfl ?_
      obtain rfl := Option.some.inj h
      exact hE _ _ _ dX9_isWord_25 rfl rfl
def fX9_fail (t_start : Int32) (x1 : Int32) : Int32 × Int32 × Int32 := (0, x1, t_start)
set_option maxRecDepth 100000 in
set_option maxHeartbeats 4000000 in
theorem kX9_fail (l : Launch) (D : va_G) (cT : Nat → ClassId) (a_t : Nat) (a_t_text : Nat) (a_t_draft : Nat) (t_bytesHeld : Int32) (t_code : Int32) (t_wrongAt : Int32) (t_length : Int32) (t_kind : Int32) (t_start : Int32) (t_end : Int32) (t_number : Int32) (x1 : Int32) (r : Int32 × Int32 × Int32) (h : fX9_fail t_start x1 = r) : sM l yX9_fail cX9_fail 2 (some .boolean) (zR 1) D cT [.ref a_t, .int x1] [(a_t, .inr (9, [.ref a_t_text, .int t_bytesHeld, .ref a_t_draft, .int t_code, .int t_wrongAt, .int t_length, .int t_kind, .int t_start, .int t_end, .int t_number]))] (some (.int r.1)) [(a_t, .inr (9, [.ref a_t_text, .int t_bytesHeld, .ref a_t_draft, .int r.2.1, .int r.2.2, .int t_length, .int t_kind, .int t_start, .int t_end, .int t_number]))] := by
  refine sM_bool rfl (Nat.le_of_ble_eq_true rfl) ?_
  intro X C hE
  refine xi_drop (L2 := [(0, .ref a_t), (1, .int x1)]) [0, 1] rfl ?_
  refine xi_aload_n C 0 dX9_fail_0 rfl ?_
  refine xi_iload_n C 1 dX9_fail_1 rfl ?_
  refine xi_put C zkX9 3 0 zlX9_26 (by decide) rfl rfl rfl rfl (Nat.le_of_ble_eq_true rfl) dX9_fail_2 (ws2 := [(a_t, .inr (9, [.ref a_t_text, .int t_bytesHeld, .ref a_t_draft, .int x1, .int t_wrongAt, .int t_length, .int t_kind, .int t_start, .int t_end, .int t_number]))]) rfl ?_
  refine xi_aload_n C 0 dX9_fail_5 rfl ?_
  refine xi_aload_n C 0 dX9_fail_6 rfl ?_
  refine xi_get C zkX9 7 0 zlX9_38 (by decide) rfl rfl dX9_fail_7 ?_
  refine xi_put C zkX9 4 0 zlX9_29 (by decide) rfl rfl rfl rfl (Nat.le_of_ble_eq_true rfl) dX9_fail_10 (ws2 := [(a_t, .inr (9, [.ref a_t_text, .int t_bytesHeld, .ref a_t_draft, .int x1, .int t_start, .int t_length, .int t_kind, .int t_start, .int t_end, .int t_number]))]) rfl ?_
  refine xi_iconst C (v := 0) dX9_fail_13 rfl ?_
  subst h
  exact hE _ _ _ dX9_fail_14 rfl rfl
def fX9_readNumber_b79 (t_kind : Int32) (t_start : Int32) (t_end : Int32) (t_number : Int32) : Option (Int32 × Int32 × Int32 × Int32 × Int32 × Int32 × Int32) := nm (fX9_fail t_start 3) (fun u7 => if u7.1 = 0 then some (0, u7.2.1, u7.2.2, t_kind, t_start, t_end, t_number) else some (1, u7.2.1, u7.2.2, t_kind, t_start, t_end, t_number))
def fX9_readNumber_b63 (x1 : Int32) (x2 : Int32) (t_code : Int32) (t_wrongAt : Int32) (t_kind : Int32) (t_start : Int32) (t_end : Int32) (t_number : Int32) : Option (Int32 × Int32 × Int32 × Int32 × Int32 × Int32 × Int32) := if t_number < x1 then fX9_readNumber_b79 t_kind t_start t_end t_number else if t_number ≤ x2 then some (1, t_code, t_wrongAt, t_kind, t_start, t_end, t_number) else fX9_readNumber_b79 t_kind t_start t_end t_number
def fX9_readNumber_b28 (t_text : Nat → Int32) (x1 : Int32) (x2 : Int32) : Nat → Int32 → Int32 → Int32 → Int32 → Int32 → Int32 → Int32 → Option (Int32 × Int32 × Int32 × Int32 × Int32 × Int32 × Int32)
  | 0, _, _, _, _, _, _, _ => none
  | n + 1, y3, t_code, t_wrongAt, t_kind, t_start, t_end, t_number => if t_end ≤ y3 then fX9_readNumber_b63 x1 x2 t_code t_wrongAt t_kind t_start t_end t_number else gd y3 500 ((fX9_readNumber_b28 t_text x1 x2 n) (y3 + 1) t_code t_wrongAt t_kind t_start t_end (((t_number * 10) + (t_text y3.toNatClampNeg)) - 48))
theorem fX9_readNumber_b28_0 (t_text : Nat → Int32) (x1 : Int32) (x2 : Int32) (y3 : Int32) (t_code : Int32) (t_wrongAt : Int32) (t_kind : Int32) (t_start : Int32) (t_end : Int32) (t_number : Int32) : fX9_readNumber_b28 t_text x1 x2 0 y3 t_code t_wrongAt t_kind t_start t_end t_number = none := rfl
theorem fX9_readNumber_b28_s (t_text : Nat → Int32) (x1 : Int32) (x2 : Int32) (n : Nat) (y3 : Int32) (t_code : Int32) (t_wrongAt : Int32) (t_kind : Int32) (t_start : Int32) (t_end : Int32) (t_number : Int32) : fX9_readNumber_b28 t_text x1 x2 (n + 1) y3 t_code t_wrongAt t_kind t_start t_end t_number = (if t_end ≤ y3 then fX9_readNumber_b63 x1 x2 t_code t_wrongAt t_kind t_start t_end t_number else gd y3 500 ((fX9_readNumber_b28 t_text x1 x2 n) (y3 + 1) t_code t_wrongAt t_kind t_start t_end (((t_number * 10) + (t_text y3.toNatClampNeg)) - 48))) := rfl
def fX9_readNumber (t_code : Int32) (t_wrongAt : Int32) (t_length : Int32) (t_end : Int32) (t_number : Int32) (t_text : Nat → Int32) (x1 : Int32) (x2 : Int32) : Option (Int32 × Int32 × Int32 × Int32 × Int32 × Int32 × Int32) := (fX9_nextToken t_length t_end t_text).bind (fun u1 => if u1.1 = 2 then fX9_readNumber_b28 t_text x1 x2 FU u1.2.1 t_code t_wrongAt u1.1 u1.2.1 u1.2.2 0 else nm (fX9_fail u1.2.1 1) (fun u13 => some (u13.1, u13.2.1, u13.2.2, u1.1, u1.2.1, u1.2.2, t_number)))
set_option maxRecDepth 100000 in
set_option maxHeartbeats 4000000 in
theorem kX9_readNumber (l : Launch) (D : va_G) (cT : Nat → ClassId) (a_t : Nat) (a_t_text : Nat) (a_t_draft : Nat) (t_bytesHeld : Int32) (t_code : Int32) (t_wrongAt : Int32) (t_length : Int32) (t_kind : Int32) (t_start : Int32) (t_end : Int32) (t_number : Int32) (t_text : Nat → Int32) (x1 : Int32) (x2 : Int32) (r : Int32 × Int32 × Int32 × Int32 × Int32 × Int32 × Int32) (h : fX9_readNumber t_code t_wrongAt t_length t_end t_number t_text x1 x2 = some r) : sM l yX9_readNumber cX9_readNumber 4 (some .boolean) (zR 3) D cT [.ref a_t, .int x1, .int x2] [(a_t, .inr (9, [.ref a_t_text, .int t_bytesHeld, .ref a_t_draft, .int t_code, .int t_wrongAt, .int t_length, .int t_kind, .int t_start, .int t_end, .int t_number])), (a_t_text, .inl (cT 2, 500, .inl t_text))] (some (.int r.1)) [(a_t, .inr (9, [.ref a_t_text, .int t_bytesHeld, .ref a_t_draft, .int r.2.1, .int r.2.2.1, .int t_length, .int r.2.2.2.1, .int r.2.2.2.2.1, .int r.2.2.2.2.2.1, .int r.2.2.2.2.2.2])), (a_t_text, .inl (cT 2, 500, .inl t_text))] := by
  refine sM_bool rfl (Nat.le_of_ble_eq_true rfl) ?_
  intro X C hE
  have B79 : ∀ (t_code : Int32) (t_wrongAt : Int32) (t_kind : Int32) (t_start : Int32) (t_end : Int32) (t_number : Int32), fX9_readNumber_b79 t_kind t_start t_end t_number = some r → sW X l (zR 3) D 4 0 0 79 [(0, .ref a_t)] [] [(a_t, .inr (9, [.ref a_t_text, .int t_bytesHeld, .ref a_t_draft, .int t_code, .int t_wrongAt, .int t_length, .int t_kind, .int t_start, .int t_end, .int t_number])), (a_t_text, .inl (cT 2, 500, .inl t_text))] := by
    intro t_code t_wrongAt t_kind t_start t_end t_number h
    refine xi_aload_n C 0 dX9_readNumber_79 rfl ?_
    refine xi_iconst C (v := 3) dX9_readNumber_80 rfl ?_
    obtain ⟨u7, hu8⟩ : ∃ z, z = fX9_fail t_start 3 := ⟨_, rfl⟩
    replace h := nmE hu8 h
    refine xi_callV C (kX9_fail l D cT a_t a_t_text a_t_draft t_bytesHeld t_code t_wrongAt t_length t_kind t_start t_end t_number 3 u7 hu8.symm) zcX9_fail zmX9_98 ziX9_fail (zr rfl rfl) z00 rfl [0] rfl rfl rfl [some 0, none] (by decide +kernel) (ws2 := [(a_t, .inr (9, [.ref a_t_text, .int t_bytesHeld, .ref a_t_draft, .int u7.2.1, .int u7.2.2, .int t_length, .int t_kind, .int t_start, .int t_end, .int t_number])), (a_t_text, .inl (cT 2, 500, .inl t_text))]) rfl zkX9.1 (qr := 0) rfl rfl (Nat.le_of_ble_eq_true rfl) dX9_readNumber_81 (fun z9 => ?_)
    refine xi_if_eq C (tgt := 91) dX9_readNumber_84 rfl (fun c10 => ?_) (fun c10 => ?_)
    · replace h := (if_pos c10).symm.trans h
      refine xi_iconst C (v := 0) dX9_readNumber_91 rfl ?_
      obtain rfl := Option.some.inj h
      exact hE _ _ _ dX9_readNumber_92 rfl rfl
    · replace h := (if_neg c10).symm.trans h
      refine xi_iconst C (v := 1) dX9_readNumber_87 rfl ?_
      refine xi_goto C (tgt := 92) dX9_readNumber_88 rfl ?_
      obtain rfl := Option.some.inj h
      exact hE _ _ _ dX9_readNumber_92 rfl rfl
  have B63 : ∀ (t_code : Int32) (t_wrongAt : Int32) (t_kind : Int32) (t_start : Int32) (t_end : Int32) (t_number : Int32), fX9_readNumber_b63 x1 x2 t_code t_wrongAt t_kind t_start t_end t_number = some r → sW X l (zR 3) D 4 0 0 63 [(0, .ref a_t), (1, .int x1), (2, .int x2)] [] [(a_t, .inr (9, [.ref a_t_text, .int t_bytesHeld, .ref a_t_draft, .int t_code, .int t_wrongAt, .int t_length, .int t_kind, .int t_start, .int t_end, .int t_number])), (a_t_text, .inl (cT 2, 500, .inl t_text))] := by
    intro t_code t_wrongAt t_kind t_start t_end t_number h
    refine xi_aload_n C 0 dX9_readNumber_63 rfl ?_
    refine xi_get C zkX9 9 0 zlX9_44 (by decide) rfl rfl dX9_readNumber_64 ?_
    refine xi_iload_n C 1 dX9_readNumber_67 rfl ?_
    refine xi_icmp_lt C (tgt := 79) dX9_readNumber_68 rfl (fun c6 => ?_) (fun c6 => ?_)
    · replace h := (if_pos c6).symm.trans h
      refine xi_drop (L2 := [(0, .ref a_t)]) [0] rfl ?_
      exact B79 t_code t_wrongAt t_kind t_start t_end t_number h
    · replace h := (if_neg c6).symm.trans h
      refine xi_aload_n C 0 dX9_readNumber_71 rfl ?_
      refine xi_get C zkX9 9 0 zlX9_44 (by decide) rfl rfl dX9_readNumber_72 ?_
      refine xi_iload_n C 2 dX9_readNumber_75 rfl ?_
      refine xi_icmp_le C (tgt := 87) dX9_readNumber_76 rfl (fun c11 => ?_) (fun c11 => ?_)
      · replace h := (if_pos c11).symm.trans h
        refine xi_iconst C (v := 1) dX9_readNumber_87 rfl ?_
        refine xi_goto C (tgt := 92) dX9_readNumber_88 rfl ?_
        obtain rfl := Option.some.inj h
        exact hE _ _ _ dX9_readNumber_92 rfl rfl
      · replace h := (if_neg c11).symm.trans h
        refine xi_drop (L2 := [(0, .ref a_t)]) [0] rfl ?_
        exact B79 t_code t_wrongAt t_kind t_start t_end t_number h
  have B28 : ∀ (n : Nat) (y3 : Int32) (t_code : Int32) (t_wrongAt : Int32) (t_kind : Int32) (t_start : Int32) (t_end : Int32) (t_number : Int32), fX9_readNumber_b28 t_text x1 x2 n y3 t_code t_wrongAt t_kind t_start t_end t_number = some r → sW X l (zR 3) D 4 0 0 28 [(0, .ref a_t), (1, .int x1), (2, .int x2), (3, .int y3)] [] [(a_t, .inr (9, [.ref a_t_text, .int t_bytesHeld, .ref a_t_draft, .int t_code, .int t_wrongAt, .int t_length, .int t_kind, .int t_start, .int t_end, .int t_number])), (a_t_text, .inl (cT 2, 500, .inl t_text))] := by
    intro n
    induction n with
    | zero =>
      intro y3 t_code t_wrongAt t_kind t_start t_end t_number h
      exact zno ((fX9_readNumber_b28_0 _ _ _ _ _ _ _ _ _ _).symm.trans h)
    | succ n ih =>
      intro y3 t_code t_wrongAt t_kind t_start t_end t_number h
      replace h := (fX9_readNumber_b28_s _ _ _ _ _ _ _ _ _ _ _).symm.trans h
      refine xi_iload_n C 3 dX9_readNumber_28 rfl ?_
      refine xi_aload_n C 0 dX9_readNumber_29 rfl ?_
      refine xi_get C zkX9 8 0 zlX9_41 (by decide) rfl rfl dX9_readNumber_30 ?_
      refine xi_icmp_ge C (tgt := 63) dX9_readNumber_33 rfl (fun c5 => ?_) (fun c5 => ?_)
      · replace h := (if_pos c5).symm.trans h
        refine xi_drop (L2 := [(0, .ref a_t), (1, .int x1), (2, .int x2)]) [0, 1, 2] rfl ?_
        exact B63 t_code t_wrongAt t_kind t_start t_end t_number h
      · replace h := (if_neg c5).symm.trans h
        refine xi_aload_n C 0 dX9_readNumber_36 rfl ?_
        refine xi_aload_n C 0 dX9_readNumber_37 rfl ?_
        refine xi_get C zkX9 9 0 zlX9_44 (by decide) rfl rfl dX9_readNumber_38 ?_
        refine xi_bipush C (v := 10) dX9_readNumber_41 rfl ?_
        refine xi_imul C dX9_readNumber_43 ?_
        refine xi_aload_n C 0 dX9_readNumber_44 rfl ?_
        refine xi_get C zkX9 0 0 zlX9_9 (by decide) rfl rfl dX9_readNumber_45 ?_
        refine xi_iload_n C 3 dX9_readNumber_48 rfl ?_
        replace h := ig h
        obtain ⟨c12, h⟩ := h
        refine xi_bald C 1 rfl c12 dX9_readNumber_49 ?_
        refine xi_iadd C dX9_readNumber_50 ?_
        refine xi_bipush C (v := 48) dX9_readNumber_51 rfl ?_
        refine xi_isub C dX9_readNumber_53 ?_
        refine xi_put C zkX9 9 0 zlX9_44 (by decide) rfl rfl rfl rfl (Nat.le_of_ble_eq_true rfl) dX9_readNumber_54 (ws2 := [(a_t, .inr (9, [.ref a_t_text, .int t_bytesHeld, .ref a_t_draft, .int t_code, .int t_wrongAt, .int t_length, .int t_kind, .int t_start, .int t_end, .int (((t_number * 10) + (t_text y3.toNatClampNeg)) - 48)])), (a_t_text, .inl (cT 2, 500, .inl t_text))]) rfl ?_
        refine xi_iinc C (v := y3 + 1) 3 [1, 2, 3, 0] (L2 := [(0, .ref a_t), (1, .int x1), (2, .int x2), (3, .int (y3 + 1))]) dX9_readNumber_57 rfl rfl (Nat.le_of_ble_eq_true rfl) rfl ?_
        refine xi_goto C (tgt := 28) dX9_readNumber_60 rfl ?_
        exact ih (y3 + 1) t_code t_wrongAt t_kind t_start t_end (((t_number * 10) + (t_text y3.toNatClampNeg)) - 48) h
  refine xi_drop (L2 := [(0, .ref a_t), (1, .int x1), (2, .int x2)]) [0, 1, 2] rfl ?_
  refine xi_aload_n C 0 dX9_readNumber_0 rfl ?_
  replace h := ob h
  obtain ⟨u1, hu2, h⟩ := h
  refine xi_callV C (kX9_nextToken l D cT a_t a_t_text a_t_draft t_bytesHeld t_code t_wrongAt t_length t_kind t_start t_end t_number t_text u1 hu2) zcX9_nextToken zmX9_56 ziX9_nextToken (zr rfl rfl) z00 rfl [0, 1] rfl rfl rfl [some 0, some 1] (by decide +kernel) (ws2 := [(a_t, .inr (9, [.ref a_t_text, .int t_bytesHeld, .ref a_t_draft, .int t_code, .int t_wrongAt, .int t_length, .int u1.1, .int u1.2.1, .int u1.2.2, .int t_number])), (a_t_text, .inl (cT 2, 500, .inl t_text))]) rfl zkX9.1 (qr := 0) rfl rfl (Nat.le_of_ble_eq_true rfl) dX9_readNumber_1 (fun z3 => ?_)
  refine xi_aload_n C 0 dX9_readNumber_4 rfl ?_
  refine xi_get C zkX9 6 0 zlX9_35 (by decide) rfl rfl dX9_readNumber_5 ?_
  refine xi_iconst C (v := 2) dX9_readNumber_8 rfl ?_
  refine xi_icmp_eq C (tgt := 18) dX9_readNumber_9 rfl (fun c4 => ?_) (fun c4 => ?_)
  · replace h := (if_pos c4).symm.trans h
    refine xi_aload_n C 0 dX9_readNumber_18 rfl ?_
    refine xi_iconst C (v := 0) dX9_readNumber_19 rfl ?_
    refine xi_put C zkX9 9 0 zlX9_44 (by decide) rfl rfl rfl rfl (Nat.le_of_ble_eq_true rfl) dX9_readNumber_20 (ws2 := [(a_t, .inr (9, [.ref a_t_text, .int t_bytesHeld, .ref a_t_draft, .int t_code, .int t_wrongAt, .int t_length, .int u1.1, .int u1.2.1, .int u1.2.2, .int 0])), (a_t_text, .inl (cT 2, 500, .inl t_text))]) rfl ?_
    refine xi_aload_n C 0 dX9_readNumber_23 rfl ?_
    refine xi_get C zkX9 7 0 zlX9_38 (by decide) rfl rfl dX9_readNumber_24 ?_
    refine xi_istore_n C [1, 2, 3, 0] (L2 := [(0, .ref a_t), (1, .int x1), (2, .int x2), (3, .int u1.2.1)]) dX9_readNumber_27 (Nat.le_of_ble_eq_true rfl) rfl ?_
    exact B28 FU u1.2.1 t_code t_wrongAt u1.1 u1.2.1 u1.2.2 0 h
  · replace h := (if_neg c4).symm.trans h
    refine xi_aload_n C 0 dX9_readNumber_12 rfl ?_
    refine xi_iconst C (v := 1) dX9_readNumber_13 rfl ?_
    obtain ⟨u13, hu14⟩ : ∃ z, z = fX9_fail u1.2.1 1 := ⟨_, rfl⟩
    replace h := nmE hu14 h
    refine xi_callV C (kX9_fail l D cT a_t a_t_text a_t_draft t_bytesHeld t_code t_wrongAt t_length u1.1 u1.2.1 u1.2.2 t_number 1 u13 hu14.symm) zcX9_fail zmX9_98 ziX9_fail (zr rfl rfl) z00 rfl [0] rfl rfl rfl [some 0, none] (by decide +kernel) (ws2 := [(a_t, .inr (9, [.ref a_t_text, .int t_bytesHeld, .ref a_t_draft, .int u13.2.1, .int u13.2.2, .int t_length, .int u1.1, .int u1.2.1, .int u1.2.2, .int t_number])), (a_t_text, .inl (cT 2, 500, .inl t_text))]) rfl zkX9.1 (qr := 0) rfl rfl (Nat.le_of_ble_eq_true rfl) dX9_readNumber_14 (fun z15 => ?_)
    obtain rfl := Option.some.inj h
    exact hE _ _ _ dX9_readNumber_17 rfl (z15 _ rfl _ rfl)
def fX9_readSemicolon (t_code : Int32) (t_wrongAt : Int32) (t_length : Int32) (t_end : Int32) (t_text : Nat → Int32) : Option (Int32 × Int32 × Int32 × Int32 × Int32 × Int32) := (fX9_nextToken t_length t_end t_text).bind (fun u1 => if u1.1 = 3 then some (1, t_code, t_wrongAt, u1.1, u1.2.1, u1.2.2) else nm (fX9_fail u1.2.1 1) (fun u5 => if u5.1 = 0 then some (0, u5.2.1, u5.2.2, u1.1, u1.2.1, u1.2.2) else some (1, u5.2.1, u5.2.2, u1.1, u1.2.1, u1.2.2)))
set_option maxRecDepth 100000 in
set_option maxHeartbeats 4000000 in
theorem kX9_readSemicolon (l : Launch) (D : va_G) (cT : Nat → ClassId) (a_t : Nat) (a_t_text : Nat) (a_t_draft : Nat) (t_bytesHeld : Int32) (t_code : Int32) (t_wrongAt : Int32) (t_length : Int32) (t_kind : Int32) (t_start : Int32) (t_end : Int32) (t_number : Int32) (t_text : Nat → Int32) (r : Int32 × Int32 × Int32 × Int32 × Int32 × Int32) (h : fX9_readSemicolon t_code t_wrongAt t_length t_end t_text = some r) : sM l yX9_readSemicolon cX9_readSemicolon 1 (some .boolean) (zR 3) D cT [.ref a_t] [(a_t, .inr (9, [.ref a_t_text, .int t_bytesHeld, .ref a_t_draft, .int t_code, .int t_wrongAt, .int t_length, .int t_kind, .int t_start, .int t_end, .int t_number])), (a_t_text, .inl (cT 2, 500, .inl t_text))] (some (.int r.1)) [(a_t, .inr (9, [.ref a_t_text, .int t_bytesHeld, .ref a_t_draft, .int r.2.1, .int r.2.2.1, .int t_length, .int r.2.2.2.1, .int r.2.2.2.2.1, .int r.2.2.2.2.2, .int t_number])), (a_t_text, .inl (cT 2, 500, .inl t_text))] := by
  refine sM_bool rfl (Nat.le_of_ble_eq_true rfl) ?_
  intro X C hE
  refine xi_drop (L2 := [(0, .ref a_t)]) [0] rfl ?_
  refine xi_aload_n C 0 dX9_readSemicolon_0 rfl ?_
  replace h := ob h
  obtain ⟨u1, hu2, h⟩ := h
  refine xi_callV C (kX9_nextToken l D cT a_t a_t_text a_t_draft t_bytesHeld t_code t_wrongAt t_length t_kind t_start t_end t_number t_text u1 hu2) zcX9_nextToken zmX9_56 ziX9_nextToken (zr rfl rfl) z00 rfl [0, 1] rfl rfl rfl [some 0, some 1] (by decide +kernel) (ws2 := [(a_t, .inr (9, [.ref a_t_text, .int t_bytesHeld, .ref a_t_draft, .int t_code, .int t_wrongAt, .int t_length, .int u1.1, .int u1.2.1, .int u1.2.2, .int t_number])), (a_t_text, .inl (cT 2, 500, .inl t_text))]) rfl zkX9.1 (qr := 0) rfl rfl (Nat.le_of_ble_eq_true rfl) dX9_readSemicolon_1 (fun z3 => ?_)
  refine xi_aload_n C 0 dX9_readSemicolon_4 rfl ?_
  refine xi_get C zkX9 6 0 zlX9_35 (by decide) rfl rfl dX9_readSemicolon_5 ?_
  refine xi_iconst C (v := 3) dX9_readSemicolon_8 rfl ?_
  refine xi_icmp_eq C (tgt := 20) dX9_readSemicolon_9 rfl (fun c4 => ?_) (fun c4 => ?_)
  · replace h := (if_pos c4).symm.trans h
    refine xi_iconst C (v := 1) dX9_readSemicolon_20 rfl ?_
    refine xi_goto C (tgt := 25) dX9_readSemicolon_21 rfl ?_
    obtain rfl := Option.some.inj h
    exact hE _ _ _ dX9_readSemicolon_25 rfl rfl
  · replace h := (if_neg c4).symm.trans h
    refine xi_aload_n C 0 dX9_readSemicolon_12 rfl ?_
    refine xi_iconst C (v := 1) dX9_readSemicolon_13 rfl ?_
    obtain ⟨u5, hu6⟩ : ∃ z, z = fX9_fail u1.2.1 1 := ⟨_, rfl⟩
    replace h := nmE hu6 h
    refine xi_callV C (kX9_fail l D cT a_t a_t_text a_t_draft t_bytesHeld t_code t_wrongAt t_length u1.1 u1.2.1 u1.2.2 t_number 1 u5 hu6.symm) zcX9_fail zmX9_98 ziX9_fail (zr rfl rfl) z00 rfl [0] rfl rfl rfl [some 0, none] (by decide +kernel) (ws2 := [(a_t, .inr (9, [.ref a_t_text, .int t_bytesHeld, .ref a_t_draft, .int u5.2.1, .int u5.2.2, .int t_length, .int u1.1, .int u1.2.1, .int u1.2.2, .int t_number])), (a_t_text, .inl (cT 2, 500, .inl t_text))]) rfl zkX9.1 (qr := 0) rfl rfl (Nat.le_of_ble_eq_true rfl) dX9_readSemicolon_14 (fun z7 => ?_)
    refine xi_if_eq C (tgt := 24) dX9_readSemicolon_17 rfl (fun c8 => ?_) (fun c8 => ?_)
    · replace h := (if_pos c8).symm.trans h
      refine xi_iconst C (v := 0) dX9_readSemicolon_24 rfl ?_
      obtain rfl := Option.some.inj h
      exact hE _ _ _ dX9_readSemicolon_25 rfl rfl
    · replace h := (if_neg c8).symm.trans h
      refine xi_iconst C (v := 1) dX9_readSemicolon_20 rfl ?_
      refine xi_goto C (tgt := 25) dX9_readSemicolon_21 rfl ?_
      obtain rfl := Option.some.inj h
      exact hE _ _ _ dX9_readSemicolon_25 rfl rfl
def fX9_readPeople (t_code : Int32) (t_wrongAt : Int32) (t_length : Int32) (t_kind : Int32) (t_start : Int32) (t_end : Int32) (t_number : Int32) (t_text : Nat → Int32) (t_draft_people : Int32) (x1 : Int32) : Option (Int32 × Int32 × Int32 × Int32 × Int32 × Int32 × Int32 × Int32) := if x1 = 0 then nm (fX9_fail t_start 2) (fun u9 => some (u9.1, u9.2.1, u9.2.2, t_kind, t_start, t_end, t_number, t_draft_people)) else (fX9_readNumber t_code t_wrongAt t_length t_end t_number t_text 2 10).bind (fun u2 => if u2.1 = 0 then some (0, u2.2.1, u2.2.2.1, u2.2.2.2.1, u2.2.2.2.2.1, u2.2.2.2.2.2.1, u2.2.2.2.2.2.2, t_draft_people) else (fX9_readSemicolon u2.2.1 u2.2.2.1 t_length u2.2.2.2.2.2.1 t_text).bind (fun u6 => some (u6.1, u6.2.1, u6.2.2.1, u6.2.2.2.1, u6.2.2.2.2.1, u6.2.2.2.2.2, u2.2.2.2.2.2.2, u2.2.2.2.2.2.2)))
set_option maxRecDepth 100000 in
set_option maxHeartbeats 4000000 in
theorem kX9_readPeople (l : Launch) (D : va_G) (cT : Nat → ClassId) (a_t : Nat) (a_t_text : Nat) (a_t_draft : Nat) (a_t_draft_first : Nat) (a_t_draft_second : Nat) (a_t_draft_cost : Nat) (a_t_draft_oneWay : Nat) (a_t_draft_breaks : Nat) (a_t_draft_absences : Nat) (t_bytesHeld : Int32) (t_code : Int32) (t_wrongAt : Int32) (t_length : Int32) (t_kind : Int32) (t_start : Int32) (t_end : Int32) (t_number : Int32) (t_text : Nat → Int32) (t_draft_people : Int32) (t_draft_lineCount : Int32) (x1 : Int32) (r : Int32 × Int32 × Int32 × Int32 × Int32 × Int32 × Int32 × Int32) (h : fX9_readPeople t_code t_wrongAt t_length t_kind t_start t_end t_number t_text t_draft_people x1 = some r) : sM l yX9_readPeople cX9_readPeople 2 (some .boolean) (zR 4) D cT [.ref a_t, .int x1] [(a_t, .inr (9, [.ref a_t_text, .int t_bytesHeld, .ref a_t_draft, .int t_code, .int t_wrongAt, .int t_length, .int t_kind, .int t_start, .int t_end, .int t_number])), (a_t_text, .inl (cT 2, 500, .inl t_text)), (a_t_draft, .inr (1, [.int t_draft_people, .int t_draft_lineCount, .ref a_t_draft_first, .ref a_t_draft_second, .ref a_t_draft_cost, .ref a_t_draft_oneWay, .ref a_t_draft_breaks, .ref a_t_draft_absences]))] (some (.int r.1)) [(a_t, .inr (9, [.ref a_t_text, .int t_bytesHeld, .ref a_t_draft, .int r.2.1, .int r.2.2.1, .int t_length, .int r.2.2.2.1, .int r.2.2.2.2.1, .int r.2.2.2.2.2.1, .int r.2.2.2.2.2.2.1])), (a_t_text, .inl (cT 2, 500, .inl t_text)), (a_t_draft, .inr (1, [.int r.2.2.2.2.2.2.2, .int t_draft_lineCount, .ref a_t_draft_first, .ref a_t_draft_second, .ref a_t_draft_cost, .ref a_t_draft_oneWay, .ref a_t_draft_breaks, .ref a_t_draft_absences]))] := by
  refine sM_bool rfl (Nat.le_of_ble_eq_true rfl) ?_
  intro X C hE
  refine xi_drop (L2 := [(0, .ref a_t), (1, .int x1)]) [0, 1] rfl ?_
  refine xi_iload_n C 1 dX9_readPeople_0 rfl ?_
  refine xi_if_ne C (tgt := 10) dX9_readPeople_1 rfl (fun c1 => ?_) (fun c1 => ?_)
  · replace h := (if_neg c1).symm.trans h
    refine xi_aload_n C 0 dX9_readPeople_10 rfl ?_
    refine xi_iconst C (v := 2) dX9_readPeople_11 rfl ?_
    refine xi_bipush C (v := 10) dX9_readPeople_12 rfl ?_
    replace h := ob h
    obtain ⟨u2, hu3, h⟩ := h
    refine xi_callV C (kX9_readNumber l D cT a_t a_t_text a_t_draft t_bytesHeld t_code t_wrongAt t_length t_kind t_start t_end t_number t_text 2 10 u2 hu3) zcX9_readNumber zmX9_102 ziX9_readNumber (zr rfl rfl) z00 rfl [0, 1] rfl rfl rfl [some 0, some 1, none] (by decide +kernel) (ws2 := [(a_t, .inr (9, [.ref a_t_text, .int t_bytesHeld, .ref a_t_draft, .int u2.2.1, .int u2.2.2.1, .int t_length, .int u2.2.2.2.1, .int u2.2.2.2.2.1, .int u2.2.2.2.2.2.1, .int u2.2.2.2.2.2.2])), (a_t_text, .inl (cT 2, 500, .inl t_text)), (a_t_draft, .inr (1, [.int t_draft_people, .int t_draft_lineCount, .ref a_t_draft_first, .ref a_t_draft_second, .ref a_t_draft_cost, .ref a_t_draft_oneWay, .ref a_t_draft_breaks, .ref a_t_draft_absences]))]) rfl zkX9.1 (qr := 0) rfl rfl (Nat.le_of_ble_eq_true rfl) dX9_readPeople_14 (fun z4 => ?_)
    refine xi_if_ne C (tgt := 22) dX9_readPeople_17 rfl (fun c5 => ?_) (fun c5 => ?_)
    · replace h := (if_neg c5).symm.trans h
      refine xi_aload_n C 0 dX9_readPeople_22 rfl ?_
      refine xi_get C zkX9 2 0 zlX9_22 (by decide) rfl rfl dX9_readPeople_23 ?_
      refine xi_aload_n C 0 dX9_readPeople_26 rfl ?_
      refine xi_get C zkX9 9 0 zlX9_44 (by decide) rfl rfl dX9_readPeople_27 ?_
      refine xi_put C zkX1 0 2 zlX9_96 (by decide) rfl rfl rfl rfl (Nat.le_of_ble_eq_true rfl) dX9_readPeople_30 (ws2 := [(a_t, .inr (9, [.ref a_t_text, .int t_bytesHeld, .ref a_t_draft, .int u2.2.1, .int u2.2.2.1, .int t_length, .int u2.2.2.2.1, .int u2.2.2.2.2.1, .int u2.2.2.2.2.2.1, .int u2.2.2.2.2.2.2])), (a_t_text, .inl (cT 2, 500, .inl t_text)), (a_t_draft, .inr (1, [.int u2.2.2.2.2.2.2, .int t_draft_lineCount, .ref a_t_draft_first, .ref a_t_draft_second, .ref a_t_draft_cost, .ref a_t_draft_oneWay, .ref a_t_draft_breaks, .ref a_t_draft_absences]))]) rfl ?_
      refine xi_aload_n C 0 dX9_readPeople_33 rfl ?_
      replace h := ob h
      obtain ⟨u6, hu7, h⟩ := h
      refine xi_callV C (kX9_readSemicolon l D cT a_t a_t_text a_t_draft t_bytesHeld u2.2.1 u2.2.2.1 t_length u2.2.2.2.1 u2.2.2.2.2.1 u2.2.2.2.2.2.1 u2.2.2.2.2.2.2 t_text u6 hu7) zcX9_readSemicolon zmX9_106 ziX9_readSemicolon (zr rfl rfl) z00 rfl [0, 1] rfl rfl rfl [some 0, some 1, none] (by decide +kernel) (ws2 := [(a_t, .inr (9, [.ref a_t_text, .int t_bytesHeld, .ref a_t_draft, .int u6.2.1, .int u6.2.2.1, .int t_length, .int u6.2.2.2.1, .int u6.2.2.2.2.1, .int u6.2.2.2.2.2, .int u2.2.2.2.2.2.2])), (a_t_text, .inl (cT 2, 500, .inl t_text)), (a_t_draft, .inr (1, [.int u2.2.2.2.2.2.2, .int t_draft_lineCount, .ref a_t_draft_first, .ref a_t_draft_second, .ref a_t_draft_cost, .ref a_t_draft_oneWay, .ref a_t_draft_breaks, .ref a_t_draft_absences]))]) rfl zkX9.1 (qr := 0) rfl rfl (Nat.le_of_ble_eq_true rfl) dX9_readPeople_34 (fun z8 => ?_)
      obtain rfl := Option.some.inj h
      exact hE _ _ _ dX9_readPeople_37 rfl (z8 _ rfl _ rfl)
    · replace h := (if_pos c5).symm.trans h
      refine xi_iconst C (v := 0) dX9_readPeople_20 rfl ?_
      obtain rfl := Option.some.inj h
      exact hE _ _ _ dX9_readPeople_21 rfl rfl
  · replace h := (if_pos c1).symm.trans h
    refine xi_aload_n C 0 dX9_readPeople_4 rfl ?_
    refine xi_iconst C (v := 2) dX9_readPeople_5 rfl ?_
    obtain ⟨u9, hu10⟩ : ∃ z, z = fX9_fail t_start 2 := ⟨_, rfl⟩
    replace h := nmE hu10 h
    refine xi_callV C (kX9_fail l D cT a_t a_t_text a_t_draft t_bytesHeld t_code t_wrongAt t_length t_kind t_start t_end t_number 2 u9 hu10.symm) zcX9_fail zmX9_98 ziX9_fail (zr rfl rfl) z00 rfl [0] rfl rfl rfl [some 0, none, none] (by decide +kernel) (ws2 := [(a_t, .inr (9, [.ref a_t_text, .int t_bytesHeld, .ref a_t_draft, .int u9.2.1, .int u9.2.2, .int t_length, .int t_kind, .int t_start, .int t_end, .int t_number])), (a_t_text, .inl (cT 2, 500, .inl t_text)), (a_t_draft, .inr (1, [.int t_draft_people, .int t_draft_lineCount, .ref a_t_draft_first, .ref a_t_draft_second, .ref a_t_draft_cost, .ref a_t_draft_oneWay, .ref a_t_draft_breaks, .ref a_t_draft_absences]))]) rfl zkX9.1 (qr := 0) rfl rfl (Nat.le_of_ble_eq_true rfl) dX9_readPeople_6 (fun z11 => ?_)
    obtain rfl := Option.some.inj h
    exact hE _ _ _ dX9_readPeople_9 rfl (z11 _ rfl _ rfl)
def fX9_readLine_b105 (t_length : Int32) (t_text : Nat → Int32) (y1 : Int32) (y2 : Int32) (y3 : Int32) (t_code : Int32) (t_wrongAt : Int32) (t_end : Int32) (t_number : Int32) (t_draft_lineCount : Int32) (t_draft_first : Nat → Int32) (t_draft_second : Nat → Int32) (t_draft_cost : Nat → Int32) (t_draft_oneWay : Nat → Int32) : Option (Int32 × Int32 × Int32 × Int32 × Int32 × Int32 × Int32 × Int32 × (Nat → Int32) × (Nat → Int32) × (Nat → Int32) × (Nat → Int32)) := (fX9_readNumber t_code t_wrongAt t_length t_end t_number t_text 0 999).bind (fun u21 => if u21.1 = 0 then some (0, u21.2.1, u21.2.2.1, u21.2.2.2.1, u21.2.2.2.2.1, u21.2.2.2.2.2.1, u21.2.2.2.2.2.2, t_draft_lineCount, t_draft_first, t_draft_second, t_draft_cost, t_draft_oneWay) else (fX1_addLine t_draft_lineCount t_draft_first t_draft_second t_draft_cost t_draft_oneWay y1 y2 y3 u21.2.2.2.2.2.2).bind (fun u25 => (fX9_readSemicolon u21.2.1 u21.2.2.1 t_length u21.2.2.2.2.2.1 t_text).bind (fun u28 => some (u28.1, u28.2.1, u28.2.2.1, u28.2.2.2.1, u28.2.2.2.2.1, u28.2.2.2.2.2, u21.2.2.2.2.2.2, u25.1, u25.2.1, u25.2.2.1, u25.2.2.2.1, u25.2.2.2.2))))
def fX9_readLine (t_code : Int32) (t_wrongAt : Int32) (t_length : Int32) (t_kind : Int32) (t_start : Int32) (t_end : Int32) (t_number : Int32) (t_text : Nat → Int32) (t_draft_people : Int32) (t_draft_lineCount : Int32) (t_draft_first : Nat → Int32) (t_draft_second : Nat → Int32) (t_draft_cost : Nat → Int32) (t_draft_oneWay : Nat → Int32) : Option (Int32 × Int32 × Int32 × Int32 × Int32 × Int32 × Int32 × Int32 × (Nat → Int32) × (Nat → Int32) × (Nat → Int32) × (Nat → Int32)) := if (fX1_isFull t_draft_lineCount) = 0 then (fX9_readNumber t_code t_wrongAt t_length t_end t_number t_text 0 (t_draft_people - 1)).bind (fun u5 => if u5.1 = 0 then some (0, u5.2.1, u5.2.2.1, u5.2.2.2.1, u5.2.2.2.2.1, u5.2.2.2.2.2.1, u5.2.2.2.2.2.2, t_draft_lineCount, t_draft_first, t_draft_second, t_draft_cost, t_draft_oneWay) else (fX9_readNumber u5.2.1 u5.2.2.1 t_length u5.2.2.2.2.2.1 u5.2.2.2.2.2.2 t_text 0 (t_draft_people - 1)).bind (fun u9 => if u9.1 = 0 then some (0, u9.2.1, u9.2.2.1, u9.2.2.2.1, u9.2.2.2.2.1, u9.2.2.2.2.2.1, u9.2.2.2.2.2.2, t_draft_lineCount, t_draft_first, t_draft_second, t_draft_cost, t_draft_oneWay) else if u9.2.2.2.2.2.2 = u5.2.2.2.2.2.2 then nm (fX9_fail u9.2.2.2.2.1 3) (fun u38 => some (u38.1, u38.2.1, u38.2.2, u9.2.2.2.1, u9.2.2.2.2.1, u9.2.2.2.2.2.1, u9.2.2.2.2.2.2, t_draft_lineCount, t_draft_first, t_draft_second, t_draft_cost, t_draft_oneWay)) else (fX9_nextToken t_length u9.2.2.2.2.2.1 t_text).bind (fun u14 => (fX9_isWord u14.1 u14.2.1 u14.2.2 t_text 4).bind (fun u17 => if u17 = 0 then (fX9_isWord u14.1 u14.2.1 u14.2.2 t_text 5).bind (fun u31 => if u31 = 0 then nm (fX9_fail u14.2.1 1) (fun u35 => some (u35.1, u35.2.1, u35.2.2, u14.1, u14.2.1, u14.2.2, u9.2.2.2.2.2.2, t_draft_lineCount, t_draft_first, t_draft_second, t_draft_cost, t_draft_oneWay)) else fX9_readLine_b105 t_length t_text u5.2.2.2.2.2.2 u9.2.2.2.2.2.2 u17 u9.2.1 u9.2.2.1 u14.2.2 u9.2.2.2.2.2.2 t_draft_lineCount t_draft_first t_draft_second t_draft_cost t_draft_oneWay) else fX9_readLine_b105 t_length t_text u5.2.2.2.2.2.2 u9.2.2.2.2.2.2 u17 u9.2.1 u9.2.2.1 u14.2.2 u9.2.2.2.2.2.2 t_draft_lineCount t_draft_first t_draft_second t_draft_cost t_draft_oneWay)))) else nm (fX9_fail t_start 4) (fun u41 => some (u41.1, u41.2.1, u41.2.2, t_kind, t_start, t_end, t_number, t_draft_lineCount, t_draft_first, t_draft_second, t_draft_cost, t_draft_oneWay))
set_option maxRecDepth 100000 in
set_option maxHeartbeats 4000000 in
theorem kX9_readLine (l : Launch) (D : va_G) (cT : Nat → ClassId) (a_t : Nat) (a_t_text : Nat) (a_t_draft : Nat) (a_t_draft_first : Nat) (a_t_draft_second : Nat) (a_t_draft_cost : Nat) (a_t_draft_oneWay : Nat) (a_t_draft_breaks : Nat) (a_t_draft_absences : Nat) (t_bytesHeld : Int32) (t_code : Int32) (t_wrongAt : Int32) (t_length : Int32) (t_kind : Int32) (t_start : Int32) (t_end : Int32) (t_number : Int32) (t_text : Nat → Int32) (t_draft_people : Int32) (t_draft_lineCount : Int32) (t_draft_first : Nat → Int32) (t_draft_second : Nat → Int32) (t_draft_cost : Nat → Int32) (t_draft_oneWay : Nat → Int32) (r : Int32 × Int32 × Int32 × Int32 × Int32 × Int32 × Int32 × Int32 × (Nat → Int32) × (Nat → Int32) × (Nat → Int32) × (Nat → Int32)) (h : fX9_readLine t_code t_wrongAt t_length t_kind t_start t_end t_number t_text t_draft_people t_draft_lineCount t_draft_first t_draft_second t_draft_cost t_draft_oneWay = some r) : sM l yX9_readLine cX9_readLine 4 (some .boolean) (zR 6) D cT [.ref a_t] [(a_t, .inr (9, [.ref a_t_text, .int t_bytesHeld, .ref a_t_draft, .int t_code, .int t_wrongAt, .int t_length, .int t_kind, .int t_start, .int t_end, .int t_number])), (a_t_text, .inl (cT 2, 500, .inl t_text)), (a_t_draft, .inr (1, [.int t_draft_people, .int t_draft_lineCount, .ref a_t_draft_first, .ref a_t_draft_second, .ref a_t_draft_cost, .ref a_t_draft_oneWay, .ref a_t_draft_breaks, .ref a_t_draft_absences])), (a_t_draft_first, .inl (cT 0, 24, .inl t_draft_first)), (a_t_draft_second, .inl (cT 0, 24, .inl t_draft_second)), (a_t_draft_cost, .inl (cT 0, 24, .inl t_draft_cost)), (a_t_draft_oneWay, .inl (cT 3, 24, .inl t_draft_oneWay))] (some (.int r.1)) [(a_t, .inr (9, [.ref a_t_text, .int t_bytesHeld, .ref a_t_draft, .int r.2.1, .int r.2.2.1, .int t_length, .int r.2.2.2.1, .int r.2.2.2.2.1, .int r.2.2.2.2.2.1, .int r.2.2.2.2.2.2.1])), (a_t_text, .inl (cT 2, 500, .inl t_text)), (a_t_draft, .inr (1, [.int t_draft_people, .int r.2.2.2.2.2.2.2.1, .ref a_t_draft_first, .ref a_t_draft_second, .ref a_t_draft_cost, .ref a_t_draft_oneWay, .ref a_t_draft_breaks, .ref a_t_draft_absences])), (a_t_draft_first, .inl (cT 0, 24, .inl r.2.2.2.2.2.2.2.2.1)), (a_t_draft_second, .inl (cT 0, 24, .inl r.2.2.2.2.2.2.2.2.2.1)), (a_t_draft_cost, .inl (cT 0, 24, .inl r.2.2.2.2.2.2.2.2.2.2.1)), (a_t_draft_oneWay, .inl (cT 3, 24, .inl r.2.2.2.2.2.2.2.2.2.2.2))] := by
  refine sM_bool rfl (Nat.le_of_ble_eq_true rfl) ?_
  intro X C hE
  have B105 : ∀ (y1 : Int32) (y2 : Int32) (y3 : Int32) (t_code : Int32) (t_wrongAt : Int32) (t_kind : Int32) (t_start : Int32) (t_end : Int32) (t_number : Int32) (t_draft_lineCount : Int32) (t_draft_first : Nat → Int32) (t_draft_second : Nat → Int32) (t_draft_cost : Nat → Int32) (t_draft_oneWay : Nat → Int32), fX9_readLine_b105 t_length t_text y1 y2 y3 t_code t_wrongAt t_end t_number t_draft_lineCount t_draft_first t_draft_second t_draft_cost t_draft_oneWay = some r → sW X l (zR 6) D 4 0 0 105 [(0, .ref a_t), (1, .int y1), (2, .int y2), (3, .int y3)] [] [(a_t, .inr (9, [.ref a_t_text, .int t_bytesHeld, .ref a_t_draft, .int t_code, .int t_wrongAt, .int t_length, .int t_kind, .int t_start, .int t_end, .int t_number])), (a_t_text, .inl (cT 2, 500, .inl t_text)), (a_t_draft, .inr (1, [.int t_draft_people, .int t_draft_lineCount, .ref a_t_draft_first, .ref a_t_draft_second, .ref a_t_draft_cost, .ref a_t_draft_oneWay, .ref a_t_draft_breaks, .ref a_t_draft_absences])), (a_t_draft_first, .inl (cT 0, 24, .inl t_draft_first)), (a_t_draft_second, .inl (cT 0, 24, .inl t_draft_second)), (a_t_draft_cost, .inl (cT 0, 24, .inl t_draft_cost)), (a_t_draft_oneWay, .inl (cT 3, 24, .inl t_draft_oneWay))] := by
    intro y1 y2 y3 t_code t_wrongAt t_kind t_start t_end t_number t_draft_lineCount t_draft_first t_draft_second t_draft_cost t_draft_oneWay h
    refine xi_aload_n C 0 dX9_readLine_105 rfl ?_
    refine xi_iconst C (v := 0) dX9_readLine_106 rfl ?_
    refine xi_sipush C (v := 999) dX9_readLine_107 rfl ?_
    replace h := ob h
    obtain ⟨u21, hu22, h⟩ := h
    refine xi_callV C (kX9_readNumber l D cT a_t a_t_text a_t_draft t_bytesHeld t_code t_wrongAt t_length t_kind t_start t_end t_number t_text 0 999 u21 hu22) zcX9_readNumber zmX9_102 ziX9_readNumber (zr rfl rfl) z00 rfl [0, 1] rfl rfl rfl [some 0, some 1, none, none, none, none, none] (by decide +kernel) (ws2 := [(a_t, .inr (9, [.ref a_t_text, .int t_bytesHeld, .ref a_t_draft, .int u21.2.1, .int u21.2.2.1, .int t_length, .int u21.2.2.2.1, .int u21.2.2.2.2.1, .int u21.2.2.2.2.2.1, .int u21.2.2.2.2.2.2])), (a_t_text, .inl (cT 2, 500, .inl t_text)), (a_t_draft, .inr (1, [.int t_draft_people, .int t_draft_lineCount, .ref a_t_draft_first, .ref a_t_draft_second, .ref a_t_draft_cost, .ref a_t_draft_oneWay, .ref a_t_draft_breaks, .ref a_t_draft_absences])), (a_t_draft_first, .inl (cT 0, 24, .inl t_draft_first)), (a_t_draft_second, .inl (cT 0, 24, .inl t_draft_second)), (a_t_draft_cost, .inl (cT 0, 24, .inl t_draft_cost)), (a_t_draft_oneWay, .inl (cT 3, 24, .inl t_draft_oneWay))]) rfl zkX9.1 (qr := 0) rfl rfl (Nat.le_of_ble_eq_true rfl) dX9_readLine_110 (fun z23 => ?_)
    refine xi_if_ne C (tgt := 118) dX9_readLine_113 rfl (fun c24 => ?_) (fun c24 => ?_)
    · replace h := (if_neg c24).symm.trans h
      refine xi_aload_n C 0 dX9_readLine_118 rfl ?_
      refine xi_get C zkX9 2 0 zlX9_22 (by decide) rfl rfl dX9_readLine_119 ?_
      refine xi_iload_n C 1 dX9_readLine_122 rfl ?_
      refine xi_iload_n C 2 dX9_readLine_123 rfl ?_
      refine xi_iload_n C 3 dX9_readLine_124 rfl ?_
      refine xi_aload_n C 0 dX9_readLine_125 rfl ?_
      refine xi_get C zkX9 9 0 zlX9_44 (by decide) rfl rfl dX9_readLine_126 ?_
      replace h := ob h
      obtain ⟨u25, hu26, h⟩ := h
      refine xi_callV C (kX1_addLine l D cT a_t_draft a_t_draft_first a_t_draft_second a_t_draft_cost a_t_draft_oneWay a_t_draft_breaks a_t_draft_absences t_draft_people t_draft_lineCount t_draft_first t_draft_second t_draft_cost t_draft_oneWay y1 y2 y3 u21.2.2.2.2.2.2 u25 hu26) zcX1_addLine zmX9_116 ziX1_addLine (zr rfl rfl) z00 rfl [2, 3, 4, 5, 6] rfl rfl rfl [none, none, some 0, some 1, some 2, some 3, some 4] (by decide +kernel) (ws2 := [(a_t, .inr (9, [.ref a_t_text, .int t_bytesHeld, .ref a_t_draft, .int u21.2.1, .int u21.2.2.1, .int t_length, .int u21.2.2.2.1, .int u21.2.2.2.2.1, .int u21.2.2.2.2.2.1, .int u21.2.2.2.2.2.2])), (a_t_text, .inl (cT 2, 500, .inl t_text)), (a_t_draft, .inr (1, [.int t_draft_people, .int u25.1, .ref a_t_draft_first, .ref a_t_draft_second, .ref a_t_draft_cost, .ref a_t_draft_oneWay, .ref a_t_draft_breaks, .ref a_t_draft_absences])), (a_t_draft_first, .inl (cT 0, 24, .inl u25.2.1)), (a_t_draft_second, .inl (cT 0, 24, .inl u25.2.2.1)), (a_t_draft_cost, .inl (cT 0, 24, .inl u25.2.2.2.1)), (a_t_draft_oneWay, .inl (cT 3, 24, .inl u25.2.2.2.2))]) rfl zkX1.1 (qr := 2) rfl rfl (Nat.le_of_ble_eq_true rfl) dX9_readLine_129 (fun z27 => ?_)
      refine xi_aload_n C 0 dX9_readLine_132 rfl ?_
      replace h := ob h
      obtain ⟨u28, hu29, h⟩ := h
      refine xi_callV C (kX9_readSemicolon l D cT a_t a_t_text a_t_draft t_bytesHeld u21.2.1 u21.2.2.1 t_length u21.2.2.2.1 u21.2.2.2.2.1 u21.2.2.2.2.2.1 u21.2.2.2.2.2.2 t_text u28 hu29) zcX9_readSemicolon zmX9_106 ziX9_readSemicolon (zr rfl rfl) z00 rfl [0, 1] rfl rfl rfl [some 0, some 1, none, none, none, none, none] (by decide +kernel) (ws2 := [(a_t, .inr (9, [.ref a_t_text, .int t_bytesHeld, .ref a_t_draft, .int u28.2.1, .int u28.2.2.1, .int t_length, .int u28.2.2.2.1, .int u28.2.2.2.2.1, .int u28.2.2.2.2.2, .int u21.2.2.2.2.2.2])), (a_t_text, .inl (cT 2, 500, .inl t_text)), (a_t_draft, .inr (1, [.int t_draft_people, .int u25.1, .ref a_t_draft_first, .ref a_t_draft_second, .ref a_t_draft_cost, .ref a_t_draft_oneWay, .ref a_t_draft_breaks, .ref a_t_draft_absences])), (a_t_draft_first, .inl (cT 0, 24, .inl u25.2.1)), (a_t_draft_second, .inl (cT 0, 24, .inl u25.2.2.1)), (a_t_draft_cost, .inl (cT 0, 24, .inl u25.2.2.2.1)), (a_t_draft_oneWay, .inl (cT 3, 24, .inl u25.2.2.2.2))]) rfl zkX9.1 (qr := 0) rfl rfl (Nat.le_of_ble_eq_true rfl) dX9_readLine_133 (fun z30 => ?_)
      obtain rfl := Option.some.inj h
      exact hE _ _ _ dX9_readLine_136 rfl (z30 _ rfl _ rfl)
    · replace h := (if_pos c24).symm.trans h
      refine xi_iconst C (v := 0) dX9_readLine_116 rfl ?_
      obtain rfl := Option.some.inj h
      exact hE _ _ _ dX9_readLine_117 rfl rfl
  refine xi_drop (L2 := [(0, .ref a_t)]) [0] rfl ?_
  refine xi_aload_n C 0 dX9_readLine_0 rfl ?_
  refine xi_get C zkX9 2 0 zlX9_22 (by decide) rfl rfl dX9_readLine_1 ?_
  refine xi_callVr C (kX1_isFull l D cT a_t_draft a_t_draft_first a_t_draft_second a_t_draft_cost a_t_draft_oneWay a_t_draft_breaks a_t_draft_absences t_draft_people t_draft_lineCount (fX1_isFull t_draft_lineCount) rfl) zcX1_isFull zmX9_109 ziX1_isFull (zr rfl rfl) z00 rfl [2] rfl rfl zkX1.1 (qr := 2) rfl rfl (Nat.le_of_ble_eq_true rfl) dX9_readLine_4 (fun z3 => ?_)
  refine xi_if_eq C (tgt := 16) dX9_readLine_7 rfl (fun c4 => ?_) (fun c4 => ?_)
  · replace h := (if_pos c4).symm.trans h
    refine xi_aload_n C 0 dX9_readLine_16 rfl ?_
    refine xi_iconst C (v := 0) dX9_readLine_17 rfl ?_
    refine xi_aload_n C 0 dX9_readLine_18 rfl ?_
    refine xi_get C zkX9 2 0 zlX9_22 (by decide) rfl rfl dX9_readLine_19 ?_
    refine xi_get C zkX1 0 2 zlX9_96 (by decide) rfl rfl dX9_readLine_22 ?_
    refine xi_iconst C (v := 1) dX9_readLine_25 rfl ?_
    refine xi_isub C dX9_readLine_26 ?_
    replace h := ob h
    obtain ⟨u5, hu6, h⟩ := h
    refine xi_callV C (kX9_readNumber l D cT a_t a_t_text a_t_draft t_bytesHeld t_code t_wrongAt t_length t_kind t_start t_end t_number t_text 0 (t_draft_people - 1) u5 hu6) zcX9_readNumber zmX9_102 ziX9_readNumber (zr rfl rfl) z00 rfl [0, 1] rfl rfl rfl [some 0, some 1, none, none, none, none, none] (by decide +kernel) (ws2 := [(a_t, .inr (9, [.ref a_t_text, .int t_bytesHeld, .ref a_t_draft, .int u5.2.1, .int u5.2.2.1, .int t_length, .int u5.2.2.2.1, .int u5.2.2.2.2.1, .int u5.2.2.2.2.2.1, .int u5.2.2.2.2.2.2])), (a_t_text, .inl (cT 2, 500, .inl t_text)), (a_t_draft, .inr (1, [.int t_draft_people, .int t_draft_lineCount, .ref a_t_draft_first, .ref a_t_draft_second, .ref a_t_draft_cost, .ref a_t_draft_oneWay, .ref a_t_draft_breaks, .ref a_t_draft_absences])), (a_t_draft_first, .inl (cT 0, 24, .inl t_draft_first)), (a_t_draft_second, .inl (cT 0, 24, .inl t_draft_second)), (a_t_draft_cost, .inl (cT 0, 24, .inl t_draft_cost)), (a_t_draft_oneWay, .inl (cT 3, 24, .inl t_draft_oneWay))]) rfl zkX9.1 (qr := 0) rfl rfl (Nat.le_of_ble_eq_true rfl) dX9_readLine_27 (fun z7 => ?_)
    refine xi_if_ne C (tgt := 35) dX9_readLine_30 rfl (fun c8 => ?_) (fun c8 => ?_)
    · replace h := (if_neg c8).symm.trans h
      refine xi_aload_n C 0 dX9_readLine_35 rfl ?_
      refine xi_get C zkX9 9 0 zlX9_44 (by decide) rfl rfl dX9_readLine_36 ?_
      refine xi_istore_n C [1, 0] (L2 := [(0, .ref a_t), (1, .int u5.2.2.2.2.2.2)]) dX9_readLine_39 (Nat.le_of_ble_eq_true rfl) rfl ?_
      refine xi_aload_n C 0 dX9_readLine_40 rfl ?_
      refine xi_iconst C (v := 0) dX9_readLine_41 rfl ?_
      refine xi_aload_n C 0 dX9_readLine_42 rfl ?_
      refine xi_get C zkX9 2 0 zlX9_22 (by decide) rfl rfl dX9_readLine_43 ?_
      refine xi_get C zkX1 0 2 zlX9_96 (by decide) rfl rfl dX9_readLine_46 ?_
      refine xi_iconst C (v := 1) dX9_readLine_49 rfl ?_
      refine xi_isub C dX9_readLine_50 ?_
      replace h := ob h
      obtain ⟨u9, hu10, h⟩ := h
      refine xi_callV C (kX9_readNumber l D cT a_t a_t_text a_t_draft t_bytesHeld u5.2.1 u5.2.2.1 t_length u5.2.2.2.1 u5.2.2.2.2.1 u5.2.2.2.2.2.1 u5.2.2.2.2.2.2 t_text 0 (t_draft_people - 1) u9 hu10) zcX9_readNumber zmX9_102 ziX9_readNumber (zr rfl rfl) z00 rfl [0, 1] rfl rfl rfl [some 0, some 1, none, none, none, none, none] (by decide +kernel) (ws2 := [(a_t, .inr (9, [.ref a_t_text, .int t_bytesHeld, .ref a_t_draft, .int u9.2.1, .int u9.2.2.1, .int t_length, .int u9.2.2.2.1, .int u9.2.2.2.2.1, .int u9.2.2.2.2.2.1, .int u9.2.2.2.2.2.2])), (a_t_text, .inl (cT 2, 500, .inl t_text)), (a_t_draft, .inr (1, [.int t_draft_people, .int t_draft_lineCount, .ref a_t_draft_first, .ref a_t_draft_second, .ref a_t_draft_cost, .ref a_t_draft_oneWay, .ref a_t_draft_breaks, .ref a_t_draft_absences])), (a_t_draft_first, .inl (cT 0, 24, .inl t_draft_first)), (a_t_draft_second, .inl (cT 0, 24, .inl t_draft_second)), (a_t_draft_cost, .inl (cT 0, 24, .inl t_draft_cost)), (a_t_draft_oneWay, .inl (cT 3, 24, .inl t_draft_oneWay))]) rfl zkX9.1 (qr := 0) rfl rfl (Nat.le_of_ble_eq_true rfl) dX9_readLine_51 (fun z11 => ?_)
      refine xi_if_ne C (tgt := 59) dX9_readLine_54 rfl (fun c12 => ?_) (fun c12 => ?_)
      · replace h := (if_neg c12).symm.trans h
        refine xi_aload_n C 0 dX9_readLine_59 rfl ?_
        refine xi_get C zkX9 9 0 zlX9_44 (by decide) rfl rfl dX9_readLine_60 ?_
        refine xi_istore_n C [1, 2, 0] (L2 := [(0, .ref a_t), (1, .int u5.2.2.2.2.2.2), (2, .int u9.2.2.2.2.2.2)]) dX9_readLine_63 (Nat.le_of_ble_eq_true rfl) rfl ?_
        refine xi_iload_n C 2 dX9_readLine_64 rfl ?_
        refine xi_iload_n C 1 dX9_readLine_65 rfl ?_
        refine xi_icmp_ne C (tgt := 75) dX9_readLine_66 rfl (fun c13 => ?_) (fun c13 => ?_)
        · replace h := (if_neg c13).symm.trans h
          refine xi_aload_n C 0 dX9_readLine_75 rfl ?_
          replace h := ob h
          obtain ⟨u14, hu15, h⟩ := h
          refine xi_callV C (kX9_nextToken l D cT a_t a_t_text a_t_draft t_bytesHeld u9.2.1 u9.2.2.1 t_length u9.2.2.2.1 u9.2.2.2.2.1 u9.2.2.2.2.2.1 u9.2.2.2.2.2.2 t_text u14 hu15) zcX9_nextToken zmX9_56 ziX9_nextToken (zr rfl rfl) z00 rfl [0, 1] rfl rfl rfl [some 0, some 1, none, none, none, none, none] (by decide +kernel) (ws2 := [(a_t, .inr (9, [.ref a_t_text, .int t_bytesHeld, .ref a_t_draft, .int u9.2.1, .int u9.2.2.1, .int t_length, .int u14.1, .int u14.2.1, .int u14.2.2, .int u9.2.2.2.2.2.2])), (a_t_text, .inl (cT 2, 500, .inl t_text)), (a_t_draft, .inr (1, [.int t_draft_people, .int t_draft_lineCount, .ref a_t_draft_first, .ref a_t_draft_second, .ref a_t_draft_cost, .ref a_t_draft_oneWay, .ref a_t_draft_breaks, .ref a_t_draft_absences])), (a_t_draft_first, .inl (cT 0, 24, .inl t_draft_first)), (a_t_draft_second, .inl (cT 0, 24, .inl t_draft_second)), (a_t_draft_cost, .inl (cT 0, 24, .inl t_draft_cost)), (a_t_draft_oneWay, .inl (cT 3, 24, .inl t_draft_oneWay))]) rfl zkX9.1 (qr := 0) rfl rfl (Nat.le_of_ble_eq_true rfl) dX9_readLine_76 (fun z16 => ?_)
          refine xi_aload_n C 0 dX9_readLine_79 rfl ?_
          refine xi_ldcS C (List.mem_of_getElem? (i := 2) rfl) dX9_readLine_80 ?_
          replace h := ob h
          obtain ⟨u17, hu18, h⟩ := h
          refine xi_callVr C (kX9_isWord l D cT a_t a_t_text a_t_draft t_bytesHeld u9.2.1 u9.2.2.1 t_length u14.1 u14.2.1 u14.2.2 u9.2.2.2.2.2.2 t_text 4 (by decide) u17 hu18) zcX9_isWord zmX9_65 ziX9_isWord (zr rfl rfl) z00 rfl [0, 1] rfl rfl zkX9.1 (qr := 0) rfl rfl (Nat.le_of_ble_eq_true rfl) dX9_readLine_82 (fun z19 => ?_)
          refine xi_istore_n C [1, 2, 3, 0] (L2 := [(0, .ref a_t), (1, .int u5.2.2.2.2.2.2), (2, .int u9.2.2.2.2.2.2), (3, .int u17)]) dX9_readLine_85 (Nat.le_of_ble_eq_true rfl) rfl ?_
          refine xi_iload_n C 3 dX9_readLine_86 rfl ?_
          refine xi_if_ne C (tgt := 105) dX9_readLine_87 rfl (fun c20 => ?_) (fun c20 => ?_)
          · replace h := (if_neg c20).symm.trans h
            exact B105 u5.2.2.2.2.2.2 u9.2.2.2.2.2.2 u17 u9.2.1 u9.2.2.1 u14.1 u14.2.1 u14.2.2 u9.2.2.2.2.2.2 t_draft_lineCount t_draft_first t_draft_second t_draft_cost t_draft_oneWay h
          · replace h := (if_pos c20).symm.trans h
            refine xi_aload_n C 0 dX9_readLine_90 rfl ?_
            refine xi_ldcS C (List.mem_of_getElem? (i := 3) rfl) dX9_readLine_91 ?_
            replace h := ob h
            obtain ⟨u31, hu32, h⟩ := h
            refine xi_callVr C (kX9_isWord l D cT a_t a_t_text a_t_draft t_bytesHeld u9.2.1 u9.2.2.1 t_length u14.1 u14.2.1 u14.2.2 u9.2.2.2.2.2.2 t_text 5 (by decide) u31 hu32) zcX9_isWord zmX9_65 ziX9_isWord (zr rfl rfl) z00 rfl [0, 1] rfl rfl zkX9.1 (qr := 0) rfl rfl (Nat.le_of_ble_eq_true rfl) dX9_readLine_93 (fun z33 => ?_)
            refine xi_if_ne C (tgt := 105) dX9_readLine_96 rfl (fun c34 => ?_) (fun c34 => ?_)
            · replace h := (if_neg c34).symm.trans h
              exact B105 u5.2.2.2.2.2.2 u9.2.2.2.2.2.2 u17 u9.2.1 u9.2.2.1 u14.1 u14.2.1 u14.2.2 u9.2.2.2.2.2.2 t_draft_lineCount t_draft_first t_draft_second t_draft_cost t_draft_oneWay h
            · replace h := (if_pos c34).symm.trans h
              refine xi_aload_n C 0 dX9_readLine_99 rfl ?_
              refine xi_iconst C (v := 1) dX9_readLine_100 rfl ?_
              obtain ⟨u35, hu36⟩ : ∃ z, z = fX9_fail u14.2.1 1 := ⟨_, rfl⟩
              replace h := nmE hu36 h
              refine xi_callV C (kX9_fail l D cT a_t a_t_text a_t_draft t_bytesHeld u9.2.1 u9.2.2.1 t_length u14.1 u14.2.1 u14.2.2 u9.2.2.2.2.2.2 1 u35 hu36.symm) zcX9_fail zmX9_98 ziX9_fail (zr rfl rfl) z00 rfl [0] rfl rfl rfl [some 0, none, none, none, none, none, none] (by decide +kernel) (ws2 := [(a_t, .inr (9, [.ref a_t_text, .int t_bytesHeld, .ref a_t_draft, .int u35.2.1, .int u35.2.2, .int t_length, .int u14.1, .int u14.2.1, .int u14.2.2, .int u9.2.2.2.2.2.2])), (a_t_text, .inl (cT 2, 500, .inl t_text)), (a_t_draft, .inr (1, [.int t_draft_people, .int t_draft_lineCount, .ref a_t_draft_first, .ref a_t_draft_second, .ref a_t_draft_cost, .ref a_t_draft_oneWay, .ref a_t_draft_breaks, .ref a_t_draft_absences])), (a_t_draft_first, .inl (cT 0, 24, .inl t_draft_first)), (a_t_draft_second, .inl (cT 0, 24, .inl t_draft_second)), (a_t_draft_cost, .inl (cT 0, 24, .inl t_draft_cost)), (a_t_draft_oneWay, .inl (cT 3, 24, .inl t_draft_oneWay))]) rfl zkX9.1 (qr := 0) rfl rfl (Nat.le_of_ble_eq_true rfl) dX9_readLine_101 (fun z37 => ?_)
              obtain rfl := Option.some.inj h
              exact hE _ _ _ dX9_readLine_104 rfl (z37 _ rfl _ rfl)
        · replace h := (if_pos c13).symm.trans h
          refine xi_aload_n C 0 dX9_readLine_69 rfl ?_
          refine xi_iconst C (v := 3) dX9_readLine_70 rfl ?_
          obtain ⟨u38, hu39⟩ : ∃ z, z = fX9_fail u9.2.2.2.2.1 3 := ⟨_, rfl⟩
          replace h := nmE hu39 h
          refine xi_callV C (kX9_fail l D cT a_t a_t_text a_t_draft t_bytesHeld u9.2.1 u9.2.2.1 t_length u9.2.2.2.1 u9.2.2.2.2.1 u9.2.2.2.2.2.1 u9.2.2.2.2.2.2 3 u38 hu39.symm) zcX9_fail zmX9_98 ziX9_fail (zr rfl rfl) z00 rfl [0] rfl rfl rfl [some 0, none, none, none, none, none, none] (by decide +kernel) (ws2 := [(a_t, .inr (9, [.ref a_t_text, .int t_bytesHeld, .ref a_t_draft, .int u38.2.1, .int u38.2.2, .int t_length, .int u9.2.2.2.1, .int u9.2.2.2.2.1, .int u9.2.2.2.2.2.1, .int u9.2.2.2.2.2.2])), (a_t_text, .inl (cT 2, 500, .inl t_text)), (a_t_draft, .inr (1, [.int t_draft_people, .int t_draft_lineCount, .ref a_t_draft_first, .ref a_t_draft_second, .ref a_t_draft_cost, .ref a_t_draft_oneWay, .ref a_t_draft_breaks, .ref a_t_draft_absences])), (a_t_draft_first, .inl (cT 0, 24, .inl t_draft_first)), (a_t_draft_second, .inl (cT 0, 24, .inl t_draft_second)), (a_t_draft_cost, .inl (cT 0, 24, .inl t_draft_cost)), (a_t_draft_oneWay, .inl (cT 3, 24, .inl t_draft_oneWay))]) rfl zkX9.1 (qr := 0) rfl rfl (Nat.le_of_ble_eq_true rfl) dX9_readLine_71 (fun z40 => ?_)
          obtain rfl := Option.some.inj h
          exact hE _ _ _ dX9_readLine_74 rfl (z40 _ rfl _ rfl)
      · replace h := (if_pos c12).symm.trans h
        refine xi_iconst C (v := 0) dX9_readLine_57 rfl ?_
        obtain rfl := Option.some.inj h
        exact hE _ _ _ dX9_readLine_58 rfl rfl
    · replace h := (if_pos c8).symm.trans h
      refine xi_iconst C (v := 0) dX9_readLine_33 rfl ?_
      obtain rfl := Option.some.inj h
      exact hE _ _ _ dX9_readLine_34 rfl rfl
  · replace h := (if_neg c4).symm.trans h
    refine xi_aload_n C 0 dX9_readLine_10 rfl ?_
    refine xi_iconst C (v := 4) dX9_readLine_11 rfl ?_
    obtain ⟨u41, hu42⟩ : ∃ z, z = fX9_fail t_start 4 := ⟨_, rfl⟩
    replace h := nmE hu42 h
    refine xi_callV C (kX9_fail l D cT a_t a_t_text a_t_draft t_bytesHeld t_code t_wrongAt t_length t_kind t_start t_end t_number 4 u41 hu42.symm) zcX9_fail zmX9_98 ziX9_fail (zr rfl rfl) z00 rfl [0] rfl rfl rfl [some 0, none, none, none, none, none, none] (by decide +kernel) (ws2 := [(a_t, .inr (9, [.ref a_t_text, .int t_bytesHeld, .ref a_t_draft, .int u41.2.1, .int u41.2.2, .int t_length, .int t_kind, .int t_start, .int t_end, .int t_number])), (a_t_text, .inl (cT 2, 500, .inl t_text)), (a_t_draft, .inr (1, [.int t_draft_people, .int t_draft_lineCount, .ref a_t_draft_first, .ref a_t_draft_second, .ref a_t_draft_cost, .ref a_t_draft_oneWay, .ref a_t_draft_breaks, .ref a_t_draft_absences])), (a_t_draft_first, .inl (cT 0, 24, .inl t_draft_first)), (a_t_draft_second, .inl (cT 0, 24, .inl t_draft_second)), (a_t_draft_cost, .inl (cT 0, 24, .inl t_draft_cost)), (a_t_draft_oneWay, .inl (cT 3, 24, .inl t_draft_oneWay))]) rfl zkX9.1 (qr := 0) rfl rfl (Nat.le_of_ble_eq_true rfl) dX9_readLine_12 (fun z43 => ?_)
    obtain rfl := Option.some.inj h
    exact hE _ _ _ dX9_readLine_15 rfl (z43 _ rfl _ rfl)
def fX9_readSpan (t_code : Int32) (t_wrongAt : Int32) (t_length : Int32) (t_kind : Int32) (t_start : Int32) (t_end : Int32) (t_number : Int32) (t_text : Nat → Int32) (p1_count : Int32) (p1_whose : Nat → Int32) (p1_from : Nat → Int32) (p1_until : Nat → Int32) (x2 : Int32) : Option (Int32 × Int32 × Int32 × Int32 × Int32 × Int32 × Int32 × Int32 × (Nat → Int32) × (Nat → Int32) × (Nat → Int32)) := if (fX8_isFull p1_count) = 0 then (fX9_readNumber t_code t_wrongAt t_length t_end t_number t_text 0 (x2 - 1)).bind (fun u5 => if u5.1 = 0 then some (0, u5.2.1, u5.2.2.1, u5.2.2.2.1, u5.2.2.2.2.1, u5.2.2.2.2.2.1, u5.2.2.2.2.2.2, p1_count, p1_whose, p1_from, p1_until) else (fX9_readNumber u5.2.1 u5.2.2.1 t_length u5.2.2.2.2.2.1 u5.2.2.2.2.2.2 t_text 1 999).bind (fun u9 => if u9.1 = 0 then some (0, u9.2.1, u9.2.2.1, u9.2.2.2.1, u9.2.2.2.2.1, u9.2.2.2.2.2.1, u9.2.2.2.2.2.2, p1_count, p1_whose, p1_from, p1_until) else (fX9_readNumber u9.2.1 u9.2.2.1 t_length u9.2.2.2.2.2.1 u9.2.2.2.2.2.2 t_text u9.2.2.2.2.2.2 999).bind (fun u13 => if u13.1 = 0 then some (0, u13.2.1, u13.2.2.1, u13.2.2.2.1, u13.2.2.2.2.1, u13.2.2.2.2.2.1, u13.2.2.2.2.2.2, p1_count, p1_whose, p1_from, p1_until) else (fX8_add p1_count p1_whose p1_from p1_until u5.2.2.2.2.2.2 u9.2.2.2.2.2.2 u13.2.2.2.2.2.2).bind (fun u17 => (fX9_readSemicolon u13.2.1 u13.2.2.1 t_length u13.2.2.2.2.2.1 t_text).bind (fun u20 => some (u20.1, u20.2.1, u20.2.2.1, u20.2.2.2.1, u20.2.2.2.2.1, u20.2.2.2.2.2, u13.2.2.2.2.2.2, u17.1, u17.2.1, u17.2.2.1, u17.2.2.2)))))) else nm (fX9_fail t_start 4) (fun u23 => some (u23.1, u23.2.1, u23.2.2, t_kind, t_start, t_end, t_number, p1_count, p1_whose, p1_from, p1_until))
set_option maxRecDepth 100000 in
set_option maxHeartbeats 4000000 in
theorem kX9_readSpan (l : Launch) (D : va_G) (cT : Nat → ClassId) (a_t : Nat) (a_t_text : Nat) (a_t_draft : Nat) (a_p1 : Nat) (a_p1_whose : Nat) (a_p1_from : Nat) (a_p1_until : Nat) (t_bytesHeld : Int32) (t_code : Int32) (t_wrongAt : Int32) (t_length : Int32) (t_kind : Int32) (t_start : Int32) (t_end : Int32) (t_number : Int32) (t_text : Nat → Int32) (p1_count : Int32) (p1_whose : Nat → Int32) (p1_from : Nat → Int32) (p1_until : Nat → Int32) (x2 : Int32) (r : Int32 × Int32 × Int32 × Int32 × Int32 × Int32 × Int32 × Int32 × (Nat → Int32) × (Nat → Int32) × (Nat → Int32)) (h : fX9_readSpan t_code t_wrongAt t_length t_kind t_start t_end t_number t_text p1_count p1_whose p1_from p1_until x2 = some r) : sM l yX9_readSpan cX9_readSpan 5 (some .boolean) (zR 4) D cT [.ref a_t, .ref a_p1, .int x2] [(a_t, .inr (9, [.ref a_t_text, .int t_bytesHeld, .ref a_t_draft, .int t_code, .int t_wrongAt, .int t_length, .int t_kind, .int t_start, .int t_end, .int t_number])), (a_t_text, .inl (cT 2, 500, .inl t_text)), (a_p1, .inr (8, [.ref a_p1_whose, .ref a_p1_from, .ref a_p1_until, .int p1_count])), (a_p1_whose, .inl (cT 0, 12, .inl p1_whose)), (a_p1_from, .inl (cT 0, 12, .inl p1_from)), (a_p1_until, .inl (cT 0, 12, .inl p1_until))] (some (.int r.1)) [(a_t, .inr (9, [.ref a_t_text, .int t_bytesHeld, .ref a_t_draft, .int r.2.1, .int r.2.2.1, .int t_length, .int r.2.2.2.1, .int r.2.2.2.2.1, .int r.2.2.2.2.2.1, .int r.2.2.2.2.2.2.1])), (a_t_text, .inl (cT 2, 500, .inl t_text)), (a_p1, .inr (8, [.ref a_p1_whose, .ref a_p1_from, .ref a_p1_until, .int r.2.2.2.2.2.2.2.1])), (a_p1_whose, .inl (cT 0, 12, .inl r.2.2.2.2.2.2.2.2.1)), (a_p1_from, .inl (cT 0, 12, .inl r.2.2.2.2.2.2.2.2.2.1)), (a_p1_until, .inl (cT 0, 12, .inl r.2.2.2.2.2.2.2.2.2.2))] := by
  refine sM_bool rfl (Nat.le_of_ble_eq_true rfl) ?_
  intro X C hE
  refine xi_drop (L2 := [(0, .ref a_t), (1, .ref a_p1), (2, .int x2)]) [0, 1, 2] rfl ?_
  refine xi_aload_n C 1 dX9_readSpan_0 rfl ?_
  refine xi_callVr C (kX8_isFull l D cT a_p1 a_p1_whose a_p1_from a_p1_until p1_count (fX8_isFull p1_count) rfl) zcX8_isFull zmX9_120 ziX8_isFull (zr rfl rfl) z00 rfl [2] rfl rfl zkX8.1 (qr := 2) rfl rfl (Nat.le_of_ble_eq_true rfl) dX9_readSpan_1 (fun z3 => ?_)
  refine xi_if_eq C (tgt := 13) dX9_readSpan_4 rfl (fun c4 => ?_) (fun c4 => ?_)
  · replace h := (if_pos c4).symm.trans h
    refine xi_aload_n C 0 dX9_readSpan_13 rfl ?_
    refine xi_iconst C (v := 0) dX9_readSpan_14 rfl ?_
    refine xi_iload_n C 2 dX9_readSpan_15 rfl ?_
    refine xi_iconst C (v := 1) dX9_readSpan_16 rfl ?_
    refine xi_isub C dX9_readSpan_17 ?_
    replace h := ob h
    obtain ⟨u5, hu6, h⟩ := h
    refine xi_callV C (kX9_readNumber l D cT a_t a_t_text a_t_draft t_bytesHeld t_code t_wrongAt t_length t_kind t_start t_end t_number t_text 0 (x2 - 1) u5 hu6) zcX9_readNumber zmX9_102 ziX9_readNumber (zr rfl rfl) z00 rfl [0, 1] rfl rfl rfl [some 0, some 1, none, none, none, none] (by decide +kernel) (ws2 := [(a_t, .inr (9, [.ref a_t_text, .int t_bytesHeld, .ref a_t_draft, .int u5.2.1, .int u5.2.2.1, .int t_length, .int u5.2.2.2.1, .int u5.2.2.2.2.1, .int u5.2.2.2.2.2.1, .int u5.2.2.2.2.2.2])), (a_t_text, .inl (cT 2, 500, .inl t_text)), (a_p1, .inr (8, [.ref a_p1_whose, .ref a_p1_from, .ref a_p1_until, .int p1_count])), (a_p1_whose, .inl (cT 0, 12, .inl p1_whose)), (a_p1_from, .inl (cT 0, 12, .inl p1_from)), (a_p1_until, .inl (cT 0, 12, .inl p1_until))]) rfl zkX9.1 (qr := 0) rfl rfl (Nat.le_of_ble_eq_true rfl) dX9_readSpan_18 (fun z7 => ?_)
    refine xi_if_ne C (tgt := 26) dX9_readSpan_21 rfl (fun c8 => ?_) (fun c8 => ?_)
    · replace h := (if_neg c8).symm.trans h
      refine xi_aload_n C 0 dX9_readSpan_26 rfl ?_
      refine xi_get C zkX9 9 0 zlX9_44 (by decide) rfl rfl dX9_readSpan_27 ?_
      refine xi_istore_n C [1, 2, 3, 0] (L2 := [(0, .ref a_t), (1, .ref a_p1), (2, .int x2), (3, .int u5.2.2.2.2.2.2)]) dX9_readSpan_30 (Nat.le_of_ble_eq_true rfl) rfl ?_
      refine xi_aload_n C 0 dX9_readSpan_31 rfl ?_
      refine xi_iconst C (v := 1) dX9_readSpan_32 rfl ?_
      refine xi_sipush C (v := 999) dX9_readSpan_33 rfl ?_
      replace h := ob h
      obtain ⟨u9, hu10, h⟩ := h
      refine xi_callV C (kX9_readNumber l D cT a_t a_t_text a_t_draft t_bytesHeld u5.2.1 u5.2.2.1 t_length u5.2.2.2.1 u5.2.2.2.2.1 u5.2.2.2.2.2.1 u5.2.2.2.2.2.2 t_text 1 999 u9 hu10) zcX9_readNumber zmX9_102 ziX9_readNumber (zr rfl rfl) z00 rfl [0, 1] rfl rfl rfl [some 0, some 1, none, none, none, none] (by decide +kernel) (ws2 := [(a_t, .inr (9, [.ref a_t_text, .int t_bytesHeld, .ref a_t_draft, .int u9.2.1, .int u9.2.2.1, .int t_length, .int u9.2.2.2.1, .int u9.2.2.2.2.1, .int u9.2.2.2.2.2.1, .int u9.2.2.2.2.2.2])), (a_t_text, .inl (cT 2, 500, .inl t_text)), (a_p1, .inr (8, [.ref a_p1_whose, .ref a_p1_from, .ref a_p1_until, .int p1_count])), (a_p1_whose, .inl (cT 0, 12, .inl p1_whose)), (a_p1_from, .inl (cT 0, 12, .inl p1_from)), (a_p1_until, .inl (cT 0, 12, .inl p1_until))]) rfl zkX9.1 (qr := 0) rfl rfl (Nat.le_of_ble_eq_true rfl) dX9_readSpan_36 (fun z11 => ?_)
      refine xi_if_ne C (tgt := 44) dX9_readSpan_39 rfl (fun c12 => ?_) (fun c12 => ?_)
      · replace h := (if_neg c12).symm.trans h
        refine xi_aload_n C 0 dX9_readSpan_44 rfl ?_
        refine xi_get C zkX9 9 0 zlX9_44 (by decide) rfl rfl dX9_readSpan_45 ?_
        refine xi_istore C [1, 2, 3, 4, 0] (L2 := [(0, .ref a_t), (1, .ref a_p1), (2, .int x2), (3, .int u5.2.2.2.2.2.2), (4, .int u9.2.2.2.2.2.2)]) dX9_readSpan_48 (Nat.le_of_ble_eq_true rfl) rfl ?_
        refine xi_aload_n C 0 dX9_readSpan_50 rfl ?_
        refine xi_iload C 4 dX9_readSpan_51 rfl ?_
        refine xi_sipush C (v := 999) dX9_readSpan_53 rfl ?_
        replace h := ob h
        obtain ⟨u13, hu14, h⟩ := h
        refine xi_callV C (kX9_readNumber l D cT a_t a_t_text a_t_draft t_bytesHeld u9.2.1 u9.2.2.1 t_length u9.2.2.2.1 u9.2.2.2.2.1 u9.2.2.2.2.2.1 u9.2.2.2.2.2.2 t_text u9.2.2.2.2.2.2 999 u13 hu14) zcX9_readNumber zmX9_102 ziX9_readNumber (zr rfl rfl) z00 rfl [0, 1] rfl rfl rfl [some 0, some 1, none, none, none, none] (by decide +kernel) (ws2 := [(a_t, .inr (9, [.ref a_t_text, .int t_bytesHeld, .ref a_t_draft, .int u13.2.1, .int u13.2.2.1, .int t_length, .int u13.2.2.2.1, .int u13.2.2.2.2.1, .int u13.2.2.2.2.2.1, .int u13.2.2.2.2.2.2])), (a_t_text, .inl (cT 2, 500, .inl t_text)), (a_p1, .inr (8, [.ref a_p1_whose, .ref a_p1_from, .ref a_p1_until, .int p1_count])), (a_p1_whose, .inl (cT 0, 12, .inl p1_whose)), (a_p1_from, .inl (cT 0, 12, .inl p1_from)), (a_p1_until, .inl (cT 0, 12, .inl p1_until))]) rfl zkX9.1 (qr := 0) rfl rfl (Nat.le_of_ble_eq_true rfl) dX9_readSpan_56 (fun z15 => ?_)
        refine xi_if_ne C (tgt := 64) dX9_readSpan_59 rfl (fun c16 => ?_) (fun c16 => ?_)
        · replace h := (if_neg c16).symm.trans h
          refine xi_aload_n C 1 dX9_readSpan_64 rfl ?_
          refine xi_iload_n C 3 dX9_readSpan_65 rfl ?_
          refine xi_iload C 4 dX9_readSpan_66 rfl ?_
          refine xi_aload_n C 0 dX9_readSpan_68 rfl ?_
          refine xi_get C zkX9 9 0 zlX9_44 (by decide) rfl rfl dX9_readSpan_69 ?_
          replace h := ob h
          obtain ⟨u17, hu18, h⟩ := h
          refine xi_callV C (kX8_add l D cT a_p1 a_p1_whose a_p1_from a_p1_until p1_count p1_whose p1_from p1_until u5.2.2.2.2.2.2 u9.2.2.2.2.2.2 u13.2.2.2.2.2.2 u17 hu18) zcX8_add zmX9_123 ziX8_add (zr rfl rfl) z00 rfl [2, 3, 4, 5] rfl rfl rfl [none, none, some 0, some 1, some 2, some 3] (by decide +kernel) (ws2 := [(a_t, .inr (9, [.ref a_t_text, .int t_bytesHeld, .ref a_t_draft, .int u13.2.1, .int u13.2.2.1, .int t_length, .int u13.2.2.2.1, .int u13.2.2.2.2.1, .int u13.2.2.2.2.2.1, .int u13.2.2.2.2.2.2])), (a_t_text, .inl (cT 2, 500, .inl t_text)), (a_p1, .inr (8, [.ref a_p1_whose, .ref a_p1_from, .ref a_p1_until, .int u17.1])), (a_p1_whose, .inl (cT 0, 12, .inl u17.2.1)), (a_p1_from, .inl (cT 0, 12, .inl u17.2.2.1)), (a_p1_until, .inl (cT 0, 12, .inl u17.2.2.2))]) rfl zkX8.1 (qr := 2) rfl rfl (Nat.le_of_ble_eq_true rfl) dX9_readSpan_72 (fun z19 => ?_)
          refine xi_aload_n C 0 dX9_readSpan_75 rfl ?_
          replace h := ob h
          obtain ⟨u20, hu21, h⟩ := h
          refine xi_callV C (kX9_readSemicolon l D cT a_t a_t_text a_t_draft t_bytesHeld u13.2.1 u13.2.2.1 t_length u13.2.2.2.1 u13.2.2.2.2.1 u13.2.2.2.2.2.1 u13.2.2.2.2.2.2 t_text u20 hu21) zcX9_readSemicolon zmX9_106 ziX9_readSemicolon (zr rfl rfl) z00 rfl [0, 1] rfl rfl rfl [some 0, some 1, none, none, none, none] (by decide +kernel) (ws2 := [(a_t, .inr (9, [.ref a_t_text, .int t_bytesHeld, .ref a_t_draft, .int u20.2.1, .int u20.2.2.1, .int t_length, .int u20.2.2.2.1, .int u20.2.2.2.2.1, .int u20.2.2.2.2.2, .int u13.2.2.2.2.2.2])), (a_t_text, .inl (cT 2, 500, .inl t_text)), (a_p1, .inr (8, [.ref a_p1_whose, .ref a_p1_from, .ref a_p1_until, .int u17.1])), (a_p1_whose, .inl (cT 0, 12, .inl u17.2.1)), (a_p1_from, .inl (cT 0, 12, .inl u17.2.2.1)), (a_p1_until, .inl (cT 0, 12, .inl u17.2.2.2))]) rfl zkX9.1 (qr := 0) rfl rfl (Nat.le_of_ble_eq_true rfl) dX9_readSpan_76 (fun z22 => ?_)
          obtain rfl := Option.some.inj h
          exact hE _ _ _ dX9_readSpan_79 rfl (z22 _ rfl _ rfl)
        · replace h := (if_pos c16).symm.trans h
          refine xi_iconst C (v := 0) dX9_readSpan_62 rfl ?_
          obtain rfl := Option.some.inj h
          exact hE _ _ _ dX9_readSpan_63 rfl rfl
      · replace h := (if_pos c12).symm.trans h
        refine xi_iconst C (v := 0) dX9_readSpan_42 rfl ?_
        obtain rfl := Option.some.inj h
        exact hE _ _ _ dX9_readSpan_43 rfl rfl
    · replace h := (if_pos c8).symm.trans h
      refine xi_iconst C (v := 0) dX9_readSpan_24 rfl ?_
      obtain rfl := Option.some.inj h
      exact hE _ _ _ dX9_readSpan_25 rfl rfl
  · replace h := (if_neg c4).symm.trans h
    refine xi_aload_n C 0 dX9_readSpan_7 rfl ?_
    refine xi_iconst C (v := 4) dX9_readSpan_8 rfl ?_
    obtain ⟨u23, hu24⟩ : ∃ z, z = fX9_fail t_start 4 := ⟨_, rfl⟩
    replace h := nmE hu24 h
    refine xi_callV C (kX9_fail l D cT a_t a_t_text a_t_draft t_bytesHeld t_code t_wrongAt t_length t_kind t_start t_end t_number 4 u23 hu24.symm) zcX9_fail zmX9_98 ziX9_fail (zr rfl rfl) z00 rfl [0] rfl rfl rfl [some 0, none, none, none, none, none] (by decide +kernel) (ws2 := [(a_t, .inr (9, [.ref a_t_text, .int t_bytesHeld, .ref a_t_draft, .int u23.2.1, .int u23.2.2, .int t_length, .int t_kind, .int t_start, .int t_end, .int t_number])), (a_t_text, .inl (cT 2, 500, .inl t_text)), (a_p1, .inr (8, [.ref a_p1_whose, .ref a_p1_from, .ref a_p1_until, .int p1_count])), (a_p1_whose, .inl (cT 0, 12, .inl p1_whose)), (a_p1_from, .inl (cT 0, 12, .inl p1_from)), (a_p1_until, .inl (cT 0, 12, .inl p1_until))]) rfl zkX9.1 (qr := 0) rfl rfl (Nat.le_of_ble_eq_true rfl) dX9_readSpan_9 (fun z25 => ?_)
    obtain rfl := Option.some.inj h
    exact hE _ _ _ dX9_readSpan_12 rfl (z25 _ rfl _ rfl)
def fX9_readStatement (t_code : Int32) (t_wrongAt : Int32) (t_length : Int32) (t_kind : Int32) (t_start : Int32) (t_end : Int32) (t_number : Int32) (t_text : Nat → Int32) (t_draft_people : Int32) (t_draft_lineCount : Int32) (t_draft_first : Nat → Int32) (t_draft_second : Nat → Int32) (t_draft_cost : Nat → Int32) (t_draft_oneWay : Nat → Int32) (t_draft_breaks_count : Int32) (t_draft_breaks_whose : Nat → Int32) (t_draft_breaks_from : Nat → Int32) (t_draft_breaks_until : Nat → Int32) (t_draft_absences_count : Int32) (t_draft_absences_whose : Nat → Int32) (t_draft_absences_from : Nat → Int32) (t_draft_absences_until : Nat → Int32) (x1 : Int32) : Option (Int32 × Int32 × Int32 × Int32 × Int32 × Int32 × Int32 × Int32 × Int32 × (Nat → Int32) × (Nat → Int32) × (Nat → Int32) × (Nat → Int32) × Int32 × (Nat → Int32) × (Nat → Int32) × (Nat → Int32) × Int32 × (Nat → Int32) × (Nat → Int32) × (Nat → Int32)) := (fX9_isWord t_kind t_start t_end t_text 0).bind (fun u1 => if u1 = 0 then (fX9_isWord t_kind t_start t_end t_text 1).bind (fun u5 => if u5 = 0 then (fX9_isWord t_kind t_start t_end t_text 2).bind (fun u9 => if u9 = 0 then (fX9_isWord t_kind t_start t_end t_text 3).bind (fun u13 => if u13 = 0 then nm (fX9_fail t_start 1) (fun u17 => some (u17.1, u17.2.1, u17.2.2, t_kind, t_start, t_end, t_number, t_draft_people, t_draft_lineCount, t_draft_first, t_draft_second, t_draft_cost, t_draft_oneWay, t_draft_breaks_count, t_draft_breaks_whose, t_draft_breaks_from, t_draft_breaks_until, t_draft_absences_count, t_draft_absences_whose, t_draft_absences_from, t_draft_absences_until)) else (fX9_readSpan t_code t_wrongAt t_length t_kind t_start t_end t_number t_text t_draft_absences_count t_draft_absences_whose t_draft_absences_from t_draft_absences_until t_draft_people).bind (fun u20 => some (u20.1, u20.2.1, u20.2.2.1, u20.2.2.2.1, u20.2.2.2.2.1, u20.2.2.2.2.2.1, u20.2.2.2.2.2.2.1, t_draft_people, t_draft_lineCount, t_draft_first, t_draft_second, t_draft_cost, t_draft_oneWay, t_draft_breaks_count, t_draft_breaks_whose, t_draft_breaks_from, t_draft_breaks_until, u20.2.2.2.2.2.2.2.1, u20.2.2.2.2.2.2.2.2.1, u20.2.2.2.2.2.2.2.2.2.1, u20.2.2.2.2.2.2.2.2.2.2))) else (fX9_readSpan t_code t_wrongAt t_length t_kind t_start t_end t_number t_text t_draft_breaks_count t_draft_breaks_whose t_draft_breaks_from t_draft_breaks_until t_draft_lineCount).bind (fun u23 => some (u23.1, u23.2.1, u23.2.2.1, u23.2.2.2.1, u23.2.2.2.2.1, u23.2.2.2.2.2.1, u23.2.2.2.2.2.2.1, t_draft_people, t_draft_lineCount, t_draft_first, t_draft_second, t_draft_cost, t_draft_oneWay, u23.2.2.2.2.2.2.2.1, u23.2.2.2.2.2.2.2.2.1, u23.2.2.2.2.2.2.2.2.2.1, u23.2.2.2.2.2.2.2.2.2.2, t_draft_absences_count, t_draft_absences_whose, t_draft_absences_from, t_draft_absences_until))) else (fX9_readLine t_code t_wrongAt t_length t_kind t_start t_end t_number t_text t_draft_people t_draft_lineCount t_draft_first t_draft_second t_draft_cost t_draft_oneWay).bind (fun u26 => some (u26.1, u26.2.1, u26.2.2.1, u26.2.2.2.1, u26.2.2.2.2.1, u26.2.2.2.2.2.1, u26.2.2.2.2.2.2.1, t_draft_people, u26.2.2.2.2.2.2.2.1, u26.2.2.2.2.2.2.2.2.1, u26.2.2.2.2.2.2.2.2.2.1, u26.2.2.2.2.2.2.2.2.2.2.1, u26.2.2.2.2.2.2.2.2.2.2.2, t_draft_breaks_count, t_draft_breaks_whose, t_draft_breaks_from, t_draft_breaks_until, t_draft_absences_count, t_draft_absences_whose, t_draft_absences_from, t_draft_absences_until))) else (fX9_readPeople t_code t_wrongAt t_length t_kind t_start t_end t_number t_text t_draft_people x1).bind (fun u29 => some (u29.1, u29.2.1, u29.2.2.1, u29.2.2.2.1, u29.2.2.2.2.1, u29.2.2.2.2.2.1, u29.2.2.2.2.2.2.1, u29.2.2.2.2.2.2.2, t_draft_lineCount, t_draft_first, t_draft_second, t_draft_cost, t_draft_oneWay, t_draft_breaks_count, t_draft_breaks_whose, t_draft_breaks_from, t_draft_breaks_until, t_draft_absences_count, t_draft_absences_whose, t_draft_absences_from, t_draft_absences_until)))
set_option maxRecDepth 100000 in
set_option maxHeartbeats 4000000 in
theorem kX9_readStatement (l : Launch) (D : va_G) (cT : Nat → ClassId) (a_t : Nat) (a_t_text : Nat) (a_t_draft : Nat) (a_t_draft_first : Nat) (a_t_draft_second : Nat) (a_t_draft_cost : Nat) (a_t_draft_oneWay : Nat) (a_t_draft_breaks : Nat) (a_t_draft_absences : Nat) (a_t_draft_breaks_whose : Nat) (a_t_draft_breaks_from : Nat) (a_t_draft_breaks_until : Nat) (a_t_draft_absences_whose : Nat) (a_t_draft_absences_from : Nat) (a_t_draft_absences_until : Nat) (t_bytesHeld : Int32) (t_code : Int32) (t_wrongAt : Int32) (t_length : Int32) (t_kind : Int32) (t_start : Int32) (t_end : Int32) (t_number : Int32) (t_text : Nat → Int32) (t_draft_people : Int32) (t_draft_lineCount : Int32) (t_draft_first : Nat → Int32) (t_draft_second : Nat → Int32) (t_draft_cost : Nat → Int32) (t_draft_oneWay : Nat → Int32) (t_draft_breaks_count : Int32) (t_draft_breaks_whose : Nat → Int32) (t_draft_breaks_from : Nat → Int32) (t_draft_breaks_until : Nat → Int32) (t_draft_absences_count : Int32) (t_draft_absences_whose : Nat → Int32) (t_draft_absences_from : Nat → Int32) (t_draft_absences_until : Nat → Int32) (x1 : Int32) (r : Int32 × Int32 × Int32 × Int32 × Int32 × Int32 × Int32 × Int32 × Int32 × (Nat → Int32) × (Nat → Int32) × (Nat → Int32) × (Nat → Int32) × Int32 × (Nat → Int32) × (Nat → Int32) × (Nat → Int32) × Int32 × (Nat → Int32) × (Nat → Int32) × (Nat → Int32)) (h : fX9_readStatement t_code t_wrongAt t_length t_kind t_start t_end t_number t_text t_draft_people t_draft_lineCount t_draft_first t_draft_second t_draft_cost t_draft_oneWay t_draft_breaks_count t_draft_breaks_whose t_draft_breaks_from t_draft_breaks_until t_draft_absences_count t_draft_absences_whose t_draft_absences_from t_draft_absences_until x1 = some r) : sM l yX9_readStatement cX9_readStatement 2 (some .boolean) (zR 7) D cT [.ref a_t, .int x1] [(a_t, .inr (9, [.ref a_t_text, .int t_bytesHeld, .ref a_t_draft, .int t_code, .int t_wrongAt, .int t_length, .int t_kind, .int t_start, .int t_end, .int t_number])), (a_t_text, .inl (cT 2, 500, .inl t_text)), (a_t_draft, .inr (1, [.int t_draft_people, .int t_draft_lineCount, .ref a_t_draft_first, .ref a_t_draft_second, .ref a_t_draft_cost, .ref a_t_draft_oneWay, .ref a_t_draft_breaks, .ref a_t_draft_absences])), (a_t_draft_first, .inl (cT 0, 24, .inl t_draft_first)), (a_t_draft_second, .inl (cT 0, 24, .inl t_draft_second)), (a_t_draft_cost, .inl (cT 0, 24, .inl t_draft_cost)), (a_t_draft_oneWay, .inl (cT 3, 24, .inl t_draft_oneWay)), (a_t_draft_breaks, .inr (8, [.ref a_t_draft_breaks_whose, .ref a_t_draft_breaks_from, .ref a_t_draft_breaks_until, .int t_draft_breaks_count])), (a_t_draft_breaks_whose, .inl (cT 0, 12, .inl t_draft_breaks_whose)), (a_t_draft_breaks_from, .inl (cT 0, 12, .inl t_draft_breaks_from)), (a_t_draft_breaks_until, .inl (cT 0, 12, .inl t_draft_breaks_until)), (a_t_draft_absences, .inr (8, [.ref a_t_draft_absences_whose, .ref a_t_draft_absences_from, .ref a_t_draft_absences_until, .int t_draft_absences_count])), (a_t_draft_absences_whose, .inl (cT 0, 12, .inl t_draft_absences_whose)), (a_t_draft_absences_from, .inl (cT 0, 12, .inl t_draft_absences_from)), (a_t_draft_absences_until, .inl (cT 0, 12, .inl t_draft_absences_until))] (some (.int r.1)) [(a_t, .inr (9, [.ref a_t_text, .int t_bytesHeld, .ref a_t_draft, .int r.2.1, .int r.2.2.1, .int t_length, .int r.2.2.2.1, .int r.2.2.2.2.1, .int r.2.2.2.2.2.1, .int r.2.2.2.2.2.2.1])), (a_t_text, .inl (cT 2, 500, .inl t_text)), (a_t_draft, .inr (1, [.int r.2.2.2.2.2.2.2.1, .int r.2.2.2.2.2.2.2.2.1, .ref a_t_draft_first, .ref a_t_draft_second, .ref a_t_draft_cost, .ref a_t_draft_oneWay, .ref a_t_draft_breaks, .ref a_t_draft_absences])), (a_t_draft_first, .inl (cT 0, 24, .inl r.2.2.2.2.2.2.2.2.2.1)), (a_t_draft_second, .inl (cT 0, 24, .inl r.2.2.2.2.2.2.2.2.2.2.1)), (a_t_draft_cost, .inl (cT 0, 24, .inl r.2.2.2.2.2.2.2.2.2.2.2.1)), (a_t_draft_oneWay, .inl (cT 3, 24, .inl r.2.2.2.2.2.2.2.2.2.2.2.2.1)), (a_t_draft_breaks, .inr (8, [.ref a_t_draft_breaks_whose, .ref a_t_draft_breaks_from, .ref a_t_draft_breaks_until, .int r.2.2.2.2.2.2.2.2.2.2.2.2.2.1])), (a_t_draft_breaks_whose, .inl (cT 0, 12, .inl r.2.2.2.2.2.2.2.2.2.2.2.2.2.2.1)), (a_t_draft_breaks_from, .inl (cT 0, 12, .inl r.2.2.2.2.2.2.2.2.2.2.2.2.2.2.2.1)), (a_t_draft_breaks_until, .inl (cT 0, 12, .inl r.2.2.2.2.2.2.2.2.2.2.2.2.2.2.2.2.1)), (a_t_draft_absences, .inr (8, [.ref a_t_draft_absences_whose, .ref a_t_draft_absences_from, .ref a_t_draft_absences_until, .int r.2.2.2.2.2.2.2.2.2.2.2.2.2.2.2.2.2.1])), (a_t_draft_absences_whose, .inl (cT 0, 12, .inl r.2.2.2.2.2.2.2.2.2.2.2.2.2.2.2.2.2.2.1)), (a_t_draft_absences_from, .inl (cT 0, 12, .inl r.2.2.2.2.2.2.2.2.2.2.2.2.2.2.2.2.2.2.2.1)), (a_t_draft_absences_until, .inl (cT 0, 12, .inl r.2.2.2.2.2.2.2.2.2.2.2.2.2.2.2.2.2.2.2.2))] := by
  refine sM_bool rfl (Nat.le_of_ble_eq_true rfl) ?_
  intro X C hE
  refine xi_drop (L2 := [(0, .ref a_t), (1, .int x1)]) [0, 1] rfl ?_
  refine xi_aload_n C 0 dX9_readStatement_0 rfl ?_
  refine xi_ldcS C (List.mem_of_getElem? (i := 0) rfl) dX9_readStatement_1 ?_
  replace h := ob h
  obtain ⟨u1, hu2, h⟩ := h
  refine xi_callVr C (kX9_isWord l D cT a_t a_t_text a_t_draft t_bytesHeld t_code t_wrongAt t_length t_kind t_start t_end t_number t_text 0 (by decide) u1 hu2) zcX9_isWord zmX9_65 ziX9_isWord (zr rfl rfl) z00 rfl [0, 1] rfl rfl zkX9.1 (qr := 0) rfl rfl (Nat.le_of_ble_eq_true rfl) dX9_readStatement_3 (fun z3 => ?_)
  refine xi_if_eq C (tgt := 15) dX9_readStatement_6 rfl (fun c4 => ?_) (fun c4 => ?_)
  · replace h := (if_pos c4).symm.trans h
    refine xi_aload_n C 0 dX9_readStatement_15 rfl ?_
    refine xi_ldcS C (List.mem_of_getElem? (i := 1) rfl) dX9_readStatement_16 ?_
    replace h := ob h
    obtain ⟨u5, hu6, h⟩ := h
    refine xi_callVr C (kX9_isWord l D cT a_t a_t_text a_t_draft t_bytesHeld t_code t_wrongAt t_length t_kind t_start t_end t_number t_text 1 (by decide) u5 hu6) zcX9_isWord zmX9_65 ziX9_isWord (zr rfl rfl) z00 rfl [0, 1] rfl rfl zkX9.1 (qr := 0) rfl rfl (Nat.le_of_ble_eq_true rfl) dX9_readStatement_18 (fun z7 => ?_)
    refine xi_if_eq C (tgt := 29) dX9_readStatement_21 rfl (fun c8 => ?_) (fun c8 => ?_)
    · replace h := (if_pos c8).symm.trans h
      refine xi_aload_n C 0 dX9_readStatement_29 rfl ?_
      refine xi_ldcS C (List.mem_of_getElem? (i := 4) rfl) dX9_readStatement_30 ?_
      replace h := ob h
      obtain ⟨u9, hu10, h⟩ := h
      refine xi_callVr C (kX9_isWord l D cT a_t a_t_text a_t_draft t_bytesHeld t_code t_wrongAt t_length t_kind t_start t_end t_number t_text 2 (by decide) u9 hu10) zcX9_isWord zmX9_65 ziX9_isWord (zr rfl rfl) z00 rfl [0, 1] rfl rfl zkX9.1 (qr := 0) rfl rfl (Nat.le_of_ble_eq_true rfl) dX9_readStatement_32 (fun z11 => ?_)
      refine xi_if_eq C (tgt := 57) dX9_readStatement_35 rfl (fun c12 => ?_) (fun c12 => ?_)
      · replace h := (if_pos c12).symm.trans h
        refine xi_aload_n C 0 dX9_readStatement_57 rfl ?_
        refine xi_ldcS C (List.mem_of_getElem? (i := 5) rfl) dX9_readStatement_58 ?_
        replace h := ob h
        obtain ⟨u13, hu14, h⟩ := h
        refine xi_callVr C (kX9_isWord l D cT a_t a_t_text a_t_draft t_bytesHeld t_code t_wrongAt t_length t_kind t_start t_end t_number t_text 3 (by decide) u13 hu14) zcX9_isWord zmX9_65 ziX9_isWord (zr rfl rfl) z00 rfl [0, 1] rfl rfl zkX9.1 (qr := 0) rfl rfl (Nat.le_of_ble_eq_true rfl) dX9_readStatement_60 (fun z15 => ?_)
        refine xi_if_eq C (tgt := 85) dX9_readStatement_63 rfl (fun c16 => ?_) (fun c16 => ?_)
        · replace h := (if_pos c16).symm.trans h
          refine xi_aload_n C 0 dX9_readStatement_85 rfl ?_
          refine xi_iconst C (v := 1) dX9_readStatement_86 rfl ?_
          obtain ⟨u17, hu18⟩ : ∃ z, z = fX9_fail t_start 1 := ⟨_, rfl⟩
          replace h := nmE hu18 h
          refine xi_callV C (kX9_fail l D cT a_t a_t_text a_t_draft t_bytesHeld t_code t_wrongAt t_length t_kind t_start t_end t_number 1 u17 hu18.symm) zcX9_fail zmX9_98 ziX9_fail (zr rfl rfl) z00 rfl [0] rfl rfl rfl [some 0, none, none, none, none, none, none, none, none, none, none, none, none, none, none] (by decide +kernel) (ws2 := [(a_t, .inr (9, [.ref a_t_text, .int t_bytesHeld, .ref a_t_draft, .int u17.2.1, .int u17.2.2, .int t_length, .int t_kind, .int t_start, .int t_end, .int t_number])), (a_t_text, .inl (cT 2, 500, .inl t_text)), (a_t_draft, .inr (1, [.int t_draft_people, .int t_draft_lineCount, .ref a_t_draft_first, .ref a_t_draft_second, .ref a_t_draft_cost, .ref a_t_draft_oneWay, .ref a_t_draft_breaks, .ref a_t_draft_absences])), (a_t_draft_first, .inl (cT 0, 24, .inl t_draft_first)), (a_t_draft_second, .inl (cT 0, 24, .inl t_draft_second)), (a_t_draft_cost, .inl (cT 0, 24, .inl t_draft_cost)), (a_t_draft_oneWay, .inl (cT 3, 24, .inl t_draft_oneWay)), (a_t_draft_breaks, .inr (8, [.ref a_t_draft_breaks_whose, .ref a_t_draft_breaks_from, .ref a_t_draft_breaks_until, .int t_draft_breaks_count])), (a_t_draft_breaks_whose, .inl (cT 0, 12, .inl t_draft_breaks_whose)), (a_t_draft_breaks_from, .inl (cT 0, 12, .inl t_draft_breaks_from)), (a_t_draft_breaks_until, .inl (cT 0, 12, .inl t_draft_breaks_until)), (a_t_draft_absences, .inr (8, [.ref a_t_draft_absences_whose, .ref a_t_draft_absences_from, .ref a_t_draft_absences_until, .int t_draft_absences_count])), (a_t_draft_absences_whose, .inl (cT 0, 12, .inl t_draft_absences_whose)), (a_t_draft_absences_from, .inl (cT 0, 12, .inl t_draft_absences_from)), (a_t_draft_absences_until, .inl (cT 0, 12, .inl t_draft_absences_until))]) rfl zkX9.1 (qr := 0) rfl rfl (Nat.le_of_ble_eq_true rfl) dX9_readStatement_87 (fun z19 => ?_)
          obtain rfl := Option.some.inj h
          exact hE _ _ _ dX9_readStatement_90 rfl (z19 _ rfl _ rfl)
        · replace h := (if_neg c16).symm.trans h
          refine xi_aload_n C 0 dX9_readStatement_66 rfl ?_
          refine xi_aload_n C 0 dX9_readStatement_67 rfl ?_
          refine xi_get C zkX9 2 0 zlX9_22 (by decide) rfl rfl dX9_readStatement_68 ?_
          refine xi_get C zkX1 7 2 zlX9_93 (by decide) rfl rfl dX9_readStatement_71 ?_
          refine xi_aload_n C 0 dX9_readStatement_74 rfl ?_
          refine xi_get C zkX9 2 0 zlX9_22 (by decide) rfl rfl dX9_readStatement_75 ?_
          refine xi_get C zkX1 0 2 zlX9_96 (by decide) rfl rfl dX9_readStatement_78 ?_
          replace h := ob h
          obtain ⟨u20, hu21, h⟩ := h
          refine xi_callV C (kX9_readSpan l D cT a_t a_t_text a_t_draft a_t_draft_absences a_t_draft_absences_whose a_t_draft_absences_from a_t_draft_absences_until t_bytesHeld t_code t_wrongAt t_length t_kind t_start t_end t_number t_text t_draft_absences_count t_draft_absences_whose t_draft_absences_from t_draft_absences_until t_draft_people u20 hu21) zcX9_readSpan zmX9_87 ziX9_readSpan (zr rfl rfl) z00 rfl [0, 1, 11, 12, 13, 14] rfl rfl rfl [some 0, some 1, none, none, none, none, none, none, none, none, none, some 2, some 3, some 4, some 5] (by decide +kernel) (ws2 := [(a_t, .inr (9, [.ref a_t_text, .int t_bytesHeld, .ref a_t_draft, .int u20.2.1, .int u20.2.2.1, .int t_length, .int u20.2.2.2.1, .int u20.2.2.2.2.1, .int u20.2.2.2.2.2.1, .int u20.2.2.2.2.2.2.1])), (a_t_text, .inl (cT 2, 500, .inl t_text)), (a_t_draft, .inr (1, [.int t_draft_people, .int t_draft_lineCount, .ref a_t_draft_first, .ref a_t_draft_second, .ref a_t_draft_cost, .ref a_t_draft_oneWay, .ref a_t_draft_breaks, .ref a_t_draft_absences])), (a_t_draft_first, .inl (cT 0, 24, .inl t_draft_first)), (a_t_draft_second, .inl (cT 0, 24, .inl t_draft_second)), (a_t_draft_cost, .inl (cT 0, 24, .inl t_draft_cost)), (a_t_draft_oneWay, .inl (cT 3, 24, .inl t_draft_oneWay)), (a_t_draft_breaks, .inr (8, [.ref a_t_draft_breaks_whose, .ref a_t_draft_breaks_from, .ref a_t_draft_breaks_until, .int t_draft_breaks_count])), (a_t_draft_breaks_whose, .inl (cT 0, 12, .inl t_draft_breaks_whose)), (a_t_draft_breaks_from, .inl (cT 0, 12, .inl t_draft_breaks_from)), (a_t_draft_breaks_until, .inl (cT 0, 12, .inl t_draft_breaks_until)), (a_t_draft_absences, .inr (8, [.ref a_t_draft_absences_whose, .ref a_t_draft_absences_from, .ref a_t_draft_absences_until, .int u20.2.2.2.2.2.2.2.1])), (a_t_draft_absences_whose, .inl (cT 0, 12, .inl u20.2.2.2.2.2.2.2.2.1)), (a_t_draft_absences_from, .inl (cT 0, 12, .inl u20.2.2.2.2.2.2.2.2.2.1)), (a_t_draft_absences_until, .inl (cT 0, 12, .inl u20.2.2.2.2.2.2.2.2.2.2))]) rfl zkX9.1 (qr := 0) rfl rfl (Nat.le_of_ble_eq_true rfl) dX9_readStatement_81 (fun z22 => ?_)
          obtain rfl := Option.some.inj h
          exact hE _ _ _ dX9_readStatement_84 rfl (z22 _ rfl _ rfl)
      · replace h := (if_neg c12).symm.trans h
        refine xi_aload_n C 0 dX9_readStatement_38 rfl ?_
        refine xi_aload_n C 0 dX9_readStatement_39 rfl ?_
        refine xi_get C zkX9 2 0 zlX9_22 (by decide) rfl rfl dX9_readStatement_40 ?_
        refine xi_get C zkX1 6 2 zlX9_80 (by decide) rfl rfl dX9_readStatement_43 ?_
        refine xi_aload_n C 0 dX9_readStatement_46 rfl ?_
        refine xi_get C zkX9 2 0 zlX9_22 (by decide) rfl rfl dX9_readStatement_47 ?_
        refine xi_get C zkX1 1 2 zlX9_84 (by decide) rfl rfl dX9_readStatement_50 ?_
        replace h := ob h
        obtain ⟨u23, hu24, h⟩ := h
        refine xi_callV C (kX9_readSpan l D cT a_t a_t_text a_t_draft a_t_draft_breaks a_t_draft_breaks_whose a_t_draft_breaks_from a_t_draft_breaks_until t_bytesHeld t_code t_wrongAt t_length t_kind t_start t_end t_number t_text t_draft_breaks_count t_draft_breaks_whose t_draft_breaks_from t_draft_breaks_until t_draft_lineCount u23 hu24) zcX9_readSpan zmX9_87 ziX9_readSpan (zr rfl rfl) z00 rfl [0, 1, 7, 8, 9, 10] rfl rfl rfl [some 0, some 1, none, none, none, none, none, some 2, some 3, some 4, some 5, none, none, none, none] (by decide +kernel) (ws2 := [(a_t, .inr (9, [.ref a_t_text, .int t_bytesHeld, .ref a_t_draft, .int u23.2.1, .int u23.2.2.1, .int t_length, .int u23.2.2.2.1, .int u23.2.2.2.2.1, .int u23.2.2.2.2.2.1, .int u23.2.2.2.2.2.2.1])), (a_t_text, .inl (cT 2, 500, .inl t_text)), (a_t_draft, .inr (1, [.int t_draft_people, .int t_draft_lineCount, .ref a_t_draft_first, .ref a_t_draft_second, .ref a_t_draft_cost, .ref a_t_draft_oneWay, .ref a_t_draft_breaks, .ref a_t_draft_absences])), (a_t_draft_first, .inl (cT 0, 24, .inl t_draft_first)), (a_t_draft_second, .inl (cT 0, 24, .inl t_draft_second)), (a_t_draft_cost, .inl (cT 0, 24, .inl t_draft_cost)), (a_t_draft_oneWay, .inl (cT 3, 24, .inl t_draft_oneWay)), (a_t_draft_breaks, .inr (8, [.ref a_t_draft_breaks_whose, .ref a_t_draft_breaks_from, .ref a_t_draft_breaks_until, .int u23.2.2.2.2.2.2.2.1])), (a_t_draft_breaks_whose, .inl (cT 0, 12, .inl u23.2.2.2.2.2.2.2.2.1)), (a_t_draft_breaks_from, .inl (cT 0, 12, .inl u23.2.2.2.2.2.2.2.2.2.1)), (a_t_draft_breaks_until, .inl (cT 0, 12, .inl u23.2.2.2.2.2.2.2.2.2.2)), (a_t_draft_absences, .inr (8, [.ref a_t_draft_absences_whose, .ref a_t_draft_absences_from, .ref a_t_draft_absences_until, .int t_draft_absences_count])), (a_t_draft_absences_whose, .inl (cT 0, 12, .inl t_draft_absences_whose)), (a_t_draft_absences_from, .inl (cT 0, 12, .inl t_draft_absences_from)), (a_t_draft_absences_until, .inl (cT 0, 12, .inl t_draft_absences_until))]) rfl zkX9.1 (qr := 0) rfl rfl (Nat.le_of_ble_eq_true rfl) dX9_readStatement_53 (fun z25 => ?_)
        obtain rfl := Option.some.inj h
        exact hE _ _ _ dX9_readStatement_56 rfl (z25 _ rfl _ rfl)
    · replace h := (if_neg c8).symm.trans h
      refine xi_aload_n C 0 dX9_readStatement_24 rfl ?_
      replace h := ob h
      obtain ⟨u26, hu27, h⟩ := h
      refine xi_callV C (kX9_readLine l D cT a_t a_t_text a_t_draft a_t_draft_first a_t_draft_second a_t_draft_cost a_t_draft_oneWay a_t_draft_breaks a_t_draft_absences t_bytesHeld t_code t_wrongAt t_length t_kind t_start t_end t_number t_text t_draft_people t_draft_lineCount t_draft_first t_draft_second t_draft_cost t_draft_oneWay u26 hu27) zcX9_readLine zmX9_74 ziX9_readLine (zr rfl rfl) z00 rfl [0, 1, 2, 3, 4, 5, 6] rfl rfl rfl [some 0, some 1, some 2, some 3, some 4, some 5, some 6, none, none, none, none, none, none, none, none] (by decide +kernel) (ws2 := [(a_t, .inr (9, [.ref a_t_text, .int t_bytesHeld, .ref a_t_draft, .int u26.2.1, .int u26.2.2.1, .int t_length, .int u26.2.2.2.1, .int u26.2.2.2.2.1, .int u26.2.2.2.2.2.1, .int u26.2.2.2.2.2.2.1])), (a_t_text, .inl (cT 2, 500, .inl t_text)), (a_t_draft, .inr (1, [.int t_draft_people, .int u26.2.2.2.2.2.2.2.1, .ref a_t_draft_first, .ref a_t_draft_second, .ref a_t_draft_cost, .ref a_t_draft_oneWay, .ref a_t_draft_breaks, .ref a_t_draft_absences])), (a_t_draft_first, .inl (cT 0, 24, .inl u26.2.2.2.2.2.2.2.2.1)), (a_t_draft_second, .inl (cT 0, 24, .inl u26.2.2.2.2.2.2.2.2.2.1)), (a_t_draft_cost, .inl (cT 0, 24, .inl u26.2.2.2.2.2.2.2.2.2.2.1)), (a_t_draft_oneWay, .inl (cT 3, 24, .inl u26.2.2.2.2.2.2.2.2.2.2.2)), (a_t_draft_breaks, .inr (8, [.ref a_t_draft_breaks_whose, .ref a_t_draft_breaks_from, .ref a_t_draft_breaks_until, .int t_draft_breaks_count])), (a_t_draft_breaks_whose, .inl (cT 0, 12, .inl t_draft_breaks_whose)), (a_t_draft_breaks_from, .inl (cT 0, 12, .inl t_draft_breaks_from)), (a_t_draft_breaks_until, .inl (cT 0, 12, .inl t_draft_breaks_until)), (a_t_draft_absences, .inr (8, [.ref a_t_draft_absences_whose, .ref a_t_draft_absences_from, .ref a_t_draft_absences_until, .int t_draft_absences_count])), (a_t_draft_absences_whose, .inl (cT 0, 12, .inl t_draft_absences_whose)), (a_t_draft_absences_from, .inl (cT 0, 12, .inl t_draft_absences_from)), (a_t_draft_absences_until, .inl (cT 0, 12, .inl t_draft_absences_until))]) rfl zkX9.1 (qr := 0) rfl rfl (Nat.le_of_ble_eq_true rfl) dX9_readStatement_25 (fun z28 => ?_)
      obtain rfl := Option.some.inj h
      exact hE _ _ _ dX9_readStatement_28 rfl (z28 _ rfl _ rfl)
  · replace h := (if_neg c4).symm.trans h
    refine xi_aload_n C 0 dX9_readStatement_9 rfl ?_
    refine xi_iload_n C 1 dX9_readStatement_10 rfl ?_
    replace h := ob h
    obtain ⟨u29, hu30, h⟩ := h
    refine xi_callV C (kX9_readPeople l D cT a_t a_t_text a_t_draft a_t_draft_first a_t_draft_second a_t_draft_cost a_t_draft_oneWay a_t_draft_breaks a_t_draft_absences t_bytesHeld t_code t_wrongAt t_length t_kind t_start t_end t_number t_text t_draft_people t_draft_lineCount x1 u29 hu30) zcX9_readPeople zmX9_69 ziX9_readPeople (zr rfl rfl) z00 rfl [0, 1, 2] rfl rfl rfl [some 0, some 1, some 2, none, none, none, none, none, none, none, none, none, none, none, none] (by decide +kernel) (ws2 := [(a_t, .inr (9, [.ref a_t_text, .int t_bytesHeld, .ref a_t_draft, .int u29.2.1, .int u29.2.2.1, .int t_length, .int u29.2.2.2.1, .int u29.2.2.2.2.1, .int u29.2.2.2.2.2.1, .int u29.2.2.2.2.2.2.1])), (a_t_text, .inl (cT 2, 500, .inl t_text)), (a_t_draft, .inr (1, [.int u29.2.2.2.2.2.2.2, .int t_draft_lineCount, .ref a_t_draft_first, .ref a_t_draft_second, .ref a_t_draft_cost, .ref a_t_draft_oneWay, .ref a_t_draft_breaks, .ref a_t_draft_absences])), (a_t_draft_first, .inl (cT 0, 24, .inl t_draft_first)), (a_t_draft_second, .inl (cT 0, 24, .inl t_draft_second)), (a_t_draft_cost, .inl (cT 0, 24, .inl t_draft_cost)), (a_t_draft_oneWay, .inl (cT 3, 24, .inl t_draft_oneWay)), (a_t_draft_breaks, .inr (8, [.ref a_t_draft_breaks_whose, .ref a_t_draft_breaks_from, .ref a_t_draft_breaks_until, .int t_draft_breaks_count])), (a_t_draft_breaks_whose, .inl (cT 0, 12, .inl t_draft_breaks_whose)), (a_t_draft_breaks_from, .inl (cT 0, 12, .inl t_draft_breaks_from)), (a_t_draft_breaks_until, .inl (cT 0, 12, .inl t_draft_breaks_until)), (a_t_draft_absences, .inr (8, [.ref a_t_draft_absences_whose, .ref a_t_draft_absences_from, .ref a_t_draft_absences_until, .int t_draft_absences_count])), (a_t_draft_absences_whose, .inl (cT 0, 12, .inl t_draft_absences_whose)), (a_t_draft_absences_from, .inl (cT 0, 12, .inl t_draft_absences_from)), (a_t_draft_absences_until, .inl (cT 0, 12, .inl t_draft_absences_until))]) rfl zkX9.1 (qr := 0) rfl rfl (Nat.le_of_ble_eq_true rfl) dX9_readStatement_11 (fun z31 => ?_)
    obtain rfl := Option.some.inj h
    exact hE _ _ _ dX9_readStatement_14 rfl (z31 _ rfl _ rfl)
def fX9_readExchange_b86 (t_bytesHeld : Int32) (t_code : Int32) (t_wrongAt : Int32) (t_length : Int32) (t_kind : Int32) (t_start : Int32) (t_end : Int32) (t_number : Int32) (t_draft_people : Int32) (t_draft_lineCount : Int32) (t_draft_first : Nat → Int32) (t_draft_second : Nat → Int32) (t_draft_cost : Nat → Int32) (t_draft_oneWay : Nat → Int32) (t_draft_breaks_count : Int32) (t_draft_breaks_whose : Nat → Int32) (t_draft_breaks_from : Nat → Int32) (t_draft_breaks_until : Nat → Int32) (t_draft_absences_count : Int32) (t_draft_absences_whose : Nat → Int32) (t_draft_absences_from : Nat → Int32) (t_draft_absences_until : Nat → Int32) : Option (Int32 × Int32 × Int32 × Int32 × Int32 × Int32 × Int32 × Int32 × Int32 × Int32 × Int32 × (Nat → Int32) × (Nat → Int32) × (Nat → Int32) × (Nat → Int32) × Int32 × (Nat → Int32) × (Nat → Int32) × (Nat → Int32) × Int32 × (Nat → Int32) × (Nat → Int32) × (Nat → Int32)) := some (t_code, t_bytesHeld, t_code, t_wrongAt, t_length, t_kind, t_start, t_end, t_number, t_draft_people, t_draft_lineCount, t_draft_first, t_draft_second, t_draft_cost, t_draft_oneWay, t_draft_breaks_count, t_draft_breaks_whose, t_draft_breaks_from, t_draft_breaks_until, t_draft_absences_count, t_draft_absences_whose, t_draft_absences_from, t_draft_absences_until)
def fX9_readExchange_b75 (t_bytesHeld : Int32) (t_code : Int32) (t_wrongAt : Int32) (t_length : Int32) (t_kind : Int32) (t_start : Int32) (t_end : Int32) (t_number : Int32) (t_draft_people : Int32) (t_draft_lineCount : Int32) (t_draft_first : Nat → Int32) (t_draft_second : Nat → Int32) (t_draft_cost : Nat → Int32) (t_draft_oneWay : Nat → Int32) (t_draft_breaks_count : Int32) (t_draft_breaks_whose : Nat → Int32) (t_draft_breaks_from : Nat → Int32) (t_draft_breaks_until : Nat → Int32) (t_draft_absences_count : Int32) (t_draft_absences_whose : Nat → Int32) (t_draft_absences_from : Nat → Int32) (t_draft_absences_until : Nat → Int32) : Option (Int32 × Int32 × Int32 × Int32 × Int32 × Int32 × Int32 × Int32 × Int32 × Int32 × Int32 × (Nat → Int32) × (Nat → Int32) × (Nat → Int32) × (Nat → Int32) × Int32 × (Nat → Int32) × (Nat → Int32) × (Nat → Int32) × Int32 × (Nat → Int32) × (Nat → Int32) × (Nat → Int32)) := some (t_code, t_bytesHeld, t_code, t_wrongAt, t_length, t_kind, t_start, t_end, t_number, t_draft_people, t_draft_lineCount, t_draft_first, t_draft_second, t_draft_cost, t_draft_oneWay, t_draft_breaks_count, t_draft_breaks_whose, t_draft_breaks_from, t_draft_breaks_until, t_draft_absences_count, t_draft_absences_whose, t_draft_absences_from, t_draft_absences_until)
def fX9_readExchange_b69 (t_text : Nat → Int32) (K41 : Int32 → Int32 → Int32 → Int32 → Int32 → Int32 → Int32 → Int32 → Int32 → Int32 → Int32 → (Nat → Int32) → (Nat → Int32) → (Nat → Int32) → (Nat → Int32) → Int32 → (Nat → Int32) → (Nat → Int32) → (Nat → Int32) → Int32 → (Nat → Int32) → (Nat → Int32) → (Nat → Int32) → Option (Int32 × Int32 × Int32 × Int32 × Int32 × Int32 × Int32 × Int32 × Int32 × Int32 × Int32 × (Nat → Int32) × (Nat → Int32) × (Nat → Int32) × (Nat → Int32) × Int32 × (Nat → Int32) × (Nat → Int32) × (Nat → Int32) × Int32 × (Nat → Int32) × (Nat → Int32) × (Nat → Int32))) (y2 : Int32) (s0 : Int32) (t_bytesHeld : Int32) (t_code : Int32) (t_wrongAt : Int32) (t_length : Int32) (t_kind : Int32) (t_start : Int32) (t_end : Int32) (t_number : Int32) (t_draft_people : Int32) (t_draft_lineCount : Int32) (t_draft_first : Nat → Int32) (t_draft_second : Nat → Int32) (t_draft_cost : Nat → Int32) (t_draft_oneWay : Nat → Int32) (t_draft_breaks_count : Int32) (t_draft_breaks_whose : Nat → Int32) (t_draft_breaks_from : Nat → Int32) (t_draft_breaks_until : Nat → Int32) (t_draft_absences_count : Int32) (t_draft_absences_whose : Nat → Int32) (t_draft_absences_from : Nat → Int32) (t_draft_absences_until : Nat → Int32) : Option (Int32 × Int32 × Int32 × Int32 × Int32 × Int32 × Int32 × Int32 × Int32 × Int32 × Int32 × (Nat → Int32) × (Nat → Int32) × (Nat → Int32) × (Nat → Int32) × Int32 × (Nat → Int32) × (Nat → Int32) × (Nat → Int32) × Int32 × (Nat → Int32) × (Nat → Int32) × (Nat → Int32)) := (fX9_readStatement t_code t_wrongAt t_length t_kind t_start t_end t_number t_text t_draft_people t_draft_lineCount t_draft_first t_draft_second t_draft_cost t_draft_oneWay t_draft_breaks_count t_draft_breaks_whose t_draft_breaks_from t_draft_breaks_until t_draft_absences_count t_draft_absences_whose t_draft_absences_from t_draft_absences_until s0).bind (fun u11 => if u11.1 = 0 then fX9_readExchange_b75 t_bytesHeld u11.2.1 u11.2.2.1 t_length u11.2.2.2.1 u11.2.2.2.2.1 u11.2.2.2.2.2.1 u11.2.2.2.2.2.2.1 u11.2.2.2.2.2.2.2.1 u11.2.2.2.2.2.2.2.2.1 u11.2.2.2.2.2.2.2.2.2.1 u11.2.2.2.2.2.2.2.2.2.2.1 u11.2.2.2.2.2.2.2.2.2.2.2.1 u11.2.2.2.2.2.2.2.2.2.2.2.2.1 u11.2.2.2.2.2.2.2.2.2.2.2.2.2.1 u11.2.2.2.2.2.2.2.2.2.2.2.2.2.2.1 u11.2.2.2.2.2.2.2.2.2.2.2.2.2.2.2.1 u11.2.2.2.2.2.2.2.2.2.2.2.2.2.2.2.2.1 u11.2.2.2.2.2.2.2.2.2.2.2.2.2.2.2.2.2.1 u11.2.2.2.2.2.2.2.2.2.2.2.2.2.2.2.2.2.2.1 u11.2.2.2.2.2.2.2.2.2.2.2.2.2.2.2.2.2.2.2.1 u11.2.2.2.2.2.2.2.2.2.2.2.2.2.2.2.2.2.2.2.2 else K41 (y2 + 1) t_bytesHeld u11.2.1 u11.2.2.1 t_length u11.2.2.2.1 u11.2.2.2.2.1 u11.2.2.2.2.2.1 u11.2.2.2.2.2.2.1 u11.2.2.2.2.2.2.2.1 u11.2.2.2.2.2.2.2.2.1 u11.2.2.2.2.2.2.2.2.2.1 u11.2.2.2.2.2.2.2.2.2.2.1 u11.2.2.2.2.2.2.2.2.2.2.2.1 u11.2.2.2.2.2.2.2.2.2.2.2.2.1 u11.2.2.2.2.2.2.2.2.2.2.2.2.2.1 u11.2.2.2.2.2.2.2.2.2.2.2.2.2.2.1 u11.2.2.2.2.2.2.2.2.2.2.2.2.2.2.2.1 u11.2.2.2.2.2.2.2.2.2.2.2.2.2.2.2.2.1 u11.2.2.2.2.2.2.2.2.2.2.2.2.2.2.2.2.2.1 u11.2.2.2.2.2.2.2.2.2.2.2.2.2.2.2.2.2.2.1 u11.2.2.2.2.2.2.2.2.2.2.2.2.2.2.2.2.2.2.2.1 u11.2.2.2.2.2.2.2.2.2.2.2.2.2.2.2.2.2.2.2.2)
def fX9_readExchange_b41 (t_text : Nat → Int32) : Nat → Int32 → Int32 → Int32 → Int32 → Int32 → Int32 → Int32 → Int32 → Int32 → Int32 → Int32 → (Nat → Int32) → (Nat → Int32) → (Nat → Int32) → (Nat → Int32) → Int32 → (Nat → Int32) → (Nat → Int32) → (Nat → Int32) → Int32 → (Nat → Int32) → (Nat → Int32) → (Nat → Int32) → Option (Int32 × Int32 × Int32 × Int32 × Int32 × Int32 × Int32 × Int32 × Int32 × Int32 × Int32 × (Nat → Int32) × (Nat → Int32) × (Nat → Int32) × (Nat → Int32) × Int32 × (Nat → Int32) × (Nat → Int32) × (Nat → Int32) × Int32 × (Nat → Int32) × (Nat → Int32) × (Nat → Int32))
  | 0, _, _, _, _, _, _, _, _, _, _, _, _, _, _, _, _, _, _, _, _, _, _, _ => none
  | n + 1, y2, t_bytesHeld, t_code, t_wrongAt, t_length, t_kind, t_start, t_end, t_number, t_draft_people, t_draft_lineCount, t_draft_first, t_draft_second, t_draft_cost, t_draft_oneWay, t_draft_breaks_count, t_draft_breaks_whose, t_draft_breaks_from, t_draft_breaks_until, t_draft_absences_count, t_draft_absences_whose, t_draft_absences_from, t_draft_absences_until => if 500 ≤ y2 then fX9_readExchange_b86 t_bytesHeld t_code t_wrongAt t_length t_kind t_start t_end t_number t_draft_people t_draft_lineCount t_draft_first t_draft_second t_draft_cost t_draft_oneWay t_draft_breaks_count t_draft_breaks_whose t_draft_breaks_from t_draft_breaks_until t_draft_absences_count t_draft_absences_whose t_draft_absences_from t_draft_absences_until else (fX9_nextToken t_length t_end t_text).bind (fun u6 => if u6.1 = 0 then fX9_readExchange_b75 t_bytesHeld t_code t_wrongAt t_length u6.1 u6.2.1 u6.2.2 t_number t_draft_people t_draft_lineCount t_draft_first t_draft_second t_draft_cost t_draft_oneWay t_draft_breaks_count t_draft_breaks_whose t_draft_breaks_from t_draft_breaks_until t_draft_absences_count t_draft_absences_whose t_draft_absences_from t_draft_absences_until else if y2 = 0 then fX9_readExchange_b69 t_text (fX9_readExchange_b41 t_text n) y2 1 t_bytesHeld t_code t_wrongAt t_length u6.1 u6.2.1 u6.2.2 t_number t_draft_people t_draft_lineCount t_draft_first t_draft_second t_draft_cost t_draft_oneWay t_draft_breaks_count t_draft_breaks_whose t_draft_breaks_from t_draft_breaks_until t_draft_absences_count t_draft_absences_whose t_draft_absences_from t_draft_absences_until else fX9_readExchange_b69 t_text (fX9_readExchange_b41 t_text n) y2 0 t_bytesHeld t_code t_wrongAt t_length u6.1 u6.2.1 u6.2.2 t_number t_draft_people t_draft_lineCount t_draft_first t_draft_second t_draft_cost t_draft_oneWay t_draft_breaks_count t_draft_breaks_whose t_draft_breaks_from t_draft_breaks_until t_draft_absences_count t_draft_absences_whose t_draft_absences_from t_draft_absences_until)
theorem fX9_readExchange_b41_0 (t_text : Nat → Int32) (y2 : Int32) (t_bytesHeld : Int32) (t_code : Int32) (t_wrongAt : Int32) (t_length : Int32) (t_kind : Int32) (t_start : Int32) (t_end : Int32) (t_number : Int32) (t_draft_people : Int32) (t_draft_lineCount : Int32) (t_draft_first : Nat → Int32) (t_draft_second : Nat → Int32) (t_draft_cost : Nat → Int32) (t_draft_oneWay : Nat → Int32) (t_draft_breaks_count : Int32) (t_draft_breaks_whose : Nat → Int32) (t_draft_breaks_from : Nat → Int32) (t_draft_breaks_until : Nat → Int32) (t_draft_absences_count : Int32) (t_draft_absences_whose : Nat → Int32) (t_draft_absences_from : Nat → Int32) (t_draft_absences_until : Nat → Int32) : fX9_readExchange_b41 t_text 0 y2 t_bytesHeld t_code t_wrongAt t_length t_kind t_start t_end t_number t_draft_people t_draft_lineCount t_draft_first t_draft_second t_draft_cost t_draft_oneWay t_draft_breaks_count t_draft_breaks_whose t_draft_breaks_from t_draft_breaks_until t_draft_absences_count t_draft_absences_whose t_draft_absences_from t_draft_absences_until = none := rfl
theorem fX9_readExchange_b41_s (t_text : Nat → Int32) (n : Nat) (y2 : Int32) (t_bytesHeld : Int32) (t_code : Int32) (t_wrongAt : Int32) (t_length : Int32) (t_kind : Int32) (t_start : Int32) (t_end : Int32) (t_number : Int32) (t_draft_people : Int32) (t_draft_lineCount : Int32) (t_draft_first : Nat → Int32) (t_draft_second : Nat → Int32) (t_draft_cost : Nat → Int32) (t_draft_oneWay : Nat → Int32) (t_draft_breaks_count : Int32) (t_draft_breaks_whose : Nat → Int32) (t_draft_breaks_from : Nat → Int32) (t_draft_breaks_until : Nat → Int32) (t_draft_absences_count : Int32) (t_draft_absences_whose : Nat → Int32) (t_draft_absences_from : Nat → Int32) (t_draft_absences_until : Nat → Int32) : fX9_readExchange_b41 t_text (n + 1) y2 t_bytesHeld t_code t_wrongAt t_length t_kind t_start t_end t_number t_draft_people t_draft_lineCount t_draft_first t_draft_second t_draft_cost t_draft_oneWay t_draft_breaks_count t_draft_breaks_whose t_draft_breaks_from t_draft_breaks_until t_draft_absences_count t_draft_absences_whose t_draft_absences_from t_draft_absences_until = (if 500 ≤ y2 then fX9_readExchange_b86 t_bytesHeld t_code t_wrongAt t_length t_kind t_start t_end t_number t_draft_people t_draft_lineCount t_draft_first t_draft_second t_draft_cost t_draft_oneWay t_draft_breaks_count t_draft_breaks_whose t_draft_breaks_from t_draft_breaks_until t_draft_absences_count t_draft_absences_whose t_draft_absences_from t_draft_absences_until else (fX9_nextToken t_length t_end t_text).bind (fun u6 => if u6.1 = 0 then fX9_readExchange_b75 t_bytesHeld t_code t_wrongAt t_length u6.1 u6.2.1 u6.2.2 t_number t_draft_people t_draft_lineCount t_draft_first t_draft_second t_draft_cost t_draft_oneWay t_draft_breaks_count t_draft_breaks_whose t_draft_breaks_from t_draft_breaks_until t_draft_absences_count t_draft_absences_whose t_draft_absences_from t_draft_absences_until else if y2 = 0 then fX9_readExchange_b69 t_text (fX9_readExchange_b41 t_text n) y2 1 t_bytesHeld t_code t_wrongAt t_length u6.1 u6.2.1 u6.2.2 t_number t_draft_people t_draft_lineCount t_draft_first t_draft_second t_draft_cost t_draft_oneWay t_draft_breaks_count t_draft_breaks_whose t_draft_breaks_from t_draft_breaks_until t_draft_absences_count t_draft_absences_whose t_draft_absences_from t_draft_absences_until else fX9_readExchange_b69 t_text (fX9_readExchange_b41 t_text n) y2 0 t_bytesHeld t_code t_wrongAt t_length u6.1 u6.2.1 u6.2.2 t_number t_draft_people t_draft_lineCount t_draft_first t_draft_second t_draft_cost t_draft_oneWay t_draft_breaks_count t_draft_breaks_whose t_draft_breaks_from t_draft_breaks_until t_draft_absences_count t_draft_absences_whose t_draft_absences_from t_draft_absences_until)) := rfl
def fX9_readExchange (t_bytesHeld : Int32) (t_kind : Int32) (t_start : Int32) (t_number : Int32) (t_text : Nat → Int32) (t_draft_first : Nat → Int32) (t_draft_second : Nat → Int32) (t_draft_cost : Nat → Int32) (t_draft_oneWay : Nat → Int32) (t_draft_breaks_whose : Nat → Int32) (t_draft_breaks_from : Nat → Int32) (t_draft_breaks_until : Nat → Int32) (t_draft_absences_whose : Nat → Int32) (t_draft_absences_from : Nat → Int32) (t_draft_absences_until : Nat → Int32) (x1 : Int32) : Option (Int32 × Int32 × Int32 × Int32 × Int32 × Int32 × Int32 × Int32 × Int32 × Int32 × Int32 × (Nat → Int32) × (Nat → Int32) × (Nat → Int32) × (Nat → Int32) × Int32 × (Nat → Int32) × (Nat → Int32) × (Nat → Int32) × Int32 × (Nat → Int32) × (Nat → Int32) × (Nat → Int32)) := nm (if t_bytesHeld < x1 then t_bytesHeld else x1) (fun w1 => nm (fX1_clear) (fun u2 => fX9_readExchange_b41 t_text FU 0 0 0 (-1) w1 t_kind t_start 0 t_number u2.1 u2.2.1 t_draft_first t_draft_second t_draft_cost t_draft_oneWay u2.2.2.1 t_draft_breaks_whose t_draft_breaks_from t_draft_breaks_until u2.2.2.2 t_draft_absences_whose t_draft_absences_from t_draft_absences_until))
set_option maxRecDepth 100000 in
set_option maxHeartbeats 4000000 in
theorem kX9_readExchange (l : Launch) (D : va_G) (cT : Nat → ClassId) (a_t : Nat) (a_t_text : Nat) (a_t_draft : Nat) (a_t_draft_first : Nat) (a_t_draft_second : Nat) (a_t_draft_cost : Nat) (a_t_draft_oneWay : Nat) (a_t_draft_breaks : Nat) (a_t_draft_absences : Nat) (a_t_draft_breaks_whose : Nat) (a_t_draft_breaks_from : Nat) (a_t_draft_breaks_until : Nat) (a_t_draft_absences_whose : Nat) (a_t_draft_absences_from : Nat) (a_t_draft_absences_until : Nat) (t_bytesHeld : Int32) (t_code : Int32) (t_wrongAt : Int32) (t_length : Int32) (t_kind : Int32) (t_start : Int32) (t_end : Int32) (t_number : Int32) (t_text : Nat → Int32) (t_draft_people : Int32) (t_draft_lineCount : Int32) (t_draft_first : Nat → Int32) (t_draft_second : Nat → Int32) (t_draft_cost : Nat → Int32) (t_draft_oneWay : Nat → Int32) (t_draft_breaks_count : Int32) (t_draft_breaks_whose : Nat → Int32) (t_draft_breaks_from : Nat → Int32) (t_draft_breaks_until : Nat → Int32) (t_draft_absences_count : Int32) (t_draft_absences_whose : Nat → Int32) (t_draft_absences_from : Nat → Int32) (t_draft_absences_until : Nat → Int32) (x1 : Int32) (r : Int32 × Int32 × Int32 × Int32 × Int32 × Int32 × Int32 × Int32 × Int32 × Int32 × Int32 × (Nat → Int32) × (Nat → Int32) × (Nat → Int32) × (Nat → Int32) × Int32 × (Nat → Int32) × (Nat → Int32) × (Nat → Int32) × Int32 × (Nat → Int32) × (Nat → Int32) × (Nat → Int32)) (h : fX9_readExchange t_bytesHeld t_kind t_start t_number t_text t_draft_first t_draft_second t_draft_cost t_draft_oneWay t_draft_breaks_whose t_draft_breaks_from t_draft_breaks_until t_draft_absences_whose t_draft_absences_from t_draft_absences_until x1 = some r) : sM l yX9_readExchange cX9_readExchange 3 (some .int) (zR 8) D cT [.ref a_t, .int x1] [(a_t, .inr (9, [.ref a_t_text, .int t_bytesHeld, .ref a_t_draft, .int t_code, .int t_wrongAt, .int t_length, .int t_kind, .int t_start, .int t_end, .int t_number])), (a_t_text, .inl (cT 2, 500, .inl t_text)), (a_t_draft, .inr (1, [.int t_draft_people, .int t_draft_lineCount, .ref a_t_draft_first, .ref a_t_draft_second, .ref a_t_draft_cost, .ref a_t_draft_oneWay, .ref a_t_draft_breaks, .ref a_t_draft_absences])), (a_t_draft_first, .inl (cT 0, 24, .inl t_draft_first)), (a_t_draft_second, .inl (cT 0, 24, .inl t_draft_second)), (a_t_draft_cost, .inl (cT 0, 24, .inl t_draft_cost)), (a_t_draft_oneWay, .inl (cT 3, 24, .inl t_draft_oneWay)), (a_t_draft_breaks, .inr (8, [.ref a_t_draft_breaks_whose, .ref a_t_draft_breaks_from, .ref a_t_draft_breaks_until, .int t_draft_breaks_count])), (a_t_draft_breaks_whose, .inl (cT 0, 12, .inl t_draft_breaks_whose)), (a_t_draft_breaks_from, .inl (cT 0, 12, .inl t_draft_breaks_from)), (a_t_draft_breaks_until, .inl (cT 0, 12, .inl t_draft_breaks_until)), (a_t_draft_absences, .inr (8, [.ref a_t_draft_absences_whose, .ref a_t_draft_absences_from, .ref a_t_draft_absences_until, .int t_draft_absences_count])), (a_t_draft_absences_whose, .inl (cT 0, 12, .inl t_draft_absences_whose)), (a_t_draft_absences_from, .inl (cT 0, 12, .inl t_draft_absences_from)), (a_t_draft_absences_until, .inl (cT 0, 12, .inl t_draft_absences_until))] (some (.int r.1)) [(a_t, .inr (9, [.ref a_t_text, .int r.2.1, .ref a_t_draft, .int r.2.2.1, .int r.2.2.2.1, .int r.2.2.2.2.1, .int r.2.2.2.2.2.1, .int r.2.2.2.2.2.2.1, .int r.2.2.2.2.2.2.2.1, .int r.2.2.2.2.2.2.2.2.1])), (a_t_text, .inl (cT 2, 500, .inl t_text)), (a_t_draft, .inr (1, [.int r.2.2.2.2.2.2.2.2.2.1, .int r.2.2.2.2.2.2.2.2.2.2.1, .ref a_t_draft_first, .ref a_t_draft_second, .ref a_t_draft_cost, .ref a_t_draft_oneWay, .ref a_t_draft_breaks, .ref a_t_draft_absences])), (a_t_draft_first, .inl (cT 0, 24, .inl r.2.2.2.2.2.2.2.2.2.2.2.1)), (a_t_draft_second, .inl (cT 0, 24, .inl r.2.2.2.2.2.2.2.2.2.2.2.2.1)), (a_t_draft_cost, .inl (cT 0, 24, .inl r.2.2.2.2.2.2.2.2.2.2.2.2.2.1)), (a_t_draft_oneWay, .inl (cT 3, 24, .inl r.2.2.2.2.2.2.2.2.2.2.2.2.2.2.1)), (a_t_draft_breaks, .inr (8, [.ref a_t_draft_breaks_whose, .ref a_t_draft_breaks_from, .ref a_t_draft_breaks_until, .int r.2.2.2.2.2.2.2.2.2.2.2.2.2.2.2.1])), (a_t_draft_breaks_whose, .inl (cT 0, 12, .inl r.2.2.2.2.2.2.2.2.2.2.2.2.2.2.2.2.1)), (a_t_draft_breaks_from, .inl (cT 0, 12, .inl r.2.2.2.2.2.2.2.2.2.2.2.2.2.2.2.2.2.1)), (a_t_draft_breaks_until, .inl (cT 0, 12, .inl r.2.2.2.2.2.2.2.2.2.2.2.2.2.2.2.2.2.2.1)), (a_t_draft_absences, .inr (8, [.ref a_t_draft_absences_whose, .ref a_t_draft_absences_from, .ref a_t_draft_absences_until, .int r.2.2.2.2.2.2.2.2.2.2.2.2.2.2.2.2.2.2.2.1])), (a_t_draft_absences_whose, .inl (cT 0, 12, .inl r.2.2.2.2.2.2.2.2.2.2.2.2.2.2.2.2.2.2.2.2.1)), (a_t_draft_absences_from, .inl (cT 0, 12, .inl r.2.2.2.2.2.2.2.2.2.2.2.2.2.2.2.2.2.2.2.2.2.1)), (a_t_draft_absences_until, .inl (cT 0, 12, .inl r.2.2.2.2.2.2.2.2.2.2.2.2.2.2.2.2.2.2.2.2.2.2))] := by
  refine sM_int rfl (Nat.le_of_ble_eq_true rfl) ?_
  intro X C hE
  have B86 : ∀ (t_bytesHeld : Int32) (t_code : Int32) (t_wrongAt : Int32) (t_length : Int32) (t_kind : Int32) (t_start : Int32) (t_end : Int32) (t_number : Int32) (t_draft_people : Int32) (t_draft_lineCount : Int32) (t_draft_first : Nat → Int32) (t_draft_second : Nat → Int32) (t_draft_cost : Nat → Int32) (t_draft_oneWay : Nat → Int32) (t_draft_breaks_count : Int32) (t_draft_breaks_whose : Nat → Int32) (t_draft_breaks_from : Nat → Int32) (t_draft_breaks_until : Nat → Int32) (t_draft_absences_count : Int32) (t_draft_absences_whose : Nat → Int32) (t_draft_absences_from : Nat → Int32) (t_draft_absences_until : Nat → Int32), fX9_readExchange_b86 t_bytesHeld t_code t_wrongAt t_length t_kind t_start t_end t_number t_draft_people t_draft_lineCount t_draft_first t_draft_second t_draft_cost t_draft_oneWay t_draft_breaks_count t_draft_breaks_whose t_draft_breaks_from t_draft_breaks_until t_draft_absences_count t_draft_absences_whose t_draft_absences_from t_draft_absences_until = some r → sW X l (zR 8) D 3 0 0 86 [(0, .ref a_t)] [] [(a_t, .inr (9, [.ref a_t_text, .int t_bytesHeld, .ref a_t_draft, .int t_code, .int t_wrongAt, .int t_length, .int t_kind, .int t_start, .int t_end, .int t_number])), (a_t_text, .inl (cT 2, 500, .inl t_text)), (a_t_draft, .inr (1, [.int t_draft_people, .int t_draft_lineCount, .ref a_t_draft_first, .ref a_t_draft_second, .ref a_t_draft_cost, .ref a_t_draft_oneWay, .ref a_t_draft_breaks, .ref a_t_draft_absences])), (a_t_draft_first, .inl (cT 0, 24, .inl t_draft_first)), (a_t_draft_second, .inl (cT 0, 24, .inl t_draft_second)), (a_t_draft_cost, .inl (cT 0, 24, .inl t_draft_cost)), (a_t_draft_oneWay, .inl (cT 3, 24, .inl t_draft_oneWay)), (a_t_draft_breaks, .inr (8, [.ref a_t_draft_breaks_whose, .ref a_t_draft_breaks_from, .ref a_t_draft_breaks_until, .int t_draft_breaks_count])), (a_t_draft_breaks_whose, .inl (cT 0, 12, .inl t_draft_breaks_whose)), (a_t_draft_breaks_from, .inl (cT 0, 12, .inl t_draft_breaks_from)), (a_t_draft_breaks_until, .inl (cT 0, 12, .inl t_draft_breaks_until)), (a_t_draft_absences, .inr (8, [.ref a_t_draft_absences_whose, .ref a_t_draft_absences_from, .ref a_t_draft_absences_until, .int t_draft_absences_count])), (a_t_draft_absences_whose, .inl (cT 0, 12, .inl t_draft_absences_whose)), (a_t_draft_absences_from, .inl (cT 0, 12, .inl t_draft_absences_from)), (a_t_draft_absences_until, .inl (cT 0, 12, .inl t_draft_absences_until))] := by
    intro t_bytesHeld t_code t_wrongAt t_length t_kind t_start t_end t_number t_draft_people t_draft_lineCount t_draft_first t_draft_second t_draft_cost t_draft_oneWay t_draft_breaks_count t_draft_breaks_whose t_draft_breaks_from t_draft_breaks_until t_draft_absences_count t_draft_absences_whose t_draft_absences_from t_draft_absences_until h
    refine xi_aload_n C 0 dX9_readExchange_86 rfl ?_
    refine xi_get C zkX9 3 0 zlX9_26 (by decide) rfl rfl dX9_readExchange_87 ?_
    obtain rfl := Option.some.inj h
    exact hE _ _ _ dX9_readExchange_90 rfl
  have B75 : ∀ (t_bytesHeld : Int32) (t_code : Int32) (t_wrongAt : Int32) (t_length : Int32) (t_kind : Int32) (t_start : Int32) (t_end : Int32) (t_number : Int32) (t_draft_people : Int32) (t_draft_lineCount : Int32) (t_draft_first : Nat → Int32) (t_draft_second : Nat → Int32) (t_draft_cost : Nat → Int32) (t_draft_oneWay : Nat → Int32) (t_draft_breaks_count : Int32) (t_draft_breaks_whose : Nat → Int32) (t_draft_breaks_from : Nat → Int32) (t_draft_breaks_until : Nat → Int32) (t_draft_absences_count : Int32) (t_draft_absences_whose : Nat → Int32) (t_draft_absences_from : Nat → Int32) (t_draft_absences_until : Nat → Int32), fX9_readExchange_b75 t_bytesHeld t_code t_wrongAt t_length t_kind t_start t_end t_number t_draft_people t_draft_lineCount t_draft_first t_draft_second t_draft_cost t_draft_oneWay t_draft_breaks_count t_draft_breaks_whose t_draft_breaks_from t_draft_breaks_until t_draft_absences_count t_draft_absences_whose t_draft_absences_from t_draft_absences_until = some r → sW X l (zR 8) D 3 0 0 75 [(0, .ref a_t)] [] [(a_t, .inr (9, [.ref a_t_text, .int t_bytesHeld, .ref a_t_draft, .int t_code, .int t_wrongAt, .int t_length, .int t_kind, .int t_start, .int t_end, .int t_number])), (a_t_text, .inl (cT 2, 500, .inl t_text)), (a_t_draft, .inr (1, [.int t_draft_people, .int t_draft_lineCount, .ref a_t_draft_first, .ref a_t_draft_second, .ref a_t_draft_cost, .ref a_t_draft_oneWay, .ref a_t_draft_breaks, .ref a_t_draft_absences])), (a_t_draft_first, .inl (cT 0, 24, .inl t_draft_first)), (a_t_draft_second, .inl (cT 0, 24, .inl t_draft_second)), (a_t_draft_cost, .inl (cT 0, 24, .inl t_draft_cost)), (a_t_draft_oneWay, .inl (cT 3, 24, .inl t_draft_oneWay)), (a_t_draft_breaks, .inr (8, [.ref a_t_draft_breaks_whose, .ref a_t_draft_breaks_from, .ref a_t_draft_breaks_until, .int t_draft_breaks_count])), (a_t_draft_breaks_whose, .inl (cT 0, 12, .inl t_draft_breaks_whose)), (a_t_draft_breaks_from, .inl (cT 0, 12, .inl t_draft_breaks_from)), (a_t_draft_breaks_until, .inl (cT 0, 12, .inl t_draft_breaks_until)), (a_t_draft_absences, .inr (8, [.ref a_t_draft_absences_whose, .ref a_t_draft_absences_from, .ref a_t_draft_absences_until, .int t_draft_absences_count])), (a_t_draft_absences_whose, .inl (cT 0, 12, .inl t_draft_absences_whose)), (a_t_draft_absences_from, .inl (cT 0, 12, .inl t_draft_absences_from)), (a_t_draft_absences_until, .inl (cT 0, 12, .inl t_draft_absences_until))] := by
    intro t_bytesHeld t_code t_wrongAt t_length t_kind t_start t_end t_number t_draft_people t_draft_lineCount t_draft_first t_draft_second t_draft_cost t_draft_oneWay t_draft_breaks_count t_draft_breaks_whose t_draft_breaks_from t_draft_breaks_until t_draft_absences_count t_draft_absences_whose t_draft_absences_from t_draft_absences_until h
    refine xi_aload_n C 0 dX9_readExchange_75 rfl ?_
    refine xi_get C zkX9 3 0 zlX9_26 (by decide) rfl rfl dX9_readExchange_76 ?_
    obtain rfl := Option.some.inj h
    exact hE _ _ _ dX9_readExchange_79 rfl
  have B69 : ∀ (K41 : Int32 → Int32 → Int32 → Int32 → Int32 → Int32 → Int32 → Int32 → Int32 → Int32 → Int32 → (Nat → Int32) → (Nat → Int32) → (Nat → Int32) → (Nat → Int32) → Int32 → (Nat → Int32) → (Nat → Int32) → (Nat → Int32) → Int32 → (Nat → Int32) → (Nat → Int32) → (Nat → Int32) → Option (Int32 × Int32 × Int32 × Int32 × Int32 × Int32 × Int32 × Int32 × Int32 × Int32 × Int32 × (Nat → Int32) × (Nat → Int32) × (Nat → Int32) × (Nat → Int32) × Int32 × (Nat → Int32) × (Nat → Int32) × (Nat → Int32) × Int32 × (Nat → Int32) × (Nat → Int32) × (Nat → Int32))) (hK41 : ∀ (y2 : Int32) (t_bytesHeld : Int32) (t_code : Int32) (t_wrongAt : Int32) (t_length : Int32) (t_kind : Int32) (t_start : Int32) (t_end : Int32) (t_number : Int32) (t_draft_people : Int32) (t_draft_lineCount : Int32) (t_draft_first : Nat → Int32) (t_draft_second : Nat → Int32) (t_draft_cost : Nat → Int32) (t_draft_oneWay : Nat → Int32) (t_draft_breaks_count : Int32) (t_draft_breaks_whose : Nat → Int32) (t_draft_breaks_from : Nat → Int32) (t_draft_breaks_until : Nat → Int32) (t_draft_absences_count : Int32) (t_draft_absences_whose : Nat → Int32) (t_draft_absences_from : Nat → Int32) (t_draft_absences_until : Nat → Int32), K41 y2 t_bytesHeld t_code t_wrongAt t_length t_kind t_start t_end t_number t_draft_people t_draft_lineCount t_draft_first t_draft_second t_draft_cost t_draft_oneWay t_draft_breaks_count t_draft_breaks_whose t_draft_breaks_from t_draft_breaks_until t_draft_absences_count t_draft_absences_whose t_draft_absences_from t_draft_absences_until = some r → sW X l (zR 8) D 3 0 0 41 [(0, .ref a_t), (2, .int y2)] [] [(a_t, .inr (9, [.ref a_t_text, .int t_bytesHeld, .ref a_t_draft, .int t_code, .int t_wrongAt, .int t_length, .int t_kind, .int t_start, .int t_end, .int t_number])), (a_t_text, .inl (cT 2, 500, .inl t_text)), (a_t_draft, .inr (1, [.int t_draft_people, .int t_draft_lineCount, .ref a_t_draft_first, .ref a_t_draft_second, .ref a_t_draft_cost, .ref a_t_draft_oneWay, .ref a_t_draft_breaks, .ref a_t_draft_absences])), (a_t_draft_first, .inl (cT 0, 24, .inl t_draft_first)), (a_t_draft_second, .inl (cT 0, 24, .inl t_draft_second)), (a_t_draft_cost, .inl (cT 0, 24, .inl t_draft_cost)), (a_t_draft_oneWay, .inl (cT 3, 24, .inl t_draft_oneWay)), (a_t_draft_breaks, .inr (8, [.ref a_t_draft_breaks_whose, .ref a_t_draft_breaks_from, .ref a_t_draft_breaks_until, .int t_draft_breaks_count])), (a_t_draft_breaks_whose, .inl (cT 0, 12, .inl t_draft_breaks_whose)), (a_t_draft_breaks_from, .inl (cT 0, 12, .inl t_draft_breaks_from)), (a_t_draft_breaks_until, .inl (cT 0, 12, .inl t_draft_breaks_until)), (a_t_draft_absences, .inr (8, [.ref a_t_draft_absences_whose, .ref a_t_draft_absences_from, .ref a_t_draft_absences_until, .int t_draft_absences_count])), (a_t_draft_absences_whose, .inl (cT 0, 12, .inl t_draft_absences_whose)), (a_t_draft_absences_from, .inl (cT 0, 12, .inl t_draft_absences_from)), (a_t_draft_absences_until, .inl (cT 0, 12, .inl t_draft_absences_until))]) (y2 : Int32) (s0 : Int32) (t_bytesHeld : Int32) (t_code : Int32) (t_wrongAt : Int32) (t_length : Int32) (t_kind : Int32) (t_start : Int32) (t_end : Int32) (t_number : Int32) (t_draft_people : Int32) (t_draft_lineCount : Int32) (t_draft_first : Nat → Int32) (t_draft_second : Nat → Int32) (t_draft_cost : Nat → Int32) (t_draft_oneWay : Nat → Int32) (t_draft_breaks_count : Int32) (t_draft_breaks_whose : Nat → Int32) (t_draft_breaks_from : Nat → Int32) (t_draft_breaks_until : Nat → Int32) (t_draft_absences_count : Int32) (t_draft_absences_whose : Nat → Int32) (t_draft_absences_from : Nat → Int32) (t_draft_absences_until : Nat → Int32), fX9_readExchange_b69 t_text K41 y2 s0 t_bytesHeld t_code t_wrongAt t_length t_kind t_start t_end t_number t_draft_people t_draft_lineCount t_draft_first t_draft_second t_draft_cost t_draft_oneWay t_draft_breaks_count t_draft_breaks_whose t_draft_breaks_from t_draft_breaks_until t_draft_absences_count t_draft_absences_whose t_draft_absences_from t_draft_absences_until = some r → sW X l (zR 8) D 3 0 0 69 [(0, .ref a_t), (2, .int y2)] [.int s0, .ref a_t] [(a_t, .inr (9, [.ref a_t_text, .int t_bytesHeld, .ref a_t_draft, .int t_code, .int t_wrongAt, .int t_length, .int t_kind, .int t_start, .int t_end, .int t_number])), (a_t_text, .inl (cT 2, 500, .inl t_text)), (a_t_draft, .inr (1, [.int t_draft_people, .int t_draft_lineCount, .ref a_t_draft_first, .ref a_t_draft_second, .ref a_t_draft_cost, .ref a_t_draft_oneWay, .ref a_t_draft_breaks, .ref a_t_draft_absences])), (a_t_draft_first, .inl (cT 0, 24, .inl t_draft_first)), (a_t_draft_second, .inl (cT 0, 24, .inl t_draft_second)), (a_t_draft_cost, .inl (cT 0, 24, .inl t_draft_cost)), (a_t_draft_oneWay, .inl (cT 3, 24, .inl t_draft_oneWay)), (a_t_draft_breaks, .inr (8, [.ref a_t_draft_breaks_whose, .ref a_t_draft_breaks_from, .ref a_t_draft_breaks_until, .int t_draft_breaks_count])), (a_t_draft_breaks_whose, .inl (cT 0, 12, .inl t_draft_breaks_whose)), (a_t_draft_breaks_from, .inl (cT 0, 12, .inl t_draft_breaks_from)), (a_t_draft_breaks_until, .inl (cT 0, 12, .inl t_draft_breaks_until)), (a_t_draft_absences, .inr (8, [.ref a_t_draft_absences_whose, .ref a_t_draft_absences_from, .ref a_t_draft_absences_until, .int t_draft_absences_count])), (a_t_draft_absences_whose, .inl (cT 0, 12, .inl t_draft_absences_whose)), (a_t_draft_absences_from, .inl (cT 0, 12, .inl t_draft_absences_from)), (a_t_draft_absences_until, .inl (cT 0, 12, .inl t_draft_absences_until))] := by
    intro K41 hK41 y2 s0 t_bytesHeld t_code t_wrongAt t_length t_kind t_start t_end t_number t_draft_people t_draft_lineCount t_draft_first t_draft_second t_draft_cost t_draft_oneWay t_draft_breaks_count t_draft_breaks_whose t_draft_breaks_from t_draft_breaks_until t_draft_absences_count t_draft_absences_whose t_draft_absences_from t_draft_absences_until h
    replace h := ob h
    obtain ⟨u11, hu12, h⟩ := h
    refine xi_callV C (kX9_readStatement l D cT a_t a_t_text a_t_draft a_t_draft_first a_t_draft_second a_t_draft_cost a_t_draft_oneWay a_t_draft_breaks a_t_draft_absences a_t_draft_breaks_whose a_t_draft_breaks_from a_t_draft_breaks_until a_t_draft_absences_whose a_t_draft_absences_from a_t_draft_absences_until t_bytesHeld t_code t_wrongAt t_length t_kind t_start t_end t_number t_text t_draft_people t_draft_lineCount t_draft_first t_draft_second t_draft_cost t_draft_oneWay t_draft_breaks_count t_draft_breaks_whose t_draft_breaks_from t_draft_breaks_until t_draft_absences_count t_draft_absences_whose t_draft_absences_from t_draft_absences_until s0 u11 hu12) zcX9_readStatement zmX9_59 ziX9_readStatement (zr rfl rfl) z00 rfl [0, 1, 2, 3, 4, 5, 6, 7, 8, 9, 10, 11, 12, 13, 14] rfl rfl rfl [some 0, some 1, some 2, some 3, some 4, some 5, some 6, some 7, some 8, some 9, some 10, some 11, some 12, some 13, some 14] (by decide +kernel) (ws2 := [(a_t, .inr (9, [.ref a_t_text, .int t_bytesHeld, .ref a_t_draft, .int u11.2.1, .int u11.2.2.1, .int t_length, .int u11.2.2.2.1, .int u11.2.2.2.2.1, .int u11.2.2.2.2.2.1, .int u11.2.2.2.2.2.2.1])), (a_t_text, .inl (cT 2, 500, .inl t_text)), (a_t_draft, .inr (1, [.int u11.2.2.2.2.2.2.2.1, .int u11.2.2.2.2.2.2.2.2.1, .ref a_t_draft_first, .ref a_t_draft_second, .ref a_t_draft_cost, .ref a_t_draft_oneWay, .ref a_t_draft_breaks, .ref a_t_draft_absences])), (a_t_draft_first, .inl (cT 0, 24, .inl u11.2.2.2.2.2.2.2.2.2.1)), (a_t_draft_second, .inl (cT 0, 24, .inl u11.2.2.2.2.2.2.2.2.2.2.1)), (a_t_draft_cost, .inl (cT 0, 24, .inl u11.2.2.2.2.2.2.2.2.2.2.2.1)), (a_t_draft_oneWay, .inl (cT 3, 24, .inl u11.2.2.2.2.2.2.2.2.2.2.2.2.1)), (a_t_draft_breaks, .inr (8, [.ref a_t_draft_breaks_whose, .ref a_t_draft_breaks_from, .ref a_t_draft_breaks_until, .int u11.2.2.2.2.2.2.2.2.2.2.2.2.2.1])), (a_t_draft_breaks_whose, .inl (cT 0, 12, .inl u11.2.2.2.2.2.2.2.2.2.2.2.2.2.2.1)), (a_t_draft_breaks_from, .inl (cT 0, 12, .inl u11.2.2.2.2.2.2.2.2.2.2.2.2.2.2.2.1)), (a_t_draft_breaks_until, .inl (cT 0, 12, .inl u11.2.2.2.2.2.2.2.2.2.2.2.2.2.2.2.2.1)), (a_t_draft_absences, .inr (8, [.ref a_t_draft_absences_whose, .ref a_t_draft_absences_from, .ref a_t_draft_absences_until, .int u11.2.2.2.2.2.2.2.2.2.2.2.2.2.2.2.2.2.1])), (a_t_draft_absences_whose, .inl (cT 0, 12, .inl u11.2.2.2.2.2.2.2.2.2.2.2.2.2.2.2.2.2.2.1)), (a_t_draft_absences_from, .inl (cT 0, 12, .inl u11.2.2.2.2.2.2.2.2.2.2.2.2.2.2.2.2.2.2.2.1)), (a_t_draft_absences_until, .inl (cT 0, 12, .inl u11.2.2.2.2.2.2.2.2.2.2.2.2.2.2.2.2.2.2.2.2))]) rfl zkX9.1 (qr := 0) rfl rfl (Nat.le_of_ble_eq_true rfl) dX9_readExchange_69 (fun z13 => ?_)
    refine xi_if_ne C (tgt := 80) dX9_readExchange_72 rfl (fun c14 => ?_) (fun c14 => ?_)
    · replace h := (if_neg c14).symm.trans h
      refine xi_iinc C (v := y2 + 1) 1 [1, 0] (L2 := [(0, .ref a_t), (2, .int (y2 + 1))]) dX9_readExchange_80 rfl rfl (Nat.le_of_ble_eq_true rfl) rfl ?_
      refine xi_goto C (tgt := 41) dX9_readExchange_83 rfl ?_
      exact hK41 (y2 + 1) t_bytesHeld u11.2.1 u11.2.2.1 t_length u11.2.2.2.1 u11.2.2.2.2.1 u11.2.2.2.2.2.1 u11.2.2.2.2.2.2.1 u11.2.2.2.2.2.2.2.1 u11.2.2.2.2.2.2.2.2.1 u11.2.2.2.2.2.2.2.2.2.1 u11.2.2.2.2.2.2.2.2.2.2.1 u11.2.2.2.2.2.2.2.2.2.2.2.1 u11.2.2.2.2.2.2.2.2.2.2.2.2.1 u11.2.2.2.2.2.2.2.2.2.2.2.2.2.1 u11.2.2.2.2.2.2.2.2.2.2.2.2.2.2.1 u11.2.2.2.2.2.2.2.2.2.2.2.2.2.2.2.1 u11.2.2.2.2.2.2.2.2.2.2.2.2.2.2.2.2.1 u11.2.2.2.2.2.2.2.2.2.2.2.2.2.2.2.2.2.1 u11.2.2.2.2.2.2.2.2.2.2.2.2.2.2.2.2.2.2.1 u11.2.2.2.2.2.2.2.2.2.2.2.2.2.2.2.2.2.2.2.1 u11.2.2.2.2.2.2.2.2.2.2.2.2.2.2.2.2.2.2.2.2 h
    · replace h := (if_pos c14).symm.trans h
      refine xi_drop (L2 := [(0, .ref a_t)]) [0] rfl ?_
      exact B75 t_bytesHeld u11.2.1 u11.2.2.1 t_length u11.2.2.2.1 u11.2.2.2.2.1 u11.2.2.2.2.2.1 u11.2.2.2.2.2.2.1 u11.2.2.2.2.2.2.2.1 u11.2.2.2.2.2.2.2.2.1 u11.2.2.2.2.2.2.2.2.2.1 u11.2.2.2.2.2.2.2.2.2.2.1 u11.2.2.2.2.2.2.2.2.2.2.2.1 u11.2.2.2.2.2.2.2.2.2.2.2.2.1 u11.2.2.2.2.2.2.2.2.2.2.2.2.2.1 u11.2.2.2.2.2.2.2.2.2.2.2.2.2.2.1 u11.2.2.2.2.2.2.2.2.2.2.2.2.2.2.2.1 u11.2.2.2.2.2.2.2.2.2.2.2.2.2.2.2.2.1 u11.2.2.2.2.2.2.2.2.2.2.2.2.2.2.2.2.2.1 u11.2.2.2.2.2.2.2.2.2.2.2.2.2.2.2.2.2.2.1 u11.2.2.2.2.2.2.2.2.2.2.2.2.2.2.2.2.2.2.2.1 u11.2.2.2.2.2.2.2.2.2.2.2.2.2.2.2.2.2.2.2.2 h
  have B41 : ∀ (n : Nat) (y2 : Int32) (t_bytesHeld : Int32) (t_code : Int32) (t_wrongAt : Int32) (t_length : Int32) (t_kind : Int32) (t_start : Int32) (t_end : Int32) (t_number : Int32) (t_draft_people : Int32) (t_draft_lineCount : Int32) (t_draft_first : Nat → Int32) (t_draft_second : Nat → Int32) (t_draft_cost : Nat → Int32) (t_draft_oneWay : Nat → Int32) (t_draft_breaks_count : Int32) (t_draft_breaks_whose : Nat → Int32) (t_draft_breaks_from : Nat → Int32) (t_draft_breaks_until : Nat → Int32) (t_draft_absences_count : Int32) (t_draft_absences_whose : Nat → Int32) (t_draft_absences_from : Nat → Int32) (t_draft_absences_until : Nat → Int32), fX9_readExchange_b41 t_text n y2 t_bytesHeld t_code t_wrongAt t_length t_kind t_start t_end t_number t_draft_people t_draft_lineCount t_draft_first t_draft_second t_draft_cost t_draft_oneWay t_draft_breaks_count t_draft_breaks_whose t_draft_breaks_from t_draft_breaks_until t_draft_absences_count t_draft_absences_whose t_draft_absences_from t_draft_absences_until = some r → sW X l (zR 8) D 3 0 0 41 [(0, .ref a_t), (2, .int y2)] [] [(a_t, .inr (9, [.ref a_t_text, .int t_bytesHeld, .ref a_t_draft, .int t_code, .int t_wrongAt, .int t_length, .int t_kind, .int t_start, .int t_end, .int t_number])), (a_t_text, .inl (cT 2, 500, .inl t_text)), (a_t_draft, .inr (1, [.int t_draft_people, .int t_draft_lineCount, .ref a_t_draft_first, .ref a_t_draft_second, .ref a_t_draft_cost, .ref a_t_draft_oneWay, .ref a_t_draft_breaks, .ref a_t_draft_absences])), (a_t_draft_first, .inl (cT 0, 24, .inl t_draft_first)), (a_t_draft_second, .inl (cT 0, 24, .inl t_draft_second)), (a_t_draft_cost, .inl (cT 0, 24, .inl t_draft_cost)), (a_t_draft_oneWay, .inl (cT 3, 24, .inl t_draft_oneWay)), (a_t_draft_breaks, .inr (8, [.ref a_t_draft_breaks_whose, .ref a_t_draft_breaks_from, .ref a_t_draft_breaks_until, .int t_draft_breaks_count])), (a_t_draft_breaks_whose, .inl (cT 0, 12, .inl t_draft_breaks_whose)), (a_t_draft_breaks_from, .inl (cT 0, 12, .inl t_draft_breaks_from)), (a_t_draft_breaks_until, .inl (cT 0, 12, .inl t_draft_breaks_until)), (a_t_draft_absences, .inr (8, [.ref a_t_draft_absences_whose, .ref a_t_draft_absences_from, .ref a_t_draft_absences_until, .int t_draft_absences_count])), (a_t_draft_absences_whose, .inl (cT 0, 12, .inl t_draft_absences_whose)), (a_t_draft_absences_from, .inl (cT 0, 12, .inl t_draft_absences_from)), (a_t_draft_absences_until, .inl (cT 0, 12, .inl t_draft_absences_until))] := by
    intro n
    induction n with
    | zero =>
      intro y2 t_bytesHeld t_code t_wrongAt t_length t_kind t_start t_end t_number t_draft_people t_draft_lineCount t_draft_first t_draft_second t_draft_cost t_draft_oneWay t_draft_breaks_count t_draft_breaks_whose t_draft_breaks_from t_draft_breaks_until t_draft_absences_count t_draft_absences_whose t_draft_absences_from t_draft_absences_until h
      exact zno ((fX9_readExchange_b41_0 _ _ _ _ _ _ _ _ _ _ _ _ _ _ _ _ _ _ _ _ _ _ _ _).symm.trans h)
    | succ n ih =>
      intro y2 t_bytesHeld t_code t_wrongAt t_length t_kind t_start t_end t_number t_draft_people t_draft_lineCount t_draft_first t_draft_second t_draft_cost t_draft_oneWay t_draft_breaks_count t_draft_breaks_whose t_draft_breaks_from t_draft_breaks_until t_draft_absences_count t_draft_absences_whose t_draft_absences_from t_draft_absences_until h
      replace h := (fX9_readExchange_b41_s _ _ _ _ _ _ _ _ _ _ _ _ _ _ _ _ _ _ _ _ _ _ _ _ _).symm.trans h
      refine xi_iload_n C 1 dX9_readExchange_41 rfl ?_
      refine xi_sipush C (v := 500) dX9_readExchange_42 rfl ?_
      refine xi_icmp_ge C (tgt := 86) dX9_readExchange_45 rfl (fun c5 => ?_) (fun c5 => ?_)
      · replace h := (if_pos c5).symm.trans h
        refine xi_drop (L2 := [(0, .ref a_t)]) [0] rfl ?_
        exact B86 t_bytesHeld t_code t_wrongAt t_length t_kind t_start t_end t_number t_draft_people t_draft_lineCount t_draft_first t_draft_second t_draft_cost t_draft_oneWay t_draft_breaks_count t_draft_breaks_whose t_draft_breaks_from t_draft_breaks_until t_draft_absences_count t_draft_absences_whose t_draft_absences_from t_draft_absences_until h
      · replace h := (if_neg c5).symm.trans h
        refine xi_aload_n C 0 dX9_readExchange_48 rfl ?_
        replace h := ob h
        obtain ⟨u6, hu7, h⟩ := h
        refine xi_callV C (kX9_nextToken l D cT a_t a_t_text a_t_draft t_bytesHeld t_code t_wrongAt t_length t_kind t_start t_end t_number t_text u6 hu7) zcX9_nextToken zmX9_56 ziX9_nextToken (zr rfl rfl) z00 rfl [0, 1] rfl rfl rfl [some 0, some 1, none, none, none, none, none, none, none, none, none, none, none, none, none] (by decide +kernel) (ws2 := [(a_t, .inr (9, [.ref a_t_text, .int t_bytesHeld, .ref a_t_draft, .int t_code, .int t_wrongAt, .int t_length, .int u6.1, .int u6.2.1, .int u6.2.2, .int t_number])), (a_t_text, .inl (cT 2, 500, .inl t_text)), (a_t_draft, .inr (1, [.int t_draft_people, .int t_draft_lineCount, .ref a_t_draft_first, .ref a_t_draft_second, .ref a_t_draft_cost, .ref a_t_draft_oneWay, .ref a_t_draft_breaks, .ref a_t_draft_absences])), (a_t_draft_first, .inl (cT 0, 24, .inl t_draft_first)), (a_t_draft_second, .inl (cT 0, 24, .inl t_draft_second)), (a_t_draft_cost, .inl (cT 0, 24, .inl t_draft_cost)), (a_t_draft_oneWay, .inl (cT 3, 24, .inl t_draft_oneWay)), (a_t_draft_breaks, .inr (8, [.ref a_t_draft_breaks_whose, .ref a_t_draft_breaks_from, .ref a_t_draft_breaks_until, .int t_draft_breaks_count])), (a_t_draft_breaks_whose, .inl (cT 0, 12, .inl t_draft_breaks_whose)), (a_t_draft_breaks_from, .inl (cT 0, 12, .inl t_draft_breaks_from)), (a_t_draft_breaks_until, .inl (cT 0, 12, .inl t_draft_breaks_until)), (a_t_draft_absences, .inr (8, [.ref a_t_draft_absences_whose, .ref a_t_draft_absences_from, .ref a_t_draft_absences_until, .int t_draft_absences_count])), (a_t_draft_absences_whose, .inl (cT 0, 12, .inl t_draft_absences_whose)), (a_t_draft_absences_from, .inl (cT 0, 12, .inl t_draft_absences_from)), (a_t_draft_absences_until, .inl (cT 0, 12, .inl t_draft_absences_until))]) rfl zkX9.1 (qr := 0) rfl rfl (Nat.le_of_ble_eq_true rfl) dX9_readExchange_49 (fun z8 => ?_)
        refine xi_aload_n C 0 dX9_readExchange_52 rfl ?_
        refine xi_get C zkX9 6 0 zlX9_35 (by decide) rfl rfl dX9_readExchange_53 ?_
        refine xi_if_eq C (tgt := 75) dX9_readExchange_56 rfl (fun c9 => ?_) (fun c9 => ?_)
        · replace h := (if_pos c9).symm.trans h
          refine xi_drop (L2 := [(0, .ref a_t)]) [0] rfl ?_
          exact B75 t_bytesHeld t_code t_wrongAt t_length u6.1 u6.2.1 u6.2.2 t_number t_draft_people t_draft_lineCount t_draft_first t_draft_second t_draft_cost t_draft_oneWay t_draft_breaks_count t_draft_breaks_whose t_draft_breaks_from t_draft_breaks_until t_draft_absences_count t_draft_absences_whose t_draft_absences_from t_draft_absences_until h
        · replace h := (if_neg c9).symm.trans h
          refine xi_aload_n C 0 dX9_readExchange_59 rfl ?_
          refine xi_iload_n C 1 dX9_readExchange_60 rfl ?_
          refine xi_if_ne C (tgt := 68) dX9_readExchange_61 rfl (fun c10 => ?_) (fun c10 => ?_)
          · replace h := (if_neg c10).symm.trans h
            refine xi_iconst C (v := 0) dX9_readExchange_68 rfl ?_
            exact B69 (fX9_readExchange_b41 t_text n) ih y2 0 t_bytesHeld t_code t_wrongAt t_length u6.1 u6.2.1 u6.2.2 t_number t_draft_people t_draft_lineCount t_draft_first t_draft_second t_draft_cost t_draft_oneWay t_draft_breaks_count t_draft_breaks_whose t_draft_breaks_from t_draft_breaks_until t_draft_absences_count t_draft_absences_whose t_draft_absences_from t_draft_absences_until h
          · replace h := (if_pos c10).symm.trans h
            refine xi_iconst C (v := 1) dX9_readExchange_64 rfl ?_
            refine xi_goto C (tgt := 69) dX9_readExchange_65 rfl ?_
            exact B69 (fX9_readExchange_b41 t_text n) ih y2 1 t_bytesHeld t_code t_wrongAt t_length u6.1 u6.2.1 u6.2.2 t_number t_draft_people t_draft_lineCount t_draft_first t_draft_second t_draft_cost t_draft_oneWay t_draft_breaks_count t_draft_breaks_whose t_draft_breaks_from t_draft_breaks_until t_draft_absences_count t_draft_absences_whose t_draft_absences_from t_draft_absences_until h
  refine xi_drop (L2 := [(0, .ref a_t), (1, .int x1)]) [0, 1] rfl ?_
  refine xi_aload_n C 0 dX9_readExchange_0 rfl ?_
  refine xi_iload_n C 1 dX9_readExchange_1 rfl ?_
  refine xi_aload_n C 0 dX9_readExchange_2 rfl ?_
  refine xi_get C zkX9 1 0 zlX9_15 (by decide) rfl rfl dX9_readExchange_3 ?_
  refine xi_mmin C zmjX9_47 zrj z00 (Nat.le_of_ble_eq_true rfl) dX9_readExchange_6 ?_
  refine xi_topi (fun w1 ew1 => ?_)
  replace h := nmE ew1 h
  refine xi_put C zkX9 5 0 zlX9_32 (by decide) rfl rfl rfl rfl (Nat.le_of_ble_eq_true rfl) dX9_readExchange_9 (ws2 := [(a_t, .inr (9, [.ref a_t_text, .int t_bytesHeld, .ref a_t_draft, .int t_code, .int t_wrongAt, .int w1, .int t_kind, .int t_start, .int t_end, .int t_number])), (a_t_text, .inl (cT 2, 500, .inl t_text)), (a_t_draft, .inr (1, [.int t_draft_people, .int t_draft_lineCount, .ref a_t_draft_first, .ref a_t_draft_second, .ref a_t_draft_cost, .ref a_t_draft_oneWay, .ref a_t_draft_breaks, .ref a_t_draft_absences])), (a_t_draft_first, .inl (cT 0, 24, .inl t_draft_first)), (a_t_draft_second, .inl (cT 0, 24, .inl t_draft_second)), (a_t_draft_cost, .inl (cT 0, 24, .inl t_draft_cost)), (a_t_draft_oneWay, .inl (cT 3, 24, .inl t_draft_oneWay)), (a_t_draft_breaks, .inr (8, [.ref a_t_draft_breaks_whose, .ref a_t_draft_breaks_from, .ref a_t_draft_breaks_until, .int t_draft_breaks_count])), (a_t_draft_breaks_whose, .inl (cT 0, 12, .inl t_draft_breaks_whose)), (a_t_draft_breaks_from, .inl (cT 0, 12, .inl t_draft_breaks_from)), (a_t_draft_breaks_until, .inl (cT 0, 12, .inl t_draft_breaks_until)), (a_t_draft_absences, .inr (8, [.ref a_t_draft_absences_whose, .ref a_t_draft_absences_from, .ref a_t_draft_absences_until, .int t_draft_absences_count])), (a_t_draft_absences_whose, .inl (cT 0, 12, .inl t_draft_absences_whose)), (a_t_draft_absences_from, .inl (cT 0, 12, .inl t_draft_absences_from)), (a_t_draft_absences_until, .inl (cT 0, 12, .inl t_draft_absences_until))]) rfl ?_
  refine xi_aload_n C 0 dX9_readExchange_12 rfl ?_
  refine xi_iconst C (v := 0) dX9_readExchange_13 rfl ?_
  refine xi_put C zkX9 1 0 zlX9_15 (by decide) rfl rfl rfl rfl (Nat.le_of_ble_eq_true rfl) dX9_readExchange_14 (ws2 := [(a_t, .inr (9, [.ref a_t_text, .int 0, .ref a_t_draft, .int t_code, .int t_wrongAt, .int w1, .int t_kind, .int t_start, .int t_end, .int t_number])), (a_t_text, .inl (cT 2, 500, .inl t_text)), (a_t_draft, .inr (1, [.int t_draft_people, .int t_draft_lineCount, .ref a_t_draft_first, .ref a_t_draft_second, .ref a_t_draft_cost, .ref a_t_draft_oneWay, .ref a_t_draft_breaks, .ref a_t_draft_absences])), (a_t_draft_first, .inl (cT 0, 24, .inl t_draft_first)), (a_t_draft_second, .inl (cT 0, 24, .inl t_draft_second)), (a_t_draft_cost, .inl (cT 0, 24, .inl t_draft_cost)), (a_t_draft_oneWay, .inl (cT 3, 24, .inl t_draft_oneWay)), (a_t_draft_breaks, .inr (8, [.ref a_t_draft_breaks_whose, .ref a_t_draft_breaks_from, .ref a_t_draft_breaks_until, .int t_draft_breaks_count])), (a_t_draft_breaks_whose, .inl (cT 0, 12, .inl t_draft_breaks_whose)), (a_t_draft_breaks_from, .inl (cT 0, 12, .inl t_draft_breaks_from)), (a_t_draft_breaks_until, .inl (cT 0, 12, .inl t_draft_breaks_until)), (a_t_draft_absences, .inr (8, [.ref a_t_draft_absences_whose, .ref a_t_draft_absences_from, .ref a_t_draft_absences_until, .int t_draft_absences_count])), (a_t_draft_absences_whose, .inl (cT 0, 12, .inl t_draft_absences_whose)), (a_t_draft_absences_from, .inl (cT 0, 12, .inl t_draft_absences_from)), (a_t_draft_absences_until, .inl (cT 0, 12, .inl t_draft_absences_until))]) rfl ?_
  refine xi_aload_n C 0 dX9_readExchange_17 rfl ?_
  refine xi_iconst C (v := 0) dX9_readExchange_18 rfl ?_
  refine xi_put C zkX9 3 0 zlX9_26 (by decide) rfl rfl rfl rfl (Nat.le_of_ble_eq_true rfl) dX9_readExchange_19 (ws2 := [(a_t, .inr (9, [.ref a_t_text, .int 0, .ref a_t_draft, .int 0, .int t_wrongAt, .int w1, .int t_kind, .int t_start, .int t_end, .int t_number])), (a_t_text, .inl (cT 2, 500, .inl t_text)), (a_t_draft, .inr (1, [.int t_draft_people, .int t_draft_lineCount, .ref a_t_draft_first, .ref a_t_draft_second, .ref a_t_draft_cost, .ref a_t_draft_oneWay, .ref a_t_draft_breaks, .ref a_t_draft_absences])), (a_t_draft_first, .inl (cT 0, 24, .inl t_draft_first)), (a_t_draft_second, .inl (cT 0, 24, .inl t_draft_second)), (a_t_draft_cost, .inl (cT 0, 24, .inl t_draft_cost)), (a_t_draft_oneWay, .inl (cT 3, 24, .inl t_draft_oneWay)), (a_t_draft_breaks, .inr (8, [.ref a_t_draft_breaks_whose, .ref a_t_draft_breaks_from, .ref a_t_draft_breaks_until, .int t_draft_breaks_count])), (a_t_draft_breaks_whose, .inl (cT 0, 12, .inl t_draft_breaks_whose)), (a_t_draft_breaks_from, .inl (cT 0, 12, .inl t_draft_breaks_from)), (a_t_draft_breaks_until, .inl (cT 0, 12, .inl t_draft_breaks_until)), (a_t_draft_absences, .inr (8, [.ref a_t_draft_absences_whose, .ref a_t_draft_absences_from, .ref a_t_draft_absences_until, .int t_draft_absences_count])), (a_t_draft_absences_whose, .inl (cT 0, 12, .inl t_draft_absences_whose)), (a_t_draft_absences_from, .inl (cT 0, 12, .inl t_draft_absences_from)), (a_t_draft_absences_until, .inl (cT 0, 12, .inl t_draft_absences_until))]) rfl ?_
  refine xi_aload_n C 0 dX9_readExchange_22 rfl ?_
  refine xi_iconst C (v := (-1)) dX9_readExchange_23 rfl ?_
  refine xi_put C zkX9 4 0 zlX9_29 (by decide) rfl rfl rfl rfl (Nat.le_of_ble_eq_true rfl) dX9_readExchange_24 (ws2 := [(a_t, .inr (9, [.ref a_t_text, .int 0, .ref a_t_draft, .int 0, .int (-1), .int w1, .int t_kind, .int t_start, .int t_end, .int t_number])), (a_t_text, .inl (cT 2, 500, .inl t_text)), (a_t_draft, .inr (1, [.int t_draft_people, .int t_draft_lineCount, .ref a_t_draft_first, .ref a_t_draft_second, .ref a_t_draft_cost, .ref a_t_draft_oneWay, .ref a_t_draft_breaks, .ref a_t_draft_absences])), (a_t_draft_first, .inl (cT 0, 24, .inl t_draft_first)), (a_t_draft_second, .inl (cT 0, 24, .inl t_draft_second)), (a_t_draft_cost, .inl (cT 0, 24, .inl t_draft_cost)), (a_t_draft_oneWay, .inl (cT 3, 24, .inl t_draft_oneWay)), (a_t_draft_breaks, .inr (8, [.ref a_t_draft_breaks_whose, .ref a_t_draft_breaks_from, .ref a_t_draft_breaks_until, .int t_draft_breaks_count])), (a_t_draft_breaks_whose, .inl (cT 0, 12, .inl t_draft_breaks_whose)), (a_t_draft_breaks_from, .inl (cT 0, 12, .inl t_draft_breaks_from)), (a_t_draft_breaks_until, .inl (cT 0, 12, .inl t_draft_breaks_until)), (a_t_draft_absences, .inr (8, [.ref a_t_draft_absences_whose, .ref a_t_draft_absences_from, .ref a_t_draft_absences_until, .int t_draft_absences_count])), (a_t_draft_absences_whose, .inl (cT 0, 12, .inl t_draft_absences_whose)), (a_t_draft_absences_from, .inl (cT 0, 12, .inl t_draft_absences_from)), (a_t_draft_absences_until, .inl (cT 0, 12, .inl t_draft_absences_until))]) rfl ?_
  refine xi_aload_n C 0 dX9_readExchange_27 rfl ?_
  refine xi_iconst C (v := 0) dX9_readExchange_28 rfl ?_
  refine xi_put C zkX9 8 0 zlX9_41 (by decide) rfl rfl rfl rfl (Nat.le_of_ble_eq_true rfl) dX9_readExchange_29 (ws2 := [(a_t, .inr (9, [.ref a_t_text, .int 0, .ref a_t_draft, .int 0, .int (-1), .int w1, .int t_kind, .int t_start, .int 0, .int t_number])), (a_t_text, .inl (cT 2, 500, .inl t_text)), (a_t_draft, .inr (1, [.int t_draft_people, .int t_draft_lineCount, .ref a_t_draft_first, .ref a_t_draft_second, .ref a_t_draft_cost, .ref a_t_draft_oneWay, .ref a_t_draft_breaks, .ref a_t_draft_absences])), (a_t_draft_first, .inl (cT 0, 24, .inl t_draft_first)), (a_t_draft_second, .inl (cT 0, 24, .inl t_draft_second)), (a_t_draft_cost, .inl (cT 0, 24, .inl t_draft_cost)), (a_t_draft_oneWay, .inl (cT 3, 24, .inl t_draft_oneWay)), (a_t_draft_breaks, .inr (8, [.ref a_t_draft_breaks_whose, .ref a_t_draft_breaks_from, .ref a_t_draft_breaks_until, .int t_draft_breaks_count])), (a_t_draft_breaks_whose, .inl (cT 0, 12, .inl t_draft_breaks_whose)), (a_t_draft_breaks_from, .inl (cT 0, 12, .inl t_draft_breaks_from)), (a_t_draft_breaks_until, .inl (cT 0, 12, .inl t_draft_breaks_until)), (a_t_draft_absences, .inr (8, [.ref a_t_draft_absences_whose, .ref a_t_draft_absences_from, .ref a_t_draft_absences_until, .int t_draft_absences_count])), (a_t_draft_absences_whose, .inl (cT 0, 12, .inl t_draft_absences_whose)), (a_t_draft_absences_from, .inl (cT 0, 12, .inl t_draft_absences_from)), (a_t_draft_absences_until, .inl (cT 0, 12, .inl t_draft_absences_until))]) rfl ?_
  refine xi_aload_n C 0 dX9_readExchange_32 rfl ?_
  refine xi_get C zkX9 2 0 zlX9_22 (by decide) rfl rfl dX9_readExchange_33 ?_
  obtain ⟨u2, hu3⟩ : ∃ z, z = fX1_clear := ⟨_, rfl⟩
  replace h := nmE hu3 h
  refine xi_callV C (kX1_clear l D cT a_t_draft a_t_draft_first a_t_draft_second a_t_draft_cost a_t_draft_oneWay a_t_draft_breaks a_t_draft_absences a_t_draft_breaks_whose a_t_draft_breaks_from a_t_draft_breaks_until a_t_draft_absences_whose a_t_draft_absences_from a_t_draft_absences_until t_draft_people t_draft_lineCount t_draft_breaks_count t_draft_absences_count u2 hu3.symm) zcX1_clear zmX9_53 ziX1_clear (zr rfl rfl) z00 rfl [2, 7, 11] rfl rfl rfl [none, none, some 0, none, none, none, none, some 1, none, none, none, some 2, none, none, none] (by decide +kernel) (ws2 := [(a_t, .inr (9, [.ref a_t_text, .int 0, .ref a_t_draft, .int 0, .int (-1), .int w1, .int t_kind, .int t_start, .int 0, .int t_number])), (a_t_text, .inl (cT 2, 500, .inl t_text)), (a_t_draft, .inr (1, [.int u2.1, .int u2.2.1, .ref a_t_draft_first, .ref a_t_draft_second, .ref a_t_draft_cost, .ref a_t_draft_oneWay, .ref a_t_draft_breaks, .ref a_t_draft_absences])), (a_t_draft_first, .inl (cT 0, 24, .inl t_draft_first)), (a_t_draft_second, .inl (cT 0, 24, .inl t_draft_second)), (a_t_draft_cost, .inl (cT 0, 24, .inl t_draft_cost)), (a_t_draft_oneWay, .inl (cT 3, 24, .inl t_draft_oneWay)), (a_t_draft_breaks, .inr (8, [.ref a_t_draft_breaks_whose, .ref a_t_draft_breaks_from, .ref a_t_draft_breaks_until, .int u2.2.2.1])), (a_t_draft_breaks_whose, .inl (cT 0, 12, .inl t_draft_breaks_whose)), (a_t_draft_breaks_from, .inl (cT 0, 12, .inl t_draft_breaks_from)), (a_t_draft_breaks_until, .inl (cT 0, 12, .inl t_draft_breaks_until)), (a_t_draft_absences, .inr (8, [.ref a_t_draft_absences_whose, .ref a_t_draft_absences_from, .ref a_t_draft_absences_until, .int u2.2.2.2])), (a_t_draft_absences_whose, .inl (cT 0, 12, .inl t_draft_absences_whose)), (a_t_draft_absences_from, .inl (cT 0, 12, .inl t_draft_absences_from)), (a_t_draft_absences_until, .inl (cT 0, 12, .inl t_draft_absences_until))]) rfl zkX1.1 (qr := 2) rfl rfl (Nat.le_of_ble_eq_true rfl) dX9_readExchange_36 (fun z4 => ?_)
  refine xi_iconst C (v := 0) dX9_readExchange_39 rfl ?_
  refine xi_istore_n C [1, 2, 0] (L2 := [(0, .ref a_t), (1, .int x1), (2, .int 0)]) dX9_readExchange_40 (Nat.le_of_ble_eq_true rfl) rfl ?_
  refine xi_drop (L2 := [(0, .ref a_t), (2, .int 0)]) [0, 2] rfl ?_
  exact B41 FU 0 0 0 (-1) w1 t_kind t_start 0 t_number u2.1 u2.2.1 t_draft_first t_draft_second t_draft_cost t_draft_oneWay u2.2.2.1 t_draft_breaks_whose t_draft_breaks_from t_draft_breaks_until u2.2.2.2 t_draft_absences_whose t_draft_absences_from t_draft_absences_until h
def fX9_handOver : Unit := ()
set_option maxRecDepth 100000 in
set_option maxHeartbeats 4000000 in
theorem kX9_handOver (l : Launch) (D : va_G) (cT : Nat → ClassId) (a_t : Nat) (a_t_text : Nat) (a_t_draft : Nat) (a_p1 : Nat) (t_bytesHeld : Int32) (t_code : Int32) (t_wrongAt : Int32) (t_length : Int32) (t_kind : Int32) (t_start : Int32) (t_end : Int32) (t_number : Int32) (r : Unit) (h : fX9_handOver = r) : sM l yX9_handOver cX9_handOver 3 (some (.object "NewsExchange$Exchange")) (zR 1) D cT [.ref a_t, .ref a_p1] [(a_t, .inr (9, [.ref a_t_text, .int t_bytesHeld, .ref a_t_draft, .int t_code, .int t_wrongAt, .int t_length, .int t_kind, .int t_start, .int t_end, .int t_number]))] (some (.ref a_t_draft)) [(a_t, .inr (9, [.ref a_t_text, .int t_bytesHeld, .ref a_p1, .int t_code, .int t_wrongAt, .int t_length, .int t_kind, .int t_start, .int t_end, .int t_number]))] := by
  refine sM_ref rfl (Nat.le_of_ble_eq_true rfl) ?_
  intro X C hE
  refine xi_drop (L2 := [(0, .ref a_t), (1, .ref a_p1)]) [0, 1] rfl ?_
  refine xi_aload_n C 0 dX9_handOver_0 rfl ?_
  refine xi_get C zkX9 2 0 zlX9_22 (by decide) rfl rfl dX9_handOver_1 ?_
  refine xi_astore_n C [1, 2, 0] (L2 := [(0, .ref a_t), (1, .ref a_p1), (2, .ref a_t_draft)]) dX9_handOver_4 (Nat.le_of_ble_eq_true rfl) rfl ?_
  refine xi_aload_n C 0 dX9_handOver_5 rfl ?_
  refine xi_aload_n C 1 dX9_handOver_6 rfl ?_
  refine xi_put C zkX9 2 0 zlX9_22 (by decide) rfl rfl rfl rfl (Nat.le_of_ble_eq_true rfl) dX9_handOver_7 (ws2 := [(a_t, .inr (9, [.ref a_t_text, .int t_bytesHeld, .ref a_p1, .int t_code, .int t_wrongAt, .int t_length, .int t_kind, .int t_start, .int t_end, .int t_number]))]) rfl ?_
  refine xi_aload_n C 2 dX9_handOver_10 rfl ?_
  subst h
  exact hE _ _ _ dX9_handOver_11 rfl
