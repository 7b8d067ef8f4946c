/-! the chain of the rounds: cells in any number, that no one writes to -/
abbrev zRL : Type := List (Nat × Int32 × Int32 × Option Nat)
def zRd (q : Nat × Int32 × Int32 × Option Nat) : Nat × va_E := (q.1, .inr (5, [.int q.2.1, .int q.2.2.1, va_rf q.2.2.2]))
def zPl (rl : zRL) : va_W := rl.map zRd
theorem zPl_add (rl : zRL) (q : Nat × Int32 × Int32 × Option Nat) : zPl (rl ++ [q]) = zPl rl ++ [zRd q] := by
  unfold zPl
  rw [List.map_append]
  rfl
def zLk (rl : zRL) (a : Nat) : Option (Nat × Int32 × Int32 × Option Nat) := rl.find? (fun q => q.1 == a)
theorem zLk_at {rl : zRL} {a : Nat} {q : Nat × Int32 × Int32 × Option Nat} (h : zLk rl a = some q) : ∃ k : Nat, (zPl rl)[k]? = some (a, .inr (5, [.int q.2.1, .int q.2.2.1, va_rf q.2.2.2])) := by
  have h1 := List.find?_some h
  have h2 := List.mem_of_find?_eq_some h
  have h3 : q.1 = a := by simpa using h1
  obtain ⟨k, hk⟩ := List.getElem?_of_mem h2
  refine ⟨k, ?_⟩
  unfold zPl
  rw [List.getElem?_map, hk]
  show some (zRd q) = _
  unfold zRd
  rw [h3]
def fX7_spentUpTo_b5 (rl : zRL) (x1 : Int32) : Nat → Option Nat → Option Int32
  | 0, _ => none
  | _ + 1, none => some 0
  | n + 1, some a => (zLk rl a).bind (fun q => if x1 < q.2.1 then fX7_spentUpTo_b5 rl x1 n q.2.2.2 else some q.2.2.1)
def fX7_spentUpTo (rl : zRL) (t_latest : Option Nat) (x1 : Int32) : Option Int32 := fX7_spentUpTo_b5 rl x1 FU t_latest
theorem va_nd_app : ∀ (a b : List Nat), va_nd a = true → va_nd b = true → (∀ x ∈ a, x ∉ b) → va_nd (a ++ b) = true
  | [], b, _, hb, _ => hb
  | x :: a, b, ha, hb, hd => by
    simp only [va_nd, Bool.and_eq_true, decide_eq_true_eq] at ha
    show va_nd (x :: (a ++ b)) = true
    simp only [va_nd, Bool.and_eq_true, decide_eq_true_eq]
    refine ⟨fun hm => ?_, va_nd_app a b ha.2 hb (fun y hy => hd y (List.mem_cons_of_mem _ hy))⟩
    rcases List.mem_append.mp hm with h | h
    · exact ha.1 h
    · exact hd x List.mem_cons_self h
theorem va_nd_range : ∀ (n s : Nat), va_nd (List.range' s n) = true
  | 0, _ => rfl
  | n + 1, s => by
    show va_nd (s :: List.range' (s + 1) n) = true
    simp only [va_nd, Bool.and_eq_true, decide_eq_true_eq]
    refine ⟨fun hm => ?_, va_nd_range n (s + 1)⟩
    have := List.mem_range'.mp hm
    omega
theorem zpoolC {ws pl W0 : va_W} {isC : List Nat} (hC : isC.map (fun i => ws[i]?) = W0.map some) : (isC ++ List.range' ws.length pl.length).map (fun i => (ws ++ pl)[i]?) = (W0 ++ pl).map some := by
  rw [List.map_append, List.map_append]
  congr 1
  · rw [← hC]
    apply List.map_congr_left
    intro i hi
    obtain ⟨j, hj⟩ := List.getElem?_of_mem hi
    have h1 : (isC.map (fun i => ws[i]?))[j]? = some ws[i]? := by rw [List.getElem?_map, hj]; rfl
    rw [hC, List.getElem?_map] at h1
    cases hw : W0[j]? with
    | none => rw [hw] at h1; cases h1
    | some w =>
      rw [hw] at h1
      have h2 : ws[i]? = some w := (Option.some.inj h1).symm
      exact List.getElem?_append_left (List.getElem?_eq_some_iff.mp h2).1
  · apply List.ext_getElem?
    intro k
    rw [List.getElem?_map, List.getElem?_map]
    by_cases hk : k < pl.length
    · rw [List.getElem?_range' hk, List.getElem?_eq_getElem hk]
      show some ((ws ++ pl)[ws.length + 1 * k]?) = some (some pl[k])
      rw [List.getElem?_append_right (by omega), show ws.length + 1 * k - ws.length = k by omega, List.getElem?_eq_getElem hk]
    · rw [List.getElem?_eq_none_iff.mpr (by rw [List.length_range']; omega), List.getElem?_eq_none_iff.mpr (by omega)]
      rfl
theorem zpoolN {ws pl W0 : va_W} {isC : List Nat} (hC : isC.map (fun i => ws[i]?) = W0.map some) (hn : va_nd isC = true) : va_nd (isC ++ List.range' ws.length pl.length) = true := by
  refine va_nd_app _ _ hn (va_nd_range _ _) (fun i hi hm => ?_)
  have h0 := List.mem_range'.mp hm
  obtain ⟨j, hj⟩ := List.getElem?_of_mem hi
  have h1 : (isC.map (fun i => ws[i]?))[j]? = some ws[i]? := by rw [List.getElem?_map, hj]; rfl
  rw [hC, List.getElem?_map] at h1
  cases hw : W0[j]? with
  | none => rw [hw] at h1; cases h1
  | some w =>
    rw [hw] at h1
    have h2 : ws[i]? = some w := (Option.some.inj h1).symm
    have h3 := (List.getElem?_eq_some_iff.mp h2).1
    omega
section RowsP
variable {X : sX} {l : Launch} {R : Room} {D : va_G} {cT : Nat → ClassId} {nL k n pc : Nat} {cc : ByteArray} {own : String} {L : List (Nat × Value)} {st : List Value} {ws : va_W}
theorem xi_aload_nN (C : sC X R D cT nL cc own) {j : Fin 4} (q : Nat) (hdg : decode cc pc = .ok (.aload_n j, 1)) (hq : L[q]? = some ((j : Nat), .null)) (kk : sW X l R D nL k n (pc + 1) L (.null :: st) ws) : sW X l R D nL k n pc L st ws := by
  obtain ⟨p, e, s, m, args, below, meth, c, Q, A⟩ := X
  intro H locs ls hP hD hS hl
  exact lv_aload_nN C.1.1 C.1.2.1 hdg rfl (lv_at hl q hq) (kk H locs ls hP hD hS hl)
theorem xi_qstore_n (C : sC X R D cT nL cc own) {j : Fin 4} {x : Option Nat} (ks : List Nat) {L2 : List (Nat × Value)} (hdg : decode cc pc = .ok (.astore_n j, 1)) (hn : (j : Nat) < nL) (hl3 : lv_pick (((j : Nat), va_rf x) :: L.filter (fun q => !(q.1 == (j : Nat)) && !(q.1 + 1 == (j : Nat) && q.2.category == 2))) ks = L2) (kk : sW X l R D nL k n (pc + 1) L2 st ws) : sW X l R D nL k n pc L (va_rf x :: st) ws := by
  obtain ⟨p, e, s, m, args, below, meth, c, Q, A⟩ := X
  intro H locs ls hP hD hS hl
  cases x with
  | none => exact lv_astore_nN C.1.1 C.1.2.1 hdg rfl hl hn rfl (fun ls2 hl2 => kk H locs ls2 hP hD hS (lv_sub hl2 ks hl3))
  | some a => exact lv_astore_n C.1.1 C.1.2.1 hdg rfl hl hn rfl (fun ls2 hl2 => kk H locs ls2 hP hD hS (lv_sub hl2 ks hl3))
theorem xi_swap {a b c : va_W} (kk : sW X l R D nL k n pc L st ((a ++ c) ++ b)) : sW X l R D nL k n pc L st ((a ++ b) ++ c) := by
  obtain ⟨p, e, s, m, args, below, meth, c, Q, A⟩ := X
  intro H locs ls hP hD hS hl
  exact kk H locs ls hP.swap hD.swap hS hl
theorem xi_eqw {ws2 : va_W} (h : ws = ws2) (kk : sW X l R D nL k n pc L st ws2) : sW X l R D nL k n pc L st ws := by
  rw [h]
  exact kk
theorem xi_callVrp (C : sC X R D cT nL cc own) {index b maxL np : Nat} {y : MethodName} {bytes : ByteArray} {ret : Option FieldType} {rm : Room} {As : List Value} {pl W0 : va_W} {rv : Option Value} {ci qr : Nat} {T : u_T} {N : Nat} {fs st0 : List Value}
    (hM : sM l y bytes maxL ret rm D cT (.ref b :: As) (W0 ++ pl) rv (W0 ++ pl)) (hc : zC y bytes maxL ret np) (hml : zMl own index y) (hi : zI y) (hR : zRm rm R maxL) (hk : k ≤ R.cells ∧ n ≤ R.slots) (hnp : As.length = np)
    (isC : List Nat) (hC : isC.map (fun i => ws[i]?) = W0.map some) (hn : va_nd isC = true)
    (hcl : vwQ[ci]? = some (y.cls, T, N)) (hqr : (ws ++ pl)[qr]? = some (b, .inr (ci, fs))) (hst : st0 = As.reverse ++ .ref b :: st) (hroom : (st.map fun v => v.category).sum ≤ 8)
    (hdg : decode cc pc = .ok (.invokevirtual index, 3)) (kk : zN ret rv → sW X l R D nL k n (pc + 3) L (rv.toList ++ st) (ws ++ pl)) : sW X l R D nL k n pc L st0 (ws ++ pl) :=
  xi_callVr C hM hc hml hi hR hk hnp _ (zpoolC hC) (zpoolN hC hn) hcl hqr hst hroom hdg kk
theorem xi_permp {pl : va_W} (js : List Nat) {ws2 : va_W} (hn : va_nd js = true) (hj : js.map (fun i => ws[i]?) = ws2.map some) (kk : sW X l R D nL k n pc L st (ws2 ++ pl)) : sW X l R D nL k n pc L st (ws ++ pl) :=
  xi_perm _ (zpoolN hj hn) (zpoolC hj) kk
theorem xi_callNp (C : sC X R D cT nL cc own) {index b maxL np mc ms : Nat} {y : MethodName} {bytes : ByteArray} {ret : Option FieldType} {rm : Room} {As : List Value} {pl W0 Wr : va_W} {W1 pl1 : (Nat → Nat) → va_W} {rv : (Nat → Nat) → Option Value} {st0 : List Value} {ci qr : Nat} {T : u_T} {N : Nat} {fs : List Value}
    (hM : sN l y bytes maxL ret rm mc ms D cT (.ref b :: As) (W0 ++ pl) rv (fun u => W1 u ++ pl1 u)) (hc : zC y bytes maxL ret np) (hml : zMl own index y) (hi : zI y) (hR : zRmN rm R maxL mc ms) (hk : k + mc ≤ R.cells ∧ n + ms ≤ R.slots) (hnp : As.length = np)
    (isC isR : List Nat) (hC : isC.map (fun i => ws[i]?) = W0.map some) (hn : va_nd isC = true) (hRr : isR.map (fun i => ws[i]?) = Wr.map some) (hnR : va_nd isR = true) (hdis : isR.all (fun i => !isC.contains i && decide (i < ws.length)) = true)
    (hcl : vwQ[ci]? = some (y.cls, T, N)) (hqr : (ws ++ pl)[qr]? = some (b, .inr (ci, fs))) (hst : st0 = As.reverse ++ .ref b :: st) (hroom : (st.map fun v => v.category).sum ≤ 8)
    (hdg : decode cc pc = .ok (.invokevirtual index, 3)) (kk : ∀ u : Nat → Nat, zN ret (rv u) → sW X l R D nL (k + mc) (n + ms) (pc + 3) L ((rv u).toList ++ st) ((Wr ++ W1 u) ++ pl1 u)) : sW X l R D nL k n pc L st0 (ws ++ pl) := by
  refine xi_callN (Wr := Wr) C hM hc hml hi hR hk hnp (isC ++ List.range' ws.length pl.length) isR (zpoolC hC) (zpoolN hC hn) ?_ hnR ?_ hcl hqr hst hroom hdg (fun u hz => ?_)
  · rw [← hRr]
    apply List.map_congr_left
    intro i hi
    have h := List.all_eq_true.mp hdis i hi
    rw [Bool.and_eq_true] at h
    exact List.getElem?_append_left (of_decide_eq_true h.2)
  · apply List.all_eq_true.mpr
    intro i hi
    have h := List.all_eq_true.mp hdis i hi
    rw [Bool.and_eq_true] at h
    have h2 := of_decide_eq_true h.2
    have h1 := h.1
    simp only [Bool.not_eq_true'] at h1 ⊢
    rw [Bool.eq_false_iff] at h1 ⊢
    intro hc
    rcases List.mem_append.mp (List.contains_iff_mem.mp hc) with hc | hc
    · exact h1 (List.contains_iff_mem.mpr hc)
    · have := List.mem_range'.mp hc
      omega
  · rw [← List.append_assoc]
    exact kk u hz
/-- a constructor that makes nothing -/
theorem xi_callI0 (C : sC X R D cT nL cc own) {index b maxL np : Nat} {y : MethodName} {bytes : ByteArray} {rm : Room} {As : List Value} {W0 W1 ws2 : va_W} {st0 : List Value}
    (hM : sN l y bytes maxL none rm 0 0 D cT (.ref b :: As) W0 (fun _ => none) (fun _ => W1)) (hc : zC y bytes maxL none np) (hml : zMl own index y) (hi : Cond.instanceMethod y ∈ zG) (hy1 : y.name = "<init>") (hR : zRmN rm R maxL 0 0) (hk : k ≤ R.cells ∧ n ≤ R.slots) (hnp : As.length = np)
    (isC : List Nat) (hC : isC.map (fun i => ws[i]?) = W0.map some) (hn : va_nd isC = true) (hlen : isC.length = W1.length) (js : List (Option Nat)) (hck : zck isC js = true) (hj : zmix js ws W1 = ws2)
    (hst : st0 = As.reverse ++ .ref b :: st) (hroom : (st.map fun v => v.category).sum ≤ 8)
    (hdg : decode cc pc = .ok (.invokespecial index, 3)) (kk : sW X l R D nL k n (pc + 3) L st ws2) : sW X l R D nL k n pc L st0 ws := by
  obtain ⟨p, e, s, m, args, below, meth, c, Q, A⟩ := X
  intro H locs ls hP hD hS hl
  subst hst
  have hF := va_free (wc := W0) hD hS C.2.2.1 isC hC
  have hPc := zsubP hP isC hC
  have hDc := hD.sub isC hn hC
  have hpre : PreS s H (zP D cT (.ref b :: As) H.size W0) (.ref b :: As) := ⟨zP_blind, fun U hU hW => ⟨rfl, by rw [hU], by rw [hU]; exact hPc, va_K.moved hW.alike C.2.1, hDc.weaken (fun _ _ _ _ => trivial), by rw [hU]; exact zF_move C.2.2.2.2.1 hS hW hF, zH_move C.2.2.2.2.2 hW⟩⟩
  have hroom' : 2 * (F0 m pc ls (As.reverse ++ .ref b :: st)).monitorRoom + (st.map fun v => v.category).sum ≤ 8 := lv_room hroom
  refine z_afterN (mc := 0) (ms := 0) (W0 := W0) (W1 := fun _ => W1) (rv := fun _ => none) (ret := none) (D := D) (cT := cT) (a := (Value.ref b :: As).toArray) (rest := st) ?_ hS hF (fun u H1 locs1 hz hP1 hD1 hs1 hk1 hS1 => ?_)
  · rcases hml with hml | ⟨host, hml⟩
    · exact va_runI C.1 (hM H.size) ⟨callB_of np C.1.2.2.2.2 (zw_good hc.1) rfl hR.1 hR.2.1 (C.1.2.2.2.2 _ hc.2.1) (C.1.2.2.2.2 _ hml) hc.2.2 hR.2.2, hy1, C.1.2.2.2.2 _ hi⟩ hpre rfl hnp hl.1 rfl hroom' hdg hk
    · exact va_runIN C.1 (hM H.size) ⟨va_cnB np C.1.2.2.2.2 (zw_good hc.1) rfl hR.1 hR.2.1 (C.2.2.2.2.2 _ hml) (C.1.2.2.2.2 _ hc.2.1) hc.2.2 hR.2.2, hy1, C.1.2.2.2.2 _ hi⟩ hpre rfl hnp hl.1 rfl hroom' hdg hk
  · obtain ⟨h1, h2⟩ := z_world hP hD isC hC hlen js hck hj hk1 hF hP1 hD1
    exact kk H1 locs1 ls h1 h2 hS1 hl
end RowsP
set_option maxRecDepth 100000 in
set_option maxHeartbeats 4000000 in
theorem kX7_spentUpTo (l : Launch) (D : va_G) (cT : Nat → ClassId) (a_t a_t_news : Nat) (t_arrangedLines t_cutLines t_rounds t_calls : Int32) (t_latest : Option Nat) (rl : zRL) (x1 r : Int32) (h : fX7_spentUpTo rl t_latest x1 = some r) : sM l yX7_spentUpTo cX7_spentUpTo 3 (some .int) (zR 1) D cT [.ref a_t, .int x1] ([(a_t, .inr (7, [.ref a_t_news, .int t_arrangedLines, .int t_cutLines, .int t_rounds, .int t_calls, va_rf t_latest]))] ++ zPl rl) (some (.int r)) ([(a_t, .inr (7, [.ref a_t_news, .int t_arrangedLines, .int t_cutLines, .int t_rounds, .int t_calls, va_rf t_latest]))] ++ zPl rl) := by
  refine sM_int rfl (Nat.le_of_ble_eq_true rfl) ?_
  intro X C hE
  have B5 : ∀ (n : Nat) (q : Option Nat), fX7_spentUpTo_b5 rl x1 n q = some r → sW X l (zR 1) D 3 0 0 5 [(0, .ref a_t), (1, .int x1), (2, va_rf q)] [] ([(a_t, .inr (7, [.ref a_t_news, .int t_arrangedLines, .int t_cutLines, .int t_rounds, .int t_calls, va_rf t_latest]))] ++ zPl rl) := by
    intro n
    induction n with
    | zero => intro q h; cases q <;> exact zno h
    | succ n ih =>
      intro q h
      cases q with
      | none =>
        refine xi_aload_nN C 2 dX7_spentUpTo_5 rfl ?_
        refine xi_ifnullN C (tgt := 30) dX7_spentUpTo_6 rfl ?_
        refine xi_iconst C (v := 0) dX7_spentUpTo_30 rfl ?_
        obtain rfl := Option.some.inj h
        exact hE _ _ _ dX7_spentUpTo_31 rfl
      | some a =>
        replace h := ob h
        obtain ⟨q, hq, h⟩ := h
        obtain ⟨kq, hkq⟩ := zLk_at hq
        refine xi_aload_n (x := a) C 2 dX7_spentUpTo_5 rfl ?_
        refine xi_ifnull C dX7_spentUpTo_6 ?_
        refine xi_aload_n (x := a) C 2 dX7_spentUpTo_9 rfl ?_
        refine xi_get C zkX5 0 (kq + 1) zlX7_57 (by decide) hkq rfl dX7_spentUpTo_10 ?_
        refine xi_iload_n C 1 dX7_spentUpTo_13 rfl ?_
        refine xi_icmp_gt C (tgt := 22) dX7_spentUpTo_14 rfl (fun c1 => ?_) (fun c1 => ?_)
        · replace h := (if_pos c1).symm.trans h
          refine xi_aload_n (x := a) C 2 dX7_spentUpTo_22 rfl ?_
          refine xi_get C zkX5 2 (kq + 1) zlX7_63 (by decide) hkq rfl dX7_spentUpTo_23 ?_
          refine xi_qstore_n C [1, 2, 0] (L2 := [(0, .ref a_t), (1, .int x1), (2, va_rf q.2.2.2)]) dX7_spentUpTo_26 (Nat.le_of_ble_eq_true rfl) rfl ?_
          refine xi_goto C (tgt := 5) dX7_spentUpTo_27 rfl ?_
          exact ih _ h
        · replace h := (if_neg c1).symm.trans h
          refine xi_aload_n (x := a) C 2 dX7_spentUpTo_17 rfl ?_
          refine xi_get C zkX5 1 (kq + 1) zlX7_60 (by decide) hkq rfl dX7_spentUpTo_18 ?_
          obtain rfl := Option.some.inj h
          exact hE _ _ _ dX7_spentUpTo_21 rfl
  refine xi_drop (L2 := [(0, .ref a_t), (1, .int x1)]) [0, 1] rfl ?_
  refine xi_aload_n C 0 dX7_spentUpTo_0 rfl ?_
  refine xi_get C zkX7 5 0 zlX7_31 (by decide) rfl rfl dX7_spentUpTo_1 ?_
  refine xi_qstore_n C [1, 2, 0] (L2 := [(0, .ref a_t), (1, .int x1), (2, va_rf t_latest)]) dX7_spentUpTo_4 (Nat.le_of_ble_eq_true rfl) rfl ?_
  exact B5 FU _ h
set_option maxRecDepth 100000 in
set_option maxHeartbeats 4000000 in
theorem kX5_init (l : Launch) (D : va_G) (cT : Nat → ClassId) (a_t : Nat) (x1 x2 : Int32) (x3 : Option Nat) : sN l yX5_init cX5_init 4 none (zRA 2 0 0) 0 0 D cT [.ref a_t, .int x1, .int x2, va_rf x3] [(a_t, .inr (5, [.int 0, .int 0, .null]))] (fun _ => none) (fun _ => [(a_t, .inr (5, [.int x1, .int x2, va_rf x3]))]) := by
  refine sN_void rfl (by cases x3 <;> exact Nat.le_of_ble_eq_true rfl) ?_
  intro X C hI0 hE
  have hI := hI0 rfl
  refine xi_drop (L2 := [(0, .ref a_t), (1, .int x1), (2, .int x2), (3, va_rf x3)]) [0, 1, 2, 3] rfl ?_
  refine xi_aload_n C 0 dX5_init_0 rfl ?_
  refine xi_objinit C (zm5 (i := 173) rfl rfl) (zm1 (i := 37) rfl rfl) (zm1 (i := 38) rfl rfl) ⟨Nat.le_of_ble_eq_true rfl, Nat.le_of_ble_eq_true rfl⟩ (Nat.le_of_ble_eq_true rfl) dX5_init_1 ?_
  refine xi_aload_n C 0 dX5_init_4 rfl ?_
  refine xi_iload_n C 1 dX5_init_5 rfl ?_
  refine xi_putF C hI zkX5 0 0 (zm5 (i := 174) rfl rfl) (by decide) rfl rfl rfl rfl rfl (Nat.le_of_ble_eq_true rfl) dX5_init_6 (ws2 := [(a_t, .inr (5, [.int x1, .int 0, .null]))]) rfl ?_
  refine xi_aload_n C 0 dX5_init_9 rfl ?_
  refine xi_iload_n C 2 dX5_init_10 rfl ?_
  refine xi_putF C hI zkX5 1 0 (zm5 (i := 176) rfl rfl) (by decide) rfl rfl rfl rfl rfl (Nat.le_of_ble_eq_true rfl) dX5_init_11 (ws2 := [(a_t, .inr (5, [.int x1, .int x2, .null]))]) rfl ?_
  refine xi_aload_n C 0 dX5_init_14 rfl ?_
  cases x3 with
  | none =>
    refine xi_aload_nN C 3 dX5_init_15 rfl ?_
    refine xi_putF C hI zkX5 2 0 (zm5 (i := 178) rfl rfl) (by decide) rfl rfl rfl rfl rfl (Nat.le_of_ble_eq_true rfl) dX5_init_16 (ws2 := [(a_t, .inr (5, [.int x1, .int x2, .null]))]) rfl ?_
    exact hE _ _ (fun _ => 0) dX5_init_19 rfl
  | some b =>
    refine xi_aload_n (x := b) C 3 dX5_init_15 rfl ?_
    refine xi_putF C hI zkX5 2 0 (zm5 (i := 178) rfl rfl) (by decide) rfl rfl rfl rfl rfl (Nat.le_of_ble_eq_true rfl) dX5_init_16 (ws2 := [(a_t, .inr (5, [.int x1, .int x2, .ref b]))]) rfl ?_
    exact hE _ _ (fun _ => 0) dX5_init_19 rfl
set_option maxRecDepth 100000 in
set_option maxHeartbeats 4000000 in
theorem kX7_endRound (l : Launch) (D : va_G) (cT : Nat → ClassId) (a_t a_t_news : Nat) (t_arrangedLines t_cutLines t_rounds t_calls : Int32) (t_latest : Option Nat) (rl : zRL) (x1 s9 : Int32) (h : fX7_spentUpTo rl t_latest 9999 = some s9) : sN l yX7_endRound cX7_endRound 2 none (zRA 3 1 3) 1 3 D cT [.ref a_t, .int x1] ([(a_t, .inr (7, [.ref a_t_news, .int t_arrangedLines, .int t_cutLines, .int t_rounds, .int t_calls, va_rf t_latest]))] ++ zPl rl) (fun _ => none) (fun u => [(a_t, .inr (7, [.ref a_t_news, .int 0, .int t_cutLines, .int (t_rounds + 1), .int (t_calls + fJ6_bitCount_0f7a4 t_arrangedLines), va_rf (some (u 0))]))] ++ zPl (rl ++ [(u 0, t_rounds + 1, s9 + x1, t_latest)])) := by
  refine sN_void rfl (Nat.le_of_ble_eq_true rfl) ?_
  intro X C _ hE
  refine xi_drop (L2 := [(0, .ref a_t), (1, .int x1)]) [0, 1] rfl ?_
  refine xi_aload_n C 0 dX7_endRound_0 rfl ?_
  refine xi_dup C dX7_endRound_1 rfl ?_
  refine xi_get C zkX7 3 0 zlX7_25 (by decide) rfl rfl dX7_endRound_2 ?_
  refine xi_iconst C (v := 1) dX7_endRound_5 rfl ?_
  refine xi_iadd C dX7_endRound_6 ?_
  refine xi_put C zkX7 3 0 zlX7_25 (by decide) rfl rfl rfl rfl (Nat.le_of_ble_eq_true rfl) dX7_endRound_7 (ws2 := [(a_t, .inr (7, [.ref a_t_news, .int t_arrangedLines, .int t_cutLines, .int (t_rounds + 1), .int t_calls, va_rf t_latest]))] ++ zPl rl) rfl ?_
  refine xi_aload_n C 0 dX7_endRound_10 rfl ?_
  refine xi_dup C dX7_endRound_11 rfl ?_
  refine xi_get C zkX7 4 0 zlX7_28 (by decide) rfl rfl dX7_endRound_12 ?_
  refine xi_aload_n C 0 dX7_endRound_15 rfl ?_
  refine xi_get C zkX7 1 0 zlX7_18 (by decide) rfl rfl dX7_endRound_16 ?_
  refine xi_callSr C (kJ6_bitCount_0f7a4 l D cT t_arrangedLines (fJ6_bitCount_0f7a4 t_arrangedLines) rfl) zcJ6_bitCount_0f7a4 zmX7_43 zsJ6_bitCount_0f7a4 (zrM rfl rfl) ⟨Nat.zero_le _, Nat.zero_le _⟩ rfl [] rfl rfl rfl (Nat.le_of_ble_eq_true rfl) dX7_endRound_19 (fun _ => ?_)
  refine xi_iadd C dX7_endRound_22 ?_
  refine xi_put C zkX7 4 0 zlX7_28 (by decide) rfl rfl rfl rfl (Nat.le_of_ble_eq_true rfl) dX7_endRound_23 (ws2 := [(a_t, .inr (7, [.ref a_t_news, .int t_arrangedLines, .int t_cutLines, .int (t_rounds + 1), .int (t_calls + fJ6_bitCount_0f7a4 t_arrangedLines), va_rf t_latest]))] ++ zPl rl) rfl ?_
  refine xi_aload_n C 0 dX7_endRound_26 rfl ?_
  refine xi_new C [.int 0, .int 0, .null] zkX5 zclX7_49 zibX5 zitX5 (fun j hj => by rcases (show j = 0 ∨ j = 1 ∨ j = 2 by omega) with rfl | rfl | rfl <;> rfl) (Nat.le_of_ble_eq_true rfl) (Nat.le_of_ble_eq_true rfl) dX7_endRound_27 (fun q => ?_)
  refine xi_swap ?_
  refine xi_eqw (ws2 := [(a_t, .inr (7, [.ref a_t_news, .int t_arrangedLines, .int t_cutLines, .int (t_rounds + 1), .int (t_calls + fJ6_bitCount_0f7a4 t_arrangedLines), va_rf t_latest])), (q, .inr (5, [.int 0, .int 0, .null]))] ++ zPl rl) rfl ?_
  refine xi_dup C dX7_endRound_30 rfl ?_
  refine xi_aload_n C 0 dX7_endRound_31 rfl ?_
  refine xi_get C zkX7 3 0 zlX7_25 (by decide) rfl rfl dX7_endRound_32 ?_
  refine xi_aload_n C 0 dX7_endRound_35 rfl ?_
  refine xi_sipush C (v := 9999) dX7_endRound_36 rfl ?_
  refine xi_callVrp C (kX7_spentUpTo l D cT a_t a_t_news t_arrangedLines t_cutLines (t_rounds + 1) (t_calls + fJ6_bitCount_0f7a4 t_arrangedLines) t_latest rl 9999 s9 h) zcX7_spentUpTo zmX7_51 ziX7_spentUpTo (zrM rfl rfl) ⟨Nat.le_of_ble_eq_true rfl, Nat.le_of_ble_eq_true rfl⟩ rfl [0] rfl rfl zkX7.1 (qr := 0) rfl rfl (Nat.le_of_ble_eq_true rfl) dX7_endRound_39 (fun _ => ?_)
  refine xi_iload_n C 1 dX7_endRound_42 rfl ?_
  refine xi_iadd C dX7_endRound_43 ?_
  refine xi_aload_n C 0 dX7_endRound_44 rfl ?_
  refine xi_get C zkX7 5 0 zlX7_31 (by decide) rfl rfl dX7_endRound_45 ?_
  refine xi_callI0 C (kX5_init l D cT q (t_rounds + 1) (s9 + x1) t_latest) zcX5_init zmX7_54 ziiX5_init rfl (zrA rfl rfl) ⟨Nat.le_of_ble_eq_true rfl, Nat.le_of_ble_eq_true rfl⟩ rfl [1] rfl rfl rfl [none, some 0] (by decide +kernel) (ws2 := [(a_t, .inr (7, [.ref a_t_news, .int t_arrangedLines, .int t_cutLines, .int (t_rounds + 1), .int (t_calls + fJ6_bitCount_0f7a4 t_arrangedLines), va_rf t_latest])), (q, .inr (5, [.int (t_rounds + 1), .int (s9 + x1), va_rf t_latest]))] ++ zPl rl) rfl rfl (Nat.le_of_ble_eq_true rfl) dX7_endRound_48 ?_
  refine xi_put C zkX7 5 0 zlX7_31 (by decide) rfl rfl rfl rfl (Nat.le_of_ble_eq_true rfl) dX7_endRound_51 (ws2 := [(a_t, .inr (7, [.ref a_t_news, .int t_arrangedLines, .int t_cutLines, .int (t_rounds + 1), .int (t_calls + fJ6_bitCount_0f7a4 t_arrangedLines), .ref q])), (q, .inr (5, [.int (t_rounds + 1), .int (s9 + x1), va_rf t_latest]))] ++ zPl rl) rfl ?_
  refine xi_aload_n C 0 dX7_endRound_54 rfl ?_
  refine xi_iconst C (v := 0) dX7_endRound_55 rfl ?_
  refine xi_put C zkX7 1 0 zlX7_18 (by decide) rfl rfl rfl rfl (Nat.le_of_ble_eq_true rfl) dX7_endRound_56 (ws2 := [(a_t, .inr (7, [.ref a_t_news, .int 0, .int t_cutLines, .int (t_rounds + 1), .int (t_calls + fJ6_bitCount_0f7a4 t_arrangedLines), .ref q])), (q, .inr (5, [.int (t_rounds + 1), .int (s9 + x1), va_rf t_latest]))] ++ zPl rl) rfl ?_
  refine xi_eqw (ws2 := ([(a_t, .inr (7, [.ref a_t_news, .int 0, .int t_cutLines, .int (t_rounds + 1), .int (t_calls + fJ6_bitCount_0f7a4 t_arrangedLines), .ref q]))] ++ [(q, .inr (5, [.int (t_rounds + 1), .int (s9 + x1), va_rf t_latest]))]) ++ zPl rl) rfl ?_
  refine xi_swap ?_
  refine xi_eqw (ws2 := [(a_t, .inr (7, [.ref a_t_news, .int 0, .int t_cutLines, .int (t_rounds + 1), .int (t_calls + fJ6_bitCount_0f7a4 t_arrangedLines), .ref q]))] ++ zPl (rl ++ [(q, t_rounds + 1, s9 + x1, t_latest)])) (by rw [zPl_add]; exact List.append_assoc _ _ _) ?_
  exact hE _ _ (fun _ => q) dX7_endRound_59 rfl
