/-! rows for the texts of the JDK -/
theorem zinJ0 : ∀ w ∈ u_ws RJ0 TJ0 4, w ∈ zG := List.forall_mem_cons.mpr ⟨zm3 (i := 193) rfl rfl, List.forall_mem_cons.mpr ⟨zm3 (i := 195) rfl rfl, List.forall_mem_cons.mpr ⟨zm3 (i := 197) rfl rfl, List.forall_mem_cons.mpr ⟨zm3 (i := 199) rfl rfl, fun _ h => absurd h List.not_mem_nil⟩⟩⟩⟩
theorem zkJ0 : zK 13 RJ0 TJ0 4 tyJ0 := ⟨rfl, zinJ0, tyJ0_ok, nmJ0⟩
theorem zinJ4 : ∀ w ∈ u_ws RJ4 TJ4 4, w ∈ zG := List.forall_mem_cons.mpr ⟨zm2 (i := 105) rfl rfl, List.forall_mem_cons.mpr ⟨zm2 (i := 107) rfl rfl, List.forall_mem_cons.mpr ⟨zm2 (i := 109) rfl rfl, List.forall_mem_cons.mpr ⟨zm2 (i := 111) rfl rfl, fun _ h => absurd h List.not_mem_nil⟩⟩⟩⟩
theorem zkJ4 : zK 14 RJ4 TJ4 4 tyJ4 := ⟨rfl, zinJ4, tyJ4_ok, nmJ4⟩
theorem zlJ5_15 : zL RJ5 15 TJ4 0 := Or.inl (zm2 (i := 101) rfl rfl)
theorem zlJ5_22 : zL RJ5 22 TJ4 1 := Or.inl (zm2 (i := 102) rfl rfl)
theorem zlJ0_1048 : zL RJ0 1048 TJ4 2 := Or.inl (zm2 (i := 103) rfl rfl)
theorem zlJ5_79 : zL RJ5 79 TJ4 3 := Or.inl (zm2 (i := 104) rfl rfl)
theorem zlJ0_9 : zL RJ0 9 TJ0 0 := Or.inl (zm3 (i := 191) rfl rfl)
theorem zlJ0_15 : zL RJ0 15 TJ0 1 := Or.inl (zm3 (i := 192) rfl rfl)
theorem sel_sub {C : String} {y : MethodName} {s : State} {args : Array Value} {n : Nat} (hins : (Cond.instantiable C n).before args s = true) (hsame : (Cond.sameMethod y.cls y.cls y.name y.desc).before args s = true) (hpriv : (Cond.privateMethod y).before args s = true) (hinst : (Cond.instanceMethod y).before args s = true) : (Cond.selects C y y).before args s = true := by
  obtain ⟨c, k, hc, hk, -, -, -, -⟩ := Cond.instantiable_spec hins
  obtain ⟨cn, ck, r1, hcn, hck, hni, hf, hn1⟩ := Cond.sameMethod_found hsame
  obtain ⟨mk, methM, hnamed, hmethM, -, -⟩ := Cond.instanceMethod_spec hinst
  have hn2 : s.methodNamed? y = some r1 := hn1
  cases hnamed.symm.trans hn2
  have hcls : r1.cls = cn := Option.some.inj ((findClass_of_methodNamed hnamed).symm.trans hcn)
  have hsel : selectMethod {} s.vm c r1 = .method r1 := selectMethod_private hmethM (Cond.privateMethod_at hpriv r1 methM hnamed hmethM)
  simp only [Cond.before, Cond.holds, Cond.value, hc, hf, hnamed, hsel, hcls, hck]
  simp
  exact hni
/-- a method of a class above, or one that overrides it -/
def zU (own : String) (index : Nat) (Cn owner : String) (x y : MethodName) (bytes : ByteArray) (maxL : Nat) (ret : Option FieldType) (np : Nat) : Prop := Cond.code y bytes maxL ret ∈ zG ∧ Cond.initialized y.cls ∈ zG ∧ (owner ≠ "java/lang/invoke/MethodHandle" ∧ owner ≠ "java/lang/invoke/VarHandle" ∧ (parseMethodDescriptor x.desc).map (fun d => d.parameters.length) = some np) ∧ Cond.methodLink own index x ∈ zG ∧ Cond.sameMethod x.cls owner x.name x.desc ∈ zG ∧ Cond.instanceMethod ⟨owner, x.name, x.desc⟩ ∈ zG ∧ (∃ (b0 : ByteArray) (m0 : Nat) (r0 : Option FieldType), Cond.code ⟨owner, x.name, x.desc⟩ b0 m0 r0 ∈ zG) ∧ Cond.instanceMethod y ∈ zG ∧ ∀ (s : State) (args : Array Value), (∀ w ∈ zG, w.before args s = true) → (Cond.selects Cn x y).before args s = true
def zSU (own : String) (index : Nat) (y : MethodName) (bytes : ByteArray) (maxL : Nat) (ret : Option FieldType) (np : Nat) : Prop := Cond.code y bytes maxL ret ∈ zG ∧ Cond.initialized y.cls ∈ zG ∧ y.name ≠ "<init>" ∧ (parseMethodDescriptor y.desc).map (fun d => d.parameters.length) = some np ∧ Cond.methodLink own index y ∈ zG ∧ Cond.sameMethod y.cls y.cls y.name y.desc ∈ zG ∧ Cond.superclass own y.cls ∈ zG ∧ Cond.instanceMethod y ∈ zG
section RowsJ
variable {X : sX} {l : Launch} {R : Room} {D : va_G} {cT : Nat → ClassId} {nL k n pc : Nat} {cc : ByteArray} {own : String} {L : List (Nat × Value)} {st : List Value} {ws : va_W}
theorem xi_callEU (C : sC X R D cT nL cc own) {index b maxL np mc ms ci qr N : Nat} {Cn owner : String} {x y : MethodName} {bytes : ByteArray} {ret : Option FieldType} {rm : Room} {As : List Value} {W0 : va_W} {Φ : Option Value → va_W → Prop} {st0 fs : List Value} {T : u_T}
    (hM : sE l y (zw y bytes maxL ret) rm mc ms ret D cT (.ref b :: As) W0 Φ) (F : va_W) (hp : ws.Perm (W0 ++ F)) (hu : zU own index Cn owner x y bytes maxL ret np) (hR : zRmN rm R maxL mc ms) (hk : k + mc ≤ R.cells ∧ n + ms ≤ R.slots) (hnp : As.length = np)
    (hcl : vwQ[ci]? = some (Cn, T, N)) (hqr : W0[qr]? = some (b, .inr (ci, fs))) (hst : st0 = As.reverse ++ .ref b :: st) (hroom : (st.map fun v => v.category).sum ≤ 8)
    (hdg : decode cc pc = .ok (.invokevirtual index, 3)) (kk : ∀ rv W1, Φ rv W1 → zN ret rv → sW X l R D nL (k + mc) (n + ms) (pc + 3) L (rv.toList ++ st) (W1 ++ F)) : sW X l R D nL k n pc L st0 ws := by
  refine xi_permL hp ?_
  obtain ⟨p, e, s, m, args, below, meth, c, Q, A⟩ := X
  intro H locs ls hP hD hS hl
  subst hst
  have hF := vaA_A hD hS C.2.2.1
  have ht := C.1.2.2.2.2
  have hPc : va_P D vwQ W0 H := vaP_mem hP (fun q hq => List.mem_append_left _ hq)
  have hDc : va_D A W0 := vaD_sub hD (List.sublist_append_left W0 F)
  have hpre : PreV s H Cn b (zP D cT (.ref b :: As) H.size W0) As := ⟨zP_blind, va_recv C.2.1 hPc hcl hqr, fun U hU hW => ⟨rfl, by rw [hU], by rw [hU]; exact hPc, va_K.moved hW.alike C.2.1, hDc.weaken (fun _ _ _ _ => trivial), by rw [hU]; exact zF_move C.2.2.2.2.1 hS hW hF, zH_move C.2.2.2.2.2 hW⟩⟩
  have hroom' : 2 * (F0 m pc ls (As.reverse ++ .ref b :: st)).monitorRoom + (st.map fun v => v.category).sum ≤ 8 := lv_room hroom
  obtain ⟨u1, u2, ⟨u3, u4, u5⟩, u6, u7, u8, ⟨b0, m0, r0, u9⟩, u10, u11⟩ := hu
  refine z_afterE (mc := mc) (ms := ms) (W0 := W0) (Φ := Φ) (ret := ret) (D := D) (cT := cT) (a := (Value.ref b :: As).toArray) (rest := st) ?_ hS hF (fun rv W1 H1 locs1 hΦ hz hP1 hD1 hs1 hk1 hS1 => ?_)
  · exact va_runU C.1 (hM H.size) (owner := owner) (x := x) ⟨⟨hR.1, hR.2.1, hR.2.2.1, hR.2.2.2, pay_in ht (zw_good u1), List.mem_cons_self⟩, ht _ u1, ht _ u2, ⟨u3, u4⟩, (fun sig h => by rw [h] at u5; exact (Option.some.inj u5).symm), ht _ u6, ht _ u7, va_Decl.of (ht _ u8) (ht _ u9), u11 s args ht, ht _ u10⟩ hpre rfl hnp hl.1 rfl hroom' hdg hk
  · obtain ⟨h1, h2⟩ := z_worldF hP hD hk1 hF hP1 hD1
    exact kk rv W1 hΦ hz H1 locs1 ls h1 h2 hS1 hl
theorem xi_callESU (C : sC X R D cT nL cc own) {index b maxL np mc ms ci qr N : Nat} {Cn : String} {y : MethodName} {bytes : ByteArray} {ret : Option FieldType} {rm : Room} {As : List Value} {W0 : va_W} {Φ : Option Value → va_W → Prop} {st0 fs : List Value} {T : u_T}
    (hM : sE l y (zw y bytes maxL ret) rm mc ms ret D cT (.ref b :: As) W0 Φ) (F : va_W) (hp : ws.Perm (W0 ++ F)) (hu : zSU own index y bytes maxL ret np) (hR : zRmN rm R maxL mc ms) (hk : k + mc ≤ R.cells ∧ n + ms ≤ R.slots) (hnp : As.length = np)
    (hcl : vwQ[ci]? = some (Cn, T, N)) (hqr : W0[qr]? = some (b, .inr (ci, fs))) (hst : st0 = As.reverse ++ .ref b :: st) (hroom : (st.map fun v => v.category).sum ≤ 8)
    (hdg : decode cc pc = .ok (.invokespecial index, 3)) (kk : ∀ rv W1, Φ rv W1 → zN ret rv → sW X l R D nL (k + mc) (n + ms) (pc + 3) L (rv.toList ++ st) (W1 ++ F)) : sW X l R D nL k n pc L st0 ws := by
  refine xi_permL hp ?_
  obtain ⟨p, e, s, m, args, below, meth, c, Q, A⟩ := X
  intro H locs ls hP hD hS hl
  subst hst
  have hF := vaA_A hD hS C.2.2.1
  have ht := C.1.2.2.2.2
  have hPc : va_P D vwQ W0 H := vaP_mem hP (fun q hq => List.mem_append_left _ hq)
  have hDc : va_D A W0 := vaD_sub hD (List.sublist_append_left W0 F)
  have hpre : PreV s H Cn b (zP D cT (.ref b :: As) H.size W0) As := ⟨zP_blind, va_recv C.2.1 hPc hcl hqr, fun U hU hW => ⟨rfl, by rw [hU], by rw [hU]; exact hPc, va_K.moved hW.alike C.2.1, hDc.weaken (fun _ _ _ _ => trivial), by rw [hU]; exact zF_move C.2.2.2.2.1 hS hW hF, zH_move C.2.2.2.2.2 hW⟩⟩
  have hroom' : 2 * (F0 m pc ls (As.reverse ++ .ref b :: st)).monitorRoom + (st.map fun v => v.category).sum ≤ 8 := lv_room hroom
  obtain ⟨u1, u2, u3, u4, u5, u6, u7, u8⟩ := hu
  refine z_afterE (mc := mc) (ms := ms) (W0 := W0) (Φ := Φ) (ret := ret) (D := D) (cT := cT) (a := (Value.ref b :: As).toArray) (rest := st) ?_ hS hF (fun rv W1 H1 locs1 hΦ hz hP1 hD1 hs1 hk1 hS1 => ?_)
  · exact va_runSU (C.2.1.1 ci _ hcl).2 C.1 (hM H.size) ⟨⟨hR.1, hR.2.1, hR.2.2.1, hR.2.2.2, pay_in ht (zw_good u1), List.mem_cons_self⟩, ht _ u5, ht _ u6, ht _ u7, ht _ u8, ht _ u2, ht _ u1, u3, (fun sig h => by rw [h] at u4; exact (Option.some.inj u4).symm)⟩ hpre rfl hnp hl.1 rfl hroom' hdg hk
  · obtain ⟨h1, h2⟩ := z_worldF hP hD hk1 hF hP1 hD1
    exact kk rv W1 hΦ hz H1 locs1 ls h1 h2 hS1 hl
/-- a call on a word of the program's own -/
theorem xi_callES0 (C : sC X R D cT nL cc own) {index maxL np : Nat} {i : Nat} (hi : i < 12) {y : MethodName} (hy : y.cls = RJ0) {bytes : ByteArray} {ret : Option FieldType} {rm : Room} {As : List Value} {rv : Option Value} {st0 : List Value}
    (hM : sM l y bytes maxL ret rm D cT (.ref (D.2 100 i) :: As) [] rv []) (hc : zC y bytes maxL ret np) (hml : zMl own index y) (hin : zI y) (hR : zRm rm R maxL) (hk : k ≤ R.cells ∧ n ≤ R.slots) (hnp : As.length = np)
    (hst : st0 = As.reverse ++ .ref (D.2 100 i) :: st) (hroom : (st.map fun v => v.category).sum ≤ 8)
    (hdg : decode cc pc = .ok (.invokevirtual index, 3)) (kk : zN ret rv → sW X l R D nL k n (pc + 3) L (rv.toList ++ st) ws) : sW X l R D nL k n pc L st0 ws := by
  have hz := zrS C hi (ws := ws)
  rw [← hy] at hz
  exact xi_callV0r C hM hc hml hin hR hk hnp [] rfl rfl hz hst hroom hdg kk
theorem xi_ineg (C : sC X R D cT nL cc own) {x : Int32} (hdg : decode cc pc = .ok (.ineg, 1)) (kk : sW X l R D nL k n (pc + 1) L (.int (-x) :: st) ws) : sW X l R D nL k n pc L (.int x :: st) ws := by
  obtain ⟨p, e, s, m, args, below, meth, c, Q, A⟩ := X
  intro H locs ls hP hD hS hl
  exact lv_ineg C.1.1 C.1.2.1 hdg (kk H locs ls hP hD hS hl)
theorem xi_dup_x1 (C : sC X R D cT nL cc own) {va vb : Value} (hdg : decode cc pc = .ok (.dup_x1, 1)) (hva : va.category = 1) (hvb : vb.category = 1) (kk : sW X l R D nL k n (pc + 1) L (va :: vb :: va :: st) ws) : sW X l R D nL k n pc L (va :: vb :: st) ws := by
  obtain ⟨p, e, s, m, args, below, meth, c, Q, A⟩ := X
  intro H locs ls hP hD hS hl
  exact lv_dup_x1 C.1.1 C.1.2.1 hdg hva hvb (kk H locs ls hP hD hS hl)
theorem xi_ifnonnull (C : sC X R D cT nL cc own) {x : Nat} {off : Int} {tgt : Nat} (hdg : decode cc pc = .ok (.ifnonnull off, 3)) (ht : (pc : Int) + off = (tgt : Int)) (kk : sW X l R D nL k n tgt L st ws) : sW X l R D nL k n pc L (.ref x :: st) ws := by
  obtain ⟨p, e, s, m, args, below, meth, c, Q, A⟩ := X
  intro H locs ls hP hD hS hl
  exact lv_ifnonnull C.1.1 C.1.2.1 hdg ht (kk H locs ls hP hD hS hl)
theorem xi_compact5 (C : sC X R D cT nL cc RJ5) (hdg : decode cc pc = .ok (.getstatic 18, 3)) (kk : sW X l R D nL k n (pc + 3) L (.int 1 :: st) ws) : sW X l R D nL k n pc L st ws := by
  obtain ⟨p, e, s, m, args, below, meth, c, Q, A⟩ := X
  intro H locs ls hP hD hS hl
  exact va_gets C.1.1 C.1.2.1 C.2.2.2.2.1.2.2.2.1 hS C.1.2.2.2.1 (C.1.2.2.2.2 _ (zm2 (i := 92) rfl rfl)) (fun _ h => h) hdg (kk H locs ls hP hD hS hl)
theorem xi_digit (C : sC X R D cT nL cc RJ6) (hdg : decode cc pc = .ok (.getstatic 83, 3)) (kk : ∀ dt : Nat, (∀ {pc2 k2 n2 : Nat} {L2 : List (Nat × Value)} {st2 : List Value} {ws2 : va_W} {j : Nat}, j < 10 → decode cc pc2 = .ok (.baload, 1) → sW X l R D nL k2 n2 (pc2 + 1) L2 (.int (nI (48 + j)) :: st2) ws2 → sW X l R D nL k2 n2 pc2 L2 (.int (nI j) :: .ref dt :: st2) ws2) → sW X l R D nL k n (pc + 3) L (.ref dt :: st) ws) : sW X l R D nL k n pc L st ws := by
  obtain ⟨p, e, s, m, args, below, meth, c, Q, A⟩ := X
  obtain ⟨dt, h1, h2⟩ := C.2.2.2.2.1.2.2.2.2.2.2.2.2.2.2.2
  have kk2 := kk dt (by
    intro pc2 k2 n2 L2 st2 ws2 j hj hd2 kk3
    intro H locs ls hP hD hS hl
    exact va_tb C.1.1 C.1.2.1 h2 hS (vp_in_nI (by omega) (by decide)) (v := .int (nI (48 + j))) (by rw [nI_clamp (by omega), Nat.mod_eq_of_lt hj]) hd2 (kk3 H locs ls hP hD hS hl))
  intro H locs ls hP hD hS hl
  exact va_gets C.1.1 C.1.2.1 h1 hS C.1.2.2.2.1 (C.1.2.2.2.2 _ (zm3 (i := 71) rfl rfl)) (fun _ h => h) hdg (kk2 H locs ls hP hD hS hl)
theorem xi_acopy (C : sC X R D cT nL cc own) {index a0 a1 n0 n1 : Nat} {f g : Nat → Int32} {ws2 : va_W} (q0 q1 : Nat) (ha0 : ws[q0]? = some (a0, .inl (cT 2, n0, .inl f))) (ha1 : ws[q1]? = some (a1, .inl (cT 2, n1, .inl g))) (hlink : Cond.methodLink own index arraycopyName ∈ zG) {sp dp w : Nat} (h4 : sp + w ≤ n0) (h5 : dp + w ≤ n1) (hb : n0 < 2 ^ 31 ∧ n1 < 2 ^ 31) (hfit : ∀ i, i < w → fits .byte (.int (f (sp + i))) = true) (hR : 1 ≤ R.frames ∧ 100 ≤ R.locals) (hroom : (st.map fun v => v.category).sum ≤ 8) (hdg : decode cc pc = .ok (.invokestatic index, 3)) (hw : ws.set q1 (a1, .inl (cT 2, n1, .inl (va_cpy f g sp dp w))) = ws2)
    (kk : sW X l R D nL k n (pc + 3) L st ws2) : sW X l R D nL k n pc L (.int (nI w) :: .int (nI dp) :: .ref a1 :: .int (nI sp) :: .ref a0 :: st) ws := by
  obtain ⟨p, e, s, m, args, below, meth, c, Q, A⟩ := X
  intro H locs ls hP hD hS hl
  have e1 : (nI sp).toNatClampNeg = sp := nI_clamp (by omega)
  have e2 : (nI dp).toNatClampNeg = dp := nI_clamp (by omega)
  have e3 : (nI w).toNatClampNeg = w := nI_clamp (by omega)
  have p1 : ¬ nI sp < 0 := nI_pos (n := sp) (by omega)
  have p2 : ¬ nI dp < 0 := nI_pos (n := dp) (by omega)
  have p3 : ¬ nI w < 0 := nI_pos (n := w) (by omega)
  have h9 : nativeFrameWords "java/lang/System" "arraycopy" 5 ≤ 60 := by decide
  refine va_copyi C.1.1 C.1.2.1 (C.1.2.2.1.trans hl.1.symm) C.1.2.2.2.1 (C.1.2.2.2.2 _ hlink) (C.1.2.2.2.2 _ (zm2 (i := 223) rfl rfl)) (C.1.2.2.2.2 _ (zm2 (i := 222) rfl rfl)) (C.1.2.2.2.2 _ (zm1 (i := 19) rfl rfl)) C.2.1 hP hD hS q0 q1 2 2 ha0 ha1 rfl rfl rfl p1 p2 p3 (by rw [e1, e3]; exact h4) (by rw [e2, e3]; exact h5) (fun i hi => by rw [e1]; rw [e3] at hi; exact hfit i hi) hR.1 (by omega) hdg (fun H1 locs1 hP1 hD1 hS1 => ?_)
  rw [e1, e2, e3, hw] at hP1 hD1
  exact kk H1 locs1 ls hP1 hD1 hS1 hl
theorem xi_acopyS (C : sC X R D cT nL cc own) {index a1 n1 i : Nat} (hi : i < 12) {g : Nat → Int32} {ws2 : va_W} (q1 : Nat) (ha1 : ws[q1]? = some (a1, .inl (cT 2, n1, .inl g))) (hlink : Cond.methodLink own index arraycopyName ∈ zG) {dp : Nat} (h5 : dp + zLen.getD i 0 ≤ n1) (hb : n1 < 2 ^ 31) (hfit : ∀ j, j < zLen.getD i 0 → fits .byte (.int ((zByt.getD i []).getD j 0)) = true) (hR : 1 ≤ R.frames ∧ 100 ≤ R.locals) (hroom : (st.map fun v => v.category).sum ≤ 8) (hdg : decode cc pc = .ok (.invokestatic index, 3)) (hw : ws.set q1 (a1, .inl (cT 2, n1, .inl (va_cpy (fun j => (zByt.getD i []).getD j 0) g 0 dp (zLen.getD i 0)))) = ws2)
    (kk : sW X l R D nL k n (pc + 3) L st ws2) : sW X l R D nL k n pc L (.int (nI (zLen.getD i 0)) :: .int (nI dp) :: .ref a1 :: .int 0 :: .ref (D.2 101 i) :: st) ws := by
  obtain ⟨p, e, s, m, args, below, meth, c, Q, A⟩ := X
  intro H locs ls hP hD hS hl
  have hlen := zlen_lt i hi
  have e2 : (nI dp).toNatClampNeg = dp := nI_clamp (by omega)
  have e3 : (nI (zLen.getD i 0)).toNatClampNeg = zLen.getD i 0 := nI_clamp (by omega)
  have h9 : nativeFrameWords "java/lang/System" "arraycopy" 5 ≤ 60 := by decide
  have hT := (C.2.2.2.2.1.1.1 i hi).2.2.2
  obtain ⟨scr, t1, t2, t3, t4, t5, t6, t7⟩ := hT
  have hX : H[D.2 101 i]? = some scr := by
    have hlt := (Array.getElem?_eq_some_iff.mp t1).1
    rw [hS.2.1 _ hlt t7]
    exact t1
  intro T hT X
  have hc1 : H[a1]? = some (vp_cell (cT 2) (n1, .inl g)) := hP q1 _ ha1
  obtain ⟨hs6, k0, hk0, cm0, hkk0⟩ := t2
  obtain ⟨-, k1, hk1, cm1, hkk1⟩ := (C.2.1.2 2 _ rfl).1 n1 (fun j => .int (g j))
  obtain ⟨vm', X', step⟩ := X.arraycopy C.1.1 C.1.2.2.2.1 (C.1.2.2.2.2 _ hlink) (C.1.2.2.2.2 _ (zm2 (i := 223) rfl rfl)) (C.1.2.2.2.2 _ (zm2 (i := 222) rfl rfl)) (C.1.2.2.2.2 _ (zm1 (i := 19) rfl rfl)) (src := D.2 101 i) (dst := a1) (cs := scr) (cd := vp_cell (cT 2) (n1, .inl g)) (srcPos := 0) (destPos := nI dp) (n := nI (zLen.getD i 0)) (by rw [hT]; exact hX) (by rw [hT]; exact hc1)
    hs6 (fun _ h => by cases h) t3 (fun h => by cases h) hk0 hk1 hkk0 hkk1 (by simp [refKind]) (by decide) (nI_pos (by omega)) (nI_pos (by omega))
    (by rw [nI_toInt (by omega)]; show ¬ (0 : Int) + _ > _; omega)
    (by rw [nI_toInt (by omega), nI_toInt (by omega)]; show ¬ _ > ((arrV (cT 2) n1 (fun j => .int (g j))).slots.size : Int); rw [arrV_size]; omega)
    (fun vm₁ _ j hj => by
      rw [e3] at hj
      have e : scr.slots.getD ((0 : Int32).toNatClampNeg + j) .null = .int ((zByt.getD i []).getD j 0) := by
        rw [show (0 : Int32).toNatClampNeg = 0 from rfl, Nat.zero_add, Array.getD_eq_getD_getElem?, t6 _ hj]
        rfl
      refine ⟨?_, ?_⟩
      · rw [e]
        exact hfit j hj
      · rw [e]
        exact trivial)
    (g := F0 m pc ls (.int (nI (zLen.getD i 0)) :: .int (nI dp) :: .ref a1 :: .int 0 :: .ref (D.2 101 i) :: st)) rfl (hl.1.trans C.1.2.2.1.symm) (rest := st) rfl (by rw [C.1.2.1]; exact hdg) hR.1 (by show 2 * 0 + _ + _ ≤ _; omega)
  have ec : copied scr (vp_cell (cT 2) (n1, .inl g)) 0 (nI dp) (nI (zLen.getD i 0)) = vp_cell (cT 2) (n1, .inl (va_cpy (fun j => (zByt.getD i []).getD j 0) g 0 dp (zLen.getD i 0))) := by
    show (arrV (cT 2) n1 (fun j => .int (g j))).storeRun (nI dp).toNatClampNeg (scr.stretch (0 : Int32).toNatClampNeg (nI (zLen.getD i 0)).toNatClampNeg) = _
    rw [e2, e3]
    exact va_copiedX (fun z => .int z) scr (cT 2) (fun j => (zByt.getD i []).getD j 0) g (sp := 0) (dp := dp) (n := zLen.getD i 0) t6 (Nat.le_of_eq (Nat.zero_add _))
  rw [ec] at X' step
  have hl9 : a1 < H.size := (Array.getElem?_eq_some_iff.mp hc1).1
  have hheap : ((T.setVm vm').setCell a1 (vp_cell (cT 2) (n1, .inl (va_cpy (fun j => (zByt.getD i []).getD j 0) g 0 dp (zLen.getD i 0))))).heap = H.setIfInBounds a1 (vp_cell (cT 2) (n1, .inl (va_cpy (fun j => (zByt.getD i []).getD j 0) g 0 dp (zLen.getD i 0)))) := by rw [← hT]; rfl
  have oq : ∀ q : Nat, q ≠ a1 → (H.setIfInBounds a1 (vp_cell (cT 2) (n1, .inl (va_cpy (fun j => (zByt.getD i []).getD j 0) g 0 dp (zLen.getD i 0)))))[q]? = H[q]? := fun q hq => by simp [Array.getElem?_setIfInBounds, Ne.symm hq]
  have hat : va_at D vwQ (a1, (.inl (cT 2, n1, .inl (va_cpy (fun j => (zByt.getD i []).getD j 0) g 0 dp (zLen.getD i 0))) : va_E)) (H.setIfInBounds a1 (vp_cell (cT 2) (n1, .inl (va_cpy (fun j => (zByt.getD i []).getD j 0) g 0 dp (zLen.getD i 0))))) := by
    show (H.setIfInBounds a1 (vp_cell (cT 2) (n1, .inl (va_cpy (fun j => (zByt.getD i []).getD j 0) g 0 dp (zLen.getD i 0)))))[a1]? = some (vp_cell (cT 2) (n1, .inl (va_cpy (fun j => (zByt.getD i []).getD j 0) g 0 dp (zLen.getD i 0))))
    simp [Array.getElem?_setIfInBounds, hl9]
  have hP1 := hP.set hD ha1 hat oq
  have hD1 := hD.set (e := .inl (cT 2, n1, .inl (va_cpy (fun j => (zByt.getD i []).getD j 0) g 0 dp (zLen.getD i 0)))) ha1
  rw [hw] at hP1 hD1
  obtain ⟨t, a9, b9⟩ := kk _ _ ls hP1 hD1 ⟨by simp; exact hS.1, fun q g1 g2 => by
      rw [oq q (fun e => g2 (by rw [e]; exact hD.2 q1 _ ha1))]
      exact hS.2.1 q g1 g2, fun q hq => by
      rcases List.mem_append.mp hq with h | h
      · exact hS.2.2 q h
      · obtain ⟨z, -, hz⟩ := List.mem_map.mp h
        rw [← hz]
        exact hD.2 q1 _ ha1⟩ hl _ hheap X'
  exact ⟨t, step t a9, b9⟩
end RowsJ
section SEJ
variable {l : Launch} {y : MethodName} {bytes : ByteArray} {maxL : Nat} {rm : Room} {mc ms : Nat} {D : va_G} {cT : Nat → ClassId} {av : List Value} {W0 : va_W} {Φ : Option Value → va_W → Prop}
theorem sE_ref {Cn : String} (hy : plainName y.cls = true) (hlen : (lg_sl av).length ≤ maxL) (body : ∀ X : sX, sC X rm D cT maxL bytes y.cls → (∀ (pc : Nat) (L : List (Nat × Value)) (x : Nat) (W1 : va_W), decode bytes pc = .ok (.areturn, 1) → Φ (some (.ref x)) W1 → sW X l rm D maxL mc ms pc L [.ref x] W1) → sW X l rm D maxL 0 0 0 (lv_args 0 av) [] W0) : sE l y (zw y bytes maxL (some (.object Cn))) rm mc ms (some (.object Cn)) D cT av W0 Φ := by
  refine sE_body (K := fun X => ∀ (pc : Nat) (L : List (Nat × Value)) (x : Nat) (W1 : va_W), decode bytes pc = .ok (.areturn, 1) → Φ (some (.ref x)) W1 → sW X l rm D maxL mc ms pc L [.ref x] W1) hy hlen (fun X C _ hE => body X C hE) ?_
  intro p e s m args below meth c hx hb hml hr hlocks hK pc L x W1 hdg hv H locs ls hP1 hD1 hS hl
  exact W.aret (v := .ref x) hx hb hr (Or.inl ⟨_, rfl⟩) (Or.inr ⟨x, rfl⟩) (fun t ht hW => ⟨⟨_, W1, hv, rfl, (fun v e1 ty e2 => by cases e1; cases e2; rfl), by rw [ht]; exact hP1, va_K.moved hW.alike hK, hD1⟩, hS.F ht⟩) hS.2.2 hdg
theorem sE_arrB (hy : plainName y.cls = true) (hlen : (lg_sl av).length ≤ maxL) (body : ∀ X : sX, sC X rm D cT maxL bytes y.cls → (∀ (pc : Nat) (L : List (Nat × Value)) (x : Nat) (W1 : va_W), decode bytes pc = .ok (.areturn, 1) → Φ (some (.ref x)) W1 → sW X l rm D maxL mc ms pc L [.ref x] W1) → sW X l rm D maxL 0 0 0 (lv_args 0 av) [] W0) : sE l y (zw y bytes maxL (some (.array .byte))) rm mc ms (some (.array .byte)) D cT av W0 Φ := by
  refine sE_body (K := fun X => ∀ (pc : Nat) (L : List (Nat × Value)) (x : Nat) (W1 : va_W), decode bytes pc = .ok (.areturn, 1) → Φ (some (.ref x)) W1 → sW X l rm D maxL mc ms pc L [.ref x] W1) hy hlen (fun X C _ hE => body X C hE) ?_
  intro p e s m args below meth c hx hb hml hr hlocks hK pc L x W1 hdg hv H locs ls hP1 hD1 hS hl
  exact W.aret (v := .ref x) hx hb hr (Or.inr ⟨_, rfl⟩) (Or.inr ⟨x, rfl⟩) (fun t ht hW => ⟨⟨_, W1, hv, rfl, (fun v e1 ty e2 => by cases e1; cases e2; rfl), by rw [ht]; exact hP1, va_K.moved hW.alike hK, hD1⟩, hS.F ht⟩) hS.2.2 hdg
end SEJ

theorem zuJ5_100 : zU RJ5 100 "java/lang/StringBuilder" "java/lang/AbstractStringBuilder" yJ5_ensureCapacityInternal_d00df yJ5_ensureCapacityInternal_d00df cJ5_ensureCapacityInternal_d00df 3 none 1 := ⟨(zm2 (i := 192) rfl rfl), (zm1 (i := 11) rfl rfl), ⟨by decide, by decide, by decide +kernel⟩, (zm2 (i := 189) rfl rfl), (zm6 (i := 99) rfl rfl), (zm2 (i := 191) rfl rfl), ⟨_, _, _, (zm2 (i := 192) rfl rfl)⟩, (zm2 (i := 191) rfl rfl), fun s args ht => ht _ (zmS (i := 0) rfl rfl)⟩
theorem zuJ5_104 : zU RJ5 104 "java/lang/StringBuilder" "java/lang/AbstractStringBuilder" yJ5_newCapacity_0f7a4 yJ5_newCapacity_0f7a4 cJ5_newCapacity_0f7a4 6 (some .int) 1 := ⟨(zm2 (i := 196) rfl rfl), (zm1 (i := 11) rfl rfl), ⟨by decide, by decide, by decide +kernel⟩, (zm2 (i := 193) rfl rfl), (zm6 (i := 100) rfl rfl), (zm2 (i := 195) rfl rfl), ⟨_, _, _, (zm2 (i := 196) rfl rfl)⟩, (zm2 (i := 195) rfl rfl), fun s args ht => ht _ (zmS (i := 1) rfl rfl)⟩
theorem zuJ5_83 : zU RJ5 83 "java/lang/StringBuilder" "java/lang/AbstractStringBuilder" yJ5_isLatin1_aae02 yJ5_isLatin1_aae02 cJ5_isLatin1_aae02 1 (some .boolean) 0 := ⟨(zm2 (i := 228) rfl rfl), (zm1 (i := 11) rfl rfl), ⟨by decide, by decide, by decide +kernel⟩, (zm2 (i := 224) rfl rfl), (zm2 (i := 226) rfl rfl), (zm2 (i := 225) rfl rfl), ⟨_, _, _, (zm2 (i := 228) rfl rfl)⟩, (zm2 (i := 225) rfl rfl), fun s args ht => ht _ (zm2 (i := 227) rfl rfl)⟩
theorem zuJ5_208 : zU RJ5 208 "java/lang/StringBuilder" "java/lang/AbstractStringBuilder" yJ5_putStringAt_47b60 yJ5_putStringAt_47b60 cJ5_putStringAt_47b60 3 none 2 := ⟨(zm3 (i := 27) rfl rfl), (zm1 (i := 11) rfl rfl), ⟨by decide, by decide, by decide +kernel⟩, (zm3 (i := 24) rfl rfl), (zm6 (i := 101) rfl rfl), (zm3 (i := 26) rfl rfl), ⟨_, _, _, (zm3 (i := 27) rfl rfl)⟩, (zm3 (i := 26) rfl rfl), fun s args ht => ht _ (zmS (i := 2) rfl rfl)⟩
theorem zuJ5_397 : zU RJ5 397 "java/lang/StringBuilder" "java/lang/AbstractStringBuilder" yJ5_inflateIfNeededFor_a7421 yJ5_inflateIfNeededFor_a7421 cJ5_inflateIfNeededFor_a7421 2 none 1 := ⟨(zm3 (i := 31) rfl rfl), (zm1 (i := 11) rfl rfl), ⟨by decide, by decide, by decide +kernel⟩, (zm3 (i := 28) rfl rfl), (zm6 (i := 102) rfl rfl), (zm3 (i := 30) rfl rfl), ⟨_, _, _, (zm3 (i := 31) rfl rfl)⟩, (zm3 (i := 30) rfl rfl), fun s args ht => ht _ (zmS (i := 3) rfl rfl)⟩
theorem zuJ0_552 : zU RJ0 552 "java/lang/StringBuilder" "java/lang/AbstractStringBuilder" yJ5_getValue_6d5f1 yJ5_getValue_6d5f1 cJ5_getValue_6d5f1 1 (some (.array .byte)) 0 := ⟨(zm3 (i := 159) rfl rfl), (zm1 (i := 11) rfl rfl), ⟨by decide, by decide, by decide +kernel⟩, (zm3 (i := 155) rfl rfl), (zm3 (i := 157) rfl rfl), (zm3 (i := 156) rfl rfl), ⟨_, _, _, (zm3 (i := 159) rfl rfl)⟩, (zm3 (i := 156) rfl rfl), fun s args ht => ht _ (zm3 (i := 158) rfl rfl)⟩
theorem zuJ0_1047 : zU RJ0 1047 "java/lang/StringBuilder" "java/lang/AbstractStringBuilder" yJ5_isLatin1_aae02 yJ5_isLatin1_aae02 cJ5_isLatin1_aae02 1 (some .boolean) 0 := ⟨(zm2 (i := 228) rfl rfl), (zm1 (i := 11) rfl rfl), ⟨by decide, by decide, by decide +kernel⟩, (zm3 (i := 168) rfl rfl), (zm2 (i := 226) rfl rfl), (zm2 (i := 225) rfl rfl), ⟨_, _, _, (zm2 (i := 228) rfl rfl)⟩, (zm2 (i := 225) rfl rfl), fun s args ht => ht _ (zm2 (i := 227) rfl rfl)⟩
theorem zuJ0_549 : zU RJ0 549 "java/lang/StringBuilder" "java/lang/AbstractStringBuilder" yJ5_length_8abf5 yJ4_length_8abf5 cJ4_length_8abf5 1 (some .int) 0 := ⟨(zm3 (i := 165) rfl rfl), (zm1 (i := 12) rfl rfl), ⟨by decide, by decide, by decide +kernel⟩, (zm3 (i := 160) rfl rfl), (zm3 (i := 162) rfl rfl), (zm3 (i := 161) rfl rfl), ⟨_, _, _, (zm3 (i := 167) rfl rfl)⟩, (zm3 (i := 164) rfl rfl), fun s args ht => ht _ (zm3 (i := 163) rfl rfl)⟩
theorem zsuJ4_29 : zSU RJ4 29 yJ5_append_cf1ce cJ5_append_cf1ce 3 (some (.object "java/lang/AbstractStringBuilder")) 1 := ⟨(zm2 (i := 184) rfl rfl), (zm1 (i := 11) rfl rfl), by decide, by decide +kernel, (zm2 (i := 182) rfl rfl), (zm6 (i := 97) rfl rfl), (zm2 (i := 113) rfl rfl), (zm2 (i := 183) rfl rfl)⟩
theorem zsuJ4_50 : zSU RJ4 50 yJ5_append_3fe6f cJ5_append_3fe6f 2 (some (.object "java/lang/AbstractStringBuilder")) 1 := ⟨(zm3 (i := 89) rfl rfl), (zm1 (i := 11) rfl rfl), by decide, by decide +kernel, (zm3 (i := 87) rfl rfl), (zm6 (i := 105) rfl rfl), (zm2 (i := 113) rfl rfl), (zm3 (i := 88) rfl rfl)⟩
theorem zsuJ4_53 : zSU RJ4 53 yJ5_append_c97b9 cJ5_append_c97b9 4 (some (.object "java/lang/AbstractStringBuilder")) 1 := ⟨(zm3 (i := 64) rfl rfl), (zm1 (i := 11) rfl rfl), by decide, by decide +kernel, (zm3 (i := 62) rfl rfl), (zm6 (i := 104) rfl rfl), (zm2 (i := 113) rfl rfl), (zm3 (i := 63) rfl rfl)⟩
theorem zsuJ4_343 : zSU RJ4 343 yJ5_length_8abf5 cJ5_length_8abf5 1 (some .int) 0 := ⟨(zm3 (i := 167) rfl rfl), (zm1 (i := 11) rfl rfl), by decide, by decide +kernel, (zm3 (i := 166) rfl rfl), (zm3 (i := 162) rfl rfl), (zm2 (i := 113) rfl rfl), (zm3 (i := 161) rfl rfl)⟩
