/-! calls that throw, the law's own methods that catch, the law's script -/
section TR
variable {p : Program} {l : Launch} {e : Env} {R : Room} {s : State} {m : MethodId} {args : Array Value} {below : List Frame} {meth : Method} {c : Code} {H : Heap} {locs : List Loc} {cells slots : Nat} {Q : State → Prop}
theorem z_afterT {D : va_G} {cT : Nat → ClassId} {E : String} {W0 : va_W} {mc ms pc : Nat} {ls : Array Slot} {rest st0 : List Value} {a : Array Value} {A0 : Nat → Prop} {H0 : Heap} (hr : vx_Run p l e R s m args below meth c H locs cells slots mc ms (F0 m pc ls st0) rest (zNo a) (zXC D cT E H.size W0) (va_A W0 H.size)) (hS : va_S A0 H0 H locs) (hF : ∀ q, va_A W0 H.size q → A0 q)
    (kx : ∀ (ce : Cell) (q9 : Addr) (H1 : Heap) (locs1 : List Loc), va_P D vwQ W0 H1 → H.size ≤ H1.size → (∀ q : Nat, q < H.size → ¬ va_A W0 H.size q → H1[q]? = H[q]?) → va_S A0 H0 H1 locs1 → H1[q9]? = some ce → ce.vm = .none → s.vm.findClass E = some ce.cls → vx_W p l e R s m args below meth c H1 locs1 (cells + mc) (slots + ms) Q (F0 m pc ls rest) q9) : W p l e R s m args below meth c H locs cells slots Q (F0 m pc ls st0) := by
  intro T hT X
  rcases hr T hT X with ⟨v, st₀, t, T', L, h0, X', hL, e1, e2, hno, st⟩ | ⟨q, st₀, t, T', L, E', ce, h0, X', hL, e1, e2, ⟨rfl, hP, hK, hD, hF1⟩, hce, hcv, hcl, st⟩
  · exact False.elim hno
  · obtain ⟨k1, k2, k3⟩ := vx_keep h0 e1 hS (fun q _ h => hF q h) hF hL hF1
    obtain ⟨t2, a1, b1⟩ := kx ce q T'.heap (locs ++ L) (by rw [e1]; exact hP) k1 k2 k3 (by rw [e1]; exact hce) hcv hcl T' rfl X'
    exact ⟨t2, st.trans a1, b1⟩
end TR
/-- an exception of class E has just come out of a call at pc -/
def zXW (X : sX) (l : Launch) (R : Room) (D : va_G) (nL k n pc : Nat) (L : List (Nat × Value)) (st : List Value) (ws : va_W) (E : String) : Prop :=
  match X with
  | (p, e, s, m, args, below, meth, c, Q, A) => ∀ (H : Heap) (locs : List Loc) (ls : Array Slot) (ce : Cell) (q9 : Addr), va_P D vwQ ws H → va_D A ws → va_S A s.heap H locs → lv_has ls nL L → H[q9]? = some ce → ce.vm = .none → s.vm.findClass E = some ce.cls → vx_W p l e R s m args below meth c H locs k n Q (F0 m pc ls st) q9
def zTab (X : sX) (hh : List (Nat × Nat × Nat × Nat)) : Prop := match X with
  | (_, _, _, _, _, _, _, c, _, _) => c.exceptionTable.toList = tableOf hh
/-- the script: L ints at b, which nobody writes -/
def zScr (X : sX) (b L : Nat) (xs : Nat → Int32) : Prop := match X with
  | (_, _, s, _, _, _, _, _, _, A) => va_X b L xs s s.heap ∧ b < s.heap.size ∧ ¬ A b
def zwW (y : MethodName) (cc : ByteArray) (n : Nat) (ret : Option FieldType) (hh : List (Nat × Nat × Nat × Nat)) : List Cond := Cond.codeWith y cc n ret hh :: zG
theorem zwW_good {y : MethodName} {cc : ByteArray} {n : Nat} {ret : Option FieldType} {hh : List (Nat × Nat × Nat × Nat)} (h : Cond.codeWith y cc n ret hh ∈ zG) : GoodIn zG (zwW y cc n ret hh) := by
  intro w hw
  rcases List.mem_cons.mp hw with rfl | hw
  · exact zG_good _ h
  · exact zG_good _ hw
def sH (l : Launch) (y : MethodName) (bytes : ByteArray) (maxL : Nat) (ret : Option FieldType) (hh : List (Nat × Nat × Nat × Nat)) (rm : Room) (mc ms : Nat) (D : va_G) (cT : Nat → ClassId) (av : List Value) (W0 : va_W) (rv : (Nat → Nat) → Option Value) (W1 : (Nat → Nat) → va_W) : Prop :=
  ∀ sz : Nat, Met l y (zwW y bytes maxL ret hh) rm (zP D cT av sz W0) (zQN D cT ret rv sz W0 W1) mc ms (va_A W0 sz)
def zCW (y : MethodName) (bytes : ByteArray) (maxL : Nat) (ret : Option FieldType) (hh : List (Nat × Nat × Nat × Nat)) (np : Nat) : Prop := Cond.codeWith y bytes maxL ret hh ∈ zG ∧ Cond.initialized y.cls ∈ zG ∧ (y.cls ≠ "java/lang/invoke/MethodHandle" ∧ y.cls ≠ "java/lang/invoke/VarHandle" ∧ (parseMethodDescriptor y.desc).map (fun d => d.parameters.length) = some np)
theorem zMetH {l : Launch} {y : MethodName} {ws ws' : List Cond} {rm : Room} {Pc : Array Value → State → Prop} {Qc : Array Value → State → Outcome → State → Prop} {mc ms : Nat} {free : Addr → Prop} {cc : ByteArray} {maxL : Nat} {ret : Option FieldType} {hh : List (Nat × Nat × Nat × Nat)}
    (hy : plainName y.cls = true) (hw : ws = Cond.codeWith y cc maxL ret hh :: ws')
    (body : ∀ p e s m args below meth c s₁, BodyLoose p l y (headSpec ws rm) cc maxL ret e s m args below meth c s₁ → c.maxLocals = maxL → Pc args s →
      W p l e (headSpec ws rm).room s m args below meth c s.heap [] 0 0 (MQ below Qc args s mc ms free) (entryFrame m args maxL)) : Met l y ws rm Pc Qc mc ms free := by
  refine MetFree.of_bodyS (code := cc) (maxLocals := maxL) (ret := ret) hy ?_ ?_
  · intro args s m h hn
    obtain ⟨m9, meth, c, hn9, h1, h2, h3, h4, -, h5, h6, -⟩ := Cond.codeWith_spec (atoms_spec (ws := ws) h _ (by rw [hw]; exact List.mem_cons_self))
    cases hn.symm.trans hn9
    exact ⟨meth, c, h1, h2, h3, h4, h5, h6⟩
  · intro p e s m args below meth c s₁ B hml hP _
    have hh0 : s₁.heap = s.heap := by rw [B.state]; rfl
    obtain ⟨t, a1, o, b1, b2, b3⟩ := body p e s m args below meth c s₁ B hml hP s₁ hh0 (Stand.of_body B)
    exact ⟨t, o, a1, b1, b2, b3⟩
theorem sH_int {l : Launch} {y : MethodName} {bytes : ByteArray} {maxL mc ms : Nat} {hh : List (Nat × Nat × Nat × Nat)} {rm : Room} {D : va_G} {cT : Nat → ClassId} {av : List Value} {W0 : va_W} {rv : (Nat → Nat) → Option Value} {W1 : (Nat → Nat) → va_W} (hy : plainName y.cls = true) (hlen : (lg_sl av).length ≤ maxL)
    (body : ∀ X : sX, sC X rm D cT maxL bytes y.cls → zTab X hh → (∀ (pc : Nat) (L : List (Nat × Value)) (x : Int32) (u : Nat → Nat), decode bytes pc = .ok (.ireturn, 1) → some (Value.int x) = rv u → sW X l rm D maxL mc ms pc L [.int x] (W1 u)) → sW X l rm D maxL 0 0 0 (lv_args 0 av) [] W0) : sH l y bytes maxL (some .int) hh rm mc ms D cT av W0 rv W1 := by
  intro sz
  refine zMetH (cc := bytes) (maxL := maxL) (ret := some .int) (hh := hh) hy rfl ?_
  intro p e s m args below meth c s₁ B hml hv
  obtain ⟨rfl, hsz, hP, hK, hD0, hF0, hN0⟩ := hv
  subst hsz
  have hts := atoms_spec (ws := zwW y bytes maxL (some .int) hh) B.pre
  have hown : s.vm.findClass y.cls = some m.cls := findClass_of_methodNamed B.named
  have hA : ∀ q : Nat, s.heap.size ≤ q → va_A W0 s.heap.size q := fun q h => Or.inr h
  have hlocks := B.notSynchronized
  have hx := B.exec
  have hb := B.bytes
  have hr := B.returns
  have hTb : c.exceptionTable.toList = tableOf hh := vx_table (x := y) B (hts _ List.mem_cons_self)
  have key := body (p, e, s, m, av.toArray, below, meth, c, MQ below (zQN D cT (some .int) rv s.heap.size W0 W1) av.toArray s mc ms (va_A W0 s.heap.size), va_A W0 s.heap.size) ⟨⟨hx, hb, hml, hown, fun w hw => hts w (List.mem_cons_of_mem _ hw)⟩, hK, hA, hlocks, hF0, hN0⟩ hTb ?_
  · rw [lg_entry_eq]
    exact key s.heap [] _ hP hD0.self va_S.rf (lv_entry av hlen)
  · intro pc L x u hdg hv H locs ls hP1 hD1 hS hl
    exact W.iret hx hb hr (fun t ht hW => ⟨⟨u, by rw [← hv], (fun v e1 ty e2 => by rw [← hv] at e1; cases e1; cases e2; rfl), by rw [ht]; exact hP1, va_K.moved hW.alike hK, hD1⟩, hS.F ht⟩) hS.2.2 hdg
section LB
variable {X : sX} {l : Launch} {R : Room} {D : va_G} {cT : Nat → ClassId} {nL k n pc : Nat} {cc : ByteArray} {own : String} {L : List (Nat × Value)} {st : List Value} {ws : va_W}
theorem xt_callV (C : sC X R D cT nL cc own) {index b maxL np mc ms : Nat} {y : MethodName} {bytes : ByteArray} {ret : Option FieldType} {rm : Room} {As : List Value} {W0 : va_W} {E : String} {st0 : List Value} {ci qr : Nat} {T : u_T} {N : Nat} {fs : List Value}
    (hM : sT l y bytes maxL ret rm mc ms D cT (.ref b :: As) W0 E) (hc : zC y bytes maxL ret np) (hml : Cond.methodLink own index y ∈ zG) (hi : zI y) (hR : zRmN rm R maxL mc ms) (hk : k + mc ≤ R.cells ∧ n + ms ≤ R.slots) (hnp : As.length = np)
    (isC : List Nat) (hC : isC.map (fun i => ws[i]?) = W0.map some) (hn : va_nd isC = true)
    (hcl : vwQ[ci]? = some (y.cls, T, N)) (hqr : ws[qr]? = some (b, .inr (ci, fs))) (hst : st0 = As.reverse ++ .ref b :: st) (hroom : (st.map fun v => v.category).sum ≤ 8)
    (hdg : decode cc pc = .ok (.invokevirtual index, 3)) (kk : zXW X l R D nL (k + mc) (n + ms) pc L st ws E) : sW X l R D nL k n pc L st0 ws := by
  obtain ⟨p, e, s, m, args, below, meth, c, Q, A⟩ := X
  intro H locs ls hP hD hS hl
  subst hst
  have hF := va_free (wc := W0) hD hS C.2.2.1 isC hC
  have hPc := zsubP hP isC hC
  have hDc := hD.sub isC hn hC
  have hpre : PreV s H y.cls b (zP D cT (.ref b :: As) H.size W0) As := ⟨zP_blind, va_recv C.2.1 hP hcl hqr, fun U hU hW => ⟨rfl, by rw [hU], by rw [hU]; exact hPc, va_K.moved hW.alike C.2.1, hDc.weaken (fun _ _ _ _ => trivial), by rw [hU]; exact zF_move C.2.2.2.2.1 hS hW hF, zH_move C.2.2.2.2.2 hW⟩⟩
  have hroom' : 2 * (F0 m pc ls (As.reverse ++ .ref b :: st)).monitorRoom + (st.map fun v => v.category).sum ≤ 8 := lv_room hroom
  refine z_afterT (mc := mc) (ms := ms) (W0 := W0) (E := E) (D := D) (cT := cT) (a := (Value.ref b :: As).toArray) (rest := st) ?_ hS hF (fun ce q9 H1 locs1 hP1 hs1 hk1 hS1 h1 h2 h3 => ?_)
  · exact vx_runV C.1 (hM H.size) ⟨callB_of np C.1.2.2.2.2 (zw_good hc.1) rfl hR.1 hR.2.1 (C.1.2.2.2.2 _ hc.2.1) (C.1.2.2.2.2 _ hml) hc.2.2 hR.2.2, C.1.2.2.2.2 _ hi.1, C.1.2.2.2.2 _ hi.2⟩ hpre rfl hnp hl.1 rfl hroom' hdg hk
  · exact kk H1 locs1 ls ce q9 (z_worldR hP hD isC hC hk1 hP1) hD hS1 hl h1 h2 h3
theorem zXW_out {mc ms : Nat} {E : String} (C : sC X R D cT nL cc own) (TX : zTX X D cT mc ms E ws) (hk : k ≤ mc) (hn : n ≤ ms) : zXW X l R D nL k n pc L st ws E := by
  obtain ⟨p, e, s, m, args, below, meth, c, Q, A⟩ := X
  intro H locs ls ce q9 hP hD hS hl h1 h2 h3
  obtain ⟨rfl, rfl, hex⟩ := TX
  exact vx_out (fun x hx => (hex x hx).elim) C.2.2.2.1 h1 h2 h3 (fun t ht ha => ⟨rfl, by rw [ht]; exact hP, va_K.moved ha C.2.1, hD, hS.F ht⟩) hS.2.2 hk hn
theorem zXW_catch (C : sC X R D cT nL cc own) {hh : List (Nat × Nat × Nat × Nat)} (hT : zTab X hh) {E name : String} (pre : List (Nat × Nat × Nat × Nat)) (x : Nat × Nat × Nat × Nat) (suf : List (Nat × Nat × Nat × Nat)) (hsplit : hh = pre ++ x :: suf)
    (hpass : ∀ z ∈ pre, z.2.2.2 ≠ 0 ∧ ∃ nm : String, Cond.classLink own z.2.2.2 nm ∈ zG ∧ (E, nm) ∈ zNcs) (hx : covers ⟨x.1, x.2.1, x.2.2.1, x.2.2.2⟩ pc = true) (h0 : x.2.2.2 ≠ 0) (hlink : Cond.classLink own x.2.2.2 name ∈ zG) (hcast : Cond.castable E name ∈ zG ∨ Cond.castable E name ∈ zH)
    (kk : ∀ q9 : Nat, sW X l R D nL k n x.2.2.1 L [.ref q9] ws) : zXW X l R D nL k n pc L st ws E := by
  have hct := zhts C hcast
  obtain ⟨p, e, s, m, args, below, meth, c, Q, A⟩ := X
  intro H locs ls ce q9 hP hD hS hl h1 h2 h3
  have hT' : c.exceptionTable.toList = (tableOf pre) ++ (⟨x.1, x.2.1, x.2.2.1, x.2.2.2⟩ : ExceptionTableEntry) :: tableOf suf := by
    have h : c.exceptionTable.toList = tableOf hh := hT
    rw [h, hsplit]
    simp [tableOf]
  refine vx_catch (own := own) (name := name) (E := E) C.1.2.2.2.1 (tableOf pre) _ (tableOf suf) hT' (fun z hz => ?_) hx h0 (C.1.2.2.2.2 _ hlink) hct h1 h2 h3 (kk q9 H locs ls hP hD hS hl)
  obtain ⟨q, hq, rfl⟩ := List.mem_map.mp hz
  obtain ⟨h4, nm, h5, h6⟩ := hpass q hq
  exact Or.inr ⟨h4, nm, C.1.2.2.2.2 _ h5, C.2.2.2.2.1.2.2.2.2.2.2.2.2.2.2.1 _ h6⟩
theorem xi_scrlen (C : sC X R D cT nL cc own) {b N : Nat} {xs : Nat → Int32} (S : zScr X b N xs) (hdg : decode cc pc = .ok (.arraylength, 1)) (kk : sW X l R D nL k n (pc + 1) L (.int (Int32.ofNat N) :: st) ws) : sW X l R D nL k n pc L (.ref b :: st) ws := by
  obtain ⟨p, e, s, m, args, below, meth, c, Q, A⟩ := X
  intro H locs ls hP hD hS hl
  exact va_slen C.1.1 C.1.2.1 S.1 S.2.1 S.2.2 hS hdg (kk H locs ls hP hD hS hl)
theorem xi_scrld (C : sC X R D cT nL cc own) {b N : Nat} {xs : Nat → Int32} (S : zScr X b N xs) {i : Int32} (hin : vp_in i N) (hdg : decode cc pc = .ok (.iaload, 1)) (kk : sW X l R D nL k n (pc + 1) L (.int (xs i.toNatClampNeg) :: st) ws) : sW X l R D nL k n pc L (.int i :: .ref b :: st) ws := by
  obtain ⟨p, e, s, m, args, below, meth, c, Q, A⟩ := X
  intro H locs ls hP hD hS hl
  exact va_sld C.1.1 C.1.2.1 S.1 S.2.1 S.2.2 hS hin hdg (kk H locs ls hP hD hS hl)
theorem zCSW (C : sC X R D cT nL cc own) {index maxL np mc ms : Nat} {y : MethodName} {bytes : ByteArray} {ret : Option FieldType} {hh : List (Nat × Nat × Nat × Nat)} {rm : Room} (hc : zCW y bytes maxL ret hh np) (hml : Cond.methodLink own index y ∈ zG) (hi : Cond.static y ∈ zG) (hR : zRmN rm R maxL mc ms) : match X with
    | (_, _, s, _, args, _, _, _, _, _) => vx_CSW R s args own index y bytes maxL ret hh (zwW y bytes maxL ret hh) rm mc ms np := by
  obtain ⟨p, e, s, m, args, below, meth, c, Q, A⟩ := X
  refine ⟨⟨hR.1, hR.2.1, hR.2.2.1, hR.2.2.2, pay_in C.1.2.2.2.2 (zwW_good hc.1), List.mem_cons_self⟩, C.1.2.2.2.2 _ hc.1, C.1.2.2.2.2 _ hc.2.1, ⟨hc.2.2.1, hc.2.2.2.1⟩, fun sig h => ?_, C.1.2.2.2.2 _ hml, C.1.2.2.2.2 _ hi⟩
  have h2 := hc.2.2.2.2
  rw [h] at h2
  exact (Option.some.inj h2).symm
/-- a call of the law's own method, its world by places -/
theorem xi_callSH (C : sC X R D cT nL cc own) {index maxL np mc ms : Nat} {y : MethodName} {bytes : ByteArray} {ret : Option FieldType} {hh : List (Nat × Nat × Nat × Nat)} {rm : Room} {As : List Value} {W0 W1 ws2 : va_W} {rv : Option Value} {st0 : List Value}
    (hM : sH l y bytes maxL ret hh rm mc ms D cT As W0 (fun _ => rv) (fun _ => W1)) (hc : zCW y bytes maxL ret hh np) (hml : Cond.methodLink own index y ∈ zG) (hi : Cond.static y ∈ zG) (hR : zRmN rm R maxL mc ms) (hk : k + mc ≤ R.cells ∧ n + ms ≤ R.slots) (hnp : As.length = np)
    (isC : List Nat) (hC : isC.map (fun i => ws[i]?) = W0.map some) (hn : va_nd isC = true) (hlen : isC.length = W1.length) (js : List (Option Nat)) (hck : zck isC js = true) (hj : zmix js ws W1 = ws2)
    (hst : st0 = As.reverse ++ st) (hroom : (st.map fun v => v.category).sum ≤ 8)
    (hdg : decode cc pc = .ok (.invokestatic index, 3)) (kk : sW X l R D nL (k + mc) (n + ms) (pc + 3) L (rv.toList ++ st) ws2) : sW X l R D nL k n pc L st0 ws := by
  have hcsw := zCSW (index := index) C hc hml hi hR
  obtain ⟨p, e, s, m, args, below, meth, c, Q, A⟩ := X
  intro H locs ls hP hD hS hl
  subst hst
  have hF := va_free (wc := W0) hD hS C.2.2.1 isC hC
  have hPc := zsubP hP isC hC
  have hDc := hD.sub isC hn hC
  have hpre : PreS s H (zP D cT As H.size W0) As := ⟨zP_blind, fun U hU hW => ⟨rfl, by rw [hU], by rw [hU]; exact hPc, va_K.moved hW.alike C.2.1, hDc.weaken (fun _ _ _ _ => trivial), by rw [hU]; exact zF_move C.2.2.2.2.1 hS hW hF, zH_move C.2.2.2.2.2 hW⟩⟩
  have hroom' : 2 * (F0 m pc ls (As.reverse ++ st)).monitorRoom + (st.map fun v => v.category).sum ≤ 8 := lv_room hroom
  refine z_afterN (mc := mc) (ms := ms) (W0 := W0) (W1 := fun _ => W1) (rv := fun _ => rv) (ret := ret) (D := D) (cT := cT) (a := As.toArray) (rest := st) ?_ hS hF (fun u H1 locs1 hz hP1 hD1 hs1 hk1 hS1 => ?_)
  · exact vx_runSW C.1 (hM H.size) hcsw hpre rfl hnp hl.1 rfl hroom' hdg hk
  · obtain ⟨h1, h2⟩ := z_world hP hD isC hC hlen js hck hj hk1 hF hP1 hD1
    exact kk H1 locs1 ls h1 h2 hS1 hl
theorem xi_callSHN (C : sC X R D cT nL cc own) {index maxL np mc ms : Nat} {y : MethodName} {bytes : ByteArray} {ret : Option FieldType} {hh : List (Nat × Nat × Nat × Nat)} {rm : Room} {As : List Value} {W0 Wr : va_W} {W1 : (Nat → Nat) → va_W} {rv : (Nat → Nat) → Option Value} {st0 : List Value}
    (hM : sH l y bytes maxL ret hh rm mc ms D cT As W0 rv W1) (hc : zCW y bytes maxL ret hh np) (hml : Cond.methodLink own index y ∈ zG) (hi : Cond.static y ∈ zG) (hR : zRmN rm R maxL mc ms) (hk : k + mc ≤ R.cells ∧ n + ms ≤ R.slots) (hnp : As.length = np)
    (isC isR : List Nat) (hC : isC.map (fun i => ws[i]?) = W0.map some) (hn : va_nd isC = true) (hRr : isR.map (fun i => ws[i]?) = Wr.map some) (hnR : va_nd isR = true) (hdis : isR.all (fun i => !isC.contains i) = true)
    (hst : st0 = As.reverse ++ st) (hroom : (st.map fun v => v.category).sum ≤ 8)
    (hdg : decode cc pc = .ok (.invokestatic index, 3)) (kk : ∀ u : Nat → Nat, sW X l R D nL (k + mc) (n + ms) (pc + 3) L ((rv u).toList ++ st) (Wr ++ W1 u)) : sW X l R D nL k n pc L st0 ws := by
  have hcsw := zCSW (index := index) C hc hml hi hR
  obtain ⟨p, e, s, m, args, below, meth, c, Q, A⟩ := X
  intro H locs ls hP hD hS hl
  subst hst
  have hF := va_free (wc := W0) hD hS C.2.2.1 isC hC
  have hPc := zsubP hP isC hC
  have hDc := hD.sub isC hn hC
  have hpre : PreS s H (zP D cT As H.size W0) As := ⟨zP_blind, fun U hU hW => ⟨rfl, by rw [hU], by rw [hU]; exact hPc, va_K.moved hW.alike C.2.1, hDc.weaken (fun _ _ _ _ => trivial), by rw [hU]; exact zF_move C.2.2.2.2.1 hS hW hF, zH_move C.2.2.2.2.2 hW⟩⟩
  have hroom' : 2 * (F0 m pc ls (As.reverse ++ st)).monitorRoom + (st.map fun v => v.category).sum ≤ 8 := lv_room hroom
  refine z_afterN (mc := mc) (ms := ms) (W0 := W0) (W1 := W1) (rv := rv) (ret := ret) (D := D) (cT := cT) (a := As.toArray) (rest := st) ?_ hS hF (fun u H1 locs1 hz hP1 hD1 hs1 hk1 hS1 => ?_)
  · exact vx_runSW C.1 (hM H.size) hcsw hpre rfl hnp hl.1 rfl hroom' hdg hk
  · obtain ⟨h1, h2⟩ := va_join (wr := Wr) hP hD isC isR hC hRr hnR (fun i hi hc => by
      have := List.all_eq_true.mp hdis i hi
      rw [List.contains_iff_mem.mpr hc] at this
      cases this) hk1 hF hP1 hD1
    exact kk u H1 locs1 ls h1 h2 hS1 hl
/-- the same where the rounds' cells stand behind -/
theorem xi_callSHNp (C : sC X R D cT nL cc own) {index maxL np mc ms : Nat} {y : MethodName} {bytes : ByteArray} {ret : Option FieldType} {hh : List (Nat × Nat × Nat × Nat)} {rm : Room} {As : List Value} {pl W0 Wr : va_W} {W1 pl1 : (Nat → Nat) → va_W} {rv : (Nat → Nat) → Option Value} {st0 : List Value}
    (hM : sH l y bytes maxL ret hh rm mc ms D cT As (W0 ++ pl) rv (fun u => W1 u ++ pl1 u)) (hc : zCW y bytes maxL ret hh np) (hml : Cond.methodLink own index y ∈ zG) (hi : Cond.static y ∈ zG) (hR : zRmN rm R maxL mc ms) (hk : k + mc ≤ R.cells ∧ n + ms ≤ R.slots) (hnp : As.length = np)
    (isC isR : List Nat) (hC : isC.map (fun i => ws[i]?) = W0.map some) (hn : va_nd isC = true) (hRr : isR.map (fun i => ws[i]?) = Wr.map some) (hnR : va_nd isR = true) (hdis : isR.all (fun i => !isC.contains i && decide (i < ws.length)) = true)
    (hst : st0 = As.reverse ++ st) (hroom : (st.map fun v => v.category).sum ≤ 8)
    (hdg : decode cc pc = .ok (.invokestatic index, 3)) (kk : ∀ u : Nat → Nat, sW X l R D nL (k + mc) (n + ms) (pc + 3) L ((rv u).toList ++ st) ((Wr ++ W1 u) ++ pl1 u)) : sW X l R D nL k n pc L st0 (ws ++ pl) := by
  refine xi_callSHN (Wr := Wr) C hM hc hml hi hR hk hnp (isC ++ List.range' ws.length pl.length) isR (zpoolC hC) (zpoolN hC hn) ?_ hnR ?_ hst hroom hdg (fun u => ?_)
  · rw [← hRr]
    apply List.map_congr_left
    intro i hi
    have h := List.all_eq_true.mp hdis i hi
    rw [Bool.and_eq_true] at h
    exact List.getElem?_append_left (of_decide_eq_true h.2)
  · apply List.all_eq_true.mpr
    intro i hi
    have h := List.all_eq_true.mp hdis i hi
    rw [Bool.and_eq_true] at h
    have h2 := of_decide_eq_true h.2
    have h1 := h.1
    simp only [Bool.not_eq_true'] at h1 ⊢
    rw [Bool.eq_false_iff] at h1 ⊢
    intro hc
    rcases List.mem_append.mp (List.contains_iff_mem.mp hc) with hc | hc
    · exact h1 (List.contains_iff_mem.mpr hc)
    · have := List.mem_range'.mp hc
      omega
  · rw [← List.append_assoc]
    exact kk u
end LB
def tsel (t a : Option Unit) : Option Unit := match t with
  | some _ => some ()
  | none => a
theorem tselE {t a : Option Unit} {r : Unit} (h : tsel t a = some r) : t = some () ∨ a = some r := by
  cases t with
  | none => exact Or.inr h
  | some u => exact Or.inl rfl
