/-! methods that make cells: the addresses come as u 0, u 1 .. -/
def zQN (D : va_G) (cT : Nat → ClassId) (ret : Option FieldType) (rv : (Nat → Nat) → Option Value) (sz : Nat) (W0 : va_W) (W1 : (Nat → Nat) → va_W) : Array Value → State → Outcome → State → Prop := fun _ st o t => (∃ u : Nat → Nat, o = .returned (rv u) ∧ zN ret (rv u) ∧ va_P D vwQ (W1 u) t.heap ∧ va_K D vwQ (zT cT) t ∧ va_D (va_A W0 sz) (W1 u)) ∧ va_F (va_A W0 sz) st t
def sN (l : Launch) (y : MethodName) (bytes : ByteArray) (maxL : Nat) (ret : Option FieldType) (rm : Room) (mc ms : Nat) (D : va_G) (cT : Nat → ClassId) (av : List Value) (W0 : va_W) (rv : (Nat → Nat) → Option Value) (W1 : (Nat → Nat) → va_W) : Prop :=
  ∀ sz : Nat, Met l y (zw y bytes maxL ret) rm (zP D cT av sz W0) (zQN D cT ret rv sz W0 W1) mc ms (va_A W0 sz)
def zRA (k mc ms : Nat) : Room := { frames := 4 * k, cells := mc, slots := ms, locals := 100 * k }
def zIn (X : sX) : Prop := match X with
  | (_, _, _, _, _, _, meth, _, _, _) => meth.name = "<init>"
section OFN
variable {l : Launch} {y : MethodName} {bytes : ByteArray} {maxL mc ms : Nat} {rm : Room} {D : va_G} {cT : Nat → ClassId} {av : List Value} {W0 : va_W} {rv : (Nat → Nat) → Option Value} {W1 : (Nat → Nat) → va_W}
theorem sN_void (hy : plainName y.cls = true) (hlen : (lg_sl av).length ≤ maxL) (body : ∀ X : sX, sC X rm D cT maxL bytes y.cls → (y.name = "<init>" → zIn X) → (∀ (pc : Nat) (L : List (Nat × Value)) (u : Nat → Nat), decode bytes pc = .ok (.return_, 1) → none = rv u → sW X l rm D maxL mc ms pc L [] (W1 u)) → sW X l rm D maxL 0 0 0 (lv_args 0 av) [] W0) : sN l y bytes maxL none rm mc ms D cT av W0 rv W1 := by
  intro sz
  refine Met.ofW (cc := bytes) (maxL := maxL) (ret := none) hy rfl ?_
  intro p e s m args below meth c s₁ B hml hv
  obtain ⟨rfl, hsz, hP, hK, hD0, hF0, hN0⟩ := hv
  subst hsz
  have hts := atoms_spec (ws := zw y bytes maxL none) B.pre
  have hown : s.vm.findClass y.cls = some m.cls := findClass_of_methodNamed B.named
  have hA : ∀ q : Nat, s.heap.size ≤ q → va_A W0 s.heap.size q := fun q h => Or.inr h
  have hlocks := B.notSynchronized
  have hx := B.exec
  have hb := B.bytes
  have hr := B.returns
  have key := body (p, e, s, m, av.toArray, below, meth, c, MQ below (zQN D cT none rv s.heap.size W0 W1) av.toArray s mc ms (va_A W0 s.heap.size), va_A W0 s.heap.size) ⟨⟨hx, hb, hml, hown, fun w hw => hts w (List.mem_cons_of_mem _ hw)⟩, hK, hA, hlocks, hF0, hN0⟩ (fun hn => ((name_of_methodNamed B.named B.method).1).trans hn) ?_
  · rw [lg_entry_eq]
    exact key s.heap [] _ hP hD0.self va_S.rf (lv_entry av hlen)
  · intro pc L u hdg hv H locs ls hP1 hD1 hS hl
    exact W.vret hx hb hr (fun t ht hW => ⟨⟨u, by rw [hv], (fun v e1 => by rw [← hv] at e1; cases e1), by rw [ht]; exact hP1, va_K.moved hW.alike hK, hD1⟩, hS.F ht⟩) hS.2.2 hdg
theorem sN_int (hy : plainName y.cls = true) (hlen : (lg_sl av).length ≤ maxL) (body : ∀ X : sX, sC X rm D cT maxL bytes y.cls → (∀ (pc : Nat) (L : List (Nat × Value)) (x : Int32) (u : Nat → Nat), decode bytes pc = .ok (.ireturn, 1) → some (Value.int x) = rv u → sW X l rm D maxL mc ms pc L [.int x] (W1 u)) → sW X l rm D maxL 0 0 0 (lv_args 0 av) [] W0) : sN l y bytes maxL (some .int) rm mc ms D cT av W0 rv W1 := by
  intro sz
  refine Met.ofW (cc := bytes) (maxL := maxL) (ret := some .int) hy rfl ?_
  intro p e s m args below meth c s₁ B hml hv
  obtain ⟨rfl, hsz, hP, hK, hD0, hF0, hN0⟩ := hv
  subst hsz
  have hts := atoms_spec (ws := zw y bytes maxL (some .int)) B.pre
  have hown : s.vm.findClass y.cls = some m.cls := findClass_of_methodNamed B.named
  have hA : ∀ q : Nat, s.heap.size ≤ q → va_A W0 s.heap.size q := fun q h => Or.inr h
  have hlocks := B.notSynchronized
  have hx := B.exec
  have hb := B.bytes
  have hr := B.returns
  have key := body (p, e, s, m, av.toArray, below, meth, c, MQ below (zQN D cT (some .int) rv s.heap.size W0 W1) av.toArray s mc ms (va_A W0 s.heap.size), va_A W0 s.heap.size) ⟨⟨hx, hb, hml, hown, fun w hw => hts w (List.mem_cons_of_mem _ hw)⟩, hK, hA, hlocks, hF0, hN0⟩ ?_
  · rw [lg_entry_eq]
    exact key s.heap [] _ hP hD0.self va_S.rf (lv_entry av hlen)
  · intro pc L x u hdg hv H locs ls hP1 hD1 hS hl
    exact W.iret (v := x) hx hb hr (fun t ht hW => ⟨⟨u, by rw [hv], (fun v e1 ty e2 => by rw [← hv] at e1; cases e1; cases e2; rfl), by rw [ht]; exact hP1, va_K.moved hW.alike hK, hD1⟩, hS.F ht⟩) hS.2.2 hdg
end OFN
section CallsN
variable {p : Program} {l : Launch} {e : Env} {R : Room} {s : State} {m : MethodId} {args : Array Value} {below : List Frame} {meth : Method} {c : Code} {H : Heap} {locs : List Loc} {cells slots : Nat} {Q : State → Prop}
theorem z_afterN {D : va_G} {cT : Nat → ClassId} {ret : Option FieldType} {rv : (Nat → Nat) → Option Value} {W0 : va_W} {W1 : (Nat → Nat) → va_W} {mc ms pc : Nat} {ls : Array Slot} {rest st0 : List Value} {a : Array Value} {A0 : Nat → Prop} {H0 : Heap} (hr : va_Run p l e R s m args below meth c H locs cells slots mc ms (F0 m pc ls st0) rest (zQN D cT ret rv H.size W0 W1 a) (va_A W0 H.size)) (hS : va_S A0 H0 H locs) (hF : ∀ q, va_A W0 H.size q → A0 q)
    (kk : ∀ (u : Nat → Nat) (H1 : Heap) (locs1 : List Loc), zN ret (rv u) → va_P D vwQ (W1 u) H1 → va_D (va_A W0 H.size) (W1 u) → H.size ≤ H1.size → (∀ q : Nat, q < H.size → ¬ va_A W0 H.size q → H1[q]? = H[q]?) → va_S A0 H0 H1 locs1 → W p l e R s m args below meth c H1 locs1 (cells + mc) (slots + ms) Q (F0 m (pc + 3) ls ((rv u).toList ++ rest))) : W p l e R s m args below meth c H locs cells slots Q (F0 m pc ls st0) := by
  intro T hT X
  obtain ⟨v, st₀, t, T', L, h0, X', hL, e1, e2, ⟨⟨u, hv, hz, hP, hK, hD⟩, hF1⟩, st⟩ := hr T hT X
  cases hv
  obtain ⟨hs, hk⟩ := hF1
  rw [h0] at hs hk
  obtain ⟨t2, a1, b1⟩ := kk u T'.heap (locs ++ L) hz (by rw [e1]; exact hP) hD (by rw [e1]; exact hs) (fun q h1 h2 => by rw [e1]; exact hk q h1 h2)
    ⟨Nat.le_trans hS.1 (by rw [e1]; exact hs), fun q h1 h2 => by rw [e1, hk q (Nat.lt_of_lt_of_le h1 hS.1) (fun z => h2 (hF q z))]; exact hS.2.1 q h1 h2, fun q hq => by
      rcases List.mem_append.mp hq with h | h
      · exact hS.2.2 q h
      · exact hF _ (hL q h)⟩ T' rfl X'
  exact ⟨t2, st t2 a1, b1⟩
end CallsN
def zRmN (rm R : Room) (maxL mc ms : Nat) : Prop := rm.cells = mc ∧ rm.slots = ms ∧ rm.frames + 1 ≤ R.frames ∧ 8 + (maxL + 11) + rm.locals ≤ R.locals
theorem zrA {a b m mc ms c d : Nat} (h : Nat.blt a b = true) (hm : Nat.ble m 80 = true) : zRmN (zRA a mc ms) (zRA b c d) m mc ms := by
  have h1 : a < b := Nat.blt_eq.mp h
  have h2 : m ≤ 80 := Nat.le_of_ble_eq_true hm
  refine ⟨rfl, rfl, ?_, ?_⟩ <;> simp only [zRA] <;> omega
theorem zrM {a b m c d : Nat} (h : Nat.blt a b = true) (hm : Nat.ble m 80 = true) : zRm (zR a) (zRA b c d) m := by
  have h1 : a < b := Nat.blt_eq.mp h
  have h2 : m ≤ 80 := Nat.le_of_ble_eq_true hm
  refine ⟨rfl, rfl, ?_, ?_⟩ <;> simp only [zRA, zR] <;> omega
section RowsN
variable {X : sX} {l : Launch} {R : Room} {D : va_G} {cT : Nat → ClassId} {nL k n pc : Nat} {cc : ByteArray} {own : String} {L : List (Nat × Value)} {st : List Value} {ws : va_W}
theorem xi_wide {k2 n2 : Nat} (h1 : k ≤ k2) (h2 : n ≤ n2) (kk : sW X l R D nL k2 n2 pc L st ws) : sW X l R D nL k n pc L st ws := by
  obtain ⟨p, e, s, m, args, below, meth, c, Q, A⟩ := X
  intro H locs ls hP hD hS hl
  exact W.widen h1 h2 (kk H locs ls hP hD hS hl)
theorem xi_objinit (C : sC X R D cT nL cc own) {a idx : Nat} (hlink : Cond.methodLink own idx objectInit ∈ zG) (hinst : Cond.instanceMethod objectInit ∈ zG) (hcode : Cond.code objectInit ⟨#[0xb1]⟩ 1 none ∈ zG) (hf : 1 ≤ R.frames ∧ 20 ≤ R.locals) (hroom : (st.map fun v => v.category).sum ≤ 8) (hdg : decode cc pc = .ok (.invokespecial idx, 3)) (kk : sW X l R D nL k n (pc + 3) L st ws) : sW X l R D nL k n pc L (.ref a :: st) ws := by
  obtain ⟨p, e, s, m, args, below, meth, c, Q, A⟩ := X
  intro H locs ls hP hD hS hl
  exact W.objInit C.1.1 C.1.2.1 C.1.2.2.2.1 (C.1.2.2.2.2 _ hlink) (C.1.2.2.2.2 _ hinst) (C.1.2.2.2.2 _ hcode) rfl (hl.1.trans C.1.2.2.1.symm) rfl hdg hf.1 (by show 2 * 0 + _ + 12 ≤ _; have := hf.2; omega) (kk H locs ls hP hD hS hl)
theorem xi_new (C : sC X R D cT nL cc own) {ci index : Nat} {Cn : String} {T : u_T} {N : Nat} {ty : Nat → FieldType} (fs : List Value) (K : zK ci Cn T N ty) (hcl : Cond.classLink own index Cn ∈ zG) (hinst : Cond.instantiable Cn N ∈ zG) (hini : Cond.initialized Cn ∈ zG) (hfs : ∀ j, j < N → defaultValue (ty j) = vp_V fs j) (hcells : k + 1 ≤ R.cells) (hslots : n + N ≤ R.slots) (hdg : decode cc pc = .ok (.new index, 3)) (kk : ∀ q : Nat, sW X l R D nL (k + 1) (n + N) (pc + 3) L (.ref q :: st) (ws ++ [(q, .inr (ci, fs))])) : sW X l R D nL k n pc L st ws := by
  obtain ⟨p, e, s, m, args, below, meth, c, Q, A⟩ := X
  intro H locs ls hP hD hS hl
  exact va_new C.1.1 C.1.2.1 C.1.2.2.2.2 K.2.1 ty K.2.2.1 C.1.2.2.2.1 (C.1.2.2.2.2 _ hcl) (C.1.2.2.2.2 _ hinst) (C.1.2.2.2.2 _ hini) C.2.1 hP hD hS C.2.2.1 K.1 hfs hcells hslots hdg (fun q H1 hP1 hD1 hS1 => kk q H1 locs ls hP1 hD1 hS1 hl)
theorem xi_putF (C : sC X R D cT nL cc own) (hI : zIn X) {ci a index : Nat} {Cn : String} {T : u_T} {N : Nat} {ty : Nat → FieldType} {fs : List Value} {v : Value} {ws2 : va_W} (K : zK ci Cn T N ty) (f q : Nat) (hl0 : Cond.fieldLink own index (T f).1 (T f).2.1 (T f).2.2.1 ∈ zG) (hf : f < N) (he : ws[q]? = some (a, .inr (ci, fs))) (hfin : (T f).2.2.2 = true) (hdecl : (T f).1 = own) (hn : narrow (ty f) v = v) (hfit : fits (ty f) v = true) (hlen : f < fs.length) (hdg : decode cc pc = .ok (.putfield index, 3)) (hw : ws.set q (a, .inr (ci, fs.set f v)) = ws2) (kk : sW X l R D nL k n (pc + 3) L st ws2) : sW X l R D nL k n pc L (v :: .ref a :: st) ws := by
  obtain ⟨p, e, s, m, args, below, meth, c, Q, A⟩ := X
  intro H locs ls hP hD hS hl
  subst hw
  exact va_putF C.1.1 C.1.2.1 C.1.2.2.2.2 K.2.1 ty K.2.2.1 K.2.2.2 C.1.2.2.2.1 C.2.1 hP hD hS q he K.1 f hf (C.1.2.2.2.2 _ hl0) (fun _ h => h) hfin hI hdecl (K.2.2.1 f hf) hn hfit hlen hdg (fun H1 locs1 hP1 hD1 hS1 => kk H1 locs1 ls hP1 hD1 hS1 hl)
theorem xi_newaI (C : sC X R D cT nL cc own) {x : Int32} {N : Nat} (harr : Cond.arrayClass .int ∈ zG) (hn : ¬ x < 0) (hN : x.toNatClampNeg = N) (hb : N ≤ 10000) (hcells : k + 1 ≤ R.cells) (hslots : n + N ≤ R.slots) (hdg : decode cc pc = .ok (.newarray .int, 2)) (kk : ∀ q : Nat, sW X l R D nL (k + 1) (n + N) (pc + 2) L (.ref q :: st) (ws ++ [(q, .inl (cT 0, (N, .inl (fun _ => 0))))])) : sW X l R D nL k n pc L (.int x :: st) ws := by
  obtain ⟨p, e, s, m, args, below, meth, c, Q, A⟩ := X
  intro H locs ls hP hD hS hl
  refine va_newa (atype := .int) (a0 := (N, .inl (fun _ => 0))) (ty := .int) C.1.1 C.1.2.1 (C.1.2.2.2.2 _ harr) rfl C.2.1 hP hD hS C.2.2.1 (fun cA => rfl) hn hN (Nat.le_trans (Nat.mul_le_mul_right _ hb) (by decide)) hcells hslots hdg (fun q cA H1 hK1 hP1 hD1 hS1 => ?_)
  have e1 : s.vm.findClass ("[" ++ (FieldType.int).toString) = some (cT 0) := (C.2.1.2 0 _ rfl).2
  have e : cA = cT 0 := Option.some.inj (((hK1.2 8 _ rfl).2 : s.vm.findClass ("[" ++ (.int : FieldType).toString) = some cA).symm.trans ((C.2.1.2 0 _ rfl).2 : s.vm.findClass ("[" ++ (.int : FieldType).toString) = some (cT 0)))
  subst e
  exact kk q H1 locs ls hP1 hD1 hS1 hl
theorem xi_newaJ (C : sC X R D cT nL cc own) {x : Int32} {N : Nat} (harr : Cond.arrayClass .long ∈ zG) (hn : ¬ x < 0) (hN : x.toNatClampNeg = N) (hb : N ≤ 10000) (hcells : k + 1 ≤ R.cells) (hslots : n + N ≤ R.slots) (hdg : decode cc pc = .ok (.newarray .long, 2)) (kk : ∀ q : Nat, sW X l R D nL (k + 1) (n + N) (pc + 2) L (.ref q :: st) (ws ++ [(q, .inl (cT 1, (N, .inr (.inl (fun _ => 0)))))])) : sW X l R D nL k n pc L (.int x :: st) ws := by
  obtain ⟨p, e, s, m, args, below, meth, c, Q, A⟩ := X
  intro H locs ls hP hD hS hl
  refine va_newa (atype := .long) (a0 := (N, .inr (.inl (fun _ => 0)))) (ty := .long) C.1.1 C.1.2.1 (C.1.2.2.2.2 _ harr) rfl C.2.1 hP hD hS C.2.2.1 (fun cA => rfl) hn hN (Nat.le_trans (Nat.mul_le_mul_right _ hb) (by decide)) hcells hslots hdg (fun q cA H1 hK1 hP1 hD1 hS1 => ?_)
  have e1 : s.vm.findClass ("[" ++ (FieldType.int).toString) = some (cT 0) := (C.2.1.2 0 _ rfl).2
  have e : cA = cT 1 := Option.some.inj (((hK1.2 8 _ rfl).2 : s.vm.findClass ("[" ++ (.long : FieldType).toString) = some cA).symm.trans ((C.2.1.2 1 _ rfl).2 : s.vm.findClass ("[" ++ (.long : FieldType).toString) = some (cT 1)))
  subst e
  exact kk q H1 locs ls hP1 hD1 hS1 hl
theorem xi_newaB (C : sC X R D cT nL cc own) {x : Int32} {N : Nat} (harr : Cond.arrayClass .byte ∈ zG) (hn : ¬ x < 0) (hN : x.toNatClampNeg = N) (hb : N ≤ 10000) (hcells : k + 1 ≤ R.cells) (hslots : n + N ≤ R.slots) (hdg : decode cc pc = .ok (.newarray .byte, 2)) (kk : ∀ q : Nat, sW X l R D nL (k + 1) (n + N) (pc + 2) L (.ref q :: st) (ws ++ [(q, .inl (cT 2, (N, .inl (fun _ => 0))))])) : sW X l R D nL k n pc L (.int x :: st) ws := by
  obtain ⟨p, e, s, m, args, below, meth, c, Q, A⟩ := X
  intro H locs ls hP hD hS hl
  refine va_newa (atype := .byte) (a0 := (N, .inl (fun _ => 0))) (ty := .byte) C.1.1 C.1.2.1 (C.1.2.2.2.2 _ harr) rfl C.2.1 hP hD hS C.2.2.1 (fun cA => rfl) hn hN (Nat.le_trans (Nat.mul_le_mul_right _ hb) (by decide)) hcells hslots hdg (fun q cA H1 hK1 hP1 hD1 hS1 => ?_)
  have e1 : s.vm.findClass ("[" ++ (FieldType.int).toString) = some (cT 0) := (C.2.1.2 0 _ rfl).2
  have e : cA = cT 2 := Option.some.inj (((hK1.2 8 _ rfl).2 : s.vm.findClass ("[" ++ (.byte : FieldType).toString) = some cA).symm.trans ((C.2.1.2 2 _ rfl).2 : s.vm.findClass ("[" ++ (.byte : FieldType).toString) = some (cT 2)))
  subst e
  exact kk q H1 locs ls hP1 hD1 hS1 hl
theorem xi_newaZ (C : sC X R D cT nL cc own) {x : Int32} {N : Nat} (harr : Cond.arrayClass .boolean ∈ zG) (hn : ¬ x < 0) (hN : x.toNatClampNeg = N) (hb : N ≤ 10000) (hcells : k + 1 ≤ R.cells) (hslots : n + N ≤ R.slots) (hdg : decode cc pc = .ok (.newarray .boolean, 2)) (kk : ∀ q : Nat, sW X l R D nL (k + 1) (n + N) (pc + 2) L (.ref q :: st) (ws ++ [(q, .inl (cT 3, (N, .inl (fun _ => 0))))])) : sW X l R D nL k n pc L (.int x :: st) ws := by
  obtain ⟨p, e, s, m, args, below, meth, c, Q, A⟩ := X
  intro H locs ls hP hD hS hl
  refine va_newa (atype := .boolean) (a0 := (N, .inl (fun _ => 0))) (ty := .boolean) C.1.1 C.1.2.1 (C.1.2.2.2.2 _ harr) rfl C.2.1 hP hD hS C.2.2.1 (fun cA => rfl) hn hN (Nat.le_trans (Nat.mul_le_mul_right _ hb) (by decide)) hcells hslots hdg (fun q cA H1 hK1 hP1 hD1 hS1 => ?_)
  have e1 : s.vm.findClass ("[" ++ (FieldType.int).toString) = some (cT 0) := (C.2.1.2 0 _ rfl).2
  have e : cA = cT 3 := Option.some.inj (((hK1.2 8 _ rfl).2 : s.vm.findClass ("[" ++ (.boolean : FieldType).toString) = some cA).symm.trans ((C.2.1.2 3 _ rfl).2 : s.vm.findClass ("[" ++ (.boolean : FieldType).toString) = some (cT 3)))
  subst e
  exact kk q H1 locs ls hP1 hD1 hS1 hl
theorem xi_anewS (C : sC X R D cT nL cc own) {x : Int32} {N index : Nat} (hcl : Cond.classLink own index "NewsExchange$Situation" ∈ zG) (hn : ¬ x < 0) (hN : x.toNatClampNeg = N) (hb : N ≤ 10000) (hcells : k + 1 ≤ R.cells) (hslots : n + N ≤ R.slots) (hdg : decode cc pc = .ok (.anewarray index, 3)) (kk : ∀ q : Nat, sW X l R D nL (k + 1) (n + N) (pc + 3) L (.ref q :: st) (ws ++ [(q, .inl (cT 4, N, .inr (.inr (.inr (.inr (fun _ => none))))))])) : sW X l R D nL k n pc L (.int x :: st) ws := by
  obtain ⟨p, e, s, m, args, below, meth, c, Q, A⟩ := X
  intro H locs ls hP hD hS hl
  refine va_newq C.1.1 C.1.2.1 C.1.2.2.2.1 (C.1.2.2.2.2 _ hcl) C.2.2.2.2.1.2.2.2.2.2.2.2.1 C.2.1 hP hD hS C.2.2.1 hn hN (by omega) hcells hslots hdg (fun q cA H1 hK1 hP1 hD1 hS1 => ?_)
  obtain ⟨_, _, _, _, _, e1⟩ := (hK1.2 8 _ rfl).2
  obtain ⟨_, _, _, _, _, e2⟩ := (C.2.1.2 4 _ rfl).2
  have e : cA = cT 4 := Option.some.inj (e1.symm.trans e2)
  subst e
  exact kk q H1 locs ls hP1 hD1 hS1 hl
theorem xi_aastS (C : sC X R D cT nL cc own) {a b N ci : Nat} {g : Nat → Option Nat} {T : u_T} {M : Nat} {i : Int32} {vs : List Value} {ws2 : va_W} (q q2 : Nat) (he : ws[q]? = some (a, .inl (cT 4, N, .inr (.inr (.inr (.inr g)))))) (hv : ws[q2]? = some (b, .inr (ci, vs))) (hc : vwQ[ci]? = some ("NewsExchange$Situation", T, M)) (hin : vp_in i N) (hdg : decode cc pc = .ok (.aastore, 1)) (hw : ws.set q (a, .inl (cT 4, N, .inr (.inr (.inr (.inr (va_up g i.toNatClampNeg (some b))))))) = ws2) (kk : sW X l R D nL k n (pc + 1) L st ws2) : sW X l R D nL k n pc L (.ref b :: .int i :: .ref a :: st) ws := by
  obtain ⟨p, e, s, m, args, below, meth, c, Q, A⟩ := X
  intro H locs ls hP hD hS hl
  subst hw
  exact va_astq C.1.1 C.1.2.1 C.2.1 hP hD hS q 4 q2 ci he rfl hv hc hin hdg (fun H1 locs1 hP1 hD1 hS1 => kk H1 locs1 ls hP1 hD1 hS1 hl)
theorem xi_anewN (C : sC X R D cT nL cc own) {x : Int32} {N index : Nat} (hcl : Cond.classLink own index "NewsExchange$News" ∈ zG) (hn : ¬ x < 0) (hN : x.toNatClampNeg = N) (hb : N ≤ 10000) (hcells : k + 1 ≤ R.cells) (hslots : n + N ≤ R.slots) (hdg : decode cc pc = .ok (.anewarray index, 3)) (kk : ∀ q : Nat, sW X l R D nL (k + 1) (n + N) (pc + 3) L (.ref q :: st) (ws ++ [(q, .inl (cT 5, N, .inr (.inr (.inr (.inr (fun _ => none))))))])) : sW X l R D nL k n pc L (.int x :: st) ws := by
  obtain ⟨p, e, s, m, args, below, meth, c, Q, A⟩ := X
  intro H locs ls hP hD hS hl
  refine va_newq C.1.1 C.1.2.1 C.1.2.2.2.1 (C.1.2.2.2.2 _ hcl) C.2.2.2.2.1.2.2.2.2.2.2.2.2.1.1 C.2.1 hP hD hS C.2.2.1 hn hN (by omega) hcells hslots hdg (fun q cA H1 hK1 hP1 hD1 hS1 => ?_)
  obtain ⟨_, _, _, _, _, e1⟩ := (hK1.2 8 _ rfl).2
  obtain ⟨_, _, _, _, _, e2⟩ := (C.2.1.2 5 _ rfl).2
  have e : cA = cT 5 := Option.some.inj (e1.symm.trans e2)
  subst e
  exact kk q H1 locs ls hP1 hD1 hS1 hl
theorem xi_anewL (C : sC X R D cT nL cc own) {x : Int32} {N index : Nat} (hcl : Cond.classLink own index "NewsExchangeLaw$Line" ∈ zG) (hn : ¬ x < 0) (hN : x.toNatClampNeg = N) (hb : N ≤ 10000) (hcells : k + 1 ≤ R.cells) (hslots : n + N ≤ R.slots) (hdg : decode cc pc = .ok (.anewarray index, 3)) (kk : ∀ q : Nat, sW X l R D nL (k + 1) (n + N) (pc + 3) L (.ref q :: st) (ws ++ [(q, .inl (cT 7, N, .inr (.inr (.inr (.inr (fun _ => none))))))])) : sW X l R D nL k n pc L (.int x :: st) ws := by
  obtain ⟨p, e, s, m, args, below, meth, c, Q, A⟩ := X
  intro H locs ls hP hD hS hl
  refine va_newq C.1.1 C.1.2.1 C.1.2.2.2.1 (C.1.2.2.2.2 _ hcl) C.2.2.2.2.1.2.2.2.2.2.2.2.2.1.2 C.2.1 hP hD hS C.2.2.1 hn hN (by omega) hcells hslots hdg (fun q cA H1 hK1 hP1 hD1 hS1 => ?_)
  obtain ⟨_, _, _, _, _, e1⟩ := (hK1.2 8 _ rfl).2
  obtain ⟨_, _, _, _, _, e2⟩ := (C.2.1.2 7 _ rfl).2
  have e : cA = cT 7 := Option.some.inj (e1.symm.trans e2)
  subst e
  exact kk q H1 locs ls hP1 hD1 hS1 hl
theorem xi_aastL (C : sC X R D cT nL cc own) {a b N ci : Nat} {g : Nat → Option Nat} {T : u_T} {M : Nat} {i : Int32} {vs : List Value} {ws2 : va_W} (q q2 : Nat) (he : ws[q]? = some (a, .inl (cT 7, N, .inr (.inr (.inr (.inr g)))))) (hv : ws[q2]? = some (b, .inr (ci, vs))) (hc : vwQ[ci]? = some ("NewsExchangeLaw$Line", T, M)) (hin : vp_in i N) (hdg : decode cc pc = .ok (.aastore, 1)) (hw : ws.set q (a, .inl (cT 7, N, .inr (.inr (.inr (.inr (va_up g i.toNatClampNeg (some b))))))) = ws2) (kk : sW X l R D nL k n (pc + 1) L st ws2) : sW X l R D nL k n pc L (.ref b :: .int i :: .ref a :: st) ws := by
  obtain ⟨p, e, s, m, args, below, meth, c, Q, A⟩ := X
  intro H locs ls hP hD hS hl
  subst hw
  exact va_astq C.1.1 C.1.2.1 C.2.1 hP hD hS q 7 q2 ci he rfl hv hc hin hdg (fun H1 locs1 hP1 hD1 hS1 => kk H1 locs1 ls hP1 hD1 hS1 hl)
theorem xi_aastN (C : sC X R D cT nL cc own) {a b N ci : Nat} {g : Nat → Option Nat} {T : u_T} {M : Nat} {i : Int32} {vs : List Value} {ws2 : va_W} (q q2 : Nat) (he : ws[q]? = some (a, .inl (cT 5, N, .inr (.inr (.inr (.inr g)))))) (hv : ws[q2]? = some (b, .inr (ci, vs))) (hc : vwQ[ci]? = some ("NewsExchange$News", T, M)) (hin : vp_in i N) (hdg : decode cc pc = .ok (.aastore, 1)) (hw : ws.set q (a, .inl (cT 5, N, .inr (.inr (.inr (.inr (va_up g i.toNatClampNeg (some b))))))) = ws2) (kk : sW X l R D nL k n (pc + 1) L st ws2) : sW X l R D nL k n pc L (.ref b :: .int i :: .ref a :: st) ws := by
  obtain ⟨p, e, s, m, args, below, meth, c, Q, A⟩ := X
  intro H locs ls hP hD hS hl
  subst hw
  exact va_astq C.1.1 C.1.2.1 C.2.1 hP hD hS q 5 q2 ci he rfl hv hc hin hdg (fun H1 locs1 hP1 hD1 hS1 => kk H1 locs1 ls hP1 hD1 hS1 hl)
/-- new int[n][10]: the outer row and the inner ones -/
theorem xi_mna (C : sC X R D cT nL cc own) {x : Int32} {N index : Nat} (hcl : Cond.classLink own index "[[I" ∈ zG) (harr : Cond.arrayClass .int ∈ zG) (hn : ¬ x < 0) (hN : x.toNatClampNeg = N) (hb : N ≤ 10000) (hcells : k + (1 + N) ≤ R.cells) (hslots : n + (N + N * 10) ≤ R.slots) (hdg : decode cc pc = .ok (.multianewarray index 2, 4)) (kk : ∀ (q : Nat) (r : Nat → Nat), sW X l R D nL (k + 1 + N) (n + N + N * 10) (pc + 4) L (.ref q :: st) ((ws ++ [(q, .inl (cT 6, N, .inr (.inr (.inr (.inr (fun i => if i < N then some (r i) else none))))))]) ++ (List.range N).map (fun i => (r i, .inl (cT 0, 10, .inl (fun _ => 0)))))) : sW X l R D nL k n pc L (.int 10 :: .int x :: st) ws := by
  obtain ⟨p, e, s, m, args, below, meth, c, Q, A⟩ := X
  intro H locs ls hP hD hS hl
  have h0 : s.vm.findClass ("[" ++ (FieldType.int).toString) = some (cT 0) := (C.2.1.2 0 _ rfl).2
  refine va_mna (X := ws) (L := []) (f := fun _ => .inl (cT 0, 0, .inl (fun _ => 0))) (ty := .int) (cy := cT 0) (z := (10, .inl (fun _ => 0))) C.1.1 C.1.2.1 C.1.2.2.2.1 (C.1.2.2.2.2 _ hcl) C.2.2.2.2.1.2.2.2.2.2.2.2.2.2.1 (C.1.2.2.2.2 _ harr) h0 C.2.1 (by rw [show va_pl [] (fun _ => (Sum.inl (cT 0, 0, Sum.inl (fun _ => 0)) : va_E)) = [] from rfl, List.append_nil]; exact hP) (by rw [show va_pl [] (fun _ => (Sum.inl (cT 0, 0, Sum.inl (fun _ => 0)) : va_E)) = [] from rfl, List.append_nil]; exact hD) hS C.2.2.1 hn (by decide) hN rfl (by omega) (by decide) (by decide) rfl rfl hcells hslots (fun c => rfl) hdg (fun q r cA H1 hr hrL hK1 hP1 hD1 hS1 => ?_)
  obtain ⟨hA1, hA2⟩ := hK1.2 8 _ rfl
  have e2 : s.vm.findClass ("[" ++ (FieldType.array .int).toString) = some cA := hA2
  have e3 : s.vm.findClass ("[" ++ (FieldType.array .int).toString) = some (cT 6) := (C.2.1.2 6 _ rfl).2
  have e : cA = cT 6 := Option.some.inj (e2.symm.trans e3)
  subst e
  have epl : va_pl ([] ++ (List.range N).map r) (vr_up (fun _ => (Sum.inl (cT 0, 0, Sum.inl (fun _ => 0)) : va_E)) ((List.range N).map r) (.inl (cT 0, (10, .inl (fun _ => 0))))) = (List.range N).map (fun i => (r i, .inl (cT 0, 10, .inl (fun _ => 0)))) := by
    unfold va_pl
    rw [List.nil_append, List.map_map]
    apply List.map_congr_left
    intro i hi
    show (r i, vr_up _ _ _ (r i)) = _
    rw [vr_up_in (List.mem_map.mpr ⟨i, hi, rfl⟩)]
  rw [epl] at hP1 hD1
  exact kk q r H1 locs ls hP1 hD1 hS1 hl
/-- a call that makes cells: the rest of the world, then the callee's -/
theorem xi_callN (C : sC X R D cT nL cc own) {index b maxL np mc ms : Nat} {y : MethodName} {bytes : ByteArray} {ret : Option FieldType} {rm : Room} {As : List Value} {W0 Wr : va_W} {W1 : (Nat → Nat) → va_W} {rv : (Nat → Nat) → Option Value} {st0 : List Value} {ci qr : Nat} {T : u_T} {N : Nat} {fs : List Value}
    (hM : sN l y bytes maxL ret rm mc ms D cT (.ref b :: As) W0 rv W1) (hc : zC y bytes maxL ret np) (hml : zMl own index y) (hi : zI y) (hR : zRmN rm R maxL mc ms) (hk : k + mc ≤ R.cells ∧ n + ms ≤ R.slots) (hnp : As.length = np)
    (isC isR : List Nat) (hC : isC.map (fun i => ws[i]?) = W0.map some) (hn : va_nd isC = true) (hRr : isR.map (fun i => ws[i]?) = Wr.map some) (hnR : va_nd isR = true) (hdis : isR.all (fun i => !isC.contains i) = true)
    (hcl : vwQ[ci]? = some (y.cls, T, N)) (hqr : ws[qr]? = some (b, .inr (ci, fs))) (hst : st0 = As.reverse ++ .ref b :: st) (hroom : (st.map fun v => v.category).sum ≤ 8)
    (hdg : decode cc pc = .ok (.invokevirtual index, 3)) (kk : ∀ u : Nat → Nat, zN ret (rv u) → sW X l R D nL (k + mc) (n + ms) (pc + 3) L ((rv u).toList ++ st) (Wr ++ W1 u)) : sW X l R D nL k n pc L st0 ws := by
  obtain ⟨p, e, s, m, args, below, meth, c, Q, A⟩ := X
  intro H locs ls hP hD hS hl
  subst hst
  have hF := va_free (wc := W0) hD hS C.2.2.1 isC hC
  have hPc := zsubP hP isC hC
  have hDc := hD.sub isC hn hC
  have hpre : PreV s H y.cls b (zP D cT (.ref b :: As) H.size W0) As := ⟨zP_blind, va_recv C.2.1 hP hcl hqr, fun U hU hW => ⟨rfl, by rw [hU], by rw [hU]; exact hPc, va_K.moved hW.alike C.2.1, hDc.weaken (fun _ _ _ _ => trivial), by rw [hU]; exact zF_move C.2.2.2.2.1 hS hW hF, zH_move C.2.2.2.2.2 hW⟩⟩
  have hroom' : 2 * (F0 m pc ls (As.reverse ++ .ref b :: st)).monitorRoom + (st.map fun v => v.category).sum ≤ 8 := lv_room hroom
  refine z_afterN (mc := mc) (ms := ms) (W0 := W0) (W1 := W1) (rv := rv) (ret := ret) (D := D) (cT := cT) (a := (Value.ref b :: As).toArray) (rest := st) ?_ hS hF (fun u H1 locs1 hz hP1 hD1 hs1 hk1 hS1 => ?_)
  · rcases hml with hml | ⟨host, hml⟩
    · exact va_runV C.1 (hM H.size) ⟨callB_of np C.1.2.2.2.2 (zw_good hc.1) rfl hR.1 hR.2.1 (C.1.2.2.2.2 _ hc.2.1) (C.1.2.2.2.2 _ hml) hc.2.2 hR.2.2, C.1.2.2.2.2 _ hi.1, C.1.2.2.2.2 _ hi.2⟩ hpre rfl hnp hl.1 rfl hroom' hdg hk
    · exact va_runVN C.1 (hM H.size) ⟨va_cnB np C.1.2.2.2.2 (zw_good hc.1) rfl hR.1 hR.2.1 (C.2.2.2.2.2 _ hml) (C.1.2.2.2.2 _ hc.2.1) hc.2.2 hR.2.2, C.1.2.2.2.2 _ hi.1, C.1.2.2.2.2 _ hi.2⟩ hpre rfl hnp hl.1 rfl hroom' hdg hk
  · obtain ⟨h1, h2⟩ := va_join (wr := Wr) hP hD isC isR hC hRr hnR (fun i hi hc => by
      have := List.all_eq_true.mp hdis i hi
      rw [List.contains_iff_mem.mpr hc] at this
      cases this) hk1 hF hP1 hD1
    exact kk u hz H1 locs1 ls h1 h2 hS1 hl
theorem xi_callI (C : sC X R D cT nL cc own) {index b maxL np mc ms : Nat} {y : MethodName} {bytes : ByteArray} {rm : Room} {As : List Value} {W0 Wr : va_W} {W1 : (Nat → Nat) → va_W} {rv : (Nat → Nat) → Option Value} {st0 : List Value}
    (hM : sN l y bytes maxL none rm mc ms D cT (.ref b :: As) W0 rv W1) (hc : zC y bytes maxL none np) (hml : zMl own index y) (hi : Cond.instanceMethod y ∈ zG) (hy1 : y.name = "<init>") (hrv : ∀ u, rv u = none) (hR : zRmN rm R maxL mc ms) (hk : k + mc ≤ R.cells ∧ n + ms ≤ R.slots) (hnp : As.length = np)
    (isC isR : List Nat) (hC : isC.map (fun i => ws[i]?) = W0.map some) (hn : va_nd isC = true) (hRr : isR.map (fun i => ws[i]?) = Wr.map some) (hnR : va_nd isR = true) (hdis : isR.all (fun i => !isC.contains i) = true)
    (hst : st0 = As.reverse ++ .ref b :: st) (hroom : (st.map fun v => v.category).sum ≤ 8)
    (hdg : decode cc pc = .ok (.invokespecial index, 3)) (kk : ∀ u : Nat → Nat, sW X l R D nL (k + mc) (n + ms) (pc + 3) L st (Wr ++ W1 u)) : sW X l R D nL k n pc L st0 ws := by
  obtain ⟨p, e, s, m, args, below, meth, c, Q, A⟩ := X
  intro H locs ls hP hD hS hl
  subst hst
  have hF := va_free (wc := W0) hD hS C.2.2.1 isC hC
  have hPc := zsubP hP isC hC
  have hDc := hD.sub isC hn hC
  have hpre : PreS s H (zP D cT (.ref b :: As) H.size W0) (.ref b :: As) := ⟨zP_blind, fun U hU hW => ⟨rfl, by rw [hU], by rw [hU]; exact hPc, va_K.moved hW.alike C.2.1, hDc.weaken (fun _ _ _ _ => trivial), by rw [hU]; exact zF_move C.2.2.2.2.1 hS hW hF, zH_move C.2.2.2.2.2 hW⟩⟩
  have hroom' : 2 * (F0 m pc ls (As.reverse ++ .ref b :: st)).monitorRoom + (st.map fun v => v.category).sum ≤ 8 := lv_room hroom
  refine z_afterN (mc := mc) (ms := ms) (W0 := W0) (W1 := W1) (rv := rv) (ret := none) (D := D) (cT := cT) (a := (Value.ref b :: As).toArray) (rest := st) ?_ hS hF (fun u H1 locs1 hz hP1 hD1 hs1 hk1 hS1 => ?_)
  · rcases hml with hml | ⟨host, hml⟩
    · exact va_runI C.1 (hM H.size) ⟨callB_of np C.1.2.2.2.2 (zw_good hc.1) rfl hR.1 hR.2.1 (C.1.2.2.2.2 _ hc.2.1) (C.1.2.2.2.2 _ hml) hc.2.2 hR.2.2, hy1, C.1.2.2.2.2 _ hi⟩ hpre rfl hnp hl.1 rfl hroom' hdg hk
    · exact va_runIN C.1 (hM H.size) ⟨va_cnB np C.1.2.2.2.2 (zw_good hc.1) rfl hR.1 hR.2.1 (C.2.2.2.2.2 _ hml) (C.1.2.2.2.2 _ hc.2.1) hc.2.2 hR.2.2, hy1, C.1.2.2.2.2 _ hi⟩ hpre rfl hnp hl.1 rfl hroom' hdg hk
  · obtain ⟨h1, h2⟩ := va_join (wr := Wr) hP hD isC isR hC hRr hnR (fun i hi hc => by
      have := List.all_eq_true.mp hdis i hi
      rw [List.contains_iff_mem.mpr hc] at this
      cases this) hk1 hF hP1 hD1
    rw [hrv u]
    exact kk u H1 locs1 ls h1 h2 hS1 hl
end RowsN
