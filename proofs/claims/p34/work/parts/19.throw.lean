/-! throwing paths -/
def zok (w : Cond) : Bool := decide (w ∈ tables_1) && (goodWord w || zNb w)
theorem zok_in {w : Cond} (h : zok w = true) : w ∈ zG ∨ w ∈ zH := by
  unfold zok at h
  rw [Bool.and_eq_true, Bool.or_eq_true, decide_eq_true_eq] at h
  rcases h.2 with h2 | h2
  · exact Or.inl (zt_r h.1 h2)
  · exact Or.inr (List.mem_filter.mpr ⟨h.1, h2⟩)
theorem zat_T : (Bundle.throwableAtoms ++ Bundle.throwableSAtoms).all (fun w => !vx_no w || zok w) = true := by decide +kernel
theorem zat_A : (Bundle.chainSAtoms "java/lang/IllegalArgumentException" ["java/lang/RuntimeException", "java/lang/Exception"]).all (fun w => !vx_no w || zok w) = true := by decide +kernel
theorem zat_I : (Bundle.chainSAtoms "java/lang/IndexOutOfBoundsException" ["java/lang/RuntimeException", "java/lang/Exception"]).all (fun w => !vx_no w || zok w) = true := by decide +kernel
theorem zat_S : (Bundle.chainSAtoms "java/lang/IllegalStateException" ["java/lang/RuntimeException", "java/lang/Exception"]).all (fun w => !vx_no w || zok w) = true := by decide +kernel
def zRest (E : String) : List Cond := [.instantiable E 6, .castable E E, .selects E Bundle.tFill0 Bundle.tFill0, .selects E Bundle.tFill Bundle.tFill,
   .lays E Bundle.tN "cause" "Ljava/lang/Throwable;", .lays E Bundle.tN "stackTrace" Bundle.steD, .lays E Bundle.tN "suppressedExceptions" Bundle.listD, .lays E Bundle.tN "detailMessage" "Ljava/lang/String;",
   .isRef (.static Bundle.tN "UNASSIGNED_STACK" Bundle.steD), .isRef (.static Bundle.tN "SUPPRESSED_SENTINEL" Bundle.listD),
   .fieldLink Bundle.tN 198 Bundle.tN "backtrace" "Ljava/lang/Object;", .lays Bundle.tN Bundle.tN "backtrace" "Ljava/lang/Object;", .lays E Bundle.tN "backtrace" "Ljava/lang/Object;"]
theorem zre_A : (zRest "java/lang/IllegalArgumentException").all (fun w => !vx_no w || zok w) = true := by decide +kernel
theorem zre_I : (zRest "java/lang/IndexOutOfBoundsException").all (fun w => !vx_no w || zok w) = true := by decide +kernel
theorem zre_S : (zRest "java/lang/IllegalStateException").all (fun w => !vx_no w || zok w) = true := by decide +kernel
theorem zat_fin {own E : String} {ic : Nat} (hml : Cond.methodLink own ic (Bundle.initS E) ∈ zG) (h1 : (Bundle.chainSAtoms E ["java/lang/RuntimeException", "java/lang/Exception"]).all (fun w => !vx_no w || zok w) = true) (h2 : (zRest E).all (fun w => !vx_no w || zok w) = true) : ∀ w ∈ vx_atS own ic E ["java/lang/RuntimeException", "java/lang/Exception"], w ∈ zG ∨ w ∈ zH := by
  intro w hw
  obtain ⟨hw, hn⟩ := List.mem_filter.mp hw
  have fin : ∀ (B : List Cond), B.all (fun w => !vx_no w || zok w) = true → w ∈ B → w ∈ zG ∨ w ∈ zH := by
    intro B hB hm
    have := List.all_eq_true.mp hB w hm
    rw [hn] at this
    exact zok_in (by simpa using this)
  have hw2 : w ∈ ((Bundle.throwableAtoms ++ Bundle.throwableSAtoms) ++ Bundle.chainSAtoms E ["java/lang/RuntimeException", "java/lang/Exception"]) ++ (Cond.methodLink own ic (Bundle.initS E) :: zRest E) := hw
  rcases List.mem_append.mp hw2 with h | h
  · rcases List.mem_append.mp h with h | h
    · exact fin _ zat_T h
    · exact fin _ h1 h
  · rcases List.mem_cons.mp h with h | h
    · exact Or.inl (by rw [h]; exact hml)
    · exact fin _ h2 h
/-- a method that throws E, its world as it was -/
def zXC (D : va_G) (cT : Nat → ClassId) (E : String) (sz : Nat) (W0 : va_W) : String → State → State → Prop := fun E' st t => E' = E ∧ va_P D vwQ W0 t.heap ∧ va_K D vwQ (zT cT) t ∧ va_D (va_A W0 sz) W0 ∧ va_F (va_A W0 sz) st t
def zNo : Array Value → State → Outcome → State → Prop := fun _ _ _ _ => False
def sT (l : Launch) (y : MethodName) (bytes : ByteArray) (maxL : Nat) (ret : Option FieldType) (rm : Room) (mc ms : Nat) (D : va_G) (cT : Nat → ClassId) (av : List Value) (W0 : va_W) (E : String) : Prop :=
  ∀ sz : Nat, vx_Met l y (zw y bytes maxL ret) rm (zP D cT av sz W0) zNo (zXC D cT E sz W0) mc ms (va_A W0 sz)
def zTX (X : sX) (D : va_G) (cT : Nat → ClassId) (mc ms : Nat) (E : String) (W0 : va_W) : Prop := match X with
  | (_, _, s, _, args, below, _, c, Q, A) => Q = vx_MQ below zNo (zXC D cT E s.heap.size W0) args s mc ms A ∧ A = va_A W0 s.heap.size ∧ ∀ x ∈ c.exceptionTable.toList, False
theorem sT_of {l : Launch} {y : MethodName} {bytes : ByteArray} {maxL mc ms : Nat} {ret : Option FieldType} {rm : Room} {D : va_G} {cT : Nat → ClassId} {av : List Value} {W0 : va_W} {E : String} (hy : plainName y.cls = true) (hlen : (lg_sl av).length ≤ maxL)
    (body : ∀ X : sX, sC X rm D cT maxL bytes y.cls → zTX X D cT mc ms E W0 → sW X l rm D maxL 0 0 0 (lv_args 0 av) [] W0) : sT l y bytes maxL ret rm mc ms D cT av W0 E := by
  intro sz
  refine vx_ofW (cc := bytes) (maxL := maxL) (ret := ret) hy rfl ?_
  intro p e s m args below meth c s₁ B hml hex hv
  obtain ⟨rfl, hsz, hP, hK, hD0, hF0, hN0⟩ := hv
  subst hsz
  have hts := atoms_spec (ws := zw y bytes maxL ret) B.pre
  have hown : s.vm.findClass y.cls = some m.cls := findClass_of_methodNamed B.named
  have hA : ∀ q : Nat, s.heap.size ≤ q → va_A W0 s.heap.size q := fun q h => Or.inr h
  have key := body (p, e, s, m, av.toArray, below, meth, c, vx_MQ below zNo (zXC D cT E s.heap.size W0) av.toArray s mc ms (va_A W0 s.heap.size), va_A W0 s.heap.size) ⟨⟨B.exec, B.bytes, hml, hown, fun w hw => hts w (List.mem_cons_of_mem _ hw)⟩, hK, hA, B.notSynchronized, hF0, hN0⟩ ⟨rfl, rfl, hex⟩
  rw [lg_entry_eq]
  exact key s.heap [] _ hP hD0.self va_S.rf (lv_entry av hlen)
section RowsT
variable {X : sX} {l : Launch} {R : Room} {D : va_G} {cT : Nat → ClassId} {nL k n pc mc ms : Nat} {cc : ByteArray} {own : String} {L : List (Nat × Value)} {st : List Value} {ws : va_W}
theorem zot {w : Cond} (h : w ∈ zG ∨ w ∈ zH) : vx_ot w = true := by
  unfold vx_ot
  rcases h with h | h
  · rw [(List.mem_filter.mp h).2, Bool.or_true]
  · have h2 := (List.mem_filter.mp h).2
    cases w <;> first | rfl | cases h2
theorem zhts (C : sC X R D cT nL cc own) {w : Cond} (h : w ∈ zG ∨ w ∈ zH) : match X with
  | (_, _, s, _, args, _, _, _, _, _) => w.before args s = true := by
  obtain ⟨p, e, s, m, args, below, meth, c, Q, A⟩ := X
  rcases h with h | h
  · exact C.1.2.2.2.2 _ h
  · have h1 := C.2.2.2.2.2 _ h
    have h2 := (List.mem_filter.mp h).2
    cases w <;> first | exact va_Nw.use rfl h1 | cases h2
theorem xi_throw (C : sC X R D cT nL cc own) (hls : l.stackTraces = false) {E text : String} {ik is ic : Nat} (TX : zTX X D cT mc ms E ws) (hfit : Bundle.fit E = true) (hk : Cond.classLink own ik E ∈ zG) (hini : Cond.initialized E ∈ zG) (hm : (own, is, text) ∈ zMsg) (hat : ∀ w ∈ vx_atS own ic E ["java/lang/RuntimeException", "java/lang/Exception"], w ∈ zG ∨ w ∈ zH)
    (d0 : decode cc pc = .ok (.new ik, 3)) (d3 : decode cc (pc + 3) = .ok (.dup, 1)) (d4 : decode cc (pc + 4) = .ok (.ldc is, 2)) (d6 : decode cc (pc + 6) = .ok (.invokespecial ic, 3)) (d9 : decode cc (pc + 9) = .ok (.athrow, 1))
    (hR : 6 ≤ R.frames ∧ 100 ≤ R.locals ∧ k + 1 ≤ R.cells ∧ n + 6 ≤ R.slots) (hroom : (st.map fun v => v.category).sum ≤ 8) (hc : k + 1 ≤ mc ∧ n + 6 ≤ ms) : sW X l R D nL k n pc L st ws := by
  obtain ⟨p, e, s, m, args, below, meth, c, Q, A⟩ := X
  intro H locs ls hP hD hS hl
  obtain ⟨rfl, rfl, hex⟩ := TX
  obtain ⟨sa, hsa⟩ := C.2.2.2.2.1.2.2.1 _ hm
  refine vx_throwS C.1.1 C.1.2.1 hls C.1.2.2.2.1 hfit (by decide) (C.1.2.2.2.2 _ hk) (C.1.2.2.2.2 _ hini) hsa (fun w hw => zhts C (hat w hw)) (fun w hw => ?_) C.2.2.2.2.1.2.2.2.2.2.1 C.2.2.2.2.1.2.2.2.2.2.2.1 hS (hl.1.trans C.1.2.2.1.symm) d0 d3 d4 d6 d9 (fun x hx => (hex x hx).elim) ?_ ?_ hR.2.2.1 hR.2.2.2 C.2.2.2.1 (fun t ha hz hk => ?_) hS.2.2 hc.1 hc.2
  · rcases List.mem_cons.mp hw with h | h
    · rw [h]; exact zot (Or.inl hk)
    · rcases List.mem_cons.mp h with h | h
      · rw [h]; exact zot (Or.inl hini)
      · exact zot (hat w h)
  · have := hR.1
    show 2 + 3 < R.frames
    omega
  · have := hR.2.1
    show _ + (13 * (2 + 1) + 43) ≤ R.locals
    omega
  · exact ⟨rfl, hP.kept (fun j q hq => hk q.1 ((hP j q hq).lt)), va_K.moved ha C.2.1, hD, ⟨Nat.le_trans hS.1 hz, fun q h1 h2 => (hk q (Nat.lt_of_lt_of_le h1 hS.1)).trans (hS.2.1 q h1 h2)⟩⟩
theorem xi_throwW (C : sC X R D cT nL cc own) (hls : l.stackTraces = false) {E text : String} {ik is ic : Nat} (TX : zTX X D cT mc ms E ws) (hfit : Bundle.fit E = true) (hk : Cond.classLink own ik E ∈ zG) (hini : Cond.initialized E ∈ zG) (hm : (own, is, text) ∈ zMsg) (hat : ∀ w ∈ vx_atS own ic E ["java/lang/RuntimeException", "java/lang/Exception"], w ∈ zG ∨ w ∈ zH)
    (d0 : decode cc pc = .ok (.new ik, 3)) (d3 : decode cc (pc + 3) = .ok (.dup, 1)) (d4 : decode cc (pc + 4) = .ok (.ldc_w is, 3)) (d6 : decode cc (pc + 7) = .ok (.invokespecial ic, 3)) (d9 : decode cc (pc + 10) = .ok (.athrow, 1))
    (hR : 6 ≤ R.frames ∧ 100 ≤ R.locals ∧ k + 1 ≤ R.cells ∧ n + 6 ≤ R.slots) (hroom : (st.map fun v => v.category).sum ≤ 8) (hc : k + 1 ≤ mc ∧ n + 6 ≤ ms) : sW X l R D nL k n pc L st ws := by
  obtain ⟨p, e, s, m, args, below, meth, c, Q, A⟩ := X
  intro H locs ls hP hD hS hl
  obtain ⟨rfl, rfl, hex⟩ := TX
  obtain ⟨sa, hsa⟩ := C.2.2.2.2.1.2.2.1 _ hm
  refine vx_throwSW C.1.1 C.1.2.1 hls C.1.2.2.2.1 hfit (by decide) (C.1.2.2.2.2 _ hk) (C.1.2.2.2.2 _ hini) hsa (fun w hw => zhts C (hat w hw)) (fun w hw => ?_) C.2.2.2.2.1.2.2.2.2.2.1 C.2.2.2.2.1.2.2.2.2.2.2.1 hS (hl.1.trans C.1.2.2.1.symm) d0 d3 d4 d6 d9 (fun x hx => (hex x hx).elim) ?_ ?_ hR.2.2.1 hR.2.2.2 C.2.2.2.1 (fun t ha hz hk => ?_) hS.2.2 hc.1 hc.2
  · rcases List.mem_cons.mp hw with h | h
    · rw [h]; exact zot (Or.inl hk)
    · rcases List.mem_cons.mp h with h | h
      · rw [h]; exact zot (Or.inl hini)
      · exact zot (hat w h)
  · have := hR.1
    show 2 + 3 < R.frames
    omega
  · have := hR.2.1
    show _ + (13 * (2 + 1) + 43) ≤ R.locals
    omega
  · exact ⟨rfl, hP.kept (fun j q hq => hk q.1 ((hP j q hq).lt)), va_K.moved ha C.2.1, hD, ⟨Nat.le_trans hS.1 hz, fun q h1 h2 => (hk q (Nat.lt_of_lt_of_le h1 hS.1)).trans (hS.2.1 q h1 h2)⟩⟩
end RowsT
