abbrev vwQ : List vw_C := [(RX0, TX0, 2), (RX1, TX1, 8), (RX2, TX2, 3), (RX3, TX3, 2), (RX4, TX4, 4), (RX5, TX5, 3), (RX6, TX6, 5), (RX7, TX7, 6), (RX8, TX8, 4), (RX9, TX9, 10), (RX10, TX10, 10), (RX11, TX11, 6), (RX12, TX12, 12), (RJ0, TJ0, 4), (RJ4, TJ4, 4)]
/-! one predicate for 'the machine, at this place with these locals, this stack and this world, comes to its end', and the kit's rows said of it -/
abbrev sX : Type := Program × Env × State × MethodId × Array Value × List Frame × Method × Code × (State → Prop) × (Nat → Prop)
def zG : List Cond := lw_tbl.filter goodWord
theorem zG_of {w : Cond} (h : w ∈ lw_tbl) (g : goodWord w = true) : w ∈ zG := List.mem_filter.mpr ⟨h, g⟩
theorem zG_good : GoodIn zG zG := fun w h => ⟨h, good_of_word (List.mem_filter.mp h).2⟩
def zw (y : MethodName) (cc : ByteArray) (n : Nat) (ret : Option FieldType) : List Cond := Cond.code y cc n ret :: zG
theorem zw_good {y : MethodName} {cc : ByteArray} {n : Nat} {ret : Option FieldType} (h : Cond.code y cc n ret ∈ zG) : GoodIn zG (zw y cc n ret) := by
  intro w hw
  rcases List.mem_cons.mp hw with rfl | hw
  · exact zG_good _ h
  · exact zG_good _ hw
def zT (cT : Nat → ClassId) : List (ClassId × FieldType) := [(cT 0, .int), (cT 1, .long), (cT 2, .byte), (cT 3, .boolean), (cT 4, .object "NewsExchange$Situation"), (cT 5, .object "NewsExchange$News"), (cT 6, .array .int), (cT 7, .object "NewsExchangeLaw$Line")]
def zNb : Cond → Bool
  | .fieldLinkNest .. => true
  | .methodLinkNest .. => true
  | .declares .. => true
  | .castable .. => true
  | _ => false
def zH : List Cond := tables_1.filter zNb
theorem zH_move {s U : State} (h : ∀ w ∈ zH, va_Nw w s) (hW : s.WarmedH U.vm) : ∀ w ∈ zH, va_Nw w U := by
  intro w hw
  have h1 := h w hw
  have h2 := (List.mem_filter.mp hw).2
  cases w <;> first | exact va_Nw.warmF hW h1 | exact va_Nw.warmM hW h1 | exact va_Nw.warmD hW h1 | exact va_Nw.warmC hW h1 | cases h2
theorem zH_same {s U : State} (h : ∀ w ∈ zH, va_Nw w s) (e : s.vm = U.vm) : ∀ w ∈ zH, va_Nw w U := by
  intro w hw
  have h1 := h w hw
  have h2 := (List.mem_filter.mp hw).2
  cases w <;> first | exact va_Nw.same rfl e h1 | cases h2
def zLen : List Nat := [6, 4, 6, 4, 5, 4, 7, 5, 7, 6, 7, 5]
def zByt : List (List Int32) := [[112, 101, 111, 112, 108, 101], [108, 105, 110, 101], [98, 114, 111, 107, 101, 110], [97, 119, 97, 121], [102, 111, 114, 116, 104], [98, 111, 116, 104], [112, 101, 111, 112, 108, 101, 32], [108, 105, 110, 101, 32], [32, 102, 111, 114, 116, 104, 32], [32, 98, 111, 116, 104, 32], [98, 114, 111, 107, 101, 110, 32], [97, 119, 97, 121, 32]]
def zTx : Nat → String := fun k => match k with
  | 0 => "people"
  | 1 => "line"
  | 2 => "broken"
  | 3 => "away"
  | 4 => "forth"
  | 5 => "both"
  | 6 => "people "
  | 7 => "line "
  | 8 => " forth "
  | 9 => " both "
  | 10 => "broken "
  | _ => "away "
def zRefs : List (String × Nat × Nat) := [("NewsExchange$TextReader", 63, 0), ("NewsExchange$TextReader", 72, 1), ("NewsExchange$TextReader", 112, 4), ("NewsExchange$TextReader", 114, 5), ("NewsExchange$TextReader", 78, 2), ("NewsExchange$TextReader", 91, 3), ("NewsExchangeLaw", 43, 6), ("NewsExchangeLaw", 79, 7), ("NewsExchangeLaw", 81, 8), ("NewsExchangeLaw", 83, 9), ("NewsExchangeLaw", 91, 10), ("NewsExchangeLaw", 96, 11)]
def zMsg : List (String × Nat × String) := [("NewsExchange", 86, "the buffer does not hold so many bytes"), ("NewsExchange", 128, "what is 0 to 5"), ("NewsExchange", 298, "no such line"), ("NewsExchange", 154, "what is 0 to 6"), ("NewsExchange", 156, "a round is 1 to 9999"), ("NewsExchange", 301, "no such person or piece"), ("NewsExchange", 195, "a round is 0 to 9999 here"), ("NewsExchange", 200, "what is 0 to 2"), ("NewsExchange", 212, "what is 0 to 3"), ("NewsExchange", 249, "the line is arranged"), ("NewsExchange", 255, "the line cannot be arranged"), ("NewsExchange", 267, "the line is not arranged"), ("NewsExchange", 269, "9999 rounds were made"), ("NewsExchange", 278, "the line is cut"), ("NewsExchange", 280, "the line is not cut"), ("NewsExchange", 282, "the person knows the piece")]
theorem zAOA_spec {t : FieldType} {u : State} (h : va_AOA t u) :
    ∃ comp c k, u.vm.findClass (FieldType.array t).toString = some comp ∧ (u.vm.classes.findIdx? fun (x : Class) => match x.kind with | .array component _ => component == comp | _ => false) = some c ∧ u.vm.classes[c]? = some k ∧ k.kind = .array comp (.array t) ∧
      u.vm.findClass ("[" ++ (FieldType.array t).toString) = some c := by
  unfold va_AOA Cond.before at h
  simp only [Cond.holds, Cond.value, beq_iff_eq] at h
  cases hc : u.vm.findClass (FieldType.array t).toString with
  | none => simp [hc] at h
  | some comp =>
    simp only [hc, Option.bind_some, Option.bind_eq_some_iff, Option.map_eq_some_iff] at h
    obtain ⟨c, hi, k, hk, hb⟩ := h
    obtain ⟨hlt, hp, -⟩ := Array.findIdx?_eq_some_iff_getElem.mp hi
    have hkk : u.vm.classes[c] = k := (Array.getElem?_eq_some_iff.mp hk).2
    rw [hkk] at hp
    cases hkind : k.kind with
    | array component ty =>
      rw [hkind] at hb hp
      simp at hb hp
      exact ⟨comp, c, k, rfl, hi, hk, by rw [hkind, hp, hb.1], hb.2⟩
    | _ => rw [hkind] at hb; simp at hb
theorem zAOA_moved {t : FieldType} {u U : State} (hvm : u.vm.Alike U.vm) (h : va_AOA t u) : va_AOA t U := by
  obtain ⟨comp, c, k, h1, h2, h3, h4, h5⟩ := zAOA_spec h
  obtain ⟨k', hk', he⟩ := hvm.2.2 _ _ h3
  have hi : (U.vm.classes.findIdx? fun (x : Class) => match x.kind with | .array component _ => component == comp | _ => false) = some c := by
    have key := va_idx_bare U.vm comp
    first | rw [hvm.bare_eq] at key | rw [← hvm.bare_eq] at key
    exact (key.symm.trans (va_idx_bare u.vm comp)).trans h2
  have hkind : k'.kind = .array comp (.array t) := by rw [he]; exact h4
  have f1 : U.vm.findClass (FieldType.array t).toString = some comp := by rw [hvm.findClass]; exact h1
  have f2 : U.vm.findClass ("[" ++ (FieldType.array t).toString) = some c := by rw [hvm.findClass]; exact h5
  unfold va_AOA Cond.before
  simp only [Cond.holds, Cond.value]
  rw [f1, Option.bind_some]
  refine (congrArg (fun o : Option Nat => (o.bind (fun c => (U.vm.classes[c]?).map fun (k : Class) => match k.kind with | .array _ ty => decide (ty = FieldType.array t) && decide (U.vm.findClass ("[" ++ (FieldType.array t).toString) = some c) | _ => false) == some true)) hi).trans ?_
  simp [hk', hkind, f2]
def zNcs : List (String × String) := []
/-- the JDK's row of digits -/
def zDO (A : Nat → Prop) (U : State) (H : Heap) : Prop := ∃ dt : Nat, va_Z "java/lang/Integer" "DigitOnes" "[B" (.ref dt) A U H ∧ va_T .byte dt 100 (fun j => .int (nI (48 + j % 10))) A U H
theorem zDO_move {A B : Nat → Prop} {U V : State} {H H1 : Heap} (h : zDO A U H) (hq : ∀ a : Nat, a < H.size → ¬ A a → H1[a]? = H[a]?) (hvm : U.vm.Alike V.vm) (hAB : ∀ q, B q → A q) : zDO B V H1 := by
  obtain ⟨dt, h1, h2⟩ := h
  exact ⟨dt, va_Z.moved hvm ((h1.kept hq).narrow hAB), ((h2.kept hq).narrow hAB).moved hvm⟩
/-- what lies in the heap and is never written: the words' strings, three static fields -/
def zF (D : va_G) (A : Nat → Prop) (U : State) (H : Heap) : Prop := vk_S 12 zLen zByt (D.2 100) (D.2 101) A U H ∧ (∀ q ∈ zRefs, vk_R q.1 q.2.1 (zTx q.2.2) (D.2 100 q.2.2) U) ∧ (∀ q ∈ zMsg, ∃ sa, vk_R q.1 q.2.1 q.2.2 sa U) ∧ va_Z "java/lang/String" "COMPACT_STRINGS" "Z" (.int 1) A U H ∧ va_Zq "jdk/internal/util/Preconditions" "SIOOBE_FORMATTER" "Ljava/util/function/BiFunction;" A U H ∧ vx_Zq Bundle.tN "UNASSIGNED_STACK" Bundle.steD A U H ∧ vx_Zq Bundle.tN "SUPPRESSED_SENTINEL" Bundle.listD A U H ∧ va_AO "NewsExchange$Situation" U ∧ (va_AO "NewsExchange$News" U ∧ va_AO "NewsExchangeLaw$Line" U) ∧ va_AOA .int U ∧ ((∀ q ∈ zNcs, va_Nc q.1 q.2 U) ∧ zDO A U H)
theorem zF_move {D : va_G} {A B : Nat → Prop} {s U : State} {H : Heap} {locs : List Loc} (h : zF D A s s.heap) (hS : va_S A s.heap H locs) (hW : s.WarmedH U.vm) (hAB : ∀ q, B q → A q) : zF D B U H := by
  obtain ⟨h1, h2, h3, h4, h5, h6, h7, h8, h9, h10, h11⟩ := h
  have hq := hS.2.1
  exact ⟨((h1.kept hq).narrow hAB).moved hW.alike, fun q hm => (h2 q hm).warm hW, fun q hm => (h3 q hm).elim fun sa hs => ⟨sa, hs.warm hW⟩, va_Z.moved hW.alike ((h4.kept hq).narrow hAB), va_Zq.moved hW.alike ((h5.kept hq).narrow hAB), vx_Zq.moved hW.alike ((h6.kept hq).narrow hAB), vx_Zq.moved hW.alike ((h7.kept hq).narrow hAB), h8.moved hW.alike, ⟨h9.1.moved hW.alike, h9.2.moved hW.alike⟩, zAOA_moved hW.alike h10, fun q hm => (h11.1 q hm).moved hW.alike, zDO_move h11.2 hq hW.alike hAB⟩
theorem zF_same {D : va_G} {A : Nat → Prop} {U V : State} {H : Heap} (h : zF D A U H) (e : V.vm = U.vm) : zF D A V H := by
  obtain ⟨h1, h2, h3, h4, h5, h6, h7, h8, h9, h10, h11⟩ := h
  have ha : U.vm.Alike V.vm := by rw [e]; exact Vm.Alike.refl _
  exact ⟨h1.moved ha, fun q hm => (h2 q hm).same e, fun q hm => (h3 q hm).elim fun sa hs => ⟨sa, hs.same e⟩, va_Z.moved ha h4, va_Zq.moved ha h5, vx_Zq.moved ha h6, vx_Zq.moved ha h7, h8.moved ha, ⟨h9.1.moved ha, h9.2.moved ha⟩, zAOA_moved ha h10, fun q hm => (h11.1 q hm).moved ha, zDO_move h11.2 (fun _ _ _ => rfl) ha (fun _ z => z)⟩
def sW (X : sX) (l : Launch) (R : Room) (D : va_G) (nL k n pc : Nat) (L : List (Nat × Value)) (st : List Value) (ws : va_W) : Prop :=
  match X with
  | (p, e, s, m, args, below, meth, c, Q, A) => ∀ (H : Heap) (locs : List Loc) (ls : Array Slot), va_P D vwQ ws H → va_D A ws → va_S A s.heap H locs → lv_has ls nL L → W p l e R s m args below meth c H locs k n Q (F0 m pc ls st)
def sC (X : sX) (R : Room) (D : va_G) (cT : Nat → ClassId) (nL : Nat) (cc : ByteArray) (own : String) : Prop :=
  match X with
  | (p, _, s, m, args, _, meth, c, _, A) => CallFix p m c cc nL s args zG own ∧ va_K D vwQ (zT cT) s ∧ (∀ q, s.heap.size ≤ q → A q) ∧ meth.locks = false ∧ zF D A s s.heap ∧ ∀ w ∈ zH, va_Nw w s
def zK (ci : Nat) (Cn : String) (T : u_T) (N : Nat) (ty : Nat → FieldType) : Prop := vwQ[ci]? = some (Cn, T, N) ∧ (∀ w ∈ u_ws Cn T N, w ∈ zG) ∧ (∀ k, k < N → parseFieldDescriptor (T k).2.2.1 = some (ty k)) ∧ (∀ a, a < N → ∀ b, b < N → a ≠ b → (T a).2.1 ≠ (T b).2.1)
def zL (own : String) (index : Nat) (T : u_T) (f : Nat) : Prop := Cond.fieldLink own index (T f).1 (T f).2.1 (T f).2.2.1 ∈ zG ∨ ∃ host, Cond.fieldLinkNest own index (T f).1 (T f).2.1 (T f).2.2.1 host ∈ zH
/-- pure rows that read an outcome apart -/
theorem io {c : Prop} [Decidable c] {α : Type} {a : Option α} {r : α} (h : (if c then a else none) = some r) : c ∧ a = some r := by
  by_cases hc : c
  · rw [if_pos hc] at h; exact ⟨hc, h⟩
  · rw [if_neg hc] at h; cases h
theorem ob {α β : Type} {o : Option α} {k : α → Option β} {r : β} (h : o.bind k = some r) : ∃ x, o = some x ∧ k x = some r := Option.bind_eq_some_iff.mp h
def nm {α β : Type} (x : α) (k : α → β) : β := k x
theorem nmE {α β : Type} {x y : α} {k : α → β} {r : β} (e : y = x) (h : nm x k = r) : k y = r := by subst e; exact h
theorem zsubP {D : va_G} {cl : List vw_C} {ws ws2 : va_W} {H : Heap} (h : va_P D cl ws H) (js : List Nat) (hj : js.map (fun i => ws[i]?) = ws2.map some) : va_P D cl ws2 H := by
  intro k q hk
  have h1 : (js.map (fun i => ws[i]?))[k]? = some (some q) := by rw [hj, List.getElem?_map, hk]; rfl
  rw [List.getElem?_map] at h1
  cases hi : js[k]? with
  | none => rw [hi] at h1; cases h1
  | some i => rw [hi] at h1; exact h i q (Option.some.inj h1)
section Rows
variable {X : sX} {l : Launch} {R : Room} {D : va_G} {cT : Nat → ClassId} {nL k n pc : Nat} {cc : ByteArray} {own : String} {L : List (Nat × Value)} {st : List Value} {ws : va_W}
theorem xi_iconst (C : sC X R D cT nL cc own) {i : Int} {v : Int32} (hdg : decode cc pc = .ok (.iconst i, 1)) (hv : Int32.ofInt i = v) (kk : sW X l R D nL k n (pc + 1) L (.int v :: st) ws) : sW X l R D nL k n pc L st ws := by
  obtain ⟨p, e, s, m, args, below, meth, c, Q, A⟩ := X
  intro H locs ls hP hD hS hl
  exact lv_iconst C.1.1 C.1.2.1 hdg hv (kk H locs ls hP hD hS hl)
theorem xi_bipush (C : sC X R D cT nL cc own) {i : Int} {v : Int32} (hdg : decode cc pc = .ok (.bipush i, 2)) (hv : (Int8.ofInt i).toInt32 = v) (kk : sW X l R D nL k n (pc + 2) L (.int v :: st) ws) : sW X l R D nL k n pc L st ws := by
  obtain ⟨p, e, s, m, args, below, meth, c, Q, A⟩ := X
  intro H locs ls hP hD hS hl
  exact lv_bipush C.1.1 C.1.2.1 hdg hv (kk H locs ls hP hD hS hl)
theorem xi_sipush (C : sC X R D cT nL cc own) {i : Int} {v : Int32} (hdg : decode cc pc = .ok (.sipush i, 3)) (hv : (Int16.ofInt i).toInt32 = v) (kk : sW X l R D nL k n (pc + 3) L (.int v :: st) ws) : sW X l R D nL k n pc L st ws := by
  obtain ⟨p, e, s, m, args, below, meth, c, Q, A⟩ := X
  intro H locs ls hP hD hS hl
  exact lv_sipush C.1.1 C.1.2.1 hdg hv (kk H locs ls hP hD hS hl)
theorem xi_lconst (C : sC X R D cT nL cc own) {j : Fin 2} {v : Int64} (hdg : decode cc pc = .ok (.lconst j, 1)) (hv : Int64.ofNat (j : Nat) = v) (kk : sW X l R D nL k n (pc + 1) L (.long v :: st) ws) : sW X l R D nL k n pc L st ws := by
  obtain ⟨p, e, s, m, args, below, meth, c, Q, A⟩ := X
  intro H locs ls hP hD hS hl
  exact lv_lconst C.1.1 C.1.2.1 hdg hv (kk H locs ls hP hD hS hl)
theorem xi_null (C : sC X R D cT nL cc own)  (hdg : decode cc pc = .ok (.aconst_null, 1)) (kk : sW X l R D nL k n (pc + 1) L (.null :: st) ws) : sW X l R D nL k n pc L st ws := by
  obtain ⟨p, e, s, m, args, below, meth, c, Q, A⟩ := X
  intro H locs ls hP hD hS hl
  exact lv_null C.1.1 C.1.2.1 hdg (kk H locs ls hP hD hS hl)
theorem xi_ldc (C : sC X R D cT nL cc own) {index : Nat} {v : Int32} (hw : Cond.constant own index v ∈ zG) (hdg : decode cc pc = .ok (.ldc index, 2)) (kk : sW X l R D nL k n (pc + 2) L (.int v :: st) ws) : sW X l R D nL k n pc L st ws := by
  obtain ⟨p, e, s, m, args, below, meth, c, Q, A⟩ := X
  intro H locs ls hP hD hS hl
  exact lv_ldc C.1.1 C.1.2.1 C.1.2.2.2.1 (C.1.2.2.2.2 _ hw) hdg (kk H locs ls hP hD hS hl)
theorem xi_ldcw (C : sC X R D cT nL cc own) {index : Nat} {v : Int32} (hw : Cond.constant own index v ∈ zG) (hdg : decode cc pc = .ok (.ldc_w index, 3)) (kk : sW X l R D nL k n (pc + 3) L (.int v :: st) ws) : sW X l R D nL k n pc L st ws := by
  obtain ⟨p, e, s, m, args, below, meth, c, Q, A⟩ := X
  intro H locs ls hP hD hS hl
  exact lv_ldcw C.1.1 C.1.2.1 C.1.2.2.2.1 (C.1.2.2.2.2 _ hw) hdg (kk H locs ls hP hD hS hl)
theorem xi_ldc2 (C : sC X R D cT nL cc own) {index : Nat} {v : Int64} (hw : Cond.constantLong own index v ∈ zG) (hdg : decode cc pc = .ok (.ldc2_w index, 3)) (kk : sW X l R D nL k n (pc + 3) L (.long v :: st) ws) : sW X l R D nL k n pc L st ws := by
  obtain ⟨p, e, s, m, args, below, meth, c, Q, A⟩ := X
  intro H locs ls hP hD hS hl
  exact lv_ldc2 C.1.1 C.1.2.1 C.1.2.2.2.1 (C.1.2.2.2.2 _ hw) hdg (kk H locs ls hP hD hS hl)
theorem xi_iload_n (C : sC X R D cT nL cc own) {j : Fin 4} {x : Int32} (q : Nat) (hdg : decode cc pc = .ok (.iload_n j, 1)) (hq : L[q]? = some ((j : Nat), .int x)) (kk : sW X l R D nL k n (pc + 1) L (.int x :: st) ws) : sW X l R D nL k n pc L st ws := by
  obtain ⟨p, e, s, m, args, below, meth, c, Q, A⟩ := X
  intro H locs ls hP hD hS hl
  exact lv_iload_n C.1.1 C.1.2.1 hdg rfl (lv_at hl q hq) (kk H locs ls hP hD hS hl)
theorem xi_iload (C : sC X R D cT nL cc own) {i : Nat} {x : Int32} (q : Nat) (hdg : decode cc pc = .ok (.iload i, 2)) (hq : L[q]? = some (i, .int x)) (kk : sW X l R D nL k n (pc + 2) L (.int x :: st) ws) : sW X l R D nL k n pc L st ws := by
  obtain ⟨p, e, s, m, args, below, meth, c, Q, A⟩ := X
  intro H locs ls hP hD hS hl
  exact lv_iload C.1.1 C.1.2.1 hdg (lv_at hl q hq) (kk H locs ls hP hD hS hl)
theorem xi_lload_n (C : sC X R D cT nL cc own) {j : Fin 4} {x : Int64} (q : Nat) (hdg : decode cc pc = .ok (.lload_n j, 1)) (hq : L[q]? = some ((j : Nat), .long x)) (kk : sW X l R D nL k n (pc + 1) L (.long x :: st) ws) : sW X l R D nL k n pc L st ws := by
  obtain ⟨p, e, s, m, args, below, meth, c, Q, A⟩ := X
  intro H locs ls hP hD hS hl
  exact lv_lload_n C.1.1 C.1.2.1 hdg rfl (lv_at hl q hq) (kk H locs ls hP hD hS hl)
theorem xi_lload (C : sC X R D cT nL cc own) {i : Nat} {x : Int64} (q : Nat) (hdg : decode cc pc = .ok (.lload i, 2)) (hq : L[q]? = some (i, .long x)) (kk : sW X l R D nL k n (pc + 2) L (.long x :: st) ws) : sW X l R D nL k n pc L st ws := by
  obtain ⟨p, e, s, m, args, below, meth, c, Q, A⟩ := X
  intro H locs ls hP hD hS hl
  exact lv_lload C.1.1 C.1.2.1 hdg (lv_at hl q hq) (kk H locs ls hP hD hS hl)
theorem xi_aload_n (C : sC X R D cT nL cc own) {j : Fin 4} {x : Nat} (q : Nat) (hdg : decode cc pc = .ok (.aload_n j, 1)) (hq : L[q]? = some ((j : Nat), .ref x)) (kk : sW X l R D nL k n (pc + 1) L (.ref x :: st) ws) : sW X l R D nL k n pc L st ws := by
  obtain ⟨p, e, s, m, args, below, meth, c, Q, A⟩ := X
  intro H locs ls hP hD hS hl
  exact lv_aload_n C.1.1 C.1.2.1 hdg rfl (lv_at hl q hq) (kk H locs ls hP hD hS hl)
theorem xi_aload (C : sC X R D cT nL cc own) {i : Nat} {x : Nat} (q : Nat) (hdg : decode cc pc = .ok (.aload i, 2)) (hq : L[q]? = some (i, .ref x)) (kk : sW X l R D nL k n (pc + 2) L (.ref x :: st) ws) : sW X l R D nL k n pc L st ws := by
  obtain ⟨p, e, s, m, args, below, meth, c, Q, A⟩ := X
  intro H locs ls hP hD hS hl
  exact lv_aload C.1.1 C.1.2.1 hdg (lv_at hl q hq) (kk H locs ls hP hD hS hl)
theorem xi_istore_n (C : sC X R D cT nL cc own) {j : Fin 4} {x : Int32} (ks : List Nat) {L2 : List (Nat × Value)} (hdg : decode cc pc = .ok (.istore_n j, 1)) (hn : (j : Nat) < nL) (hl3 : lv_pick (((j : Nat), Value.int x) :: L.filter (fun q => !(q.1 == (j : Nat)) && !(q.1 + 1 == (j : Nat) && q.2.category == 2))) ks = L2) (kk : sW X l R D nL k n (pc + 1) L2 st ws) : sW X l R D nL k n pc L (.int x :: st) ws := by
  obtain ⟨p, e, s, m, args, below, meth, c, Q, A⟩ := X
  intro H locs ls hP hD hS hl
  exact lv_istore_n C.1.1 C.1.2.1 hdg rfl hl hn rfl (fun ls2 hl2 => (kk H locs ls2 hP hD hS (lv_sub hl2 ks hl3)))
theorem xi_istore (C : sC X R D cT nL cc own) {i : Nat} {x : Int32} (ks : List Nat) {L2 : List (Nat × Value)} (hdg : decode cc pc = .ok (.istore i, 2)) (hn : i < nL) (hl3 : lv_pick ((i, Value.int x) :: L.filter (fun q => !(q.1 == i) && !(q.1 + 1 == i && q.2.category == 2))) ks = L2) (kk : sW X l R D nL k n (pc + 2) L2 st ws) : sW X l R D nL k n pc L (.int x :: st) ws := by
  obtain ⟨p, e, s, m, args, below, meth, c, Q, A⟩ := X
  intro H locs ls hP hD hS hl
  exact lv_istore C.1.1 C.1.2.1 hdg hl hn rfl (fun ls2 hl2 => (kk H locs ls2 hP hD hS (lv_sub hl2 ks hl3)))
theorem xi_astore_n (C : sC X R D cT nL cc own) {j : Fin 4} {x : Nat} (ks : List Nat) {L2 : List (Nat × Value)} (hdg : decode cc pc = .ok (.astore_n j, 1)) (hn : (j : Nat) < nL) (hl3 : lv_pick (((j : Nat), Value.ref x) :: L.filter (fun q => !(q.1 == (j : Nat)) && !(q.1 + 1 == (j : Nat) && q.2.category == 2))) ks = L2) (kk : sW X l R D nL k n (pc + 1) L2 st ws) : sW X l R D nL k n pc L (.ref x :: st) ws := by
  obtain ⟨p, e, s, m, args, below, meth, c, Q, A⟩ := X
  intro H locs ls hP hD hS hl
  exact lv_astore_n C.1.1 C.1.2.1 hdg rfl hl hn rfl (fun ls2 hl2 => (kk H locs ls2 hP hD hS (lv_sub hl2 ks hl3)))
theorem xi_astore (C : sC X R D cT nL cc own) {i : Nat} {x : Nat} (ks : List Nat) {L2 : List (Nat × Value)} (hdg : decode cc pc = .ok (.astore i, 2)) (hn : i < nL) (hl3 : lv_pick ((i, Value.ref x) :: L.filter (fun q => !(q.1 == i) && !(q.1 + 1 == i && q.2.category == 2))) ks = L2) (kk : sW X l R D nL k n (pc + 2) L2 st ws) : sW X l R D nL k n pc L (.ref x :: st) ws := by
  obtain ⟨p, e, s, m, args, below, meth, c, Q, A⟩ := X
  intro H locs ls hP hD hS hl
  exact lv_astore C.1.1 C.1.2.1 hdg hl hn rfl (fun ls2 hl2 => (kk H locs ls2 hP hD hS (lv_sub hl2 ks hl3)))
theorem xi_lstore_n (C : sC X R D cT nL cc own) {j : Fin 4} {x : Int64} (ks : List Nat) {L2 : List (Nat × Value)} (hdg : decode cc pc = .ok (.lstore_n j, 1)) (hn : (j : Nat) + 1 < nL) (hl3 : lv_pick (((j : Nat), Value.long x) :: L.filter (fun q => !(q.1 == (j : Nat)) && (!(q.1 == (j : Nat) + 1) && !(q.1 + 1 == (j : Nat) && q.2.category == 2)))) ks = L2) (kk : sW X l R D nL k n (pc + 1) L2 st ws) : sW X l R D nL k n pc L (.long x :: st) ws := by
  obtain ⟨p, e, s, m, args, below, meth, c, Q, A⟩ := X
  intro H locs ls hP hD hS hl
  exact lv_lstore_n C.1.1 C.1.2.1 hdg rfl hl hn rfl (fun ls2 hl2 => (kk H locs ls2 hP hD hS (lv_sub hl2 ks hl3)))
theorem xi_lstore (C : sC X R D cT nL cc own) {i : Nat} {x : Int64} (ks : List Nat) {L2 : List (Nat × Value)} (hdg : decode cc pc = .ok (.lstore i, 2)) (hn : i + 1 < nL) (hl3 : lv_pick ((i, Value.long x) :: L.filter (fun q => !(q.1 == i) && (!(q.1 == i + 1) && !(q.1 + 1 == i && q.2.category == 2)))) ks = L2) (kk : sW X l R D nL k n (pc + 2) L2 st ws) : sW X l R D nL k n pc L (.long x :: st) ws := by
  obtain ⟨p, e, s, m, args, below, meth, c, Q, A⟩ := X
  intro H locs ls hP hD hS hl
  exact lv_lstore C.1.1 C.1.2.1 hdg hl hn rfl (fun ls2 hl2 => (kk H locs ls2 hP hD hS (lv_sub hl2 ks hl3)))
theorem xi_iinc (C : sC X R D cT nL cc own) {i : Nat} {z : Int} {x v : Int32} (q : Nat) (ks : List Nat) {L2 : List (Nat × Value)} (hdg : decode cc pc = .ok (.iinc i z, 3)) (hq : L[q]? = some (i, .int x)) (hv : x + Int32.ofInt z = v) (hn : i < nL) (hl3 : lv_pick ((i, Value.int v) :: L.filter (fun q => !(q.1 == i) && !(q.1 + 1 == i && q.2.category == 2))) ks = L2) (kk : sW X l R D nL k n (pc + 3) L2 st ws) : sW X l R D nL k n pc L st ws := by
  obtain ⟨p, e, s, m, args, below, meth, c, Q, A⟩ := X
  intro H locs ls hP hD hS hl
  exact lv_iinc C.1.1 C.1.2.1 hdg hl hq hv hn rfl (fun ls2 hl2 => (kk H locs ls2 hP hD hS (lv_sub hl2 ks hl3)))
theorem xi_iadd (C : sC X R D cT nL cc own) {x y : Int32} (hdg : decode cc pc = .ok (.iadd, 1)) (kk : sW X l R D nL k n (pc + 1) L (.int (x + y) :: st) ws) : sW X l R D nL k n pc L (.int y :: .int x :: st) ws := by
  obtain ⟨p, e, s, m, args, below, meth, c, Q, A⟩ := X
  intro H locs ls hP hD hS hl
  exact lv_iadd C.1.1 C.1.2.1 hdg (kk H locs ls hP hD hS hl)
theorem xi_isub (C : sC X R D cT nL cc own) {x y : Int32} (hdg : decode cc pc = .ok (.isub, 1)) (kk : sW X l R D nL k n (pc + 1) L (.int (x - y) :: st) ws) : sW X l R D nL k n pc L (.int y :: .int x :: st) ws := by
  obtain ⟨p, e, s, m, args, below, meth, c, Q, A⟩ := X
  intro H locs ls hP hD hS hl
  exact lv_isub C.1.1 C.1.2.1 hdg (kk H locs ls hP hD hS hl)
theorem xi_imul (C : sC X R D cT nL cc own) {x y : Int32} (hdg : decode cc pc = .ok (.imul, 1)) (kk : sW X l R D nL k n (pc + 1) L (.int (x * y) :: st) ws) : sW X l R D nL k n pc L (.int y :: .int x :: st) ws := by
  obtain ⟨p, e, s, m, args, below, meth, c, Q, A⟩ := X
  intro H locs ls hP hD hS hl
  exact lv_imul C.1.1 C.1.2.1 hdg (kk H locs ls hP hD hS hl)
theorem xi_iand (C : sC X R D cT nL cc own) {x y : Int32} (hdg : decode cc pc = .ok (.iand, 1)) (kk : sW X l R D nL k n (pc + 1) L (.int (x &&& y) :: st) ws) : sW X l R D nL k n pc L (.int y :: .int x :: st) ws := by
  obtain ⟨p, e, s, m, args, below, meth, c, Q, A⟩ := X
  intro H locs ls hP hD hS hl
  exact lv_iand C.1.1 C.1.2.1 hdg (kk H locs ls hP hD hS hl)
theorem xi_ior (C : sC X R D cT nL cc own) {x y : Int32} (hdg : decode cc pc = .ok (.ior, 1)) (kk : sW X l R D nL k n (pc + 1) L (.int (x ||| y) :: st) ws) : sW X l R D nL k n pc L (.int y :: .int x :: st) ws := by
  obtain ⟨p, e, s, m, args, below, meth, c, Q, A⟩ := X
  intro H locs ls hP hD hS hl
  exact lv_ior C.1.1 C.1.2.1 hdg (kk H locs ls hP hD hS hl)
theorem xi_ixor (C : sC X R D cT nL cc own) {x y : Int32} (hdg : decode cc pc = .ok (.ixor, 1)) (kk : sW X l R D nL k n (pc + 1) L (.int (x ^^^ y) :: st) ws) : sW X l R D nL k n pc L (.int y :: .int x :: st) ws := by
  obtain ⟨p, e, s, m, args, below, meth, c, Q, A⟩ := X
  intro H locs ls hP hD hS hl
  exact lv_ixor C.1.1 C.1.2.1 hdg (kk H locs ls hP hD hS hl)
theorem xi_ishl (C : sC X R D cT nL cc own) {x y : Int32} (hdg : decode cc pc = .ok (.ishl, 1)) (kk : sW X l R D nL k n (pc + 1) L (.int (x <<< (y &&& 31)) :: st) ws) : sW X l R D nL k n pc L (.int y :: .int x :: st) ws := by
  obtain ⟨p, e, s, m, args, below, meth, c, Q, A⟩ := X
  intro H locs ls hP hD hS hl
  exact lv_ishl C.1.1 C.1.2.1 hdg (kk H locs ls hP hD hS hl)
theorem xi_ishr (C : sC X R D cT nL cc own) {x y : Int32} (hdg : decode cc pc = .ok (.ishr, 1)) (kk : sW X l R D nL k n (pc + 1) L (.int (x >>> (y &&& 31)) :: st) ws) : sW X l R D nL k n pc L (.int y :: .int x :: st) ws := by
  obtain ⟨p, e, s, m, args, below, meth, c, Q, A⟩ := X
  intro H locs ls hP hD hS hl
  exact lv_ishr C.1.1 C.1.2.1 hdg (kk H locs ls hP hD hS hl)
theorem xi_idiv (C : sC X R D cT nL cc own) {x y : Int32} (hdg : decode cc pc = .ok (.idiv, 1)) (hne : ¬ y = 0) (kk : sW X l R D nL k n (pc + 1) L (.int (x / y) :: st) ws) : sW X l R D nL k n pc L (.int y :: .int x :: st) ws := by
  obtain ⟨p, e, s, m, args, below, meth, c, Q, A⟩ := X
  intro H locs ls hP hD hS hl
  exact lv_idiv C.1.1 C.1.2.1 hdg hne (kk H locs ls hP hD hS hl)
theorem xi_irem (C : sC X R D cT nL cc own) {x y : Int32} (hdg : decode cc pc = .ok (.irem, 1)) (hne : ¬ y = 0) (kk : sW X l R D nL k n (pc + 1) L (.int (x - x / y * y) :: st) ws) : sW X l R D nL k n pc L (.int y :: .int x :: st) ws := by
  obtain ⟨p, e, s, m, args, below, meth, c, Q, A⟩ := X
  intro H locs ls hP hD hS hl
  exact lv_irem C.1.1 C.1.2.1 hdg hne (kk H locs ls hP hD hS hl)
theorem xi_iushr (C : sC X R D cT nL cc own) {x y : Int32} (hdg : decode cc pc = .ok (.iushr, 1)) (kk : sW X l R D nL k n (pc + 1) L (.int ((x.toUInt32 >>> (y.toUInt32 &&& Int32.toUInt32 31)).toInt32) :: st) ws) : sW X l R D nL k n pc L (.int y :: .int x :: st) ws := by
  obtain ⟨p, e, s, m, args, below, meth, c, Q, A⟩ := X
  intro H locs ls hP hD hS hl
  exact lv_iushr C.1.1 C.1.2.1 hdg rfl (kk H locs ls hP hD hS hl)
theorem xi_ladd (C : sC X R D cT nL cc own) {x y : Int64} (hdg : decode cc pc = .ok (.ladd, 1)) (kk : sW X l R D nL k n (pc + 1) L (.long (x + y) :: st) ws) : sW X l R D nL k n pc L (.long y :: .long x :: st) ws := by
  obtain ⟨p, e, s, m, args, below, meth, c, Q, A⟩ := X
  intro H locs ls hP hD hS hl
  exact lv_ladd C.1.1 C.1.2.1 hdg (kk H locs ls hP hD hS hl)
theorem xi_lsub (C : sC X R D cT nL cc own) {x y : Int64} (hdg : decode cc pc = .ok (.lsub, 1)) (kk : sW X l R D nL k n (pc + 1) L (.long (x - y) :: st) ws) : sW X l R D nL k n pc L (.long y :: .long x :: st) ws := by
  obtain ⟨p, e, s, m, args, below, meth, c, Q, A⟩ := X
  intro H locs ls hP hD hS hl
  exact lv_lsub C.1.1 C.1.2.1 hdg (kk H locs ls hP hD hS hl)
theorem xi_land (C : sC X R D cT nL cc own) {x y : Int64} (hdg : decode cc pc = .ok (.land, 1)) (kk : sW X l R D nL k n (pc + 1) L (.long (x &&& y) :: st) ws) : sW X l R D nL k n pc L (.long y :: .long x :: st) ws := by
  obtain ⟨p, e, s, m, args, below, meth, c, Q, A⟩ := X
  intro H locs ls hP hD hS hl
  exact lv_land C.1.1 C.1.2.1 hdg (kk H locs ls hP hD hS hl)
theorem xi_lneg (C : sC X R D cT nL cc own) {x : Int64} (hdg : decode cc pc = .ok (.lneg, 1)) (kk : sW X l R D nL k n (pc + 1) L (.long (-x) :: st) ws) : sW X l R D nL k n pc L (.long x :: st) ws := by
  obtain ⟨p, e, s, m, args, below, meth, c, Q, A⟩ := X
  intro H locs ls hP hD hS hl
  exact lv_lneg C.1.1 C.1.2.1 hdg (kk H locs ls hP hD hS hl)
theorem xi_lshl (C : sC X R D cT nL cc own) {x : Int64} {y : Int32} (hdg : decode cc pc = .ok (.lshl, 1)) (kk : sW X l R D nL k n (pc + 1) L (.long (x <<< (y.toInt64 &&& 63)) :: st) ws) : sW X l R D nL k n pc L (.int y :: .long x :: st) ws := by
  obtain ⟨p, e, s, m, args, below, meth, c, Q, A⟩ := X
  intro H locs ls hP hD hS hl
  exact lv_lshl C.1.1 C.1.2.1 hdg rfl (kk H locs ls hP hD hS hl)
theorem xi_i2l (C : sC X R D cT nL cc own) {x : Int32} (hdg : decode cc pc = .ok (.i2l, 1)) (kk : sW X l R D nL k n (pc + 1) L (.long x.toInt64 :: st) ws) : sW X l R D nL k n pc L (.int x :: st) ws := by
  obtain ⟨p, e, s, m, args, below, meth, c, Q, A⟩ := X
  intro H locs ls hP hD hS hl
  exact lv_i2l C.1.1 C.1.2.1 hdg rfl (kk H locs ls hP hD hS hl)
theorem xi_l2i (C : sC X R D cT nL cc own) {x : Int64} (hdg : decode cc pc = .ok (.l2i, 1)) (kk : sW X l R D nL k n (pc + 1) L (.int x.toInt32 :: st) ws) : sW X l R D nL k n pc L (.long x :: st) ws := by
  obtain ⟨p, e, s, m, args, below, meth, c, Q, A⟩ := X
  intro H locs ls hP hD hS hl
  exact lv_l2i C.1.1 C.1.2.1 hdg rfl (kk H locs ls hP hD hS hl)
theorem xi_i2b (C : sC X R D cT nL cc own) {x : Int32} (hdg : decode cc pc = .ok (.i2b, 1)) (kk : sW X l R D nL k n (pc + 1) L (.int x.toInt8.toInt32 :: st) ws) : sW X l R D nL k n pc L (.int x :: st) ws := by
  obtain ⟨p, e, s, m, args, below, meth, c, Q, A⟩ := X
  intro H locs ls hP hD hS hl
  exact lv_i2b C.1.1 C.1.2.1 hdg rfl (kk H locs ls hP hD hS hl)
theorem xi_lcmp (C : sC X R D cT nL cc own) {x y : Int64} (hdg : decode cc pc = .ok (.lcmp, 1)) (kk : sW X l R D nL k n (pc + 1) L (.int (lg_cmp x y) :: st) ws) : sW X l R D nL k n pc L (.long y :: .long x :: st) ws := by
  obtain ⟨p, e, s, m, args, below, meth, c, Q, A⟩ := X
  intro H locs ls hP hD hS hl
  exact W.lcmp C.1.1 C.1.2.1 hdg (kk H locs ls hP hD hS hl)
theorem xi_dup (C : sC X R D cT nL cc own) {va : Value} (hdg : decode cc pc = .ok (.dup, 1)) (hva : va.category = 1) (kk : sW X l R D nL k n (pc + 1) L (va :: va :: st) ws) : sW X l R D nL k n pc L (va :: st) ws := by
  obtain ⟨p, e, s, m, args, below, meth, c, Q, A⟩ := X
  intro H locs ls hP hD hS hl
  exact lv_dup C.1.1 C.1.2.1 hdg hva (kk H locs ls hP hD hS hl)
theorem xi_dup2 (C : sC X R D cT nL cc own) {va vb : Value} (hdg : decode cc pc = .ok (.dup2, 1)) (hva : va.category = 1) (hvb : vb.category = 1) (kk : sW X l R D nL k n (pc + 1) L (va :: vb :: va :: vb :: st) ws) : sW X l R D nL k n pc L (va :: vb :: st) ws := by
  obtain ⟨p, e, s, m, args, below, meth, c, Q, A⟩ := X
  intro H locs ls hP hD hS hl
  exact lv_dup2_11 C.1.1 C.1.2.1 hdg hva hvb (kk H locs ls hP hD hS hl)
theorem xi_if_eq (C : sC X R D cT nL cc own) {x : Int32} {off : Int} {tgt : Nat} (hdg : decode cc pc = .ok (.ifCond .eq off, 3)) (ht : (pc : Int) + off = (tgt : Int)) (kt : x = 0 → sW X l R D nL k n tgt L st ws) (kf : ¬ x = 0 → sW X l R D nL k n (pc + 3) L st ws) : sW X l R D nL k n pc L (.int x :: st) ws := by
  obtain ⟨p, e, s, m, args, below, meth, c, Q, A⟩ := X
  intro H locs ls hP hD hS hl
  exact lv_if_eq C.1.1 C.1.2.1 hdg ht (fun h => kt h H locs ls hP hD hS hl) (fun h => kf h H locs ls hP hD hS hl)
theorem xi_if_ne (C : sC X R D cT nL cc own) {x : Int32} {off : Int} {tgt : Nat} (hdg : decode cc pc = .ok (.ifCond .ne off, 3)) (ht : (pc : Int) + off = (tgt : Int)) (kt : ¬ x = 0 → sW X l R D nL k n tgt L st ws) (kf : x = 0 → sW X l R D nL k n (pc + 3) L st ws) : sW X l R D nL k n pc L (.int x :: st) ws := by
  obtain ⟨p, e, s, m, args, below, meth, c, Q, A⟩ := X
  intro H locs ls hP hD hS hl
  exact lv_if_ne C.1.1 C.1.2.1 hdg ht (fun h => kt h H locs ls hP hD hS hl) (fun h => kf h H locs ls hP hD hS hl)
theorem xi_if_lt (C : sC X R D cT nL cc own) {x : Int32} {off : Int} {tgt : Nat} (hdg : decode cc pc = .ok (.ifCond .lt off, 3)) (ht : (pc : Int) + off = (tgt : Int)) (kt : x < 0 → sW X l R D nL k n tgt L st ws) (kf : ¬ x < 0 → sW X l R D nL k n (pc + 3) L st ws) : sW X l R D nL k n pc L (.int x :: st) ws := by
  obtain ⟨p, e, s, m, args, below, meth, c, Q, A⟩ := X
  intro H locs ls hP hD hS hl
  exact lv_if_lt C.1.1 C.1.2.1 hdg ht (fun h => kt h H locs ls hP hD hS hl) (fun h => kf h H locs ls hP hD hS hl)
theorem xi_if_ge (C : sC X R D cT nL cc own) {x : Int32} {off : Int} {tgt : Nat} (hdg : decode cc pc = .ok (.ifCond .ge off, 3)) (ht : (pc : Int) + off = (tgt : Int)) (kt : 0 ≤ x → sW X l R D nL k n tgt L st ws) (kf : ¬ 0 ≤ x → sW X l R D nL k n (pc + 3) L st ws) : sW X l R D nL k n pc L (.int x :: st) ws := by
  obtain ⟨p, e, s, m, args, below, meth, c, Q, A⟩ := X
  intro H locs ls hP hD hS hl
  exact lv_if_ge C.1.1 C.1.2.1 hdg ht (fun h => kt h H locs ls hP hD hS hl) (fun h => kf h H locs ls hP hD hS hl)
theorem xi_if_gt (C : sC X R D cT nL cc own) {x : Int32} {off : Int} {tgt : Nat} (hdg : decode cc pc = .ok (.ifCond .gt off, 3)) (ht : (pc : Int) + off = (tgt : Int)) (kt : 0 < x → sW X l R D nL k n tgt L st ws) (kf : ¬ 0 < x → sW X l R D nL k n (pc + 3) L st ws) : sW X l R D nL k n pc L (.int x :: st) ws := by
  obtain ⟨p, e, s, m, args, below, meth, c, Q, A⟩ := X
  intro H locs ls hP hD hS hl
  exact lv_if_gt C.1.1 C.1.2.1 hdg ht (fun h => kt h H locs ls hP hD hS hl) (fun h => kf h H locs ls hP hD hS hl)
theorem xi_if_le (C : sC X R D cT nL cc own) {x : Int32} {off : Int} {tgt : Nat} (hdg : decode cc pc = .ok (.ifCond .le off, 3)) (ht : (pc : Int) + off = (tgt : Int)) (kt : x ≤ 0 → sW X l R D nL k n tgt L st ws) (kf : ¬ x ≤ 0 → sW X l R D nL k n (pc + 3) L st ws) : sW X l R D nL k n pc L (.int x :: st) ws := by
  obtain ⟨p, e, s, m, args, below, meth, c, Q, A⟩ := X
  intro H locs ls hP hD hS hl
  exact lv_if_le C.1.1 C.1.2.1 hdg ht (fun h => kt h H locs ls hP hD hS hl) (fun h => kf h H locs ls hP hD hS hl)
theorem xi_icmp_eq (C : sC X R D cT nL cc own) {x y : Int32} {off : Int} {tgt : Nat} (hdg : decode cc pc = .ok (.if_icmp .eq off, 3)) (ht : (pc : Int) + off = (tgt : Int)) (kt : x = y → sW X l R D nL k n tgt L st ws) (kf : ¬ x = y → sW X l R D nL k n (pc + 3) L st ws) : sW X l R D nL k n pc L (.int y :: .int x :: st) ws := by
  obtain ⟨p, e, s, m, args, below, meth, c, Q, A⟩ := X
  intro H locs ls hP hD hS hl
  exact lv_icmp_eq C.1.1 C.1.2.1 hdg ht (fun h => kt h H locs ls hP hD hS hl) (fun h => kf h H locs ls hP hD hS hl)
theorem xi_icmp_ne (C : sC X R D cT nL cc own) {x y : Int32} {off : Int} {tgt : Nat} (hdg : decode cc pc = .ok (.if_icmp .ne off, 3)) (ht : (pc : Int) + off = (tgt : Int)) (kt : ¬ x = y → sW X l R D nL k n tgt L st ws) (kf : x = y → sW X l R D nL k n (pc + 3) L st ws) : sW X l R D nL k n pc L (.int y :: .int x :: st) ws := by
  obtain ⟨p, e, s, m, args, below, meth, c, Q, A⟩ := X
  intro H locs ls hP hD hS hl
  exact lv_icmp_ne C.1.1 C.1.2.1 hdg ht (fun h => kt h H locs ls hP hD hS hl) (fun h => kf h H locs ls hP hD hS hl)
theorem xi_icmp_lt (C : sC X R D cT nL cc own) {x y : Int32} {off : Int} {tgt : Nat} (hdg : decode cc pc = .ok (.if_icmp .lt off, 3)) (ht : (pc : Int) + off = (tgt : Int)) (kt : x < y → sW X l R D nL k n tgt L st ws) (kf : ¬ x < y → sW X l R D nL k n (pc + 3) L st ws) : sW X l R D nL k n pc L (.int y :: .int x :: st) ws := by
  obtain ⟨p, e, s, m, args, below, meth, c, Q, A⟩ := X
  intro H locs ls hP hD hS hl
  exact lv_icmp_lt C.1.1 C.1.2.1 hdg ht (fun h => kt h H locs ls hP hD hS hl) (fun h => kf h H locs ls hP hD hS hl)
theorem xi_icmp_ge (C : sC X R D cT nL cc own) {x y : Int32} {off : Int} {tgt : Nat} (hdg : decode cc pc = .ok (.if_icmp .ge off, 3)) (ht : (pc : Int) + off = (tgt : Int)) (kt : y ≤ x → sW X l R D nL k n tgt L st ws) (kf : ¬ y ≤ x → sW X l R D nL k n (pc + 3) L st ws) : sW X l R D nL k n pc L (.int y :: .int x :: st) ws := by
  obtain ⟨p, e, s, m, args, below, meth, c, Q, A⟩ := X
  intro H locs ls hP hD hS hl
  exact lv_icmp_ge C.1.1 C.1.2.1 hdg ht (fun h => kt h H locs ls hP hD hS hl) (fun h => kf h H locs ls hP hD hS hl)
theorem xi_icmp_gt (C : sC X R D cT nL cc own) {x y : Int32} {off : Int} {tgt : Nat} (hdg : decode cc pc = .ok (.if_icmp .gt off, 3)) (ht : (pc : Int) + off = (tgt : Int)) (kt : y < x → sW X l R D nL k n tgt L st ws) (kf : ¬ y < x → sW X l R D nL k n (pc + 3) L st ws) : sW X l R D nL k n pc L (.int y :: .int x :: st) ws := by
  obtain ⟨p, e, s, m, args, below, meth, c, Q, A⟩ := X
  intro H locs ls hP hD hS hl
  exact lv_icmp_gt C.1.1 C.1.2.1 hdg ht (fun h => kt h H locs ls hP hD hS hl) (fun h => kf h H locs ls hP hD hS hl)
theorem xi_icmp_le (C : sC X R D cT nL cc own) {x y : Int32} {off : Int} {tgt : Nat} (hdg : decode cc pc = .ok (.if_icmp .le off, 3)) (ht : (pc : Int) + off = (tgt : Int)) (kt : x ≤ y → sW X l R D nL k n tgt L st ws) (kf : ¬ x ≤ y → sW X l R D nL k n (pc + 3) L st ws) : sW X l R D nL k n pc L (.int y :: .int x :: st) ws := by
  obtain ⟨p, e, s, m, args, below, meth, c, Q, A⟩ := X
  intro H locs ls hP hD hS hl
  exact lv_icmp_le C.1.1 C.1.2.1 hdg ht (fun h => kt h H locs ls hP hD hS hl) (fun h => kf h H locs ls hP hD hS hl)
theorem xi_goto (C : sC X R D cT nL cc own) {off : Int} {tgt : Nat} (hdg : decode cc pc = .ok (.goto off, 3)) (ht : (pc : Int) + off = (tgt : Int)) (kk : sW X l R D nL k n tgt L st ws) : sW X l R D nL k n pc L st ws := by
  obtain ⟨p, e, s, m, args, below, meth, c, Q, A⟩ := X
  intro H locs ls hP hD hS hl
  exact lv_goto C.1.1 C.1.2.1 hdg ht (kk H locs ls hP hD hS hl)
theorem xi_tableOut (C : sC X R D cT nL cc own) {dflt lo hi : Int} {offs : Array Int} {len : Nat} {x : Int32} {tgt : Nat} (hdg : decode cc pc = .ok (.tableswitch dflt lo hi offs, len)) (h : x.toInt < lo ∨ hi < x.toInt) (ht : (pc : Int) + dflt = (tgt : Int)) (kk : sW X l R D nL k n tgt L st ws) : sW X l R D nL k n pc L (.int x :: st) ws := by
  obtain ⟨p, e, s, m, args, below, meth, c, Q, A⟩ := X
  intro H locs ls hP hD hS hl
  exact lv_tableOut C.1.1 C.1.2.1 hdg h ht (kk H locs ls hP hD hS hl)
theorem xi_tableIn (C : sC X R D cT nL cc own) {dflt lo hi : Int} {offs : Array Int} {len : Nat} {x : Int32} {off : Int} {tgt : Nat} (hdg : decode cc pc = .ok (.tableswitch dflt lo hi offs, len)) (h1 : ¬ x.toInt < lo) (h2 : ¬ hi < x.toInt) (ho : offs[(x.toInt - lo).toNat]? = some off) (ht : (pc : Int) + off = (tgt : Int)) (kk : sW X l R D nL k n tgt L st ws) : sW X l R D nL k n pc L (.int x :: st) ws := by
  obtain ⟨p, e, s, m, args, below, meth, c, Q, A⟩ := X
  intro H locs ls hP hD hS hl
  exact lv_tableIn C.1.1 C.1.2.1 hdg h1 h2 ho ht (kk H locs ls hP hD hS hl)
theorem xi_lookup (C : sC X R D cT nL cc own) {dflt : Int} {ps : Array (Int × Int)} {len : Nat} {x : Int32} {off : Int} {tgt : Nat} (hdg : decode cc pc = .ok (.lookupswitch dflt ps, len)) (hp : (ps.toList.zip (ps.toList.drop 1)).all (fun (a, next) => a.1 < next.1) = true) (ho : Op.lookupswitch.offset ps.toList dflt x.toInt = off) (ht : (pc : Int) + off = (tgt : Int)) (kk : sW X l R D nL k n tgt L st ws) : sW X l R D nL k n pc L (.int x :: st) ws := by
  obtain ⟨p, e, s, m, args, below, meth, c, Q, A⟩ := X
  intro H locs ls hP hD hS hl
  exact lv_lookup C.1.1 C.1.2.1 hdg hp ho ht (kk H locs ls hP hD hS hl)
theorem xi_ifnull (C : sC X R D cT nL cc own) {x : Nat} {off : Int} (hdg : decode cc pc = .ok (.ifnull off, 3)) (kk : sW X l R D nL k n (pc + 3) L st ws) : sW X l R D nL k n pc L (.ref x :: st) ws := by
  obtain ⟨p, e, s, m, args, below, meth, c, Q, A⟩ := X
  intro H locs ls hP hD hS hl
  exact lv_ifnull C.1.1 C.1.2.1 hdg (kk H locs ls hP hD hS hl)
theorem xi_ifnullN (C : sC X R D cT nL cc own) {off : Int} {tgt : Nat} (hdg : decode cc pc = .ok (.ifnull off, 3)) (ht : (pc : Int) + off = (tgt : Int)) (kk : sW X l R D nL k n tgt L st ws) : sW X l R D nL k n pc L (.null :: st) ws := by
  obtain ⟨p, e, s, m, args, below, meth, c, Q, A⟩ := X
  intro H locs ls hP hD hS hl
  exact lv_ifnullN C.1.1 C.1.2.1 hdg ht (kk H locs ls hP hD hS hl)
theorem xi_topi {x : Int32} (kk : ∀ y : Int32, y = x → sW X l R D nL k n pc L (.int y :: st) ws) : sW X l R D nL k n pc L (.int x :: st) ws := kk x rfl
theorem xi_topl {x : Int64} (kk : ∀ y : Int64, y = x → sW X l R D nL k n pc L (.long y :: st) ws) : sW X l R D nL k n pc L (.long x :: st) ws := kk x rfl
theorem xi_drop (ks : List Nat) {L2 : List (Nat × Value)} (hl3 : lv_pick L ks = L2) (kk : sW X l R D nL k n pc L2 st ws) : sW X l R D nL k n pc L st ws := by
  obtain ⟨p, e, s, m, args, below, meth, c, Q, A⟩ := X
  intro H locs ls hP hD hS hl
  exact kk H locs ls hP hD hS (lv_sub hl ks hl3)
theorem xi_perm (js : List Nat) {ws2 : va_W} (hn : va_nd js = true) (hj : js.map (fun i => ws[i]?) = ws2.map some) (kk : sW X l R D nL k n pc L st ws2) : sW X l R D nL k n pc L st ws := by
  obtain ⟨p, e, s, m, args, below, meth, c, Q, A⟩ := X
  intro H locs ls hP hD hS hl
  exact kk H locs ls (zsubP hP js hj) (hD.sub js hn hj) hS hl
theorem xi_get (C : sC X R D cT nL cc own) {ci a index : Nat} {Cn : String} {T : u_T} {N : Nat} {ty : Nat → FieldType} {fs : List Value} {v : Value} (K : zK ci Cn T N ty) (f q : Nat) (hl0 : zL own index T f) (hf : f < N) (he : ws[q]? = some (a, .inr (ci, fs))) (hv : fs[f]? = some v) (hdg : decode cc pc = .ok (.getfield index, 3)) (kk : sW X l R D nL k n (pc + 3) L (v :: st) ws) : sW X l R D nL k n pc L (.ref a :: st) ws := by
  obtain ⟨p, e, s, m, args, below, meth, c, Q, A⟩ := X
  intro H locs ls hP hD hS hl
  rcases hl0 with hl0 | ⟨host, hl0⟩
  · exact va_get C.1.1 C.1.2.1 C.1.2.2.2.2 K.2.1 C.1.2.2.2.1 C.2.1 hP q he K.1 f hf (C.1.2.2.2.2 _ hl0) (fun _ h => h) hv hdg (kk H locs ls hP hD hS hl)
  · exact va_getN C.1.1 C.1.2.1 C.1.2.2.2.2 K.2.1 C.1.2.2.2.1 C.2.1 hP q he K.1 f hf (va_Nw.use rfl (C.2.2.2.2.2 _ hl0)) (fun _ h => h) hv hdg (kk H locs ls hP hD hS hl)
theorem xi_put (C : sC X R D cT nL cc own) {ci a index : Nat} {Cn : String} {T : u_T} {N : Nat} {ty : Nat → FieldType} {fs : List Value} {v : Value} {ws2 : va_W} (K : zK ci Cn T N ty) (f q : Nat) (hl0 : zL own index T f) (hf : f < N) (he : ws[q]? = some (a, .inr (ci, fs))) (hfin : (T f).2.2.2 = false) (hn : narrow (ty f) v = v) (hfit : fits (ty f) v = true) (hlen : f < fs.length) (hdg : decode cc pc = .ok (.putfield index, 3)) (hw : ws.set q (a, .inr (ci, fs.set f v)) = ws2) (kk : sW X l R D nL k n (pc + 3) L st ws2) : sW X l R D nL k n pc L (v :: .ref a :: st) ws := by
  obtain ⟨p, e, s, m, args, below, meth, c, Q, A⟩ := X
  intro H locs ls hP hD hS hl
  subst hw
  rcases hl0 with hl0 | ⟨host, hl0⟩
  · exact va_put C.1.1 C.1.2.1 C.1.2.2.2.2 K.2.1 ty K.2.2.1 K.2.2.2 C.1.2.2.2.1 C.2.1 hP hD hS q he K.1 f hf (C.1.2.2.2.2 _ hl0) (fun _ h => h) hfin (K.2.2.1 f hf) hn hfit hlen hdg (fun H1 locs1 hP1 hD1 hS1 => kk H1 locs1 ls hP1 hD1 hS1 hl)
  · exact va_putN C.1.1 C.1.2.1 C.1.2.2.2.2 K.2.1 ty K.2.2.1 K.2.2.2 C.1.2.2.2.1 C.2.1 hP hD hS q he K.1 f hf (va_Nw.use rfl (C.2.2.2.2.2 _ hl0)) (fun _ h => h) hfin (K.2.2.1 f hf) hn hfit hlen hdg (fun H1 locs1 hP1 hD1 hS1 => kk H1 locs1 ls hP1 hD1 hS1 hl)
theorem xi_iald (C : sC X R D cT nL cc own) {a N : Nat} {g : Nat → Int32} {i : Int32} (q : Nat) (he : ws[q]? = some (a, .inl (cT 0, N, .inl g))) (hin : vp_in i N) (hdg : decode cc pc = .ok (.iaload, 1)) (kk : sW X l R D nL k n (pc + 1) L (.int (g i.toNatClampNeg) :: st) ws) : sW X l R D nL k n pc L (.int i :: .ref a :: st) ws := by
  obtain ⟨p, e, s, m, args, below, meth, c, Q, A⟩ := X
  intro H locs ls hP hD hS hl
  exact va_iald C.1.1 C.1.2.1 C.2.1 hP q 0 he rfl hin hdg (kk H locs ls hP hD hS hl)
theorem xi_bald (C : sC X R D cT nL cc own) {a N : Nat} {g : Nat → Int32} {i : Int32} (q : Nat) (he : ws[q]? = some (a, .inl (cT 2, N, .inl g))) (hin : vp_in i N) (hdg : decode cc pc = .ok (.baload, 1)) (kk : sW X l R D nL k n (pc + 1) L (.int (g i.toNatClampNeg) :: st) ws) : sW X l R D nL k n pc L (.int i :: .ref a :: st) ws := by
  obtain ⟨p, e, s, m, args, below, meth, c, Q, A⟩ := X
  intro H locs ls hP hD hS hl
  exact va_bald C.1.1 C.1.2.1 C.2.1 hP q 2 he rfl hin hdg (kk H locs ls hP hD hS hl)
theorem xi_zald (C : sC X R D cT nL cc own) {a N : Nat} {g : Nat → Int32} {i : Int32} (q : Nat) (he : ws[q]? = some (a, .inl (cT 3, N, .inl g))) (hin : vp_in i N) (hdg : decode cc pc = .ok (.baload, 1)) (kk : sW X l R D nL k n (pc + 1) L (.int (g i.toNatClampNeg) :: st) ws) : sW X l R D nL k n pc L (.int i :: .ref a :: st) ws := by
  obtain ⟨p, e, s, m, args, below, meth, c, Q, A⟩ := X
  intro H locs ls hP hD hS hl
  exact va_zald C.1.1 C.1.2.1 C.2.1 hP q 3 he rfl hin hdg (kk H locs ls hP hD hS hl)
theorem xi_lald (C : sC X R D cT nL cc own) {a N : Nat} {g : Nat → Int64} {i : Int32} (q : Nat) (he : ws[q]? = some (a, .inl (cT 1, N, .inr (.inl g)))) (hin : vp_in i N) (hdg : decode cc pc = .ok (.laload, 1)) (kk : sW X l R D nL k n (pc + 1) L (.long (g i.toNatClampNeg) :: st) ws) : sW X l R D nL k n pc L (.int i :: .ref a :: st) ws := by
  obtain ⟨p, e, s, m, args, below, meth, c, Q, A⟩ := X
  intro H locs ls hP hD hS hl
  exact va_lald C.1.1 C.1.2.1 C.2.1 hP q 1 he rfl hin hdg (kk H locs ls hP hD hS hl)
theorem xi_iast (C : sC X R D cT nL cc own) {a N : Nat} {g : Nat → Int32} {i : Int32} {x : Int32} {ws2 : va_W} (q : Nat) (he : ws[q]? = some (a, .inl (cT 0, N, .inl g))) (hin : vp_in i N) (hdg : decode cc pc = .ok (.iastore, 1)) (hw : ws.set q (a, .inl (cT 0, N, .inl (upd g i.toNatClampNeg x))) = ws2) (kk : sW X l R D nL k n (pc + 1) L st ws2) : sW X l R D nL k n pc L (.int x :: .int i :: .ref a :: st) ws := by
  obtain ⟨p, e, s, m, args, below, meth, c, Q, A⟩ := X
  intro H locs ls hP hD hS hl
  subst hw
  exact va_iast C.1.1 C.1.2.1 C.2.1 hP hD hS q 0 he rfl hin hdg (fun H1 locs1 hP1 hD1 hS1 => kk H1 locs1 ls hP1 hD1 hS1 hl)
theorem xi_bast (C : sC X R D cT nL cc own) {a N : Nat} {g : Nat → Int32} {i : Int32} {x : Int32} {ws2 : va_W} (q : Nat) (he : ws[q]? = some (a, .inl (cT 2, N, .inl g))) (hin : vp_in i N) (hdg : decode cc pc = .ok (.bastore, 1)) (hw : ws.set q (a, .inl (cT 2, N, .inl (upd g i.toNatClampNeg (vp_nar .byte x)))) = ws2) (kk : sW X l R D nL k n (pc + 1) L st ws2) : sW X l R D nL k n pc L (.int x :: .int i :: .ref a :: st) ws := by
  obtain ⟨p, e, s, m, args, below, meth, c, Q, A⟩ := X
  intro H locs ls hP hD hS hl
  subst hw
  exact va_bast C.1.1 C.1.2.1 C.2.1 hP hD hS q 2 he rfl hin hdg (fun H1 locs1 hP1 hD1 hS1 => kk H1 locs1 ls hP1 hD1 hS1 hl)
theorem xi_zast (C : sC X R D cT nL cc own) {a N : Nat} {g : Nat → Int32} {i : Int32} {x : Int32} {ws2 : va_W} (q : Nat) (he : ws[q]? = some (a, .inl (cT 3, N, .inl g))) (hin : vp_in i N) (hdg : decode cc pc = .ok (.bastore, 1)) (hw : ws.set q (a, .inl (cT 3, N, .inl (upd g i.toNatClampNeg (vp_nar .boolean x)))) = ws2) (kk : sW X l R D nL k n (pc + 1) L st ws2) : sW X l R D nL k n pc L (.int x :: .int i :: .ref a :: st) ws := by
  obtain ⟨p, e, s, m, args, below, meth, c, Q, A⟩ := X
  intro H locs ls hP hD hS hl
  subst hw
  exact va_zast C.1.1 C.1.2.1 C.2.1 hP hD hS q 3 he rfl hin hdg (fun H1 locs1 hP1 hD1 hS1 => kk H1 locs1 ls hP1 hD1 hS1 hl)
theorem xi_last (C : sC X R D cT nL cc own) {a N : Nat} {g : Nat → Int64} {i : Int32} {x : Int64} {ws2 : va_W} (q : Nat) (he : ws[q]? = some (a, .inl (cT 1, N, .inr (.inl g)))) (hin : vp_in i N) (hdg : decode cc pc = .ok (.lastore, 1)) (hw : ws.set q (a, .inl (cT 1, N, .inr (.inl (vp_updL g i.toNatClampNeg x)))) = ws2) (kk : sW X l R D nL k n (pc + 1) L st ws2) : sW X l R D nL k n pc L (.long x :: .int i :: .ref a :: st) ws := by
  obtain ⟨p, e, s, m, args, below, meth, c, Q, A⟩ := X
  intro H locs ls hP hD hS hl
  subst hw
  exact va_last C.1.1 C.1.2.1 C.2.1 hP hD hS q 1 he rfl hin hdg (fun H1 locs1 hP1 hD1 hS1 => kk H1 locs1 ls hP1 hD1 hS1 hl)
theorem xi_alen (C : sC X R D cT nL cc own) {a : Nat} {x : vp_A} {v : Int32} {cA : ClassId} {ty : FieldType} (q t : Nat) (he : ws[q]? = some (a, .inl (cA, x))) (ht : (zT cT)[t]? = some (cA, ty)) (hv : Int32.ofNat x.1 = v) (hdg : decode cc pc = .ok (.arraylength, 1)) (kk : sW X l R D nL k n (pc + 1) L (.int v :: st) ws) : sW X l R D nL k n pc L (.ref a :: st) ws := by
  obtain ⟨p, e, s, m, args, below, meth, c, Q, A⟩ := X
  intro H locs ls hP hD hS hl
  exact va_alen C.1.1 C.1.2.1 C.2.1 hP q t he ht hv hdg (kk H locs ls hP hD hS hl)
theorem xi_aald (C : sC X R D cT nL cc own) {a N b : Nat} {g : Nat → Option Nat} {Cn : String} {i : Int32} {cA : ClassId} (q t : Nat) (he : ws[q]? = some (a, .inl (cA, N, .inr (.inr (.inr (.inr g)))))) (ht : (zT cT)[t]? = some (cA, .object Cn)) (hin : vp_in i N) (hg : g i.toNatClampNeg = some b) (hdg : decode cc pc = .ok (.aaload, 1)) (kk : sW X l R D nL k n (pc + 1) L (.ref b :: st) ws) : sW X l R D nL k n pc L (.int i :: .ref a :: st) ws := by
  obtain ⟨p, e, s, m, args, below, meth, c, Q, A⟩ := X
  intro H locs ls hP hD hS hl
  exact va_aldq C.1.1 C.1.2.1 C.2.1 hP q t he ht hin hdg (by rw [hg]; exact (kk H locs ls hP hD hS hl))
theorem xi_aaldA (C : sC X R D cT nL cc own) {a N b : Nat} {g : Nat → Option Nat} {i : Int32} (q : Nat) (he : ws[q]? = some (a, .inl (cT 6, N, .inr (.inr (.inr (.inr g)))))) (hin : vp_in i N) (hg : g i.toNatClampNeg = some b) (hdg : decode cc pc = .ok (.aaload, 1)) (kk : sW X l R D nL k n (pc + 1) L (.ref b :: st) ws) : sW X l R D nL k n pc L (.int i :: .ref a :: st) ws := by
  obtain ⟨p, e, s, m, args, below, meth, c, Q, A⟩ := X
  intro H locs ls hP hD hS hl
  have hlt : i.toNatClampNeg < N := Nat.not_le.mp fun q => hin (Or.inr q)
  exact W.aald (v := va_rf (g i.toNatClampNeg)) (ty := .array .int) C.1.1 C.1.2.1 (hP q _ he) ((C.2.1.2 6 _ rfl).1 N (fun j => va_rf (g j))) rfl (fun q => by cases q) (by show ¬ (i < 0 ∨ (arrV _ _ _).slots.size ≤ _); rw [arrV_size]; exact hin) (by show (arrV _ _ _).slots[_]? = _; rw [arrV_read _ _ hlt]) rfl rfl hdg (by rw [hg]; exact (kk H locs ls hP hD hS hl))
end Rows
/-! a method's contract: from the world W0 it returns rv and leaves the world W1, and nothing else is changed -/
def zP (D : va_G) (cT : Nat → ClassId) (av : List Value) (sz : Nat) (W0 : va_W) : Array Value → State → Prop := va_Pc av (fun U => U.heap.size = sz ∧ va_P D vwQ W0 U.heap ∧ va_K D vwQ (zT cT) U ∧ va_D (fun _ => True) W0 ∧ zF D (va_A W0 sz) U U.heap ∧ ∀ w ∈ zH, va_Nw w U)
/-- an answer of a narrow kind is of it -/
def zN (ret : Option FieldType) (rv : Option Value) : Prop := ∀ v : Value, rv = some v → ∀ ty : FieldType, ret = some ty → narrow ty v = v
def zQ (D : va_G) (cT : Nat → ClassId) (ret : Option FieldType) (rv : Option Value) (sz : Nat) (W0 W1 : va_W) : Array Value → State → Outcome → State → Prop := fun _ st o t => (o = .returned rv ∧ zN ret rv ∧ va_P D vwQ W1 t.heap ∧ va_K D vwQ (zT cT) t ∧ va_D (va_A W0 sz) W1) ∧ va_F (va_A W0 sz) st t
def sM (l : Launch) (y : MethodName) (bytes : ByteArray) (maxL : Nat) (ret : Option FieldType) (rm : Room) (D : va_G) (cT : Nat → ClassId) (av : List Value) (W0 : va_W) (rv : Option Value) (W1 : va_W) : Prop :=
  ∀ sz : Nat, Met l y (zw y bytes maxL ret) rm (zP D cT av sz W0) (zQ D cT ret rv sz W0 W1) 0 0 (va_A W0 sz)
theorem zP_blind {D : va_G} {cT : Nat → ClassId} {av : List Value} {sz : Nat} {W0 : va_W} : FrameBlind (zP D cT av sz W0) := by
  intro a U g mk q
  obtain ⟨q0, q1, qP, qK, qD, qF, qN⟩ := q
  exact ⟨q0, q1, qP, va_K.moved (u := U) (U := U.calling g mk a) (Vm.Alike.refl U.vm) qK, qD, zF_same qF rfl, zH_same qN rfl⟩
def zE (X : sX) (l : Launch) (rm : Room) (D : va_G) (bytes : ByteArray) (maxL : Nat) (ret : Option FieldType) (rv : Option Value) (W1 : va_W) : Prop := match ret with
  | some .int => ∀ (pc : Nat) (L : List (Nat × Value)) (x : Int32), decode bytes pc = .ok (.ireturn, 1) → some (Value.int x) = rv → sW X l rm D maxL 0 0 pc L [.int x] W1
  | some .long => ∀ (pc : Nat) (L : List (Nat × Value)) (x : Int64), decode bytes pc = .ok (.lreturn, 1) → some (Value.long x) = rv → sW X l rm D maxL 0 0 pc L [.long x] W1
  | none => ∀ (pc : Nat) (L : List (Nat × Value)), decode bytes pc = .ok (.return_, 1) → none = rv → sW X l rm D maxL 0 0 pc L [] W1
  | some ty => ∀ (pc : Nat) (L : List (Nat × Value)) (x : Int32), decode bytes pc = .ok (.ireturn, 1) → some (Value.int x) = rv → narrow ty (.int x) = .int x → sW X l rm D maxL 0 0 pc L [.int x] W1
theorem sM_of {l : Launch} {y : MethodName} {bytes : ByteArray} {maxL : Nat} {ret : Option FieldType} {rm : Room} {D : va_G} {cT : Nat → ClassId} {av : List Value} {W0 : va_W} {rv : Option Value} {W1 : va_W} (hy : plainName y.cls = true) (hlen : (lg_sl av).length ≤ maxL)
    (body : ∀ X : sX, sC X rm D cT maxL bytes y.cls → zE X l rm D bytes maxL ret rv W1 → sW X l rm D maxL 0 0 0 (lv_args 0 av) [] W0) : sM l y bytes maxL ret rm D cT av W0 rv W1 := by
  intro sz
  refine Met.ofW (cc := bytes) (maxL := maxL) (ret := ret) hy rfl ?_
  intro p e s m args below meth c s₁ B hml hv
  obtain ⟨rfl, hsz, hP, hK, hD0, hF0, hN0⟩ := hv
  subst hsz
  have hts := atoms_spec (ws := zw y bytes maxL ret) B.pre
  have hown : s.vm.findClass y.cls = some m.cls := findClass_of_methodNamed B.named
  have hA : ∀ q : Nat, s.heap.size ≤ q → va_A W0 s.heap.size q := fun q h => Or.inr h
  have hlocks := B.notSynchronized
  have hx := B.exec
  have hb := B.bytes
  have hr := B.returns
  have key := body (p, e, s, m, av.toArray, below, meth, c, MQ below (zQ D cT ret rv s.heap.size W0 W1) av.toArray s 0 0 (va_A W0 s.heap.size), va_A W0 s.heap.size) ⟨⟨hx, hb, hml, hown, fun w hw => hts w (List.mem_cons_of_mem _ hw)⟩, hK, hA, hlocks, hF0, hN0⟩ ?_
  · rw [lg_entry_eq]
    exact key s.heap [] _ hP hD0.self va_S.rf (lv_entry av hlen)
  · unfold zE
    split
    · intro pc L x hdg hv H locs ls hP1 hD1 hS hl
      exact W.iret (v := x) hx hb hr (fun t ht hW => ⟨⟨by rw [hv], (fun v e1 ty e2 => by rw [← hv] at e1; cases e1; cases e2; rfl), by rw [ht]; exact hP1, va_K.moved hW.alike hK, hD1⟩, hS.F ht⟩) hS.2.2 hdg
    · intro pc L x hdg hv H locs ls hP1 hD1 hS hl
      exact W.lret (v := x) hx hb hr (fun t ht hW => ⟨⟨by rw [hv], (fun v e1 ty e2 => by rw [← hv] at e1; cases e1; cases e2; rfl), by rw [ht]; exact hP1, va_K.moved hW.alike hK, hD1⟩, hS.F ht⟩) hS.2.2 hdg
    · intro pc L hdg hv H locs ls hP1 hD1 hS hl
      exact W.vret hx hb hr (fun t ht hW => ⟨⟨by rw [hv], (fun v e1 => by rw [← hv] at e1; cases e1), by rw [ht]; exact hP1, va_K.moved hW.alike hK, hD1⟩, hS.F ht⟩) hS.2.2 hdg
    · intro pc L x hdg hv hn H locs ls hP1 hD1 hS hl
      exact W.zret (v := x) hx hb hr hn (fun t ht hW => ⟨⟨by rw [hv], (fun v e1 ty e2 => by rw [← hv] at e1; cases e1; cases e2; exact hn), by rw [ht]; exact hP1, va_K.moved hW.alike hK, hD1⟩, hS.F ht⟩) hS.2.2 hdg
section Calls9
variable {p : Program} {l : Launch} {e : Env} {R : Room} {s : State} {m : MethodId} {args : Array Value} {below : List Frame} {meth : Method} {c : Code} {H : Heap} {locs : List Loc} {cells slots : Nat} {Q : State → Prop}
theorem z_after {D : va_G} {cT : Nat → ClassId} {ret : Option FieldType} {rv : Option Value} {W0 W1 : va_W} {pc : Nat} {ls : Array Slot} {rest st0 : List Value} {a : Array Value} {A0 : Nat → Prop} {H0 : Heap} (hr : va_Run p l e R s m args below meth c H locs cells slots 0 0 (F0 m pc ls st0) rest (zQ D cT ret rv H.size W0 W1 a) (va_A W0 H.size)) (hS : va_S A0 H0 H locs) (hF : ∀ q, va_A W0 H.size q → A0 q)
    (kk : ∀ (H1 : Heap) (locs1 : List Loc), zN ret rv → va_P D vwQ W1 H1 → va_D (va_A W0 H.size) W1 → H.size ≤ H1.size → (∀ q : Nat, q < H.size → ¬ va_A W0 H.size q → H1[q]? = H[q]?) → va_S A0 H0 H1 locs1 → W p l e R s m args below meth c H1 locs1 cells slots Q (F0 m (pc + 3) ls (rv.toList ++ rest))) : W p l e R s m args below meth c H locs cells slots Q (F0 m pc ls st0) := by
  intro T hT X
  obtain ⟨v, st₀, t, T', L, h0, X', hL, e1, e2, ⟨⟨hv, hz, hP, hK, hD⟩, hF1⟩, st⟩ := hr T hT X
  cases hv
  obtain ⟨hs, hk⟩ := hF1
  rw [h0] at hs hk
  obtain ⟨t2, a1, b1⟩ := kk T'.heap (locs ++ L) hz (by rw [e1]; exact hP) hD (by rw [e1]; exact hs) (fun q h1 h2 => by rw [e1]; exact hk q h1 h2)
    ⟨Nat.le_trans hS.1 (by rw [e1]; exact hs), fun q h1 h2 => by rw [e1, hk q (Nat.lt_of_lt_of_le h1 hS.1) (fun z => h2 (hF q z))]; exact hS.2.1 q h1 h2, fun q hq => by
      rcases List.mem_append.mp hq with h | h
      · exact hS.2.2 q h
      · exact hF _ (hL q h)⟩ T' rfl X'
  exact ⟨t2, st t2 a1, b1⟩
end Calls9
/-- what the tables say of a call: the name linked at 'index' of 'own' is y, an instance method that y's class selects / a static one / a constructor -/
def zC (y : MethodName) (bytes : ByteArray) (maxL : Nat) (ret : Option FieldType) (np : Nat) : Prop := Cond.code y bytes maxL ret ∈ zG ∧ Cond.initialized y.cls ∈ zG ∧ y.cls ≠ "java/lang/invoke/MethodHandle" ∧ y.cls ≠ "java/lang/invoke/VarHandle" ∧ (parseMethodDescriptor y.desc).map (fun d => d.parameters.length) = some np
def zMl (own : String) (index : Nat) (y : MethodName) : Prop := Cond.methodLink own index y ∈ zG ∨ ∃ host, Cond.methodLinkNest own index y host ∈ zH
def zI (y : MethodName) : Prop := Cond.instanceMethod y ∈ zG ∧ Cond.selects y.cls y y ∈ zG
def zRm (rm R : Room) (maxL : Nat) : Prop := rm.cells = 0 ∧ rm.slots = 0 ∧ rm.frames + 1 ≤ R.frames ∧ 8 + (maxL + 11) + rm.locals ≤ R.locals
section Calls10
variable {X : sX} {l : Launch} {R : Room} {D : va_G} {cT : Nat → ClassId} {nL k n pc : Nat} {cc : ByteArray} {own : String} {L : List (Nat × Value)} {st : List Value} {ws : va_W}
/-- the world behind a call: the callee's cells in their places -/
def zmix : List (Option Nat) → va_W → va_W → va_W
  | some j :: js, w :: ws, cs => cs.getD j w :: zmix js ws cs
  | none :: js, w :: ws, cs => w :: zmix js ws cs
  | _, ws, _ => ws
def zck (isC : List Nat) (js : List (Option Nat)) : Bool := (List.range js.length).all (fun k => match js[k]? with
  | some (some j) => isC[j]? == some k
  | some none => !isC.contains k
  | none => true) && isC.all (fun k => decide (k < js.length))
theorem zmix_get : ∀ (js : List (Option Nat)) (ws cs : va_W) (k : Nat) (q : Nat × va_E), (zmix js ws cs)[k]? = some q → (ws[k]? = some q ∧ (js[k]? = none ∨ js[k]? = some none)) ∨ ∃ (j : Nat) (w : Nat × va_E), js[k]? = some (some j) ∧ ws[k]? = some w ∧ q = cs.getD j w
  | [], ws, cs, k, q, h => Or.inl ⟨h, Or.inl rfl⟩
  | some j :: js, [], cs, k, q, h => by
    have h1 : ([] : va_W)[k]? = some q := h
    cases h1
  | none :: js, [], cs, k, q, h => by
    have h1 : ([] : va_W)[k]? = some q := h
    cases h1
  | some j :: js, w :: ws, cs, k, q, h => by
    have h1 : (cs.getD j w :: zmix js ws cs)[k]? = some q := h
    cases k with
    | zero => exact Or.inr ⟨j, w, rfl, rfl, (Option.some.inj h1).symm⟩
    | succ k => exact zmix_get js ws cs k q h1
  | none :: js, w :: ws, cs, k, q, h => by
    have h1 : (w :: zmix js ws cs)[k]? = some q := h
    cases k with
    | zero => exact Or.inl ⟨h1, Or.inr rfl⟩
    | succ k => exact zmix_get js ws cs k q h1
theorem zck_in {isC : List Nat} {js : List (Option Nat)} (h : zck isC js = true) {k j : Nat} (hj : js[k]? = some (some j)) : isC[j]? = some k := by
  unfold zck at h
  rw [Bool.and_eq_true] at h
  have hk : k < js.length := (List.getElem?_eq_some_iff.mp hj).1
  have := List.all_eq_true.mp h.1 k (List.mem_range.mpr hk)
  rw [hj] at this
  simpa using this
theorem zck_out {isC : List Nat} {js : List (Option Nat)} (h : zck isC js = true) {k : Nat} (hj : js[k]? = none ∨ js[k]? = some none) : k ∉ isC := by
  unfold zck at h
  rw [Bool.and_eq_true] at h
  intro hm
  have hk : k < js.length := of_decide_eq_true (List.all_eq_true.mp h.2 k hm)
  rcases hj with hj | hj
  · have := List.getElem?_eq_none_iff.mp hj
    omega
  · have := List.all_eq_true.mp h.1 k (List.mem_range.mpr hk)
    rw [hj] at this
    simp only [Bool.not_eq_true'] at this
    rw [List.contains_iff_mem.mpr hm] at this
    cases this
theorem z_apart {A0 : Nat → Prop} {cl : List vw_C} {W0 : va_W} {H : Heap} (hP : va_P D cl ws H) (hD : va_D A0 ws) (isC : List Nat) (hC : isC.map (fun i => ws[i]?) = W0.map some) : ∀ (k : Nat) (q : Nat × va_E), k ∉ isC → ws[k]? = some q → q.1 < H.size ∧ ¬ va_A W0 H.size q.1 := by
  intro k q hk hq
  have hl := (hP k q hq).lt
  refine ⟨hl, fun h => ?_⟩
  rcases h with ⟨k2, e, h⟩ | h
  · have h1 : (isC.map (fun i => ws[i]?))[k2]? = some (some (q.1, e)) := by rw [hC, List.getElem?_map, h]; rfl
    rw [List.getElem?_map] at h1
    cases hi : isC[k2]? with
    | none => rw [hi] at h1; cases h1
    | some i =>
      rw [hi] at h1
      have hij := hD.1 k i q (q.1, e) hq (Option.some.inj h1) rfl
      subst hij
      exact hk (List.mem_of_getElem? hi)
  · omega
theorem z_world {A0 : Nat → Prop} {cl : List vw_C} {W0 W1 ws2 : va_W} {H H1 : Heap} (hP : va_P D cl ws H) (hD : va_D A0 ws) (isC : List Nat) (hC : isC.map (fun i => ws[i]?) = W0.map some) (hlen : isC.length = W1.length) (js : List (Option Nat)) (hck : zck isC js = true) (hj : zmix js ws W1 = ws2)
    (hk : ∀ q : Nat, q < H.size → ¬ va_A W0 H.size q → H1[q]? = H[q]?) (hF : ∀ q, va_A W0 H.size q → A0 q) (hP1 : va_P D cl W1 H1) (hD1 : va_D (va_A W0 H.size) W1) : va_P D cl ws2 H1 ∧ va_D A0 ws2 := by
  subst hj
  have apart := z_apart hP hD isC hC
  have get : ∀ (k : Nat) (q : Nat × va_E), (zmix js ws W1)[k]? = some q → (k ∉ isC ∧ ws[k]? = some q) ∨ ∃ j : Nat, isC[j]? = some k ∧ W1[j]? = some q := by
    intro k q hq
    rcases zmix_get js ws W1 k q hq with ⟨h1, h2⟩ | ⟨j, w, h1, h2, h3⟩
    · exact Or.inl ⟨zck_out hck h2, h1⟩
    · have h4 := zck_in hck h1
      have h5 : j < W1.length := by rw [← hlen]; exact (List.getElem?_eq_some_iff.mp h4).1
      refine Or.inr ⟨j, h4, ?_⟩
      rw [h3, List.getD_eq_getElem?_getD, List.getElem?_eq_getElem h5]
      rfl
  refine ⟨fun k q hq => ?_, fun i j x y hi hj hxy => ?_, fun k q hq => ?_⟩
  · rcases get k q hq with ⟨h1, h2⟩ | ⟨j, h1, h2⟩
    · obtain ⟨g1, g2⟩ := apart k q h1 h2
      exact (hP k q h2).kept (hk q.1 g1 g2)
    · exact hP1 j q h2
  · rcases get i x hi with ⟨h1, h2⟩ | ⟨i1, h1, h2⟩ <;> rcases get j y hj with ⟨h3, h4⟩ | ⟨j1, h3, h4⟩
    · exact hD.1 i j x y h2 h4 hxy
    · exact absurd (hD1.2 j1 y h4) (by rw [← hxy]; exact (apart i x h1 h2).2)
    · exact absurd (hD1.2 i1 x h2) (by rw [hxy]; exact (apart j y h3 h4).2)
    · have := hD1.1 i1 j1 x y h2 h4 hxy
      subst this
      exact Option.some.inj (h1.symm.trans h3)
  · rcases get k q hq with ⟨h1, h2⟩ | ⟨j, h1, h2⟩
    · exact hD.2 k q h2
    · exact hF q.1 (hD1.2 j q h2)
/-- .. and where the callee leaves its cells as they were -/
theorem z_worldR {A0 : Nat → Prop} {cl : List vw_C} {W0 : va_W} {H H1 : Heap} (hP : va_P D cl ws H) (hD : va_D A0 ws) (isC : List Nat) (hC : isC.map (fun i => ws[i]?) = W0.map some)
    (hk : ∀ q : Nat, q < H.size → ¬ va_A W0 H.size q → H1[q]? = H[q]?) (hP1 : va_P D cl W0 H1) : va_P D cl ws H1 := by
  intro k q hq
  by_cases hm : k ∈ isC
  · obtain ⟨j, hj⟩ := List.getElem?_of_mem hm
    have h1 : (isC.map (fun i => ws[i]?))[j]? = some (some q) := by rw [List.getElem?_map, hj]; exact congrArg some hq
    rw [hC, List.getElem?_map] at h1
    cases hw : W0[j]? with
    | none => rw [hw] at h1; cases h1
    | some w =>
      rw [hw] at h1
      have e : w = q := Option.some.inj (Option.some.inj h1)
      subst e
      exact hP1 j w hw
  · obtain ⟨g1, g2⟩ := z_apart hP hD isC hC k q hm hq
    exact (hP k q hq).kept (hk q.1 g1 g2)
def zRv (X : sX) (D : va_G) (Cn : String) (b : Nat) (ws : va_W) : Prop := match X with
  | (_, _, s, _, _, _, _, _, _, A) => ∀ (H : Heap) (locs : List Loc), va_P D vwQ ws H → va_S A s.heap H locs → ∃ cellB : Cell, H[b]? = some cellB ∧ cellB.vm.isStatics = false ∧ s.vm.findClass Cn = some cellB.cls
theorem xi_callV0 (C : sC X R D cT nL cc own) {index b maxL np : Nat} {y : MethodName} {bytes : ByteArray} {ret : Option FieldType} {rm : Room} {As : List Value} {W0 W1 ws2 : va_W} {rv : Option Value} {st0 : List Value}
    (hM : sM l y bytes maxL ret rm D cT (.ref b :: As) W0 rv W1) (hc : zC y bytes maxL ret np) (hml : zMl own index y) (hi : zI y) (hR : zRm rm R maxL) (hk : k ≤ R.cells ∧ n ≤ R.slots) (hnp : As.length = np)
    (isC : List Nat) (hC : isC.map (fun i => ws[i]?) = W0.map some) (hn : va_nd isC = true) (hlen : isC.length = W1.length) (js : List (Option Nat)) (hck : zck isC js = true) (hj : zmix js ws W1 = ws2)
    (hrv : zRv X D y.cls b ws) (hst : st0 = As.reverse ++ .ref b :: st) (hroom : (st.map fun v => v.category).sum ≤ 8)
    (hdg : decode cc pc = .ok (.invokevirtual index, 3)) (kk : zN ret rv → sW X l R D nL k n (pc + 3) L (rv.toList ++ st) ws2) : sW X l R D nL k n pc L st0 ws := by
  obtain ⟨p, e, s, m, args, below, meth, c, Q, A⟩ := X
  intro H locs ls hP hD hS hl
  subst hst
  have hF := va_free (wc := W0) hD hS C.2.2.1 isC hC
  have hPc := zsubP hP isC hC
  have hDc := hD.sub isC hn hC
  have hpre : PreV s H y.cls b (zP D cT (.ref b :: As) H.size W0) As := ⟨zP_blind, hrv H locs hP hS, fun U hU hW => ⟨rfl, by rw [hU], by rw [hU]; exact hPc, va_K.moved hW.alike C.2.1, hDc.weaken (fun _ _ _ _ => trivial), by rw [hU]; exact zF_move C.2.2.2.2.1 hS hW hF, zH_move C.2.2.2.2.2 hW⟩⟩
  have hroom' : 2 * (F0 m pc ls (As.reverse ++ .ref b :: st)).monitorRoom + (st.map fun v => v.category).sum ≤ 8 := lv_room hroom
  refine z_after (W0 := W0) (W1 := W1) (rv := rv) (ret := ret) (D := D) (cT := cT) (a := (Value.ref b :: As).toArray) (rest := st) ?_ hS hF (fun H1 locs1 hz hP1 hD1 hs1 hk1 hS1 => ?_)
  · rcases hml with hml | ⟨host, hml⟩
    · exact va_runV C.1 (hM H.size) ⟨callB_of np C.1.2.2.2.2 (zw_good hc.1) rfl hR.1 hR.2.1 (C.1.2.2.2.2 _ hc.2.1) (C.1.2.2.2.2 _ hml) hc.2.2 hR.2.2, C.1.2.2.2.2 _ hi.1, C.1.2.2.2.2 _ hi.2⟩ hpre rfl hnp hl.1 rfl hroom' hdg hk
    · exact va_runVN C.1 (hM H.size) ⟨va_cnB np C.1.2.2.2.2 (zw_good hc.1) rfl hR.1 hR.2.1 (C.2.2.2.2.2 _ hml) (C.1.2.2.2.2 _ hc.2.1) hc.2.2 hR.2.2, C.1.2.2.2.2 _ hi.1, C.1.2.2.2.2 _ hi.2⟩ hpre rfl hnp hl.1 rfl hroom' hdg hk
  · obtain ⟨h1, h2⟩ := z_world hP hD isC hC hlen js hck hj hk1 hF hP1 hD1
    exact kk hz H1 locs1 ls h1 h2 hS1 hl
theorem xi_callV (C : sC X R D cT nL cc own) {index b maxL np : Nat} {y : MethodName} {bytes : ByteArray} {ret : Option FieldType} {rm : Room} {As : List Value} {W0 W1 ws2 : va_W} {rv : Option Value} {ci qr : Nat} {T : u_T} {N : Nat} {fs st0 : List Value}
    (hM : sM l y bytes maxL ret rm D cT (.ref b :: As) W0 rv W1) (hc : zC y bytes maxL ret np) (hml : zMl own index y) (hi : zI y) (hR : zRm rm R maxL) (hk : k ≤ R.cells ∧ n ≤ R.slots) (hnp : As.length = np)
    (isC : List Nat) (hC : isC.map (fun i => ws[i]?) = W0.map some) (hn : va_nd isC = true) (hlen : isC.length = W1.length) (js : List (Option Nat)) (hck : zck isC js = true) (hj : zmix js ws W1 = ws2)
    (hcl : vwQ[ci]? = some (y.cls, T, N)) (hqr : ws[qr]? = some (b, .inr (ci, fs))) (hst : st0 = As.reverse ++ .ref b :: st) (hroom : (st.map fun v => v.category).sum ≤ 8)
    (hdg : decode cc pc = .ok (.invokevirtual index, 3)) (kk : zN ret rv → sW X l R D nL k n (pc + 3) L (rv.toList ++ st) ws2) : sW X l R D nL k n pc L st0 ws := by
  refine xi_callV0 C hM hc hml hi hR hk hnp isC hC hn hlen js hck hj ?_ hst hroom hdg kk
  obtain ⟨p, e, s, m, args, below, meth, c, Q, A⟩ := X
  intro H locs hP hS
  exact va_recv C.2.1 hP hcl hqr
theorem xi_callS (C : sC X R D cT nL cc own) {index maxL np : Nat} {y : MethodName} {bytes : ByteArray} {ret : Option FieldType} {rm : Room} {As : List Value} {W0 W1 ws2 : va_W} {rv : Option Value} {st0 : List Value}
    (hM : sM l y bytes maxL ret rm D cT As W0 rv W1) (hc : zC y bytes maxL ret np) (hml : zMl own index y) (hi : Cond.static y ∈ zG) (hR : zRm rm R maxL) (hk : k ≤ R.cells ∧ n ≤ R.slots) (hnp : As.length = np)
    (isC : List Nat) (hC : isC.map (fun i => ws[i]?) = W0.map some) (hn : va_nd isC = true) (hlen : isC.length = W1.length) (js : List (Option Nat)) (hck : zck isC js = true) (hj : zmix js ws W1 = ws2)
    (hst : st0 = As.reverse ++ st) (hroom : (st.map fun v => v.category).sum ≤ 8)
    (hdg : decode cc pc = .ok (.invokestatic index, 3)) (kk : zN ret rv → sW X l R D nL k n (pc + 3) L (rv.toList ++ st) ws2) : sW X l R D nL k n pc L st0 ws := by
  obtain ⟨p, e, s, m, args, below, meth, c, Q, A⟩ := X
  intro H locs ls hP hD hS hl
  subst hst
  have hF := va_free (wc := W0) hD hS C.2.2.1 isC hC
  have hPc := zsubP hP isC hC
  have hDc := hD.sub isC hn hC
  have hpre : PreS s H (zP D cT As H.size W0) As := ⟨zP_blind, fun U hU hW => ⟨rfl, by rw [hU], by rw [hU]; exact hPc, va_K.moved hW.alike C.2.1, hDc.weaken (fun _ _ _ _ => trivial), by rw [hU]; exact zF_move C.2.2.2.2.1 hS hW hF, zH_move C.2.2.2.2.2 hW⟩⟩
  have hroom' : 2 * (F0 m pc ls (As.reverse ++ st)).monitorRoom + (st.map fun v => v.category).sum ≤ 8 := lv_room hroom
  refine z_after (W0 := W0) (W1 := W1) (rv := rv) (ret := ret) (D := D) (cT := cT) (a := As.toArray) (rest := st) ?_ hS hF (fun H1 locs1 hz hP1 hD1 hs1 hk1 hS1 => ?_)
  · rcases hml with hml | ⟨host, hml⟩
    · exact va_runS C.1 (hM H.size) ⟨callB_of np C.1.2.2.2.2 (zw_good hc.1) rfl hR.1 hR.2.1 (C.1.2.2.2.2 _ hc.2.1) (C.1.2.2.2.2 _ hml) hc.2.2 hR.2.2, C.1.2.2.2.2 _ hi⟩ hpre rfl hnp hl.1 rfl hroom' hdg hk
    · exact va_runSN C.1 (hM H.size) ⟨va_cnB np C.1.2.2.2.2 (zw_good hc.1) rfl hR.1 hR.2.1 (C.2.2.2.2.2 _ hml) (C.1.2.2.2.2 _ hc.2.1) hc.2.2 hR.2.2, C.1.2.2.2.2 _ hi, trivial⟩ hpre rfl hnp hl.1 rfl hroom' hdg hk
  · obtain ⟨h1, h2⟩ := z_world hP hD isC hC hlen js hck hj hk1 hF hP1 hD1
    exact kk hz H1 locs1 ls h1 h2 hS1 hl
theorem xi_callV0r (C : sC X R D cT nL cc own) {index b maxL np : Nat} {y : MethodName} {bytes : ByteArray} {ret : Option FieldType} {rm : Room} {As : List Value} {W0 : va_W} {rv : Option Value} {st0 : List Value}
    (hM : sM l y bytes maxL ret rm D cT (.ref b :: As) W0 rv W0) (hc : zC y bytes maxL ret np) (hml : zMl own index y) (hi : zI y) (hR : zRm rm R maxL) (hk : k ≤ R.cells ∧ n ≤ R.slots) (hnp : As.length = np)
    (isC : List Nat) (hC : isC.map (fun i => ws[i]?) = W0.map some) (hn : va_nd isC = true)
    (hrv : zRv X D y.cls b ws) (hst : st0 = As.reverse ++ .ref b :: st) (hroom : (st.map fun v => v.category).sum ≤ 8)
    (hdg : decode cc pc = .ok (.invokevirtual index, 3)) (kk : zN ret rv → sW X l R D nL k n (pc + 3) L (rv.toList ++ st) ws) : sW X l R D nL k n pc L st0 ws := by
  obtain ⟨p, e, s, m, args, below, meth, c, Q, A⟩ := X
  intro H locs ls hP hD hS hl
  subst hst
  have hF := va_free (wc := W0) hD hS C.2.2.1 isC hC
  have hPc := zsubP hP isC hC
  have hDc := hD.sub isC hn hC
  have hpre : PreV s H y.cls b (zP D cT (.ref b :: As) H.size W0) As := ⟨zP_blind, hrv H locs hP hS, fun U hU hW => ⟨rfl, by rw [hU], by rw [hU]; exact hPc, va_K.moved hW.alike C.2.1, hDc.weaken (fun _ _ _ _ => trivial), by rw [hU]; exact zF_move C.2.2.2.2.1 hS hW hF, zH_move C.2.2.2.2.2 hW⟩⟩
  have hroom' : 2 * (F0 m pc ls (As.reverse ++ .ref b :: st)).monitorRoom + (st.map fun v => v.category).sum ≤ 8 := lv_room hroom
  refine z_after (W0 := W0) (W1 := W0) (rv := rv) (ret := ret) (D := D) (cT := cT) (a := (Value.ref b :: As).toArray) (rest := st) ?_ hS hF (fun H1 locs1 hz hP1 hD1 hs1 hk1 hS1 => ?_)
  · rcases hml with hml | ⟨host, hml⟩
    · exact va_runV C.1 (hM H.size) ⟨callB_of np C.1.2.2.2.2 (zw_good hc.1) rfl hR.1 hR.2.1 (C.1.2.2.2.2 _ hc.2.1) (C.1.2.2.2.2 _ hml) hc.2.2 hR.2.2, C.1.2.2.2.2 _ hi.1, C.1.2.2.2.2 _ hi.2⟩ hpre rfl hnp hl.1 rfl hroom' hdg hk
    · exact va_runVN C.1 (hM H.size) ⟨va_cnB np C.1.2.2.2.2 (zw_good hc.1) rfl hR.1 hR.2.1 (C.2.2.2.2.2 _ hml) (C.1.2.2.2.2 _ hc.2.1) hc.2.2 hR.2.2, C.1.2.2.2.2 _ hi.1, C.1.2.2.2.2 _ hi.2⟩ hpre rfl hnp hl.1 rfl hroom' hdg hk
  · exact kk hz H1 locs1 ls (z_worldR hP hD isC hC hk1 hP1) hD hS1 hl
theorem xi_callVr (C : sC X R D cT nL cc own) {index b maxL np : Nat} {y : MethodName} {bytes : ByteArray} {ret : Option FieldType} {rm : Room} {As : List Value} {W0 : va_W} {rv : Option Value} {ci qr : Nat} {T : u_T} {N : Nat} {fs st0 : List Value}
    (hM : sM l y bytes maxL ret rm D cT (.ref b :: As) W0 rv W0) (hc : zC y bytes maxL ret np) (hml : zMl own index y) (hi : zI y) (hR : zRm rm R maxL) (hk : k ≤ R.cells ∧ n ≤ R.slots) (hnp : As.length = np)
    (isC : List Nat) (hC : isC.map (fun i => ws[i]?) = W0.map some) (hn : va_nd isC = true)
    (hcl : vwQ[ci]? = some (y.cls, T, N)) (hqr : ws[qr]? = some (b, .inr (ci, fs))) (hst : st0 = As.reverse ++ .ref b :: st) (hroom : (st.map fun v => v.category).sum ≤ 8)
    (hdg : decode cc pc = .ok (.invokevirtual index, 3)) (kk : zN ret rv → sW X l R D nL k n (pc + 3) L (rv.toList ++ st) ws) : sW X l R D nL k n pc L st0 ws := by
  refine xi_callV0r C hM hc hml hi hR hk hnp isC hC hn ?_ hst hroom hdg kk
  obtain ⟨p, e, s, m, args, below, meth, c, Q, A⟩ := X
  intro H locs hP hS
  exact va_recv C.2.1 hP hcl hqr
theorem xi_callSr (C : sC X R D cT nL cc own) {index maxL np : Nat} {y : MethodName} {bytes : ByteArray} {ret : Option FieldType} {rm : Room} {As : List Value} {W0 : va_W} {rv : Option Value} {st0 : List Value}
    (hM : sM l y bytes maxL ret rm D cT As W0 rv W0) (hc : zC y bytes maxL ret np) (hml : zMl own index y) (hi : Cond.static y ∈ zG) (hR : zRm rm R maxL) (hk : k ≤ R.cells ∧ n ≤ R.slots) (hnp : As.length = np)
    (isC : List Nat) (hC : isC.map (fun i => ws[i]?) = W0.map some) (hn : va_nd isC = true)
    (hst : st0 = As.reverse ++ st) (hroom : (st.map fun v => v.category).sum ≤ 8)
    (hdg : decode cc pc = .ok (.invokestatic index, 3)) (kk : zN ret rv → sW X l R D nL k n (pc + 3) L (rv.toList ++ st) ws) : sW X l R D nL k n pc L st0 ws := by
  obtain ⟨p, e, s, m, args, below, meth, c, Q, A⟩ := X
  intro H locs ls hP hD hS hl
  subst hst
  have hF := va_free (wc := W0) hD hS C.2.2.1 isC hC
  have hPc := zsubP hP isC hC
  have hDc := hD.sub isC hn hC
  have hpre : PreS s H (zP D cT As H.size W0) As := ⟨zP_blind, fun U hU hW => ⟨rfl, by rw [hU], by rw [hU]; exact hPc, va_K.moved hW.alike C.2.1, hDc.weaken (fun _ _ _ _ => trivial), by rw [hU]; exact zF_move C.2.2.2.2.1 hS hW hF, zH_move C.2.2.2.2.2 hW⟩⟩
  have hroom' : 2 * (F0 m pc ls (As.reverse ++ st)).monitorRoom + (st.map fun v => v.category).sum ≤ 8 := lv_room hroom
  refine z_after (W0 := W0) (W1 := W0) (rv := rv) (ret := ret) (D := D) (cT := cT) (a := As.toArray) (rest := st) ?_ hS hF (fun H1 locs1 hz hP1 hD1 hs1 hk1 hS1 => ?_)
  · rcases hml with hml | ⟨host, hml⟩
    · exact va_runS C.1 (hM H.size) ⟨callB_of np C.1.2.2.2.2 (zw_good hc.1) rfl hR.1 hR.2.1 (C.1.2.2.2.2 _ hc.2.1) (C.1.2.2.2.2 _ hml) hc.2.2 hR.2.2, C.1.2.2.2.2 _ hi⟩ hpre rfl hnp hl.1 rfl hroom' hdg hk
    · exact va_runSN C.1 (hM H.size) ⟨va_cnB np C.1.2.2.2.2 (zw_good hc.1) rfl hR.1 hR.2.1 (C.2.2.2.2.2 _ hml) (C.1.2.2.2.2 _ hc.2.1) hc.2.2 hR.2.2, C.1.2.2.2.2 _ hi, trivial⟩ hpre rfl hnp hl.1 rfl hroom' hdg hk
  · exact kk hz H1 locs1 ls (z_worldR hP hD isC hC hk1 hP1) hD hS1 hl
end Calls10

def zR (k : Nat) : Room := { frames := 4 * k, cells := 0, slots := 0, locals := 100 * k }
theorem zr {a b m : Nat} (h : Nat.blt a b = true) (hm : Nat.ble m 80 = true) : zRm (zR a) (zR b) m := by
  have h1 : a < b := Nat.blt_eq.mp h
  have h2 : m ≤ 80 := Nat.le_of_ble_eq_true hm
  refine ⟨rfl, rfl, ?_, ?_⟩ <;> simp only [zR] <;> omega
theorem z00 {R : Room} : 0 ≤ R.cells ∧ 0 ≤ R.slots := ⟨Nat.zero_le _, Nat.zero_le _⟩
theorem zno {α : Type} {x : α} {P : Prop} (h : none = some x) : P := nomatch h
theorem zv {i : Int32} {N : Nat} (h : decide (¬ (i < 0 ∨ N ≤ i.toNatClampNeg)) = true) : vp_in i N := by
  unfold vp_in
  exact of_decide_eq_true h
section OF
variable {l : Launch} {y : MethodName} {bytes : ByteArray} {maxL : Nat} {rm : Room} {D : va_G} {cT : Nat → ClassId} {av : List Value} {W0 : va_W} {rv : Option Value} {W1 : va_W}
theorem sM_int (hy : plainName y.cls = true) (hlen : (lg_sl av).length ≤ maxL) (body : ∀ X : sX, sC X rm D cT maxL bytes y.cls → (∀ (pc : Nat) (L : List (Nat × Value)) (x : Int32), decode bytes pc = .ok (.ireturn, 1) → some (Value.int x) = rv → sW X l rm D maxL 0 0 pc L [.int x] W1) → sW X l rm D maxL 0 0 0 (lv_args 0 av) [] W0) : sM l y bytes maxL (some .int) rm D cT av W0 rv W1 := sM_of hy hlen body
theorem sM_bool (hy : plainName y.cls = true) (hlen : (lg_sl av).length ≤ maxL) (body : ∀ X : sX, sC X rm D cT maxL bytes y.cls → (∀ (pc : Nat) (L : List (Nat × Value)) (x : Int32), decode bytes pc = .ok (.ireturn, 1) → some (Value.int x) = rv → narrow .boolean (.int x) = .int x → sW X l rm D maxL 0 0 pc L [.int x] W1) → sW X l rm D maxL 0 0 0 (lv_args 0 av) [] W0) : sM l y bytes maxL (some .boolean) rm D cT av W0 rv W1 := sM_of hy hlen body
theorem sM_long (hy : plainName y.cls = true) (hlen : (lg_sl av).length ≤ maxL) (body : ∀ X : sX, sC X rm D cT maxL bytes y.cls → (∀ (pc : Nat) (L : List (Nat × Value)) (x : Int64), decode bytes pc = .ok (.lreturn, 1) → some (Value.long x) = rv → sW X l rm D maxL 0 0 pc L [.long x] W1) → sW X l rm D maxL 0 0 0 (lv_args 0 av) [] W0) : sM l y bytes maxL (some .long) rm D cT av W0 rv W1 := sM_of hy hlen body
theorem sM_void (hy : plainName y.cls = true) (hlen : (lg_sl av).length ≤ maxL) (body : ∀ X : sX, sC X rm D cT maxL bytes y.cls → (∀ (pc : Nat) (L : List (Nat × Value)), decode bytes pc = .ok (.return_, 1) → none = rv → sW X l rm D maxL 0 0 pc L [] W1) → sW X l rm D maxL 0 0 0 (lv_args 0 av) [] W0) : sM l y bytes maxL none rm D cT av W0 rv W1 := sM_of hy hlen body
end OF
section TB
variable {X : sX} {l : Launch} {R : Room} {D : va_G} {cT : Nat → ClassId} {nL k n pc : Nat} {cc : ByteArray} {own : String} {L : List (Nat × Value)} {st : List Value} {ws : va_W}
theorem xi_tabEq (C : sC X R D cT nL cc own) {dflt lo hi : Int} {offs : Array Int} {len : Nat} {x : Int32} {off : Int} {tgt : Nat} (v : Int32) (hx : x = v) (hdg : decode cc pc = .ok (.tableswitch dflt lo hi offs, len)) (h1 : decide (¬ v.toInt < lo) = true) (h2 : decide (¬ hi < v.toInt) = true) (ho : offs[(v.toInt - lo).toNat]? = some off) (ht : (pc : Int) + off = (tgt : Int)) (kk : sW X l R D nL k n tgt L st ws) : sW X l R D nL k n pc L (.int x :: st) ws := by
  subst hx
  exact xi_tableIn C hdg (of_decide_eq_true h1) (of_decide_eq_true h2) ho ht kk
theorem ztab {x : Int32} {lo hi : Int} (hlo : -1000 ≤ lo) (hhi : hi ≤ 1000) (h : ∀ i : Nat, i < (hi - lo + 1).toNat → ¬ x = Int32.ofInt (lo + i)) : x.toInt < lo ∨ hi < x.toInt := by
  rcases Int.lt_or_le x.toInt lo with h1 | h1
  · exact Or.inl h1
  · rcases Int.lt_or_le hi x.toInt with h2 | h2
    · exact Or.inr h2
    · refine absurd ?_ (h (x.toInt - lo).toNat (by omega))
      rw [show lo + ((x.toInt - lo).toNat : Int) = x.toInt by omega]
      exact (Int32.ofInt_toInt x).symm
end TB
