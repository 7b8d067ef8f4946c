theorem zt1 {i : Nat} {w : Cond} (h : tables_1_1[i]? = some w) : w ∈ lw_tbl := List.mem_append_right _ (List.mem_append_right _ (List.mem_append_left _ (List.mem_of_getElem? h)))
theorem zt2 {i : Nat} {w : Cond} (h : tables_1_2[i]? = some w) : w ∈ lw_tbl := List.mem_append_right _ (List.mem_append_right _ (List.mem_append_right _ (List.mem_append_left _ (List.mem_of_getElem? h))))
theorem zt3 {i : Nat} {w : Cond} (h : tables_1_3[i]? = some w) : w ∈ lw_tbl := List.mem_append_right _ (List.mem_append_right _ (List.mem_append_right _ (List.mem_append_right _ (List.mem_append_left _ (List.mem_of_getElem? h)))))
theorem zt4 {i : Nat} {w : Cond} (h : tables_1_4[i]? = some w) : w ∈ lw_tbl := List.mem_append_right _ (List.mem_append_right _ (List.mem_append_right _ (List.mem_append_right _ (List.mem_append_right _ (List.mem_append_left _ (List.mem_of_getElem? h))))))
theorem zt5 {i : Nat} {w : Cond} (h : tables_1_5[i]? = some w) : w ∈ lw_tbl := List.mem_append_right _ (List.mem_append_right _ (List.mem_append_right _ (List.mem_append_right _ (List.mem_append_right _ (List.mem_append_right _ (List.mem_append_left _ (List.mem_of_getElem? h)))))))
theorem zt6 {i : Nat} {w : Cond} (h : tables_1_6[i]? = some w) : w ∈ lw_tbl := List.mem_append_right _ (List.mem_append_right _ (List.mem_append_right _ (List.mem_append_right _ (List.mem_append_right _ (List.mem_append_right _ (List.mem_append_right _ (List.mem_of_getElem? h)))))))
def zfl : List Cond := flatC (Cond.and given_1 narrow_1)
def zWs (own : String) (k : Nat) (bs : List Int32) : List Cond := [Cond.exactly (.string own k) "java/lang/String", Cond.eq (.field (.string own k) "java/lang/String" "coder" "B") (.int 0), Cond.arrayOf (.field (.string own k) "java/lang/String" "value" "[B") .byte, Cond.eq (.length (.field (.string own k) "java/lang/String" "value" "[B")) (.int (Int32.ofNat bs.length))] ++ (List.range bs.length).map (fun j => Cond.eq (.elem (.field (.string own k) "java/lang/String" "value" "[B") (.int (Int32.ofNat j))) (.int (bs.getD j 0)))
def zStr (bs : List Int32) (a v : Nat) (A : Nat → Prop) (s : State) : Prop := va_O "java/lang/String" a A s s.heap ∧ va_OF "java/lang/String" "coder" "B" (.int 0) a A s s.heap ∧ va_OF "java/lang/String" "value" "[B" (.ref v) a A s s.heap ∧ va_T .byte v bs.length (fun j => .int (bs.getD j 0)) A s s.heap
theorem zstr1 {args : Array Value} {s : State} (hq : ∀ w ∈ zfl, w.before args s = true) {own : String} {k : Nat} (bs : List Int32) (hlen : bs.length < 100) (hall : (zWs own k bs).all (fun w => decide (w ∈ zfl)) = true) {A : Nat → Prop} (hA : ∀ a : Nat, a < s.heap.size → ¬ A a) : ∃ a v : Nat, zStr bs a v A s ∧ (Term.string own k).eval args s none [] s = some (.ref a) := by
  have hw : ∀ w ∈ zWs own k bs, w.before args s = true := fun w h => hq w (of_decide_eq_true (List.all_eq_true.mp hall w h))
  obtain ⟨adK, adV, h1, h2⟩ := vk_Sof (N := 1) (tm := fun _ => Term.string own k) (len := [bs.length]) (byt := [bs]) (A := A) (args := args) (s := s)
    (fun i hi => by have : i = 0 := by omega
                    subst this; show bs.length < 2 ^ 31; omega)
    (fun i hi => hw _ (by simp [zWs])) (fun i hi => hw _ (by simp [zWs])) (fun i hi => hw _ (by simp [zWs]))
    (fun i hi => by have : i = 0 := by omega
                    subst this; exact hw _ (by simp [zWs]))
    (fun i hi j hj => by
      have : i = 0 := by omega
      subst this
      exact hw _ (List.mem_append_right _ (List.mem_map.mpr ⟨j, List.mem_range.mpr hj, rfl⟩)))
    (fun i j hi hj h => absurd (show i = j by omega) h) hA
  exact ⟨adK 0, adV 0, h1.1 0 (by decide), h2 0 (by decide)⟩
theorem zne {bs1 bs2 : List Int32} {a1 a2 v1 v2 : Nat} {A : Nat → Prop} {s : State} (h1 : zStr bs1 a1 v1 A s) (h2 : zStr bs2 a2 v2 A s) (j : Nat) (hj1 : j < bs1.length) (hj2 : j < bs2.length) (hd : ¬ bs1.getD j 0 = bs2.getD j 0) : ¬ a1 = a2 := by
  intro e
  subst e
  obtain ⟨cf, k, i, f, cell, p1, p2, p3, p4, p5, p6⟩ := h1.2.2.1
  obtain ⟨cf', k', i', f', cell', q1, q2, q3, q4, q5, q6⟩ := h2.2.2.1
  cases p1.symm.trans q1
  cases p3.symm.trans q3
  cases p5.symm.trans q5
  obtain ⟨c1, r1, r2, r3, r4, r5, r6, r7⟩ := h1.2.2.2
  obtain ⟨c2, t1, t2, t3, t4, t5, t6, t7⟩ := h2.2.2.2
  cases r1.symm.trans t1
  have h := (r6 j hj1).symm.trans (t6 j hj2)
  injection h with h
  injection h with h
  exact hd h
theorem zneL {bs1 bs2 : List Int32} {a1 a2 v1 v2 : Nat} {A : Nat → Prop} {s : State} (h1 : zStr bs1 a1 v1 A s) (h2 : zStr bs2 a2 v2 A s) (hd : ¬ Int32.ofNat bs1.length = Int32.ofNat bs2.length) : ¬ a1 = a2 := by
  intro e
  subst e
  obtain ⟨cf, k, i, f, cell, p1, p2, p3, p4, p5, p6⟩ := h1.2.2.1
  obtain ⟨cf', k', i', f', cell', q1, q2, q3, q4, q5, q6⟩ := h2.2.2.1
  cases p1.symm.trans q1
  cases p3.symm.trans q3
  cases p5.symm.trans q5
  obtain ⟨c1, r1, r2, r3, r4, r5, r6, r7⟩ := h1.2.2.2
  obtain ⟨c2, t1, t2, t3, t4, t5, t6, t7⟩ := h2.2.2.2
  cases r1.symm.trans t1
  exact hd (r5.symm.trans t5)
theorem zarr {args : Array Value} {s : State} {t : FieldType} (hr : ∀ (U : State) (cA : ClassId), U.vm.findClass ("[" ++ t.toString) = some cA → va_RA U cA t) (h : (Cond.arrayClass t).before args s = true) : ∃ cA : ClassId, ArrOfT s cA t ∧ va_RA s cA t := by
  obtain ⟨cA, kA, comp, h1, h2, h3⟩ := Cond.arrayClass_spec h
  exact ⟨cA, fun n z => ⟨fun k h => (by cases h), kA, h2, comp, h3⟩, hr s cA h1⟩
theorem zarrO {args : Array Value} {s : State} {C : String} (h : (Cond.arrayOver (.object C)).before args s = true) : ∃ cA : ClassId, ArrOfT s cA (.object C) ∧ va_RA s cA (.object C) := by
  obtain ⟨comp, c, k, h1, h2, h3, h4, h5⟩ := Cond.arrayOver_spec h
  exact ⟨c, fun n z => ⟨fun k h => (by cases h), k, h3, comp, h4⟩, k, comp, h3, h4, h1, h5⟩
theorem zarrA {s : State} {t : FieldType} (h : va_AOA t s) : ∃ cA : ClassId, ArrOfT s cA (.array t) ∧ va_RA s cA (.array t) := by
  obtain ⟨comp, c, k, h1, h2, h3, h4, h5⟩ := zAOA_spec h
  exact ⟨c, fun n z => ⟨fun k h => (by cases h), k, h3, comp, h4⟩, h5⟩
theorem zmsg {args : Array Value} {s : State} (hq : ∀ w ∈ zfl, w.before args s = true) {own tx : String} {k : Nat} (h1 : (Cond.stringRef own k tx).before args s = true) (h2 : Cond.exactly (.string own k) "java/lang/String" ∈ zfl) : ∃ sa : Nat, vk_R own k tx sa s := by
  obtain ⟨a, c, cA, kA, q1, -⟩ := Cond.exactly_spec (args := args) (first := s) (o := none) (s := s) (idx := []) (t := .string own k) (cls := "java/lang/String") (hq _ h2)
  exact ⟨a, vk_R.of h1 q1⟩
theorem zflT {w : Cond} (h : decide (w ∈ zfl) = true) : w ∈ zfl := of_decide_eq_true h

theorem zws0 : (zWs "NewsExchange$TextReader" 63 [112, 101, 111, 112, 108, 101]).all (fun w => decide (w ∈ zfl)) = true := by decide +kernel
theorem zws1 : (zWs "NewsExchange$TextReader" 72 [108, 105, 110, 101]).all (fun w => decide (w ∈ zfl)) = true := by decide +kernel
theorem zws2 : (zWs "NewsExchange$TextReader" 78 [98, 114, 111, 107, 101, 110]).all (fun w => decide (w ∈ zfl)) = true := by decide +kernel
theorem zws3 : (zWs "NewsExchange$TextReader" 91 [97, 119, 97, 121]).all (fun w => decide (w ∈ zfl)) = true := by decide +kernel
theorem zws4 : (zWs "NewsExchange$TextReader" 112 [102, 111, 114, 116, 104]).all (fun w => decide (w ∈ zfl)) = true := by decide +kernel
theorem zws5 : (zWs "NewsExchange$TextReader" 114 [98, 111, 116, 104]).all (fun w => decide (w ∈ zfl)) = true := by decide +kernel
theorem zws6 : (zWs "NewsExchangeLaw" 43 [112, 101, 111, 112, 108, 101, 32]).all (fun w => decide (w ∈ zfl)) = true := by decide +kernel
theorem zws7 : (zWs "NewsExchangeLaw" 79 [108, 105, 110, 101, 32]).all (fun w => decide (w ∈ zfl)) = true := by decide +kernel
theorem zws8 : (zWs "NewsExchangeLaw" 81 [32, 102, 111, 114, 116, 104, 32]).all (fun w => decide (w ∈ zfl)) = true := by decide +kernel
theorem zws9 : (zWs "NewsExchangeLaw" 83 [32, 98, 111, 116, 104, 32]).all (fun w => decide (w ∈ zfl)) = true := by decide +kernel
theorem zws10 : (zWs "NewsExchangeLaw" 91 [98, 114, 111, 107, 101, 110, 32]).all (fun w => decide (w ∈ zfl)) = true := by decide +kernel
theorem zws11 : (zWs "NewsExchangeLaw" 96 [97, 119, 97, 121, 32]).all (fun w => decide (w ∈ zfl)) = true := by decide +kernel
theorem zmsgs : (zMsg.map (fun q => Cond.exactly (.string q.1 q.2.1) "java/lang/String")).all (fun w => decide (w ∈ zfl)) = true := by decide +kernel
def zOth : List Cond := [Cond.eq (.static "java/lang/String" "COMPACT_STRINGS" "Z") (.int 1), Cond.isRef (.static "jdk/internal/util/Preconditions" "SIOOBE_FORMATTER" "Ljava/util/function/BiFunction;"), Cond.isRef (.static Bundle.tN "UNASSIGNED_STACK" Bundle.steD), Cond.isRef (.static Bundle.tN "SUPPRESSED_SENTINEL" Bundle.listD)]
theorem zoth : zOth.all (fun w => decide (w ∈ zfl)) = true := by decide +kernel
def zSrf : List Cond := zMsg.map (fun q => Cond.stringRef q.1 q.2.1 q.2.2)
theorem zsrf : zSrf.all (fun w => decide (w ∈ tables_1)) = true := by decide +kernel
theorem zdos : (List.range 100).all (fun j => decide (Cond.eq (.elem (.static "java/lang/Integer" "DigitOnes" "[B") (.int (Int32.ofNat j))) (.int (nI (48 + j % 10))) ∈ zfl)) = true := by decide +kernel
theorem zdol : decide (Cond.eq (.length (.static "java/lang/Integer" "DigitOnes" "[B")) (.int (Int32.ofNat 100)) ∈ zfl) = true := by decide +kernel
theorem zdoa : decide (Cond.arrayOf (.static "java/lang/Integer" "DigitOnes" "[B") .byte ∈ zfl) = true := by decide +kernel
theorem zdo {args : Array Value} {s : State} (hq : ∀ w ∈ zfl, w.before args s = true) (hts : ∀ w ∈ lw_tbl, w.before args s = true) (hA : ∀ a : Nat, a < s.heap.size → ¬ (fun q => s.heap.size ≤ q) a) : zDO (fun q => s.heap.size ≤ q) s s.heap := by
  obtain ⟨t, h1, h2⟩ := va_Tof (tm := .static "java/lang/Integer" "DigitOnes" "[B") (ty := .byte) (N := 100) (f := fun j => .int (nI (48 + j % 10))) (by decide) (hq _ (zflT zdoa)) (va_eqt (hq _ (zflT zdol))) (fun j hj => va_eqt (hq _ (zflT (List.all_eq_true.mp zdos j (List.mem_range.mpr hj))))) hA
  exact ⟨t, va_Zof (hts _ (zt3 (i := 72) rfl)) (hts _ (zt1 (i := 22) rfl)) h1 hA, h2⟩
theorem zentry {args : Array Value} {s : State} (hts : ∀ w ∈ lw_tbl, w.before args s = true) (hgv : (Cond.and given_1 narrow_1).before args s = true) : ∃ (D : va_G) (cT : Nat → ClassId), va_K D vwQ (zT cT) s ∧ zF D (fun q => s.heap.size ≤ q) s s.heap ∧ ∀ w ∈ zH, va_Nw w s := by
  have hG : ∀ w ∈ zG, w.before args s = true := fun w h => hts w (List.mem_filter.mp h).1
  have hq : ∀ w ∈ zfl, w.before args s = true := flat_of_before _ hgv
  have hA : ∀ a : Nat, a < s.heap.size → ¬ (fun q => s.heap.size ≤ q) a := fun a h => Nat.not_le.mpr h
  obtain ⟨c0, i0, hKn0⟩ := u_known (C := RX0) (T := TX0) (N := 2) (n := 2) hG zinX0 (hG _ zibX0)
  obtain ⟨c1, i1, hKn1⟩ := u_known (C := RX1) (T := TX1) (N := 8) (n := 8) hG zinX1 (hG _ zibX1)
  obtain ⟨c2, i2, hKn2⟩ := u_known (C := RX2) (T := TX2) (N := 3) (n := 3) hG zinX2 (hG _ zibX2)
  obtain ⟨c3, i3, hKn3⟩ := u_known (C := RX3) (T := TX3) (N := 2) (n := 2) hG zinX3 (hG _ zibX3)
  obtain ⟨c4, i4, hKn4⟩ := u_known (C := RX4) (T := TX4) (N := 4) (n := 4) hG zinX4 (hG _ zibX4)
  obtain ⟨c5, i5, hKn5⟩ := u_known (C := RX5) (T := TX5) (N := 3) (n := 3) hG zinX5 (hG _ zibX5)
  obtain ⟨c6, i6, hKn6⟩ := u_known (C := RX6) (T := TX6) (N := 5) (n := 5) hG zinX6 (hG _ zibX6)
  obtain ⟨c7, i7, hKn7⟩ := u_known (C := RX7) (T := TX7) (N := 6) (n := 6) hG zinX7 (hG _ zibX7)
  obtain ⟨c8, i8, hKn8⟩ := u_known (C := RX8) (T := TX8) (N := 4) (n := 4) hG zinX8 (hG _ zibX8)
  obtain ⟨c9, i9, hKn9⟩ := u_known (C := RX9) (T := TX9) (N := 10) (n := 10) hG zinX9 (hG _ zibX9)
  obtain ⟨c10, i10, hKn10⟩ := u_known (C := RX10) (T := TX10) (N := 10) (n := 10) hG zinX10 (hG _ zibX10)
  obtain ⟨c11, i11, hKn11⟩ := u_known (C := RX11) (T := TX11) (N := 6) (n := 6) hG zinX11 (hG _ zibX11)
  obtain ⟨c12, i12, hKn12⟩ := u_known (C := RX12) (T := TX12) (N := 12) (n := 12) hG zinX12 (hG _ zibX12)
  obtain ⟨c13, i13, hKn13⟩ := u_known (C := RJ0) (T := TJ0) (N := 4) (n := 4) hG zinJ0 (hG _ zibJ0)
  obtain ⟨c14, i14, hKn14⟩ := u_known (C := RJ4) (T := TJ4) (N := 4) (n := 4) hG zinJ4 (hG _ zibJ4)
  obtain ⟨t0, hT0⟩ := zarr (t := .int) (fun _ _ h => h) (hts _ (zt1 (i := 71) rfl))
  obtain ⟨t1, hT1⟩ := zarr (t := .long) (fun _ _ h => h) (hts _ (zt1 (i := 228) rfl))
  obtain ⟨t2, hT2⟩ := zarr (t := .byte) (fun _ _ h => h) (hts _ (zt1 (i := 70) rfl))
  obtain ⟨t3, hT3⟩ := zarr (t := .boolean) (fun _ _ h => h) (hts _ (zt1 (i := 72) rfl))
  have hoS := hts _ (zt1 (i := 203) rfl)
  have hoN := hts _ (zt2 (i := 21) rfl)
  have hoA := hts _ (zt2 (i := 23) rfl)
  have hoL := hts _ (zt2 (i := 124) rfl)
  obtain ⟨t7, hT7⟩ := zarrO hoL
  obtain ⟨t4, hT4⟩ := zarrO hoS
  obtain ⟨t5, hT5⟩ := zarrO hoN
  obtain ⟨t6, hT6⟩ := zarrA (va_AOA.of hoA)
  obtain ⟨a0, v0, hS0, hE0⟩ := zstr1 hq [112, 101, 111, 112, 108, 101] (by decide) zws0 hA
  obtain ⟨a1, v1, hS1, hE1⟩ := zstr1 hq [108, 105, 110, 101] (by decide) zws1 hA
  obtain ⟨a2, v2, hS2, hE2⟩ := zstr1 hq [98, 114, 111, 107, 101, 110] (by decide) zws2 hA
  obtain ⟨a3, v3, hS3, hE3⟩ := zstr1 hq [97, 119, 97, 121] (by decide) zws3 hA
  obtain ⟨a4, v4, hS4, hE4⟩ := zstr1 hq [102, 111, 114, 116, 104] (by decide) zws4 hA
  obtain ⟨a5, v5, hS5, hE5⟩ := zstr1 hq [98, 111, 116, 104] (by decide) zws5 hA
  obtain ⟨a6, v6, hS6, hE6⟩ := zstr1 hq [112, 101, 111, 112, 108, 101, 32] (by decide) zws6 hA
  obtain ⟨a7, v7, hS7, hE7⟩ := zstr1 hq [108, 105, 110, 101, 32] (by decide) zws7 hA
  obtain ⟨a8, v8, hS8, hE8⟩ := zstr1 hq [32, 102, 111, 114, 116, 104, 32] (by decide) zws8 hA
  obtain ⟨a9, v9, hS9, hE9⟩ := zstr1 hq [32, 98, 111, 116, 104, 32] (by decide) zws9 hA
  obtain ⟨a10, v10, hS10, hE10⟩ := zstr1 hq [98, 114, 111, 107, 101, 110, 32] (by decide) zws10 hA
  obtain ⟨a11, v11, hS11, hE11⟩ := zstr1 hq [97, 119, 97, 121, 32] (by decide) zws11 hA
  refine ⟨(fun k => ([c0, c1, c2, c3, c4, c5, c6, c7, c8, c9, c10, c11, c12, c13, c14] : List ClassId).getD k 0, fun k => if k = 100 then (fun i => ([a0, a1, a2, a3, a4, a5, a6, a7, a8, a9, a10, a11] : List Nat).getD i 0) else if k = 101 then (fun i => ([v0, v1, v2, v3, v4, v5, v6, v7, v8, v9, v10, v11] : List Nat).getD i 0) else ([i0, i1, i2, i3, i4, i5, i6, i7, i8, i9, i10, i11, i12, i13, i14] : List (Nat → Nat)).getD k (fun _ => 0)), fun k => ([t0, t1, t2, t3, t4, t5, t6, t7] : List ClassId).getD k 0, ⟨fun k q hk => ?_, fun k q hk => ?_⟩, ?_, fun w hw => ?_⟩
  · match k, hk with
    | 0, hk => cases hk; exact hKn0
    | 1, hk => cases hk; exact hKn1
    | 2, hk => cases hk; exact hKn2
    | 3, hk => cases hk; exact hKn3
    | 4, hk => cases hk; exact hKn4
    | 5, hk => cases hk; exact hKn5
    | 6, hk => cases hk; exact hKn6
    | 7, hk => cases hk; exact hKn7
    | 8, hk => cases hk; exact hKn8
    | 9, hk => cases hk; exact hKn9
    | 10, hk => cases hk; exact hKn10
    | 11, hk => cases hk; exact hKn11
    | 12, hk => cases hk; exact hKn12
    | 13, hk => cases hk; exact hKn13
    | 14, hk => cases hk; exact hKn14
    | k + 15, hk => simp [vwQ] at hk
  · match k, hk with
    | 0, hk => cases hk; exact hT0
    | 1, hk => cases hk; exact hT1
    | 2, hk => cases hk; exact hT2
    | 3, hk => cases hk; exact hT3
    | 4, hk => cases hk; exact hT4
    | 5, hk => cases hk; exact hT5
    | 6, hk => cases hk; exact hT6
    | 7, hk => cases hk; exact hT7
    | k + 8, hk => simp [zT] at hk
  · refine ⟨⟨fun i hi => ?_, fun i j hi hj e => ?_⟩, fun q hm => ?_, fun q hm => ?_, va_Zof (hts _ (zt2 (i := 93) rfl)) (hts _ (zt1 (i := 13) rfl)) (va_eqt (hq _ (of_decide_eq_true (List.all_eq_true.mp zoth _ (List.mem_of_getElem? (i := 0) rfl))))) hA, va_Zqof (hts _ (zt3 (i := 2) rfl)) (hts _ (zt1 (i := 20) rfl)) (hq _ (of_decide_eq_true (List.all_eq_true.mp zoth _ (List.mem_of_getElem? (i := 1) rfl)))) hA, vx_Zqof (hts _ (zt4 (i := 21) rfl)) (hts _ (zt1 (i := 24) rfl)) (hq _ (of_decide_eq_true (List.all_eq_true.mp zoth _ (List.mem_of_getElem? (i := 2) rfl)))) hA, vx_Zqof (hts _ (zt4 (i := 23) rfl)) (hts _ (zt1 (i := 24) rfl)) (hq _ (of_decide_eq_true (List.all_eq_true.mp zoth _ (List.mem_of_getElem? (i := 3) rfl)))) hA, va_AO.of hoS, ⟨va_AO.of hoN, va_AO.of hoL⟩, va_AOA.of hoA, fun q hm => ?_, ?_⟩
    · match i, hi with
      | 0, hi => exact hS0
      | 1, hi => exact hS1
      | 2, hi => exact hS2
      | 3, hi => exact hS3
      | 4, hi => exact hS4
      | 5, hi => exact hS5
      | 6, hi => exact hS6
      | 7, hi => exact hS7
      | 8, hi => exact hS8
      | 9, hi => exact hS9
      | 10, hi => exact hS10
      | 11, hi => exact hS11
      | i + 12, hi => omega
    · rcases (show i = 0 ∨ i = 1 ∨ i = 2 ∨ i = 3 ∨ i = 4 ∨ i = 5 ∨ i = 6 ∨ i = 7 ∨ i = 8 ∨ i = 9 ∨ i = 10 ∨ i = 11 by omega) with rfl | rfl | rfl | rfl | rfl | rfl | rfl | rfl | rfl | rfl | rfl | rfl
      · rcases (show j = 0 ∨ j = 1 ∨ j = 2 ∨ j = 3 ∨ j = 4 ∨ j = 5 ∨ j = 6 ∨ j = 7 ∨ j = 8 ∨ j = 9 ∨ j = 10 ∨ j = 11 by omega) with rfl | rfl | rfl | rfl | rfl | rfl | rfl | rfl | rfl | rfl | rfl | rfl
        · rfl
        · exact absurd (show a0 = a1 from e) (zne hS0 hS1 0 (by decide) (by decide) (by decide))
        · exact absurd (show a0 = a2 from e) (zne hS0 hS2 0 (by decide) (by decide) (by decide))
        · exact absurd (show a0 = a3 from e) (zne hS0 hS3 0 (by decide) (by decide) (by decide))
        · exact absurd (show a0 = a4 from e) (zne hS0 hS4 0 (by decide) (by decide) (by decide))
        · exact absurd (show a0 = a5 from e) (zne hS0 hS5 0 (by decide) (by decide) (by decide))
        · exact absurd (show a0 = a6 from e) (zneL hS0 hS6 (by decide))
        · exact absurd (show a0 = a7 from e) (zne hS0 hS7 0 (by decide) (by decide) (by decide))
        · exact absurd (show a0 = a8 from e) (zne hS0 hS8 0 (by decide) (by decide) (by decide))
        · exact absurd (show a0 = a9 from e) (zne hS0 hS9 0 (by decide) (by decide) (by decide))
        · exact absurd (show a0 = a10 from e) (zne hS0 hS10 0 (by decide) (by decide) (by decide))
        · exact absurd (show a0 = a11 from e) (zne hS0 hS11 0 (by decide) (by decide) (by decide))
      · rcases (show j = 0 ∨ j = 1 ∨ j = 2 ∨ j = 3 ∨ j = 4 ∨ j = 5 ∨ j = 6 ∨ j = 7 ∨ j = 8 ∨ j = 9 ∨ j = 10 ∨ j = 11 by omega) with rfl | rfl | rfl | rfl | rfl | rfl | rfl | rfl | rfl | rfl | rfl | rfl
        · exact absurd (show a1 = a0 from e) (zne hS1 hS0 0 (by decide) (by decide) (by decide))
        · rfl
        · exact absurd (show a1 = a2 from e) (zne hS1 hS2 0 (by decide) (by decide) (by decide))
        · exact absurd (show a1 = a3 from e) (zne hS1 hS3 0 (by decide) (by decide) (by decide))
        · exact absurd (show a1 = a4 from e) (zne hS1 hS4 0 (by decide) (by decide) (by decide))
        · exact absurd (show a1 = a5 from e) (zne hS1 hS5 0 (by decide) (by decide) (by decide))
        · exact absurd (show a1 = a6 from e) (zne hS1 hS6 0 (by decide) (by decide) (by decide))
        · exact absurd (show a1 = a7 from e) (zneL hS1 hS7 (by decide))
        · exact absurd (show a1 = a8 from e) (zne hS1 hS8 0 (by decide) (by decide) (by decide))
        · exact absurd (show a1 = a9 from e) (zne hS1 hS9 0 (by decide) (by decide) (by decide))
        · exact absurd (show a1 = a10 from e) (zne hS1 hS10 0 (by decide) (by decide) (by decide))
        · exact absurd (show a1 = a11 from e) (zne hS1 hS11 0 (by decide) (by decide) (by decide))
      · rcases (show j = 0 ∨ j = 1 ∨ j = 2 ∨ j = 3 ∨ j = 4 ∨ j = 5 ∨ j = 6 ∨ j = 7 ∨ j = 8 ∨ j = 9 ∨ j = 10 ∨ j = 11 by omega) with rfl | rfl | rfl | rfl | rfl | rfl | rfl | rfl | rfl | rfl | rfl | rfl
        · exact absurd (show a2 = a0 from e) (zne hS2 hS0 0 (by decide) (by decide) (by decide))
        · exact absurd (show a2 = a1 from e) (zne hS2 hS1 0 (by decide) (by decide) (by decide))
        · rfl
        · exact absurd (show a2 = a3 from e) (zne hS2 hS3 0 (by decide) (by decide) (by decide))
        · exact absurd (show a2 = a4 from e) (zne hS2 hS4 0 (by decide) (by decide) (by decide))
        · exact absurd (show a2 = a5 from e) (zne hS2 hS5 1 (by decide) (by decide) (by decide))
        · exact absurd (show a2 = a6 from e) (zne hS2 hS6 0 (by decide) (by decide) (by decide))
        · exact absurd (show a2 = a7 from e) (zne hS2 hS7 0 (by decide) (by decide) (by decide))
        · exact absurd (show a2 = a8 from e) (zne hS2 hS8 0 (by decide) (by decide) (by decide))
        · exact absurd (show a2 = a9 from e) (zne hS2 hS9 0 (by decide) (by decide) (by decide))
        · exact absurd (show a2 = a10 from e) (zneL hS2 hS10 (by decide))
        · exact absurd (show a2 = a11 from e) (zne hS2 hS11 0 (by decide) (by decide) (by decide))
      · rcases (show j = 0 ∨ j = 1 ∨ j = 2 ∨ j = 3 ∨ j = 4 ∨ j = 5 ∨ j = 6 ∨ j = 7 ∨ j = 8 ∨ j = 9 ∨ j = 10 ∨ j = 11 by omega) with rfl | rfl | rfl | rfl | rfl | rfl | rfl | rfl | rfl | rfl | rfl | rfl
        · exact absurd (show a3 = a0 from e) (zne hS3 hS0 0 (by decide) (by decide) (by decide))
        · exact absurd (show a3 = a1 from e) (zne hS3 hS1 0 (by decide) (by decide) (by decide))
        · exact absurd (show a3 = a2 from e) (zne hS3 hS2 0 (by decide) (by decide) (by decide))
        · rfl
        · exact absurd (show a3 = a4 from e) (zne hS3 hS4 0 (by decide) (by decide) (by decide))
        · exact absurd (show a3 = a5 from e) (zne hS3 hS5 0 (by decide) (by decide) (by decide))
        · exact absurd (show a3 = a6 from e) (zne hS3 hS6 0 (by decide) (by decide) (by decide))
        · exact absurd (show a3 = a7 from e) (zne hS3 hS7 0 (by decide) (by decide) (by decide))
        · exact absurd (show a3 = a8 from e) (zne hS3 hS8 0 (by decide) (by decide) (by decide))
        · exact absurd (show a3 = a9 from e) (zne hS3 hS9 0 (by decide) (by decide) (by decide))
        · exact absurd (show a3 = a10 from e) (zne hS3 hS10 0 (by decide) (by decide) (by decide))
        · exact absurd (show a3 = a11 from e) (zneL hS3 hS11 (by decide))
      · rcases (show j = 0 ∨ j = 1 ∨ j = 2 ∨ j = 3 ∨ j = 4 ∨ j = 5 ∨ j = 6 ∨ j = 7 ∨ j = 8 ∨ j = 9 ∨ j = 10 ∨ j = 11 by omega) with rfl | rfl | rfl | rfl | rfl | rfl | rfl | rfl | rfl | rfl | rfl | rfl
        · exact absurd (show a4 = a0 from e) (zne hS4 hS0 0 (by decide) (by decide) (by decide))
        · exact absurd (show a4 = a1 from e) (zne hS4 hS1 0 (by decide) (by decide) (by decide))
        · exact absurd (show a4 = a2 from e) (zne hS4 hS2 0 (by decide) (by decide) (by decide))
        · exact absurd (show a4 = a3 from e) (zne hS4 hS3 0 (by decide) (by decide) (by decide))
        · rfl
        · exact absurd (show a4 = a5 from e) (zne hS4 hS5 0 (by decide) (by decide) (by decide))
        · exact absurd (show a4 = a6 from e) (zne hS4 hS6 0 (by decide) (by decide) (by decide))
        · exact absurd (show a4 = a7 from e) (zne hS4 hS7 0 (by decide) (by decide) (by decide))
        · exact absurd (show a4 = a8 from e) (zne hS4 hS8 0 (by decide) (by decide) (by decide))
        · exact absurd (show a4 = a9 from e) (zne hS4 hS9 0 (by decide) (by decide) (by decide))
        · exact absurd (show a4 = a10 from e) (zne hS4 hS10 0 (by decide) (by decide) (by decide))
        · exact absurd (show a4 = a11 from e) (zne hS4 hS11 0 (by decide) (by decide) (by decide))
      · rcases (show j = 0 ∨ j = 1 ∨ j = 2 ∨ j = 3 ∨ j = 4 ∨ j = 5 ∨ j = 6 ∨ j = 7 ∨ j = 8 ∨ j = 9 ∨ j = 10 ∨ j = 11 by omega) with rfl | rfl | rfl | rfl | rfl | rfl | rfl | rfl | rfl | rfl | rfl | rfl
        · exact absurd (show a5 = a0 from e) (zne hS5 hS0 0 (by decide) (by decide) (by decide))
        · exact absurd (show a5 = a1 from e) (zne hS5 hS1 0 (by decide) (by decide) (by decide))
        · exact absurd (show a5 = a2 from e) (zne hS5 hS2 1 (by decide) (by decide) (by decide))
        · exact absurd (show a5 = a3 from e) (zne hS5 hS3 0 (by decide) (by decide) (by decide))
        · exact absurd (show a5 = a4 from e) (zne hS5 hS4 0 (by decide) (by decide) (by decide))
        · rfl
        · exact absurd (show a5 = a6 from e) (zne hS5 hS6 0 (by decide) (by decide) (by decide))
        · exact absurd (show a5 = a7 from e) (zne hS5 hS7 0 (by decide) (by decide) (by decide))
        · exact absurd (show a5 = a8 from e) (zne hS5 hS8 0 (by decide) (by decide) (by decide))
        · exact absurd (show a5 = a9 from e) (zne hS5 hS9 0 (by decide) (by decide) (by decide))
        · exact absurd (show a5 = a10 from e) (zne hS5 hS10 1 (by decide) (by decide) (by decide))
        · exact absurd (show a5 = a11 from e) (zne hS5 hS11 0 (by decide) (by decide) (by decide))
      · rcases (show j = 0 ∨ j = 1 ∨ j = 2 ∨ j = 3 ∨ j = 4 ∨ j = 5 ∨ j = 6 ∨ j = 7 ∨ j = 8 ∨ j = 9 ∨ j = 10 ∨ j = 11 by omega) with rfl | rfl | rfl | rfl | rfl | rfl | rfl | rfl | rfl | rfl | rfl | rfl
        · exact absurd (show a6 = a0 from e) (zneL hS6 hS0 (by decide))
        · exact absurd (show a6 = a1 from e) (zne hS6 hS1 0 (by decide) (by decide) (by decide))
        · exact absurd (show a6 = a2 from e) (zne hS6 hS2 0 (by decide) (by decide) (by decide))
        · exact absurd (show a6 = a3 from e) (zne hS6 hS3 0 (by decide) (by decide) (by decide))
        · exact absurd (show a6 = a4 from e) (zne hS6 hS4 0 (by decide) (by decide) (by decide))
        · exact absurd (show a6 = a5 from e) (zne hS6 hS5 0 (by decide) (by decide) (by decide))
        · rfl
        · exact absurd (show a6 = a7 from e) (zne hS6 hS7 0 (by decide) (by decide) (by decide))
        · exact absurd (show a6 = a8 from e) (zne hS6 hS8 0 (by decide) (by decide) (by decide))
        · exact absurd (show a6 = a9 from e) (zne hS6 hS9 0 (by decide) (by decide) (by decide))
        · exact absurd (show a6 = a10 from e) (zne hS6 hS10 0 (by decide) (by decide) (by decide))
        · exact absurd (show a6 = a11 from e) (zne hS6 hS11 0 (by decide) (by decide) (by decide))
      · rcases (show j = 0 ∨ j = 1 ∨ j = 2 ∨ j = 3 ∨ j = 4 ∨ j = 5 ∨ j = 6 ∨ j = 7 ∨ j = 8 ∨ j = 9 ∨ j = 10 ∨ j = 11 by omega) with rfl | rfl | rfl | rfl | rfl | rfl | rfl | rfl | rfl | rfl | rfl | rfl
        · exact absurd (show a7 = a0 from e) (zne hS7 hS0 0 (by decide) (by decide) (by decide))
        · exact absurd (show a7 = a1 from e) (zneL hS7 hS1 (by decide))
        · exact absurd (show a7 = a2 from e) (zne hS7 hS2 0 (by decide) (by decide) (by decide))
        · exact absurd (show a7 = a3 from e) (zne hS7 hS3 0 (by decide) (by decide) (by decide))
        · exact absurd (show a7 = a4 from e) (zne hS7 hS4 0 (by decide) (by decide) (by decide))
        · exact absurd (show a7 = a5 from e) (zne hS7 hS5 0 (by decide) (by decide) (by decide))
        · exact absurd (show a7 = a6 from e) (zne hS7 hS6 0 (by decide) (by decide) (by decide))
        · rfl
        · exact absurd (show a7 = a8 from e) (zne hS7 hS8 0 (by decide) (by decide) (by decide))
        · exact absurd (show a7 = a9 from e) (zne hS7 hS9 0 (by decide) (by decide) (by decide))
        · exact absurd (show a7 = a10 from e) (zne hS7 hS10 0 (by decide) (by decide) (by decide))
        · exact absurd (show a7 = a11 from e) (zne hS7 hS11 0 (by decide) (by decide) (by decide))
      · rcases (show j = 0 ∨ j = 1 ∨ j = 2 ∨ j = 3 ∨ j = 4 ∨ j = 5 ∨ j = 6 ∨ j = 7 ∨ j = 8 ∨ j = 9 ∨ j = 10 ∨ j = 11 by omega) with rfl | rfl | rfl | rfl | rfl | rfl | rfl | rfl | rfl | rfl | rfl | rfl
        · exact absurd (show a8 = a0 from e) (zne hS8 hS0 0 (by decide) (by decide) (by decide))
        · exact absurd (show a8 = a1 from e) (zne hS8 hS1 0 (by decide) (by decide) (by decide))
        · exact absurd (show a8 = a2 from e) (zne hS8 hS2 0 (by decide) (by decide) (by decide))
        · exact absurd (show a8 = a3 from e) (zne hS8 hS3 0 (by decide) (by decide) (by decide))
        · exact absurd (show a8 = a4 from e) (zne hS8 hS4 0 (by decide) (by decide) (by decide))
        · exact absurd (show a8 = a5 from e) (zne hS8 hS5 0 (by decide) (by decide) (by decide))
        · exact absurd (show a8 = a6 from e) (zne hS8 hS6 0 (by decide) (by decide) (by decide))
        · exact absurd (show a8 = a7 from e) (zne hS8 hS7 0 (by decide) (by decide) (by decide))
        · rfl
        · exact absurd (show a8 = a9 from e) (zne hS8 hS9 1 (by decide) (by decide) (by decide))
        · exact absurd (show a8 = a10 from e) (zne hS8 hS10 0 (by decide) (by decide) (by decide))
        · exact absurd (show a8 = a11 from e) (zne hS8 hS11 0 (by decide) (by decide) (by decide))
      · rcases (show j = 0 ∨ j = 1 ∨ j = 2 ∨ j = 3 ∨ j = 4 ∨ j = 5 ∨ j = 6 ∨ j = 7 ∨ j = 8 ∨ j = 9 ∨ j = 10 ∨ j = 11 by omega) with rfl | rfl | rfl | rfl | rfl | rfl | rfl | rfl | rfl | rfl | rfl | rfl
        · exact absurd (show a9 = a0 from e) (zne hS9 hS0 0 (by decide) (by decide) (by decide))
        · exact absurd (show a9 = a1 from e) (zne hS9 hS1 0 (by decide) (by decide) (by decide))
        · exact absurd (show a9 = a2 from e) (zne hS9 hS2 0 (by decide) (by decide) (by decide))
        · exact absurd (show a9 = a3 from e) (zne hS9 hS3 0 (by decide) (by decide) (by decide))
        · exact absurd (show a9 = a4 from e) (zne hS9 hS4 0 (by decide) (by decide) (by decide))
        · exact absurd (show a9 = a5 from e) (zne hS9 hS5 0 (by decide) (by decide) (by decide))
        · exact absurd (show a9 = a6 from e) (zne hS9 hS6 0 (by decide) (by decide) (by decide))
        · exact absurd (show a9 = a7 from e) (zne hS9 hS7 0 (by decide) (by decide) (by decide))
        · exact absurd (show a9 = a8 from e) (zne hS9 hS8 1 (by decide) (by decide) (by decide))
        · rfl
        · exact absurd (show a9 = a10 from e) (zne hS9 hS10 0 (by decide) (by decide) (by decide))
        · exact absurd (show a9 = a11 from e) (zne hS9 hS11 0 (by decide) (by decide) (by decide))
      · rcases (show j = 0 ∨ j = 1 ∨ j = 2 ∨ j = 3 ∨ j = 4 ∨ j = 5 ∨ j = 6 ∨ j = 7 ∨ j = 8 ∨ j = 9 ∨ j = 10 ∨ j = 11 by omega) with rfl | rfl | rfl | rfl | rfl | rfl | rfl | rfl | rfl | rfl | rfl | rfl
        · exact absurd (show a10 = a0 from e) (zne hS10 hS0 0 (by decide) (by decide) (by decide))
        · exact absurd (show a10 = a1 from e) (zne hS10 hS1 0 (by decide) (by decide) (by decide))
        · exact absurd (show a10 = a2 from e) (zneL hS10 hS2 (by decide))
        · exact absurd (show a10 = a3 from e) (zne hS10 hS3 0 (by decide) (by decide) (by decide))
        · exact absurd (show a10 = a4 from e) (zne hS10 hS4 0 (by decide) (by decide) (by decide))
        · exact absurd (show a10 = a5 from e) (zne hS10 hS5 1 (by decide) (by decide) (by decide))
        · exact absurd (show a10 = a6 from e) (zne hS10 hS6 0 (by decide) (by decide) (by decide))
        · exact absurd (show a10 = a7 from e) (zne hS10 hS7 0 (by decide) (by decide) (by decide))
        · exact absurd (show a10 = a8 from e) (zne hS10 hS8 0 (by decide) (by decide) (by decide))
        · exact absurd (show a10 = a9 from e) (zne hS10 hS9 0 (by decide) (by decide) (by decide))
        · rfl
        · exact absurd (show a10 = a11 from e) (zne hS10 hS11 0 (by decide) (by decide) (by decide))
      · rcases (show j = 0 ∨ j = 1 ∨ j = 2 ∨ j = 3 ∨ j = 4 ∨ j = 5 ∨ j = 6 ∨ j = 7 ∨ j = 8 ∨ j = 9 ∨ j = 10 ∨ j = 11 by omega) with rfl | rfl | rfl | rfl | rfl | rfl | rfl | rfl | rfl | rfl | rfl | rfl
        · exact absurd (show a11 = a0 from e) (zne hS11 hS0 0 (by decide) (by decide) (by decide))
        · exact absurd (show a11 = a1 from e) (zne hS11 hS1 0 (by decide) (by decide) (by decide))
        · exact absurd (show a11 = a2 from e) (zne hS11 hS2 0 (by decide) (by decide) (by decide))
        · exact absurd (show a11 = a3 from e) (zneL hS11 hS3 (by decide))
        · exact absurd (show a11 = a4 from e) (zne hS11 hS4 0 (by decide) (by decide) (by decide))
        · exact absurd (show a11 = a5 from e) (zne hS11 hS5 0 (by decide) (by decide) (by decide))
        · exact absurd (show a11 = a6 from e) (zne hS11 hS6 0 (by decide) (by decide) (by decide))
        · exact absurd (show a11 = a7 from e) (zne hS11 hS7 0 (by decide) (by decide) (by decide))
        · exact absurd (show a11 = a8 from e) (zne hS11 hS8 0 (by decide) (by decide) (by decide))
        · exact absurd (show a11 = a9 from e) (zne hS11 hS9 0 (by decide) (by decide) (by decide))
        · exact absurd (show a11 = a10 from e) (zne hS11 hS10 0 (by decide) (by decide) (by decide))
        · rfl
    · unfold zRefs at hm
      simp only [List.mem_cons, List.not_mem_nil, or_false] at hm
      rcases hm with rfl | rfl | rfl | rfl | rfl | rfl | rfl | rfl | rfl | rfl | rfl | rfl
      · exact vk_R.of (hts _ (zt4 (i := 90) rfl)) hE0
      · exact vk_R.of (hts _ (zt4 (i := 113) rfl)) hE1
      · exact vk_R.of (hts _ (zt4 (i := 122) rfl)) hE4
      · exact vk_R.of (hts _ (zt4 (i := 123) rfl)) hE5
      · exact vk_R.of (hts _ (zt4 (i := 129) rfl)) hE2
      · exact vk_R.of (hts _ (zt4 (i := 143) rfl)) hE3
      · exact vk_R.of (hts _ (zt2 (i := 177) rfl)) hE6
      · exact vk_R.of (hts _ (zt3 (i := 136) rfl)) hE7
      · exact vk_R.of (hts _ (zt3 (i := 137) rfl)) hE8
      · exact vk_R.of (hts _ (zt3 (i := 138) rfl)) hE9
      · exact vk_R.of (hts _ (zt3 (i := 140) rfl)) hE10
      · exact vk_R.of (hts _ (zt3 (i := 141) rfl)) hE11
    · exact zmsg hq (hts _ (List.mem_append_right _ (List.mem_append_right _ (of_decide_eq_true (List.all_eq_true.mp zsrf _ (List.mem_map.mpr ⟨q, hm, rfl⟩)))))) (of_decide_eq_true (List.all_eq_true.mp zmsgs _ (List.mem_map.mpr ⟨q, hm, rfl⟩)))
    · exact absurd hm List.not_mem_nil
    · exact zdo hq hts hA
  · have hm := List.mem_filter.mp hw
    have hb := hts w (List.mem_append_right _ (List.mem_append_right _ hm.1))
    have h2 := hm.2
    cases w <;> first | exact va_Nw.of rfl hb | cases h2
