/-! the law's five that catch -/
section XTF
variable {X : sX} {l : Launch} {R : Room} {D : va_G} {cT : Nat → ClassId} {nL k n pc : Nat} {cc : ByteArray} {own : String} {L : List (Nat × Value)} {st : List Value} {ws : va_W}
theorem xt_callVF (C : sC X R D cT nL cc own) {index b maxL np mc ms : Nat} {y : MethodName} {bytes : ByteArray} {ret : Option FieldType} {rm : Room} {As : List Value} {W0 : va_W} {E : String} {st0 : List Value} {ci qr : Nat} {T : u_T} {N : Nat} {fs : List Value}
    (hM : sT l y bytes maxL ret rm mc ms D cT (.ref b :: As) W0 E) (F : va_W) (hp : ws.Perm (W0 ++ F)) (hc : zC y bytes maxL ret np) (hml : Cond.methodLink own index y ∈ zG) (hi : zI y) (hR : zRmN rm R maxL mc ms) (hk : k + mc ≤ R.cells ∧ n + ms ≤ R.slots) (hnp : As.length = np)
    (hcl : vwQ[ci]? = some (y.cls, T, N)) (hqr : W0[qr]? = some (b, .inr (ci, fs))) (hst : st0 = As.reverse ++ .ref b :: st) (hroom : (st.map fun v => v.category).sum ≤ 8)
    (hdg : decode cc pc = .ok (.invokevirtual index, 3)) (kk : zXW X l R D nL (k + mc) (n + ms) pc L st (W0 ++ F) E) : sW X l R D nL k n pc L st0 ws := by
  refine xi_permL hp ?_
  obtain ⟨p, e, s, m, args, below, meth, c, Q, A⟩ := X
  intro H locs ls hP hD hS hl
  subst hst
  have hF := vaA_A hD hS C.2.2.1
  have hPc : va_P D vwQ W0 H := vaP_mem hP (fun q hq => List.mem_append_left _ hq)
  have hDc : va_D A W0 := vaD_sub hD (List.sublist_append_left W0 F)
  have hpre : PreV s H y.cls b (zP D cT (.ref b :: As) H.size W0) As := ⟨zP_blind, va_recv C.2.1 hPc hcl hqr, fun U hU hW => ⟨rfl, by rw [hU], by rw [hU]; exact hPc, va_K.moved hW.alike C.2.1, hDc.weaken (fun _ _ _ _ => trivial), by rw [hU]; exact zF_move C.2.2.2.2.1 hS hW hF, zH_move C.2.2.2.2.2 hW⟩⟩
  have hroom' : 2 * (F0 m pc ls (As.reverse ++ .ref b :: st)).monitorRoom + (st.map fun v => v.category).sum ≤ 8 := lv_room hroom
  refine z_afterT (mc := mc) (ms := ms) (W0 := W0) (E := E) (D := D) (cT := cT) (a := (Value.ref b :: As).toArray) (rest := st) ?_ hS hF (fun ce q9 H1 locs1 hP1 hs1 hk1 hS1 h1 h2 h3 => ?_)
  · exact vx_runV C.1 (hM H.size) ⟨callB_of np C.1.2.2.2.2 (zw_good hc.1) rfl hR.1 hR.2.1 (C.1.2.2.2.2 _ hc.2.1) (C.1.2.2.2.2 _ hml) hc.2.2 hR.2.2, C.1.2.2.2.2 _ hi.1, C.1.2.2.2.2 _ hi.2⟩ hpre rfl hnp hl.1 rfl hroom' hdg hk
  · obtain ⟨g1, g2⟩ := z_worldF hP hD hk1 hF hP1 hDc.self
    exact kk H1 locs1 ls ce q9 g1 g2 hS1 hl h1 h2 h3
end XTF
theorem sEH_int {l : Launch} {y : MethodName} {bytes : ByteArray} {maxL mc ms : Nat} {hh : List (Nat × Nat × Nat × Nat)} {rm : Room} {D : va_G} {cT : Nat → ClassId} {av : List Value} {W0 : va_W} {Φ : Option Value → va_W → Prop} (hy : plainName y.cls = true) (hlen : (lg_sl av).length ≤ maxL)
    (body : ∀ X : sX, sC X rm D cT maxL bytes y.cls → zTab X hh → (∀ (pc : Nat) (L : List (Nat × Value)) (x : Int32) (W1 : va_W), decode bytes pc = .ok (.ireturn, 1) → Φ (some (.int x)) W1 → sW X l rm D maxL mc ms pc L [.int x] W1) → sW X l rm D maxL 0 0 0 (lv_args 0 av) [] W0) : sE l y (zwW y bytes maxL (some .int) hh) rm mc ms (some .int) D cT av W0 Φ := by
  intro sz
  refine zMetH (cc := bytes) (maxL := maxL) (ret := some .int) (hh := hh) hy rfl ?_
  intro p e s m args below meth c s₁ B hml hv
  obtain ⟨rfl, hsz, hP, hK, hD0, hF0, hN0⟩ := hv
  subst hsz
  have hts := atoms_spec (ws := zwW y bytes maxL (some .int) hh) B.pre
  have hown : s.vm.findClass y.cls = some m.cls := findClass_of_methodNamed B.named
  have hA : ∀ q : Nat, s.heap.size ≤ q → va_A W0 s.heap.size q := fun q h => Or.inr h
  have hlocks := B.notSynchronized
  have hx := B.exec
  have hb := B.bytes
  have hr := B.returns
  have hTb : c.exceptionTable.toList = tableOf hh := vx_table (x := y) B (hts _ List.mem_cons_self)
  have key := body (p, e, s, m, av.toArray, below, meth, c, MQ below (zQE D cT (some .int) s.heap.size W0 Φ) av.toArray s mc ms (va_A W0 s.heap.size), va_A W0 s.heap.size) ⟨⟨hx, hb, hml, hown, fun w hw => hts w (List.mem_cons_of_mem _ hw)⟩, hK, hA, hlocks, hF0, hN0⟩ hTb ?_
  · rw [lg_entry_eq]
    exact key s.heap [] _ hP hD0.self va_S.rf (lv_entry av hlen)
  · intro pc L x W1 hdg hv H locs ls hP1 hD1 hS hl
    exact W.iret hx hb hr (fun t ht hW => ⟨⟨_, W1, hv, rfl, (fun v e1 ty e2 => by cases e1; cases e2; rfl), by rw [ht]; exact hP1, va_K.moved hW.alike hK, hD1⟩, hS.F ht⟩) hS.2.2 hdg

theorem OW_perm {cT : Nat → ClassId} {a_t : Nat} {np : Nat} {nl : Nat} {a : Nat → Nat} {b : Nat → Nat} {c : Nat → Nat} {fw : Nat → Bool} {nb : Nat} {wb : Nat → Nat} {fb : Nat → Nat} {ub : Nat → Nat} {na : Nat} {wa : Nat → Nat} {fa : Nat → Nat} {ua : Nat → Nat} {cut : Nat → Bool} {S : Nat → Bool} {k : Nat → Nat} {rounds : Nat} {calls : Nat} {sp : Nat → Nat} {bh : Nat} {W W2 : va_W} (h : OW cT a_t np nl a b c fw nb wb fb ub na wa fa ua cut S k rounds calls sp bh W) (p : W.Perm W2) : OW cT a_t np nl a b c fw nb wb fb ub na wa fa ua cut S k rounds calls sp bh W2 := by
  obtain ⟨A, AE, I, F, J, O, OE, G, rl, hn, hc, hf, hp0⟩ := h
  exact ⟨A, AE, I, F, J, O, OE, G, rl, hn, hc, hf, p.symm.trans hp0⟩
theorem OW_at {cT : Nat → ClassId} {a_t : Nat} {np : Nat} {nl : Nat} {a : Nat → Nat} {b : Nat → Nat} {c : Nat → Nat} {fw : Nat → Bool} {nb : Nat} {wb : Nat → Nat} {fb : Nat → Nat} {ub : Nat → Nat} {na : Nat} {wa : Nat → Nat} {fa : Nat → Nat} {ua : Nat → Nat} {cut : Nat → Bool} {S : Nat → Bool} {k : Nat → Nat} {rounds : Nat} {calls : Nat} {sp : Nat → Nat} {bh : Nat} {W : va_W} (h : OW cT a_t np nl a b c fw nb wb fb ub na wa fa ua cut S k rounds calls sp bh W) : ∃ (qr : Nat) (fs : List Value), W[qr]? = some (a_t, .inr (10, fs)) := by
  obtain ⟨A, AE, I, F, J, O, OE, G, rl, hn, hc, hf, hp0⟩ := h
  have h1 : (zO cT a_t A AE I F J O OE G rl (nI np) (nI nl) (nI nb) (nI na) (nI rounds) (nI calls) (nI np) (nI bh) (nI hn) (nI hc)).flatten[0]? = some (a_t, .inr (10, [.ref (A 0), .ref (A 1), .ref (A 2), .ref (A 3), .ref (A 4), .ref (A 5), .ref (A 6), .ref (A 7), .ref (A 8), .ref (A 9)])) := rfl
  obtain ⟨qr, hq⟩ := List.getElem?_of_mem (hp0.mem_iff.mpr (List.mem_of_getElem? h1))
  exact ⟨qr, _, hq⟩
theorem zcL_arranges : zCW yL_arranges cL_arranges 3 (some .int) [(0, 5, 6, 197)] 2 := ⟨(zm4 (i := 176) rfl rfl), (zm1 (i := 0) rfl rfl), by decide +kernel⟩
theorem zshL_arranges : Cond.static yL_arranges ∈ zG := (zm4 (i := 175) rfl rfl)
theorem zcL_takesBack : zCW yL_takesBack cL_takesBack 3 (some .int) [(0, 5, 6, 197)] 2 := ⟨(zm5 (i := 48) rfl rfl), (zm1 (i := 0) rfl rfl), by decide +kernel⟩
theorem zshL_takesBack : Cond.static yL_takesBack ∈ zG := (zm5 (i := 47) rfl rfl)
theorem zcL_cuts : zCW yL_cuts cL_cuts 3 (some .int) [(0, 13, 14, 197)] 2 := ⟨(zm5 (i := 56) rfl rfl), (zm1 (i := 0) rfl rfl), by decide +kernel⟩
theorem zshL_cuts : Cond.static yL_cuts ∈ zG := (zm5 (i := 55) rfl rfl)
theorem zcL_mends : zCW yL_mends cL_mends 3 (some .int) [(0, 5, 6, 197)] 2 := ⟨(zm5 (i := 64) rfl rfl), (zm1 (i := 0) rfl rfl), by decide +kernel⟩
theorem zshL_mends : Cond.static yL_mends ∈ zG := (zm5 (i := 63) rfl rfl)
theorem zcL_tells : zCW yL_tells cL_tells 4 (some .int) [(0, 6, 7, 197)] 3 := ⟨(zm5 (i := 124) rfl rfl), (zm1 (i := 0) rfl rfl), by decide +kernel⟩
theorem zshL_tells : Cond.static yL_tells ∈ zG := (zm5 (i := 123) rfl rfl)
theorem zmL_139L : Cond.methodLink RL 139 yL_arranges ∈ zG := (zm4 (i := 174) rfl rfl)
theorem zmL_149L : Cond.methodLink RL 149 yL_takesBack ∈ zG := (zm5 (i := 46) rfl rfl)
theorem zmL_155L : Cond.methodLink RL 155 yL_cuts ∈ zG := (zm5 (i := 54) rfl rfl)
theorem zmL_158L : Cond.methodLink RL 158 yL_mends ∈ zG := (zm5 (i := 62) rfl rfl)
theorem zmL_170L : Cond.methodLink RL 170 yL_tells ∈ zG := (zm5 (i := 122) rfl rfl)
theorem OW_facts {cT : Nat → ClassId} {a_t : Nat} {np : Nat} {nl : Nat} {a : Nat → Nat} {b : Nat → Nat} {c : Nat → Nat} {fw : Nat → Bool} {nb : Nat} {wb : Nat → Nat} {fb : Nat → Nat} {ub : Nat → Nat} {na : Nat} {wa : Nat → Nat} {fa : Nat → Nat} {ua : Nat → Nat} {cut : Nat → Bool} {S : Nat → Bool} {k : Nat → Nat} {rounds : Nat} {calls : Nat} {sp : Nat → Nat} {bh : Nat} {W : va_W} (h : OW cT a_t np nl a b c fw nb wb fb ub na wa fa ua cut S k rounds calls sp bh W) : 2 ≤ np ∧ (∀ l, l < nl → c l ≤ 4) ∧ (∀ l m, l < nl → m < nl → l ≠ m → S l = true → S m = true → a l ≠ a m ∧ a l ≠ b m ∧ b l ≠ a m ∧ b l ≠ b m) ∧ rounds ≤ 100 ∧ sp 0 = 0 := by
  obtain ⟨A, AE, I, F, J, O, OE, G, rl, hn, hc, hf, hp0⟩ := h
  exact ⟨hf.1, hf.2.2.1, hf.2.2.2.2.2.2.1, hf.2.2.2.2.2.2.2.2.1, hf.2.2.2.2.2.2.2.2.2.2.2.1⟩
set_option maxRecDepth 100000 in
set_option maxHeartbeats 4000000 in
theorem kL_arranges_E (l : Launch) (hls : l.stackTraces = false) (D : va_G) (cT : Nat → ClassId) {a_t : Nat} {np : Nat} {nl : Nat} {a : Nat → Nat} {b : Nat → Nat} {c : Nat → Nat} {fw : Nat → Bool} {nb : Nat} {wb : Nat → Nat} {fb : Nat → Nat} {ub : Nat → Nat} {na : Nat} {wa : Nat → Nat} {fa : Nat → Nat} {ua : Nat → Nat} {cut : Nat → Bool} {S : Nat → Bool} {k : Nat → Nat} {rounds : Nat} {calls : Nat} {sp : Nat → Nat} {bh : Nat} {W : va_W} (hW : OW cT a_t np nl a b c fw nb wb fb ub na wa fa ua cut S k rounds calls sp bh W) {q : Nat} (hq : q < nl) (hs : S q = true ∨ ¬ (usb nb na wb fb ub wa fa ua a b cut (rounds + 1) q = true ∧ psn a b S nl (a q) = false ∧ psn a b S nl (b q) = false)) : sE l yL_arranges (zwW yL_arranges cL_arranges 3 (some .int) [(0, 5, 6, 197)]) (zRA 6 1 6) 1 6 (some .int) D cT [.ref a_t, .int (nI q)] W (fun r W2 => r = some (.int (-3)) ∧ OW cT a_t np nl a b c fw nb wb fb ub na wa fa ua cut S k rounds calls sp bh W2) := by
  have hW9 := hW
  obtain ⟨A, AE, I, F, J, O, OE, G, rl, hn, hc, hf, hp0⟩ := hW
  have h2 := hf.1
  have hE := hf.2.1
  have hc4 := hf.2.2.1
  have hb := hf.2.2.2.1
  have ha := hf.2.2.2.2.1
  have hS := hf.2.2.2.2.2.1
  have hF := hf.2.2.2.2.2.2.1
  have hcu := hf.2.2.2.2.2.2.2.1
  have hr := hf.2.2.2.2.2.2.2.2.1
  have hk := hf.2.2.2.2.2.2.2.2.2.1
  have hz := hf.2.2.2.2.2.2.2.2.2.2.1
  have hz0 := hf.2.2.2.2.2.2.2.2.2.2.2.1
  have h0 := hf.2.2.2.2.2.2.2.2.2.2.2.2.1
  have hhn := hf.2.2.2.2.2.2.2.2.2.2.2.2.2.1
  have hhc := hf.2.2.2.2.2.2.2.2.2.2.2.2.2.2.1
  have hbh := hf.2.2.2.2.2.2.2.2.2.2.2.2.2.2.2
  have hnp := hE.1
  have hnl := hE.2.1
  have hv : tX10_arrange_S (nI nl) (F 0) (F 1) (nI nb) (F 4) (F 5) (F 6) (nI na) (F 7) (F 8) (F 9) (I 0) (I 1) (nI rounds) (nI q) = some () := by
    unfold tX10_arrange_S
    rw [reqL hq (by omega), obs, hB_in hS hq (by omega)]
    cases hsq : S q with
    | true => rw [ifT, if_neg one0]
    | false =>
      rw [ifF, if_pos rfl, canV hE hb ha (by omega) hcu hS hq, obs]
      have hno : ¬ (usb nb na wb fb ub wa fa ua a b cut (rounds + 1) q = true ∧ psn a b S nl (a q) = false ∧ psn a b S nl (b q) = false) := hs.resolve_left (fun z => by rw [hsq] at z; exact nofalse z)
      rw [if_neg hno, if_pos rfl]
  have hF1 : (zO cT a_t A AE I F J O OE G rl (nI np) (nI nl) (nI nb) (nI na) (nI rounds) (nI calls) (nI np) (nI bh) (nI hn) (nI hc)).flatten.Perm ([(a_t, .inr (10, [.ref (A 0), .ref (A 1), .ref (A 2), .ref (A 3), .ref (A 4), .ref (A 5), .ref (A 6), .ref (A 7), .ref (A 8), .ref (A 9)])), ((A 1), .inr (1, [.int (nI np), .int (nI nl), .ref (A 10), .ref (A 11), .ref (A 12), .ref (A 13), .ref (A 14), .ref (A 15)])), ((A 10), .inl (cT 0, 24, .inl (F 0))), ((A 11), .inl (cT 0, 24, .inl (F 1))), ((A 14), .inr (8, [.ref (A 17), .ref (A 18), .ref (A 19), .int (nI nb)])), ((A 17), .inl (cT 0, 12, .inl (F 4))), ((A 18), .inl (cT 0, 12, .inl (F 5))), ((A 19), .inl (cT 0, 12, .inl (F 6))), ((A 15), .inr (8, [.ref (A 20), .ref (A 21), .ref (A 22), .int (nI na)])), ((A 20), .inl (cT 0, 12, .inl (F 7))), ((A 21), .inl (cT 0, 12, .inl (F 8))), ((A 22), .inl (cT 0, 12, .inl (F 9))), ((A 2), .inr (7, [.ref (A 16), .int (I 0), .int (I 1), .int (nI rounds), .int (nI calls), va_rf (O 0)]))] ++ (List.map (fun i => (zO cT a_t A AE I F J O OE G rl (nI np) (nI nl) (nI nb) (nI na) (nI rounds) (nI calls) (nI np) (nI bh) (nI hn) (nI hc)).getD i []) [1, 2, 3, 13, 15, 17, 18, 19, 20, 21, 22, 23, 24, 25, 26, 27, 28, 29, 30, 31, 32, 33, 34, 35, 36, 37, 38, 39, 40, 41, 42, 43, 44, 45, 46, 47, 48, 49, 50, 52, 53, 54, 55, 56, 57, 58, 59, 60, 61, 62, 63, 64, 65, 66, 67, 68, 69, 70, 71, 72]).flatten) := permI (bs := zO cT a_t A AE I F J O OE G rl (nI np) (nI nl) (nI nb) (nI na) (nI rounds) (nI calls) (nI np) (nI bh) (nI hn) (nI hc)) (n := 73) rfl [0, 4, 14, 16, 9, 12, 10, 11, 5, 8, 6, 7, 51] [1, 2, 3, 13, 15, 17, 18, 19, 20, 21, 22, 23, 24, 25, 26, 27, 28, 29, 30, 31, 32, 33, 34, 35, 36, 37, 38, 39, 40, 41, 42, 43, 44, 45, 46, 47, 48, 49, 50, 52, 53, 54, 55, 56, 57, 58, 59, 60, 61, 62, 63, 64, 65, 66, 67, 68, 69, 70, 71, 72] (by decide +kernel) rfl rfl
  refine sEH_int rfl (Nat.le_of_ble_eq_true rfl) ?_
  intro X C hT hR
  refine xi_drop (L2 := [(0, .ref a_t), (1, .int (nI q))]) [0, 1] rfl ?_
  refine xi_aload_n C 0 dL_arranges_0 rfl ?_
  refine xi_iload_n C 1 dL_arranges_1 rfl ?_
  refine xt_callVF C (ktX10_arrange_S l hls D cT a_t (A 0) (A 1) (A 2) (A 3) (A 4) (A 5) (A 6) (A 7) (A 8) (A 9) (A 10) (A 11) (A 12) (A 13) (A 14) (A 15) (A 17) (A 18) (A 19) (A 20) (A 21) (A 22) (A 16) (nI np) (nI nl) (F 0) (F 1) (nI nb) (F 4) (F 5) (F 6) (nI na) (F 7) (F 8) (F 9) (I 0) (I 1) (nI rounds) (nI calls) (O 0) (nI q) () hv) _ (hp0.trans hF1) zcX10_arrange (zm4 (i := 178) rfl rfl) ziX10_arrange (zrA rfl rfl) ⟨Nat.le_of_ble_eq_true rfl, Nat.le_of_ble_eq_true rfl⟩ rfl zkX10.1 (qr := 0) rfl rfl (Nat.le_of_ble_eq_true rfl) dL_arranges_2 (zXW_catch C hT [] (0, 5, 6, 197) [] rfl (fun z hz => absurd hz List.not_mem_nil) (by decide) (by decide) zclL_197 (Or.inr (zh4 (i := 207) rfl rfl)) (fun q9 => ?_))
  refine xi_astore_n C [1, 2, 0] (L2 := [(0, .ref a_t), (1, .int (nI q)), (2, .ref q9)]) dL_arranges_6 (Nat.le_of_ble_eq_true rfl) rfl ?_
  refine xi_bipush C (v := (-3)) dL_arranges_7 rfl ?_
  exact hR _ _ _ _ dL_arranges_9 ⟨rfl, OW_perm hW9 (hp0.trans hF1)⟩
set_option maxRecDepth 100000 in
set_option maxHeartbeats 4000000 in
theorem kL_takesBack_E (l : Launch) (hls : l.stackTraces = false) (D : va_G) (cT : Nat → ClassId) {a_t : Nat} {np : Nat} {nl : Nat} {a : Nat → Nat} {b : Nat → Nat} {c : Nat → Nat} {fw : Nat → Bool} {nb : Nat} {wb : Nat → Nat} {fb : Nat → Nat} {ub : Nat → Nat} {na : Nat} {wa : Nat → Nat} {fa : Nat → Nat} {ua : Nat → Nat} {cut : Nat → Bool} {S : Nat → Bool} {k : Nat → Nat} {rounds : Nat} {calls : Nat} {sp : Nat → Nat} {bh : Nat} {W : va_W} (hW : OW cT a_t np nl a b c fw nb wb fb ub na wa fa ua cut S k rounds calls sp bh W) {q : Nat} (hq : q < nl) (hs : S q = false) : sE l yL_takesBack (zwW yL_takesBack cL_takesBack 3 (some .int) [(0, 5, 6, 197)]) (zRA 3 1 6) 1 6 (some .int) D cT [.ref a_t, .int (nI q)] W (fun r W2 => r = some (.int (-3)) ∧ OW cT a_t np nl a b c fw nb wb fb ub na wa fa ua cut S k rounds calls sp bh W2) := by
  have hW9 := hW
  obtain ⟨A, AE, I, F, J, O, OE, G, rl, hn, hc, hf, hp0⟩ := hW
  have h2 := hf.1
  have hE := hf.2.1
  have hc4 := hf.2.2.1
  have hb := hf.2.2.2.1
  have ha := hf.2.2.2.2.1
  have hS := hf.2.2.2.2.2.1
  have hF := hf.2.2.2.2.2.2.1
  have hcu := hf.2.2.2.2.2.2.2.1
  have hr := hf.2.2.2.2.2.2.2.2.1
  have hk := hf.2.2.2.2.2.2.2.2.2.1
  have hz := hf.2.2.2.2.2.2.2.2.2.2.1
  have hz0 := hf.2.2.2.2.2.2.2.2.2.2.2.1
  have h0 := hf.2.2.2.2.2.2.2.2.2.2.2.2.1
  have hhn := hf.2.2.2.2.2.2.2.2.2.2.2.2.2.1
  have hhc := hf.2.2.2.2.2.2.2.2.2.2.2.2.2.2.1
  have hbh := hf.2.2.2.2.2.2.2.2.2.2.2.2.2.2.2
  have hnp := hE.1
  have hnl := hE.2.1
  have hv : tX10_takeBack_S (nI nl) (I 0) (nI q) = some () := by
    unfold tX10_takeBack_S
    rw [reqL hq (by omega), obs, hB_in hS hq (by omega), hs, ifF, if_pos rfl]
  have hF1 : (zO cT a_t A AE I F J O OE G rl (nI np) (nI nl) (nI nb) (nI na) (nI rounds) (nI calls) (nI np) (nI bh) (nI hn) (nI hc)).flatten.Perm ([(a_t, .inr (10, [.ref (A 0), .ref (A 1), .ref (A 2), .ref (A 3), .ref (A 4), .ref (A 5), .ref (A 6), .ref (A 7), .ref (A 8), .ref (A 9)])), ((A 1), .inr (1, [.int (nI np), .int (nI nl), .ref (A 10), .ref (A 11), .ref (A 12), .ref (A 13), .ref (A 14), .ref (A 15)])), ((A 2), .inr (7, [.ref (A 16), .int (I 0), .int (I 1), .int (nI rounds), .int (nI calls), va_rf (O 0)]))] ++ (List.map (fun i => (zO cT a_t A AE I F J O OE G rl (nI np) (nI nl) (nI nb) (nI na) (nI rounds) (nI calls) (nI np) (nI bh) (nI hn) (nI hc)).getD i []) [1, 2, 3, 5, 6, 7, 8, 9, 10, 11, 12, 13, 14, 15, 16, 17, 18, 19, 20, 21, 22, 23, 24, 25, 26, 27, 28, 29, 30, 31, 32, 33, 34, 35, 36, 37, 38, 39, 40, 41, 42, 43, 44, 45, 46, 47, 48, 49, 50, 52, 53, 54, 55, 56, 57, 58, 59, 60, 61, 62, 63, 64, 65, 66, 67, 68, 69, 70, 71, 72]).flatten) := permI (bs := zO cT a_t A AE I F J O OE G rl (nI np) (nI nl) (nI nb) (nI na) (nI rounds) (nI calls) (nI np) (nI bh) (nI hn) (nI hc)) (n := 73) rfl [0, 4, 51] [1, 2, 3, 5, 6, 7, 8, 9, 10, 11, 12, 13, 14, 15, 16, 17, 18, 19, 20, 21, 22, 23, 24, 25, 26, 27, 28, 29, 30, 31, 32, 33, 34, 35, 36, 37, 38, 39, 40, 41, 42, 43, 44, 45, 46, 47, 48, 49, 50, 52, 53, 54, 55, 56, 57, 58, 59, 60, 61, 62, 63, 64, 65, 66, 67, 68, 69, 70, 71, 72] (by decide +kernel) rfl rfl
  refine sEH_int rfl (Nat.le_of_ble_eq_true rfl) ?_
  intro X C hT hR
  refine xi_drop (L2 := [(0, .ref a_t), (1, .int (nI q))]) [0, 1] rfl ?_
  refine xi_aload_n C 0 dL_takesBack_0 rfl ?_
  refine xi_iload_n C 1 dL_takesBack_1 rfl ?_
  refine xt_callVF C (ktX10_takeBack_S l hls D cT a_t (A 0) (A 1) (A 2) (A 3) (A 4) (A 5) (A 6) (A 7) (A 8) (A 9) (A 10) (A 11) (A 12) (A 13) (A 14) (A 15) (A 16) (nI np) (nI nl) (I 0) (I 1) (nI rounds) (nI calls) (O 0) (nI q) () hv) _ (hp0.trans hF1) zcX10_takeBack (zm5 (i := 49) rfl rfl) ziX10_takeBack (zrA rfl rfl) ⟨Nat.le_of_ble_eq_true rfl, Nat.le_of_ble_eq_true rfl⟩ rfl zkX10.1 (qr := 0) rfl rfl (Nat.le_of_ble_eq_true rfl) dL_takesBack_2 (zXW_catch C hT [] (0, 5, 6, 197) [] rfl (fun z hz => absurd hz List.not_mem_nil) (by decide) (by decide) zclL_197 (Or.inr (zh4 (i := 207) rfl rfl)) (fun q9 => ?_))
  refine xi_astore_n C [1, 2, 0] (L2 := [(0, .ref a_t), (1, .int (nI q)), (2, .ref q9)]) dL_takesBack_6 (Nat.le_of_ble_eq_true rfl) rfl ?_
  refine xi_bipush C (v := (-3)) dL_takesBack_7 rfl ?_
  exact hR _ _ _ _ dL_takesBack_9 ⟨rfl, OW_perm hW9 (hp0.trans hF1)⟩
set_option maxRecDepth 100000 in
set_option maxHeartbeats 4000000 in
theorem kL_cuts_E (l : Launch) (hls : l.stackTraces = false) (D : va_G) (cT : Nat → ClassId) {a_t : Nat} {np : Nat} {nl : Nat} {a : Nat → Nat} {b : Nat → Nat} {c : Nat → Nat} {fw : Nat → Bool} {nb : Nat} {wb : Nat → Nat} {fb : Nat → Nat} {ub : Nat → Nat} {na : Nat} {wa : Nat → Nat} {fa : Nat → Nat} {ua : Nat → Nat} {cut : Nat → Bool} {S : Nat → Bool} {k : Nat → Nat} {rounds : Nat} {calls : Nat} {sp : Nat → Nat} {bh : Nat} {W : va_W} (hW : OW cT a_t np nl a b c fw nb wb fb ub na wa fa ua cut S k rounds calls sp bh W) {q : Nat} (hq : q < nl) (hs : cut q = true) : sE l yL_cuts (zwW yL_cuts cL_cuts 3 (some .int) [(0, 13, 14, 197)]) (zRA 3 1 6) 1 6 (some .int) D cT [.ref a_t, .int (nI q)] W (fun r W2 => r = some (.int (-3)) ∧ OW cT a_t np nl a b c fw nb wb fb ub na wa fa ua cut S k rounds calls sp bh W2) := by
  have hW9 := hW
  obtain ⟨A, AE, I, F, J, O, OE, G, rl, hn, hc, hf, hp0⟩ := hW
  have h2 := hf.1
  have hE := hf.2.1
  have hc4 := hf.2.2.1
  have hb := hf.2.2.2.1
  have ha := hf.2.2.2.2.1
  have hS := hf.2.2.2.2.2.1
  have hF := hf.2.2.2.2.2.2.1
  have hcu := hf.2.2.2.2.2.2.2.1
  have hr := hf.2.2.2.2.2.2.2.2.1
  have hk := hf.2.2.2.2.2.2.2.2.2.1
  have hz := hf.2.2.2.2.2.2.2.2.2.2.1
  have hz0 := hf.2.2.2.2.2.2.2.2.2.2.2.1
  have h0 := hf.2.2.2.2.2.2.2.2.2.2.2.2.1
  have hhn := hf.2.2.2.2.2.2.2.2.2.2.2.2.2.1
  have hhc := hf.2.2.2.2.2.2.2.2.2.2.2.2.2.2.1
  have hbh := hf.2.2.2.2.2.2.2.2.2.2.2.2.2.2.2
  have hnp := hE.1
  have hnl := hE.2.1
  have hv : tX10_cut_S (nI nl) (I 1) (nI q) = some () := by
    unfold tX10_cut_S
    rw [reqL hq (by omega), obs, hB_in hcu hq (by omega), hs, ifT, if_neg one0]
  have hF1 : (zO cT a_t A AE I F J O OE G rl (nI np) (nI nl) (nI nb) (nI na) (nI rounds) (nI calls) (nI np) (nI bh) (nI hn) (nI hc)).flatten.Perm ([(a_t, .inr (10, [.ref (A 0), .ref (A 1), .ref (A 2), .ref (A 3), .ref (A 4), .ref (A 5), .ref (A 6), .ref (A 7), .ref (A 8), .ref (A 9)])), ((A 1), .inr (1, [.int (nI np), .int (nI nl), .ref (A 10), .ref (A 11), .ref (A 12), .ref (A 13), .ref (A 14), .ref (A 15)])), ((A 2), .inr (7, [.ref (A 16), .int (I 0), .int (I 1), .int (nI rounds), .int (nI calls), va_rf (O 0)]))] ++ (List.map (fun i => (zO cT a_t A AE I F J O OE G rl (nI np) (nI nl) (nI nb) (nI na) (nI rounds) (nI calls) (nI np) (nI bh) (nI hn) (nI hc)).getD i []) [1, 2, 3, 5, 6, 7, 8, 9, 10, 11, 12, 13, 14, 15, 16, 17, 18, 19, 20, 21, 22, 23, 24, 25, 26, 27, 28, 29, 30, 31, 32, 33, 34, 35, 36, 37, 38, 39, 40, 41, 42, 43, 44, 45, 46, 47, 48, 49, 50, 52, 53, 54, 55, 56, 57, 58, 59, 60, 61, 62, 63, 64, 65, 66, 67, 68, 69, 70, 71, 72]).flatten) := permI (bs := zO cT a_t A AE I F J O OE G rl (nI np) (nI nl) (nI nb) (nI na) (nI rounds) (nI calls) (nI np) (nI bh) (nI hn) (nI hc)) (n := 73) rfl [0, 4, 51] [1, 2, 3, 5, 6, 7, 8, 9, 10, 11, 12, 13, 14, 15, 16, 17, 18, 19, 20, 21, 22, 23, 24, 25, 26, 27, 28, 29, 30, 31, 32, 33, 34, 35, 36, 37, 38, 39, 40, 41, 42, 43, 44, 45, 46, 47, 48, 49, 50, 52, 53, 54, 55, 56, 57, 58, 59, 60, 61, 62, 63, 64, 65, 66, 67, 68, 69, 70, 71, 72] (by decide +kernel) rfl rfl
  refine sEH_int rfl (Nat.le_of_ble_eq_true rfl) ?_
  intro X C hT hR
  refine xi_drop (L2 := [(0, .ref a_t), (1, .int (nI q))]) [0, 1] rfl ?_
  refine xi_aload_n C 0 dL_cuts_0 rfl ?_
  refine xi_iload_n C 1 dL_cuts_1 rfl ?_
  refine xt_callVF C (ktX10_cut_S l hls D cT a_t (A 0) (A 1) (A 2) (A 3) (A 4) (A 5) (A 6) (A 7) (A 8) (A 9) (A 10) (A 11) (A 12) (A 13) (A 14) (A 15) (A 16) (nI np) (nI nl) (I 0) (I 1) (nI rounds) (nI calls) (O 0) (nI q) () hv) _ (hp0.trans hF1) zcX10_cut (zm5 (i := 57) rfl rfl) ziX10_cut (zrA rfl rfl) ⟨Nat.le_of_ble_eq_true rfl, Nat.le_of_ble_eq_true rfl⟩ rfl zkX10.1 (qr := 0) rfl rfl (Nat.le_of_ble_eq_true rfl) dL_cuts_2 (zXW_catch C hT [] (0, 13, 14, 197) [] rfl (fun z hz => absurd hz List.not_mem_nil) (by decide) (by decide) zclL_197 (Or.inr (zh4 (i := 207) rfl rfl)) (fun q9 => ?_))
  refine xi_astore_n C [1, 2, 0] (L2 := [(0, .ref a_t), (1, .int (nI q)), (2, .ref q9)]) dL_cuts_14 (Nat.le_of_ble_eq_true rfl) rfl ?_
  refine xi_bipush C (v := (-3)) dL_cuts_15 rfl ?_
  exact hR _ _ _ _ dL_cuts_17 ⟨rfl, OW_perm hW9 (hp0.trans hF1)⟩
set_option maxRecDepth 100000 in
set_option maxHeartbeats 4000000 in
theorem kL_mends_E (l : Launch) (hls : l.stackTraces = false) (D : va_G) (cT : Nat → ClassId) {a_t : Nat} {np : Nat} {nl : Nat} {a : Nat → Nat} {b : Nat → Nat} {c : Nat → Nat} {fw : Nat → Bool} {nb : Nat} {wb : Nat → Nat} {fb : Nat → Nat} {ub : Nat → Nat} {na : Nat} {wa : Nat → Nat} {fa : Nat → Nat} {ua : Nat → Nat} {cut : Nat → Bool} {S : Nat → Bool} {k : Nat → Nat} {rounds : Nat} {calls : Nat} {sp : Nat → Nat} {bh : Nat} {W : va_W} (hW : OW cT a_t np nl a b c fw nb wb fb ub na wa fa ua cut S k rounds calls sp bh W) {q : Nat} (hq : q < nl) (hs : cut q = false) : sE l yL_mends (zwW yL_mends cL_mends 3 (some .int) [(0, 5, 6, 197)]) (zRA 3 1 6) 1 6 (some .int) D cT [.ref a_t, .int (nI q)] W (fun r W2 => r = some (.int (-3)) ∧ OW cT a_t np nl a b c fw nb wb fb ub na wa fa ua cut S k rounds calls sp bh W2) := by
  have hW9 := hW
  obtain ⟨A, AE, I, F, J, O, OE, G, rl, hn, hc, hf, hp0⟩ := hW
  have h2 := hf.1
  have hE := hf.2.1
  have hc4 := hf.2.2.1
  have hb := hf.2.2.2.1
  have ha := hf.2.2.2.2.1
  have hS := hf.2.2.2.2.2.1
  have hF := hf.2.2.2.2.2.2.1
  have hcu := hf.2.2.2.2.2.2.2.1
  have hr := hf.2.2.2.2.2.2.2.2.1
  have hk := hf.2.2.2.2.2.2.2.2.2.1
  have hz := hf.2.2.2.2.2.2.2.2.2.2.1
  have hz0 := hf.2.2.2.2.2.2.2.2.2.2.2.1
  have h0 := hf.2.2.2.2.2.2.2.2.2.2.2.2.1
  have hhn := hf.2.2.2.2.2.2.2.2.2.2.2.2.2.1
  have hhc := hf.2.2.2.2.2.2.2.2.2.2.2.2.2.2.1
  have hbh := hf.2.2.2.2.2.2.2.2.2.2.2.2.2.2.2
  have hnp := hE.1
  have hnl := hE.2.1
  have hv : tX10_mend_S (nI nl) (I 1) (nI q) = some () := by
    unfold tX10_mend_S
    rw [reqL hq (by omega), obs, hB_in hcu hq (by omega), hs, ifF, if_pos rfl]
  have hF1 : (zO cT a_t A AE I F J O OE G rl (nI np) (nI nl) (nI nb) (nI na) (nI rounds) (nI calls) (nI np) (nI bh) (nI hn) (nI hc)).flatten.Perm ([(a_t, .inr (10, [.ref (A 0), .ref (A 1), .ref (A 2), .ref (A 3), .ref (A 4), .ref (A 5), .ref (A 6), .ref (A 7), .ref (A 8), .ref (A 9)])), ((A 1), .inr (1, [.int (nI np), .int (nI nl), .ref (A 10), .ref (A 11), .ref (A 12), .ref (A 13), .ref (A 14), .ref (A 15)])), ((A 2), .inr (7, [.ref (A 16), .int (I 0), .int (I 1), .int (nI rounds), .int (nI calls), va_rf (O 0)]))] ++ (List.map (fun i => (zO cT a_t A AE I F J O OE G rl (nI np) (nI nl) (nI nb) (nI na) (nI rounds) (nI calls) (nI np) (nI bh) (nI hn) (nI hc)).getD i []) [1, 2, 3, 5, 6, 7, 8, 9, 10, 11, 12, 13, 14, 15, 16, 17, 18, 19, 20, 21, 22, 23, 24, 25, 26, 27, 28, 29, 30, 31, 32, 33, 34, 35, 36, 37, 38, 39, 40, 41, 42, 43, 44, 45, 46, 47, 48, 49, 50, 52, 53, 54, 55, 56, 57, 58, 59, 60, 61, 62, 63, 64, 65, 66, 67, 68, 69, 70, 71, 72]).flatten) := permI (bs := zO cT a_t A AE I F J O OE G rl (nI np) (nI nl) (nI nb) (nI na) (nI rounds) (nI calls) (nI np) (nI bh) (nI hn) (nI hc)) (n := 73) rfl [0, 4, 51] [1, 2, 3, 5, 6, 7, 8, 9, 10, 11, 12, 13, 14, 15, 16, 17, 18, 19, 20, 21, 22, 23, 24, 25, 26, 27, 28, 29, 30, 31, 32, 33, 34, 35, 36, 37, 38, 39, 40, 41, 42, 43, 44, 45, 46, 47, 48, 49, 50, 52, 53, 54, 55, 56, 57, 58, 59, 60, 61, 62, 63, 64, 65, 66, 67, 68, 69, 70, 71, 72] (by decide +kernel) rfl rfl
  refine sEH_int rfl (Nat.le_of_ble_eq_true rfl) ?_
  intro X C hT hR
  refine xi_drop (L2 := [(0, .ref a_t), (1, .int (nI q))]) [0, 1] rfl ?_
  refine xi_aload_n C 0 dL_mends_0 rfl ?_
  refine xi_iload_n C 1 dL_mends_1 rfl ?_
  refine xt_callVF C (ktX10_mend_S l hls D cT a_t (A 0) (A 1) (A 2) (A 3) (A 4) (A 5) (A 6) (A 7) (A 8) (A 9) (A 10) (A 11) (A 12) (A 13) (A 14) (A 15) (A 16) (nI np) (nI nl) (I 0) (I 1) (nI rounds) (nI calls) (O 0) (nI q) () hv) _ (hp0.trans hF1) zcX10_mend (zm5 (i := 65) rfl rfl) ziX10_mend (zrA rfl rfl) ⟨Nat.le_of_ble_eq_true rfl, Nat.le_of_ble_eq_true rfl⟩ rfl zkX10.1 (qr := 0) rfl rfl (Nat.le_of_ble_eq_true rfl) dL_mends_2 (zXW_catch C hT [] (0, 5, 6, 197) [] rfl (fun z hz => absurd hz List.not_mem_nil) (by decide) (by decide) zclL_197 (Or.inr (zh4 (i := 207) rfl rfl)) (fun q9 => ?_))
  refine xi_astore_n C [1, 2, 0] (L2 := [(0, .ref a_t), (1, .int (nI q)), (2, .ref q9)]) dL_mends_6 (Nat.le_of_ble_eq_true rfl) rfl ?_
  refine xi_bipush C (v := (-3)) dL_mends_7 rfl ?_
  exact hR _ _ _ _ dL_mends_9 ⟨rfl, OW_perm hW9 (hp0.trans hF1)⟩
set_option maxRecDepth 100000 in
set_option maxHeartbeats 4000000 in
theorem kL_tells_E (l : Launch) (hls : l.stackTraces = false) (D : va_G) (cT : Nat → ClassId) {a_t : Nat} {np : Nat} {nl : Nat} {a : Nat → Nat} {b : Nat → Nat} {c : Nat → Nat} {fw : Nat → Bool} {nb : Nat} {wb : Nat → Nat} {fb : Nat → Nat} {ub : Nat → Nat} {na : Nat} {wa : Nat → Nat} {fa : Nat → Nat} {ua : Nat → Nat} {cut : Nat → Bool} {S : Nat → Bool} {k : Nat → Nat} {rounds : Nat} {calls : Nat} {sp : Nat → Nat} {bh : Nat} {W : va_W} (hW : OW cT a_t np nl a b c fw nb wb fb ub na wa fa ua cut S k rounds calls sp bh W) {p q : Nat} (hp : p < np) (hq : q < np) (hs : (k p).testBit q = true) : sE l yL_tells (zwW yL_tells cL_tells 4 (some .int) [(0, 6, 7, 197)]) (zRA 3 1 6) 1 6 (some .int) D cT [.ref a_t, .int (nI p), .int (nI q)] W (fun r W2 => r = some (.int (-3)) ∧ OW cT a_t np nl a b c fw nb wb fb ub na wa fa ua cut S k rounds calls sp bh W2) := by
  have hW9 := hW
  obtain ⟨A, AE, I, F, J, O, OE, G, rl, hn, hc, hf, hp0⟩ := hW
  have h2 := hf.1
  have hE := hf.2.1
  have hc4 := hf.2.2.1
  have hb := hf.2.2.2.1
  have ha := hf.2.2.2.2.1
  have hS := hf.2.2.2.2.2.1
  have hF := hf.2.2.2.2.2.2.1
  have hcu := hf.2.2.2.2.2.2.2.1
  have hr := hf.2.2.2.2.2.2.2.2.1
  have hk := hf.2.2.2.2.2.2.2.2.2.1
  have hz := hf.2.2.2.2.2.2.2.2.2.2.1
  have hz0 := hf.2.2.2.2.2.2.2.2.2.2.2.1
  have h0 := hf.2.2.2.2.2.2.2.2.2.2.2.2.1
  have hhn := hf.2.2.2.2.2.2.2.2.2.2.2.2.2.1
  have hhc := hf.2.2.2.2.2.2.2.2.2.2.2.2.2.2.1
  have hbh := hf.2.2.2.2.2.2.2.2.2.2.2.2.2.2.2
  have hnp := hE.1
  have hnl := hE.2.1
  have hv : tX10_tell_S (nI np) (F 10) (nI p) (nI q) = some () := by
    unfold tX10_tell_S
    rw [reqP hp (by omega), obs, reqP hq (by omega), obs, gdI (vkn (by omega) (by decide)), nI_clamp (by omega), (hk p hp).2, isIn_ib (by omega), ib_N (by have := hK_lt hnp hk hp; omega), hs, ifT, if_neg one0]
  have hF1 : (zO cT a_t A AE I F J O OE G rl (nI np) (nI nl) (nI nb) (nI na) (nI rounds) (nI calls) (nI np) (nI bh) (nI hn) (nI hc)).flatten.Perm ([(a_t, .inr (10, [.ref (A 0), .ref (A 1), .ref (A 2), .ref (A 3), .ref (A 4), .ref (A 5), .ref (A 6), .ref (A 7), .ref (A 8), .ref (A 9)])), ((A 1), .inr (1, [.int (nI np), .int (nI nl), .ref (A 10), .ref (A 11), .ref (A 12), .ref (A 13), .ref (A 14), .ref (A 15)])), ((A 2), .inr (7, [.ref (A 16), .int (I 0), .int (I 1), .int (nI rounds), .int (nI calls), va_rf (O 0)])), ((A 16), .inr (3, [.ref (A 23), .int (nI np)])), ((A 23), .inl (cT 0, 10, .inl (F 10)))] ++ (List.map (fun i => (zO cT a_t A AE I F J O OE G rl (nI np) (nI nl) (nI nb) (nI na) (nI rounds) (nI calls) (nI np) (nI bh) (nI hn) (nI hc)).getD i []) [1, 2, 3, 5, 6, 7, 8, 9, 10, 11, 12, 13, 14, 15, 16, 17, 18, 19, 20, 21, 22, 23, 24, 25, 26, 27, 28, 29, 30, 31, 32, 33, 34, 35, 36, 37, 38, 39, 40, 41, 42, 43, 44, 45, 46, 47, 48, 49, 50, 54, 55, 56, 57, 58, 59, 60, 61, 62, 63, 64, 65, 66, 67, 68, 69, 70, 71, 72]).flatten) := permI (bs := zO cT a_t A AE I F J O OE G rl (nI np) (nI nl) (nI nb) (nI na) (nI rounds) (nI calls) (nI np) (nI bh) (nI hn) (nI hc)) (n := 73) rfl [0, 4, 51, 52, 53] [1, 2, 3, 5, 6, 7, 8, 9, 10, 11, 12, 13, 14, 15, 16, 17, 18, 19, 20, 21, 22, 23, 24, 25, 26, 27, 28, 29, 30, 31, 32, 33, 34, 35, 36, 37, 38, 39, 40, 41, 42, 43, 44, 45, 46, 47, 48, 49, 50, 54, 55, 56, 57, 58, 59, 60, 61, 62, 63, 64, 65, 66, 67, 68, 69, 70, 71, 72] (by decide +kernel) rfl rfl
  refine sEH_int rfl (Nat.le_of_ble_eq_true rfl) ?_
  intro X C hT hR
  refine xi_drop (L2 := [(0, .ref a_t), (1, .int (nI p)), (2, .int (nI q))]) [0, 1, 2] rfl ?_
  refine xi_aload_n C 0 dL_tells_0 rfl ?_
  refine xi_iload_n C 1 dL_tells_1 rfl ?_
  refine xi_iload_n C 2 dL_tells_2 rfl ?_
  refine xt_callVF C (ktX10_tell_S l hls D cT a_t (A 0) (A 1) (A 2) (A 3) (A 4) (A 5) (A 6) (A 7) (A 8) (A 9) (A 10) (A 11) (A 12) (A 13) (A 14) (A 15) (A 16) (A 23) (nI np) (nI nl) (I 0) (I 1) (nI rounds) (nI calls) (O 0) (nI np) (F 10) (nI p) (nI q) () hv) _ (hp0.trans hF1) zcX10_tell (zm5 (i := 125) rfl rfl) ziX10_tell (zrA rfl rfl) ⟨Nat.le_of_ble_eq_true rfl, Nat.le_of_ble_eq_true rfl⟩ rfl zkX10.1 (qr := 0) rfl rfl (Nat.le_of_ble_eq_true rfl) dL_tells_3 (zXW_catch C hT [] (0, 6, 7, 197) [] rfl (fun z hz => absurd hz List.not_mem_nil) (by decide) (by decide) zclL_197 (Or.inr (zh4 (i := 207) rfl rfl)) (fun q9 => ?_))
  refine xi_astore_n C [1, 2, 3, 0] (L2 := [(0, .ref a_t), (1, .int (nI p)), (2, .int (nI q)), (3, .ref q9)]) dL_tells_7 (Nat.le_of_ble_eq_true rfl) rfl ?_
  refine xi_bipush C (v := (-3)) dL_tells_8 rfl ?_
  exact hR _ _ _ _ dL_tells_10 ⟨rfl, OW_perm hW9 (hp0.trans hF1)⟩
set_option maxRecDepth 100000 in
set_option maxHeartbeats 4000000 in
theorem kL_arranges (l : Launch) (D : va_G) (cT : Nat → ClassId) {a_t : Nat} {np : Nat} {nl : Nat} {a : Nat → Nat} {b : Nat → Nat} {c : Nat → Nat} {fw : Nat → Bool} {nb : Nat} {wb : Nat → Nat} {fb : Nat → Nat} {ub : Nat → Nat} {na : Nat} {wa : Nat → Nat} {fa : Nat → Nat} {ua : Nat → Nat} {cut : Nat → Bool} {S : Nat → Bool} {k : Nat → Nat} {rounds : Nat} {calls : Nat} {sp : Nat → Nat} {bh : Nat} {W : va_W} (hW : OW cT a_t np nl a b c fw nb wb fb ub na wa fa ua cut S k rounds calls sp bh W) {q : Nat} (hq : q < nl) (hs : S q = false) (hus : usb nb na wb fb ub wa fa ua a b cut (rounds + 1) q = true) (hp1 : psn a b S nl (a q) = false) (hp2 : psn a b S nl (b q) = false) : sE l yL_arranges (zwW yL_arranges cL_arranges 3 (some .int) [(0, 5, 6, 197)]) (zR 6) 0 0 (some .int) D cT [.ref a_t, .int (nI q)] W (fun r W2 => r = some (.int (nI (nsum (sadd S q) (gn a b fw k) nl))) ∧ OW cT a_t np nl a b c fw nb wb fb ub na wa fa ua cut (sadd S q) k rounds calls sp bh W2) := by
  refine sEH_int rfl (Nat.le_of_ble_eq_true rfl) ?_
  intro X C hT hR
  refine xi_drop (L2 := [(0, .ref a_t), (1, .int (nI q))]) [0, 1] rfl ?_
  refine xi_eqw (ws2 := W ++ ([])) (List.append_nil W).symm ?_
  refine xi_aload_n C 0 dL_arranges_0 rfl ?_
  refine xi_iload_n C 1 dL_arranges_1 rfl ?_
  obtain ⟨qr, fs, hqr⟩ := OW_at hW
  refine xi_callEV C (kO_arrange l D cT hW hq hs hus hp1 hp2) ([]) (by have h := permX (bs := [W]) (A := [W]) (B := []) (n := 1) rfl [0] rfl (by decide) flat1; simp only [List.flatten_cons, List.flatten_nil] at h; exact h) zcX10_arrange zmL_194 ziX10_arrange (zrE rfl rfl) ⟨Nat.le_of_ble_eq_true rfl, Nat.le_of_ble_eq_true rfl⟩ rfl zkX10.1 (qr := qr) hqr rfl (Nat.le_of_ble_eq_true rfl) dL_arranges_2 (fun v1 W2 hv3 _ => ?_)
  obtain ⟨rfl, hO⟩ := hv3
  refine xi_eqw (ws2 := W2 ++ ([])) rfl ?_
  refine xi_eqw (ws2 := W2) (List.append_nil _) ?_
  exact hR _ _ _ _ dL_arranges_5 ⟨rfl, hO⟩
set_option maxRecDepth 100000 in
set_option maxHeartbeats 4000000 in
theorem kL_takesBack (l : Launch) (D : va_G) (cT : Nat → ClassId) {a_t : Nat} {np : Nat} {nl : Nat} {a : Nat → Nat} {b : Nat → Nat} {c : Nat → Nat} {fw : Nat → Bool} {nb : Nat} {wb : Nat → Nat} {fb : Nat → Nat} {ub : Nat → Nat} {na : Nat} {wa : Nat → Nat} {fa : Nat → Nat} {ua : Nat → Nat} {cut : Nat → Bool} {S : Nat → Bool} {k : Nat → Nat} {rounds : Nat} {calls : Nat} {sp : Nat → Nat} {bh : Nat} {W : va_W} (hW : OW cT a_t np nl a b c fw nb wb fb ub na wa fa ua cut S k rounds calls sp bh W) {q : Nat} (hq : q < nl) (hs : S q = true) : sE l yL_takesBack (zwW yL_takesBack cL_takesBack 3 (some .int) [(0, 5, 6, 197)]) (zR 6) 0 0 (some .int) D cT [.ref a_t, .int (nI q)] W (fun r W2 => r = some (.int (nI (nsum (sdel S q) (gn a b fw k) nl))) ∧ OW cT a_t np nl a b c fw nb wb fb ub na wa fa ua cut (sdel S q) k rounds calls sp bh W2) := by
  refine sEH_int rfl (Nat.le_of_ble_eq_true rfl) ?_
  intro X C hT hR
  refine xi_drop (L2 := [(0, .ref a_t), (1, .int (nI q))]) [0, 1] rfl ?_
  refine xi_eqw (ws2 := W ++ ([])) (List.append_nil W).symm ?_
  refine xi_aload_n C 0 dL_takesBack_0 rfl ?_
  refine xi_iload_n C 1 dL_takesBack_1 rfl ?_
  obtain ⟨qr, fs, hqr⟩ := OW_at hW
  refine xi_callEV C (kO_takeBack l D cT hW hq hs) ([]) (by have h := permX (bs := [W]) (A := [W]) (B := []) (n := 1) rfl [0] rfl (by decide) flat1; simp only [List.flatten_cons, List.flatten_nil] at h; exact h) zcX10_takeBack zmL_199 ziX10_takeBack (zrE rfl rfl) ⟨Nat.le_of_ble_eq_true rfl, Nat.le_of_ble_eq_true rfl⟩ rfl zkX10.1 (qr := qr) hqr rfl (Nat.le_of_ble_eq_true rfl) dL_takesBack_2 (fun v4 W5 hv6 _ => ?_)
  obtain ⟨rfl, hO⟩ := hv6
  refine xi_eqw (ws2 := W5 ++ ([])) rfl ?_
  refine xi_eqw (ws2 := W5) (List.append_nil _) ?_
  exact hR _ _ _ _ dL_takesBack_5 ⟨rfl, hO⟩
set_option maxRecDepth 100000 in
set_option maxHeartbeats 4000000 in
theorem kL_cuts (l : Launch) (D : va_G) (cT : Nat → ClassId) {a_t : Nat} {np : Nat} {nl : Nat} {a : Nat → Nat} {b : Nat → Nat} {c : Nat → Nat} {fw : Nat → Bool} {nb : Nat} {wb : Nat → Nat} {fb : Nat → Nat} {ub : Nat → Nat} {na : Nat} {wa : Nat → Nat} {fa : Nat → Nat} {ua : Nat → Nat} {cut : Nat → Bool} {S : Nat → Bool} {k : Nat → Nat} {rounds : Nat} {calls : Nat} {sp : Nat → Nat} {bh : Nat} {W : va_W} (hW : OW cT a_t np nl a b c fw nb wb fb ub na wa fa ua cut S k rounds calls sp bh W) {q : Nat} (hq : q < nl) (hs : cut q = false) : sE l yL_cuts (zwW yL_cuts cL_cuts 3 (some .int) [(0, 13, 14, 197)]) (zR 5) 0 0 (some .int) D cT [.ref a_t, .int (nI q)] W (fun r W2 => r = some (.int (if S q = true then 1 else 0)) ∧ OW cT a_t np nl a b c fw nb wb fb ub na wa fa ua (sadd cut q) (sdel S q) k rounds calls sp bh W2) := by
  refine sEH_int rfl (Nat.le_of_ble_eq_true rfl) ?_
  intro X C hT hR
  refine xi_drop (L2 := [(0, .ref a_t), (1, .int (nI q))]) [0, 1] rfl ?_
  refine xi_eqw (ws2 := W ++ ([])) (List.append_nil W).symm ?_
  refine xi_aload_n C 0 dL_cuts_0 rfl ?_
  refine xi_iload_n C 1 dL_cuts_1 rfl ?_
  obtain ⟨qr, fs, hqr⟩ := OW_at hW
  refine xi_callEV C (kO_cut l D cT hW hq hs) ([]) (by have h := permX (bs := [W]) (A := [W]) (B := []) (n := 1) rfl [0] rfl (by decide) flat1; simp only [List.flatten_cons, List.flatten_nil] at h; exact h) zcX10_cut zmL_202 ziX10_cut (zrE rfl rfl) ⟨Nat.le_of_ble_eq_true rfl, Nat.le_of_ble_eq_true rfl⟩ rfl zkX10.1 (qr := qr) hqr rfl (Nat.le_of_ble_eq_true rfl) dL_cuts_2 (fun v7 W8 hv9 _ => ?_)
  obtain ⟨rfl, hO⟩ := hv9
  refine xi_eqw (ws2 := W8 ++ ([])) rfl ?_
  refine xi_eqw (ws2 := W8) (List.append_nil _) ?_
  cases hsq : S q with
  | true =>
    refine xi_rwi (y := 1) ifT ?_
    refine xi_if_eq C (tgt := 12) dL_cuts_5 rfl (fun c10 => False.elim ((fun z : ((1 : Int32) = 0) => one0 z) c10)) (fun c10 => ?_)
    refine xi_iconst C (v := 1) dL_cuts_8 rfl ?_
    refine xi_goto C (tgt := 13) dL_cuts_9 rfl ?_
    exact hR _ _ _ _ dL_cuts_13 ⟨by rw [hsq]; rfl, hO⟩
  | false =>
    refine xi_rwi (y := 0) ifF ?_
    refine xi_if_eq C (tgt := 12) dL_cuts_5 rfl (fun c11 => ?_) (fun c11 => False.elim ((fun z : ¬ ((0 : Int32) = 0) => z rfl) c11))
    refine xi_iconst C (v := 0) dL_cuts_12 rfl ?_
    exact hR _ _ _ _ dL_cuts_13 ⟨by rw [hsq]; rfl, hO⟩
set_option maxRecDepth 100000 in
set_option maxHeartbeats 4000000 in
theorem kL_mends (l : Launch) (D : va_G) (cT : Nat → ClassId) {a_t : Nat} {np : Nat} {nl : Nat} {a : Nat → Nat} {b : Nat → Nat} {c : Nat → Nat} {fw : Nat → Bool} {nb : Nat} {wb : Nat → Nat} {fb : Nat → Nat} {ub : Nat → Nat} {na : Nat} {wa : Nat → Nat} {fa : Nat → Nat} {ua : Nat → Nat} {cut : Nat → Bool} {S : Nat → Bool} {k : Nat → Nat} {rounds : Nat} {calls : Nat} {sp : Nat → Nat} {bh : Nat} {W : va_W} (hW : OW cT a_t np nl a b c fw nb wb fb ub na wa fa ua cut S k rounds calls sp bh W) {q : Nat} (hq : q < nl) (hs : cut q = true) : sE l yL_mends (zwW yL_mends cL_mends 3 (some .int) [(0, 5, 6, 197)]) (zR 5) 0 0 (some .int) D cT [.ref a_t, .int (nI q)] W (fun r W2 => r = some (.int (nI (cnt nl (sdel cut q)))) ∧ OW cT a_t np nl a b c fw nb wb fb ub na wa fa ua (sdel cut q) S k rounds calls sp bh W2) := by
  refine sEH_int rfl (Nat.le_of_ble_eq_true rfl) ?_
  intro X C hT hR
  refine xi_drop (L2 := [(0, .ref a_t), (1, .int (nI q))]) [0, 1] rfl ?_
  refine xi_eqw (ws2 := W ++ ([])) (List.append_nil W).symm ?_
  refine xi_aload_n C 0 dL_mends_0 rfl ?_
  refine xi_iload_n C 1 dL_mends_1 rfl ?_
  obtain ⟨qr, fs, hqr⟩ := OW_at hW
  refine xi_callEV C (kO_mend l D cT hW hq hs) ([]) (by have h := permX (bs := [W]) (A := [W]) (B := []) (n := 1) rfl [0] rfl (by decide) flat1; simp only [List.flatten_cons, List.flatten_nil] at h; exact h) zcX10_mend zmL_205 ziX10_mend (zrE rfl rfl) ⟨Nat.le_of_ble_eq_true rfl, Nat.le_of_ble_eq_true rfl⟩ rfl zkX10.1 (qr := qr) hqr rfl (Nat.le_of_ble_eq_true rfl) dL_mends_2 (fun v12 W13 hv14 _ => ?_)
  obtain ⟨rfl, hO⟩ := hv14
  refine xi_eqw (ws2 := W13 ++ ([])) rfl ?_
  refine xi_eqw (ws2 := W13) (List.append_nil _) ?_
  exact hR _ _ _ _ dL_mends_5 ⟨rfl, hO⟩
set_option maxRecDepth 100000 in
set_option maxHeartbeats 4000000 in
theorem kL_tells (l : Launch) (D : va_G) (cT : Nat → ClassId) {a_t : Nat} {np : Nat} {nl : Nat} {a : Nat → Nat} {b : Nat → Nat} {c : Nat → Nat} {fw : Nat → Bool} {nb : Nat} {wb : Nat → Nat} {fb : Nat → Nat} {ub : Nat → Nat} {na : Nat} {wa : Nat → Nat} {fa : Nat → Nat} {ua : Nat → Nat} {cut : Nat → Bool} {S : Nat → Bool} {k : Nat → Nat} {rounds : Nat} {calls : Nat} {sp : Nat → Nat} {bh : Nat} {W : va_W} (hW : OW cT a_t np nl a b c fw nb wb fb ub na wa fa ua cut S k rounds calls sp bh W) {p q : Nat} (hp : p < np) (hq : q < np) (hs : (k p).testBit q = false) : sE l yL_tells (zwW yL_tells cL_tells 4 (some .int) [(0, 6, 7, 197)]) (zR 5) 0 0 (some .int) D cT [.ref a_t, .int (nI p), .int (nI q)] W (fun r W2 => r = some (.int (nI (pc (k p ||| 2 ^ q)))) ∧ OW cT a_t np nl a b c fw nb wb fb ub na wa fa ua cut S (fun i => if i = p then k p ||| 2 ^ q else k i) rounds calls sp bh W2) := by
  refine sEH_int rfl (Nat.le_of_ble_eq_true rfl) ?_
  intro X C hT hR
  refine xi_drop (L2 := [(0, .ref a_t), (1, .int (nI p)), (2, .int (nI q))]) [0, 1, 2] rfl ?_
  refine xi_eqw (ws2 := W ++ ([])) (List.append_nil W).symm ?_
  refine xi_aload_n C 0 dL_tells_0 rfl ?_
  refine xi_iload_n C 1 dL_tells_1 rfl ?_
  refine xi_iload_n C 2 dL_tells_2 rfl ?_
  obtain ⟨qr, fs, hqr⟩ := OW_at hW
  refine xi_callEV C (kO_tell l D cT hW hp hq hs) ([]) (by have h := permX (bs := [W]) (A := [W]) (B := []) (n := 1) rfl [0] rfl (by decide) flat1; simp only [List.flatten_cons, List.flatten_nil] at h; exact h) zcX10_tell zmL_208 ziX10_tell (zrE rfl rfl) ⟨Nat.le_of_ble_eq_true rfl, Nat.le_of_ble_eq_true rfl⟩ rfl zkX10.1 (qr := qr) hqr rfl (Nat.le_of_ble_eq_true rfl) dL_tells_3 (fun v15 W16 hv17 _ => ?_)
  obtain ⟨rfl, hO⟩ := hv17
  refine xi_eqw (ws2 := W16 ++ ([])) rfl ?_
  refine xi_eqw (ws2 := W16) (List.append_nil _) ?_
  exact hR _ _ _ _ dL_tells_6 ⟨rfl, hO⟩
