/-! the frame rule: a contract in a wider world; worlds in any order -/
theorem vaP_mem {D : va_G} {cl : List vw_C} {ws ws' : va_W} {H : Heap} (h : va_P D cl ws H) (hs : ∀ q, q ∈ ws' → q ∈ ws) : va_P D cl ws' H := fun k q hk => by
  obtain ⟨j, hj⟩ := List.getElem?_of_mem (hs q (List.mem_of_getElem? hk))
  exact h j q hj
theorem vaD_iff {A : Nat → Prop} {ws : va_W} : va_D A ws ↔ (ws.map Prod.fst).Nodup ∧ ∀ q, q ∈ ws → A q.1 := by
  constructor
  · intro h
    refine ⟨?_, fun q hq => by
      obtain ⟨k, hk⟩ := List.getElem?_of_mem hq
      exact h.2 k q hk⟩
    rw [List.Nodup, List.pairwise_iff_getElem]
    intro i j hi hj hij e
    rw [List.getElem_map, List.getElem_map] at e
    rw [List.length_map] at hi hj
    have := h.1 i j ws[i] ws[j] (List.getElem?_eq_getElem hi) (List.getElem?_eq_getElem hj) e
    omega
  · intro h
    have h1 := h.1
    rw [List.Nodup, List.pairwise_iff_getElem] at h1
    refine ⟨fun i j p q hp hq e => ?_, fun k q hk => h.2 q (List.mem_of_getElem? hk)⟩
    obtain ⟨hi, ei⟩ := List.getElem?_eq_some_iff.mp hp
    obtain ⟨hj, ej⟩ := List.getElem?_eq_some_iff.mp hq
    rcases Nat.lt_trichotomy i j with c | c | c
    · exact absurd (by rw [List.getElem_map, List.getElem_map, ei, ej]; exact e) (h1 i j (by rw [List.length_map]; exact hi) (by rw [List.length_map]; exact hj) c)
    · exact c
    · exact absurd (by rw [List.getElem_map, List.getElem_map, ei, ej]; exact e.symm) (h1 j i (by rw [List.length_map]; exact hj) (by rw [List.length_map]; exact hi) c)
theorem vaP_perm {D : va_G} {cl : List vw_C} {ws ws' : va_W} {H : Heap} (h : va_P D cl ws H) (p : ws.Perm ws') : va_P D cl ws' H := vaP_mem h (fun _ hq => p.mem_iff.mpr hq)
theorem vaD_perm {A : Nat → Prop} {ws ws' : va_W} (h : va_D A ws) (p : ws.Perm ws') : va_D A ws' := vaD_iff.mpr ⟨(p.map Prod.fst).nodup_iff.mp (vaD_iff.mp h).1, fun q hq => (vaD_iff.mp h).2 q (p.mem_iff.mpr hq)⟩
theorem vaD_sub {A : Nat → Prop} {ws ws' : va_W} (h : va_D A ws) (s : ws'.Sublist ws) : va_D A ws' := vaD_iff.mpr ⟨(s.map Prod.fst).nodup (vaD_iff.mp h).1, fun q hq => (vaD_iff.mp h).2 q (s.mem hq)⟩
theorem z_worldF {D : va_G} {A0 : Nat → Prop} {cl : List vw_C} {W0 W1 F : va_W} {H H1 : Heap} (hP : va_P D cl (W0 ++ F) H) (hD : va_D A0 (W0 ++ F)) (hk : ∀ q : Nat, q < H.size → ¬ va_A W0 H.size q → H1[q]? = H[q]?) (hF : ∀ q, va_A W0 H.size q → A0 q) (hP1 : va_P D cl W1 H1) (hD1 : va_D (va_A W0 H.size) W1) : va_P D cl (W1 ++ F) H1 ∧ va_D A0 (W1 ++ F) := by
  have hPF : va_P D cl F H := vaP_mem hP (fun q hq => List.mem_append_right _ hq)
  have hnd := (vaD_iff.mp hD).1
  rw [List.map_append, List.nodup_append] at hnd
  have apart : ∀ (k : Nat) (q : Nat × va_E), F[k]? = some q → q.1 < H.size ∧ ¬ va_A W0 H.size q.1 := fun k q hkq => by
    have hl := (hPF k q hkq).lt
    refine ⟨hl, fun h => ?_⟩
    rcases h with ⟨j, e, h⟩ | h
    · exact hnd.2.2 q.1 (List.mem_map.mpr ⟨_, List.mem_of_getElem? h, rfl⟩) q.1 (List.mem_map.mpr ⟨_, List.mem_of_getElem? hkq, rfl⟩) rfl
    · omega
  refine ⟨va_P.app hP1 (hPF.kept (fun k q hkq => hk q.1 (apart k q hkq).1 (apart k q hkq).2)), va_D.app ⟨hD1.1, fun k q hkq => hF _ (hD1.2 k q hkq)⟩ (vaD_sub hD (List.sublist_append_right W0 F)) (fun i j p q hp hq e => ?_)⟩
  exact (apart j q hq).2 (by rw [← e]; exact hD1.2 i p hp)
theorem vaA_sub {W0 ws F : va_W} {sz : Nat} (p : ws.Perm (W0 ++ F)) {q : Nat} (h : va_A W0 sz q) : va_A ws sz q := by
  rcases h with ⟨k, e, h⟩ | h
  · obtain ⟨j, hj⟩ := List.getElem?_of_mem (p.mem_iff.mpr (List.mem_append_left F (List.mem_of_getElem? h)))
    exact Or.inl ⟨j, e, hj⟩
  · exact Or.inr h
theorem zF_narrow {D : va_G} {A B : Nat → Prop} {U : State} {H : Heap} (h : zF D A U H) (hAB : ∀ q, B q → A q) : zF D B U H := by
  obtain ⟨h1, h2, h3, h4, h5, h6, h7, h8, h9, h10, h11⟩ := h
  exact ⟨h1.narrow hAB, h2, h3, h4.narrow hAB, h5.narrow hAB, h6.narrow hAB, h7.narrow hAB, h8, h9, h10, h11.1, zDO_move h11.2 (fun _ _ _ => rfl) (Vm.Alike.refl _) hAB⟩
theorem sM_frame {l : Launch} {y : MethodName} {bytes : ByteArray} {maxL : Nat} {ret : Option FieldType} {rm : Room} {D : va_G} {cT : Nat → ClassId} {av : List Value} {W0 W1 ws ws2 : va_W} {rv : Option Value} (hM : sM l y bytes maxL ret rm D cT av W0 rv W1) (F : va_W) (p : ws.Perm (W0 ++ F)) (p2 : (W1 ++ F).Perm ws2) : sM l y bytes maxL ret rm D cT av ws rv ws2 := by
  intro sz P e hadm hc1 hc2 s m args below hfr hap hP hK
  obtain ⟨ha, hsz, hPw, hKw, hDw, hFw, hNw⟩ := hP
  subst hsz
  have hPp := vaP_perm hPw p
  have hDp := vaD_perm hDw p
  have sub : ∀ q, va_A W0 s.heap.size q → va_A ws s.heap.size q := fun q h => vaA_sub p h
  obtain ⟨n, o, w1, w2, w3, ⟨⟨q1, q2, q3, q4, q5⟩, q6⟩, L, w5, w6⟩ := hM s.heap.size P e hadm hc1 hc2 s m args below hfr hap ⟨ha, rfl, vaP_mem hPp (fun q hq => List.mem_append_left _ hq), hKw, vaD_sub hDp (List.sublist_append_left W0 F), zF_narrow hFw sub, hNw⟩ hK
  obtain ⟨g1, g2⟩ := z_worldF hPp (vaD_perm hDw.self p) (fun q h1 h2 => q6.2 q h1 h2) sub q3 q5
  exact ⟨n, o, w1, w2, w3, ⟨⟨q1, q2, vaP_perm g1 p2, q4, vaD_perm g2 p2⟩, q6.1, fun q h1 h2 => q6.2 q h1 (fun z => h2 (sub q z))⟩, L, w5, fun q hq => sub _ (w6 q hq)⟩
theorem sN_frame {l : Launch} {y : MethodName} {bytes : ByteArray} {maxL mc ms : Nat} {ret : Option FieldType} {rm : Room} {D : va_G} {cT : Nat → ClassId} {av : List Value} {W0 ws : va_W} {W1 ws2 : (Nat → Nat) → va_W} {rv : (Nat → Nat) → Option Value} (hM : sN l y bytes maxL ret rm mc ms D cT av W0 rv W1) (F : va_W) (p : ws.Perm (W0 ++ F)) (p2 : ∀ u, (W1 u ++ F).Perm (ws2 u)) : sN l y bytes maxL ret rm mc ms D cT av ws rv ws2 := by
  intro sz P e hadm hc1 hc2 s m args below hfr hap hP hK
  obtain ⟨ha, hsz, hPw, hKw, hDw, hFw, hNw⟩ := hP
  subst hsz
  have hPp := vaP_perm hPw p
  have hDp := vaD_perm hDw p
  have sub : ∀ q, va_A W0 s.heap.size q → va_A ws s.heap.size q := fun q h => vaA_sub p h
  obtain ⟨n, o, w1, w2, w3, ⟨⟨u, q1, q2, q3, q4, q5⟩, q6⟩, L, w5, w6⟩ := hM s.heap.size P e hadm hc1 hc2 s m args below hfr hap ⟨ha, rfl, vaP_mem hPp (fun q hq => List.mem_append_left _ hq), hKw, vaD_sub hDp (List.sublist_append_left W0 F), zF_narrow hFw sub, hNw⟩ hK
  obtain ⟨g1, g2⟩ := z_worldF hPp (vaD_perm hDw.self p) (fun q h1 h2 => q6.2 q h1 h2) sub q3 q5
  exact ⟨n, o, w1, w2, w3, ⟨⟨u, q1, q2, vaP_perm g1 (p2 u), q4, vaD_perm g2 (p2 u)⟩, q6.1, fun q h1 h2 => q6.2 q h1 (fun z => h2 (sub q z))⟩, L, w5, fun q hq => sub _ (w6 q hq)⟩
section RowsF
variable {X : sX} {l : Launch} {R : Room} {D : va_G} {cT : Nat → ClassId} {nL k n pc : Nat} {cc : ByteArray} {own : String} {L : List (Nat × Value)} {st : List Value} {ws : va_W}
theorem xi_permL {ws2 : va_W} (p : ws.Perm ws2) (kk : sW X l R D nL k n pc L st ws2) : sW X l R D nL k n pc L st ws := by
  obtain ⟨p0, e, s, m, args, below, meth, c, Q, A⟩ := X
  intro H locs ls hP hD hS hl
  exact kk H locs ls (vaP_perm hP p) (vaD_perm hD p) hS hl
/-- cells that are not looked at any more -/
theorem xi_less {ws2 : va_W} (s : ws2.Sublist ws) (kk : sW X l R D nL k n pc L st ws2) : sW X l R D nL k n pc L st ws := by
  obtain ⟨p0, e, s0, m, args, below, meth, c, Q, A⟩ := X
  intro H locs ls hP hD hS hl
  exact kk H locs ls (vaP_mem hP (fun q hq => s.mem hq)) (vaD_sub hD s) hS hl
end RowsF
/-! contracts that tell what holds of the answer and of the world behind -/
def zQE (D : va_G) (cT : Nat → ClassId) (ret : Option FieldType) (sz : Nat) (W0 : va_W) (Φ : Option Value → va_W → Prop) : Array Value → State → Outcome → State → Prop := fun _ st o t => (∃ (rv : Option Value) (W1 : va_W), Φ rv W1 ∧ o = .returned rv ∧ zN ret rv ∧ va_P D vwQ W1 t.heap ∧ va_K D vwQ (zT cT) t ∧ va_D (va_A W0 sz) W1) ∧ va_F (va_A W0 sz) st t
def sE (l : Launch) (y : MethodName) (wl : List Cond) (rm : Room) (mc ms : Nat) (ret : Option FieldType) (D : va_G) (cT : Nat → ClassId) (av : List Value) (W0 : va_W) (Φ : Option Value → va_W → Prop) : Prop :=
  ∀ sz : Nat, Met l y wl rm (zP D cT av sz W0) (zQE D cT ret sz W0 Φ) mc ms (va_A W0 sz)
section SE
variable {l : Launch} {y : MethodName} {wl : List Cond} {bytes : ByteArray} {maxL : Nat} {rm : Room} {mc ms : Nat} {ret : Option FieldType} {D : va_G} {cT : Nat → ClassId} {av : List Value} {W0 : va_W} {Φ Ψ : Option Value → va_W → Prop}
theorem sE_mono (hM : sE l y wl rm mc ms ret D cT av W0 Φ) (h : ∀ rv W1, Φ rv W1 → Ψ rv W1) : sE l y wl rm mc ms ret D cT av W0 Ψ := by
  intro sz P e hadm hc1 hc2 s m args below hfr hap hP hK
  obtain ⟨n, o, w1, w2, w3, ⟨⟨rv, W1, q0, q1, q2, q3, q4, q5⟩, q6⟩, w4⟩ := hM sz P e hadm hc1 hc2 s m args below hfr hap hP hK
  exact ⟨n, o, w1, w2, w3, ⟨⟨rv, W1, h _ _ q0, q1, q2, q3, q4, q5⟩, q6⟩, w4⟩
theorem sE_frame {ws : va_W} (hM : sE l y wl rm mc ms ret D cT av W0 Φ) (F : va_W) (p : ws.Perm (W0 ++ F)) (p2 : ∀ rv W1, Φ rv W1 → ((W1 ++ F).map Prod.fst).Nodup → ∃ W2, (W1 ++ F).Perm W2 ∧ Ψ rv W2) : sE l y wl rm mc ms ret D cT av ws Ψ := by
  intro sz P e hadm hc1 hc2 s m args below hfr hap hP hK
  obtain ⟨ha, hsz, hPw, hKw, hDw, hFw, hNw⟩ := hP
  subst hsz
  have hPp := vaP_perm hPw p
  have hDp := vaD_perm hDw p
  have sub : ∀ q, va_A W0 s.heap.size q → va_A ws s.heap.size q := fun q h => vaA_sub p h
  obtain ⟨n, o, w1, w2, w3, ⟨⟨rv, W1, q0, q1, q2, q3, q4, q5⟩, q6⟩, L, w5, w6⟩ := hM s.heap.size P e hadm hc1 hc2 s m args below hfr hap ⟨ha, rfl, vaP_mem hPp (fun q hq => List.mem_append_left _ hq), hKw, vaD_sub hDp (List.sublist_append_left W0 F), zF_narrow hFw sub, hNw⟩ hK
  obtain ⟨g1, g2⟩ := z_worldF hPp (vaD_perm hDw.self p) (fun q h1 h2 => q6.2 q h1 h2) sub q3 q5
  obtain ⟨W2, e1, e2⟩ := p2 rv W1 q0 (vaD_iff.mp g2).1
  exact ⟨n, o, w1, w2, w3, ⟨⟨rv, W2, e2, q1, q2, vaP_perm g1 e1, q4, vaD_perm g2 e1⟩, q6.1, fun q h1 h2 => q6.2 q h1 (fun z => h2 (sub q z))⟩, L, w5, fun q hq => sub _ (w6 q hq)⟩
theorem sE_of_sM {rv : Option Value} {W1 : va_W} (hM : sM l y bytes maxL ret rm D cT av W0 rv W1) : sE l y (zw y bytes maxL ret) rm 0 0 ret D cT av W0 (fun r W => r = rv ∧ W = W1) := by
  intro sz P e hadm hc1 hc2 s m args below hfr hap hP hK
  obtain ⟨n, o, w1, w2, w3, ⟨⟨q1, q2, q3, q4, q5⟩, q6⟩, w4⟩ := hM sz P e hadm hc1 hc2 s m args below hfr hap hP hK
  exact ⟨n, o, w1, w2, w3, ⟨⟨rv, W1, ⟨rfl, rfl⟩, q1, q2, q3, q4, q5⟩, q6⟩, w4⟩
theorem sE_of_sN {rv : (Nat → Nat) → Option Value} {W1 : (Nat → Nat) → va_W} (hM : sN l y bytes maxL ret rm mc ms D cT av W0 rv W1) : sE l y (zw y bytes maxL ret) rm mc ms ret D cT av W0 (fun r W => ∃ u, r = rv u ∧ W = W1 u) := by
  intro sz P e hadm hc1 hc2 s m args below hfr hap hP hK
  obtain ⟨n, o, w1, w2, w3, ⟨⟨u, q1, q2, q3, q4, q5⟩, q6⟩, w4⟩ := hM sz P e hadm hc1 hc2 s m args below hfr hap hP hK
  exact ⟨n, o, w1, w2, w3, ⟨⟨rv u, W1 u, ⟨u, rfl, rfl⟩, q1, q2, q3, q4, q5⟩, q6⟩, w4⟩
theorem sE_of_sH {hh : List (Nat × Nat × Nat × Nat)} {rv : (Nat → Nat) → Option Value} {W1 : (Nat → Nat) → va_W} (hM : sH l y bytes maxL ret hh rm mc ms D cT av W0 rv W1) : sE l y (zwW y bytes maxL ret hh) rm mc ms ret D cT av W0 (fun r W => ∃ u, r = rv u ∧ W = W1 u) := by
  intro sz P e hadm hc1 hc2 s m args below hfr hap hP hK
  obtain ⟨n, o, w1, w2, w3, ⟨⟨u, q1, q2, q3, q4, q5⟩, q6⟩, w4⟩ := hM sz P e hadm hc1 hc2 s m args below hfr hap hP hK
  exact ⟨n, o, w1, w2, w3, ⟨⟨rv u, W1 u, ⟨u, rfl, rfl⟩, q1, q2, q3, q4, q5⟩, q6⟩, w4⟩
/-- a body, walked from its entry, for each kind of answer -/
theorem sE_body {K : sX → Prop} (hy : plainName y.cls = true) (hlen : (lg_sl av).length ≤ maxL)
    (body : ∀ X : sX, sC X rm D cT maxL bytes y.cls → (y.name = "<init>" → zIn X) → K X → sW X l rm D maxL 0 0 0 (lv_args 0 av) [] W0)
    (hK : ∀ (p : Program) (e : Env) (s : State) (m : MethodId) (args : Array Value) (below : List Frame) (meth : Method) (c : Code), p.tables.exec = Jvm.exec → c.code = bytes → c.maxLocals = maxL → meth.sig.returnType = ret → meth.locks = false → va_K D vwQ (zT cT) s → K (p, e, s, m, args, below, meth, c, MQ below (zQE D cT ret s.heap.size W0 Φ) args s mc ms (va_A W0 s.heap.size), va_A W0 s.heap.size)) : sE l y (zw y bytes maxL ret) rm mc ms ret D cT av W0 Φ := by
  intro sz
  refine Met.ofW (cc := bytes) (maxL := maxL) (ret := ret) hy rfl ?_
  intro p e s m args below meth c s₁ B hml hv
  obtain ⟨rfl, hsz, hP, hK0, hD0, hF0, hN0⟩ := hv
  subst hsz
  have hts := atoms_spec (ws := zw y bytes maxL ret) B.pre
  have hown : s.vm.findClass y.cls = some m.cls := findClass_of_methodNamed B.named
  have hA : ∀ q : Nat, s.heap.size ≤ q → va_A W0 s.heap.size q := fun q h => Or.inr h
  have hlocks := B.notSynchronized
  have hx := B.exec
  have hb := B.bytes
  have hr := B.returns
  rw [lg_entry_eq]
  exact body (p, e, s, m, av.toArray, below, meth, c, MQ below (zQE D cT ret s.heap.size W0 Φ) av.toArray s mc ms (va_A W0 s.heap.size), va_A W0 s.heap.size) ⟨⟨hx, hb, hml, hown, fun w hw => hts w (List.mem_cons_of_mem _ hw)⟩, hK0, hA, hlocks, hF0, hN0⟩ (fun hn => ((name_of_methodNamed B.named B.method).1).trans hn) (hK p e s m av.toArray below meth c hx hb hml hr hlocks hK0) s.heap [] _ hP hD0.self va_S.rf (lv_entry av hlen)
theorem sE_int (hy : plainName y.cls = true) (hlen : (lg_sl av).length ≤ maxL) (body : ∀ X : sX, sC X rm D cT maxL bytes y.cls → (∀ (pc : Nat) (L : List (Nat × Value)) (x : Int32) (W1 : va_W), decode bytes pc = .ok (.ireturn, 1) → Φ (some (.int x)) W1 → sW X l rm D maxL mc ms pc L [.int x] W1) → sW X l rm D maxL 0 0 0 (lv_args 0 av) [] W0) : sE l y (zw y bytes maxL (some .int)) rm mc ms (some .int) D cT av W0 Φ := by
  refine sE_body (K := fun X => ∀ (pc : Nat) (L : List (Nat × Value)) (x : Int32) (W1 : va_W), decode bytes pc = .ok (.ireturn, 1) → Φ (some (.int x)) W1 → sW X l rm D maxL mc ms pc L [.int x] W1) hy hlen (fun X C _ hE => body X C hE) ?_
  intro p e s m args below meth c hx hb hml hr hlocks hK pc L x W1 hdg hv H locs ls hP1 hD1 hS hl
  exact W.iret hx hb hr (fun t ht hW => ⟨⟨_, W1, hv, rfl, (fun v e1 ty e2 => by cases e1; cases e2; rfl), by rw [ht]; exact hP1, va_K.moved hW.alike hK, hD1⟩, hS.F ht⟩) hS.2.2 hdg
theorem sE_bool (hy : plainName y.cls = true) (hlen : (lg_sl av).length ≤ maxL) (body : ∀ X : sX, sC X rm D cT maxL bytes y.cls → (∀ (pc : Nat) (L : List (Nat × Value)) (x : Int32) (W1 : va_W), decode bytes pc = .ok (.ireturn, 1) → narrow .boolean (.int x) = .int x → Φ (some (.int x)) W1 → sW X l rm D maxL mc ms pc L [.int x] W1) → sW X l rm D maxL 0 0 0 (lv_args 0 av) [] W0) : sE l y (zw y bytes maxL (some .boolean)) rm mc ms (some .boolean) D cT av W0 Φ := by
  refine sE_body (K := fun X => ∀ (pc : Nat) (L : List (Nat × Value)) (x : Int32) (W1 : va_W), decode bytes pc = .ok (.ireturn, 1) → narrow .boolean (.int x) = .int x → Φ (some (.int x)) W1 → sW X l rm D maxL mc ms pc L [.int x] W1) hy hlen (fun X C _ hE => body X C hE) ?_
  intro p e s m args below meth c hx hb hml hr hlocks hK pc L x W1 hdg hn hv H locs ls hP1 hD1 hS hl
  exact W.zret hx hb hr hn (fun t ht hW => ⟨⟨_, W1, hv, rfl, (fun v e1 ty e2 => by cases e1; cases e2; exact hn), by rw [ht]; exact hP1, va_K.moved hW.alike hK, hD1⟩, hS.F ht⟩) hS.2.2 hdg
theorem sE_void (hy : plainName y.cls = true) (hlen : (lg_sl av).length ≤ maxL) (body : ∀ X : sX, sC X rm D cT maxL bytes y.cls → (y.name = "<init>" → zIn X) → (∀ (pc : Nat) (L : List (Nat × Value)) (W1 : va_W), decode bytes pc = .ok (.return_, 1) → Φ none W1 → sW X l rm D maxL mc ms pc L [] W1) → sW X l rm D maxL 0 0 0 (lv_args 0 av) [] W0) : sE l y (zw y bytes maxL none) rm mc ms none D cT av W0 Φ := by
  refine sE_body (K := fun X => ∀ (pc : Nat) (L : List (Nat × Value)) (W1 : va_W), decode bytes pc = .ok (.return_, 1) → Φ none W1 → sW X l rm D maxL mc ms pc L [] W1) hy hlen (fun X C hI hE => body X C hI hE) ?_
  intro p e s m args below meth c hx hb hml hr hlocks hK pc L W1 hdg hv H locs ls hP1 hD1 hS hl
  exact W.vret hx hb hr (fun t ht hW => ⟨⟨_, W1, hv, rfl, (fun v e1 => by cases e1), by rw [ht]; exact hP1, va_K.moved hW.alike hK, hD1⟩, hS.F ht⟩) hS.2.2 hdg
end SE
section CallsE
variable {p : Program} {l : Launch} {e : Env} {R : Room} {s : State} {m : MethodId} {args : Array Value} {below : List Frame} {meth : Method} {c : Code} {H : Heap} {locs : List Loc} {cells slots : Nat} {Q : State → Prop}
theorem z_afterE {D : va_G} {cT : Nat → ClassId} {ret : Option FieldType} {Φ : Option Value → va_W → Prop} {W0 : va_W} {mc ms pc : Nat} {ls : Array Slot} {rest st0 : List Value} {a : Array Value} {A0 : Nat → Prop} {H0 : Heap} (hr : va_Run p l e R s m args below meth c H locs cells slots mc ms (F0 m pc ls st0) rest (zQE D cT ret H.size W0 Φ a) (va_A W0 H.size)) (hS : va_S A0 H0 H locs) (hF : ∀ q, va_A W0 H.size q → A0 q)
    (kk : ∀ (rv : Option Value) (W1 : va_W) (H1 : Heap) (locs1 : List Loc), Φ rv W1 → zN ret rv → va_P D vwQ W1 H1 → va_D (va_A W0 H.size) W1 → H.size ≤ H1.size → (∀ q : Nat, q < H.size → ¬ va_A W0 H.size q → H1[q]? = H[q]?) → va_S A0 H0 H1 locs1 → W p l e R s m args below meth c H1 locs1 (cells + mc) (slots + ms) Q (F0 m (pc + 3) ls (rv.toList ++ rest))) : W p l e R s m args below meth c H locs cells slots Q (F0 m pc ls st0) := by
  intro T hT X
  obtain ⟨v, st₀, t, T', L, h0, X', hL, e1, e2, ⟨⟨rv, W1, hΦ, hv, hz, hP, hK, hD⟩, hF1⟩, st⟩ := hr T hT X
  cases hv
  obtain ⟨hs, hk⟩ := hF1
  rw [h0] at hs hk
  obtain ⟨t2, a1, b1⟩ := kk _ W1 T'.heap (locs ++ L) hΦ hz (by rw [e1]; exact hP) hD (by rw [e1]; exact hs) (fun q h1 h2 => by rw [e1]; exact hk q h1 h2)
    ⟨Nat.le_trans hS.1 (by rw [e1]; exact hs), fun q h1 h2 => by rw [e1, hk q (Nat.lt_of_lt_of_le h1 hS.1) (fun z => h2 (hF q z))]; exact hS.2.1 q h1 h2, fun q hq => by
      rcases List.mem_append.mp hq with h | h
      · exact hS.2.2 q h
      · exact hF _ (hL q h)⟩ T' rfl X'
  exact ⟨t2, st t2 a1, b1⟩
end CallsE
section RowsE
variable {X : sX} {l : Launch} {R : Room} {D : va_G} {cT : Nat → ClassId} {nL k n pc : Nat} {cc : ByteArray} {own : String} {L : List (Nat × Value)} {st : List Value} {ws : va_W}
theorem vaA_A {A : Nat → Prop} {W0 F : va_W} {H0 H : Heap} {locs : List Loc} (hD : va_D A (W0 ++ F)) (hS : va_S A H0 H locs) (hA : ∀ q, H0.size ≤ q → A q) : ∀ q, va_A W0 H.size q → A q := by
  intro q h
  rcases h with ⟨j, e, h⟩ | h
  · exact (vaD_iff.mp hD).2 (q, e) (List.mem_append_left F (List.mem_of_getElem? h))
  · exact hA q (Nat.le_trans hS.1 h)
theorem xi_callEV (C : sC X R D cT nL cc own) {index b maxL np mc ms ci qr N : Nat} {y : MethodName} {bytes : ByteArray} {ret : Option FieldType} {rm : Room} {As : List Value} {W0 : va_W} {Φ : Option Value → va_W → Prop} {st0 fs : List Value} {T : u_T}
    (hM : sE l y (zw y bytes maxL ret) rm mc ms ret D cT (.ref b :: As) W0 Φ) (F : va_W) (hp : ws.Perm (W0 ++ F)) (hc : zC y bytes maxL ret np) (hml : zMl own index y) (hi : zI y) (hR : zRmN rm R maxL mc ms) (hk : k + mc ≤ R.cells ∧ n + ms ≤ R.slots) (hnp : As.length = np)
    (hcl : vwQ[ci]? = some (y.cls, T, N)) (hqr : W0[qr]? = some (b, .inr (ci, fs))) (hst : st0 = As.reverse ++ .ref b :: st) (hroom : (st.map fun v => v.category).sum ≤ 8)
    (hdg : decode cc pc = .ok (.invokevirtual index, 3)) (kk : ∀ rv W1, Φ rv W1 → zN ret rv → sW X l R D nL (k + mc) (n + ms) (pc + 3) L (rv.toList ++ st) (W1 ++ F)) : sW X l R D nL k n pc L st0 ws := by
  refine xi_permL hp ?_
  obtain ⟨p, e, s, m, args, below, meth, c, Q, A⟩ := X
  intro H locs ls hP hD hS hl
  subst hst
  have hF := vaA_A hD hS C.2.2.1
  have hPc : va_P D vwQ W0 H := vaP_mem hP (fun q hq => List.mem_append_left _ hq)
  have hDc : va_D A W0 := vaD_sub hD (List.sublist_append_left W0 F)
  have hpre : PreV s H y.cls b (zP D cT (.ref b :: As) H.size W0) As := ⟨zP_blind, va_recv C.2.1 hPc hcl hqr, fun U hU hW => ⟨rfl, by rw [hU], by rw [hU]; exact hPc, va_K.moved hW.alike C.2.1, hDc.weaken (fun _ _ _ _ => trivial), by rw [hU]; exact zF_move C.2.2.2.2.1 hS hW hF, zH_move C.2.2.2.2.2 hW⟩⟩
  have hroom' : 2 * (F0 m pc ls (As.reverse ++ .ref b :: st)).monitorRoom + (st.map fun v => v.category).sum ≤ 8 := lv_room hroom
  refine z_afterE (mc := mc) (ms := ms) (W0 := W0) (Φ := Φ) (ret := ret) (D := D) (cT := cT) (a := (Value.ref b :: As).toArray) (rest := st) ?_ hS hF (fun rv W1 H1 locs1 hΦ hz hP1 hD1 hs1 hk1 hS1 => ?_)
  · rcases hml with hml | ⟨host, hml⟩
    · exact va_runV C.1 (hM H.size) ⟨callB_of np C.1.2.2.2.2 (zw_good hc.1) rfl hR.1 hR.2.1 (C.1.2.2.2.2 _ hc.2.1) (C.1.2.2.2.2 _ hml) hc.2.2 hR.2.2, C.1.2.2.2.2 _ hi.1, C.1.2.2.2.2 _ hi.2⟩ hpre rfl hnp hl.1 rfl hroom' hdg hk
    · exact va_runVN C.1 (hM H.size) ⟨va_cnB np C.1.2.2.2.2 (zw_good hc.1) rfl hR.1 hR.2.1 (C.2.2.2.2.2 _ hml) (C.1.2.2.2.2 _ hc.2.1) hc.2.2 hR.2.2, C.1.2.2.2.2 _ hi.1, C.1.2.2.2.2 _ hi.2⟩ hpre rfl hnp hl.1 rfl hroom' hdg hk
  · obtain ⟨h1, h2⟩ := z_worldF hP hD hk1 hF hP1 hD1
    exact kk rv W1 hΦ hz H1 locs1 ls h1 h2 hS1 hl
theorem xi_callES (C : sC X R D cT nL cc own) {index maxL np mc ms : Nat} {y : MethodName} {bytes : ByteArray} {ret : Option FieldType} {rm : Room} {As : List Value} {W0 : va_W} {Φ : Option Value → va_W → Prop} {st0 : List Value}
    (hM : sE l y (zw y bytes maxL ret) rm mc ms ret D cT As W0 Φ) (F : va_W) (hp : ws.Perm (W0 ++ F)) (hc : zC y bytes maxL ret np) (hml : zMl own index y) (hi : Cond.static y ∈ zG) (hR : zRmN rm R maxL mc ms) (hk : k + mc ≤ R.cells ∧ n + ms ≤ R.slots) (hnp : As.length = np)
    (hst : st0 = As.reverse ++ st) (hroom : (st.map fun v => v.category).sum ≤ 8)
    (hdg : decode cc pc = .ok (.invokestatic index, 3)) (kk : ∀ rv W1, Φ rv W1 → zN ret rv → sW X l R D nL (k + mc) (n + ms) (pc + 3) L (rv.toList ++ st) (W1 ++ F)) : sW X l R D nL k n pc L st0 ws := by
  refine xi_permL hp ?_
  obtain ⟨p, e, s, m, args, below, meth, c, Q, A⟩ := X
  intro H locs ls hP hD hS hl
  subst hst
  have hF := vaA_A hD hS C.2.2.1
  have hPc : va_P D vwQ W0 H := vaP_mem hP (fun q hq => List.mem_append_left _ hq)
  have hDc : va_D A W0 := vaD_sub hD (List.sublist_append_left W0 F)
  have hpre : PreS s H (zP D cT As H.size W0) As := ⟨zP_blind, fun U hU hW => ⟨rfl, by rw [hU], by rw [hU]; exact hPc, va_K.moved hW.alike C.2.1, hDc.weaken (fun _ _ _ _ => trivial), by rw [hU]; exact zF_move C.2.2.2.2.1 hS hW hF, zH_move C.2.2.2.2.2 hW⟩⟩
  have hroom' : 2 * (F0 m pc ls (As.reverse ++ st)).monitorRoom + (st.map fun v => v.category).sum ≤ 8 := lv_room hroom
  refine z_afterE (mc := mc) (ms := ms) (W0 := W0) (Φ := Φ) (ret := ret) (D := D) (cT := cT) (a := As.toArray) (rest := st) ?_ hS hF (fun rv W1 H1 locs1 hΦ hz hP1 hD1 hs1 hk1 hS1 => ?_)
  · rcases hml with hml | ⟨host, hml⟩
    · exact va_runS C.1 (hM H.size) ⟨callB_of np C.1.2.2.2.2 (zw_good hc.1) rfl hR.1 hR.2.1 (C.1.2.2.2.2 _ hc.2.1) (C.1.2.2.2.2 _ hml) hc.2.2 hR.2.2, C.1.2.2.2.2 _ hi⟩ hpre rfl hnp hl.1 rfl hroom' hdg hk
    · exact va_runSN C.1 (hM H.size) ⟨va_cnB np C.1.2.2.2.2 (zw_good hc.1) rfl hR.1 hR.2.1 (C.2.2.2.2.2 _ hml) (C.1.2.2.2.2 _ hc.2.1) hc.2.2 hR.2.2, C.1.2.2.2.2 _ hi, trivial⟩ hpre rfl hnp hl.1 rfl hroom' hdg hk
  · obtain ⟨h1, h2⟩ := z_worldF hP hD hk1 hF hP1 hD1
    exact kk rv W1 hΦ hz H1 locs1 ls h1 h2 hS1 hl
theorem xi_callEI (C : sC X R D cT nL cc own) {index b maxL np mc ms : Nat} {y : MethodName} {bytes : ByteArray} {rm : Room} {As : List Value} {W0 : va_W} {Φ : Option Value → va_W → Prop} {st0 : List Value}
    (hM : sE l y (zw y bytes maxL none) rm mc ms none D cT (.ref b :: As) W0 Φ) (F : va_W) (hp : ws.Perm (W0 ++ F)) (hc : zC y bytes maxL none np) (hml : zMl own index y) (hi : Cond.instanceMethod y ∈ zG) (hy1 : y.name = "<init>") (hR : zRmN rm R maxL mc ms) (hk : k + mc ≤ R.cells ∧ n + ms ≤ R.slots) (hnp : As.length = np)
    (hst : st0 = As.reverse ++ .ref b :: st) (hroom : (st.map fun v => v.category).sum ≤ 8)
    (hdg : decode cc pc = .ok (.invokespecial index, 3)) (kk : ∀ rv W1, Φ rv W1 → sW X l R D nL (k + mc) (n + ms) (pc + 3) L (rv.toList ++ st) (W1 ++ F)) : sW X l R D nL k n pc L st0 ws := by
  refine xi_permL hp ?_
  obtain ⟨p, e, s, m, args, below, meth, c, Q, A⟩ := X
  intro H locs ls hP hD hS hl
  subst hst
  have hF := vaA_A hD hS C.2.2.1
  have hPc : va_P D vwQ W0 H := vaP_mem hP (fun q hq => List.mem_append_left _ hq)
  have hDc : va_D A W0 := vaD_sub hD (List.sublist_append_left W0 F)
  have hpre : PreS s H (zP D cT (.ref b :: As) H.size W0) (.ref b :: As) := ⟨zP_blind, fun U hU hW => ⟨rfl, by rw [hU], by rw [hU]; exact hPc, va_K.moved hW.alike C.2.1, hDc.weaken (fun _ _ _ _ => trivial), by rw [hU]; exact zF_move C.2.2.2.2.1 hS hW hF, zH_move C.2.2.2.2.2 hW⟩⟩
  have hroom' : 2 * (F0 m pc ls (As.reverse ++ .ref b :: st)).monitorRoom + (st.map fun v => v.category).sum ≤ 8 := lv_room hroom
  refine z_afterE (mc := mc) (ms := ms) (W0 := W0) (Φ := Φ) (ret := none) (D := D) (cT := cT) (a := (Value.ref b :: As).toArray) (rest := st) ?_ hS hF (fun rv W1 H1 locs1 hΦ hz hP1 hD1 hs1 hk1 hS1 => ?_)
  · rcases hml with hml | ⟨host, hml⟩
    · exact va_runI C.1 (hM H.size) ⟨callB_of np C.1.2.2.2.2 (zw_good hc.1) rfl hR.1 hR.2.1 (C.1.2.2.2.2 _ hc.2.1) (C.1.2.2.2.2 _ hml) hc.2.2 hR.2.2, hy1, C.1.2.2.2.2 _ hi⟩ hpre rfl hnp hl.1 rfl hroom' hdg hk
    · exact va_runIN C.1 (hM H.size) ⟨va_cnB np C.1.2.2.2.2 (zw_good hc.1) rfl hR.1 hR.2.1 (C.2.2.2.2.2 _ hml) (C.1.2.2.2.2 _ hc.2.1) hc.2.2 hR.2.2, hy1, C.1.2.2.2.2 _ hi⟩ hpre rfl hnp hl.1 rfl hroom' hdg hk
  · obtain ⟨h1, h2⟩ := z_worldF hP hD hk1 hF hP1 hD1
    exact kk rv W1 hΦ H1 locs1 ls h1 h2 hS1 hl
theorem xi_callEH (C : sC X R D cT nL cc own) {index maxL np mc ms : Nat} {y : MethodName} {bytes : ByteArray} {ret : Option FieldType} {hh : List (Nat × Nat × Nat × Nat)} {rm : Room} {As : List Value} {W0 : va_W} {Φ : Option Value → va_W → Prop} {st0 : List Value}
    (hM : sE l y (zwW y bytes maxL ret hh) rm mc ms ret D cT As W0 Φ) (F : va_W) (hp : ws.Perm (W0 ++ F)) (hc : zCW y bytes maxL ret hh np) (hml : Cond.methodLink own index y ∈ zG) (hi : Cond.static y ∈ zG) (hR : zRmN rm R maxL mc ms) (hk : k + mc ≤ R.cells ∧ n + ms ≤ R.slots) (hnp : As.length = np)
    (hst : st0 = As.reverse ++ st) (hroom : (st.map fun v => v.category).sum ≤ 8)
    (hdg : decode cc pc = .ok (.invokestatic index, 3)) (kk : ∀ rv W1, Φ rv W1 → zN ret rv → sW X l R D nL (k + mc) (n + ms) (pc + 3) L (rv.toList ++ st) (W1 ++ F)) : sW X l R D nL k n pc L st0 ws := by
  have hcsw := zCSW (index := index) C hc hml hi hR
  refine xi_permL hp ?_
  obtain ⟨p, e, s, m, args, below, meth, c, Q, A⟩ := X
  intro H locs ls hP hD hS hl
  subst hst
  have hF := vaA_A hD hS C.2.2.1
  have hPc : va_P D vwQ W0 H := vaP_mem hP (fun q hq => List.mem_append_left _ hq)
  have hDc : va_D A W0 := vaD_sub hD (List.sublist_append_left W0 F)
  have hpre : PreS s H (zP D cT As H.size W0) As := ⟨zP_blind, fun U hU hW => ⟨rfl, by rw [hU], by rw [hU]; exact hPc, va_K.moved hW.alike C.2.1, hDc.weaken (fun _ _ _ _ => trivial), by rw [hU]; exact zF_move C.2.2.2.2.1 hS hW hF, zH_move C.2.2.2.2.2 hW⟩⟩
  have hroom' : 2 * (F0 m pc ls (As.reverse ++ st)).monitorRoom + (st.map fun v => v.category).sum ≤ 8 := lv_room hroom
  refine z_afterE (mc := mc) (ms := ms) (W0 := W0) (Φ := Φ) (ret := ret) (D := D) (cT := cT) (a := As.toArray) (rest := st) ?_ hS hF (fun rv W1 H1 locs1 hΦ hz hP1 hD1 hs1 hk1 hS1 => ?_)
  · exact vx_runSW C.1 (hM H.size) hcsw hpre rfl hnp hl.1 rfl hroom' hdg hk
  · obtain ⟨h1, h2⟩ := z_worldF hP hD hk1 hF hP1 hD1
    exact kk rv W1 hΦ hz H1 locs1 ls h1 h2 hS1 hl
end RowsE
