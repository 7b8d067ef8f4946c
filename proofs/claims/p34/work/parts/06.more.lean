theorem zmjJ8_194 : Cond.methodLink RJ8 194 yJ9_max_7cf53 ∈ zG := zm2 (i := 200) rfl rfl
theorem zmjJ7_304 : Cond.methodLink RJ7 304 yJ9_min_7cf53 ∈ zG := zm2 (i := 218) rfl rfl
theorem zmjX12_107 : Cond.methodLink RX12 107 yJ9_min_7cf53 ∈ zG := zm6 (i := 36) rfl rfl
theorem zmjL_264 : Cond.methodLink RL 264 yJ9_min_7cf53 ∈ zG := zm6 (i := 96) rfl rfl
theorem zmjX9_47 : Cond.methodLink RX9 47 yJ9_min_7cf53 ∈ zG := zm4 (i := 65) rfl rfl
theorem zmjX2_29 : Cond.methodLink RX2 29 yJ9_min_7cf53 ∈ zG := zm5 (i := 19) rfl rfl
theorem zmjX1_90 : Cond.methodLink RX1 90 yJ9_min_7cf53 ∈ zG := zm6 (i := 70) rfl rfl
theorem zmjX0_71 : Cond.methodLink RX0 71 yJ9_min_7cf53 ∈ zG := zm5 (i := 106) rfl rfl
theorem zmjX0_69 : Cond.methodLink RX0 69 yJ9_max_7cf53 ∈ zG := zm5 (i := 105) rfl rfl
theorem zmjX0_63 : Cond.methodLink RX0 63 yJ9_max_f86c9 ∈ zG := zm5 (i := 110) rfl rfl
def FU : Nat := 10000000000
def gd {α : Type} (i : Int32) (N : Nat) (a : Option α) : Option α := if ¬ (i < 0 ∨ N ≤ i.toNatClampNeg) then a else none
theorem ig {α : Type} {i : Int32} {N : Nat} {a : Option α} {r : α} (h : gd i N a = some r) : vp_in i N ∧ a = some r := io (c := ¬ (i < 0 ∨ N ≤ i.toNatClampNeg)) h
theorem zsw2 {x : Int32} (i : Nat) (hi : i < ((1 : Int) - 0 + 1).toNat) (c0 : ¬ x = 0) (c1 : ¬ x = 1) : ¬ x = Int32.ofInt (0 + i) := by
  rcases (show i = 0 ∨ i = 1 by omega) with rfl | rfl
  · exact c0
  · exact c1
theorem zsw3 {x : Int32} (i : Nat) (hi : i < ((2 : Int) - 0 + 1).toNat) (c0 : ¬ x = 0) (c1 : ¬ x = 1) (c2 : ¬ x = 2) : ¬ x = Int32.ofInt (0 + i) := by
  rcases (show i = 0 ∨ i = 1 ∨ i = 2 by omega) with rfl | rfl | rfl
  · exact c0
  · exact c1
  · exact c2
theorem zsw4 {x : Int32} (i : Nat) (hi : i < ((3 : Int) - 0 + 1).toNat) (c0 : ¬ x = 0) (c1 : ¬ x = 1) (c2 : ¬ x = 2) (c3 : ¬ x = 3) : ¬ x = Int32.ofInt (0 + i) := by
  rcases (show i = 0 ∨ i = 1 ∨ i = 2 ∨ i = 3 by omega) with rfl | rfl | rfl | rfl
  · exact c0
  · exact c1
  · exact c2
  · exact c3
theorem zsw5 {x : Int32} (i : Nat) (hi : i < ((4 : Int) - 0 + 1).toNat) (c0 : ¬ x = 0) (c1 : ¬ x = 1) (c2 : ¬ x = 2) (c3 : ¬ x = 3) (c4 : ¬ x = 4) : ¬ x = Int32.ofInt (0 + i) := by
  rcases (show i = 0 ∨ i = 1 ∨ i = 2 ∨ i = 3 ∨ i = 4 by omega) with rfl | rfl | rfl | rfl | rfl
  · exact c0
  · exact c1
  · exact c2
  · exact c3
  · exact c4
theorem zsw6 {x : Int32} (i : Nat) (hi : i < ((5 : Int) - 0 + 1).toNat) (c0 : ¬ x = 0) (c1 : ¬ x = 1) (c2 : ¬ x = 2) (c3 : ¬ x = 3) (c4 : ¬ x = 4) (c5 : ¬ x = 5) : ¬ x = Int32.ofInt (0 + i) := by
  rcases (show i = 0 ∨ i = 1 ∨ i = 2 ∨ i = 3 ∨ i = 4 ∨ i = 5 by omega) with rfl | rfl | rfl | rfl | rfl | rfl
  · exact c0
  · exact c1
  · exact c2
  · exact c3
  · exact c4
  · exact c5
theorem zsw7 {x : Int32} (i : Nat) (hi : i < ((6 : Int) - 0 + 1).toNat) (c0 : ¬ x = 0) (c1 : ¬ x = 1) (c2 : ¬ x = 2) (c3 : ¬ x = 3) (c4 : ¬ x = 4) (c5 : ¬ x = 5) (c6 : ¬ x = 6) : ¬ x = Int32.ofInt (0 + i) := by
  rcases (show i = 0 ∨ i = 1 ∨ i = 2 ∨ i = 3 ∨ i = 4 ∨ i = 5 ∨ i = 6 by omega) with rfl | rfl | rfl | rfl | rfl | rfl | rfl
  · exact c0
  · exact c1
  · exact c2
  · exact c3
  · exact c4
  · exact c5
  · exact c6
theorem zk2 {i : Int32} (h : vp_in i 2) : i.toNatClampNeg = 0 ∨ i.toNatClampNeg = 1 := by
  have h1 : i.toNatClampNeg < 2 := Nat.not_le.mp fun q => h (Or.inr q)
  omega
theorem zk4 {i : Int32} (h : vp_in i 4) : i.toNatClampNeg = 0 ∨ i.toNatClampNeg = 1 ∨ i.toNatClampNeg = 2 ∨ i.toNatClampNeg = 3 := by
  have h1 : i.toNatClampNeg < 4 := Nat.not_le.mp fun q => h (Or.inr q)
  omega
theorem zk5 {i : Int32} (h : vp_in i 5) : i.toNatClampNeg = 0 ∨ i.toNatClampNeg = 1 ∨ i.toNatClampNeg = 2 ∨ i.toNatClampNeg = 3 ∨ i.toNatClampNeg = 4 := by
  have h1 : i.toNatClampNeg < 5 := Nat.not_le.mp fun q => h (Or.inr q)
  omega
theorem zk10 {i : Int32} (h : vp_in i 10) : i.toNatClampNeg = 0 ∨ i.toNatClampNeg = 1 ∨ i.toNatClampNeg = 2 ∨ i.toNatClampNeg = 3 ∨ i.toNatClampNeg = 4 ∨ i.toNatClampNeg = 5 ∨ i.toNatClampNeg = 6 ∨ i.toNatClampNeg = 7 ∨ i.toNatClampNeg = 8 ∨ i.toNatClampNeg = 9 := by
  have h1 : i.toNatClampNeg < 10 := Nat.not_le.mp fun q => h (Or.inr q)
  omega
def FR : Nat := 40
theorem zks {x : Int32} {N k : Nat} (h : vp_in x N) (e : x.toNatClampNeg = k) (hN : N < 2 ^ 31 ∧ k + 1 < 2 ^ 31) : (x + 1).toNatClampNeg = k + 1 := by
  obtain ⟨j, hj, rfl⟩ := vp_in_of h hN.1
  rw [nI_clamp (by omega)] at e
  subst e
  rw [nI_1, nI_clamp (by omega)]
theorem zkx {P : Prop} {x : Int32} {N k : Nat} (h : vp_in x N) (e : x.toNatClampNeg = k) (hk : N ≤ k) : P := absurd (Or.inr (by rw [e]; exact hk)) h
theorem zlk2 {x : Int32} {a b d : Int} (c0 : ¬ x = 0) (c1 : ¬ x = 1) : Op.lookupswitch.offset (#[(0, a), (1, b)] : Array (Int × Int)).toList d x.toInt = d := by
  have h0 : ¬ x.toInt = 0 := fun h => c0 (Int32.toInt_inj.mp (by rw [h]; rfl))
  have h1 : ¬ x.toInt = 1 := fun h => c1 (Int32.toInt_inj.mp (by rw [h]; rfl))
  simp [Op.lookupswitch.offset, Ne.symm h0, Ne.symm h1, h0, h1]
  try omega
theorem zrb {b c d m : Nat} (hb : 12 ≤ b) (hc : Nat.ble c 12 = true) (hd : Nat.ble 1 d = true) (hm : Nat.ble m 80 = true) : zRm (zR c) (zR (b + d)) m := by
  have h1 := Nat.le_of_ble_eq_true hc
  have h2 := Nat.le_of_ble_eq_true hd
  have h3 := Nat.le_of_ble_eq_true hm
  refine ⟨rfl, rfl, ?_, ?_⟩ <;> simp only [zR] <;> omega
theorem zrd {b c d m : Nat} (h : Nat.blt c d = true) (hm : Nat.ble m 80 = true) : zRm (zR (b + c)) (zR (b + d)) m := by
  have h1 : c < d := Nat.blt_eq.mp h
  have h3 := Nat.le_of_ble_eq_true hm
  refine ⟨rfl, rfl, ?_, ?_⟩ <;> simp only [zR] <;> omega
def gb {α : Type} (i : Int32) (a : Option α) : Option α := if i = 0 ∨ i = 1 then a else none
theorem ib {α : Type} {i : Int32} {a : Option α} {r : α} (h : gb i a = some r) : narrow .boolean (.int i) = .int i ∧ a = some r := by
  obtain ⟨h1, h2⟩ := io (c := i = 0 ∨ i = 1) h
  refine ⟨?_, h2⟩
  rcases h1 with rfl | rfl <;> rfl
theorem zrfn {C : String} (q : Option Nat) : narrow (.object C) (va_rf q) = va_rf q := by cases q <;> rfl
theorem zrff {C : String} (q : Option Nat) : fits (.object C) (va_rf q) = true := by cases q <;> rfl
theorem zrfc (q : Option Nat) : (va_rf q).category = 1 := by cases q <;> rfl
section RQ
variable {X : sX} {l : Launch} {R : Room} {D : va_G} {cT : Nat → ClassId} {nL k n pc : Nat} {cc : ByteArray} {own : String} {L : List (Nat × Value)} {st : List Value} {ws : va_W}
theorem xi_bzero {x : Int32} {P : Prop} (h : x = 0 → P) (h' : ¬ x = 0 → P) : P := by
  by_cases c : x = 0
  · exact h c
  · exact h' c
theorem xi_mmax (C : sC X R D cT nL cc own) {index : Nat} {x y : Int32} (hl : Cond.methodLink own index yJ9_max_7cf53 ∈ zG) (hf : 1 ≤ R.frames ∧ 23 ≤ R.locals) (hk : k ≤ R.cells ∧ n ≤ R.slots) (hroom : (st.map fun v => v.category).sum ≤ 8) (hdg : decode cc pc = .ok (.invokestatic index, 3)) (kk : sW X l R D nL k n (pc + 3) L (.int (if x < y then y else x) :: st) ws) : sW X l R D nL k n pc L (.int y :: .int x :: st) ws := by
  obtain ⟨p, e, s, m, args, below, meth, c, Q, A⟩ := X
  intro H locs ls hP hD hS hl1
  exact va_mmax C.1.1 C.1.2.1 (C.1.2.2.1.trans hl1.1.symm) C.1.2.2.2.1 (C.1.2.2.2.2 _ hl) (C.1.2.2.2.2 _ zsJ9_max_7cf53) (C.1.2.2.2.2 _ zcJ9_max_7cf53.2.1) (C.1.2.2.2.2 _ zcJ9_max_7cf53.1) hf.1 (Nat.le_trans (Nat.add_le_add_right hroom 13) (by have := hf.2; omega)) hk.1 hk.2 hdg (kk H locs ls hP hD hS hl1)
theorem xi_mmin (C : sC X R D cT nL cc own) {index : Nat} {x y : Int32} (hl : Cond.methodLink own index yJ9_min_7cf53 ∈ zG) (hf : 1 ≤ R.frames ∧ 23 ≤ R.locals) (hk : k ≤ R.cells ∧ n ≤ R.slots) (hroom : (st.map fun v => v.category).sum ≤ 8) (hdg : decode cc pc = .ok (.invokestatic index, 3)) (kk : sW X l R D nL k n (pc + 3) L (.int (if y < x then y else x) :: st) ws) : sW X l R D nL k n pc L (.int y :: .int x :: st) ws := by
  obtain ⟨p, e, s, m, args, below, meth, c, Q, A⟩ := X
  intro H locs ls hP hD hS hl1
  exact va_mmin C.1.1 C.1.2.1 (C.1.2.2.1.trans hl1.1.symm) C.1.2.2.2.1 (C.1.2.2.2.2 _ hl) (C.1.2.2.2.2 _ zsJ9_min_7cf53) (C.1.2.2.2.2 _ zcJ9_min_7cf53.2.1) (C.1.2.2.2.2 _ zcJ9_min_7cf53.1) hf.1 (Nat.le_trans (Nat.add_le_add_right hroom 13) (by have := hf.2; omega)) hk.1 hk.2 hdg (kk H locs ls hP hD hS hl1)
theorem xi_mmaxl (C : sC X R D cT nL cc own) {index : Nat} {x y : Int64} (hl : Cond.methodLink own index yJ9_max_f86c9 ∈ zG) (hf : 1 ≤ R.frames ∧ 23 ≤ R.locals) (hk : k ≤ R.cells ∧ n ≤ R.slots) (hroom : (st.map fun v => v.category).sum ≤ 8) (hdg : decode cc pc = .ok (.invokestatic index, 3)) (kk : sW X l R D nL k n (pc + 3) L (.long (if y < x then x else y) :: st) ws) : sW X l R D nL k n pc L (.long y :: .long x :: st) ws := by
  obtain ⟨p, e, s, m, args, below, meth, c, Q, A⟩ := X
  intro H locs ls hP hD hS hl1
  exact va_mmax_long C.1.1 C.1.2.1 (C.1.2.2.1.trans hl1.1.symm) C.1.2.2.2.1 (C.1.2.2.2.2 _ hl) (C.1.2.2.2.2 _ zsJ9_max_f86c9) (C.1.2.2.2.2 _ zcJ9_max_f86c9.2.1) (C.1.2.2.2.2 _ zcJ9_max_f86c9.1) hf.1 (Nat.le_trans (Nat.add_le_add_right hroom 15) (by have := hf.2; omega)) hk.1 hk.2 hdg (kk H locs ls hP hD hS hl1)
theorem xi_ldcS (C : sC X R D cT nL cc own) {index i : Nat} (hq : (own, index, i) ∈ zRefs) (hdg : decode cc pc = .ok (.ldc index, 2)) (kk : sW X l R D nL k n (pc + 2) L (.ref (D.2 100 i) :: st) ws) : sW X l R D nL k n pc L st ws := by
  obtain ⟨p, e, s, m, args, below, meth, c, Q, A⟩ := X
  intro H locs ls hP hD hS hl
  exact va_ldcS C.1.1 C.1.2.1 C.1.2.2.2.1 (C.2.2.2.2.1.2.1 _ hq) hdg (kk H locs ls hP hD hS hl)
theorem sM_ref {l : Launch} {y : MethodName} {bytes : ByteArray} {maxL : Nat} {Cn : String} {rm : Room} {D : va_G} {cT : Nat → ClassId} {av : List Value} {W0 : va_W} {rv : Option Value} {W1 : va_W} (hy : plainName y.cls = true) (hlen : (lg_sl av).length ≤ maxL)
    (body : ∀ X : sX, sC X rm D cT maxL bytes y.cls → (∀ (pc : Nat) (L : List (Nat × Value)) (x : Nat), decode bytes pc = .ok (.areturn, 1) → some (Value.ref x) = rv → sW X l rm D maxL 0 0 pc L [.ref x] W1) → sW X l rm D maxL 0 0 0 (lv_args 0 av) [] W0) : sM l y bytes maxL (some (.object Cn)) rm D cT av W0 rv W1 := by
  intro sz
  refine Met.ofW (cc := bytes) (maxL := maxL) (ret := some (.object Cn)) hy rfl ?_
  intro p e s m args below meth c s₁ B hml hv
  obtain ⟨rfl, hsz, hP, hK, hD0, hF0, hN0⟩ := hv
  subst hsz
  have hts := atoms_spec (ws := zw y bytes maxL (some (.object Cn))) B.pre
  have hown : s.vm.findClass y.cls = some m.cls := findClass_of_methodNamed B.named
  have hA : ∀ q : Nat, s.heap.size ≤ q → va_A W0 s.heap.size q := fun q h => Or.inr h
  have hlocks := B.notSynchronized
  have hx := B.exec
  have hb := B.bytes
  have hr := B.returns
  have key := body (p, e, s, m, av.toArray, below, meth, c, MQ below (zQ D cT (some (.object Cn)) rv s.heap.size W0 W1) av.toArray s 0 0 (va_A W0 s.heap.size), va_A W0 s.heap.size) ⟨⟨hx, hb, hml, hown, fun w hw => hts w (List.mem_cons_of_mem _ hw)⟩, hK, hA, hlocks, hF0, hN0⟩ ?_
  · rw [lg_entry_eq]
    exact key s.heap [] _ hP hD0.self va_S.rf (lv_entry av hlen)
  · intro pc L x hdg hv H locs ls hP1 hD1 hS hl
    exact W.aret (v := .ref x) hx hb hr (Or.inl ⟨Cn, rfl⟩) (Or.inr ⟨x, rfl⟩) (fun t ht hW => ⟨⟨by rw [hv], (fun v e1 ty e2 => by rw [← hv] at e1; cases e1; cases e2; rfl), by rw [ht]; exact hP1, va_K.moved hW.alike hK, hD1⟩, hS.F ht⟩) hS.2.2 hdg
theorem zrj {k : Nat} : 1 ≤ (zR (k + 1)).frames ∧ 23 ≤ (zR (k + 1)).locals := ⟨by simp only [zR]; omega, by simp only [zR]; omega⟩
end RQ
