/-! the law's web: its world, and places in it -/
def zLs (n : Nat) (A : Nat → Nat) (f0 f1 f2 f3 f4 f5 : Nat → Int32) : va_W := (List.range n).map (fun i => (A i, .inr (11, [.int (f0 i), .int (f1 i), .int (f2 i), .int (f3 i), .int (f4 i), .int (f5 i)])))
def zRs (cT : Nat → ClassId) (n : Nat) (A : Nat → Nat) (v : Nat → Nat → Int32) : va_W := (List.range n).map (fun i => (A i, .inl (cT 0, 3, .inl (v i))))
def zWb (cT : Nat → ClassId) (a al ab aw ak asp : Nat) (people lines rounds calls bs bg bc : Int32) (nl nb na : Nat) (AL AB AW : Nat → Nat) (f0 f1 f2 f3 f4 f5 : Nat → Int32) (vb vw : Nat → Nat → Int32) : va_W :=
  (a, .inr (12, [.int people, .int lines, .int rounds, .int calls, .ref al, .ref ab, .ref aw, .ref ak, .ref asp, .int bs, .int bg, .int bc])) :: (al, .inl (cT 7, 24, .inr (.inr (.inr (.inr (fun i => if i < nl then some (AL i) else none)))))) :: (ab, .inl (cT 6, nb, .inr (.inr (.inr (.inr (fun i => if i < nb then some (AB i) else none)))))) :: (aw, .inl (cT 6, na, .inr (.inr (.inr (.inr (fun i => if i < na then some (AW i) else none)))))) :: (zLs nl AL f0 f1 f2 f3 f4 f5 ++ (zRs cT nb AB vb ++ zRs cT na AW vw))
theorem vp_lt {i : Int32} {n : Nat} (h : vp_in i n) : i.toNatClampNeg < n := Nat.not_le.mp fun q => h (Or.inr q)
theorem vp_mono {i : Int32} {n m : Nat} (h : vp_in i n) (hm : n ≤ m) : vp_in i m := fun z => h (z.elim Or.inl (fun q => Or.inr (Nat.le_trans hm q)))
theorem zcons {w : Nat × va_E} {ws : va_W} {q : Nat} {x : Nat × va_E} (h : ws[q]? = some x) : (w :: ws)[q + 1]? = some x := by
  rw [List.getElem?_cons_succ]
  exact h
theorem zLs_at {n i : Nat} {A : Nat → Nat} {f0 f1 f2 f3 f4 f5 : Nat → Int32} (h : i < n) : (zLs n A f0 f1 f2 f3 f4 f5)[i]? = some (A i, .inr (11, [.int (f0 i), .int (f1 i), .int (f2 i), .int (f3 i), .int (f4 i), .int (f5 i)])) := by
  unfold zLs
  rw [List.getElem?_map, List.getElem?_range h]
  rfl
theorem zRs_at {cT : Nat → ClassId} {n i : Nat} {A : Nat → Nat} {v : Nat → Nat → Int32} (h : i < n) : (zRs cT n A v)[i]? = some (A i, .inl (cT 0, 3, .inl (v i))) := by
  unfold zRs
  rw [List.getElem?_map, List.getElem?_range h]
  rfl
theorem zLs_len {n : Nat} {A : Nat → Nat} {f0 f1 f2 f3 f4 f5 : Nat → Int32} : (zLs n A f0 f1 f2 f3 f4 f5).length = n := by unfold zLs; rw [List.length_map, List.length_range]
theorem zRs_len {cT : Nat → ClassId} {n : Nat} {A : Nat → Nat} {v : Nat → Nat → Int32} : (zRs cT n A v).length = n := by unfold zRs; rw [List.length_map, List.length_range]
theorem zap1 {A B : va_W} {i : Nat} {x : Nat × va_E} (h : A[i]? = some x) : (A ++ B)[i]? = some x := by
  rw [List.getElem?_append_left (List.getElem?_eq_some_iff.mp h).1]
  exact h
theorem zap2 {A B : va_W} {i n : Nat} {x : Nat × va_E} (hn : A.length = n) (h : B[i]? = some x) : (A ++ B)[n + i]? = some x := by
  rw [List.getElem?_append_right (by omega), show n + i - A.length = i by omega]
  exact h
section WB
variable {cT : Nat → ClassId} {a al ab aw ak asp : Nat} {people lines rounds calls bs bg bc : Int32} {nl nb na : Nat} {AL AB AW : Nat → Nat} {f0 f1 f2 f3 f4 f5 : Nat → Int32} {vb vw : Nat → Nat → Int32} {i : Nat}
theorem zWb_l (h : i < nl) : (zWb cT a al ab aw ak asp people lines rounds calls bs bg bc nl nb na AL AB AW f0 f1 f2 f3 f4 f5 vb vw)[i + 1 + 1 + 1 + 1]? = some (AL i, .inr (11, [.int (f0 i), .int (f1 i), .int (f2 i), .int (f3 i), .int (f4 i), .int (f5 i)])) := zcons (zcons (zcons (zcons (zap1 (zLs_at h)))))
theorem zWb_b (h : i < nb) : (zWb cT a al ab aw ak asp people lines rounds calls bs bg bc nl nb na AL AB AW f0 f1 f2 f3 f4 f5 vb vw)[nl + i + 1 + 1 + 1 + 1]? = some (AB i, .inl (cT 0, 3, .inl (vb i))) := zcons (zcons (zcons (zcons (zap2 zLs_len (zap1 (zRs_at h))))))
theorem zWb_a (h : i < na) : (zWb cT a al ab aw ak asp people lines rounds calls bs bg bc nl nb na AL AB AW f0 f1 f2 f3 f4 f5 vb vw)[nl + (nb + i) + 1 + 1 + 1 + 1]? = some (AW i, .inl (cT 0, 3, .inl (vw i))) := zcons (zcons (zcons (zcons (zap2 zLs_len (zap2 zRs_len (zRs_at h))))))
end WB
theorem zrLt {a b m : Nat} (h : a < b) (hm : m ≤ 80) : zRm (zR a) (zR b) m := by
  refine ⟨rfl, rfl, ?_, ?_⟩ <;> simp only [zR] <;> omega
theorem permN {ws : va_W} : ws.Perm (ws ++ []) := by rw [List.append_nil]
theorem permN2 {ws : va_W} : (ws ++ []).Perm ws := by rw [List.append_nil]
def FT : Nat := 10
section RowsW
variable {X : sX} {l : Launch} {R : Room} {D : va_G} {cT : Nat → ClassId} {nL k n pc : Nat} {cc : ByteArray} {own : String} {L : List (Nat × Value)} {st : List Value} {ws : va_W}
theorem xi_cloneI (C : sC X R D cT nL cc own) {a N index : Nat} {g : Nat → Int32} (q : Nat) (he : ws[q]? = some (a, .inl (cT 0, N, .inl g))) (hlink : Cond.methodLink own index ⟨"[I", "clone", "()Ljava/lang/Object;"⟩ ∈ zG) (hsame : Cond.sameMethod "[I" "java/lang/Object" "clone" "()Ljava/lang/Object;" ∈ zG) (hnat : Cond.native ⟨"java/lang/Object", "clone", "()Ljava/lang/Object;"⟩ ∈ zG) (hinst : Cond.instanceMethod ⟨"java/lang/Object", "clone", "()Ljava/lang/Object;"⟩ ∈ zG)
    (hsel : Cond.selects "[I" ⟨"[I", "clone", "()Ljava/lang/Object;"⟩ ⟨"java/lang/Object", "clone", "()Ljava/lang/Object;"⟩ ∈ zG) (hcl : Cond.castable "[I" "java/lang/Cloneable" ∈ zH) (hf : 1 ≤ R.frames ∧ (st.map fun v => v.category).sum + 14 ≤ R.locals) (hcells : k + 1 ≤ R.cells) (hslots : n + N ≤ R.slots) (hdg : decode cc pc = .ok (.invokevirtual index, 3))
    (kk : ∀ q1 : Nat, sW X l R D nL (k + 1) (n + N) (pc + 3) L (.ref q1 :: st) (ws ++ [(q1, .inl (cT 0, N, .inl g))])) : sW X l R D nL k n pc L (.ref a :: st) ws := by
  obtain ⟨p, e, s, m, args, below, meth, c, Q, A⟩ := X
  intro H locs ls hP hD hS hl
  have hs : ("[" ++ (FieldType.int).toString) = "[I" := by decide
  have e1 : s.vm.findClass "[I" = some (cT 0) := by rw [← hs]; exact (C.2.1.2 0 _ rfl).2
  refine va_clone (x := (N, .inl g)) C.1.1 C.1.2.1 (C.1.2.2.1.trans hl.1.symm) C.1.2.2.2.1 (C.1.2.2.2.2 _ hlink) (C.1.2.2.2.2 _ hsame) (C.1.2.2.2.2 _ hnat) (C.1.2.2.2.2 _ hinst) (C.1.2.2.2.2 _ hsel) (C.2.2.2.2.2 _ hcl) C.2.1 hP hD hS C.2.2.1 q 0 he rfl e1 (fun i v hv => ?_) hf.1 hf.2 hcells hslots hdg (fun q1 H1 hK1 hP1 hD1 hS1 => kk q1 H1 locs ls hP1 hD1 hS1 hl)
  have hv' : (arrV (cT 0) N (fun j => .int (g j))).slots[i]? = some v := hv
  by_cases hi : i < N
  · rw [arrV_read _ _ hi] at hv'
    cases hv'
    rfl
  · have h2 : (arrV (cT 0) N (fun j => .int (g j))).slots.size ≤ i := by rw [arrV_size]; omega
    rw [Array.getElem?_eq_none h2] at hv'
    cases hv'
theorem xi_castAI (C : sC X R D cT nL cc own) {a N index : Nat} {g : Nat → Int32} (q : Nat) (he : ws[q]? = some (a, .inl (cT 0, N, .inl g))) (hlink : Cond.classLink own index "[I" ∈ zG) (hdg : decode cc pc = .ok (.checkcast index, 3)) (kk : sW X l R D nL k n (pc + 3) L (.ref a :: st) ws) : sW X l R D nL k n pc L (.ref a :: st) ws := by
  obtain ⟨p, e, s, m, args, below, meth, c, Q, A⟩ := X
  intro H locs ls hP hD hS hl
  have hs : ("[" ++ (FieldType.int).toString) = "[I" := by decide
  have e1 : s.vm.findClass "[I" = some (cT 0) := by rw [← hs]; exact (C.2.1.2 0 _ rfl).2
  exact va_castA C.1.1 C.1.2.1 C.1.2.2.2.1 (C.1.2.2.2.2 _ hlink) hP q he e1 hdg (kk H locs ls hP hD hS hl)
theorem xi_callVF (C : sC X R D cT nL cc own) {index b maxL np ci qr N : Nat} {y : MethodName} {bytes : ByteArray} {ret : Option FieldType} {rm : Room} {As : List Value} {W0 W1 : va_W} {rv : Option Value} {st0 fs : List Value} {T : u_T}
    (hM : sM l y bytes maxL ret rm D cT (.ref b :: As) W0 rv W1) (F : va_W) {ws2 : va_W} (hp : ws.Perm (W0 ++ F)) (hp2 : (W1 ++ F).Perm ws2) (hc : zC y bytes maxL ret np) (hml : zMl own index y) (hi : zI y) (hR : zRm rm R maxL) (hk : k ≤ R.cells ∧ n ≤ R.slots) (hnp : As.length = np)
    (hcl : vwQ[ci]? = some (y.cls, T, N)) (hqr : W0[qr]? = some (b, .inr (ci, fs))) (hst : st0 = As.reverse ++ .ref b :: st) (hroom : (st.map fun v => v.category).sum ≤ 8)
    (hdg : decode cc pc = .ok (.invokevirtual index, 3)) (kk : zN ret rv → sW X l R D nL k n (pc + 3) L (rv.toList ++ st) ws2) : sW X l R D nL k n pc L st0 ws := by
  refine xi_callEV C (sE_of_sM hM) F hp hc hml hi hR hk hnp hcl hqr hst hroom hdg (fun rv' W1' hΦ hz => ?_)
  obtain ⟨rfl, rfl⟩ := hΦ
  exact xi_permL hp2 (kk hz)
end RowsW
theorem sE_arr {l : Launch} {y : MethodName} {bytes : ByteArray} {maxL : Nat} {rm : Room} {mc ms : Nat} {D : va_G} {cT : Nat → ClassId} {av : List Value} {W0 : va_W} {Φ : Option Value → va_W → Prop} (hy : plainName y.cls = true) (hlen : (lg_sl av).length ≤ maxL) (body : ∀ X : sX, sC X rm D cT maxL bytes y.cls → (∀ (pc : Nat) (L : List (Nat × Value)) (x : Nat) (W1 : va_W), decode bytes pc = .ok (.areturn, 1) → Φ (some (.ref x)) W1 → sW X l rm D maxL mc ms pc L [.ref x] W1) → sW X l rm D maxL 0 0 0 (lv_args 0 av) [] W0) : sE l y (zw y bytes maxL (some (.array .int))) rm mc ms (some (.array .int)) D cT av W0 Φ := by
  refine sE_body (K := fun X => ∀ (pc : Nat) (L : List (Nat × Value)) (x : Nat) (W1 : va_W), decode bytes pc = .ok (.areturn, 1) → Φ (some (.ref x)) W1 → sW X l rm D maxL mc ms pc L [.ref x] W1) hy hlen (fun X C _ hE => body X C hE) ?_
  intro p e s m args below meth c hx hb hml hr hlocks hK pc L x W1 hdg hv H locs ls hP1 hD1 hS hl
  exact W.aret (v := .ref x) hx hb hr (Or.inr ⟨_, rfl⟩) (Or.inr ⟨x, rfl⟩) (fun t ht hW => ⟨⟨_, W1, hv, rfl, (fun v e1 ty e2 => by cases e1; cases e2; rfl), by rw [ht]; exact hP1, va_K.moved hW.alike hK, hD1⟩, hS.F ht⟩) hS.2.2 hdg

def fX12_usable_b128 (N_away : Nat) (t_away_e : Nat → Nat → Int32) (x2 : Int32) (K83 : Int32 → Int32 → Option Int32) (y4 : Int32) (y5 : Int32) : Option Int32 := gd y5 N_away (if x2 < ((t_away_e y5.toNatClampNeg) 1) then K83 y4 (y5 + 1) else if ((t_away_e y5.toNatClampNeg) 2) < x2 then K83 y4 (y5 + 1) else some (0 : Int32))
def fX12_usable_b83 (N_line : Nat) (N_away : Nat) (t_line_e_from : Nat → Int32) (t_line_e_to : Nat → Int32) (t_away_e : Nat → Nat → Int32) (x1 : Int32) (x2 : Int32) : Nat → Int32 → Int32 → Option Int32
  | 0, _, _ => none
  | n + 1, y4, y5 => if y4 ≤ y5 then some (1 : Int32) else gd y5 N_away (gd x1 N_line (if ((t_away_e y5.toNatClampNeg) 0) = (t_line_e_from x1.toNatClampNeg) then fX12_usable_b128 N_away t_away_e x2 (fX12_usable_b83 N_line N_away t_line_e_from t_line_e_to t_away_e x1 x2 n) y4 y5 else if ((t_away_e y5.toNatClampNeg) 0) = (t_line_e_to x1.toNatClampNeg) then fX12_usable_b128 N_away t_away_e x2 (fX12_usable_b83 N_line N_away t_line_e_from t_line_e_to t_away_e x1 x2 n) y4 y5 else (fX12_usable_b83 N_line N_away t_line_e_from t_line_e_to t_away_e x1 x2 n) y4 (y5 + 1)))
theorem fX12_usable_b83_0 (N_line : Nat) (N_away : Nat) (t_line_e_from : Nat → Int32) (t_line_e_to : Nat → Int32) (t_away_e : Nat → Nat → Int32) (x1 : Int32) (x2 : Int32) (y4 : Int32) (y5 : Int32) : fX12_usable_b83 N_line N_away t_line_e_from t_line_e_to t_away_e x1 x2 0 y4 y5 = none := rfl
theorem fX12_usable_b83_s (N_line : Nat) (N_away : Nat) (t_line_e_from : Nat → Int32) (t_line_e_to : Nat → Int32) (t_away_e : Nat → Nat → Int32) (x1 : Int32) (x2 : Int32) (n : Nat) (y4 : Int32) (y5 : Int32) : fX12_usable_b83 N_line N_away t_line_e_from t_line_e_to t_away_e x1 x2 (n + 1) y4 y5 = (if y4 ≤ y5 then some (1 : Int32) else gd y5 N_away (gd x1 N_line (if ((t_away_e y5.toNatClampNeg) 0) = (t_line_e_from x1.toNatClampNeg) then fX12_usable_b128 N_away t_away_e x2 (fX12_usable_b83 N_line N_away t_line_e_from t_line_e_to t_away_e x1 x2 n) y4 y5 else if ((t_away_e y5.toNatClampNeg) 0) = (t_line_e_to x1.toNatClampNeg) then fX12_usable_b128 N_away t_away_e x2 (fX12_usable_b83 N_line N_away t_line_e_from t_line_e_to t_away_e x1 x2 n) y4 y5 else (fX12_usable_b83 N_line N_away t_line_e_from t_line_e_to t_away_e x1 x2 n) y4 (y5 + 1)))) := rfl
def fX12_usable_b71 (N_line : Nat) (N_away : Nat) (t_line_e_from : Nat → Int32) (t_line_e_to : Nat → Int32) (t_away_e : Nat → Nat → Int32) (x1 : Int32) (x2 : Int32) : Option Int32 := fX12_usable_b83 N_line N_away t_line_e_from t_line_e_to t_away_e x1 x2 FU (nI N_away) 0
def fX12_usable_b26 (N_line : Nat) (N_broken : Nat) (N_away : Nat) (t_line_e_from : Nat → Int32) (t_line_e_to : Nat → Int32) (t_broken_e : Nat → Nat → Int32) (t_away_e : Nat → Nat → Int32) (x1 : Int32) (x2 : Int32) : Nat → Int32 → Int32 → Option Int32
  | 0, _, _ => none
  | n + 1, y4, y5 => if y4 ≤ y5 then fX12_usable_b71 N_line N_away t_line_e_from t_line_e_to t_away_e x1 x2 else gd y5 N_broken (if ((t_broken_e y5.toNatClampNeg) 0) = x1 then if x2 < ((t_broken_e y5.toNatClampNeg) 1) then (fX12_usable_b26 N_line N_broken N_away t_line_e_from t_line_e_to t_broken_e t_away_e x1 x2 n) y4 (y5 + 1) else if ((t_broken_e y5.toNatClampNeg) 2) < x2 then (fX12_usable_b26 N_line N_broken N_away t_line_e_from t_line_e_to t_broken_e t_away_e x1 x2 n) y4 (y5 + 1) else some (0 : Int32) else (fX12_usable_b26 N_line N_broken N_away t_line_e_from t_line_e_to t_broken_e t_away_e x1 x2 n) y4 (y5 + 1))
theorem fX12_usable_b26_0 (N_line : Nat) (N_broken : Nat) (N_away : Nat) (t_line_e_from : Nat → Int32) (t_line_e_to : Nat → Int32) (t_broken_e : Nat → Nat → Int32) (t_away_e : Nat → Nat → Int32) (x1 : Int32) (x2 : Int32) (y4 : Int32) (y5 : Int32) : fX12_usable_b26 N_line N_broken N_away t_line_e_from t_line_e_to t_broken_e t_away_e x1 x2 0 y4 y5 = none := rfl
theorem fX12_usable_b26_s (N_line : Nat) (N_broken : Nat) (N_away : Nat) (t_line_e_from : Nat → Int32) (t_line_e_to : Nat → Int32) (t_broken_e : Nat → Nat → Int32) (t_away_e : Nat → Nat → Int32) (x1 : Int32) (x2 : Int32) (n : Nat) (y4 : Int32) (y5 : Int32) : fX12_usable_b26 N_line N_broken N_away t_line_e_from t_line_e_to t_broken_e t_away_e x1 x2 (n + 1) y4 y5 = (if y4 ≤ y5 then fX12_usable_b71 N_line N_away t_line_e_from t_line_e_to t_away_e x1 x2 else gd y5 N_broken (if ((t_broken_e y5.toNatClampNeg) 0) = x1 then if x2 < ((t_broken_e y5.toNatClampNeg) 1) then (fX12_usable_b26 N_line N_broken N_away t_line_e_from t_line_e_to t_broken_e t_away_e x1 x2 n) y4 (y5 + 1) else if ((t_broken_e y5.toNatClampNeg) 2) < x2 then (fX12_usable_b26 N_line N_broken N_away t_line_e_from t_line_e_to t_broken_e t_away_e x1 x2 n) y4 (y5 + 1) else some (0 : Int32) else (fX12_usable_b26 N_line N_broken N_away t_line_e_from t_line_e_to t_broken_e t_away_e x1 x2 n) y4 (y5 + 1))) := rfl
def fX12_usable (N_line : Nat) (N_broken : Nat) (N_away : Nat) (t_line_e_from : Nat → Int32) (t_line_e_to : Nat → Int32) (t_line_e_cut : Nat → Int32) (t_broken_e : Nat → Nat → Int32) (t_away_e : Nat → Nat → Int32) (x1 : Int32) (x2 : Int32) : Option Int32 := gd x1 N_line (if (t_line_e_cut x1.toNatClampNeg) = 0 then fX12_usable_b26 N_line N_broken N_away t_line_e_from t_line_e_to t_broken_e t_away_e x1 x2 FU (nI N_broken) 0 else some (0 : Int32))
set_option maxRecDepth 100000 in
set_option maxHeartbeats 4000000 in
theorem kX12_usable (l : Launch) (D : va_G) (cT : Nat → ClassId) (a_t : Nat) (a_t_line : Nat) (a_t_broken : Nat) (a_t_away : Nat) (a_t_known : Nat) (a_t_spent : Nat) (a_t_line_e : Nat → Nat) (a_t_broken_e : Nat → Nat) (a_t_away_e : Nat → Nat) (N_line : Nat) (N_broken : Nat) (N_away : Nat) (t_people : Int32) (t_lines : Int32) (t_rounds : Int32) (t_calls : Int32) (t_bestSet : Int32) (t_bestGain : Int32) (t_bestCost : Int32) (t_line_e_from : Nat → Int32) (t_line_e_to : Nat → Int32) (t_line_e_cost : Nat → Int32) (t_line_e_forth : Nat → Int32) (t_line_e_cut : Nat → Int32) (t_line_e_arranged : Nat → Int32) (t_broken_e : Nat → Nat → Int32) (t_away_e : Nat → Nat → Int32) (x1 : Int32) (x2 : Int32) (hNl : N_line ≤ 24) (r : Int32) (h : fX12_usable N_line N_broken N_away t_line_e_from t_line_e_to t_line_e_cut t_broken_e t_away_e x1 x2 = some r) : sM l yX12_usable cX12_usable 7 (some .boolean) (zR 2) D cT [.ref a_t, .int x1, .int x2] (zWb cT a_t a_t_line a_t_broken a_t_away a_t_known a_t_spent t_people t_lines t_rounds t_calls t_bestSet t_bestGain t_bestCost N_line N_broken N_away a_t_line_e a_t_broken_e a_t_away_e t_line_e_from t_line_e_to t_line_e_cost t_line_e_forth t_line_e_cut t_line_e_arranged t_broken_e t_away_e) (some (.int r)) (zWb cT a_t a_t_line a_t_broken a_t_away a_t_known a_t_spent t_people t_lines t_rounds t_calls t_bestSet t_bestGain t_bestCost N_line N_broken N_away a_t_line_e a_t_broken_e a_t_away_e t_line_e_from t_line_e_to t_line_e_cost t_line_e_forth t_line_e_cut t_line_e_arranged t_broken_e t_away_e) := by
  refine sM_bool rfl (Nat.le_of_ble_eq_true rfl) ?_
  intro X C hE
  have B128 : ∀ (K83 : Int32 → Int32 → Option Int32) (hK83 : ∀ (y4 : Int32) (y5 : Int32), K83 y4 y5 = some r → sW X l (zR 2) D 7 0 0 83 [(0, .ref a_t), (1, .int x1), (2, .int x2), (3, .ref a_t_away), (4, .int y4), (5, .int y5)] [] (zWb cT a_t a_t_line a_t_broken a_t_away a_t_known a_t_spent t_people t_lines t_rounds t_calls t_bestSet t_bestGain t_bestCost N_line N_broken N_away a_t_line_e a_t_broken_e a_t_away_e t_line_e_from t_line_e_to t_line_e_cost t_line_e_forth t_line_e_cut t_line_e_arranged t_broken_e t_away_e)) (y4 : Int32) (y5 : Int32), fX12_usable_b128 N_away t_away_e x2 K83 y4 y5 = some r → sW X l (zR 2) D 7 0 0 128 [(0, .ref a_t), (1, .int x1), (2, .int x2), (3, .ref a_t_away), (4, .int y4), (5, .int y5), (6, .ref (a_t_away_e y5.toNatClampNeg))] [] (zWb cT a_t a_t_line a_t_broken a_t_away a_t_known a_t_spent t_people t_lines t_rounds t_calls t_bestSet t_bestGain t_bestCost N_line N_broken N_away a_t_line_e a_t_broken_e a_t_away_e t_line_e_from t_line_e_to t_line_e_cost t_line_e_forth t_line_e_cut t_line_e_arranged t_broken_e t_away_e) := by
    intro K83 hK83 y4 y5 h
    refine xi_iload_n C 2 dX12_usable_128 rfl ?_
    refine xi_aload C 6 dX12_usable_129 rfl ?_
    refine xi_iconst C (v := 1) dX12_usable_131 rfl ?_
    replace h := ig h
    obtain ⟨c8, h⟩ := h
    refine xi_iald C _ (zWb_a (vp_lt c8)) (zv (by decide)) dX12_usable_132 ?_
    refine xi_icmp_lt C (tgt := 146) dX12_usable_133 rfl (fun c9 => ?_) (fun c9 => ?_)
    · replace h := (if_pos c9).symm.trans h
      refine xi_iinc C (v := y5 + 1) 5 [1, 2, 3, 4, 5, 0, 6] (L2 := [(0, .ref a_t), (1, .int x1), (2, .int x2), (3, .ref a_t_away), (4, .int y4), (5, .int (y5 + 1)), (6, .ref (a_t_away_e y5.toNatClampNeg))]) dX12_usable_146 rfl rfl (Nat.le_of_ble_eq_true rfl) rfl ?_
      refine xi_goto C (tgt := 83) dX12_usable_149 rfl ?_
      refine xi_drop (L2 := [(0, .ref a_t), (1, .int x1), (2, .int x2), (3, .ref a_t_away), (4, .int y4), (5, .int (y5 + 1))]) [0, 1, 2, 3, 4, 5] rfl ?_
      exact hK83 y4 (y5 + 1) h
    · replace h := (if_neg c9).symm.trans h
      refine xi_iload_n C 2 dX12_usable_136 rfl ?_
      refine xi_aload C 6 dX12_usable_137 rfl ?_
      refine xi_iconst C (v := 2) dX12_usable_139 rfl ?_
      refine xi_iald C _ (zWb_a (vp_lt c8)) (zv (by decide)) dX12_usable_140 ?_
      refine xi_icmp_gt C (tgt := 146) dX12_usable_141 rfl (fun c10 => ?_) (fun c10 => ?_)
      · replace h := (if_pos c10).symm.trans h
        refine xi_iinc C (v := y5 + 1) 5 [1, 2, 3, 4, 5, 0, 6] (L2 := [(0, .ref a_t), (1, .int x1), (2, .int x2), (3, .ref a_t_away), (4, .int y4), (5, .int (y5 + 1)), (6, .ref (a_t_away_e y5.toNatClampNeg))]) dX12_usable_146 rfl rfl (Nat.le_of_ble_eq_true rfl) rfl ?_
        refine xi_goto C (tgt := 83) dX12_usable_149 rfl ?_
        refine xi_drop (L2 := [(0, .ref a_t), (1, .int x1), (2, .int x2), (3, .ref a_t_away), (4, .int y4), (5, .int (y5 + 1))]) [0, 1, 2, 3, 4, 5] rfl ?_
        exact hK83 y4 (y5 + 1) h
      · replace h := (if_neg c10).symm.trans h
        refine xi_iconst C (v := 0) dX12_usable_144 rfl ?_
        obtain rfl := Option.some.inj h
        exact hE _ _ _ dX12_usable_145 rfl rfl
  have B83 : ∀ (n : Nat) (y4 : Int32) (y5 : Int32), fX12_usable_b83 N_line N_away t_line_e_from t_line_e_to t_away_e x1 x2 n y4 y5 = some r → sW X l (zR 2) D 7 0 0 83 [(0, .ref a_t), (1, .int x1), (2, .int x2), (3, .ref a_t_away), (4, .int y4), (5, .int y5)] [] (zWb cT a_t a_t_line a_t_broken a_t_away a_t_known a_t_spent t_people t_lines t_rounds t_calls t_bestSet t_bestGain t_bestCost N_line N_broken N_away a_t_line_e a_t_broken_e a_t_away_e t_line_e_from t_line_e_to t_line_e_cost t_line_e_forth t_line_e_cut t_line_e_arranged t_broken_e t_away_e) := by
    intro n
    induction n with
    | zero =>
      intro y4 y5 h
      exact zno ((fX12_usable_b83_0 _ _ _ _ _ _ _ _ _).symm.trans h)
    | succ n ih =>
      intro y4 y5 h
      replace h := (fX12_usable_b83_s _ _ _ _ _ _ _ _ _ _).symm.trans h
      refine xi_iload C 5 dX12_usable_83 rfl ?_
      refine xi_iload C 4 dX12_usable_85 rfl ?_
      refine xi_icmp_ge C (tgt := 152) dX12_usable_87 rfl (fun c4 => ?_) (fun c4 => ?_)
      · replace h := (if_pos c4).symm.trans h
        refine xi_iconst C (v := 1) dX12_usable_152 rfl ?_
        obtain rfl := Option.some.inj h
        exact hE _ _ _ dX12_usable_153 rfl rfl
      · replace h := (if_neg c4).symm.trans h
        refine xi_aload_n C 3 dX12_usable_90 rfl ?_
        refine xi_iload C 5 dX12_usable_91 rfl ?_
        replace h := ig h
        obtain ⟨c5, h⟩ := h
        refine xi_aaldA C (b := a_t_away_e y5.toNatClampNeg) 3 rfl c5 (if_pos (vp_lt c5)) dX12_usable_93 ?_
        refine xi_astore C [1, 2, 3, 4, 5, 6, 0] (L2 := [(0, .ref a_t), (1, .int x1), (2, .int x2), (3, .ref a_t_away), (4, .int y4), (5, .int y5), (6, .ref (a_t_away_e y5.toNatClampNeg))]) dX12_usable_94 (Nat.le_of_ble_eq_true rfl) rfl ?_
        refine xi_aload C 6 dX12_usable_96 rfl ?_
        refine xi_iconst C (v := 0) dX12_usable_98 rfl ?_
        refine xi_iald C _ (zWb_a (vp_lt c5)) (zv (by decide)) dX12_usable_99 ?_
        refine xi_aload_n C 0 dX12_usable_100 rfl ?_
        refine xi_get C zkX12 4 0 zlX12_9 (by decide) rfl rfl dX12_usable_101 ?_
        refine xi_iload_n C 1 dX12_usable_104 rfl ?_
        replace h := ig h
        obtain ⟨c6, h⟩ := h
        refine xi_aald C (b := a_t_line_e x1.toNatClampNeg) 1 7 rfl rfl (vp_mono c6 hNl) (if_pos (vp_lt c6)) dX12_usable_105 ?_
        refine xi_get C zkX11 0 _ zlX12_30 (by decide) (zWb_l (vp_lt c6)) rfl dX12_usable_106 ?_
        refine xi_icmp_eq C (tgt := 128) dX12_usable_109 rfl (fun c7 => ?_) (fun c7 => ?_)
        · replace h := (if_pos c7).symm.trans h
          exact B128 (fX12_usable_b83 N_line N_away t_line_e_from t_line_e_to t_away_e x1 x2 n) ih y4 y5 h
        · replace h := (if_neg c7).symm.trans h
          refine xi_aload C 6 dX12_usable_112 rfl ?_
          refine xi_iconst C (v := 0) dX12_usable_114 rfl ?_
          refine xi_iald C _ (zWb_a (vp_lt c5)) (zv (by decide)) dX12_usable_115 ?_
          refine xi_aload_n C 0 dX12_usable_116 rfl ?_
          refine xi_get C zkX12 4 0 zlX12_9 (by decide) rfl rfl dX12_usable_117 ?_
          refine xi_iload_n C 1 dX12_usable_120 rfl ?_
          refine xi_aald C (b := a_t_line_e x1.toNatClampNeg) 1 7 rfl rfl (vp_mono c6 hNl) (if_pos (vp_lt c6)) dX12_usable_121 ?_
          refine xi_get C zkX11 1 _ zlX12_34 (by decide) (zWb_l (vp_lt c6)) rfl dX12_usable_122 ?_
          refine xi_icmp_ne C (tgt := 146) dX12_usable_125 rfl (fun c11 => ?_) (fun c11 => ?_)
          · replace h := (if_neg c11).symm.trans h
            refine xi_iinc C (v := y5 + 1) 5 [1, 2, 3, 4, 5, 0, 6] (L2 := [(0, .ref a_t), (1, .int x1), (2, .int x2), (3, .ref a_t_away), (4, .int y4), (5, .int (y5 + 1)), (6, .ref (a_t_away_e y5.toNatClampNeg))]) dX12_usable_146 rfl rfl (Nat.le_of_ble_eq_true rfl) rfl ?_
            refine xi_goto C (tgt := 83) dX12_usable_149 rfl ?_
            refine xi_drop (L2 := [(0, .ref a_t), (1, .int x1), (2, .int x2), (3, .ref a_t_away), (4, .int y4), (5, .int (y5 + 1))]) [0, 1, 2, 3, 4, 5] rfl ?_
            exact ih y4 (y5 + 1) h
          · replace h := (if_pos c11).symm.trans h
            exact B128 (fX12_usable_b83 N_line N_away t_line_e_from t_line_e_to t_away_e x1 x2 n) ih y4 y5 h
  have B71 : fX12_usable_b71 N_line N_away t_line_e_from t_line_e_to t_away_e x1 x2 = some r → sW X l (zR 2) D 7 0 0 71 [(0, .ref a_t), (1, .int x1), (2, .int x2)] [] (zWb cT a_t a_t_line a_t_broken a_t_away a_t_known a_t_spent t_people t_lines t_rounds t_calls t_bestSet t_bestGain t_bestCost N_line N_broken N_away a_t_line_e a_t_broken_e a_t_away_e t_line_e_from t_line_e_to t_line_e_cost t_line_e_forth t_line_e_cut t_line_e_arranged t_broken_e t_away_e) := by
    intro h
    refine xi_aload_n C 0 dX12_usable_71 rfl ?_
    refine xi_get C zkX12 6 0 zlX12_27 (by decide) rfl rfl dX12_usable_72 ?_
    refine xi_astore_n C [1, 2, 3, 0] (L2 := [(0, .ref a_t), (1, .int x1), (2, .int x2), (3, .ref a_t_away)]) dX12_usable_75 (Nat.le_of_ble_eq_true rfl) rfl ?_
    refine xi_aload_n C 3 dX12_usable_76 rfl ?_
    refine xi_alen C (v := nI N_away) 3 6 rfl rfl rfl dX12_usable_77 ?_
    refine xi_istore C [1, 2, 3, 4, 0] (L2 := [(0, .ref a_t), (1, .int x1), (2, .int x2), (3, .ref a_t_away), (4, .int (nI N_away))]) dX12_usable_78 (Nat.le_of_ble_eq_true rfl) rfl ?_
    refine xi_iconst C (v := 0) dX12_usable_80 rfl ?_
    refine xi_istore C [1, 2, 3, 4, 5, 0] (L2 := [(0, .ref a_t), (1, .int x1), (2, .int x2), (3, .ref a_t_away), (4, .int (nI N_away)), (5, .int 0)]) dX12_usable_81 (Nat.le_of_ble_eq_true rfl) rfl ?_
    exact B83 FU (nI N_away) 0 h
  have B26 : ∀ (n : Nat) (y4 : Int32) (y5 : Int32), fX12_usable_b26 N_line N_broken N_away t_line_e_from t_line_e_to t_broken_e t_away_e x1 x2 n y4 y5 = some r → sW X l (zR 2) D 7 0 0 26 [(0, .ref a_t), (1, .int x1), (2, .int x2), (3, .ref a_t_broken), (4, .int y4), (5, .int y5)] [] (zWb cT a_t a_t_line a_t_broken a_t_away a_t_known a_t_spent t_people t_lines t_rounds t_calls t_bestSet t_bestGain t_bestCost N_line N_broken N_away a_t_line_e a_t_broken_e a_t_away_e t_line_e_from t_line_e_to t_line_e_cost t_line_e_forth t_line_e_cut t_line_e_arranged t_broken_e t_away_e) := by
    intro n
    induction n with
    | zero =>
      intro y4 y5 h
      exact zno ((fX12_usable_b26_0 _ _ _ _ _ _ _ _ _ _ _).symm.trans h)
    | succ n ih =>
      intro y4 y5 h
      replace h := (fX12_usable_b26_s _ _ _ _ _ _ _ _ _ _ _ _).symm.trans h
      refine xi_iload C 5 dX12_usable_26 rfl ?_
      refine xi_iload C 4 dX12_usable_28 rfl ?_
      refine xi_icmp_ge C (tgt := 71) dX12_usable_30 rfl (fun c3 => ?_) (fun c3 => ?_)
      · replace h := (if_pos c3).symm.trans h
        refine xi_drop (L2 := [(0, .ref a_t), (1, .int x1), (2, .int x2)]) [0, 1, 2] rfl ?_
        exact B71 h
      · replace h := (if_neg c3).symm.trans h
        refine xi_aload_n C 3 dX12_usable_33 rfl ?_
        refine xi_iload C 5 dX12_usable_34 rfl ?_
        replace h := ig h
        obtain ⟨c12, h⟩ := h
        refine xi_aaldA C (b := a_t_broken_e y5.toNatClampNeg) 2 rfl c12 (if_pos (vp_lt c12)) dX12_usable_36 ?_
        refine xi_astore C [1, 2, 3, 4, 5, 6, 0] (L2 := [(0, .ref a_t), (1, .int x1), (2, .int x2), (3, .ref a_t_broken), (4, .int y4), (5, .int y5), (6, .ref (a_t_broken_e y5.toNatClampNeg))]) dX12_usable_37 (Nat.le_of_ble_eq_true rfl) rfl ?_
        refine xi_aload C 6 dX12_usable_39 rfl ?_
        refine xi_iconst C (v := 0) dX12_usable_41 rfl ?_
        refine xi_iald C _ (zWb_b (vp_lt c12)) (zv (by decide)) dX12_usable_42 ?_
        refine xi_iload_n C 1 dX12_usable_43 rfl ?_
        refine xi_icmp_ne C (tgt := 65) dX12_usable_44 rfl (fun c13 => ?_) (fun c13 => ?_)
        · replace h := (if_neg c13).symm.trans h
          refine xi_iinc C (v := y5 + 1) 5 [1, 2, 3, 4, 5, 0, 6] (L2 := [(0, .ref a_t), (1, .int x1), (2, .int x2), (3, .ref a_t_broken), (4, .int y4), (5, .int (y5 + 1)), (6, .ref (a_t_broken_e y5.toNatClampNeg))]) dX12_usable_65 rfl rfl (Nat.le_of_ble_eq_true rfl) rfl ?_
          refine xi_goto C (tgt := 26) dX12_usable_68 rfl ?_
          refine xi_drop (L2 := [(0, .ref a_t), (1, .int x1), (2, .int x2), (3, .ref a_t_broken), (4, .int y4), (5, .int (y5 + 1))]) [0, 1, 2, 3, 4, 5] rfl ?_
          exact ih y4 (y5 + 1) h
        · replace h := (if_pos c13).symm.trans h
          refine xi_iload_n C 2 dX12_usable_47 rfl ?_
          refine xi_aload C 6 dX12_usable_48 rfl ?_
          refine xi_iconst C (v := 1) dX12_usable_50 rfl ?_
          refine xi_iald C _ (zWb_b (vp_lt c12)) (zv (by decide)) dX12_usable_51 ?_
          refine xi_icmp_lt C (tgt := 65) dX12_usable_52 rfl (fun c14 => ?_) (fun c14 => ?_)
          · replace h := (if_pos c14).symm.trans h
            refine xi_iinc C (v := y5 + 1) 5 [1, 2, 3, 4, 5, 0, 6] (L2 := [(0, .ref a_t), (1, .int x1), (2, .int x2), (3, .ref a_t_broken), (4, .int y4), (5, .int (y5 + 1)), (6, .ref (a_t_broken_e y5.toNatClampNeg))]) dX12_usable_65 rfl rfl (Nat.le_of_ble_eq_true rfl) rfl ?_
            refine xi_goto C (tgt := 26) dX12_usable_68 rfl ?_
            refine xi_drop (L2 := [(0, .ref a_t), (1, .int x1), (2, .int x2), (3, .ref a_t_broken), (4, .int y4), (5, .int (y5 + 1))]) [0, 1, 2, 3, 4, 5] rfl ?_
            exact ih y4 (y5 + 1) h
          · replace h := (if_neg c14).symm.trans h
            refine xi_iload_n C 2 dX12_usable_55 rfl ?_
            refine xi_aload C 6 dX12_usable_56 rfl ?_
            refine xi_iconst C (v := 2) dX12_usable_58 rfl ?_
            refine xi_iald C _ (zWb_b (vp_lt c12)) (zv (by decide)) dX12_usable_59 ?_
            refine xi_icmp_gt C (tgt := 65) dX12_usable_60 rfl (fun c15 => ?_) (fun c15 => ?_)
            · replace h := (if_pos c15).symm.trans h
              refine xi_iinc C (v := y5 + 1) 5 [1, 2, 3, 4, 5, 0, 6] (L2 := [(0, .ref a_t), (1, .int x1), (2, .int x2), (3, .ref a_t_broken), (4, .int y4), (5, .int (y5 + 1)), (6, .ref (a_t_broken_e y5.toNatClampNeg))]) dX12_usable_65 rfl rfl (Nat.le_of_ble_eq_true rfl) rfl ?_
              refine xi_goto C (tgt := 26) dX12_usable_68 rfl ?_
              refine xi_drop (L2 := [(0, .ref a_t), (1, .int x1), (2, .int x2), (3, .ref a_t_broken), (4, .int y4), (5, .int (y5 + 1))]) [0, 1, 2, 3, 4, 5] rfl ?_
              exact ih y4 (y5 + 1) h
            · replace h := (if_neg c15).symm.trans h
              refine xi_iconst C (v := 0) dX12_usable_63 rfl ?_
              obtain rfl := Option.some.inj h
              exact hE _ _ _ dX12_usable_64 rfl rfl
  refine xi_drop (L2 := [(0, .ref a_t), (1, .int x1), (2, .int x2)]) [0, 1, 2] rfl ?_
  refine xi_aload_n C 0 dX12_usable_0 rfl ?_
  refine xi_get C zkX12 4 0 zlX12_9 (by decide) rfl rfl dX12_usable_1 ?_
  refine xi_iload_n C 1 dX12_usable_4 rfl ?_
  replace h := ig h
  obtain ⟨c1, h⟩ := h
  refine xi_aald C (b := a_t_line_e x1.toNatClampNeg) 1 7 rfl rfl (vp_mono c1 hNl) (if_pos (vp_lt c1)) dX12_usable_5 ?_
  refine xi_get C zkX11 4 _ zlX12_19 (by decide) (zWb_l (vp_lt c1)) rfl dX12_usable_6 ?_
  refine xi_if_eq C (tgt := 14) dX12_usable_9 rfl (fun c2 => ?_) (fun c2 => ?_)
  · replace h := (if_pos c2).symm.trans h
    refine xi_aload_n C 0 dX12_usable_14 rfl ?_
    refine xi_get C zkX12 5 0 zlX12_23 (by decide) rfl rfl dX12_usable_15 ?_
    refine xi_astore_n C [1, 2, 3, 0] (L2 := [(0, .ref a_t), (1, .int x1), (2, .int x2), (3, .ref a_t_broken)]) dX12_usable_18 (Nat.le_of_ble_eq_true rfl) rfl ?_
    refine xi_aload_n C 3 dX12_usable_19 rfl ?_
    refine xi_alen C (v := nI N_broken) 2 6 rfl rfl rfl dX12_usable_20 ?_
    refine xi_istore C [1, 2, 3, 4, 0] (L2 := [(0, .ref a_t), (1, .int x1), (2, .int x2), (3, .ref a_t_broken), (4, .int (nI N_broken))]) dX12_usable_21 (Nat.le_of_ble_eq_true rfl) rfl ?_
    refine xi_iconst C (v := 0) dX12_usable_23 rfl ?_
    refine xi_istore C [1, 2, 3, 4, 5, 0] (L2 := [(0, .ref a_t), (1, .int x1), (2, .int x2), (3, .ref a_t_broken), (4, .int (nI N_broken)), (5, .int 0)]) dX12_usable_24 (Nat.le_of_ble_eq_true rfl) rfl ?_
    exact B26 FU (nI N_broken) 0 h
  · replace h := (if_neg c2).symm.trans h
    refine xi_iconst C (v := 0) dX12_usable_12 rfl ?_
    obtain rfl := Option.some.inj h
    exact hE _ _ _ dX12_usable_13 rfl rfl
def fX12_gain (N_line : Nat) (N_p2 : Nat) (t_line_e_from : Nat → Int32) (t_line_e_to : Nat → Int32) (t_line_e_forth : Nat → Int32) (p2 : Nat → Int32) (x1 : Int32) : Option Int32 := gd x1 N_line (gd (t_line_e_from x1.toNatClampNeg) N_p2 (gd (t_line_e_to x1.toNatClampNeg) N_p2 (nm (fJ6_bitCount_0f7a4 ((p2 (t_line_e_from x1.toNatClampNeg).toNatClampNeg) &&& ((p2 (t_line_e_to x1.toNatClampNeg).toNatClampNeg) ^^^ (-1)))) (fun w7 => if (t_line_e_forth x1.toNatClampNeg) = 0 then some (w7 + (fJ6_bitCount_0f7a4 ((p2 (t_line_e_to x1.toNatClampNeg).toNatClampNeg) &&& ((p2 (t_line_e_from x1.toNatClampNeg).toNatClampNeg) ^^^ (-1))))) else some w7))))
set_option maxRecDepth 100000 in
set_option maxHeartbeats 4000000 in
theorem kX12_gain (l : Launch) (D : va_G) (cT : Nat → ClassId) (a_t : Nat) (a_t_line : Nat) (a_t_broken : Nat) (a_t_away : Nat) (a_t_known : Nat) (a_t_spent : Nat) (a_p2 : Nat) (a_t_line_e : Nat → Nat) (a_t_broken_e : Nat → Nat) (a_t_away_e : Nat → Nat) (N_line : Nat) (N_broken : Nat) (N_away : Nat) (N_p2 : Nat) (t_people : Int32) (t_lines : Int32) (t_rounds : Int32) (t_calls : Int32) (t_bestSet : Int32) (t_bestGain : Int32) (t_bestCost : Int32) (t_line_e_from : Nat → Int32) (t_line_e_to : Nat → Int32) (t_line_e_cost : Nat → Int32) (t_line_e_forth : Nat → Int32) (t_line_e_cut : Nat → Int32) (t_line_e_arranged : Nat → Int32) (t_broken_e : Nat → Nat → Int32) (t_away_e : Nat → Nat → Int32) (p2 : Nat → Int32) (x1 : Int32) (hNl : N_line ≤ 24) (r : Int32) (h : fX12_gain N_line N_p2 t_line_e_from t_line_e_to t_line_e_forth p2 x1 = some r) : sM l yX12_gain cX12_gain 5 (some .int) (zR 3) D cT [.ref a_t, .int x1, .ref a_p2] ((a_p2, .inl (cT 0, N_p2, .inl p2)) :: zWb cT a_t a_t_line a_t_broken a_t_away a_t_known a_t_spent t_people t_lines t_rounds t_calls t_bestSet t_bestGain t_bestCost N_line N_broken N_away a_t_line_e a_t_broken_e a_t_away_e t_line_e_from t_line_e_to t_line_e_cost t_line_e_forth t_line_e_cut t_line_e_arranged t_broken_e t_away_e) (some (.int r)) ((a_p2, .inl (cT 0, N_p2, .inl p2)) :: zWb cT a_t a_t_line a_t_broken a_t_away a_t_known a_t_spent t_people t_lines t_rounds t_calls t_bestSet t_bestGain t_bestCost N_line N_broken N_away a_t_line_e a_t_broken_e a_t_away_e t_line_e_from t_line_e_to t_line_e_cost t_line_e_forth t_line_e_cut t_line_e_arranged t_broken_e t_away_e) := by
  refine sM_int rfl (Nat.le_of_ble_eq_true rfl) ?_
  intro X C hE
  refine xi_drop (L2 := [(0, .ref a_t), (1, .int x1), (2, .ref a_p2)]) [0, 1, 2] rfl ?_
  refine xi_aload_n C 0 dX12_gain_0 rfl ?_
  refine xi_get C zkX12 4 1 zlX12_9 (by decide) rfl rfl dX12_gain_1 ?_
  refine xi_iload_n C 1 dX12_gain_4 rfl ?_
  replace h := ig h
  obtain ⟨c1, h⟩ := h
  refine xi_aald C (b := a_t_line_e x1.toNatClampNeg) 2 7 rfl rfl (vp_mono c1 hNl) (if_pos (vp_lt c1)) dX12_gain_5 ?_
  refine xi_astore_n C [1, 2, 3, 0] (L2 := [(0, .ref a_t), (1, .int x1), (2, .ref a_p2), (3, .ref (a_t_line_e x1.toNatClampNeg))]) dX12_gain_6 (Nat.le_of_ble_eq_true rfl) rfl ?_
  refine xi_aload_n C 2 dX12_gain_7 rfl ?_
  refine xi_aload_n C 3 dX12_gain_8 rfl ?_
  refine xi_get C zkX11 0 _ zlX12_30 (by decide) (zcons (zWb_l (vp_lt c1))) rfl dX12_gain_9 ?_
  replace h := ig h
  obtain ⟨c2, h⟩ := h
  refine xi_iald C 0 rfl c2 dX12_gain_12 ?_
  refine xi_aload_n C 2 dX12_gain_13 rfl ?_
  refine xi_aload_n C 3 dX12_gain_14 rfl ?_
  refine xi_get C zkX11 1 _ zlX12_34 (by decide) (zcons (zWb_l (vp_lt c1))) rfl dX12_gain_15 ?_
  replace h := ig h
  obtain ⟨c3, h⟩ := h
  refine xi_iald C 0 rfl c3 dX12_gain_18 ?_
  refine xi_iconst C (v := (-1)) dX12_gain_19 rfl ?_
  refine xi_ixor C dX12_gain_20 ?_
  refine xi_iand C dX12_gain_21 ?_
  refine xi_callSr C (kJ6_bitCount_0f7a4 l D cT ((p2 (t_line_e_from x1.toNatClampNeg).toNatClampNeg) &&& ((p2 (t_line_e_to x1.toNatClampNeg).toNatClampNeg) ^^^ (-1))) (fJ6_bitCount_0f7a4 ((p2 (t_line_e_from x1.toNatClampNeg).toNatClampNeg) &&& ((p2 (t_line_e_to x1.toNatClampNeg).toNatClampNeg) ^^^ (-1)))) rfl) zcJ6_bitCount_0f7a4 zmX12_37 zsJ6_bitCount_0f7a4 (zr rfl rfl) z00 rfl [] rfl rfl rfl (Nat.le_of_ble_eq_true rfl) dX12_gain_22 (fun z6 => ?_)
  refine xi_topi (fun w7 ew7 => ?_)
  replace h := nmE ew7 h
  refine xi_istore C [1, 2, 3, 4, 0] (L2 := [(0, .ref a_t), (1, .int x1), (2, .ref a_p2), (3, .ref (a_t_line_e x1.toNatClampNeg)), (4, .int w7)]) dX12_gain_25 (Nat.le_of_ble_eq_true rfl) rfl ?_
  refine xi_aload_n C 3 dX12_gain_27 rfl ?_
  refine xi_get C zkX11 3 _ zlX12_43 (by decide) (zcons (zWb_l (vp_lt c1))) rfl dX12_gain_28 ?_
  refine xi_if_eq C (tgt := 39) dX12_gain_31 rfl (fun c8 => ?_) (fun c8 => ?_)
  · replace h := (if_pos c8).symm.trans h
    refine xi_iload C 4 dX12_gain_39 rfl ?_
    refine xi_aload_n C 2 dX12_gain_41 rfl ?_
    refine xi_aload_n C 3 dX12_gain_42 rfl ?_
    refine xi_get C zkX11 1 _ zlX12_34 (by decide) (zcons (zWb_l (vp_lt c1))) rfl dX12_gain_43 ?_
    refine xi_iald C 0 rfl c3 dX12_gain_46 ?_
    refine xi_aload_n C 2 dX12_gain_47 rfl ?_
    refine xi_aload_n C 3 dX12_gain_48 rfl ?_
    refine xi_get C zkX11 0 _ zlX12_30 (by decide) (zcons (zWb_l (vp_lt c1))) rfl dX12_gain_49 ?_
    refine xi_iald C 0 rfl c2 dX12_gain_52 ?_
    refine xi_iconst C (v := (-1)) dX12_gain_53 rfl ?_
    refine xi_ixor C dX12_gain_54 ?_
    refine xi_iand C dX12_gain_55 ?_
    refine xi_callSr C (kJ6_bitCount_0f7a4 l D cT ((p2 (t_line_e_to x1.toNatClampNeg).toNatClampNeg) &&& ((p2 (t_line_e_from x1.toNatClampNeg).toNatClampNeg) ^^^ (-1))) (fJ6_bitCount_0f7a4 ((p2 (t_line_e_to x1.toNatClampNeg).toNatClampNeg) &&& ((p2 (t_line_e_from x1.toNatClampNeg).toNatClampNeg) ^^^ (-1)))) rfl) zcJ6_bitCount_0f7a4 zmX12_37 zsJ6_bitCount_0f7a4 (zr rfl rfl) z00 rfl [] rfl rfl rfl (Nat.le_of_ble_eq_true rfl) dX12_gain_56 (fun z11 => ?_)
    refine xi_iadd C dX12_gain_59 ?_
    obtain rfl := Option.some.inj h
    exact hE _ _ _ dX12_gain_60 rfl
  · replace h := (if_neg c8).symm.trans h
    refine xi_iload C 4 dX12_gain_34 rfl ?_
    refine xi_goto C (tgt := 60) dX12_gain_36 rfl ?_
    obtain rfl := Option.some.inj h
    exact hE _ _ _ dX12_gain_60 rfl
def fX12_gainOf_b5 (N_line : Nat) (N_p2 : Nat) (t_lines : Int32) (t_line_e_from : Nat → Int32) (t_line_e_to : Nat → Int32) (t_line_e_forth : Nat → Int32) (p2 : Nat → Int32) (x1 : Int32) : Nat → Int32 → Int32 → Option Int32
  | 0, _, _ => none
  | n + 1, y3, y4 => if t_lines ≤ y4 then some y3 else if ((x1 >>> (y4 &&& 31)) &&& 1) = 1 then (fX12_gain N_line N_p2 t_line_e_from t_line_e_to t_line_e_forth p2 y4).bind (fun u3 => (fX12_gainOf_b5 N_line N_p2 t_lines t_line_e_from t_line_e_to t_line_e_forth p2 x1 n) (y3 + u3) (y4 + 1)) else (fX12_gainOf_b5 N_line N_p2 t_lines t_line_e_from t_line_e_to t_line_e_forth p2 x1 n) y3 (y4 + 1)
theorem fX12_gainOf_b5_0 (N_line : Nat) (N_p2 : Nat) (t_lines : Int32) (t_line_e_from : Nat → Int32) (t_line_e_to : Nat → Int32) (t_line_e_forth : Nat → Int32) (p2 : Nat → Int32) (x1 : Int32) (y3 : Int32) (y4 : Int32) : fX12_gainOf_b5 N_line N_p2 t_lines t_line_e_from t_line_e_to t_line_e_forth p2 x1 0 y3 y4 = none := rfl
theorem fX12_gainOf_b5_s (N_line : Nat) (N_p2 : Nat) (t_lines : Int32) (t_line_e_from : Nat → Int32) (t_line_e_to : Nat → Int32) (t_line_e_forth : Nat → Int32) (p2 : Nat → Int32) (x1 : Int32) (n : Nat) (y3 : Int32) (y4 : Int32) : fX12_gainOf_b5 N_line N_p2 t_lines t_line_e_from t_line_e_to t_line_e_forth p2 x1 (n + 1) y3 y4 = (if t_lines ≤ y4 then some y3 else if ((x1 >>> (y4 &&& 31)) &&& 1) = 1 then (fX12_gain N_line N_p2 t_line_e_from t_line_e_to t_line_e_forth p2 y4).bind (fun u3 => (fX12_gainOf_b5 N_line N_p2 t_lines t_line_e_from t_line_e_to t_line_e_forth p2 x1 n) (y3 + u3) (y4 + 1)) else (fX12_gainOf_b5 N_line N_p2 t_lines t_line_e_from t_line_e_to t_line_e_forth p2 x1 n) y3 (y4 + 1)) := rfl
def fX12_gainOf (N_line : Nat) (N_p2 : Nat) (t_lines : Int32) (t_line_e_from : Nat → Int32) (t_line_e_to : Nat → Int32) (t_line_e_forth : Nat → Int32) (p2 : Nat → Int32) (x1 : Int32) : Option Int32 := fX12_gainOf_b5 N_line N_p2 t_lines t_line_e_from t_line_e_to t_line_e_forth p2 x1 FU 0 0
set_option maxRecDepth 100000 in
set_option maxHeartbeats 4000000 in
theorem kX12_gainOf (l : Launch) (D : va_G) (cT : Nat → ClassId) (a_t : Nat) (a_t_line : Nat) (a_t_broken : Nat) (a_t_away : Nat) (a_t_known : Nat) (a_t_spent : Nat) (a_p2 : Nat) (a_t_line_e : Nat → Nat) (a_t_broken_e : Nat → Nat) (a_t_away_e : Nat → Nat) (N_line : Nat) (N_broken : Nat) (N_away : Nat) (N_p2 : Nat) (t_people : Int32) (t_lines : Int32) (t_rounds : Int32) (t_calls : Int32) (t_bestSet : Int32) (t_bestGain : Int32) (t_bestCost : Int32) (t_line_e_from : Nat → Int32) (t_line_e_to : Nat → Int32) (t_line_e_cost : Nat → Int32) (t_line_e_forth : Nat → Int32) (t_line_e_cut : Nat → Int32) (t_line_e_arranged : Nat → Int32) (t_broken_e : Nat → Nat → Int32) (t_away_e : Nat → Nat → Int32) (p2 : Nat → Int32) (x1 : Int32) (hNl : N_line ≤ 24) (r : Int32) (h : fX12_gainOf N_line N_p2 t_lines t_line_e_from t_line_e_to t_line_e_forth p2 x1 = some r) : sM l yX12_gainOf cX12_gainOf 5 (some .int) (zR 4) D cT [.ref a_t, .int x1, .ref a_p2] ((a_p2, .inl (cT 0, N_p2, .inl p2)) :: zWb cT a_t a_t_line a_t_broken a_t_away a_t_known a_t_spent t_people t_lines t_rounds t_calls t_bestSet t_bestGain t_bestCost N_line N_broken N_away a_t_line_e a_t_broken_e a_t_away_e t_line_e_from t_line_e_to t_line_e_cost t_line_e_forth t_line_e_cut t_line_e_arranged t_broken_e t_away_e) (some (.int r)) ((a_p2, .inl (cT 0, N_p2, .inl p2)) :: zWb cT a_t a_t_line a_t_broken a_t_away a_t_known a_t_spent t_people t_lines t_rounds t_calls t_bestSet t_bestGain t_bestCost N_line N_broken N_away a_t_line_e a_t_broken_e a_t_away_e t_line_e_from t_line_e_to t_line_e_cost t_line_e_forth t_line_e_cut t_line_e_arranged t_broken_e t_away_e) := by
  refine sM_int rfl (Nat.le_of_ble_eq_true rfl) ?_
  intro X C hE
  have B5 : ∀ (n : Nat) (y3 : Int32) (y4 : Int32), fX12_gainOf_b5 N_line N_p2 t_lines t_line_e_from t_line_e_to t_line_e_forth p2 x1 n y3 y4 = some r → sW X l (zR 4) D 5 0 0 5 [(0, .ref a_t), (1, .int x1), (2, .ref a_p2), (3, .int y3), (4, .int y4)] [] ((a_p2, .inl (cT 0, N_p2, .inl p2)) :: zWb cT a_t a_t_line a_t_broken a_t_away a_t_known a_t_spent t_people t_lines t_rounds t_calls t_bestSet t_bestGain t_bestCost N_line N_broken N_away a_t_line_e a_t_broken_e a_t_away_e t_line_e_from t_line_e_to t_line_e_cost t_line_e_forth t_line_e_cut t_line_e_arranged t_broken_e t_away_e) := by
    intro n
    induction n with
    | zero =>
      intro y3 y4 h
      exact zno ((fX12_gainOf_b5_0 _ _ _ _ _ _ _ _ _ _).symm.trans h)
    | succ n ih =>
      intro y3 y4 h
      replace h := (fX12_gainOf_b5_s _ _ _ _ _ _ _ _ _ _ _).symm.trans h
      refine xi_iload C 4 dX12_gainOf_5 rfl ?_
      refine xi_aload_n C 0 dX12_gainOf_7 rfl ?_
      refine xi_get C zkX12 1 1 zlX12_46 (by decide) rfl rfl dX12_gainOf_8 ?_
      refine xi_icmp_ge C (tgt := 40) dX12_gainOf_11 rfl (fun c1 => ?_) (fun c1 => ?_)
      · replace h := (if_pos c1).symm.trans h
        refine xi_iload_n C 3 dX12_gainOf_40 rfl ?_
        obtain rfl := Option.some.inj h
        exact hE _ _ _ dX12_gainOf_41 rfl
      · replace h := (if_neg c1).symm.trans h
        refine xi_iload_n C 1 dX12_gainOf_14 rfl ?_
        refine xi_iload C 4 dX12_gainOf_15 rfl ?_
        refine xi_ishr C dX12_gainOf_17 ?_
        refine xi_iconst C (v := 1) dX12_gainOf_18 rfl ?_
        refine xi_iand C dX12_gainOf_19 ?_
        refine xi_iconst C (v := 1) dX12_gainOf_20 rfl ?_
        refine xi_icmp_ne C (tgt := 34) dX12_gainOf_21 rfl (fun c2 => ?_) (fun c2 => ?_)
        · replace h := (if_neg c2).symm.trans h
          refine xi_iinc C (v := y4 + 1) 4 [1, 2, 3, 4, 0] (L2 := [(0, .ref a_t), (1, .int x1), (2, .ref a_p2), (3, .int y3), (4, .int (y4 + 1))]) dX12_gainOf_34 rfl rfl (Nat.le_of_ble_eq_true rfl) rfl ?_
          refine xi_goto C (tgt := 5) dX12_gainOf_37 rfl ?_
          exact ih y3 (y4 + 1) h
        · replace h := (if_pos c2).symm.trans h
          refine xi_iload_n C 3 dX12_gainOf_24 rfl ?_
          refine xi_aload_n C 0 dX12_gainOf_25 rfl ?_
          refine xi_iload C 4 dX12_gainOf_26 rfl ?_
          refine xi_aload_n C 2 dX12_gainOf_28 rfl ?_
          replace h := ob h
          obtain ⟨u3, hu4, h⟩ := h
          refine xi_callVF C (kX12_gain l D cT a_t a_t_line a_t_broken a_t_away a_t_known a_t_spent a_p2 a_t_line_e a_t_broken_e a_t_away_e N_line N_broken N_away N_p2 t_people t_lines t_rounds t_calls t_bestSet t_bestGain t_bestCost t_line_e_from t_line_e_to t_line_e_cost t_line_e_forth t_line_e_cut t_line_e_arranged t_broken_e t_away_e p2 y4 hNl u3 hu4) ([] : va_W) (ws2 := ((a_p2, .inl (cT 0, N_p2, .inl p2)) :: zWb cT a_t a_t_line a_t_broken a_t_away a_t_known a_t_spent t_people t_lines t_rounds t_calls t_bestSet t_bestGain t_bestCost N_line N_broken N_away a_t_line_e a_t_broken_e a_t_away_e t_line_e_from t_line_e_to t_line_e_cost t_line_e_forth t_line_e_cut t_line_e_arranged t_broken_e t_away_e)) permN permN2 zcX12_gain zmX12_49 ziX12_gain (zrLt (by omega) (Nat.le_of_ble_eq_true rfl)) z00 rfl zkX12.1 (qr := 1) rfl rfl (Nat.le_of_ble_eq_true rfl) dX12_gainOf_29 (fun z5 => ?_)
          refine xi_iadd C dX12_gainOf_32 ?_
          refine xi_istore_n C [1, 2, 3, 0, 4] (L2 := [(0, .ref a_t), (1, .int x1), (2, .ref a_p2), (3, .int (y3 + u3)), (4, .int y4)]) dX12_gainOf_33 (Nat.le_of_ble_eq_true rfl) rfl ?_
          refine xi_iinc C (v := y4 + 1) 4 [1, 2, 3, 4, 0] (L2 := [(0, .ref a_t), (1, .int x1), (2, .ref a_p2), (3, .int (y3 + u3)), (4, .int (y4 + 1))]) dX12_gainOf_34 rfl rfl (Nat.le_of_ble_eq_true rfl) rfl ?_
          refine xi_goto C (tgt := 5) dX12_gainOf_37 rfl ?_
          exact ih (y3 + u3) (y4 + 1) h
  refine xi_drop (L2 := [(0, .ref a_t), (1, .int x1), (2, .ref a_p2)]) [0, 1, 2] rfl ?_
  refine xi_iconst C (v := 0) dX12_gainOf_0 rfl ?_
  refine xi_istore_n C [1, 2, 3, 0] (L2 := [(0, .ref a_t), (1, .int x1), (2, .ref a_p2), (3, .int 0)]) dX12_gainOf_1 (Nat.le_of_ble_eq_true rfl) rfl ?_
  refine xi_iconst C (v := 0) dX12_gainOf_2 rfl ?_
  refine xi_istore C [1, 2, 3, 4, 0] (L2 := [(0, .ref a_t), (1, .int x1), (2, .ref a_p2), (3, .int 0), (4, .int 0)]) dX12_gainOf_3 (Nat.le_of_ble_eq_true rfl) rfl ?_
  exact B5 FU 0 0 h
def fX12_cost_b4 (N_line : Nat) (t_lines : Int32) (t_line_e_cost : Nat → Int32) (x1 : Int32) : Nat → Int32 → Int32 → Option Int32
  | 0, _, _ => none
  | n + 1, y2, y3 => if t_lines ≤ y3 then some y2 else if ((x1 >>> (y3 &&& 31)) &&& 1) = 1 then gd y3 N_line ((fX12_cost_b4 N_line t_lines t_line_e_cost x1 n) (y2 + (t_line_e_cost y3.toNatClampNeg)) (y3 + 1)) else (fX12_cost_b4 N_line t_lines t_line_e_cost x1 n) y2 (y3 + 1)
theorem fX12_cost_b4_0 (N_line : Nat) (t_lines : Int32) (t_line_e_cost : Nat → Int32) (x1 : Int32) (y2 : Int32) (y3 : Int32) : fX12_cost_b4 N_line t_lines t_line_e_cost x1 0 y2 y3 = none := rfl
theorem fX12_cost_b4_s (N_line : Nat) (t_lines : Int32) (t_line_e_cost : Nat → Int32) (x1 : Int32) (n : Nat) (y2 : Int32) (y3 : Int32) : fX12_cost_b4 N_line t_lines t_line_e_cost x1 (n + 1) y2 y3 = (if t_lines ≤ y3 then some y2 else if ((x1 >>> (y3 &&& 31)) &&& 1) = 1 then gd y3 N_line ((fX12_cost_b4 N_line t_lines t_line_e_cost x1 n) (y2 + (t_line_e_cost y3.toNatClampNeg)) (y3 + 1)) else (fX12_cost_b4 N_line t_lines t_line_e_cost x1 n) y2 (y3 + 1)) := rfl
def fX12_cost (N_line : Nat) (t_lines : Int32) (t_line_e_cost : Nat → Int32) (x1 : Int32) : Option Int32 := fX12_cost_b4 N_line t_lines t_line_e_cost x1 FU 0 0
set_option maxRecDepth 100000 in
set_option maxHeartbeats 4000000 in
theorem kX12_cost (l : Launch) (D : va_G) (cT : Nat → ClassId) (a_t : Nat) (a_t_line : Nat) (a_t_broken : Nat) (a_t_away : Nat) (a_t_known : Nat) (a_t_spent : Nat) (a_t_line_e : Nat → Nat) (a_t_broken_e : Nat → Nat) (a_t_away_e : Nat → Nat) (N_line : Nat) (N_broken : Nat) (N_away : Nat) (t_people : Int32) (t_lines : Int32) (t_rounds : Int32) (t_calls : Int32) (t_bestSet : Int32) (t_bestGain : Int32) (t_bestCost : Int32) (t_line_e_from : Nat → Int32) (t_line_e_to : Nat → Int32) (t_line_e_cost : Nat → Int32) (t_line_e_forth : Nat → Int32) (t_line_e_cut : Nat → Int32) (t_line_e_arranged : Nat → Int32) (t_broken_e : Nat → Nat → Int32) (t_away_e : Nat → Nat → Int32) (x1 : Int32) (hNl : N_line ≤ 24) (r : Int32) (h : fX12_cost N_line t_lines t_line_e_cost x1 = some r) : sM l yX12_cost cX12_cost 4 (some .int) (zR 2) D cT [.ref a_t, .int x1] (zWb cT a_t a_t_line a_t_broken a_t_away a_t_known a_t_spent t_people t_lines t_rounds t_calls t_bestSet t_bestGain t_bestCost N_line N_broken N_away a_t_line_e a_t_broken_e a_t_away_e t_line_e_from t_line_e_to t_line_e_cost t_line_e_forth t_line_e_cut t_line_e_arranged t_broken_e t_away_e) (some (.int r)) (zWb cT a_t a_t_line a_t_broken a_t_away a_t_known a_t_spent t_people t_lines t_rounds t_calls t_bestSet t_bestGain t_bestCost N_line N_broken N_away a_t_line_e a_t_broken_e a_t_away_e t_line_e_from t_line_e_to t_line_e_cost t_line_e_forth t_line_e_cut t_line_e_arranged t_broken_e t_away_e) := by
  refine sM_int rfl (Nat.le_of_ble_eq_true rfl) ?_
  intro X C hE
  have B4 : ∀ (n : Nat) (y2 : Int32) (y3 : Int32), fX12_cost_b4 N_line t_lines t_line_e_cost x1 n y2 y3 = some r → sW X l (zR 2) D 4 0 0 4 [(0, .ref a_t), (1, .int x1), (2, .int y2), (3, .int y3)] [] (zWb cT a_t a_t_line a_t_broken a_t_away a_t_known a_t_spent t_people t_lines t_rounds t_calls t_bestSet t_bestGain t_bestCost N_line N_broken N_away a_t_line_e a_t_broken_e a_t_away_e t_line_e_from t_line_e_to t_line_e_cost t_line_e_forth t_line_e_cut t_line_e_arranged t_broken_e t_away_e) := by
    intro n
    induction n with
    | zero =>
      intro y2 y3 h
      exact zno ((fX12_cost_b4_0 _ _ _ _ _ _).symm.trans h)
    | succ n ih =>
      intro y2 y3 h
      replace h := (fX12_cost_b4_s _ _ _ _ _ _ _).symm.trans h
      refine xi_iload_n C 3 dX12_cost_4 rfl ?_
      refine xi_aload_n C 0 dX12_cost_5 rfl ?_
      refine xi_get C zkX12 1 0 zlX12_46 (by decide) rfl rfl dX12_cost_6 ?_
      refine xi_icmp_ge C (tgt := 39) dX12_cost_9 rfl (fun c1 => ?_) (fun c1 => ?_)
      · replace h := (if_pos c1).symm.trans h
        refine xi_iload_n C 2 dX12_cost_39 rfl ?_
        obtain rfl := Option.some.inj h
        exact hE _ _ _ dX12_cost_40 rfl
      · replace h := (if_neg c1).symm.trans h
        refine xi_iload_n C 1 dX12_cost_12 rfl ?_
        refine xi_iload_n C 3 dX12_cost_13 rfl ?_
        refine xi_ishr C dX12_cost_14 ?_
        refine xi_iconst C (v := 1) dX12_cost_15 rfl ?_
        refine xi_iand C dX12_cost_16 ?_
        refine xi_iconst C (v := 1) dX12_cost_17 rfl ?_
        refine xi_icmp_ne C (tgt := 33) dX12_cost_18 rfl (fun c2 => ?_) (fun c2 => ?_)
        · replace h := (if_neg c2).symm.trans h
          refine xi_iinc C (v := y3 + 1) 3 [1, 2, 3, 0] (L2 := [(0, .ref a_t), (1, .int x1), (2, .int y2), (3, .int (y3 + 1))]) dX12_cost_33 rfl rfl (Nat.le_of_ble_eq_true rfl) rfl ?_
          refine xi_goto C (tgt := 4) dX12_cost_36 rfl ?_
          exact ih y2 (y3 + 1) h
        · replace h := (if_pos c2).symm.trans h
          refine xi_iload_n C 2 dX12_cost_21 rfl ?_
          refine xi_aload_n C 0 dX12_cost_22 rfl ?_
          refine xi_get C zkX12 4 0 zlX12_9 (by decide) rfl rfl dX12_cost_23 ?_
          refine xi_iload_n C 3 dX12_cost_26 rfl ?_
          replace h := ig h
          obtain ⟨c3, h⟩ := h
          refine xi_aald C (b := a_t_line_e y3.toNatClampNeg) 1 7 rfl rfl (vp_mono c3 hNl) (if_pos (vp_lt c3)) dX12_cost_27 ?_
          refine xi_get C zkX11 2 _ zlX12_53 (by decide) (zWb_l (vp_lt c3)) rfl dX12_cost_28 ?_
          refine xi_iadd C dX12_cost_31 ?_
          refine xi_istore_n C [1, 2, 0, 3] (L2 := [(0, .ref a_t), (1, .int x1), (2, .int (y2 + (t_line_e_cost y3.toNatClampNeg))), (3, .int y3)]) dX12_cost_32 (Nat.le_of_ble_eq_true rfl) rfl ?_
          refine xi_iinc C (v := y3 + 1) 3 [1, 2, 3, 0] (L2 := [(0, .ref a_t), (1, .int x1), (2, .int (y2 + (t_line_e_cost y3.toNatClampNeg))), (3, .int (y3 + 1))]) dX12_cost_33 rfl rfl (Nat.le_of_ble_eq_true rfl) rfl ?_
          refine xi_goto C (tgt := 4) dX12_cost_36 rfl ?_
          exact ih (y2 + (t_line_e_cost y3.toNatClampNeg)) (y3 + 1) h
  refine xi_drop (L2 := [(0, .ref a_t), (1, .int x1)]) [0, 1] rfl ?_
  refine xi_iconst C (v := 0) dX12_cost_0 rfl ?_
  refine xi_istore_n C [1, 2, 0] (L2 := [(0, .ref a_t), (1, .int x1), (2, .int 0)]) dX12_cost_1 (Nat.le_of_ble_eq_true rfl) rfl ?_
  refine xi_iconst C (v := 0) dX12_cost_2 rfl ?_
  refine xi_istore_n C [1, 2, 3, 0] (L2 := [(0, .ref a_t), (1, .int x1), (2, .int 0), (3, .int 0)]) dX12_cost_3 (Nat.le_of_ble_eq_true rfl) rfl ?_
  exact B4 FU 0 0 h
def fX12_arranged_b4 (N_line : Nat) (t_lines : Int32) (t_line_e_arranged : Nat → Int32) : Nat → Int32 → Int32 → Option Int32
  | 0, _, _ => none
  | n + 1, y1, y2 => if t_lines ≤ y2 then some y1 else gd y2 N_line (if (t_line_e_arranged y2.toNatClampNeg) = 0 then (fX12_arranged_b4 N_line t_lines t_line_e_arranged n) y1 (y2 + 1) else (fX12_arranged_b4 N_line t_lines t_line_e_arranged n) (y1 ||| (1 <<< (y2 &&& 31))) (y2 + 1))
theorem fX12_arranged_b4_0 (N_line : Nat) (t_lines : Int32) (t_line_e_arranged : Nat → Int32) (y1 : Int32) (y2 : Int32) : fX12_arranged_b4 N_line t_lines t_line_e_arranged 0 y1 y2 = none := rfl
theorem fX12_arranged_b4_s (N_line : Nat) (t_lines : Int32) (t_line_e_arranged : Nat → Int32) (n : Nat) (y1 : Int32) (y2 : Int32) : fX12_arranged_b4 N_line t_lines t_line_e_arranged (n + 1) y1 y2 = (if t_lines ≤ y2 then some y1 else gd y2 N_line (if (t_line_e_arranged y2.toNatClampNeg) = 0 then (fX12_arranged_b4 N_line t_lines t_line_e_arranged n) y1 (y2 + 1) else (fX12_arranged_b4 N_line t_lines t_line_e_arranged n) (y1 ||| (1 <<< (y2 &&& 31))) (y2 + 1))) := rfl
def fX12_arranged (N_line : Nat) (t_lines : Int32) (t_line_e_arranged : Nat → Int32) : Option Int32 := fX12_arranged_b4 N_line t_lines t_line_e_arranged FU 0 0
set_option maxRecDepth 100000 in
set_option maxHeartbeats 4000000 in
theorem kX12_arranged (l : Launch) (D : va_G) (cT : Nat → ClassId) (a_t : Nat) (a_t_line : Nat) (a_t_broken : Nat) (a_t_away : Nat) (a_t_known : Nat) (a_t_spent : Nat) (a_t_line_e : Nat → Nat) (a_t_broken_e : Nat → Nat) (a_t_away_e : Nat → Nat) (N_line : Nat) (N_broken : Nat) (N_away : Nat) (t_people : Int32) (t_lines : Int32) (t_rounds : Int32) (t_calls : Int32) (t_bestSet : Int32) (t_bestGain : Int32) (t_bestCost : Int32) (t_line_e_from : Nat → Int32) (t_line_e_to : Nat → Int32) (t_line_e_cost : Nat → Int32) (t_line_e_forth : Nat → Int32) (t_line_e_cut : Nat → Int32) (t_line_e_arranged : Nat → Int32) (t_broken_e : Nat → Nat → Int32) (t_away_e : Nat → Nat → Int32) (hNl : N_line ≤ 24) (r : Int32) (h : fX12_arranged N_line t_lines t_line_e_arranged = some r) : sM l yX12_arranged cX12_arranged 3 (some .int) (zR 2) D cT [.ref a_t] (zWb cT a_t a_t_line a_t_broken a_t_away a_t_known a_t_spent t_people t_lines t_rounds t_calls t_bestSet t_bestGain t_bestCost N_line N_broken N_away a_t_line_e a_t_broken_e a_t_away_e t_line_e_from t_line_e_to t_line_e_cost t_line_e_forth t_line_e_cut t_line_e_arranged t_broken_e t_away_e) (some (.int r)) (zWb cT a_t a_t_line a_t_broken a_t_away a_t_known a_t_spent t_people t_lines t_rounds t_calls t_bestSet t_bestGain t_bestCost N_line N_broken N_away a_t_line_e a_t_broken_e a_t_away_e t_line_e_from t_line_e_to t_line_e_cost t_line_e_forth t_line_e_cut t_line_e_arranged t_broken_e t_away_e) := by
  refine sM_int rfl (Nat.le_of_ble_eq_true rfl) ?_
  intro X C hE
  have B4 : ∀ (n : Nat) (y1 : Int32) (y2 : Int32), fX12_arranged_b4 N_line t_lines t_line_e_arranged n y1 y2 = some r → sW X l (zR 2) D 3 0 0 4 [(0, .ref a_t), (1, .int y1), (2, .int y2)] [] (zWb cT a_t a_t_line a_t_broken a_t_away a_t_known a_t_spent t_people t_lines t_rounds t_calls t_bestSet t_bestGain t_bestCost N_line N_broken N_away a_t_line_e a_t_broken_e a_t_away_e t_line_e_from t_line_e_to t_line_e_cost t_line_e_forth t_line_e_cut t_line_e_arranged t_broken_e t_away_e) := by
    intro n
    induction n with
    | zero =>
      intro y1 y2 h
      exact zno ((fX12_arranged_b4_0 _ _ _ _ _).symm.trans h)
    | succ n ih =>
      intro y1 y2 h
      replace h := (fX12_arranged_b4_s _ _ _ _ _ _).symm.trans h
      refine xi_iload_n C 2 dX12_arranged_4 rfl ?_
      refine xi_aload_n C 0 dX12_arranged_5 rfl ?_
      refine xi_get C zkX12 1 0 zlX12_46 (by decide) rfl rfl dX12_arranged_6 ?_
      refine xi_icmp_ge C (tgt := 36) dX12_arranged_9 rfl (fun c1 => ?_) (fun c1 => ?_)
      · replace h := (if_pos c1).symm.trans h
        refine xi_iload_n C 1 dX12_arranged_36 rfl ?_
        obtain rfl := Option.some.inj h
        exact hE _ _ _ dX12_arranged_37 rfl
      · replace h := (if_neg c1).symm.trans h
        refine xi_aload_n C 0 dX12_arranged_12 rfl ?_
        refine xi_get C zkX12 4 0 zlX12_9 (by decide) rfl rfl dX12_arranged_13 ?_
        refine xi_iload_n C 2 dX12_arranged_16 rfl ?_
        replace h := ig h
        obtain ⟨c2, h⟩ := h
        refine xi_aald C (b := a_t_line_e y2.toNatClampNeg) 1 7 rfl rfl (vp_mono c2 hNl) (if_pos (vp_lt c2)) dX12_arranged_17 ?_
        refine xi_get C zkX11 5 _ zlX12_56 (by decide) (zWb_l (vp_lt c2)) rfl dX12_arranged_18 ?_
        refine xi_if_eq C (tgt := 30) dX12_arranged_21 rfl (fun c3 => ?_) (fun c3 => ?_)
        · replace h := (if_pos c3).symm.trans h
          refine xi_iinc C (v := y2 + 1) 2 [1, 2, 0] (L2 := [(0, .ref a_t), (1, .int y1), (2, .int (y2 + 1))]) dX12_arranged_30 rfl rfl (Nat.le_of_ble_eq_true rfl) rfl ?_
          refine xi_goto C (tgt := 4) dX12_arranged_33 rfl ?_
          exact ih y1 (y2 + 1) h
        · replace h := (if_neg c3).symm.trans h
          refine xi_iload_n C 1 dX12_arranged_24 rfl ?_
          refine xi_iconst C (v := 1) dX12_arranged_25 rfl ?_
          refine xi_iload_n C 2 dX12_arranged_26 rfl ?_
          refine xi_ishl C dX12_arranged_27 ?_
          refine xi_ior C dX12_arranged_28 ?_
          refine xi_istore_n C [1, 0, 2] (L2 := [(0, .ref a_t), (1, .int (y1 ||| (1 <<< (y2 &&& 31)))), (2, .int y2)]) dX12_arranged_29 (Nat.le_of_ble_eq_true rfl) rfl ?_
          refine xi_iinc C (v := y2 + 1) 2 [1, 2, 0] (L2 := [(0, .ref a_t), (1, .int (y1 ||| (1 <<< (y2 &&& 31)))), (2, .int (y2 + 1))]) dX12_arranged_30 rfl rfl (Nat.le_of_ble_eq_true rfl) rfl ?_
          refine xi_goto C (tgt := 4) dX12_arranged_33 rfl ?_
          exact ih (y1 ||| (1 <<< (y2 &&& 31))) (y2 + 1) h
  refine xi_drop (L2 := [(0, .ref a_t)]) [0] rfl ?_
  refine xi_iconst C (v := 0) dX12_arranged_0 rfl ?_
  refine xi_istore_n C [1, 0] (L2 := [(0, .ref a_t), (1, .int 0)]) dX12_arranged_1 (Nat.le_of_ble_eq_true rfl) rfl ?_
  refine xi_iconst C (v := 0) dX12_arranged_2 rfl ?_
  refine xi_istore_n C [1, 2, 0] (L2 := [(0, .ref a_t), (1, .int 0), (2, .int 0)]) dX12_arranged_3 (Nat.le_of_ble_eq_true rfl) rfl ?_
  exact B4 FU 0 0 h
def fX12_tries_b69 (x2 : Int32) (y6 : Int32) (y7 : Int32) : Option (Int32 × Int32 × Int32) := some (x2, y6, y7)
def fX12_tries (N_line : Nat) (N_broken : Nat) (N_away : Nat) (N_p5 : Nat) (t_people : Int32) (t_lines : Int32) (t_rounds : Int32) (t_calls : Int32) (t_line_e_from : Nat → Int32) (t_line_e_to : Nat → Int32) (t_line_e_cost : Nat → Int32) (t_line_e_forth : Nat → Int32) (t_line_e_cut : Nat → Int32) (t_line_e_arranged : Nat → Int32) (t_broken_e : Nat → Nat → Int32) (t_away_e : Nat → Nat → Int32) (p5 : Nat → Int32) : Nat → Int32 → Int32 → Int32 → Int32 → Int32 → Int32 → Int32 → Option (Int32 × Int32 × Int32)
  | 0, _, _, _, _, _, _, _ => none
  | n + 1, x1, x2, x3, x4, t_bestSet, t_bestGain, t_bestCost => if x1 = t_lines then (fX12_gainOf N_line N_p5 t_lines t_line_e_from t_line_e_to t_line_e_forth p5 x2).bind (fun u15 => (fX12_cost N_line t_lines t_line_e_cost x2).bind (fun u18 => if u15 < t_bestGain then some (t_bestSet, t_bestGain, t_bestCost) else if u15 = t_bestGain then if t_bestCost < u18 then some (t_bestSet, t_bestGain, t_bestCost) else if u18 = t_bestCost then if x2 < t_bestSet then fX12_tries_b69 x2 u15 u18 else some (t_bestSet, t_bestGain, t_bestCost) else fX12_tries_b69 x2 u15 u18 else fX12_tries_b69 x2 u15 u18)) else ((fX12_tries N_line N_broken N_away N_p5 t_people t_lines t_rounds t_calls t_line_e_from t_line_e_to t_line_e_cost t_line_e_forth t_line_e_cut t_line_e_arranged t_broken_e t_away_e p5 n) (x1 + 1) x2 x3 x4 t_bestSet t_bestGain t_bestCost).bind (fun u2 => gd x1 N_line (nm ((1 <<< ((t_line_e_from x1.toNatClampNeg) &&& 31)) ||| (1 <<< ((t_line_e_to x1.toNatClampNeg) &&& 31))) (fun w6 => if (x3 &&& w6) = 0 then (fX12_usable N_line N_broken N_away t_line_e_from t_line_e_to t_line_e_cut t_broken_e t_away_e x1 x4).bind (fun u8 => if u8 = 0 then some (u2.1, u2.2.1, u2.2.2) else ((fX12_tries N_line N_broken N_away N_p5 t_people t_lines t_rounds t_calls t_line_e_from t_line_e_to t_line_e_cost t_line_e_forth t_line_e_cut t_line_e_arranged t_broken_e t_away_e p5 n) (x1 + 1) (x2 ||| (1 <<< (x1 &&& 31))) (x3 ||| w6) x4 u2.1 u2.2.1 u2.2.2).bind (fun u12 => some (u12.1, u12.2.1, u12.2.2))) else some (u2.1, u2.2.1, u2.2.2))))
theorem fX12_tries_s (N_line : Nat) (N_broken : Nat) (N_away : Nat) (N_p5 : Nat) (t_people : Int32) (t_lines : Int32) (t_rounds : Int32) (t_calls : Int32) (t_line_e_from : Nat → Int32) (t_line_e_to : Nat → Int32) (t_line_e_cost : Nat → Int32) (t_line_e_forth : Nat → Int32) (t_line_e_cut : Nat → Int32) (t_line_e_arranged : Nat → Int32) (t_broken_e : Nat → Nat → Int32) (t_away_e : Nat → Nat → Int32) (p5 : Nat → Int32) (n : Nat) (x1 : Int32) (x2 : Int32) (x3 : Int32) (x4 : Int32) (t_bestSet : Int32) (t_bestGain : Int32) (t_bestCost : Int32) : fX12_tries N_line N_broken N_away N_p5 t_people t_lines t_rounds t_calls t_line_e_from t_line_e_to t_line_e_cost t_line_e_forth t_line_e_cut t_line_e_arranged t_broken_e t_away_e p5 (n + 1) x1 x2 x3 x4 t_bestSet t_bestGain t_bestCost = (if x1 = t_lines then (fX12_gainOf N_line N_p5 t_lines t_line_e_from t_line_e_to t_line_e_forth p5 x2).bind (fun u15 => (fX12_cost N_line t_lines t_line_e_cost x2).bind (fun u18 => if u15 < t_bestGain then some (t_bestSet, t_bestGain, t_bestCost) else if u15 = t_bestGain then if t_bestCost < u18 then some (t_bestSet, t_bestGain, t_bestCost) else if u18 = t_bestCost then if x2 < t_bestSet then fX12_tries_b69 x2 u15 u18 else some (t_bestSet, t_bestGain, t_bestCost) else fX12_tries_b69 x2 u15 u18 else fX12_tries_b69 x2 u15 u18)) else ((fX12_tries N_line N_broken N_away N_p5 t_people t_lines t_rounds t_calls t_line_e_from t_line_e_to t_line_e_cost t_line_e_forth t_line_e_cut t_line_e_arranged t_broken_e t_away_e p5 n) (x1 + 1) x2 x3 x4 t_bestSet t_bestGain t_bestCost).bind (fun u2 => gd x1 N_line (nm ((1 <<< ((t_line_e_from x1.toNatClampNeg) &&& 31)) ||| (1 <<< ((t_line_e_to x1.toNatClampNeg) &&& 31))) (fun w6 => if (x3 &&& w6) = 0 then (fX12_usable N_line N_broken N_away t_line_e_from t_line_e_to t_line_e_cut t_broken_e t_away_e x1 x4).bind (fun u8 => if u8 = 0 then some (u2.1, u2.2.1, u2.2.2) else ((fX12_tries N_line N_broken N_away N_p5 t_people t_lines t_rounds t_calls t_line_e_from t_line_e_to t_line_e_cost t_line_e_forth t_line_e_cut t_line_e_arranged t_broken_e t_away_e p5 n) (x1 + 1) (x2 ||| (1 <<< (x1 &&& 31))) (x3 ||| w6) x4 u2.1 u2.2.1 u2.2.2).bind (fun u12 => some (u12.1, u12.2.1, u12.2.2))) else some (u2.1, u2.2.1, u2.2.2))))) := rfl
set_option maxRecDepth 100000 in
set_option maxHeartbeats 4000000 in
theorem kX12_tries (l : Launch) (D : va_G) (cT : Nat → ClassId) (a_t : Nat) (a_t_line : Nat) (a_t_broken : Nat) (a_t_away : Nat) (a_t_known : Nat) (a_t_spent : Nat) (a_p5 : Nat) (a_t_line_e : Nat → Nat) (a_t_broken_e : Nat → Nat) (a_t_away_e : Nat → Nat) (N_line : Nat) (N_broken : Nat) (N_away : Nat) (N_p5 : Nat) (t_people : Int32) (t_lines : Int32) (t_rounds : Int32) (t_calls : Int32) (t_line_e_from : Nat → Int32) (t_line_e_to : Nat → Int32) (t_line_e_cost : Nat → Int32) (t_line_e_forth : Nat → Int32) (t_line_e_cut : Nat → Int32) (t_line_e_arranged : Nat → Int32) (t_broken_e : Nat → Nat → Int32) (t_away_e : Nat → Nat → Int32) (p5 : Nat → Int32) (hNl : N_line ≤ 24) (n : Nat) : ∀ (x1 : Int32) (x2 : Int32) (x3 : Int32) (x4 : Int32) (t_bestSet : Int32) (t_bestGain : Int32) (t_bestCost : Int32) (r : Int32 × Int32 × Int32) (h : fX12_tries N_line N_broken N_away N_p5 t_people t_lines t_rounds t_calls t_line_e_from t_line_e_to t_line_e_cost t_line_e_forth t_line_e_cut t_line_e_arranged t_broken_e t_away_e p5 n x1 x2 x3 x4 t_bestSet t_bestGain t_bestCost = some r), sM l yX12_tries cX12_tries 8 none (zR (12 + n)) D cT [.ref a_t, .int x1, .int x2, .int x3, .int x4, .ref a_p5] ((a_p5, .inl (cT 0, N_p5, .inl p5)) :: zWb cT a_t a_t_line a_t_broken a_t_away a_t_known a_t_spent t_people t_lines t_rounds t_calls t_bestSet t_bestGain t_bestCost N_line N_broken N_away a_t_line_e a_t_broken_e a_t_away_e t_line_e_from t_line_e_to t_line_e_cost t_line_e_forth t_line_e_cut t_line_e_arranged t_broken_e t_away_e) none ((a_p5, .inl (cT 0, N_p5, .inl p5)) :: zWb cT a_t a_t_line a_t_broken a_t_away a_t_known a_t_spent t_people t_lines t_rounds t_calls r.1 r.2.1 r.2.2 N_line N_broken N_away a_t_line_e a_t_broken_e a_t_away_e t_line_e_from t_line_e_to t_line_e_cost t_line_e_forth t_line_e_cut t_line_e_arranged t_broken_e t_away_e) := by
  induction n with
  | zero => intro x1 x2 x3 x4 t_bestSet t_bestGain t_bestCost r h; exact zno h
  | succ n ih =>
    intro x1 x2 x3 x4 t_bestSet t_bestGain t_bestCost r h
    replace h := (fX12_tries_s N_line N_broken N_away N_p5 t_people t_lines t_rounds t_calls t_line_e_from t_line_e_to t_line_e_cost t_line_e_forth t_line_e_cut t_line_e_arranged t_broken_e t_away_e p5 n x1 x2 x3 x4 t_bestSet t_bestGain t_bestCost).symm.trans h
    refine sM_void rfl (Nat.le_of_ble_eq_true rfl) ?_
    intro X C hE
    have B69 : ∀ (y6 : Int32) (y7 : Int32) (t_bestSet : Int32) (t_bestGain : Int32) (t_bestCost : Int32), fX12_tries_b69 x2 y6 y7 = some r → sW X l (zR (12 + (n + 1))) D 8 0 0 69 [(0, .ref a_t), (2, .int x2), (6, .int y6), (7, .int y7)] [] ((a_p5, .inl (cT 0, N_p5, .inl p5)) :: zWb cT a_t a_t_line a_t_broken a_t_away a_t_known a_t_spent t_people t_lines t_rounds t_calls t_bestSet t_bestGain t_bestCost N_line N_broken N_away a_t_line_e a_t_broken_e a_t_away_e t_line_e_from t_line_e_to t_line_e_cost t_line_e_forth t_line_e_cut t_line_e_arranged t_broken_e t_away_e) := by
      intro y6 y7 t_bestSet t_bestGain t_bestCost h
      refine xi_aload_n C 0 dX12_tries_69 rfl ?_
      refine xi_iload_n C 1 dX12_tries_70 rfl ?_
      refine xi_put C zkX12 9 1 zlX12_66 (by decide) rfl rfl rfl rfl (Nat.le_of_ble_eq_true rfl) dX12_tries_71 (ws2 := ((a_p5, .inl (cT 0, N_p5, .inl p5)) :: zWb cT a_t a_t_line a_t_broken a_t_away a_t_known a_t_spent t_people t_lines t_rounds t_calls x2 t_bestGain t_bestCost N_line N_broken N_away a_t_line_e a_t_broken_e a_t_away_e t_line_e_from t_line_e_to t_line_e_cost t_line_e_forth t_line_e_cut t_line_e_arranged t_broken_e t_away_e)) rfl ?_
      refine xi_aload_n C 0 dX12_tries_74 rfl ?_
      refine xi_iload C 2 dX12_tries_75 rfl ?_
      refine xi_put C zkX12 10 1 zlX12_59 (by decide) rfl rfl rfl rfl (Nat.le_of_ble_eq_true rfl) dX12_tries_77 (ws2 := ((a_p5, .inl (cT 0, N_p5, .inl p5)) :: zWb cT a_t a_t_line a_t_broken a_t_away a_t_known a_t_spent t_people t_lines t_rounds t_calls x2 y6 t_bestCost N_line N_broken N_away a_t_line_e a_t_broken_e a_t_away_e t_line_e_from t_line_e_to t_line_e_cost t_line_e_forth t_line_e_cut t_line_e_arranged t_broken_e t_away_e)) rfl ?_
      refine xi_aload_n C 0 dX12_tries_80 rfl ?_
      refine xi_iload C 3 dX12_tries_81 rfl ?_
      refine xi_put C zkX12 11 1 zlX12_74 (by decide) rfl rfl rfl rfl (Nat.le_of_ble_eq_true rfl) dX12_tries_83 (ws2 := ((a_p5, .inl (cT 0, N_p5, .inl p5)) :: zWb cT a_t a_t_line a_t_broken a_t_away a_t_known a_t_spent t_people t_lines t_rounds t_calls x2 y6 y7 N_line N_broken N_away a_t_line_e a_t_broken_e a_t_away_e t_line_e_from t_line_e_to t_line_e_cost t_line_e_forth t_line_e_cut t_line_e_arranged t_broken_e t_away_e)) rfl ?_
      obtain rfl := Option.some.inj h
      exact hE _ _ dX12_tries_86 rfl
    refine xi_drop (L2 := [(0, .ref a_t), (1, .int x1), (2, .int x2), (3, .int x3), (4, .int x4), (5, .ref a_p5)]) [0, 1, 2, 3, 4, 5] rfl ?_
    refine xi_iload_n C 1 dX12_tries_0 rfl ?_
    refine xi_aload_n C 0 dX12_tries_1 rfl ?_
    refine xi_get C zkX12 1 1 zlX12_46 (by decide) rfl rfl dX12_tries_2 ?_
    refine xi_icmp_ne C (tgt := 87) dX12_tries_5 rfl (fun c1 => ?_) (fun c1 => ?_)
    · replace h := (if_neg c1).symm.trans h
      refine xi_aload_n C 0 dX12_tries_87 rfl ?_
      refine xi_iload_n C 1 dX12_tries_88 rfl ?_
      refine xi_iconst C (v := 1) dX12_tries_89 rfl ?_
      refine xi_iadd C dX12_tries_90 ?_
      refine xi_iload_n C 2 dX12_tries_91 rfl ?_
      refine xi_iload_n C 3 dX12_tries_92 rfl ?_
      refine xi_iload C 4 dX12_tries_93 rfl ?_
      refine xi_aload C 5 dX12_tries_95 rfl ?_
      replace h := ob h
      obtain ⟨u2, hu3, h⟩ := h
      refine xi_callVF C (ih (x1 + 1) x2 x3 x4 t_bestSet t_bestGain t_bestCost u2 hu3) ([] : va_W) (ws2 := ((a_p5, .inl (cT 0, N_p5, .inl p5)) :: zWb cT a_t a_t_line a_t_broken a_t_away a_t_known a_t_spent t_people t_lines t_rounds t_calls u2.1 u2.2.1 u2.2.2 N_line N_broken N_away a_t_line_e a_t_broken_e a_t_away_e t_line_e_from t_line_e_to t_line_e_cost t_line_e_forth t_line_e_cut t_line_e_arranged t_broken_e t_away_e)) permN permN2 zcX12_tries zmX12_62 ziX12_tries (zrLt (by omega) (Nat.le_of_ble_eq_true rfl)) z00 rfl zkX12.1 (qr := 1) rfl rfl (Nat.le_of_ble_eq_true rfl) dX12_tries_97 (fun z4 => ?_)
      refine xi_iconst C (v := 1) dX12_tries_100 rfl ?_
      refine xi_aload_n C 0 dX12_tries_101 rfl ?_
      refine xi_get C zkX12 4 1 zlX12_9 (by decide) rfl rfl dX12_tries_102 ?_
      refine xi_iload_n C 1 dX12_tries_105 rfl ?_
      replace h := ig h
      obtain ⟨c5, h⟩ := h
      refine xi_aald C (b := a_t_line_e x1.toNatClampNeg) 2 7 rfl rfl (vp_mono c5 hNl) (if_pos (vp_lt c5)) dX12_tries_106 ?_
      refine xi_get C zkX11 0 _ zlX12_30 (by decide) (zcons (zWb_l (vp_lt c5))) rfl dX12_tries_107 ?_
      refine xi_ishl C dX12_tries_110 ?_
      refine xi_iconst C (v := 1) dX12_tries_111 rfl ?_
      refine xi_aload_n C 0 dX12_tries_112 rfl ?_
      refine xi_get C zkX12 4 1 zlX12_9 (by decide) rfl rfl dX12_tries_113 ?_
      refine xi_iload_n C 1 dX12_tries_116 rfl ?_
      refine xi_aald C (b := a_t_line_e x1.toNatClampNeg) 2 7 rfl rfl (vp_mono c5 hNl) (if_pos (vp_lt c5)) dX12_tries_117 ?_
      refine xi_get C zkX11 1 _ zlX12_34 (by decide) (zcons (zWb_l (vp_lt c5))) rfl dX12_tries_118 ?_
      refine xi_ishl C dX12_tries_121 ?_
      refine xi_ior C dX12_tries_122 ?_
      refine xi_topi (fun w6 ew6 => ?_)
      replace h := nmE ew6 h
      refine xi_istore C [1, 2, 3, 4, 5, 6, 0] (L2 := [(0, .ref a_t), (1, .int x1), (2, .int x2), (3, .int x3), (4, .int x4), (5, .ref a_p5), (6, .int w6)]) dX12_tries_123 (Nat.le_of_ble_eq_true rfl) rfl ?_
      refine xi_iload_n C 3 dX12_tries_125 rfl ?_
      refine xi_iload C 6 dX12_tries_126 rfl ?_
      refine xi_iand C dX12_tries_128 ?_
      refine xi_if_ne C (tgt := 162) dX12_tries_129 rfl (fun c7 => ?_) (fun c7 => ?_)
      · replace h := (if_neg c7).symm.trans h
        obtain rfl := Option.some.inj h
        exact hE _ _ dX12_tries_162 rfl
      · replace h := (if_pos c7).symm.trans h
        refine xi_aload_n C 0 dX12_tries_132 rfl ?_
        refine xi_iload_n C 1 dX12_tries_133 rfl ?_
        refine xi_iload C 4 dX12_tries_134 rfl ?_
        replace h := ob h
        obtain ⟨u8, hu9, h⟩ := h
        refine xi_callVF C (kX12_usable l D cT a_t a_t_line a_t_broken a_t_away a_t_known a_t_spent a_t_line_e a_t_broken_e a_t_away_e N_line N_broken N_away t_people t_lines t_rounds t_calls u2.1 u2.2.1 u2.2.2 t_line_e_from t_line_e_to t_line_e_cost t_line_e_forth t_line_e_cut t_line_e_arranged t_broken_e t_away_e x1 x4 hNl u8 hu9) ([(a_p5, .inl (cT 0, N_p5, .inl p5))] : va_W) (ws2 := ((a_p5, .inl (cT 0, N_p5, .inl p5)) :: zWb cT a_t a_t_line a_t_broken a_t_away a_t_known a_t_spent t_people t_lines t_rounds t_calls u2.1 u2.2.1 u2.2.2 N_line N_broken N_away a_t_line_e a_t_broken_e a_t_away_e t_line_e_from t_line_e_to t_line_e_cost t_line_e_forth t_line_e_cut t_line_e_arranged t_broken_e t_away_e)) (List.perm_append_comm (l₁ := ([(a_p5, .inl (cT 0, N_p5, .inl p5))] : va_W))) (List.perm_append_comm (l₂ := ([(a_p5, .inl (cT 0, N_p5, .inl p5))] : va_W))) zcX12_usable zmX12_77 ziX12_usable (zrLt (by omega) (Nat.le_of_ble_eq_true rfl)) z00 rfl zkX12.1 (qr := 0) rfl rfl (Nat.le_of_ble_eq_true rfl) dX12_tries_136 (fun z10 => ?_)
        refine xi_if_eq C (tgt := 162) dX12_tries_139 rfl (fun c11 => ?_) (fun c11 => ?_)
        · replace h := (if_pos c11).symm.trans h
          obtain rfl := Option.some.inj h
          exact hE _ _ dX12_tries_162 rfl
        · replace h := (if_neg c11).symm.trans h
          refine xi_aload_n C 0 dX12_tries_142 rfl ?_
          refine xi_iload_n C 1 dX12_tries_143 rfl ?_
          refine xi_iconst C (v := 1) dX12_tries_144 rfl ?_
          refine xi_iadd C dX12_tries_145 ?_
          refine xi_iload_n C 2 dX12_tries_146 rfl ?_
          refine xi_iconst C (v := 1) dX12_tries_147 rfl ?_
          refine xi_iload_n C 1 dX12_tries_148 rfl ?_
          refine xi_ishl C dX12_tries_149 ?_
          refine xi_ior C dX12_tries_150 ?_
          refine xi_iload_n C 3 dX12_tries_151 rfl ?_
          refine xi_iload C 6 dX12_tries_152 rfl ?_
          refine xi_ior C dX12_tries_154 ?_
          refine xi_iload C 4 dX12_tries_155 rfl ?_
          refine xi_aload C 5 dX12_tries_157 rfl ?_
          replace h := ob h
          obtain ⟨u12, hu13, h⟩ := h
          refine xi_callVF C (ih (x1 + 1) (x2 ||| (1 <<< (x1 &&& 31))) (x3 ||| w6) x4 u2.1 u2.2.1 u2.2.2 u12 hu13) ([] : va_W) (ws2 := ((a_p5, .inl (cT 0, N_p5, .inl p5)) :: zWb cT a_t a_t_line a_t_broken a_t_away a_t_known a_t_spent t_people t_lines t_rounds t_calls u12.1 u12.2.1 u12.2.2 N_line N_broken N_away a_t_line_e a_t_broken_e a_t_away_e t_line_e_from t_line_e_to t_line_e_cost t_line_e_forth t_line_e_cut t_line_e_arranged t_broken_e t_away_e)) permN permN2 zcX12_tries zmX12_62 ziX12_tries (zrLt (by omega) (Nat.le_of_ble_eq_true rfl)) z00 rfl zkX12.1 (qr := 1) rfl rfl (Nat.le_of_ble_eq_true rfl) dX12_tries_159 (fun z14 => ?_)
          obtain rfl := Option.some.inj h
          exact hE _ _ dX12_tries_162 rfl
    · replace h := (if_pos c1).symm.trans h
      refine xi_aload_n C 0 dX12_tries_8 rfl ?_
      refine xi_iload_n C 2 dX12_tries_9 rfl ?_
      refine xi_aload C 5 dX12_tries_10 rfl ?_
      replace h := ob h
      obtain ⟨u15, hu16, h⟩ := h
      refine xi_callVF C (kX12_gainOf l D cT a_t a_t_line a_t_broken a_t_away a_t_known a_t_spent a_p5 a_t_line_e a_t_broken_e a_t_away_e N_line N_broken N_away N_p5 t_people t_lines t_rounds t_calls t_bestSet t_bestGain t_bestCost t_line_e_from t_line_e_to t_line_e_cost t_line_e_forth t_line_e_cut t_line_e_arranged t_broken_e t_away_e p5 x2 hNl u15 hu16) ([] : va_W) (ws2 := ((a_p5, .inl (cT 0, N_p5, .inl p5)) :: zWb cT a_t a_t_line a_t_broken a_t_away a_t_known a_t_spent t_people t_lines t_rounds t_calls t_bestSet t_bestGain t_bestCost N_line N_broken N_away a_t_line_e a_t_broken_e a_t_away_e t_line_e_from t_line_e_to t_line_e_cost t_line_e_forth t_line_e_cut t_line_e_arranged t_broken_e t_away_e)) permN permN2 zcX12_gainOf zmX12_69 ziX12_gainOf (zrLt (by omega) (Nat.le_of_ble_eq_true rfl)) z00 rfl zkX12.1 (qr := 1) rfl rfl (Nat.le_of_ble_eq_true rfl) dX12_tries_12 (fun z17 => ?_)
      refine xi_istore C [1, 2, 3, 4, 5, 6, 0] (L2 := [(0, .ref a_t), (1, .int x1), (2, .int x2), (3, .int x3), (4, .int x4), (5, .ref a_p5), (6, .int u15)]) dX12_tries_15 (Nat.le_of_ble_eq_true rfl) rfl ?_
      refine xi_aload_n C 0 dX12_tries_17 rfl ?_
      refine xi_iload_n C 2 dX12_tries_18 rfl ?_
      replace h := ob h
      obtain ⟨u18, hu19, h⟩ := h
      refine xi_callVF C (kX12_cost l D cT a_t a_t_line a_t_broken a_t_away a_t_known a_t_spent a_t_line_e a_t_broken_e a_t_away_e N_line N_broken N_away t_people t_lines t_rounds t_calls t_bestSet t_bestGain t_bestCost t_line_e_from t_line_e_to t_line_e_cost t_line_e_forth t_line_e_cut t_line_e_arranged t_broken_e t_away_e x2 hNl u18 hu19) ([(a_p5, .inl (cT 0, N_p5, .inl p5))] : va_W) (ws2 := ((a_p5, .inl (cT 0, N_p5, .inl p5)) :: zWb cT a_t a_t_line a_t_broken a_t_away a_t_known a_t_spent t_people t_lines t_rounds t_calls t_bestSet t_bestGain t_bestCost N_line N_broken N_away a_t_line_e a_t_broken_e a_t_away_e t_line_e_from t_line_e_to t_line_e_cost t_line_e_forth t_line_e_cut t_line_e_arranged t_broken_e t_away_e)) (List.perm_append_comm (l₁ := ([(a_p5, .inl (cT 0, N_p5, .inl p5))] : va_W))) (List.perm_append_comm (l₂ := ([(a_p5, .inl (cT 0, N_p5, .inl p5))] : va_W))) zcX12_cost zmX12_72 ziX12_cost (zrLt (by omega) (Nat.le_of_ble_eq_true rfl)) z00 rfl zkX12.1 (qr := 0) rfl rfl (Nat.le_of_ble_eq_true rfl) dX12_tries_19 (fun z20 => ?_)
      refine xi_istore C [1, 2, 3, 4, 5, 6, 7, 0] (L2 := [(0, .ref a_t), (1, .int x1), (2, .int x2), (3, .int x3), (4, .int x4), (5, .ref a_p5), (6, .int u15), (7, .int u18)]) dX12_tries_22 (Nat.le_of_ble_eq_true rfl) rfl ?_
      refine xi_iload C 6 dX12_tries_24 rfl ?_
      refine xi_aload_n C 0 dX12_tries_26 rfl ?_
      refine xi_get C zkX12 10 1 zlX12_59 (by decide) rfl rfl dX12_tries_27 ?_
      refine xi_icmp_lt C (tgt := 68) dX12_tries_30 rfl (fun c21 => ?_) (fun c21 => ?_)
      · replace h := (if_pos c21).symm.trans h
        obtain rfl := Option.some.inj h
        exact hE _ _ dX12_tries_68 rfl
      · replace h := (if_neg c21).symm.trans h
        refine xi_iload C 6 dX12_tries_33 rfl ?_
        refine xi_aload_n C 0 dX12_tries_35 rfl ?_
        refine xi_get C zkX12 10 1 zlX12_59 (by decide) rfl rfl dX12_tries_36 ?_
        refine xi_icmp_ne C (tgt := 69) dX12_tries_39 rfl (fun c22 => ?_) (fun c22 => ?_)
        · replace h := (if_neg c22).symm.trans h
          refine xi_drop (L2 := [(0, .ref a_t), (2, .int x2), (6, .int u15), (7, .int u18)]) [0, 2, 6, 7] rfl ?_
          exact B69 u15 u18 t_bestSet t_bestGain t_bestCost h
        · replace h := (if_pos c22).symm.trans h
          refine xi_iload C 7 dX12_tries_42 rfl ?_
          refine xi_aload_n C 0 dX12_tries_44 rfl ?_
          refine xi_get C zkX12 11 1 zlX12_74 (by decide) rfl rfl dX12_tries_45 ?_
          refine xi_icmp_gt C (tgt := 68) dX12_tries_48 rfl (fun c23 => ?_) (fun c23 => ?_)
          · replace h := (if_pos c23).symm.trans h
            obtain rfl := Option.some.inj h
            exact hE _ _ dX12_tries_68 rfl
          · replace h := (if_neg c23).symm.trans h
            refine xi_iload C 7 dX12_tries_51 rfl ?_
            refine xi_aload_n C 0 dX12_tries_53 rfl ?_
            refine xi_get C zkX12 11 1 zlX12_74 (by decide) rfl rfl dX12_tries_54 ?_
            refine xi_icmp_ne C (tgt := 69) dX12_tries_57 rfl (fun c24 => ?_) (fun c24 => ?_)
            · replace h := (if_neg c24).symm.trans h
              refine xi_drop (L2 := [(0, .ref a_t), (2, .int x2), (6, .int u15), (7, .int u18)]) [0, 2, 6, 7] rfl ?_
              exact B69 u15 u18 t_bestSet t_bestGain t_bestCost h
            · replace h := (if_pos c24).symm.trans h
              refine xi_iload_n C 2 dX12_tries_60 rfl ?_
              refine xi_aload_n C 0 dX12_tries_61 rfl ?_
              refine xi_get C zkX12 9 1 zlX12_66 (by decide) rfl rfl dX12_tries_62 ?_
              refine xi_icmp_lt C (tgt := 69) dX12_tries_65 rfl (fun c25 => ?_) (fun c25 => ?_)
              · replace h := (if_pos c25).symm.trans h
                refine xi_drop (L2 := [(0, .ref a_t), (2, .int x2), (6, .int u15), (7, .int u18)]) [0, 2, 6, 7] rfl ?_
                exact B69 u15 u18 t_bestSet t_bestGain t_bestCost h
              · replace h := (if_neg c25).symm.trans h
                obtain rfl := Option.some.inj h
                exact hE _ _ dX12_tries_68 rfl
def fX12_best (N_line : Nat) (N_broken : Nat) (N_away : Nat) (N_p2 : Nat) (t_people : Int32) (t_lines : Int32) (t_rounds : Int32) (t_calls : Int32) (t_bestSet : Int32) (t_bestCost : Int32) (t_line_e_from : Nat → Int32) (t_line_e_to : Nat → Int32) (t_line_e_cost : Nat → Int32) (t_line_e_forth : Nat → Int32) (t_line_e_cut : Nat → Int32) (t_line_e_arranged : Nat → Int32) (t_broken_e : Nat → Nat → Int32) (t_away_e : Nat → Nat → Int32) (p2 : Nat → Int32) (x1 : Int32) : Option (Int32 × Int32 × Int32 × Int32) := (fX12_tries N_line N_broken N_away N_p2 t_people t_lines t_rounds t_calls t_line_e_from t_line_e_to t_line_e_cost t_line_e_forth t_line_e_cut t_line_e_arranged t_broken_e t_away_e p2 FT 0 0 0 x1 t_bestSet (-1) t_bestCost).bind (fun u1 => some (u1.1, u1.1, u1.2.1, u1.2.2))
set_option maxRecDepth 100000 in
set_option maxHeartbeats 4000000 in
theorem kX12_best (l : Launch) (D : va_G) (cT : Nat → ClassId) (a_t : Nat) (a_t_line : Nat) (a_t_broken : Nat) (a_t_away : Nat) (a_t_known : Nat) (a_t_spent : Nat) (a_p2 : Nat) (a_t_line_e : Nat → Nat) (a_t_broken_e : Nat → Nat) (a_t_away_e : Nat → Nat) (N_line : Nat) (N_broken : Nat) (N_away : Nat) (N_p2 : Nat) (t_people : Int32) (t_lines : Int32) (t_rounds : Int32) (t_calls : Int32) (t_bestSet : Int32) (t_bestGain : Int32) (t_bestCost : Int32) (t_line_e_from : Nat → Int32) (t_line_e_to : Nat → Int32) (t_line_e_cost : Nat → Int32) (t_line_e_forth : Nat → Int32) (t_line_e_cut : Nat → Int32) (t_line_e_arranged : Nat → Int32) (t_broken_e : Nat → Nat → Int32) (t_away_e : Nat → Nat → Int32) (p2 : Nat → Int32) (x1 : Int32) (hNl : N_line ≤ 24) (r : Int32 × Int32 × Int32 × Int32) (h : fX12_best N_line N_broken N_away N_p2 t_people t_lines t_rounds t_calls t_bestSet t_bestCost t_line_e_from t_line_e_to t_line_e_cost t_line_e_forth t_line_e_cut t_line_e_arranged t_broken_e t_away_e p2 x1 = some r) : sM l yX12_best cX12_best 3 (some .int) (zR 60) D cT [.ref a_t, .int x1, .ref a_p2] ((a_p2, .inl (cT 0, N_p2, .inl p2)) :: zWb cT a_t a_t_line a_t_broken a_t_away a_t_known a_t_spent t_people t_lines t_rounds t_calls t_bestSet t_bestGain t_bestCost N_line N_broken N_away a_t_line_e a_t_broken_e a_t_away_e t_line_e_from t_line_e_to t_line_e_cost t_line_e_forth t_line_e_cut t_line_e_arranged t_broken_e t_away_e) (some (.int r.1)) ((a_p2, .inl (cT 0, N_p2, .inl p2)) :: zWb cT a_t a_t_line a_t_broken a_t_away a_t_known a_t_spent t_people t_lines t_rounds t_calls r.2.1 r.2.2.1 r.2.2.2 N_line N_broken N_away a_t_line_e a_t_broken_e a_t_away_e t_line_e_from t_line_e_to t_line_e_cost t_line_e_forth t_line_e_cut t_line_e_arranged t_broken_e t_away_e) := by
  refine sM_int rfl (Nat.le_of_ble_eq_true rfl) ?_
  intro X C hE
  refine xi_drop (L2 := [(0, .ref a_t), (1, .int x1), (2, .ref a_p2)]) [0, 1, 2] rfl ?_
  refine xi_aload_n C 0 dX12_best_0 rfl ?_
  refine xi_iconst C (v := (-1)) dX12_best_1 rfl ?_
  refine xi_put C zkX12 10 1 zlX12_59 (by decide) rfl rfl rfl rfl (Nat.le_of_ble_eq_true rfl) dX12_best_2 (ws2 := ((a_p2, .inl (cT 0, N_p2, .inl p2)) :: zWb cT a_t a_t_line a_t_broken a_t_away a_t_known a_t_spent t_people t_lines t_rounds t_calls t_bestSet (-1) t_bestCost N_line N_broken N_away a_t_line_e a_t_broken_e a_t_away_e t_line_e_from t_line_e_to t_line_e_cost t_line_e_forth t_line_e_cut t_line_e_arranged t_broken_e t_away_e)) rfl ?_
  refine xi_aload_n C 0 dX12_best_5 rfl ?_
  refine xi_iconst C (v := 0) dX12_best_6 rfl ?_
  refine xi_iconst C (v := 0) dX12_best_7 rfl ?_
  refine xi_iconst C (v := 0) dX12_best_8 rfl ?_
  refine xi_iload_n C 1 dX12_best_9 rfl ?_
  refine xi_aload_n C 2 dX12_best_10 rfl ?_
  replace h := ob h
  obtain ⟨u1, hu2, h⟩ := h
  refine xi_callVF C (kX12_tries l D cT a_t a_t_line a_t_broken a_t_away a_t_known a_t_spent a_p2 a_t_line_e a_t_broken_e a_t_away_e N_line N_broken N_away N_p2 t_people t_lines t_rounds t_calls t_line_e_from t_line_e_to t_line_e_cost t_line_e_forth t_line_e_cut t_line_e_arranged t_broken_e t_away_e p2 hNl FT 0 0 0 x1 t_bestSet (-1) t_bestCost u1 hu2) ([] : va_W) (ws2 := ((a_p2, .inl (cT 0, N_p2, .inl p2)) :: zWb cT a_t a_t_line a_t_broken a_t_away a_t_known a_t_spent t_people t_lines t_rounds t_calls u1.1 u1.2.1 u1.2.2 N_line N_broken N_away a_t_line_e a_t_broken_e a_t_away_e t_line_e_from t_line_e_to t_line_e_cost t_line_e_forth t_line_e_cut t_line_e_arranged t_broken_e t_away_e)) permN permN2 zcX12_tries zmX12_62 ziX12_tries (zrLt (by decide) (Nat.le_of_ble_eq_true rfl)) z00 rfl zkX12.1 (qr := 1) rfl rfl (Nat.le_of_ble_eq_true rfl) dX12_best_11 (fun z3 => ?_)
  refine xi_aload_n C 0 dX12_best_14 rfl ?_
  refine xi_get C zkX12 9 1 zlX12_66 (by decide) rfl rfl dX12_best_15 ?_
  obtain rfl := Option.some.inj h
  exact hE _ _ _ dX12_best_18 rfl
def fX12_after_b11 (N_line : Nat) (N_p2 : Nat) (t_lines : Int32) (t_line_e_from : Nat → Int32) (t_line_e_to : Nat → Int32) (t_line_e_forth : Nat → Int32) (p2 : Nat → Int32) (x1 : Int32) : Nat → Int32 → (Nat → Int32) → Option ((Nat → Int32))
  | 0, _, _ => none
  | n + 1, y4, n0 => if t_lines ≤ y4 then some n0 else if ((x1 >>> (y4 &&& 31)) &&& 1) = 0 then (fX12_after_b11 N_line N_p2 t_lines t_line_e_from t_line_e_to t_line_e_forth p2 x1 n) (y4 + 1) n0 else gd y4 N_line (gd (t_line_e_to y4.toNatClampNeg) N_p2 (gd (t_line_e_from y4.toNatClampNeg) N_p2 (nm (upd n0 (t_line_e_to y4.toNatClampNeg).toNatClampNeg ((n0 (t_line_e_to y4.toNatClampNeg).toNatClampNeg) ||| (p2 (t_line_e_from y4.toNatClampNeg).toNatClampNeg))) (fun g6 => if (t_line_e_forth y4.toNatClampNeg) = 0 then nm (upd g6 (t_line_e_from y4.toNatClampNeg).toNatClampNeg ((g6 (t_line_e_from y4.toNatClampNeg).toNatClampNeg) ||| (p2 (t_line_e_to y4.toNatClampNeg).toNatClampNeg))) (fun g8 => (fX12_after_b11 N_line N_p2 t_lines t_line_e_from t_line_e_to t_line_e_forth p2 x1 n) (y4 + 1) g8) else (fX12_after_b11 N_line N_p2 t_lines t_line_e_from t_line_e_to t_line_e_forth p2 x1 n) (y4 + 1) g6))))
theorem fX12_after_b11_0 (N_line : Nat) (N_p2 : Nat) (t_lines : Int32) (t_line_e_from : Nat → Int32) (t_line_e_to : Nat → Int32) (t_line_e_forth : Nat → Int32) (p2 : Nat → Int32) (x1 : Int32) (y4 : Int32) (n0 : Nat → Int32) : fX12_after_b11 N_line N_p2 t_lines t_line_e_from t_line_e_to t_line_e_forth p2 x1 0 y4 n0 = none := rfl
theorem fX12_after_b11_s (N_line : Nat) (N_p2 : Nat) (t_lines : Int32) (t_line_e_from : Nat → Int32) (t_line_e_to : Nat → Int32) (t_line_e_forth : Nat → Int32) (p2 : Nat → Int32) (x1 : Int32) (n : Nat) (y4 : Int32) (n0 : Nat → Int32) : fX12_after_b11 N_line N_p2 t_lines t_line_e_from t_line_e_to t_line_e_forth p2 x1 (n + 1) y4 n0 = (if t_lines ≤ y4 then some n0 else if ((x1 >>> (y4 &&& 31)) &&& 1) = 0 then (fX12_after_b11 N_line N_p2 t_lines t_line_e_from t_line_e_to t_line_e_forth p2 x1 n) (y4 + 1) n0 else gd y4 N_line (gd (t_line_e_to y4.toNatClampNeg) N_p2 (gd (t_line_e_from y4.toNatClampNeg) N_p2 (nm (upd n0 (t_line_e_to y4.toNatClampNeg).toNatClampNeg ((n0 (t_line_e_to y4.toNatClampNeg).toNatClampNeg) ||| (p2 (t_line_e_from y4.toNatClampNeg).toNatClampNeg))) (fun g6 => if (t_line_e_forth y4.toNatClampNeg) = 0 then nm (upd g6 (t_line_e_from y4.toNatClampNeg).toNatClampNeg ((g6 (t_line_e_from y4.toNatClampNeg).toNatClampNeg) ||| (p2 (t_line_e_to y4.toNatClampNeg).toNatClampNeg))) (fun g8 => (fX12_after_b11 N_line N_p2 t_lines t_line_e_from t_line_e_to t_line_e_forth p2 x1 n) (y4 + 1) g8) else (fX12_after_b11 N_line N_p2 t_lines t_line_e_from t_line_e_to t_line_e_forth p2 x1 n) (y4 + 1) g6))))) := rfl
def fX12_after (N_line : Nat) (N_p2 : Nat) (t_lines : Int32) (t_line_e_from : Nat → Int32) (t_line_e_to : Nat → Int32) (t_line_e_forth : Nat → Int32) (p2 : Nat → Int32) (x1 : Int32) : Option ((Nat → Int32)) := fX12_after_b11 N_line N_p2 t_lines t_line_e_from t_line_e_to t_line_e_forth p2 x1 FU 0 p2
set_option maxRecDepth 100000 in
set_option maxHeartbeats 4000000 in
theorem kX12_after (l : Launch) (D : va_G) (cT : Nat → ClassId) (a_t : Nat) (a_t_line : Nat) (a_t_broken : Nat) (a_t_away : Nat) (a_t_known : Nat) (a_t_spent : Nat) (a_p2 : Nat) (a_t_line_e : Nat → Nat) (a_t_broken_e : Nat → Nat) (a_t_away_e : Nat → Nat) (N_line : Nat) (N_broken : Nat) (N_away : Nat) (N_p2 : Nat) (t_people : Int32) (t_lines : Int32) (t_rounds : Int32) (t_calls : Int32) (t_bestSet : Int32) (t_bestGain : Int32) (t_bestCost : Int32) (t_line_e_from : Nat → Int32) (t_line_e_to : Nat → Int32) (t_line_e_cost : Nat → Int32) (t_line_e_forth : Nat → Int32) (t_line_e_cut : Nat → Int32) (t_line_e_arranged : Nat → Int32) (t_broken_e : Nat → Nat → Int32) (t_away_e : Nat → Nat → Int32) (p2 : Nat → Int32) (x1 : Int32) (hNl : N_line ≤ 24) (hNr : N_p2 ≤ 10) (r : (Nat → Int32)) (h : fX12_after N_line N_p2 t_lines t_line_e_from t_line_e_to t_line_e_forth p2 x1 = some r) : sE l yX12_after (zw yX12_after cX12_after 5 (some (.array .int))) (zRA 3 1 10) 1 10 (some (.array .int)) D cT [.ref a_t, .int x1, .ref a_p2] ((a_p2, .inl (cT 0, N_p2, .inl p2)) :: zWb cT a_t a_t_line a_t_broken a_t_away a_t_known a_t_spent t_people t_lines t_rounds t_calls t_bestSet t_bestGain t_bestCost N_line N_broken N_away a_t_line_e a_t_broken_e a_t_away_e t_line_e_from t_line_e_to t_line_e_cost t_line_e_forth t_line_e_cut t_line_e_arranged t_broken_e t_away_e) (fun v W => ∃ a_n0, v = some (.ref a_n0) ∧ W = ((a_n0, .inl (cT 0, N_p2, .inl r)) :: (a_p2, .inl (cT 0, N_p2, .inl p2)) :: zWb cT a_t a_t_line a_t_broken a_t_away a_t_known a_t_spent t_people t_lines t_rounds t_calls t_bestSet t_bestGain t_bestCost N_line N_broken N_away a_t_line_e a_t_broken_e a_t_away_e t_line_e_from t_line_e_to t_line_e_cost t_line_e_forth t_line_e_cut t_line_e_arranged t_broken_e t_away_e)) := by
  refine sE_arr rfl (Nat.le_of_ble_eq_true rfl) ?_
  intro X C hE
  have B11 : ∀ (a_n0 : Nat) (n : Nat) (y4 : Int32) (n0 : Nat → Int32), fX12_after_b11 N_line N_p2 t_lines t_line_e_from t_line_e_to t_line_e_forth p2 x1 n y4 n0 = some r → sW X l (zRA 3 1 10) D 5 1 10 11 [(0, .ref a_t), (1, .int x1), (2, .ref a_p2), (3, .ref a_n0), (4, .int y4)] [] ((a_n0, .inl (cT 0, N_p2, .inl n0)) :: (a_p2, .inl (cT 0, N_p2, .inl p2)) :: zWb cT a_t a_t_line a_t_broken a_t_away a_t_known a_t_spent t_people t_lines t_rounds t_calls t_bestSet t_bestGain t_bestCost N_line N_broken N_away a_t_line_e a_t_broken_e a_t_away_e t_line_e_from t_line_e_to t_line_e_cost t_line_e_forth t_line_e_cut t_line_e_arranged t_broken_e t_away_e) := by
    intro a_n0 n
    induction n with
    | zero =>
      intro y4 n0 h
      exact zno ((fX12_after_b11_0 _ _ _ _ _ _ _ _ _ _).symm.trans h)
    | succ n ih =>
      intro y4 n0 h
      replace h := (fX12_after_b11_s _ _ _ _ _ _ _ _ _ _ _).symm.trans h
      refine xi_iload C 4 dX12_after_11 rfl ?_
      refine xi_aload_n C 0 dX12_after_13 rfl ?_
      refine xi_get C zkX12 1 2 zlX12_46 (by decide) rfl rfl dX12_after_14 ?_
      refine xi_icmp_ge C (tgt := 105) dX12_after_17 rfl (fun c1 => ?_) (fun c1 => ?_)
      · replace h := (if_pos c1).symm.trans h
        refine xi_aload_n C 3 dX12_after_105 rfl ?_
        obtain rfl := Option.some.inj h
        exact hE _ _ _ _ dX12_after_106 ⟨_, rfl, rfl⟩
      · replace h := (if_neg c1).symm.trans h
        refine xi_iload_n C 1 dX12_after_20 rfl ?_
        refine xi_iload C 4 dX12_after_21 rfl ?_
        refine xi_ishr C dX12_after_23 ?_
        refine xi_iconst C (v := 1) dX12_after_24 rfl ?_
        refine xi_iand C dX12_after_25 ?_
        refine xi_if_ne C (tgt := 32) dX12_after_26 rfl (fun c2 => ?_) (fun c2 => ?_)
        · replace h := (if_neg c2).symm.trans h
          refine xi_aload_n C 3 dX12_after_32 rfl ?_
          refine xi_aload_n C 0 dX12_after_33 rfl ?_
          refine xi_get C zkX12 4 2 zlX12_9 (by decide) rfl rfl dX12_after_34 ?_
          refine xi_iload C 4 dX12_after_37 rfl ?_
          replace h := ig h
          obtain ⟨c3, h⟩ := h
          refine xi_aald C (b := a_t_line_e y4.toNatClampNeg) 3 7 rfl rfl (vp_mono c3 hNl) (if_pos (vp_lt c3)) dX12_after_39 ?_
          refine xi_get C zkX11 1 _ zlX12_34 (by decide) (zcons (zcons (zWb_l (vp_lt c3)))) rfl dX12_after_40 ?_
          refine xi_dup2 C dX12_after_43 rfl rfl ?_
          replace h := ig h
          obtain ⟨c4, h⟩ := h
          refine xi_iald C 0 rfl c4 dX12_after_44 ?_
          refine xi_aload_n C 2 dX12_after_45 rfl ?_
          refine xi_aload_n C 0 dX12_after_46 rfl ?_
          refine xi_get C zkX12 4 2 zlX12_9 (by decide) rfl rfl dX12_after_47 ?_
          refine xi_iload C 4 dX12_after_50 rfl ?_
          refine xi_aald C (b := a_t_line_e y4.toNatClampNeg) 3 7 rfl rfl (vp_mono c3 hNl) (if_pos (vp_lt c3)) dX12_after_52 ?_
          refine xi_get C zkX11 0 _ zlX12_30 (by decide) (zcons (zcons (zWb_l (vp_lt c3)))) rfl dX12_after_53 ?_
          replace h := ig h
          obtain ⟨c5, h⟩ := h
          refine xi_iald C 1 rfl c5 dX12_after_56 ?_
          refine xi_ior C dX12_after_57 ?_
          refine xi_iast C 0 rfl c4 dX12_after_58 (ws2 := ((a_n0, .inl (cT 0, N_p2, .inl (upd n0 (t_line_e_to y4.toNatClampNeg).toNatClampNeg ((n0 (t_line_e_to y4.toNatClampNeg).toNatClampNeg) ||| (p2 (t_line_e_from y4.toNatClampNeg).toNatClampNeg))))) :: (a_p2, .inl (cT 0, N_p2, .inl p2)) :: zWb cT a_t a_t_line a_t_broken a_t_away a_t_known a_t_spent t_people t_lines t_rounds t_calls t_bestSet t_bestGain t_bestCost N_line N_broken N_away a_t_line_e a_t_broken_e a_t_away_e t_line_e_from t_line_e_to t_line_e_cost t_line_e_forth t_line_e_cut t_line_e_arranged t_broken_e t_away_e)) rfl ?_
          obtain ⟨g6, eg6⟩ : ∃ z, z = upd n0 (t_line_e_to y4.toNatClampNeg).toNatClampNeg ((n0 (t_line_e_to y4.toNatClampNeg).toNatClampNeg) ||| (p2 (t_line_e_from y4.toNatClampNeg).toNatClampNeg)) := ⟨_, rfl⟩
          replace h := nmE eg6 h
          rw [← eg6]
          refine xi_aload_n C 0 dX12_after_59 rfl ?_
          refine xi_get C zkX12 4 2 zlX12_9 (by decide) rfl rfl dX12_after_60 ?_
          refine xi_iload C 4 dX12_after_63 rfl ?_
          refine xi_aald C (b := a_t_line_e y4.toNatClampNeg) 3 7 rfl rfl (vp_mono c3 hNl) (if_pos (vp_lt c3)) dX12_after_65 ?_
          refine xi_get C zkX11 3 _ zlX12_43 (by decide) (zcons (zcons (zWb_l (vp_lt c3)))) rfl dX12_after_66 ?_
          refine xi_if_ne C (tgt := 99) dX12_after_69 rfl (fun c7 => ?_) (fun c7 => ?_)
          · replace h := (if_neg c7).symm.trans h
            refine xi_iinc C (v := y4 + 1) 4 [1, 2, 3, 4, 0] (L2 := [(0, .ref a_t), (1, .int x1), (2, .ref a_p2), (3, .ref a_n0), (4, .int (y4 + 1))]) dX12_after_99 rfl rfl (Nat.le_of_ble_eq_true rfl) rfl ?_
            refine xi_goto C (tgt := 11) dX12_after_102 rfl ?_
            exact ih (y4 + 1) g6 h
          · replace h := (if_pos c7).symm.trans h
            refine xi_aload_n C 3 dX12_after_72 rfl ?_
            refine xi_aload_n C 0 dX12_after_73 rfl ?_
            refine xi_get C zkX12 4 2 zlX12_9 (by decide) rfl rfl dX12_after_74 ?_
            refine xi_iload C 4 dX12_after_77 rfl ?_
            refine xi_aald C (b := a_t_line_e y4.toNatClampNeg) 3 7 rfl rfl (vp_mono c3 hNl) (if_pos (vp_lt c3)) dX12_after_79 ?_
            refine xi_get C zkX11 0 _ zlX12_30 (by decide) (zcons (zcons (zWb_l (vp_lt c3)))) rfl dX12_after_80 ?_
            refine xi_dup2 C dX12_after_83 rfl rfl ?_
            refine xi_iald C 0 rfl c5 dX12_after_84 ?_
            refine xi_aload_n C 2 dX12_after_85 rfl ?_
            refine xi_aload_n C 0 dX12_after_86 rfl ?_
            refine xi_get C zkX12 4 2 zlX12_9 (by decide) rfl rfl dX12_after_87 ?_
            refine xi_iload C 4 dX12_after_90 rfl ?_
            refine xi_aald C (b := a_t_line_e y4.toNatClampNeg) 3 7 rfl rfl (vp_mono c3 hNl) (if_pos (vp_lt c3)) dX12_after_92 ?_
            refine xi_get C zkX11 1 _ zlX12_34 (by decide) (zcons (zcons (zWb_l (vp_lt c3)))) rfl dX12_after_93 ?_
            refine xi_iald C 1 rfl c4 dX12_after_96 ?_
            refine xi_ior C dX12_after_97 ?_
            refine xi_iast C 0 rfl c5 dX12_after_98 (ws2 := ((a_n0, .inl (cT 0, N_p2, .inl (upd g6 (t_line_e_from y4.toNatClampNeg).toNatClampNeg ((g6 (t_line_e_from y4.toNatClampNeg).toNatClampNeg) ||| (p2 (t_line_e_to y4.toNatClampNeg).toNatClampNeg))))) :: (a_p2, .inl (cT 0, N_p2, .inl p2)) :: zWb cT a_t a_t_line a_t_broken a_t_away a_t_known a_t_spent t_people t_lines t_rounds t_calls t_bestSet t_bestGain t_bestCost N_line N_broken N_away a_t_line_e a_t_broken_e a_t_away_e t_line_e_from t_line_e_to t_line_e_cost t_line_e_forth t_line_e_cut t_line_e_arranged t_broken_e t_away_e)) rfl ?_
            obtain ⟨g8, eg8⟩ : ∃ z, z = upd g6 (t_line_e_from y4.toNatClampNeg).toNatClampNeg ((g6 (t_line_e_from y4.toNatClampNeg).toNatClampNeg) ||| (p2 (t_line_e_to y4.toNatClampNeg).toNatClampNeg)) := ⟨_, rfl⟩
            replace h := nmE eg8 h
            rw [← eg8]
            refine xi_iinc C (v := y4 + 1) 4 [1, 2, 3, 4, 0] (L2 := [(0, .ref a_t), (1, .int x1), (2, .ref a_p2), (3, .ref a_n0), (4, .int (y4 + 1))]) dX12_after_99 rfl rfl (Nat.le_of_ble_eq_true rfl) rfl ?_
            refine xi_goto C (tgt := 11) dX12_after_102 rfl ?_
            exact ih (y4 + 1) g8 h
        · replace h := (if_pos c2).symm.trans h
          refine xi_goto C (tgt := 99) dX12_after_29 rfl ?_
          refine xi_iinc C (v := y4 + 1) 4 [1, 2, 3, 4, 0] (L2 := [(0, .ref a_t), (1, .int x1), (2, .ref a_p2), (3, .ref a_n0), (4, .int (y4 + 1))]) dX12_after_99 rfl rfl (Nat.le_of_ble_eq_true rfl) rfl ?_
          refine xi_goto C (tgt := 11) dX12_after_102 rfl ?_
          exact ih (y4 + 1) n0 h
  refine xi_drop (L2 := [(0, .ref a_t), (1, .int x1), (2, .ref a_p2)]) [0, 1, 2] rfl ?_
  refine xi_aload_n C 2 dX12_after_0 rfl ?_
  refine xi_cloneI C 0 rfl (zm5 (i := 140) rfl rfl) (zm5 (i := 141) rfl rfl) (zm2 (i := 213) rfl rfl) (zm2 (i := 214) rfl rfl) (zm5 (i := 142) rfl rfl) (zh5 (i := 143) rfl rfl) ⟨by decide, by decide⟩ (Nat.le_of_ble_eq_true rfl) (by rw [Nat.zero_add]; exact hNr) dX12_after_1 (fun a_n0 => ?_)
  refine xi_wide (k2 := 1) (n2 := 10) (Nat.le_refl _) (by rw [Nat.zero_add]; exact hNr) ?_
  refine xi_permL (ws2 := ((a_n0, .inl (cT 0, N_p2, .inl p2)) :: (a_p2, .inl (cT 0, N_p2, .inl p2)) :: zWb cT a_t a_t_line a_t_broken a_t_away a_t_known a_t_spent t_people t_lines t_rounds t_calls t_bestSet t_bestGain t_bestCost N_line N_broken N_away a_t_line_e a_t_broken_e a_t_away_e t_line_e_from t_line_e_to t_line_e_cost t_line_e_forth t_line_e_cut t_line_e_arranged t_broken_e t_away_e)) List.perm_append_comm ?_
  refine xi_castAI C 0 rfl (zm5 (i := 144) rfl rfl) dX12_after_4 ?_
  refine xi_astore_n C [1, 2, 3, 0] (L2 := [(0, .ref a_t), (1, .int x1), (2, .ref a_p2), (3, .ref a_n0)]) dX12_after_7 (Nat.le_of_ble_eq_true rfl) rfl ?_
  refine xi_iconst C (v := 0) dX12_after_8 rfl ?_
  refine xi_istore C [1, 2, 3, 4, 0] (L2 := [(0, .ref a_t), (1, .int x1), (2, .ref a_p2), (3, .ref a_n0), (4, .int 0)]) dX12_after_9 (Nat.le_of_ble_eq_true rfl) rfl ?_
  exact B11 a_n0 FU 0 p2 h
def fX12_missing_b4 (N_p1 : Nat) (t_people : Int32) (p1 : Nat → Int32) : Nat → Int32 → Int32 → Option Int32
  | 0, _, _ => none
  | n + 1, y2, y3 => if t_people ≤ y3 then some y2 else gd y3 N_p1 (nm (y2 + (t_people - (fJ6_bitCount_0f7a4 (p1 y3.toNatClampNeg)))) (fun w6 => (fX12_missing_b4 N_p1 t_people p1 n) w6 (y3 + 1)))
theorem fX12_missing_b4_0 (N_p1 : Nat) (t_people : Int32) (p1 : Nat → Int32) (y2 : Int32) (y3 : Int32) : fX12_missing_b4 N_p1 t_people p1 0 y2 y3 = none := rfl
theorem fX12_missing_b4_s (N_p1 : Nat) (t_people : Int32) (p1 : Nat → Int32) (n : Nat) (y2 : Int32) (y3 : Int32) : fX12_missing_b4 N_p1 t_people p1 (n + 1) y2 y3 = (if t_people ≤ y3 then some y2 else gd y3 N_p1 (nm (y2 + (t_people - (fJ6_bitCount_0f7a4 (p1 y3.toNatClampNeg)))) (fun w6 => (fX12_missing_b4 N_p1 t_people p1 n) w6 (y3 + 1)))) := rfl
def fX12_missing (N_p1 : Nat) (t_people : Int32) (p1 : Nat → Int32) : Option Int32 := fX12_missing_b4 N_p1 t_people p1 FU 0 0
set_option maxRecDepth 100000 in
set_option maxHeartbeats 4000000 in
theorem kX12_missing (l : Launch) (D : va_G) (cT : Nat → ClassId) (a_t : Nat) (a_t_line : Nat) (a_t_broken : Nat) (a_t_away : Nat) (a_t_known : Nat) (a_t_spent : Nat) (a_p1 : Nat) (a_t_line_e : Nat → Nat) (a_t_broken_e : Nat → Nat) (a_t_away_e : Nat → Nat) (N_line : Nat) (N_broken : Nat) (N_away : Nat) (N_p1 : Nat) (t_people : Int32) (t_lines : Int32) (t_rounds : Int32) (t_calls : Int32) (t_bestSet : Int32) (t_bestGain : Int32) (t_bestCost : Int32) (t_line_e_from : Nat → Int32) (t_line_e_to : Nat → Int32) (t_line_e_cost : Nat → Int32) (t_line_e_forth : Nat → Int32) (t_line_e_cut : Nat → Int32) (t_line_e_arranged : Nat → Int32) (t_broken_e : Nat → Nat → Int32) (t_away_e : Nat → Nat → Int32) (p1 : Nat → Int32) (hNl : N_line ≤ 24) (r : Int32) (h : fX12_missing N_p1 t_people p1 = some r) : sM l yX12_missing cX12_missing 4 (some .int) (zR 3) D cT [.ref a_t, .ref a_p1] ((a_p1, .inl (cT 0, N_p1, .inl p1)) :: zWb cT a_t a_t_line a_t_broken a_t_away a_t_known a_t_spent t_people t_lines t_rounds t_calls t_bestSet t_bestGain t_bestCost N_line N_broken N_away a_t_line_e a_t_broken_e a_t_away_e t_line_e_from t_line_e_to t_line_e_cost t_line_e_forth t_line_e_cut t_line_e_arranged t_broken_e t_away_e) (some (.int r)) ((a_p1, .inl (cT 0, N_p1, .inl p1)) :: zWb cT a_t a_t_line a_t_broken a_t_away a_t_known a_t_spent t_people t_lines t_rounds t_calls t_bestSet t_bestGain t_bestCost N_line N_broken N_away a_t_line_e a_t_broken_e a_t_away_e t_line_e_from t_line_e_to t_line_e_cost t_line_e_forth t_line_e_cut t_line_e_arranged t_broken_e t_away_e) := by
  refine sM_int rfl (Nat.le_of_ble_eq_true rfl) ?_
  intro X C hE
  have B4 : ∀ (n : Nat) (y2 : Int32) (y3 : Int32), fX12_missing_b4 N_p1 t_people p1 n y2 y3 = some r → sW X l (zR 3) D 4 0 0 4 [(0, .ref a_t), (1, .ref a_p1), (2, .int y2), (3, .int y3)] [] ((a_p1, .inl (cT 0, N_p1, .inl p1)) :: zWb cT a_t a_t_line a_t_broken a_t_away a_t_known a_t_spent t_people t_lines t_rounds t_calls t_bestSet t_bestGain t_bestCost N_line N_broken N_away a_t_line_e a_t_broken_e a_t_away_e t_line_e_from t_line_e_to t_line_e_cost t_line_e_forth t_line_e_cut t_line_e_arranged t_broken_e t_away_e) := by
    intro n
    induction n with
    | zero =>
      intro y2 y3 h
      exact zno ((fX12_missing_b4_0 _ _ _ _ _).symm.trans h)
    | succ n ih =>
      intro y2 y3 h
      replace h := (fX12_missing_b4_s _ _ _ _ _ _).symm.trans h
      refine xi_iload_n C 3 dX12_missing_4 rfl ?_
      refine xi_aload_n C 0 dX12_missing_5 rfl ?_
      refine xi_get C zkX12 0 1 zlX12_86 (by decide) rfl rfl dX12_missing_6 ?_
      refine xi_icmp_ge C (tgt := 32) dX12_missing_9 rfl (fun c1 => ?_) (fun c1 => ?_)
      · replace h := (if_pos c1).symm.trans h
        refine xi_iload_n C 2 dX12_missing_32 rfl ?_
        obtain rfl := Option.some.inj h
        exact hE _ _ _ dX12_missing_33 rfl
      · replace h := (if_neg c1).symm.trans h
        refine xi_iload_n C 2 dX12_missing_12 rfl ?_
        refine xi_aload_n C 0 dX12_missing_13 rfl ?_
        refine xi_get C zkX12 0 1 zlX12_86 (by decide) rfl rfl dX12_missing_14 ?_
        refine xi_aload_n C 1 dX12_missing_17 rfl ?_
        refine xi_iload_n C 3 dX12_missing_18 rfl ?_
        replace h := ig h
        obtain ⟨c2, h⟩ := h
        refine xi_iald C 0 rfl c2 dX12_missing_19 ?_
        refine xi_callSr C (kJ6_bitCount_0f7a4 l D cT (p1 y3.toNatClampNeg) (fJ6_bitCount_0f7a4 (p1 y3.toNatClampNeg)) rfl) zcJ6_bitCount_0f7a4 zmX12_37 zsJ6_bitCount_0f7a4 (zr rfl rfl) z00 rfl [] rfl rfl rfl (Nat.le_of_ble_eq_true rfl) dX12_missing_20 (fun z5 => ?_)
        refine xi_isub C dX12_missing_23 ?_
        refine xi_iadd C dX12_missing_24 ?_
        refine xi_topi (fun w6 ew6 => ?_)
        replace h := nmE ew6 h
        refine xi_istore_n C [1, 2, 0, 3] (L2 := [(0, .ref a_t), (1, .ref a_p1), (2, .int w6), (3, .int y3)]) dX12_missing_25 (Nat.le_of_ble_eq_true rfl) rfl ?_
        refine xi_iinc C (v := y3 + 1) 3 [1, 2, 3, 0] (L2 := [(0, .ref a_t), (1, .ref a_p1), (2, .int w6), (3, .int (y3 + 1))]) dX12_missing_26 rfl rfl (Nat.le_of_ble_eq_true rfl) rfl ?_
        refine xi_goto C (tgt := 4) dX12_missing_29 rfl ?_
        exact ih w6 (y3 + 1) h
  refine xi_drop (L2 := [(0, .ref a_t), (1, .ref a_p1)]) [0, 1] rfl ?_
  refine xi_iconst C (v := 0) dX12_missing_0 rfl ?_
  refine xi_istore_n C [1, 2, 0] (L2 := [(0, .ref a_t), (1, .ref a_p1), (2, .int 0)]) dX12_missing_1 (Nat.le_of_ble_eq_true rfl) rfl ?_
  refine xi_iconst C (v := 0) dX12_missing_2 rfl ?_
  refine xi_istore_n C [1, 2, 3, 0] (L2 := [(0, .ref a_t), (1, .ref a_p1), (2, .int 0), (3, .int 0)]) dX12_missing_3 (Nat.le_of_ble_eq_true rfl) rfl ?_
  exact B4 FU 0 0 h
def fX12_prices_b65 (N_line : Nat) (t_people : Int32) (t_lines : Int32) (t_line_e_from : Nat → Int32) (t_line_e_to : Nat → Int32) (t_line_e_cost : Nat → Int32) (t_line_e_forth : Nat → Int32) (t_line_e_cut : Nat → Int32) (x2 : Int32) (K53 : Int32 → (Nat → Int32) → Option ((Nat → Int32))) : Nat → Int32 → Int32 → (Nat → Int32) → Option ((Nat → Int32))
  | 0, _, _, _ => none
  | n + 1, y4, y5, n0 => if t_lines ≤ y5 then K53 (y4 + 1) n0 else gd y5 N_line (if (t_line_e_cut y5.toNatClampNeg) = 0 then if y5 = x2 then (fX12_prices_b65 N_line t_people t_lines t_line_e_from t_line_e_to t_line_e_cost t_line_e_forth t_line_e_cut x2 K53 n) y4 (y5 + 1) n0 else gd (t_line_e_to y5.toNatClampNeg) t_people.toNatClampNeg (gd (t_line_e_from y5.toNatClampNeg) t_people.toNatClampNeg (nm (if ((n0 (t_line_e_from y5.toNatClampNeg).toNatClampNeg) + (t_line_e_cost y5.toNatClampNeg)) < (n0 (t_line_e_to y5.toNatClampNeg).toNatClampNeg) then ((n0 (t_line_e_from y5.toNatClampNeg).toNatClampNeg) + (t_line_e_cost y5.toNatClampNeg)) else (n0 (t_line_e_to y5.toNatClampNeg).toNatClampNeg)) (fun w10 => nm (upd n0 (t_line_e_to y5.toNatClampNeg).toNatClampNeg w10) (fun g11 => if (t_line_e_forth y5.toNatClampNeg) = 0 then nm (if ((g11 (t_line_e_to y5.toNatClampNeg).toNatClampNeg) + (t_line_e_cost y5.toNatClampNeg)) < (g11 (t_line_e_from y5.toNatClampNeg).toNatClampNeg) then ((g11 (t_line_e_to y5.toNatClampNeg).toNatClampNeg) + (t_line_e_cost y5.toNatClampNeg)) else (g11 (t_line_e_from y5.toNatClampNeg).toNatClampNeg)) (fun w13 => nm (upd g11 (t_line_e_from y5.toNatClampNeg).toNatClampNeg w13) (fun g14 => (fX12_prices_b65 N_line t_people t_lines t_line_e_from t_line_e_to t_line_e_cost t_line_e_forth t_line_e_cut x2 K53 n) y4 (y5 + 1) g14)) else (fX12_prices_b65 N_line t_people t_lines t_line_e_from t_line_e_to t_line_e_cost t_line_e_forth t_line_e_cut x2 K53 n) y4 (y5 + 1) g11)))) else (fX12_prices_b65 N_line t_people t_lines t_line_e_from t_line_e_to t_line_e_cost t_line_e_forth t_line_e_cut x2 K53 n) y4 (y5 + 1) n0)
theorem fX12_prices_b65_0 (N_line : Nat) (t_people : Int32) (t_lines : Int32) (t_line_e_from : Nat → Int32) (t_line_e_to : Nat → Int32) (t_line_e_cost : Nat → Int32) (t_line_e_forth : Nat → Int32) (t_line_e_cut : Nat → Int32) (x2 : Int32) (K53 : Int32 → (Nat → Int32) → Option ((Nat → Int32))) (y4 : Int32) (y5 : Int32) (n0 : Nat → Int32) : fX12_prices_b65 N_line t_people t_lines t_line_e_from t_line_e_to t_line_e_cost t_line_e_forth t_line_e_cut x2 K53 0 y4 y5 n0 = none := rfl
theorem fX12_prices_b65_s (N_line : Nat) (t_people : Int32) (t_lines : Int32) (t_line_e_from : Nat → Int32) (t_line_e_to : Nat → Int32) (t_line_e_cost : Nat → Int32) (t_line_e_forth : Nat → Int32) (t_line_e_cut : Nat → Int32) (x2 : Int32) (K53 : Int32 → (Nat → Int32) → Option ((Nat → Int32))) (n : Nat) (y4 : Int32) (y5 : Int32) (n0 : Nat → Int32) : fX12_prices_b65 N_line t_people t_lines t_line_e_from t_line_e_to t_line_e_cost t_line_e_forth t_line_e_cut x2 K53 (n + 1) y4 y5 n0 = (if t_lines ≤ y5 then K53 (y4 + 1) n0 else gd y5 N_line (if (t_line_e_cut y5.toNatClampNeg) = 0 then if y5 = x2 then (fX12_prices_b65 N_line t_people t_lines t_line_e_from t_line_e_to t_line_e_cost t_line_e_forth t_line_e_cut x2 K53 n) y4 (y5 + 1) n0 else gd (t_line_e_to y5.toNatClampNeg) t_people.toNatClampNeg (gd (t_line_e_from y5.toNatClampNeg) t_people.toNatClampNeg (nm (if ((n0 (t_line_e_from y5.toNatClampNeg).toNatClampNeg) + (t_line_e_cost y5.toNatClampNeg)) < (n0 (t_line_e_to y5.toNatClampNeg).toNatClampNeg) then ((n0 (t_line_e_from y5.toNatClampNeg).toNatClampNeg) + (t_line_e_cost y5.toNatClampNeg)) else (n0 (t_line_e_to y5.toNatClampNeg).toNatClampNeg)) (fun w10 => nm (upd n0 (t_line_e_to y5.toNatClampNeg).toNatClampNeg w10) (fun g11 => if (t_line_e_forth y5.toNatClampNeg) = 0 then nm (if ((g11 (t_line_e_to y5.toNatClampNeg).toNatClampNeg) + (t_line_e_cost y5.toNatClampNeg)) < (g11 (t_line_e_from y5.toNatClampNeg).toNatClampNeg) then ((g11 (t_line_e_to y5.toNatClampNeg).toNatClampNeg) + (t_line_e_cost y5.toNatClampNeg)) else (g11 (t_line_e_from y5.toNatClampNeg).toNatClampNeg)) (fun w13 => nm (upd g11 (t_line_e_from y5.toNatClampNeg).toNatClampNeg w13) (fun g14 => (fX12_prices_b65 N_line t_people t_lines t_line_e_from t_line_e_to t_line_e_cost t_line_e_forth t_line_e_cut x2 K53 n) y4 (y5 + 1) g14)) else (fX12_prices_b65 N_line t_people t_lines t_line_e_from t_line_e_to t_line_e_cost t_line_e_forth t_line_e_cut x2 K53 n) y4 (y5 + 1) g11)))) else (fX12_prices_b65 N_line t_people t_lines t_line_e_from t_line_e_to t_line_e_cost t_line_e_forth t_line_e_cut x2 K53 n) y4 (y5 + 1) n0)) := rfl
def fX12_prices_b53 (N_line : Nat) (t_people : Int32) (t_lines : Int32) (t_line_e_from : Nat → Int32) (t_line_e_to : Nat → Int32) (t_line_e_cost : Nat → Int32) (t_line_e_forth : Nat → Int32) (t_line_e_cut : Nat → Int32) (x2 : Int32) : Nat → Int32 → (Nat → Int32) → Option ((Nat → Int32))
  | 0, _, _ => none
  | n + 1, y4, n0 => if t_people ≤ y4 then some n0 else fX12_prices_b65 N_line t_people t_lines t_line_e_from t_line_e_to t_line_e_cost t_line_e_forth t_line_e_cut x2 (fX12_prices_b53 N_line t_people t_lines t_line_e_from t_line_e_to t_line_e_cost t_line_e_forth t_line_e_cut x2 n) FU y4 0 n0
theorem fX12_prices_b53_0 (N_line : Nat) (t_people : Int32) (t_lines : Int32) (t_line_e_from : Nat → Int32) (t_line_e_to : Nat → Int32) (t_line_e_cost : Nat → Int32) (t_line_e_forth : Nat → Int32) (t_line_e_cut : Nat → Int32) (x2 : Int32) (y4 : Int32) (n0 : Nat → Int32) : fX12_prices_b53 N_line t_people t_lines t_line_e_from t_line_e_to t_line_e_cost t_line_e_forth t_line_e_cut x2 0 y4 n0 = none := rfl
theorem fX12_prices_b53_s (N_line : Nat) (t_people : Int32) (t_lines : Int32) (t_line_e_from : Nat → Int32) (t_line_e_to : Nat → Int32) (t_line_e_cost : Nat → Int32) (t_line_e_forth : Nat → Int32) (t_line_e_cut : Nat → Int32) (x2 : Int32) (n : Nat) (y4 : Int32) (n0 : Nat → Int32) : fX12_prices_b53 N_line t_people t_lines t_line_e_from t_line_e_to t_line_e_cost t_line_e_forth t_line_e_cut x2 (n + 1) y4 n0 = (if t_people ≤ y4 then some n0 else fX12_prices_b65 N_line t_people t_lines t_line_e_from t_line_e_to t_line_e_cost t_line_e_forth t_line_e_cut x2 (fX12_prices_b53 N_line t_people t_lines t_line_e_from t_line_e_to t_line_e_cost t_line_e_forth t_line_e_cut x2 n) FU y4 0 n0) := rfl
def fX12_prices_b43 (t_people : Int32) (K10 : Int32 → (Nat → Int32) → Option ((Nat → Int32))) (y4 : Int32) (s0 : Int32) (s1 : Int32) (n0 : Nat → Int32) : Option ((Nat → Int32)) := gd s1 t_people.toNatClampNeg (nm (upd n0 s1.toNatClampNeg s0) (fun g18 => K10 (y4 + 1) g18))
def fX12_prices_b10 (N_line : Nat) (N_t_known : Nat) (t_people : Int32) (t_lines : Int32) (t_line_e_from : Nat → Int32) (t_line_e_to : Nat → Int32) (t_line_e_cost : Nat → Int32) (t_line_e_forth : Nat → Int32) (t_line_e_cut : Nat → Int32) (t_known : Nat → Int32) (x1 : Int32) (x2 : Int32) : Nat → Int32 → (Nat → Int32) → Option ((Nat → Int32))
  | 0, _, _ => none
  | n + 1, y4, n0 => if t_people ≤ y4 then fX12_prices_b53 N_line t_people t_lines t_line_e_from t_line_e_to t_line_e_cost t_line_e_forth t_line_e_cut x2 FU 0 n0 else gd y4 N_t_known (if (((t_known y4.toNatClampNeg) >>> (x1 &&& 31)) &&& 1) = 1 then fX12_prices_b43 t_people (fX12_prices_b10 N_line N_t_known t_people t_lines t_line_e_from t_line_e_to t_line_e_cost t_line_e_forth t_line_e_cut t_known x1 x2 n) y4 0 y4 n0 else fX12_prices_b43 t_people (fX12_prices_b10 N_line N_t_known t_people t_lines t_line_e_from t_line_e_to t_line_e_cost t_line_e_forth t_line_e_cut t_known x1 x2 n) y4 99999 y4 n0)
theorem fX12_prices_b10_0 (N_line : Nat) (N_t_known : Nat) (t_people : Int32) (t_lines : Int32) (t_line_e_from : Nat → Int32) (t_line_e_to : Nat → Int32) (t_line_e_cost : Nat → Int32) (t_line_e_forth : Nat → Int32) (t_line_e_cut : Nat → Int32) (t_known : Nat → Int32) (x1 : Int32) (x2 : Int32) (y4 : Int32) (n0 : Nat → Int32) : fX12_prices_b10 N_line N_t_known t_people t_lines t_line_e_from t_line_e_to t_line_e_cost t_line_e_forth t_line_e_cut t_known x1 x2 0 y4 n0 = none := rfl
theorem fX12_prices_b10_s (N_line : Nat) (N_t_known : Nat) (t_people : Int32) (t_lines : Int32) (t_line_e_from : Nat → Int32) (t_line_e_to : Nat → Int32) (t_line_e_cost : Nat → Int32) (t_line_e_forth : Nat → Int32) (t_line_e_cut : Nat → Int32) (t_known : Nat → Int32) (x1 : Int32) (x2 : Int32) (n : Nat) (y4 : Int32) (n0 : Nat → Int32) : fX12_prices_b10 N_line N_t_known t_people t_lines t_line_e_from t_line_e_to t_line_e_cost t_line_e_forth t_line_e_cut t_known x1 x2 (n + 1) y4 n0 = (if t_people ≤ y4 then fX12_prices_b53 N_line t_people t_lines t_line_e_from t_line_e_to t_line_e_cost t_line_e_forth t_line_e_cut x2 FU 0 n0 else gd y4 N_t_known (if (((t_known y4.toNatClampNeg) >>> (x1 &&& 31)) &&& 1) = 1 then fX12_prices_b43 t_people (fX12_prices_b10 N_line N_t_known t_people t_lines t_line_e_from t_line_e_to t_line_e_cost t_line_e_forth t_line_e_cut t_known x1 x2 n) y4 0 y4 n0 else fX12_prices_b43 t_people (fX12_prices_b10 N_line N_t_known t_people t_lines t_line_e_from t_line_e_to t_line_e_cost t_line_e_forth t_line_e_cut t_known x1 x2 n) y4 99999 y4 n0)) := rfl
def fX12_prices (N_line : Nat) (N_t_known : Nat) (t_people : Int32) (t_lines : Int32) (t_line_e_from : Nat → Int32) (t_line_e_to : Nat → Int32) (t_line_e_cost : Nat → Int32) (t_line_e_forth : Nat → Int32) (t_line_e_cut : Nat → Int32) (t_known : Nat → Int32) (x1 : Int32) (x2 : Int32) : Option ((Nat → Int32)) := gd t_people 11 (fX12_prices_b10 N_line N_t_known t_people t_lines t_line_e_from t_line_e_to t_line_e_cost t_line_e_forth t_line_e_cut t_known x1 x2 FU 0 (fun _ => 0))
set_option maxRecDepth 100000 in
set_option maxHeartbeats 4000000 in
theorem kX12_prices (l : Launch) (D : va_G) (cT : Nat → ClassId) (a_t : Nat) (a_t_line : Nat) (a_t_broken : Nat) (a_t_away : Nat) (a_t_known : Nat) (a_t_spent : Nat) (a_t_line_e : Nat → Nat) (a_t_broken_e : Nat → Nat) (a_t_away_e : Nat → Nat) (N_line : Nat) (N_broken : Nat) (N_away : Nat) (N_t_known : Nat) (t_people : Int32) (t_lines : Int32) (t_rounds : Int32) (t_calls : Int32) (t_bestSet : Int32) (t_bestGain : Int32) (t_bestCost : Int32) (t_line_e_from : Nat → Int32) (t_line_e_to : Nat → Int32) (t_line_e_cost : Nat → Int32) (t_line_e_forth : Nat → Int32) (t_line_e_cut : Nat → Int32) (t_line_e_arranged : Nat → Int32) (t_broken_e : Nat → Nat → Int32) (t_away_e : Nat → Nat → Int32) (t_known : Nat → Int32) (x1 : Int32) (x2 : Int32) (hNl : N_line ≤ 24) (r : (Nat → Int32)) (h : fX12_prices N_line N_t_known t_people t_lines t_line_e_from t_line_e_to t_line_e_cost t_line_e_forth t_line_e_cut t_known x1 x2 = some r) : sE l yX12_prices (zw yX12_prices cX12_prices 7 (some (.array .int))) (zRA 3 1 10) 1 10 (some (.array .int)) D cT [.ref a_t, .int x1, .int x2] ((a_t_known, .inl (cT 0, N_t_known, .inl t_known)) :: zWb cT a_t a_t_line a_t_broken a_t_away a_t_known a_t_spent t_people t_lines t_rounds t_calls t_bestSet t_bestGain t_bestCost N_line N_broken N_away a_t_line_e a_t_broken_e a_t_away_e t_line_e_from t_line_e_to t_line_e_cost t_line_e_forth t_line_e_cut t_line_e_arranged t_broken_e t_away_e) (fun v W => ∃ a_n0, v = some (.ref a_n0) ∧ W = ((a_n0, .inl (cT 0, t_people.toNatClampNeg, .inl r)) :: (a_t_known, .inl (cT 0, N_t_known, .inl t_known)) :: zWb cT a_t a_t_line a_t_broken a_t_away a_t_known a_t_spent t_people t_lines t_rounds t_calls t_bestSet t_bestGain t_bestCost N_line N_broken N_away a_t_line_e a_t_broken_e a_t_away_e t_line_e_from t_line_e_to t_line_e_cost t_line_e_forth t_line_e_cut t_line_e_arranged t_broken_e t_away_e)) := by
  refine sE_arr rfl (Nat.le_of_ble_eq_true rfl) ?_
  intro X C hE
  have B65 : ∀ (a_n0 : Nat) (K53 : Int32 → (Nat → Int32) → Option ((Nat → Int32))) (hK53 : ∀ (y4 : Int32) (n0 : Nat → Int32), K53 y4 n0 = some r → sW X l (zRA 3 1 10) D 7 1 10 53 [(0, .ref a_t), (2, .int x2), (3, .ref a_n0), (4, .int y4)] [] ((a_n0, .inl (cT 0, t_people.toNatClampNeg, .inl n0)) :: (a_t_known, .inl (cT 0, N_t_known, .inl t_known)) :: zWb cT a_t a_t_line a_t_broken a_t_away a_t_known a_t_spent t_people t_lines t_rounds t_calls t_bestSet t_bestGain t_bestCost N_line N_broken N_away a_t_line_e a_t_broken_e a_t_away_e t_line_e_from t_line_e_to t_line_e_cost t_line_e_forth t_line_e_cut t_line_e_arranged t_broken_e t_away_e)) (n : Nat) (y4 : Int32) (y5 : Int32) (n0 : Nat → Int32), fX12_prices_b65 N_line t_people t_lines t_line_e_from t_line_e_to t_line_e_cost t_line_e_forth t_line_e_cut x2 K53 n y4 y5 n0 = some r → sW X l (zRA 3 1 10) D 7 1 10 65 [(0, .ref a_t), (2, .int x2), (3, .ref a_n0), (4, .int y4), (5, .int y5)] [] ((a_n0, .inl (cT 0, t_people.toNatClampNeg, .inl n0)) :: (a_t_known, .inl (cT 0, N_t_known, .inl t_known)) :: zWb cT a_t a_t_line a_t_broken a_t_away a_t_known a_t_spent t_people t_lines t_rounds t_calls t_bestSet t_bestGain t_bestCost N_line N_broken N_away a_t_line_e a_t_broken_e a_t_away_e t_line_e_from t_line_e_to t_line_e_cost t_line_e_forth t_line_e_cut t_line_e_arranged t_broken_e t_away_e) := by
    intro a_n0 K53 hK53 n
    induction n with
    | zero =>
      intro y4 y5 n0 h
      exact zno ((fX12_prices_b65_0 _ _ _ _ _ _ _ _ _ _ _ _ _).symm.trans h)
    | succ n ih =>
      intro y4 y5 n0 h
      replace h := (fX12_prices_b65_s _ _ _ _ _ _ _ _ _ _ _ _ _ _).symm.trans h
      refine xi_iload C 4 dX12_prices_65 rfl ?_
      refine xi_aload_n C 0 dX12_prices_67 rfl ?_
      refine xi_get C zkX12 1 2 zlX12_46 (by decide) rfl rfl dX12_prices_68 ?_
      refine xi_icmp_ge C (tgt := 174) dX12_prices_71 rfl (fun c4 => ?_) (fun c4 => ?_)
      · replace h := (if_pos c4).symm.trans h
        refine xi_iinc C (v := y4 + 1) 3 [1, 2, 3, 0, 4] (L2 := [(0, .ref a_t), (2, .int x2), (3, .ref a_n0), (4, .int (y4 + 1)), (5, .int y5)]) dX12_prices_174 rfl rfl (Nat.le_of_ble_eq_true rfl) rfl ?_
        refine xi_goto C (tgt := 53) dX12_prices_177 rfl ?_
        refine xi_drop (L2 := [(0, .ref a_t), (2, .int x2), (3, .ref a_n0), (4, .int (y4 + 1))]) [0, 1, 2, 3] rfl ?_
        exact hK53 (y4 + 1) n0 h
      · replace h := (if_neg c4).symm.trans h
        refine xi_aload_n C 0 dX12_prices_74 rfl ?_
        refine xi_get C zkX12 4 2 zlX12_9 (by decide) rfl rfl dX12_prices_75 ?_
        refine xi_iload C 4 dX12_prices_78 rfl ?_
        replace h := ig h
        obtain ⟨c5, h⟩ := h
        refine xi_aald C (b := a_t_line_e y5.toNatClampNeg) 3 7 rfl rfl (vp_mono c5 hNl) (if_pos (vp_lt c5)) dX12_prices_80 ?_
        refine xi_astore C [1, 2, 3, 4, 5, 0] (L2 := [(0, .ref a_t), (2, .int x2), (3, .ref a_n0), (4, .int y4), (5, .int y5), (6, .ref (a_t_line_e y5.toNatClampNeg))]) dX12_prices_81 (Nat.le_of_ble_eq_true rfl) rfl ?_
        refine xi_aload C 5 dX12_prices_83 rfl ?_
        refine xi_get C zkX11 4 _ zlX12_19 (by decide) (zcons (zcons (zWb_l (vp_lt c5)))) rfl dX12_prices_85 ?_
        refine xi_if_ne C (tgt := 168) dX12_prices_88 rfl (fun c6 => ?_) (fun c6 => ?_)
        · replace h := (if_neg c6).symm.trans h
          refine xi_iinc C (v := y5 + 1) 4 [1, 2, 3, 4, 0, 5] (L2 := [(0, .ref a_t), (2, .int x2), (3, .ref a_n0), (4, .int y4), (5, .int (y5 + 1)), (6, .ref (a_t_line_e y5.toNatClampNeg))]) dX12_prices_168 rfl rfl (Nat.le_of_ble_eq_true rfl) rfl ?_
          refine xi_goto C (tgt := 65) dX12_prices_171 rfl ?_
          refine xi_drop (L2 := [(0, .ref a_t), (2, .int x2), (3, .ref a_n0), (4, .int y4), (5, .int (y5 + 1))]) [0, 1, 2, 3, 4] rfl ?_
          exact ih y4 (y5 + 1) n0 h
        · replace h := (if_pos c6).symm.trans h
          refine xi_iload C 4 dX12_prices_91 rfl ?_
          refine xi_iload_n C 1 dX12_prices_93 rfl ?_
          refine xi_icmp_ne C (tgt := 100) dX12_prices_94 rfl (fun c7 => ?_) (fun c7 => ?_)
          · replace h := (if_neg c7).symm.trans h
            refine xi_aload_n C 2 dX12_prices_100 rfl ?_
            refine xi_aload C 5 dX12_prices_101 rfl ?_
            refine xi_get C zkX11 1 _ zlX12_34 (by decide) (zcons (zcons (zWb_l (vp_lt c5)))) rfl dX12_prices_103 ?_
            refine xi_aload_n C 2 dX12_prices_106 rfl ?_
            refine xi_aload C 5 dX12_prices_107 rfl ?_
            refine xi_get C zkX11 1 _ zlX12_34 (by decide) (zcons (zcons (zWb_l (vp_lt c5)))) rfl dX12_prices_109 ?_
            replace h := ig h
            obtain ⟨c8, h⟩ := h
            refine xi_iald C 0 rfl c8 dX12_prices_112 ?_
            refine xi_aload_n C 2 dX12_prices_113 rfl ?_
            refine xi_aload C 5 dX12_prices_114 rfl ?_
            refine xi_get C zkX11 0 _ zlX12_30 (by decide) (zcons (zcons (zWb_l (vp_lt c5)))) rfl dX12_prices_116 ?_
            replace h := ig h
            obtain ⟨c9, h⟩ := h
            refine xi_iald C 0 rfl c9 dX12_prices_119 ?_
            refine xi_aload C 5 dX12_prices_120 rfl ?_
            refine xi_get C zkX11 2 _ zlX12_53 (by decide) (zcons (zcons (zWb_l (vp_lt c5)))) rfl dX12_prices_122 ?_
            refine xi_iadd C dX12_prices_125 ?_
            refine xi_mmin C zmjX12_107 ⟨by decide, by decide⟩ ⟨by decide, by decide⟩ (Nat.le_of_ble_eq_true rfl) dX12_prices_126 ?_
            refine xi_topi (fun w10 ew10 => ?_)
            replace h := nmE ew10 h
            refine xi_iast C 0 rfl c8 dX12_prices_129 (ws2 := ((a_n0, .inl (cT 0, t_people.toNatClampNeg, .inl (upd n0 (t_line_e_to y5.toNatClampNeg).toNatClampNeg w10))) :: (a_t_known, .inl (cT 0, N_t_known, .inl t_known)) :: zWb cT a_t a_t_line a_t_broken a_t_away a_t_known a_t_spent t_people t_lines t_rounds t_calls t_bestSet t_bestGain t_bestCost N_line N_broken N_away a_t_line_e a_t_broken_e a_t_away_e t_line_e_from t_line_e_to t_line_e_cost t_line_e_forth t_line_e_cut t_line_e_arranged t_broken_e t_away_e)) rfl ?_
            obtain ⟨g11, eg11⟩ : ∃ z, z = upd n0 (t_line_e_to y5.toNatClampNeg).toNatClampNeg w10 := ⟨_, rfl⟩
            replace h := nmE eg11 h
            rw [← eg11]
            refine xi_aload C 5 dX12_prices_130 rfl ?_
            refine xi_get C zkX11 3 _ zlX12_43 (by decide) (zcons (zcons (zWb_l (vp_lt c5)))) rfl dX12_prices_132 ?_
            refine xi_if_ne C (tgt := 168) dX12_prices_135 rfl (fun c12 => ?_) (fun c12 => ?_)
            · replace h := (if_neg c12).symm.trans h
              refine xi_iinc C (v := y5 + 1) 4 [1, 2, 3, 4, 0, 5] (L2 := [(0, .ref a_t), (2, .int x2), (3, .ref a_n0), (4, .int y4), (5, .int (y5 + 1)), (6, .ref (a_t_line_e y5.toNatClampNeg))]) dX12_prices_168 rfl rfl (Nat.le_of_ble_eq_true rfl) rfl ?_
              refine xi_goto C (tgt := 65) dX12_prices_171 rfl ?_
              refine xi_drop (L2 := [(0, .ref a_t), (2, .int x2), (3, .ref a_n0), (4, .int y4), (5, .int (y5 + 1))]) [0, 1, 2, 3, 4] rfl ?_
              exact ih y4 (y5 + 1) g11 h
            · replace h := (if_pos c12).symm.trans h
              refine xi_aload_n C 2 dX12_prices_138 rfl ?_
              refine xi_aload C 5 dX12_prices_139 rfl ?_
              refine xi_get C zkX11 0 _ zlX12_30 (by decide) (zcons (zcons (zWb_l (vp_lt c5)))) rfl dX12_prices_141 ?_
              refine xi_aload_n C 2 dX12_prices_144 rfl ?_
              refine xi_aload C 5 dX12_prices_145 rfl ?_
              refine xi_get C zkX11 0 _ zlX12_30 (by decide) (zcons (zcons (zWb_l (vp_lt c5)))) rfl dX12_prices_147 ?_
              refine xi_iald C 0 rfl c9 dX12_prices_150 ?_
              refine xi_aload_n C 2 dX12_prices_151 rfl ?_
              refine xi_aload C 5 dX12_prices_152 rfl ?_
              refine xi_get C zkX11 1 _ zlX12_34 (by decide) (zcons (zcons (zWb_l (vp_lt c5)))) rfl dX12_prices_154 ?_
              refine xi_iald C 0 rfl c8 dX12_prices_157 ?_
              refine xi_aload C 5 dX12_prices_158 rfl ?_
              refine xi_get C zkX11 2 _ zlX12_53 (by decide) (zcons (zcons (zWb_l (vp_lt c5)))) rfl dX12_prices_160 ?_
              refine xi_iadd C dX12_prices_163 ?_
              refine xi_mmin C zmjX12_107 ⟨by decide, by decide⟩ ⟨by decide, by decide⟩ (Nat.le_of_ble_eq_true rfl) dX12_prices_164 ?_
              refine xi_topi (fun w13 ew13 => ?_)
              replace h := nmE ew13 h
              refine xi_iast C 0 rfl c9 dX12_prices_167 (ws2 := ((a_n0, .inl (cT 0, t_people.toNatClampNeg, .inl (upd g11 (t_line_e_from y5.toNatClampNeg).toNatClampNeg w13))) :: (a_t_known, .inl (cT 0, N_t_known, .inl t_known)) :: zWb cT a_t a_t_line a_t_broken a_t_away a_t_known a_t_spent t_people t_lines t_rounds t_calls t_bestSet t_bestGain t_bestCost N_line N_broken N_away a_t_line_e a_t_broken_e a_t_away_e t_line_e_from t_line_e_to t_line_e_cost t_line_e_forth t_line_e_cut t_line_e_arranged t_broken_e t_away_e)) rfl ?_
              obtain ⟨g14, eg14⟩ : ∃ z, z = upd g11 (t_line_e_from y5.toNatClampNeg).toNatClampNeg w13 := ⟨_, rfl⟩
              replace h := nmE eg14 h
              rw [← eg14]
              refine xi_iinc C (v := y5 + 1) 4 [1, 2, 3, 4, 0, 5] (L2 := [(0, .ref a_t), (2, .int x2), (3, .ref a_n0), (4, .int y4), (5, .int (y5 + 1)), (6, .ref (a_t_line_e y5.toNatClampNeg))]) dX12_prices_168 rfl rfl (Nat.le_of_ble_eq_true rfl) rfl ?_
              refine xi_goto C (tgt := 65) dX12_prices_171 rfl ?_
              refine xi_drop (L2 := [(0, .ref a_t), (2, .int x2), (3, .ref a_n0), (4, .int y4), (5, .int (y5 + 1))]) [0, 1, 2, 3, 4] rfl ?_
              exact ih y4 (y5 + 1) g14 h
          · replace h := (if_pos c7).symm.trans h
            refine xi_goto C (tgt := 168) dX12_prices_97 rfl ?_
            refine xi_iinc C (v := y5 + 1) 4 [1, 2, 3, 4, 0, 5] (L2 := [(0, .ref a_t), (2, .int x2), (3, .ref a_n0), (4, .int y4), (5, .int (y5 + 1)), (6, .ref (a_t_line_e y5.toNatClampNeg))]) dX12_prices_168 rfl rfl (Nat.le_of_ble_eq_true rfl) rfl ?_
            refine xi_goto C (tgt := 65) dX12_prices_171 rfl ?_
            refine xi_drop (L2 := [(0, .ref a_t), (2, .int x2), (3, .ref a_n0), (4, .int y4), (5, .int (y5 + 1))]) [0, 1, 2, 3, 4] rfl ?_
            exact ih y4 (y5 + 1) n0 h
  have B53 : ∀ (a_n0 : Nat) (n : Nat) (y4 : Int32) (n0 : Nat → Int32), fX12_prices_b53 N_line t_people t_lines t_line_e_from t_line_e_to t_line_e_cost t_line_e_forth t_line_e_cut x2 n y4 n0 = some r → sW X l (zRA 3 1 10) D 7 1 10 53 [(0, .ref a_t), (2, .int x2), (3, .ref a_n0), (4, .int y4)] [] ((a_n0, .inl (cT 0, t_people.toNatClampNeg, .inl n0)) :: (a_t_known, .inl (cT 0, N_t_known, .inl t_known)) :: zWb cT a_t a_t_line a_t_broken a_t_away a_t_known a_t_spent t_people t_lines t_rounds t_calls t_bestSet t_bestGain t_bestCost N_line N_broken N_away a_t_line_e a_t_broken_e a_t_away_e t_line_e_from t_line_e_to t_line_e_cost t_line_e_forth t_line_e_cut t_line_e_arranged t_broken_e t_away_e) := by
    intro a_n0 n
    induction n with
    | zero =>
      intro y4 n0 h
      exact zno ((fX12_prices_b53_0 _ _ _ _ _ _ _ _ _ _ _).symm.trans h)
    | succ n ih =>
      intro y4 n0 h
      replace h := (fX12_prices_b53_s _ _ _ _ _ _ _ _ _ _ _ _).symm.trans h
      refine xi_iload C 3 dX12_prices_53 rfl ?_
      refine xi_aload_n C 0 dX12_prices_55 rfl ?_
      refine xi_get C zkX12 0 2 zlX12_86 (by decide) rfl rfl dX12_prices_56 ?_
      refine xi_icmp_ge C (tgt := 180) dX12_prices_59 rfl (fun c3 => ?_) (fun c3 => ?_)
      · replace h := (if_pos c3).symm.trans h
        refine xi_aload_n C 2 dX12_prices_180 rfl ?_
        obtain rfl := Option.some.inj h
        exact hE _ _ _ _ dX12_prices_181 ⟨_, rfl, rfl⟩
      · replace h := (if_neg c3).symm.trans h
        refine xi_iconst C (v := 0) dX12_prices_62 rfl ?_
        refine xi_istore C [1, 2, 3, 4, 0] (L2 := [(0, .ref a_t), (2, .int x2), (3, .ref a_n0), (4, .int y4), (5, .int 0)]) dX12_prices_63 (Nat.le_of_ble_eq_true rfl) rfl ?_
        exact B65 a_n0 (fX12_prices_b53 N_line t_people t_lines t_line_e_from t_line_e_to t_line_e_cost t_line_e_forth t_line_e_cut x2 n) ih FU y4 0 n0 h
  have B43 : ∀ (a_n0 : Nat) (K10 : Int32 → (Nat → Int32) → Option ((Nat → Int32))) (hK10 : ∀ (y4 : Int32) (n0 : Nat → Int32), K10 y4 n0 = some r → sW X l (zRA 3 1 10) D 7 1 10 10 [(0, .ref a_t), (1, .int x1), (2, .int x2), (3, .ref a_n0), (4, .int y4)] [] ((a_n0, .inl (cT 0, t_people.toNatClampNeg, .inl n0)) :: (a_t_known, .inl (cT 0, N_t_known, .inl t_known)) :: zWb cT a_t a_t_line a_t_broken a_t_away a_t_known a_t_spent t_people t_lines t_rounds t_calls t_bestSet t_bestGain t_bestCost N_line N_broken N_away a_t_line_e a_t_broken_e a_t_away_e t_line_e_from t_line_e_to t_line_e_cost t_line_e_forth t_line_e_cut t_line_e_arranged t_broken_e t_away_e)) (y4 : Int32) (s0 : Int32) (s1 : Int32) (n0 : Nat → Int32), fX12_prices_b43 t_people K10 y4 s0 s1 n0 = some r → sW X l (zRA 3 1 10) D 7 1 10 43 [(0, .ref a_t), (1, .int x1), (2, .int x2), (3, .ref a_n0), (4, .int y4)] [.int s0, .int s1, .ref a_n0] ((a_n0, .inl (cT 0, t_people.toNatClampNeg, .inl n0)) :: (a_t_known, .inl (cT 0, N_t_known, .inl t_known)) :: zWb cT a_t a_t_line a_t_broken a_t_away a_t_known a_t_spent t_people t_lines t_rounds t_calls t_bestSet t_bestGain t_bestCost N_line N_broken N_away a_t_line_e a_t_broken_e a_t_away_e t_line_e_from t_line_e_to t_line_e_cost t_line_e_forth t_line_e_cut t_line_e_arranged t_broken_e t_away_e) := by
    intro a_n0 K10 hK10 y4 s0 s1 n0 h
    replace h := ig h
    obtain ⟨c17, h⟩ := h
    refine xi_iast C 0 rfl c17 dX12_prices_43 (ws2 := ((a_n0, .inl (cT 0, t_people.toNatClampNeg, .inl (upd n0 s1.toNatClampNeg s0))) :: (a_t_known, .inl (cT 0, N_t_known, .inl t_known)) :: zWb cT a_t a_t_line a_t_broken a_t_away a_t_known a_t_spent t_people t_lines t_rounds t_calls t_bestSet t_bestGain t_bestCost N_line N_broken N_away a_t_line_e a_t_broken_e a_t_away_e t_line_e_from t_line_e_to t_line_e_cost t_line_e_forth t_line_e_cut t_line_e_arranged t_broken_e t_away_e)) rfl ?_
    obtain ⟨g18, eg18⟩ : ∃ z, z = upd n0 s1.toNatClampNeg s0 := ⟨_, rfl⟩
    replace h := nmE eg18 h
    rw [← eg18]
    refine xi_iinc C (v := y4 + 1) 4 [1, 2, 3, 4, 0] (L2 := [(0, .ref a_t), (1, .int x1), (2, .int x2), (3, .ref a_n0), (4, .int (y4 + 1))]) dX12_prices_44 rfl rfl (Nat.le_of_ble_eq_true rfl) rfl ?_
    refine xi_goto C (tgt := 10) dX12_prices_47 rfl ?_
    exact hK10 (y4 + 1) g18 h
  have B10 : ∀ (a_n0 : Nat) (n : Nat) (y4 : Int32) (n0 : Nat → Int32), fX12_prices_b10 N_line N_t_known t_people t_lines t_line_e_from t_line_e_to t_line_e_cost t_line_e_forth t_line_e_cut t_known x1 x2 n y4 n0 = some r → sW X l (zRA 3 1 10) D 7 1 10 10 [(0, .ref a_t), (1, .int x1), (2, .int x2), (3, .ref a_n0), (4, .int y4)] [] ((a_n0, .inl (cT 0, t_people.toNatClampNeg, .inl n0)) :: (a_t_known, .inl (cT 0, N_t_known, .inl t_known)) :: zWb cT a_t a_t_line a_t_broken a_t_away a_t_known a_t_spent t_people t_lines t_rounds t_calls t_bestSet t_bestGain t_bestCost N_line N_broken N_away a_t_line_e a_t_broken_e a_t_away_e t_line_e_from t_line_e_to t_line_e_cost t_line_e_forth t_line_e_cut t_line_e_arranged t_broken_e t_away_e) := by
    intro a_n0 n
    induction n with
    | zero =>
      intro y4 n0 h
      exact zno ((fX12_prices_b10_0 _ _ _ _ _ _ _ _ _ _ _ _ _ _).symm.trans h)
    | succ n ih =>
      intro y4 n0 h
      replace h := (fX12_prices_b10_s _ _ _ _ _ _ _ _ _ _ _ _ _ _ _).symm.trans h
      refine xi_iload C 4 dX12_prices_10 rfl ?_
      refine xi_aload_n C 0 dX12_prices_12 rfl ?_
      refine xi_get C zkX12 0 2 zlX12_86 (by decide) rfl rfl dX12_prices_13 ?_
      refine xi_icmp_ge C (tgt := 50) dX12_prices_16 rfl (fun c2 => ?_) (fun c2 => ?_)
      · replace h := (if_pos c2).symm.trans h
        refine xi_iconst C (v := 0) dX12_prices_50 rfl ?_
        refine xi_istore C [1, 2, 3, 4, 0] (L2 := [(0, .ref a_t), (1, .int x1), (2, .int x2), (3, .ref a_n0), (4, .int 0)]) dX12_prices_51 (Nat.le_of_ble_eq_true rfl) rfl ?_
        refine xi_drop (L2 := [(0, .ref a_t), (2, .int x2), (3, .ref a_n0), (4, .int 0)]) [0, 2, 3, 4] rfl ?_
        exact B53 a_n0 FU 0 n0 h
      · replace h := (if_neg c2).symm.trans h
        refine xi_aload_n C 3 dX12_prices_19 rfl ?_
        refine xi_iload C 4 dX12_prices_20 rfl ?_
        refine xi_aload_n C 0 dX12_prices_22 rfl ?_
        refine xi_get C zkX12 7 2 zlX12_89 (by decide) rfl rfl dX12_prices_23 ?_
        refine xi_iload C 4 dX12_prices_26 rfl ?_
        replace h := ig h
        obtain ⟨c15, h⟩ := h
        refine xi_iald C 1 rfl c15 dX12_prices_28 ?_
        refine xi_iload_n C 1 dX12_prices_29 rfl ?_
        refine xi_ishr C dX12_prices_30 ?_
        refine xi_iconst C (v := 1) dX12_prices_31 rfl ?_
        refine xi_iand C dX12_prices_32 ?_
        refine xi_iconst C (v := 1) dX12_prices_33 rfl ?_
        refine xi_icmp_ne C (tgt := 41) dX12_prices_34 rfl (fun c16 => ?_) (fun c16 => ?_)
        · replace h := (if_neg c16).symm.trans h
          refine xi_ldc C (v := 99999) zcoX12_106 dX12_prices_41 ?_
          exact B43 a_n0 (fX12_prices_b10 N_line N_t_known t_people t_lines t_line_e_from t_line_e_to t_line_e_cost t_line_e_forth t_line_e_cut t_known x1 x2 n) ih y4 99999 y4 n0 h
        · replace h := (if_pos c16).symm.trans h
          refine xi_iconst C (v := 0) dX12_prices_37 rfl ?_
          refine xi_goto C (tgt := 43) dX12_prices_38 rfl ?_
          exact B43 a_n0 (fX12_prices_b10 N_line N_t_known t_people t_lines t_line_e_from t_line_e_to t_line_e_cost t_line_e_forth t_line_e_cut t_known x1 x2 n) ih y4 0 y4 n0 h
  refine xi_drop (L2 := [(0, .ref a_t), (1, .int x1), (2, .int x2)]) [0, 1, 2] rfl ?_
  refine xi_aload_n C 0 dX12_prices_0 rfl ?_
  refine xi_get C zkX12 0 1 zlX12_86 (by decide) rfl rfl dX12_prices_1 ?_
  replace h := ig h
  obtain ⟨c1, h⟩ := h
  have hNr : t_people.toNatClampNeg ≤ 10 := Nat.le_of_lt_succ (vp_lt c1)
  refine xi_newaI C (zm1 (i := 71) rfl rfl) (fun z => c1 (Or.inl z)) rfl (Nat.le_trans hNr (by decide)) (Nat.le_of_ble_eq_true rfl) (by rw [Nat.zero_add]; exact hNr) dX12_prices_4 (fun a_n0 => ?_)
  refine xi_wide (k2 := 1) (n2 := 10) (Nat.le_refl _) (by rw [Nat.zero_add]; exact hNr) ?_
  refine xi_permL (ws2 := ((a_n0, .inl (cT 0, t_people.toNatClampNeg, .inl (fun _ => 0))) :: (a_t_known, .inl (cT 0, N_t_known, .inl t_known)) :: zWb cT a_t a_t_line a_t_broken a_t_away a_t_known a_t_spent t_people t_lines t_rounds t_calls t_bestSet t_bestGain t_bestCost N_line N_broken N_away a_t_line_e a_t_broken_e a_t_away_e t_line_e_from t_line_e_to t_line_e_cost t_line_e_forth t_line_e_cut t_line_e_arranged t_broken_e t_away_e)) List.perm_append_comm ?_
  refine xi_astore_n C [1, 2, 3, 0] (L2 := [(0, .ref a_t), (1, .int x1), (2, .int x2), (3, .ref a_n0)]) dX12_prices_6 (Nat.le_of_ble_eq_true rfl) rfl ?_
  refine xi_iconst C (v := 0) dX12_prices_7 rfl ?_
  refine xi_istore C [1, 2, 3, 4, 0] (L2 := [(0, .ref a_t), (1, .int x1), (2, .int x2), (3, .ref a_n0), (4, .int 0)]) dX12_prices_8 (Nat.le_of_ble_eq_true rfl) rfl ?_
  exact B10 a_n0 FU 0 (fun _ => 0) h
