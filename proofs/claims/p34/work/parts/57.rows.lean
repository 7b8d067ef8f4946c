/-! rows for walks along a road -/
theorem zse1 {A B A2 : va_W} {i : Nat} {x : Nat × va_E} (hi : i < A.length) (h : A.set i x = A2) : (A ++ B).set i x = A2 ++ B := by
  rw [List.set_append_left i x hi, h]
theorem zse2 {A B B2 : va_W} {i n : Nat} {x : Nat × va_E} (hn : A.length = n) (h : B.set i x = B2) : (A ++ B).set (n + i) x = A ++ B2 := by
  rw [List.set_append_right _ _ (by omega), show n + i - A.length = i by omega, h]
theorem permX {bs A B : List va_W} {W0 : va_W} {n : Nat} (hn : bs.length = n) (is : List Nat) (h1 : is.map (fun i => bs.getD i []) = A ++ B) (h2 : is.Perm (List.range n)) (h3 : A.flatten = W0) : bs.flatten.Perm (W0 ++ B.flatten) := by
  subst hn
  exact permB is h1 h2 h3
theorem permR {bs bs2 : List va_W} {n : Nat} (hn : bs.length = n) (is : List Nat) (h1 : is.map (fun i => bs.getD i []) = bs2) (h2 : is.Perm (List.range n)) : bs.flatten.Perm bs2.flatten := by
  have := permX hn is (A := bs2) (B := []) (by rw [h1, List.append_nil]) h2 rfl
  rw [List.flatten_nil, List.append_nil] at this
  exact this
theorem flat1 {A : va_W} : [A].flatten = A := by rw [List.flatten_cons, List.flatten_nil, List.append_nil]
theorem flatXA {x : Nat × va_E} {A : va_W} : [[x], A].flatten = x :: A := by
  rw [List.flatten_cons, flat1]
  rfl
theorem flatXY {x y : Nat × va_E} : [[x], [y]].flatten = [x, y] := rfl
theorem flatXYA {x y : Nat × va_E} {A : va_W} : [[x], [y], A].flatten = x :: y :: A := by
  rw [List.flatten_cons, flatXA]
  rfl
theorem flatA2 {A B : va_W} : [A, B].flatten = A ++ B := by rw [List.flatten_cons, flat1]
theorem flatA3 {A B C : va_W} : [A, B, C].flatten = A ++ (B ++ C) := by rw [List.flatten_cons, flatA2]
theorem zrE {a b m c d : Nat} (h : Nat.blt a b = true) (hm : Nat.ble m 80 = true) : zRmN (zR a) (zRA b c d) m 0 0 := by
  have h1 : a + 1 ≤ b := Nat.le_of_ble_eq_true h
  have h2 : m ≤ 80 := Nat.le_of_ble_eq_true hm
  refine ⟨rfl, rfl, ?_, ?_⟩ <;> simp only [zR, zRA] <;> omega
theorem nb1 : narrow .boolean (.int 1) = .int 1 := rfl
theorem nb0 : narrow .boolean (.int 0) = .int 0 := rfl
section RowsX
variable {X : sX} {l : Launch} {R : Room} {D : va_G} {cT : Nat → ClassId} {nL k n pc : Nat} {cc : ByteArray} {own : String} {L : List (Nat × Value)} {st : List Value} {ws : va_W}
theorem xi_rwi {x y : Int32} (h : x = y) (kk : sW X l R D nL k n pc L (.int y :: st) ws) : sW X l R D nL k n pc L (.int x :: st) ws := by
  rw [h]
  exact kk
theorem xi_rwi2 {x y : Int32} {z : Value} (h : x = y) (kk : sW X l R D nL k n pc L (z :: .int y :: st) ws) : sW X l R D nL k n pc L (z :: .int x :: st) ws := by
  rw [h]
  exact kk
theorem xi_eqw2 {ws2 : va_W} (h : ws = ws2) (kk : sW X l R D nL k n pc L st ws2) : sW X l R D nL k n pc L st ws := by
  rw [h]
  exact kk
theorem xw_iald (C : sC X R D cT nL cc own) {a N i : Nat} {g : Nat → Int32} (q : Nat) (he : ws[q]? = some (a, .inl (cT 0, N, .inl g))) (hi : i < N) (hN : N < 2 ^ 31) (hdg : decode cc pc = .ok (.iaload, 1)) (kk : sW X l R D nL k n (pc + 1) L (.int (g i) :: st) ws) : sW X l R D nL k n pc L (.int (nI i) :: .ref a :: st) ws := by
  refine xi_iald C q he (vp_in_nI hi hN) hdg ?_
  rw [nI_clamp (by omega)]
  exact kk
theorem xw_iast (C : sC X R D cT nL cc own) {a N i : Nat} {g : Nat → Int32} {x : Int32} {ws2 : va_W} (q : Nat) (he : ws[q]? = some (a, .inl (cT 0, N, .inl g))) (hi : i < N) (hN : N < 2 ^ 31) (hdg : decode cc pc = .ok (.iastore, 1)) (hw : ws.set q (a, .inl (cT 0, N, .inl (upd g i x))) = ws2) (kk : sW X l R D nL k n (pc + 1) L st ws2) : sW X l R D nL k n pc L (.int x :: .int (nI i) :: .ref a :: st) ws := by
  refine xi_iast C q he (vp_in_nI hi hN) hdg ?_ kk
  rw [nI_clamp (by omega)]
  exact hw
theorem xw_bald (C : sC X R D cT nL cc own) {a N i : Nat} {g : Nat → Int32} (q : Nat) (he : ws[q]? = some (a, .inl (cT 2, N, .inl g))) (hi : i < N) (hN : N < 2 ^ 31) (hdg : decode cc pc = .ok (.baload, 1)) (kk : sW X l R D nL k n (pc + 1) L (.int (g i) :: st) ws) : sW X l R D nL k n pc L (.int (nI i) :: .ref a :: st) ws := by
  refine xi_bald C q he (vp_in_nI hi hN) hdg ?_
  rw [nI_clamp (by omega)]
  exact kk
theorem xw_bast (C : sC X R D cT nL cc own) {a N i : Nat} {g : Nat → Int32} {x : Int32} {ws2 : va_W} (q : Nat) (he : ws[q]? = some (a, .inl (cT 2, N, .inl g))) (hi : i < N) (hN : N < 2 ^ 31) (hdg : decode cc pc = .ok (.bastore, 1)) (hw : ws.set q (a, .inl (cT 2, N, .inl (upd g i (vp_nar .byte x)))) = ws2) (kk : sW X l R D nL k n (pc + 1) L st ws2) : sW X l R D nL k n pc L (.int x :: .int (nI i) :: .ref a :: st) ws := by
  refine xi_bast C q he (vp_in_nI hi hN) hdg ?_ kk
  rw [nI_clamp (by omega)]
  exact hw
theorem xw_aald (C : sC X R D cT nL cc own) {a N b i : Nat} {g : Nat → Option Nat} {Cn : String} {cA : ClassId} (q t : Nat) (he : ws[q]? = some (a, .inl (cA, N, .inr (.inr (.inr (.inr g)))))) (ht : (zT cT)[t]? = some (cA, .object Cn)) (hi : i < N) (hN : N < 2 ^ 31) (hg : g i = some b) (hdg : decode cc pc = .ok (.aaload, 1)) (kk : sW X l R D nL k n (pc + 1) L (.ref b :: st) ws) : sW X l R D nL k n pc L (.int (nI i) :: .ref a :: st) ws :=
  xi_aald C q t he ht (vp_in_nI hi hN) (by rw [nI_clamp (by omega)]; exact hg) hdg kk
theorem xw_aaldA (C : sC X R D cT nL cc own) {a N b i : Nat} {g : Nat → Option Nat} (q : Nat) (he : ws[q]? = some (a, .inl (cT 6, N, .inr (.inr (.inr (.inr g)))))) (hi : i < N) (hN : N < 2 ^ 31) (hg : g i = some b) (hdg : decode cc pc = .ok (.aaload, 1)) (kk : sW X l R D nL k n (pc + 1) L (.ref b :: st) ws) : sW X l R D nL k n pc L (.int (nI i) :: .ref a :: st) ws :=
  xi_aaldA C q he (vp_in_nI hi hN) (by rw [nI_clamp (by omega)]; exact hg) hdg kk
end RowsX
section WebX
variable {cT : Nat → ClassId} {a al ab aw ak asp : Nat} {people lines rounds calls bs bg bc : Int32} {nl nb na : Nat} {AL AB AW : Nat → Nat} {f0 f1 f2 f3 f4 f5 : Nat → Int32} {vb vw : Nat → Nat → Int32} {i : Nat}
theorem zWb_w : (zWb cT a al ab aw ak asp people lines rounds calls bs bg bc nl nb na AL AB AW f0 f1 f2 f3 f4 f5 vb vw)[0]? = some (a, .inr (12, [.int people, .int lines, .int rounds, .int calls, .ref al, .ref ab, .ref aw, .ref ak, .ref asp, .int bs, .int bg, .int bc])) := rfl
theorem zWb_ar : (zWb cT a al ab aw ak asp people lines rounds calls bs bg bc nl nb na AL AB AW f0 f1 f2 f3 f4 f5 vb vw)[1]? = some (al, .inl (cT 7, 24, .inr (.inr (.inr (.inr (fun i => if i < nl then some (AL i) else none)))))) := rfl
theorem zWb_br : (zWb cT a al ab aw ak asp people lines rounds calls bs bg bc nl nb na AL AB AW f0 f1 f2 f3 f4 f5 vb vw)[2]? = some (ab, .inl (cT 6, nb, .inr (.inr (.inr (.inr (fun i => if i < nb then some (AB i) else none)))))) := rfl
theorem zWb_aw : (zWb cT a al ab aw ak asp people lines rounds calls bs bg bc nl nb na AL AB AW f0 f1 f2 f3 f4 f5 vb vw)[3]? = some (aw, .inl (cT 6, na, .inr (.inr (.inr (.inr (fun i => if i < na then some (AW i) else none)))))) := rfl
theorem zWb_len (h : 0 = 0) : 0 < (zWb cT a al ab aw ak asp people lines rounds calls bs bg bc nl nb na AL AB AW f0 f1 f2 f3 f4 f5 vb vw).length := Nat.zero_lt_succ _
theorem zLs_set4 {x : Int32} (h : i < nl) : (zLs nl AL f0 f1 f2 f3 f4 f5).set i (AL i, .inr (11, [.int (f0 i), .int (f1 i), .int (f2 i), .int (f3 i), .int x, .int (f5 i)])) = zLs nl AL f0 f1 f2 f3 (upd f4 i x) f5 := by
  unfold zLs
  apply List.ext_getElem?
  intro j
  rw [List.getElem?_set]
  by_cases e : i = j
  · subst e
    rw [if_pos rfl, List.length_map, List.length_range, if_pos h, List.getElem?_map, List.getElem?_range h]
    dsimp only [Option.map]
    rw [pk_us]
  · rw [if_neg e, List.getElem?_map, List.getElem?_map]
    by_cases q : j < nl
    · rw [List.getElem?_range q]
      dsimp only [Option.map]
      rw [pk_un (fun z => e z.symm)]
    · rw [List.getElem?_eq_none (by rw [List.length_range]; omega)]
      rfl
theorem zLs_set5 {x : Int32} (h : i < nl) : (zLs nl AL f0 f1 f2 f3 f4 f5).set i (AL i, .inr (11, [.int (f0 i), .int (f1 i), .int (f2 i), .int (f3 i), .int (f4 i), .int x])) = zLs nl AL f0 f1 f2 f3 f4 (upd f5 i x) := by
  unfold zLs
  apply List.ext_getElem?
  intro j
  rw [List.getElem?_set]
  by_cases e : i = j
  · subst e
    rw [if_pos rfl, List.length_map, List.length_range, if_pos h, List.getElem?_map, List.getElem?_range h]
    dsimp only [Option.map]
    rw [pk_us]
  · rw [if_neg e, List.getElem?_map, List.getElem?_map]
    by_cases q : j < nl
    · rw [List.getElem?_range q]
      dsimp only [Option.map]
      rw [pk_un (fun z => e z.symm)]
    · rw [List.getElem?_eq_none (by rw [List.length_range]; omega)]
      rfl
theorem zWb_s4 {x : Int32} (h : i < nl) : (zWb cT a al ab aw ak asp people lines rounds calls bs bg bc nl nb na AL AB AW f0 f1 f2 f3 f4 f5 vb vw).set (i + 1 + 1 + 1 + 1) (AL i, .inr (11, [.int (f0 i), .int (f1 i), .int (f2 i), .int (f3 i), .int x, .int (f5 i)])) = zWb cT a al ab aw ak asp people lines rounds calls bs bg bc nl nb na AL AB AW f0 f1 f2 f3 (upd f4 i x) f5 vb vw := by
  unfold zWb
  rw [List.set_cons_succ, List.set_cons_succ, List.set_cons_succ, List.set_cons_succ, zse1 (by rw [zLs_len]; exact h) (zLs_set4 h)]
theorem zWb_s5 {x : Int32} (h : i < nl) : (zWb cT a al ab aw ak asp people lines rounds calls bs bg bc nl nb na AL AB AW f0 f1 f2 f3 f4 f5 vb vw).set (i + 1 + 1 + 1 + 1) (AL i, .inr (11, [.int (f0 i), .int (f1 i), .int (f2 i), .int (f3 i), .int (f4 i), .int x])) = zWb cT a al ab aw ak asp people lines rounds calls bs bg bc nl nb na AL AB AW f0 f1 f2 f3 f4 (upd f5 i x) vb vw := by
  unfold zWb
  rw [List.set_cons_succ, List.set_cons_succ, List.set_cons_succ, List.set_cons_succ, zse1 (by rw [zLs_len]; exact h) (zLs_set5 h)]
theorem zWb_ll (h : i < nl) : i + 1 + 1 + 1 + 1 < (zWb cT a al ab aw ak asp people lines rounds calls bs bg bc nl nb na AL AB AW f0 f1 f2 f3 f4 f5 vb vw).length := by
  unfold zWb
  rw [List.length_cons, List.length_cons, List.length_cons, List.length_cons, List.length_append, zLs_len]
  omega
end WebX
theorem hFl_up {n i : Nat} {S : Nat → Bool} {f : Nat → Int32} (h : hFl n S f) (b : Bool) : hFl n (fun j => if j = i then b else S j) (upd f i (if b = true then 1 else 0)) := fun j hj => by
  by_cases e : j = i
  · rw [e, pk_us]
    show _ = if (if i = i then b else S i) = true then (1 : Int32) else 0
    rw [if_pos rfl]
  · rw [pk_un e]
    show _ = if (if j = i then b else S j) = true then (1 : Int32) else 0
    rw [if_neg e]
    exact h j hj
theorem hFl_add {n i : Nat} {S : Nat → Bool} {f : Nat → Int32} (h : hFl n S f) : hFl n (sadd S i) (upd f i 1) := hFl_up h true
theorem hFl_del {n i : Nat} {S : Nat → Bool} {f : Nat → Int32} (h : hFl n S f) : hFl n (sdel S i) (upd f i 0) := hFl_up h false
/-! draws -/
def gC (cT : Nat → ClassId) (a : Nat) (v : Nat → Int32) : Nat × va_E := (a, .inl (cT 0, 1, .inl v))
theorem ushr8 (x : Int32) : ∃ e : Nat, e < 2 ^ 24 ∧ ((x.toUInt32 >>> ((8 : Int32).toUInt32 &&& Int32.toUInt32 31)).toInt32) = nI e := by
  have h := pk_ushr x 8 8 (by decide)
  refine ⟨x.toBitVec.toNat / 2 ^ 8, ?_, ?_⟩
  · have := x.toBitVec.isLt
    omega
  · apply Int32.toBitVec_inj.mp
    apply BitVec.eq_of_toNat_eq
    rw [h]
    have := x.toBitVec.isLt
    show _ = (x.toBitVec.toNat / 2 ^ 8) % 2 ^ 32
    rw [Nat.mod_eq_of_lt (by omega)]
