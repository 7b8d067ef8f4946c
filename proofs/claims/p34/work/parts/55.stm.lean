/-! statements of a known text -/
section
variable {n : Nat} {T : Nat → Nat} {t : Nat → Int32}
def tAt (T : Nat → Nat) (e : Nat) (L : List Nat) : Prop := ∀ j, j < L.length → T (e + j) = L.getD j 0
theorem nxS {e : Nat} (h0 : T e = 32) (hn : e + 1 < n) (h1 : 48 ≤ T (e + 1)) : nx n T e (e + 1) := ⟨hn, by omega, by omega, Or.inr ⟨rfl, h0⟩⟩
theorem nx0 {e : Nat} (hn : e < n) (h1 : 48 ≤ T e) : nx n T e e := ⟨hn, by omega, by omega, Or.inl rfl⟩
theorem rdN {e d lo hi c2 : Nat} {co wr nu : Int32} (h : hTx n T t) (h0 : T e = 32) (h1 : T (e + 1) = 48 + d) (h2 : T (e + 1 + 1) = c2) (hn : e + 3 ≤ n) (hd : d ≤ 9) (hc : c2 < 48 ∨ 57 < c2) (hlo : lo ≤ d) (hhi : d ≤ hi) (hh : hi < 2000) : fX9_readNumber co wr (nI n) (nI e) nu t (nI lo) (nI hi) = some (1, co, wr, 2, nI (e + 1), nI (e + 1 + 1), nI d) := rdNum h (nxS h0 (by omega) (by omega)) hd h1 (fun _ => by rw [h2]; exact hc) hlo hhi hh
theorem full1 {l : Nat} (h : l < 24) : fX1_isFull (nI l) = 0 := by
  unfold fX1_isFull
  rw [if_pos (show nI l < 24 from nI_lt (b := 24) h (by decide))]
theorem full8 {l : Nat} (h : l < 12) : fX8_isFull (nI l) = 0 := by
  unfold fX8_isFull
  rw [if_pos (show nI l < 12 from nI_lt (b := 12) h (by decide))]
theorem addL {l : Nat} {fi se cs ow : Nat → Int32} {x y z w : Int32} (h : l < 24) : fX1_addLine (nI l) fi se cs ow x y z w = some (nI (l + 1), upd fi l x, upd se l y, upd cs l w, upd ow l (vp_nar .boolean z)) := by
  unfold fX1_addLine
  rw [full1 h, if_pos rfl, gdI (vkn h (by decide)), nI_clamp (by omega), nI_1]
theorem addS {l : Nat} {wh fr un : Nat → Int32} {x y z : Int32} (h : l < 12) : fX8_add (nI l) wh fr un x y z = some (nI (l + 1), upd wh l x, upd fr l y, upd un l z) := by
  unfold fX8_add
  rw [full8 h, if_pos rfl, gdI (vkn h (by decide)), nI_clamp (by omega), nI_1]
def tLine (a b c : Nat) : Bool → List Nat
  | true => [108, 105, 110, 101, 32, 48 + a, 32, 48 + b, 32, 102, 111, 114, 116, 104, 32, 48 + c, 59]
  | false => [108, 105, 110, 101, 32, 48 + a, 32, 48 + b, 32, 98, 111, 116, 104, 32, 48 + c, 59]
def lLine (f : Bool) : Nat := if f = true then 17 else 16
theorem lw4 : zLen.getD 4 0 = 5 := by decide
theorem lw5 : zLen.getD 5 0 = 4 := by decide
theorem stLine {e a b c np l : Nat} {f : Bool} {co wr nu : Int32} {fi se cs ow : Nat → Int32} (h : hTx n T t) (hL : tAt T e (tLine a b c f)) (hn : e + lLine f ≤ n) (hnp : np ≤ 10) (ha : a < np) (hb : b < np) (hab : a ≠ b) (hc : c ≤ 9) (hl : l < 24) : ∃ k s, fX9_readLine co wr (nI n) 1 (nI e) (nI (e + 4)) nu t (nI np) (nI l) fi se cs ow = some (1, co, wr, k, s, nI (e + lLine f), nI c, nI (l + 1), upd fi l (nI a), upd se l (nI b), upd cs l (nI c), upd ow l (if f = true then 1 else 0)) := by
  have hn5 := h.1
  refine ⟨3, nI (e + lLine f - 1), ?_⟩
  unfold fX9_readLine
  have hp : nI np - 1 = nI (np - 1) := nsub1 (by omega)
  cases f with
  | true =>
    have q : ∀ j, j < 17 → T (e + j) = (tLine a b c true).getD j 0 := fun j hj => hL j hj
    have t4 : T (e + 4) = 32 := q 4 (by decide)
    have t5 : T (e + 5) = 48 + a := q 5 (by decide)
    have t6 : T (e + 6) = 32 := q 6 (by decide)
    have t7 : T (e + 7) = 48 + b := q 7 (by decide)
    have t8 : T (e + 8) = 32 := q 8 (by decide)
    have t9 : T (e + 9) = 102 := q 9 (by decide)
    have t10 : T (e + 10) = 111 := q 10 (by decide)
    have t11 : T (e + 11) = 114 := q 11 (by decide)
    have t12 : T (e + 12) = 116 := q 12 (by decide)
    have t13 : T (e + 13) = 104 := q 13 (by decide)
    have t14 : T (e + 14) = 32 := q 14 (by decide)
    have t15 : T (e + 15) = 48 + c := q 15 (by decide)
    have t16 : T (e + 16) = 59 := q 16 (by decide)
    have hn' : e + 17 ≤ n := hn
    rw [full1 hl, if_pos rfl, hp, show (0 : Int32) = nI 0 from rfl, rdN h t4 t5 t6 (by omega) (by omega) (Or.inl (by decide)) (Nat.zero_le _) (by omega) (by omega), obs]
    dsimp only
    rw [if_neg (show ¬ (1 : Int32) = nI 0 by decide), rdN h t6 t7 t8 (by omega) (by omega) (Or.inl (by decide)) (Nat.zero_le _) (by omega) (by omega), obs]
    dsimp only
    rw [if_neg (show ¬ (1 : Int32) = nI 0 by decide), if_neg (fun z => hab ((nI_eq (by omega) (by omega)).mp z).symm), tokW (w := 5) h (nxS t8 (by omega) (by show 48 ≤ T (e + 9); omega)) (by omega) (by omega) (by omega) (fun i z1 z2 => by
      rcases (show i = e + 9 ∨ i = e + 10 ∨ i = e + 11 ∨ i = e + 12 ∨ i = e + 13 by omega) with rfl | rfl | rfl | rfl | rfl <;> omega) (fun _ => by show T (e + 14) < 97; omega), obs]
    dsimp only
    have hw := isWy (w := 4) (s := e + 9) h (by rw [lw4]; omega) (fun i hi => by
      rw [lw4] at hi
      rcases (show i = 0 ∨ i = 1 ∨ i = 2 ∨ i = 3 ∨ i = 4 by omega) with rfl | rfl | rfl | rfl | rfl
      · rw [Nat.add_zero, t9]; decide
      · rw [t10]; decide
      · rw [t11]; decide
      · rw [t12]; decide
      · rw [t13]; decide)
    rw [lw4] at hw
    rw [hw, obs, if_neg (show ¬ (1 : Int32) = nI 0 by decide)]
    unfold fX9_readLine_b105
    rw [show (0 : Int32) = nI 0 from rfl, show (999 : Int32) = nI 999 from rfl, rdN h t14 t15 t16 (by omega) (by omega) (Or.inr (by decide)) (Nat.zero_le _) (by omega) (by omega), obs]
    dsimp only
    rw [if_neg (show ¬ (1 : Int32) = nI 0 by decide), addL hl, obs]
    dsimp only
    rw [rdSemi h (nx0 (by omega) (by omega)) t16, obs]
    rfl
  | false =>
    have q : ∀ j, j < 16 → T (e + j) = (tLine a b c false).getD j 0 := fun j hj => hL j hj
    have t4 : T (e + 4) = 32 := q 4 (by decide)
    have t5 : T (e + 5) = 48 + a := q 5 (by decide)
    have t6 : T (e + 6) = 32 := q 6 (by decide)
    have t7 : T (e + 7) = 48 + b := q 7 (by decide)
    have t8 : T (e + 8) = 32 := q 8 (by decide)
    have t9 : T (e + 9) = 98 := q 9 (by decide)
    have t10 : T (e + 10) = 111 := q 10 (by decide)
    have t11 : T (e + 11) = 116 := q 11 (by decide)
    have t12 : T (e + 12) = 104 := q 12 (by decide)
    have t13 : T (e + 13) = 32 := q 13 (by decide)
    have t14 : T (e + 14) = 48 + c := q 14 (by decide)
    have t15 : T (e + 15) = 59 := q 15 (by decide)
    have hn' : e + 16 ≤ n := hn
    rw [full1 hl, if_pos rfl, hp, show (0 : Int32) = nI 0 from rfl, rdN h t4 t5 t6 (by omega) (by omega) (Or.inl (by decide)) (Nat.zero_le _) (by omega) (by omega), obs]
    dsimp only
    rw [if_neg (show ¬ (1 : Int32) = nI 0 by decide), rdN h t6 t7 t8 (by omega) (by omega) (Or.inl (by decide)) (Nat.zero_le _) (by omega) (by omega), obs]
    dsimp only
    rw [if_neg (show ¬ (1 : Int32) = nI 0 by decide), if_neg (fun z => hab ((nI_eq (by omega) (by omega)).mp z).symm), tokW (w := 4) h (nxS t8 (by omega) (by show 48 ≤ T (e + 9); omega)) (by omega) (by omega) (by omega) (fun i z1 z2 => by
      rcases (show i = e + 9 ∨ i = e + 10 ∨ i = e + 11 ∨ i = e + 12 by omega) with rfl | rfl | rfl | rfl <;> omega) (fun _ => by show T (e + 13) < 97; omega), obs]
    dsimp only
    have hw := isWy (w := 5) (s := e + 9) h (by rw [lw5]; omega) (fun i hi => by
      rw [lw5] at hi
      rcases (show i = 0 ∨ i = 1 ∨ i = 2 ∨ i = 3 by omega) with rfl | rfl | rfl | rfl
      · rw [Nat.add_zero, t9]; decide
      · rw [t10]; decide
      · rw [t11]; decide
      · rw [t12]; decide)
    rw [lw5] at hw
    rw [isWl (w := 4) (L := 4) (by omega) (by decide) (by decide), obs, if_pos (show (0 : Int32) = nI 0 from rfl), hw, obs, if_neg (show ¬ (1 : Int32) = nI 0 by decide)]
    unfold fX9_readLine_b105
    rw [show (0 : Int32) = nI 0 from rfl, show (999 : Int32) = nI 999 from rfl, rdN h t13 t14 t15 (by omega) (by omega) (Or.inr (by decide)) (Nat.zero_le _) (by omega) (by omega), obs]
    dsimp only
    rw [if_neg (show ¬ (1 : Int32) = nI 0 by decide), addL hl, obs]
    dsimp only
    rw [rdSemi h (nx0 (by omega) (by omega)) t15, obs]
    rfl
/-- three numbers behind a word that ends at e -/
theorem stSpan {e w f u m l : Nat} {co wr nu k0 s0 : Int32} {wh fr un : Nat → Int32} (h : hTx n T t) (t0 : T e = 32) (t1 : T (e + 1) = 48 + w) (t2 : T (e + 2) = 32) (t3 : T (e + 3) = 48 + f) (t4 : T (e + 4) = 32) (t5 : T (e + 5) = 48 + u) (t6 : T (e + 6) = 59) (hn : e + 7 ≤ n) (hm : m ≤ 24) (hw : w < m) (hw9 : w ≤ 9) (hf : 1 ≤ f) (hf9 : f ≤ 9) (hfu : f ≤ u) (hu9 : u ≤ 9) (hl : l < 12) : ∃ k s, fX9_readSpan co wr (nI n) k0 s0 (nI e) nu t (nI l) wh fr un (nI m) = some (1, co, wr, k, s, nI (e + 7), nI u, nI (l + 1), upd wh l (nI w), upd fr l (nI f), upd un l (nI u)) := by
  have hn5 := h.1
  refine ⟨3, nI (e + 6), ?_⟩
  unfold fX9_readSpan
  rw [full8 hl, if_pos rfl, nsub1 (by omega), show (0 : Int32) = nI 0 from rfl, rdN h t0 t1 t2 (by omega) (by omega) (Or.inl (by decide)) (Nat.zero_le _) (by omega) (by omega), obs]
  dsimp only
  rw [if_neg (show ¬ (1 : Int32) = nI 0 by decide), show (1 : Int32) = nI 1 from rfl, show (999 : Int32) = nI 999 from rfl, rdN h t2 t3 t4 (by omega) (by omega) (Or.inl (by decide)) hf (by omega) (by omega), obs]
  dsimp only
  rw [if_neg (show ¬ (1 : Int32) = nI 0 by decide), rdN h t4 t5 t6 (by omega) (by omega) (Or.inr (by decide)) hfu (by omega) (by omega), obs]
  dsimp only
  rw [if_neg (show ¬ (1 : Int32) = nI 0 by decide), addS hl, obs]
  dsimp only
  rw [rdSemi h (nx0 (by omega) (by omega)) t6, obs]
  rfl
end
