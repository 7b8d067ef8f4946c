/-! the whole text, statement by statement -/
section
variable {n : Nat} {T : Nat → Nat} {t : Nat → Int32}
theorem lw0 : zLen.getD 0 0 = 6 := by decide
theorem lw1 : zLen.getD 1 0 = 4 := by decide
theorem lw2 : zLen.getD 2 0 = 6 := by decide
theorem lw3 : zLen.getD 3 0 = 4 := by decide
def tPeople (p : Nat) : List Nat := [112, 101, 111, 112, 108, 101, 32, 48 + p, 59]
def tBroken (w f u : Nat) : List Nat := [98, 114, 111, 107, 101, 110, 32, 48 + w, 32, 48 + f, 32, 48 + u, 59]
def tAway (w f u : Nat) : List Nat := [97, 119, 97, 121, 32, 48 + w, 32, 48 + f, 32, 48 + u, 59]
/-- one statement more -/
theorem ex41 {f y e e1 e2 : Nat} {bh co wr k0 s0 nu k1 s1 nu1 : Int32} {pe lc : Int32} {fi se cs ow : Nat → Int32} {bc : Int32} {bw bf bu : Nat → Int32} {ac : Int32} {aw af au : Nat → Int32} {pe' lc' : Int32} {fi' se' cs' ow' : Nat → Int32} {bc' : Int32} {bw' bf' bu' : Nat → Int32} {ac' : Int32} {aw' af' au' : Nat → Int32} {sp : Int32} (hy : y < 500) (h1 : fX9_nextToken (nI n) (nI e) t = some (1, sp, nI e1)) (h2 : fX9_readStatement co wr (nI n) 1 sp (nI e1) nu t pe lc fi se cs ow bc bw bf bu ac aw af au (if y = 0 then 1 else 0) = some (1, co, wr, k1, s1, nI e2, nu1, pe', lc', fi', se', cs', ow', bc', bw', bf', bu', ac', aw', af', au')) : fX9_readExchange_b41 t (f + 1) (nI y) bh co wr (nI n) k0 s0 (nI e) nu pe lc fi se cs ow bc bw bf bu ac aw af au = fX9_readExchange_b41 t f (nI (y + 1)) bh co wr (nI n) k1 s1 (nI e2) nu1 pe' lc' fi' se' cs' ow' bc' bw' bf' bu' ac' aw' af' au' := by
  rw [fX9_readExchange_b41_s, if_neg (show ¬ (500 : Int32) ≤ nI y from nI_ge (b := 500) hy (by decide)), h1, obs]
  dsimp only
  rw [if_neg one0]
  unfold fX9_readExchange_b69
  by_cases c : y = 0
  · subst c
    rw [if_pos (show nI 0 = 0 from rfl)]
    rw [if_pos rfl] at h2
    rw [h2, obs]
    dsimp only
    rw [if_neg one0, nI_1]
  · rw [if_neg (show ¬ nI y = 0 from fun z => c ((nI_eq (a := y) (b := 0) (by omega) (by decide)).mp z))]
    rw [if_neg c] at h2
    rw [h2, obs]
    dsimp only
    rw [if_neg one0, nI_1]
theorem ws0 {e : Nat} {p : Nat} (h : tAt T e (tPeople p)) (hT : hTx n T t) (hn : e + 9 ≤ n) : fX9_nextToken (nI n) (nI e) t = some (1, nI e, nI (e + 6)) ∧ fX9_isWord 1 (nI e) (nI (e + 6)) t 0 = some 1 := by
  have hn5 := hT.1
  have q : ∀ j, j < 9 → T (e + j) = (tPeople p).getD j 0 := fun j hj => h j hj
  have t0 : T (e + 0) = 112 := q 0 (by decide)
  have t1 : T (e + 1) = 101 := q 1 (by decide)
  have t2 : T (e + 2) = 111 := q 2 (by decide)
  have t3 : T (e + 3) = 112 := q 3 (by decide)
  have t4 : T (e + 4) = 108 := q 4 (by decide)
  have t5 : T (e + 5) = 101 := q 5 (by decide)
  have t6 : T (e + 6) = 32 := q 6 (by decide)
  rw [Nat.add_zero] at t0
  refine ⟨tokW (w := 6) hT (nx0 (by omega) (by omega)) (by omega) (by omega) (by omega) (fun i z1 z2 => by
    rcases (show i = e ∨ i = e + 1 ∨ i = e + 2 ∨ i = e + 3 ∨ i = e + 4 ∨ i = e + 5 by omega) with rfl | rfl | rfl | rfl | rfl | rfl <;> omega) (fun _ => by omega), ?_⟩
  have hw := isWy (w := 0) (s := e) hT (by rw [lw0]; omega) (fun i hi => by
    rw [lw0] at hi
    rcases (show i = 0 ∨ i = 1 ∨ i = 2 ∨ i = 3 ∨ i = 4 ∨ i = 5 by omega) with rfl | rfl | rfl | rfl | rfl | rfl
    · rw [Nat.add_zero, t0]; decide
    · rw [t1]; decide
    · rw [t2]; decide
    · rw [t3]; decide
    · rw [t4]; decide
    · rw [t5]; decide)
  rw [lw0] at hw
  exact hw
theorem ws1 {e a b c : Nat} {f : Bool} (h : tAt T e (tLine a b c f)) (hT : hTx n T t) (hn : e + lLine f ≤ n) : fX9_nextToken (nI n) (nI e) t = some (1, nI e, nI (e + 4)) ∧ fX9_isWord 1 (nI e) (nI (e + 4)) t 0 = some 0 ∧ fX9_isWord 1 (nI e) (nI (e + 4)) t 1 = some 1 := by
  have hn5 := hT.1
  have hl : 16 ≤ lLine f ∧ 16 ≤ (tLine a b c f).length := by cases f <;> exact ⟨Nat.le_of_ble_eq_true rfl, Nat.le_of_ble_eq_true rfl⟩
  have q : ∀ j, j < 16 → T (e + j) = (tLine a b c f).getD j 0 := fun j hj => h j (by omega)
  have t0 : T (e + 0) = 108 := by rw [q 0 (by decide)]; cases f <;> rfl
  have t1 : T (e + 1) = 105 := by rw [q 1 (by decide)]; cases f <;> rfl
  have t2 : T (e + 2) = 110 := by rw [q 2 (by decide)]; cases f <;> rfl
  have t3 : T (e + 3) = 101 := by rw [q 3 (by decide)]; cases f <;> rfl
  have t4 : T (e + 4) = 32 := by rw [q 4 (by decide)]; cases f <;> rfl
  rw [Nat.add_zero] at t0
  refine ⟨tokW (w := 4) hT (nx0 (by omega) (by omega)) (by omega) (by omega) (by omega) (fun i z1 z2 => by
    rcases (show i = e ∨ i = e + 1 ∨ i = e + 2 ∨ i = e + 3 by omega) with rfl | rfl | rfl | rfl <;> omega) (fun _ => by omega), isWl (L := 4) (by omega) (by decide) (by decide), ?_⟩
  have hw := isWy (w := 1) (s := e) hT (by rw [lw1]; omega) (fun i hi => by
    rw [lw1] at hi
    rcases (show i = 0 ∨ i = 1 ∨ i = 2 ∨ i = 3 by omega) with rfl | rfl | rfl | rfl
    · rw [Nat.add_zero, t0]; decide
    · rw [t1]; decide
    · rw [t2]; decide
    · rw [t3]; decide)
  rw [lw1] at hw
  exact hw
theorem ws2 {e w f u : Nat} (h : tAt T e (tBroken w f u)) (hT : hTx n T t) (hn : e + 13 ≤ n) : fX9_nextToken (nI n) (nI e) t = some (1, nI e, nI (e + 6)) ∧ fX9_isWord 1 (nI e) (nI (e + 6)) t 0 = some 0 ∧ fX9_isWord 1 (nI e) (nI (e + 6)) t 1 = some 0 ∧ fX9_isWord 1 (nI e) (nI (e + 6)) t 2 = some 1 := by
  have hn5 := hT.1
  have q : ∀ j, j < 13 → T (e + j) = (tBroken w f u).getD j 0 := fun j hj => h j hj
  have t0 : T (e + 0) = 98 := q 0 (by decide)
  have t1 : T (e + 1) = 114 := q 1 (by decide)
  have t2 : T (e + 2) = 111 := q 2 (by decide)
  have t3 : T (e + 3) = 107 := q 3 (by decide)
  have t4 : T (e + 4) = 101 := q 4 (by decide)
  have t5 : T (e + 5) = 110 := q 5 (by decide)
  have t6 : T (e + 6) = 32 := q 6 (by decide)
  rw [Nat.add_zero] at t0
  have hw0 := isWf (w := 0) (s := e) hT (by rw [lw0]; omega) (by decide) (by rw [t0]; decide)
  rw [lw0] at hw0
  refine ⟨tokW (w := 6) hT (nx0 (by omega) (by omega)) (by omega) (by omega) (by omega) (fun i z1 z2 => by
    rcases (show i = e ∨ i = e + 1 ∨ i = e + 2 ∨ i = e + 3 ∨ i = e + 4 ∨ i = e + 5 by omega) with rfl | rfl | rfl | rfl | rfl | rfl <;> omega) (fun _ => by omega), hw0, isWl (L := 6) (by omega) (by decide) (by decide), ?_⟩
  have hw := isWy (w := 2) (s := e) hT (by rw [lw2]; omega) (fun i hi => by
    rw [lw2] at hi
    rcases (show i = 0 ∨ i = 1 ∨ i = 2 ∨ i = 3 ∨ i = 4 ∨ i = 5 by omega) with rfl | rfl | rfl | rfl | rfl | rfl
    · rw [Nat.add_zero, t0]; decide
    · rw [t1]; decide
    · rw [t2]; decide
    · rw [t3]; decide
    · rw [t4]; decide
    · rw [t5]; decide)
  rw [lw2] at hw
  exact hw
theorem ws3 {e w f u : Nat} (h : tAt T e (tAway w f u)) (hT : hTx n T t) (hn : e + 11 ≤ n) : fX9_nextToken (nI n) (nI e) t = some (1, nI e, nI (e + 4)) ∧ fX9_isWord 1 (nI e) (nI (e + 4)) t 0 = some 0 ∧ fX9_isWord 1 (nI e) (nI (e + 4)) t 1 = some 0 ∧ fX9_isWord 1 (nI e) (nI (e + 4)) t 2 = some 0 ∧ fX9_isWord 1 (nI e) (nI (e + 4)) t 3 = some 1 := by
  have hn5 := hT.1
  have q : ∀ j, j < 11 → T (e + j) = (tAway w f u).getD j 0 := fun j hj => h j hj
  have t0 : T (e + 0) = 97 := q 0 (by decide)
  have t1 : T (e + 1) = 119 := q 1 (by decide)
  have t2 : T (e + 2) = 97 := q 2 (by decide)
  have t3 : T (e + 3) = 121 := q 3 (by decide)
  have t4 : T (e + 4) = 32 := q 4 (by decide)
  rw [Nat.add_zero] at t0
  have hw1 := isWf (w := 1) (s := e) hT (by rw [lw1]; omega) (by decide) (by rw [t0]; decide)
  rw [lw1] at hw1
  refine ⟨tokW (w := 4) hT (nx0 (by omega) (by omega)) (by omega) (by omega) (by omega) (fun i z1 z2 => by
    rcases (show i = e ∨ i = e + 1 ∨ i = e + 2 ∨ i = e + 3 by omega) with rfl | rfl | rfl | rfl <;> omega) (fun _ => by omega), isWl (L := 4) (by omega) (by decide) (by decide), hw1, isWl (L := 4) (by omega) (by decide) (by decide), ?_⟩
  have hw := isWy (w := 3) (s := e) hT (by rw [lw3]; omega) (fun i hi => by
    rw [lw3] at hi
    rcases (show i = 0 ∨ i = 1 ∨ i = 2 ∨ i = 3 by omega) with rfl | rfl | rfl | rfl
    · rw [Nat.add_zero, t0]; decide
    · rw [t1]; decide
    · rw [t2]; decide
    · rw [t3]; decide)
  rw [lw3] at hw
  exact hw
theorem rsPeople {e p : Nat} {co wr nu pe lc : Int32} {fi se cs ow : Nat → Int32} {bc : Int32} {bw bf bu : Nat → Int32} {ac : Int32} {aw af au : Nat → Int32} (h : tAt T e (tPeople p)) (hT : hTx n T t) (hn : e + 9 ≤ n) (hp : 2 ≤ p) (hp9 : p ≤ 9) : ∃ k s, fX9_readStatement co wr (nI n) 1 (nI e) (nI (e + 6)) nu t pe lc fi se cs ow bc bw bf bu ac aw af au 1 = some (1, co, wr, k, s, nI (e + 9), nI p, nI p, lc, fi, se, cs, ow, bc, bw, bf, bu, ac, aw, af, au) := by
  have hn5 := hT.1
  have q : ∀ j, j < 9 → T (e + j) = (tPeople p).getD j 0 := fun j hj => h j hj
  have t6 : T (e + 6) = 32 := q 6 (by decide)
  have t7 : T (e + 7) = 48 + p := q 7 (by decide)
  have t8 : T (e + 8) = 59 := q 8 (by decide)
  refine ⟨3, nI (e + 8), ?_⟩
  unfold fX9_readStatement
  rw [(ws0 h hT hn).2, obs, if_neg one0]
  unfold fX9_readPeople
  rw [if_neg one0, show (2 : Int32) = nI 2 from rfl, show (10 : Int32) = nI 10 from rfl, rdN hT t6 t7 t8 (by omega) hp9 (Or.inr (by decide)) hp (by omega) (by omega), obs]
  dsimp only
  rw [if_neg one0, rdSemi hT (nx0 (by omega) (by omega)) t8, obs]
  rfl
theorem rsLine {e a b c np l : Nat} {f : Bool} {co wr nu : Int32} {fi se cs ow : Nat → Int32} {bc : Int32} {bw bf bu : Nat → Int32} {ac : Int32} {aw af au : Nat → Int32} (h : tAt T e (tLine a b c f)) (hT : hTx n T t) (hn : e + lLine f ≤ n) (hnp : np ≤ 10) (ha : a < np) (hb : b < np) (hab : a ≠ b) (hc : c ≤ 9) (hl : l < 24) : ∃ k s, fX9_readStatement co wr (nI n) 1 (nI e) (nI (e + 4)) nu t (nI np) (nI l) fi se cs ow bc bw bf bu ac aw af au 0 = some (1, co, wr, k, s, nI (e + lLine f), nI c, nI np, nI (l + 1), upd fi l (nI a), upd se l (nI b), upd cs l (nI c), upd ow l (if f = true then 1 else 0), bc, bw, bf, bu, ac, aw, af, au) := by
  obtain ⟨k, s, hs⟩ := stLine (co := co) (wr := wr) (nu := nu) (fi := fi) (se := se) (cs := cs) (ow := ow) hT h hn hnp ha hb hab hc hl
  refine ⟨k, s, ?_⟩
  obtain ⟨w1, w2, w3⟩ := ws1 h hT hn
  unfold fX9_readStatement
  rw [w2, obs, if_pos rfl, w3, obs, if_neg one0, hs, obs]
theorem rsBroken {e w f u np l j : Nat} {co wr nu : Int32} {fi se cs ow bw bf bu : Nat → Int32} {ac : Int32} {aw af au : Nat → Int32} (h : tAt T e (tBroken w f u)) (hT : hTx n T t) (hn : e + 13 ≤ n) (hm : l ≤ 24) (hw : w < l) (hw9 : w ≤ 9) (hf : 1 ≤ f) (hf9 : f ≤ 9) (hfu : f ≤ u) (hu9 : u ≤ 9) (hj : j < 12) : ∃ k s, fX9_readStatement co wr (nI n) 1 (nI e) (nI (e + 6)) nu t (nI np) (nI l) fi se cs ow (nI j) bw bf bu ac aw af au 0 = some (1, co, wr, k, s, nI (e + 13), nI u, nI np, nI l, fi, se, cs, ow, nI (j + 1), upd bw j (nI w), upd bf j (nI f), upd bu j (nI u), ac, aw, af, au) := by
  have q : ∀ j, j < 13 → T (e + j) = (tBroken w f u).getD j 0 := fun j hj => h j hj
  obtain ⟨k, s, hs⟩ := stSpan (e := e + 6) (co := co) (wr := wr) (nu := nu) (k0 := 1) (s0 := nI e) (wh := bw) (fr := bf) (un := bu) hT (q 6 (by decide)) (q 7 (by decide)) (q 8 (by decide)) (q 9 (by decide)) (q 10 (by decide)) (q 11 (by decide)) (q 12 (by decide)) (by omega) hm hw hw9 hf hf9 hfu hu9 hj
  refine ⟨k, s, ?_⟩
  obtain ⟨w1, w2, w3, w4⟩ := ws2 h hT hn
  unfold fX9_readStatement
  rw [w2, obs, if_pos rfl, w3, obs, if_pos rfl, w4, obs, if_neg one0, hs, obs]
theorem rsAway {e w f u np j : Nat} {co wr nu lc : Int32} {fi se cs ow : Nat → Int32} {bc : Int32} {bw bf bu aw af au : Nat → Int32} (h : tAt T e (tAway w f u)) (hT : hTx n T t) (hn : e + 11 ≤ n) (hm : np ≤ 10) (hw : w < np) (hf : 1 ≤ f) (hf9 : f ≤ 9) (hfu : f ≤ u) (hu9 : u ≤ 9) (hj : j < 12) : ∃ k s, fX9_readStatement co wr (nI n) 1 (nI e) (nI (e + 4)) nu t (nI np) lc fi se cs ow bc bw bf bu (nI j) aw af au 0 = some (1, co, wr, k, s, nI (e + 11), nI u, nI np, lc, fi, se, cs, ow, bc, bw, bf, bu, nI (j + 1), upd aw j (nI w), upd af j (nI f), upd au j (nI u)) := by
  have q : ∀ j, j < 11 → T (e + j) = (tAway w f u).getD j 0 := fun j hj => h j hj
  obtain ⟨k, s, hs⟩ := stSpan (e := e + 4) (co := co) (wr := wr) (nu := nu) (k0 := 1) (s0 := nI e) (wh := aw) (fr := af) (un := au) hT (q 4 (by decide)) (q 5 (by decide)) (q 6 (by decide)) (q 7 (by decide)) (q 8 (by decide)) (q 9 (by decide)) (q 10 (by decide)) (by omega) (by omega) hw (by omega) hf hf9 hfu hu9 hj
  refine ⟨k, s, ?_⟩
  obtain ⟨w1, w2, w3, w4, w5⟩ := ws3 h hT hn
  unfold fX9_readStatement
  rw [w2, obs, if_pos rfl, w3, obs, if_pos rfl, w4, obs, if_pos rfl, w5, obs, if_neg one0, hs, obs]
end
