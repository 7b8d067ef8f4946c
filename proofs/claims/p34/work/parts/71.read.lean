/-! a text of statements, read whole -/
def catL (g : Nat → List Nat) : Nat → List Nat
  | 0 => []
  | n + 1 => catL g n ++ g n
theorem tAt_app {T : Nat → Nat} {e : Nat} {A B : List Nat} (h : tAt T e (A ++ B)) : tAt T e A ∧ tAt T (e + A.length) B := by
  refine ⟨fun j hj => ?_, fun j hj => ?_⟩
  · rw [h j (by rw [List.length_append]; omega), List.getD_eq_getElem?_getD, List.getD_eq_getElem?_getD, List.getElem?_append_left hj]
  · rw [Nat.add_assoc, h (A.length + j) (by rw [List.length_append]; omega), List.getD_eq_getElem?_getD, List.getD_eq_getElem?_getD, List.getElem?_append_right (by omega), Nat.add_sub_cancel_left]
theorem catL_le (g : Nat → List Nat) : ∀ n l, l ≤ n → (catL g l).length ≤ (catL g n).length := by
  intro n
  induction n with
  | zero => intro l hl; rw [Nat.le_zero.mp hl]; exact Nat.le_refl _
  | succ n ih =>
    intro l hl
    by_cases e : l = n + 1
    · rw [e]; exact Nat.le_refl _
    · refine Nat.le_trans (ih l (by omega)) ?_
      show _ ≤ (catL g n ++ g n).length
      rw [List.length_append]
      omega
theorem catL_at {T : Nat → Nat} {e : Nat} {g : Nat → List Nat} : ∀ n l, l < n → tAt T e (catL g n) → tAt T (e + (catL g l).length) (g l) := by
  intro n
  induction n with
  | zero => intro l hl; omega
  | succ n ih =>
    intro l hl h
    have h2 := tAt_app (A := catL g n) (B := g n) h
    by_cases c : l = n
    · rw [c]; exact h2.2
    · exact ih l (by omega) h2.1
theorem tLine_len {a b c : Nat} {f : Bool} : (tLine a b c f).length = lLine f := by cases f <;> rfl
theorem rdLines {n e np nl : Nat} {T : Nat → Nat} {t : Nat → Int32} {a b c : Nat → Nat} {fw : Nat → Bool} {bh co wr : Int32} {bc : Int32} {bw bf bu : Nat → Int32} {ac : Int32} {aw af au : Nat → Int32} (hT : hTx n T t) (hL : tAt T e (catL (fun l => tLine (a l) (b l) (c l) (fw l)) nl)) (hn : e + (catL (fun l => tLine (a l) (b l) (c l) (fw l)) nl).length ≤ n) (hnp : np ≤ 7) (hnl : nl ≤ 8) (hE : ∀ l, l < nl → a l < np ∧ b l < np ∧ a l ≠ b l ∧ c l ≤ 9) :
    ∀ d l, l + d = nl → ∀ (f : Nat) (k0 s0 nu : Int32) (fi se cs ow : Nat → Int32), (∀ i, i < l → fi i = nI (a i) ∧ se i = nI (b i) ∧ cs i = nI (c i) ∧ ow i = if fw i = true then 1 else 0) → ∃ (k1 s1 nu1 : Int32) (fi1 se1 cs1 ow1 : Nat → Int32), (∀ i, i < nl → fi1 i = nI (a i) ∧ se1 i = nI (b i) ∧ cs1 i = nI (c i) ∧ ow1 i = if fw i = true then 1 else 0) ∧ fX9_readExchange_b41 t (f + d) (nI (1 + l)) bh co wr (nI n) k0 s0 (nI (e + (catL (fun l => tLine (a l) (b l) (c l) (fw l)) l).length)) nu (nI np) (nI l) fi se cs ow bc bw bf bu ac aw af au = fX9_readExchange_b41 t f (nI (1 + nl)) bh co wr (nI n) k1 s1 (nI (e + (catL (fun l => tLine (a l) (b l) (c l) (fw l)) nl).length)) nu1 (nI np) (nI nl) fi1 se1 cs1 ow1 bc bw bf bu ac aw af au := by
  intro d
  induction d with
  | zero =>
    intro l h f k0 s0 nu fi se cs ow hi
    have e1 : l = nl := by omega
    subst e1
    exact ⟨k0, s0, nu, fi, se, cs, ow, hi, rfl⟩
  | succ d ih =>
    intro l h f k0 s0 nu fi se cs ow hi
    have hl : l < nl := by omega
    obtain ⟨h1, h2, h3, h4⟩ := hE l hl
    have hA := catL_at nl l hl hL
    have hle := catL_le (fun l => tLine (a l) (b l) (c l) (fw l)) nl (l + 1) (by omega)
    have e2 : (catL (fun l => tLine (a l) (b l) (c l) (fw l)) (l + 1)).length = (catL (fun l => tLine (a l) (b l) (c l) (fw l)) l).length + lLine (fw l) := by
      show (catL _ l ++ tLine (a l) (b l) (c l) (fw l)).length = _
      rw [List.length_append, tLine_len]
    have hn2 : e + (catL (fun l => tLine (a l) (b l) (c l) (fw l)) l).length + lLine (fw l) ≤ n := by omega
    obtain ⟨k, s, hs⟩ := rsLine (co := co) (wr := wr) (nu := nu) (fi := fi) (se := se) (cs := cs) (ow := ow) (bc := bc) (bw := bw) (bf := bf) (bu := bu) (ac := ac) (aw := aw) (af := af) (au := au) (l := l) hA hT hn2 (Nat.le_trans hnp (by decide)) h1 h2 h3 h4 (by omega)
    obtain ⟨k1, s1, nu1, fi1, se1, cs1, ow1, g1, g2⟩ := ih (l + 1) (by omega) f k s (nI (c l)) (upd fi l (nI (a l))) (upd se l (nI (b l))) (upd cs l (nI (c l))) (upd ow l (if fw l = true then 1 else 0)) (fun i hil => by
      by_cases c1 : i = l
      · subst c1
        rw [pk_us, pk_us, pk_us, pk_us]
        exact ⟨rfl, rfl, rfl, rfl⟩
      · rw [pk_un c1, pk_un c1, pk_un c1, pk_un c1]
        exact hi i (by omega))
    refine ⟨k1, s1, nu1, fi1, se1, cs1, ow1, g1, ?_⟩
    rw [← g2, e2, ← Nat.add_assoc, ← Nat.add_assoc, ← Nat.add_assoc]
    exact ex41 (y := 1 + l) (by omega) (ws1 hA hT hn2).1 (by rw [if_neg (by omega)]; exact hs)
theorem rdBreaks {n e np nl nb : Nat} {T : Nat → Nat} {t : Nat → Int32} {wb fb ub : Nat → Nat} {bh co wr : Int32} {fi se cs ow : Nat → Int32} {ac : Int32} {aw af au : Nat → Int32} {y0 : Nat} (hT : hTx n T t) (hL : tAt T e (catL (fun l => tBroken (wb l) (fb l) (ub l)) nb)) (hn : e + (catL (fun l => tBroken (wb l) (fb l) (ub l)) nb).length ≤ n) (hnl : nl ≤ 8) (hnb : nb ≤ 12) (hy0 : 1 ≤ y0) (hy : y0 < 400) (hE : ∀ l, l < nb → wb l < nl ∧ 1 ≤ fb l ∧ fb l ≤ ub l ∧ ub l ≤ 9) :
    ∀ d l, l + d = nb → ∀ (f : Nat) (k0 s0 nu : Int32) (bw bf bu : Nat → Int32), (∀ i, i < l → bw i = nI (wb i) ∧ bf i = nI (fb i) ∧ bu i = nI (ub i)) → ∃ (k1 s1 nu1 : Int32) (bw1 bf1 bu1 : Nat → Int32), (∀ i, i < nb → bw1 i = nI (wb i) ∧ bf1 i = nI (fb i) ∧ bu1 i = nI (ub i)) ∧ fX9_readExchange_b41 t (f + d) (nI (y0 + l)) bh co wr (nI n) k0 s0 (nI (e + (catL (fun l => tBroken (wb l) (fb l) (ub l)) l).length)) nu (nI np) (nI nl) fi se cs ow (nI l) bw bf bu ac aw af au = fX9_readExchange_b41 t f (nI (y0 + nb)) bh co wr (nI n) k1 s1 (nI (e + (catL (fun l => tBroken (wb l) (fb l) (ub l)) nb).length)) nu1 (nI np) (nI nl) fi se cs ow (nI nb) bw1 bf1 bu1 ac aw af au := by
  intro d
  induction d with
  | zero =>
    intro l h f k0 s0 nu bw bf bu hi
    have e1 : l = nb := by omega
    subst e1
    exact ⟨k0, s0, nu, bw, bf, bu, hi, rfl⟩
  | succ d ih =>
    intro l h f k0 s0 nu bw bf bu hi
    have hl : l < nb := by omega
    obtain ⟨h1, h2, h3, h4⟩ := hE l hl
    have hA := catL_at nb l hl hL
    have hle := catL_le (fun l => tBroken (wb l) (fb l) (ub l)) nb (l + 1) (by omega)
    have e2 : (catL (fun l => tBroken (wb l) (fb l) (ub l)) (l + 1)).length = (catL (fun l => tBroken (wb l) (fb l) (ub l)) l).length + 13 := by
      show (catL _ l ++ tBroken (wb l) (fb l) (ub l)).length = _
      rw [List.length_append]
      rfl
    have hn2 : e + (catL (fun l => tBroken (wb l) (fb l) (ub l)) l).length + 13 ≤ n := by omega
    obtain ⟨k, s, hs⟩ := rsBroken (co := co) (wr := wr) (nu := nu) (fi := fi) (se := se) (cs := cs) (ow := ow) (bw := bw) (bf := bf) (bu := bu) (ac := ac) (aw := aw) (af := af) (au := au) (np := np) (j := l) hA hT hn2 (show nl ≤ 24 by omega) h1 (by omega) h2 (by omega) h3 h4 (by omega)
    obtain ⟨k1, s1, nu1, bw1, bf1, bu1, g1, g2⟩ := ih (l + 1) (by omega) f k s (nI (ub l)) (upd bw l (nI (wb l))) (upd bf l (nI (fb l))) (upd bu l (nI (ub l))) (fun i hil => by
      by_cases c1 : i = l
      · subst c1
        rw [pk_us, pk_us, pk_us]
        exact ⟨rfl, rfl, rfl⟩
      · rw [pk_un c1, pk_un c1, pk_un c1]
        exact hi i (by omega))
    refine ⟨k1, s1, nu1, bw1, bf1, bu1, g1, ?_⟩
    rw [← g2, e2, ← Nat.add_assoc, ← Nat.add_assoc, ← Nat.add_assoc]
    exact ex41 (y := y0 + l) (by omega) (ws2 hA hT hn2).1 (by rw [if_neg (by omega)]; exact hs)
theorem rdAways {n e np na : Nat} {T : Nat → Nat} {t : Nat → Int32} {wb fb ub : Nat → Nat} {bh co wr lc bc : Int32} {fi se cs ow bw bf bu : Nat → Int32} {y0 : Nat} (hT : hTx n T t) (hL : tAt T e (catL (fun l => tAway (wb l) (fb l) (ub l)) na)) (hn : e + (catL (fun l => tAway (wb l) (fb l) (ub l)) na).length ≤ n) (hnp : np ≤ 7) (hna : na ≤ 12) (hy0 : 1 ≤ y0) (hy : y0 < 400) (hE : ∀ l, l < na → wb l < np ∧ 1 ≤ fb l ∧ fb l ≤ ub l ∧ ub l ≤ 9) :
    ∀ d l, l + d = na → ∀ (f : Nat) (k0 s0 nu : Int32) (aw af au : Nat → Int32), (∀ i, i < l → aw i = nI (wb i) ∧ af i = nI (fb i) ∧ au i = nI (ub i)) → ∃ (k1 s1 nu1 : Int32) (aw1 af1 au1 : Nat → Int32), (∀ i, i < na → aw1 i = nI (wb i) ∧ af1 i = nI (fb i) ∧ au1 i = nI (ub i)) ∧ fX9_readExchange_b41 t (f + d) (nI (y0 + l)) bh co wr (nI n) k0 s0 (nI (e + (catL (fun l => tAway (wb l) (fb l) (ub l)) l).length)) nu (nI np) lc fi se cs ow bc bw bf bu (nI l) aw af au = fX9_readExchange_b41 t f (nI (y0 + na)) bh co wr (nI n) k1 s1 (nI (e + (catL (fun l => tAway (wb l) (fb l) (ub l)) na).length)) nu1 (nI np) lc fi se cs ow bc bw bf bu (nI na) aw1 af1 au1 := by
  intro d
  induction d with
  | zero =>
    intro l h f k0 s0 nu aw af au hi
    have e1 : l = na := by omega
    subst e1
    exact ⟨k0, s0, nu, aw, af, au, hi, rfl⟩
  | succ d ih =>
    intro l h f k0 s0 nu aw af au hi
    have hl : l < na := by omega
    obtain ⟨h1, h2, h3, h4⟩ := hE l hl
    have hA := catL_at na l hl hL
    have hle := catL_le (fun l => tAway (wb l) (fb l) (ub l)) na (l + 1) (by omega)
    have e2 : (catL (fun l => tAway (wb l) (fb l) (ub l)) (l + 1)).length = (catL (fun l => tAway (wb l) (fb l) (ub l)) l).length + 11 := by
      show (catL _ l ++ tAway (wb l) (fb l) (ub l)).length = _
      rw [List.length_append]
      rfl
    have hn2 : e + (catL (fun l => tAway (wb l) (fb l) (ub l)) l).length + 11 ≤ n := by omega
    obtain ⟨k, s, hs⟩ := rsAway (co := co) (wr := wr) (nu := nu) (lc := lc) (fi := fi) (se := se) (cs := cs) (ow := ow) (bc := bc) (bw := bw) (bf := bf) (bu := bu) (aw := aw) (af := af) (au := au) (np := np) (j := l) hA hT hn2 (by omega) h1 h2 (by omega) h3 h4 (by omega)
    obtain ⟨k1, s1, nu1, aw1, af1, au1, g1, g2⟩ := ih (l + 1) (by omega) f k s (nI (ub l)) (upd aw l (nI (wb l))) (upd af l (nI (fb l))) (upd au l (nI (ub l))) (fun i hil => by
      by_cases c1 : i = l
      · subst c1
        rw [pk_us, pk_us, pk_us]
        exact ⟨rfl, rfl, rfl⟩
      · rw [pk_un c1, pk_un c1, pk_un c1]
        exact hi i (by omega))
    refine ⟨k1, s1, nu1, aw1, af1, au1, g1, ?_⟩
    rw [← g2, e2, ← Nat.add_assoc, ← Nat.add_assoc, ← Nat.add_assoc]
    exact ex41 (y := y0 + l) (by omega) (ws3 hA hT hn2).1 (by rw [if_neg (by omega)]; exact hs)
