/-! tokens of a text that is known letter by letter -/
section
variable {n : Nat} {T : Nat → Nat} {t : Nat → Int32}
def hTx (n : Nat) (T : Nat → Nat) (t : Nat → Int32) : Prop := n ≤ 499 ∧ ∀ i, i < n → T i < 128 ∧ t i = nI (T i)
theorem skipA {e : Nat} (h : hTx n T t) (he : e < n) (h1 : T e ≠ 32) (h2 : T e ≠ 10) : fX9_skipSeparators (nI n) (nI e) t = some (nI e, nI e) := by
  obtain ⟨q1, q2⟩ := h.2 e he
  have hn := h.1
  unfold fX9_skipSeparators
  obtain ⟨g, hg⟩ : ∃ g, FU = g + 1 := ⟨FU - 1, by have := FUge; omega⟩
  rw [hg, fX9_skipSeparators_b8_s, if_neg (nI_ge he (by omega)), gdI (vkn (by omega) (by decide)), nI_clamp (by omega), q2, if_neg (show ¬ nI (T e) = 32 from fun z => h1 ((nI_eq (a := T e) (b := 32) (by omega) (by decide)).mp z)), if_neg (show ¬ nI (T e) = 10 from fun z => h2 ((nI_eq (a := T e) (b := 10) (by omega) (by decide)).mp z))]
  rfl
theorem skipB {e : Nat} (h : hTx n T t) (he : e + 1 < n) (h0 : T e = 32) (h1 : T (e + 1) ≠ 32) (h2 : T (e + 1) ≠ 10) : fX9_skipSeparators (nI n) (nI e) t = some (nI (e + 1), nI (e + 1)) := by
  obtain ⟨q1, q2⟩ := h.2 e (by omega)
  obtain ⟨q3, q4⟩ := h.2 (e + 1) he
  have hn := h.1
  unfold fX9_skipSeparators
  obtain ⟨g, hg⟩ : ∃ g, FU = g + 1 + 1 := ⟨FU - 2, by have := FUge; omega⟩
  rw [hg, fX9_skipSeparators_b8_s, if_neg (nI_ge (show e < n by omega) (by omega)), gdI (vkn (by omega) (by decide)), nI_clamp (by omega), q2, h0, if_pos (show nI 32 = 32 from rfl)]
  unfold fX9_skipSeparators_b47
  rw [nI_1, fX9_skipSeparators_b8_s, if_neg (nI_ge he (by omega)), gdI (vkn (by omega) (by decide)), nI_clamp (by omega), q4, if_neg (show ¬ nI (T (e + 1)) = 32 from fun z => h1 ((nI_eq (a := T (e + 1)) (b := 32) (by omega) (by decide)).mp z)), if_neg (show ¬ nI (T (e + 1)) = 10 from fun z => h2 ((nI_eq (a := T (e + 1)) (b := 10) (by omega) (by decide)).mp z))]
  rfl
theorem skipE (hn : n ≤ 499) : fX9_skipSeparators (nI n) (nI n) t = some (nI n, nI n) := by
  unfold fX9_skipSeparators
  obtain ⟨g, hg⟩ : ∃ g, FU = g + 1 := ⟨FU - 1, by have := FUge; omega⟩
  rw [hg, fX9_skipSeparators_b8_s, if_pos (nI_le (Nat.le_refl _) (by omega))]
  rfl
theorem run0 {s w lo hi : Nat} (h : hTx n T t) (hlo : lo < 128) (hhi : hi < 128) (hw : s + w ≤ n) (h1 : ∀ i, s ≤ i → i < s + w → lo ≤ T i ∧ T i ≤ hi) (h2 : s + w < n → T (s + w) < lo ∨ hi < T (s + w)) : ∀ (f j : Nat), j ≤ w → w - j < f → fX9_takeRun_b0 (nI n) (nI s) t (nI lo) (nI hi) f (nI (s + j)) = some (if w = 0 then 0 else 1, nI (s + w)) := by
  have hn := h.1
  have fin : fX9_takeRun_b50 (nI s) (nI (s + w)) = some (if w = 0 then 0 else 1, nI (s + w)) := by
    unfold fX9_takeRun_b50
    by_cases c : w = 0
    · rw [if_pos c, if_pos (nI_le (by omega) (by omega))]
    · rw [if_neg c, if_neg (nI_ge (by omega) (by omega))]
  intro f
  induction f with
  | zero => intro j q1 q2; omega
  | succ f ih =>
    intro j q1 q2
    rw [fX9_takeRun_b0_s]
    by_cases c : s + j = n
    · have e : j = w := by omega
      rw [c, if_pos (nI_le (Nat.le_refl _) (by omega)), ← c, e]
      exact fin
    · obtain ⟨r1, r2⟩ := h.2 (s + j) (by omega)
      rw [if_neg (nI_ge (by omega) (by omega)), gdI (vkn (by omega) (by decide)), nI_clamp (by omega), r2]
      by_cases d : j = w
      · rw [d] at r1 ⊢
        rcases h2 (by omega) with z | z
        · rw [if_pos (nI_lt z (by omega))]
          exact fin
        · by_cases z2 : T (s + w) < lo
          · rw [if_pos (nI_lt z2 (by omega))]
            exact fin
          · rw [if_neg (nI_nlt (by omega) (by omega)), if_pos (nI_lt z (by omega))]
            exact fin
      · obtain ⟨z1, z2⟩ := h1 (s + j) (by omega) (by omega)
        rw [if_neg (nI_nlt (by omega) (by omega)), if_neg (nI_nlt (by omega) (by omega)), nI_1]
        exact ih (j + 1) (by omega) (by omega)
theorem runV {s w lo hi : Nat} (h : hTx n T t) (hlo : lo < 128) (hhi : hi < 128) (hw : s + w ≤ n) (h1 : ∀ i, s ≤ i → i < s + w → lo ≤ T i ∧ T i ≤ hi) (h2 : s + w < n → T (s + w) < lo ∨ hi < T (s + w)) : fX9_takeRun (nI n) (nI s) (nI s) t (nI lo) (nI hi) = some (if w = 0 then 0 else 1, nI (s + w)) := by
  unfold fX9_takeRun
  exact run0 h hlo hhi hw h1 h2 FU 0 (Nat.zero_le _) (by have := FUge; have := h.1; omega)
/-- where the next token begins -/
def nx (n : Nat) (T : Nat → Nat) (e s : Nat) : Prop := s < n ∧ T s ≠ 32 ∧ T s ≠ 10 ∧ (s = e ∨ (s = e + 1 ∧ T e = 32))
theorem skipV {e s : Nat} (h : hTx n T t) (hs : nx n T e s) : fX9_skipSeparators (nI n) (nI e) t = some (nI s, nI s) := by
  obtain ⟨h1, h2, h3, h4 | ⟨h4, h5⟩⟩ := hs
  · rw [← h4]
    exact skipA h h1 h2 h3
  · rw [h4] at h1 h2 h3 ⊢
    exact skipB h h1 h5 h2 h3
theorem nsubT {x y : Nat} (h : y ≤ x) : nI x - nI y = nI (x - y) := nsub rfl rfl h
theorem tokW {e s w : Nat} (h : hTx n T t) (hs : nx n T e s) (hw1 : 1 ≤ w) (hw8 : w ≤ 8) (hw : s + w ≤ n) (h1 : ∀ i, s ≤ i → i < s + w → 97 ≤ T i ∧ T i ≤ 122) (h2 : s + w < n → T (s + w) < 97) : fX9_nextToken (nI n) (nI e) t = some (1, nI s, nI (s + w)) := by
  have hn := h.1
  unfold fX9_nextToken
  rw [skipV h hs, obs, if_pos (nI_lt hs.1 (by omega)), show (97 : Int32) = nI 97 from rfl, show (122 : Int32) = nI 122 from rfl, runV h (by decide) (by decide) hw h1 (fun z => Or.inl (h2 z)), obs, if_neg (show ¬ w = 0 by omega), if_neg one0, nsubT (by omega), if_neg (show ¬ (8 : Int32) < nI (s + w - s) from nI_nlt (a := 8) (by omega) (by omega))]
  rfl
theorem tokN {e s : Nat} (h : hTx n T t) (hs : nx n T e s) (h1 : 48 ≤ T s ∧ T s ≤ 57) (h2 : s + 1 < n → T (s + 1) < 48 ∨ 57 < T (s + 1)) : fX9_nextToken (nI n) (nI e) t = some (2, nI s, nI (s + 1)) := by
  have hn := h.1
  have hsn := hs.1
  unfold fX9_nextToken
  rw [skipV h hs, obs, if_pos (nI_lt hs.1 (by omega)), show (97 : Int32) = nI 97 from rfl, show (122 : Int32) = nI 122 from rfl, runV (w := 0) h (by decide) (by decide) (by omega) (fun i z1 z2 => by omega) (fun _ => Or.inl (by rw [Nat.add_zero]; omega)), obs, if_pos rfl, if_pos rfl, show (48 : Int32) = nI 48 from rfl, show (57 : Int32) = nI 57 from rfl]
  rw [Nat.add_zero, runV (w := 1) h (by decide) (by decide) (by omega) (fun i z1 z2 => by rw [show i = s by omega]; exact h1) h2, obs, if_neg (show ¬ 1 = 0 by decide), if_neg one0, nsubT (by omega), if_neg (show ¬ (4 : Int32) < nI (s + 1 - s) from nI_nlt (a := 4) (by omega) (by omega))]
  rfl
theorem tokS {e s : Nat} (h : hTx n T t) (hs : nx n T e s) (h1 : T s = 59) : fX9_nextToken (nI n) (nI e) t = some (3, nI s, nI (s + 1)) := by
  have hn := h.1
  have hsn := hs.1
  obtain ⟨q1, q2⟩ := h.2 s hsn
  unfold fX9_nextToken
  rw [skipV h hs, obs, if_pos (nI_lt hs.1 (by omega)), show (97 : Int32) = nI 97 from rfl, show (122 : Int32) = nI 122 from rfl, runV (w := 0) h (by decide) (by decide) (by omega) (fun i z1 z2 => by omega) (fun _ => Or.inl (by rw [Nat.add_zero]; omega)), obs, if_pos rfl, if_pos rfl, show (48 : Int32) = nI 48 from rfl, show (57 : Int32) = nI 57 from rfl]
  rw [Nat.add_zero, runV (w := 0) h (by decide) (by decide) (by omega) (fun i z1 z2 => by omega) (fun _ => Or.inr (by rw [Nat.add_zero]; omega)), obs, if_pos rfl, if_pos rfl, gdI (vkn (by omega) (by decide)), nI_clamp (by omega), q2, h1, if_pos (show nI 59 = 59 from rfl)]
  unfold fX9_nextToken_b116
  rw [nI_1]
theorem tokE (hn : n ≤ 499) : fX9_nextToken (nI n) (nI n) t = some (0, nI n, nI n) := by
  unfold fX9_nextToken
  rw [skipE hn, obs, if_neg (nI_nlt (Nat.le_refl _) (by omega))]
/-- a number of one digit -/
theorem rdNum {e s d lo hi : Nat} {co wr nu : Int32} (h : hTx n T t) (hs : nx n T e s) (hd : d ≤ 9) (h1 : T s = 48 + d) (h2 : s + 1 < n → T (s + 1) < 48 ∨ 57 < T (s + 1)) (hlo : lo ≤ d) (hhi : d ≤ hi) (hh : hi < 2000) : fX9_readNumber co wr (nI n) (nI e) nu t (nI lo) (nI hi) = some (1, co, wr, 2, nI s, nI (s + 1), nI d) := by
  have hn := h.1
  have hsn := hs.1
  obtain ⟨q1, q2⟩ := h.2 s hsn
  unfold fX9_readNumber
  rw [tokN h hs (by omega) h2, obs, if_pos rfl]
  obtain ⟨g, hg⟩ : ∃ g, FU = g + 1 + 1 := ⟨FU - 2, by have := FUge; omega⟩
  rw [hg, fX9_readNumber_b28_s, if_neg (nI_ge (by omega) (by omega)), gdI (vkn (by omega) (by decide)), nI_clamp (by omega), q2, h1, nI_1, fX9_readNumber_b28_s, if_pos (nI_le (Nat.le_refl _) (by omega))]
  have e : (0 : Int32) * 10 + nI (48 + d) - 48 = nI d := by
    rw [show (0 : Int32) * 10 = nI 0 from rfl, nI_add, show (48 : Int32) = nI 48 from rfl, nsubT (by omega), show 0 + (48 + d) - 48 = d by omega]
  rw [e]
  unfold fX9_readNumber_b63
  rw [if_neg (nI_nlt hlo (by omega)), if_pos (nI_le hhi (by omega))]
theorem rdSemi {e s : Nat} {co wr : Int32} (h : hTx n T t) (hs : nx n T e s) (h1 : T s = 59) : fX9_readSemicolon co wr (nI n) (nI e) t = some (1, co, wr, 3, nI s, nI (s + 1)) := by
  unfold fX9_readSemicolon
  rw [tokS h hs h1, obs, if_pos rfl]
theorem isW28 {s w : Nat} (h : hTx n T t) (hw : s + zLen.getD w 0 ≤ n) (h1 : ∀ i, i < zLen.getD w 0 → nI (T (s + i)) = zCh w i) : ∀ (f i : Nat), i ≤ zLen.getD w 0 → zLen.getD w 0 - i < f → fX9_isWord_b28 (nI s) t w f (nI i) = some 1 := by
  have hn := h.1
  intro f
  induction f with
  | zero => intro i q1 q2; omega
  | succ f ih =>
    intro i q1 q2
    rw [fX9_isWord_b28_s]
    rcases Nat.lt_or_ge i (zLen.getD w 0) with d | d
    · obtain ⟨r1, r2⟩ := h.2 (s + i) (by omega)
      rw [if_neg (nI_ge d (by omega)), nI_add, gdI (vkn (by omega) (by decide)), gdI (vkn d (by omega)), nI_clamp (by omega), nI_clamp (by omega), r2, if_pos (h1 i d), nI_1]
      exact ih (i + 1) (by omega) (by omega)
    · rw [if_pos (nI_le d (by omega))]
theorem isWy {s w : Nat} (h : hTx n T t) (hw : s + zLen.getD w 0 ≤ n) (h1 : ∀ i, i < zLen.getD w 0 → nI (T (s + i)) = zCh w i) : fX9_isWord 1 (nI s) (nI (s + zLen.getD w 0)) t w = some 1 := by
  unfold fX9_isWord
  rw [if_pos rfl, nsubT (by omega), show s + zLen.getD w 0 - s = zLen.getD w 0 by omega, if_pos rfl]
  exact isW28 h hw h1 FU 0 (Nat.zero_le _) (by have := FUge; have := h.1; omega)
theorem isWl {s w L : Nat} (hn : s + L < 1000) (hl : zLen.getD w 0 < 100) (h1 : L ≠ zLen.getD w 0) : fX9_isWord 1 (nI s) (nI (s + L)) t w = some 0 := by
  unfold fX9_isWord
  rw [if_pos rfl, nsubT (by omega), show s + L - s = L by omega, if_neg (fun z => h1 ((nI_eq (by omega) (by omega)).mp z))]
theorem isWf {s w : Nat} (h : hTx n T t) (hw : s + zLen.getD w 0 ≤ n) (hl : 1 ≤ zLen.getD w 0) (h1 : nI (T s) ≠ zCh w 0) : fX9_isWord 1 (nI s) (nI (s + zLen.getD w 0)) t w = some 0 := by
  have hn := h.1
  obtain ⟨r1, r2⟩ := h.2 s (by omega)
  unfold fX9_isWord
  rw [if_pos rfl, nsubT (by omega), show s + zLen.getD w 0 - s = zLen.getD w 0 by omega, if_pos rfl]
  obtain ⟨g, hg⟩ : ∃ g, FU = g + 1 := ⟨FU - 1, by have := FUge; omega⟩
  rw [hg, fX9_isWord_b28_s, if_neg (show ¬ nI (zLen.getD w 0) ≤ 0 from nI_ge (b := zLen.getD w 0) (a := 0) (by omega) (by omega)), show nI s + 0 = nI s from by rw [show (0 : Int32) = nI 0 from rfl, nI_add, Nat.add_zero], gdI (vkn (by omega) (by decide)), gdI (show vp_in 0 (zLen.getD w 0) from vkn (k := 0) (by omega) (by omega)), nI_clamp (by omega), r2, if_neg (show ¬ nI (T s) = zCh w (0 : Int32).toNatClampNeg from h1)]
end
