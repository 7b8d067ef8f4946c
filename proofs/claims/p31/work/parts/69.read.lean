/-! both readers read the same: words, numbers, semicolons -/
theorem nle_lt {x y : Int32} (h : ¬ x ≤ y) : y < x := by
  rw [Int32.lt_iff_toInt_lt]
  rw [Int32.le_iff_toInt_le] at h
  omega
theorem nlt_le {x y : Int32} (h : ¬ x < y) : y ≤ x := by
  rw [Int32.le_iff_toInt_le]
  rw [Int32.lt_iff_toInt_lt] at h
  omega
theorem le_nlt {x y : Int32} (h : x ≤ y) : ¬ y < x := by
  rw [Int32.lt_iff_toInt_lt]
  rw [Int32.le_iff_toInt_le] at h
  omega
theorem rng {v : Int32} {lo hi : Nat} (hl : lo < 2 ^ 31) (hh : hi < 2 ^ 31) (h1 : ¬ v < nI lo) (h2 : v ≤ nI hi) : ∃ j, lo ≤ j ∧ j ≤ hi ∧ v = nI j := by
  have e1 : (nI lo).toInt = lo := nI_toInt hl
  have e2 : (nI hi).toInt = hi := nI_toInt hh
  rw [Int32.lt_iff_toInt_lt, e1] at h1
  rw [Int32.le_iff_toInt_le, e2] at h2
  refine ⟨v.toInt.toNat, by omega, by omega, ?_⟩
  apply Int32.toInt_inj.mp
  rw [nI_toInt (by omega)]
  omega
theorem rng1 {v : Int32} {m : Nat} (hm : m < 2 ^ 31) (h1 : ¬ v < 0) (h2 : v ≤ nI m - 1) : ∃ j, j < m ∧ v = nI j := by
  rcases Nat.eq_zero_or_pos m with rfl | hp
  · exfalso
    rw [Int32.lt_iff_toInt_lt] at h1
    rw [Int32.le_iff_toInt_le] at h2
    have e1 : (0 : Int32).toInt = 0 := rfl
    have e2 : (nI 0 - 1).toInt = -1 := rfl
    omega
  · rw [nsub1 hp] at h2
    obtain ⟨j, j1, j2, j3⟩ := rng (lo := 0) (hi := m - 1) (by omega) (by omega) h1 h2
    exact ⟨j, by omega, j3⟩
theorem fl0 {s eA c : Int32} : fX11_fails s 0 eA c = (0, c, s) := by
  unfold fX11_fails
  rw [if_pos rfl]
theorem wLen : ∀ w : Nat, w < 6 → 1 ≤ zLen.getD w 0 ∧ zLen.getD w 0 ≤ 6 := by decide
theorem wd_b32 {ss : Int32} {t : Nat → Int32} {w : Nat} : ∀ (g : Nat) (y : Int32), 0 < g → fX11_isWord_b32 ss t w g 0 y = some 0 := by
  intro g y hg
  obtain ⟨g, rfl⟩ : ∃ k, g = k + 1 := ⟨g - 1, by omega⟩
  rw [fX11_isWord_b32_s]
  have e : gb (0 : Int32) (some (0 : Int32)) = some 0 := by
    unfold gb
    rw [if_pos (Or.inl rfl)]
  by_cases c : nI (zLen.getD w 0) ≤ y
  · rw [if_pos c, e]
  · rw [if_neg c, if_pos rfl, e]
theorem wd_loop {s : Nat} {t : Nat → Int32} {w L : Nat} (hL : zLen.getD w 0 = L) (h6 : L ≤ 6) (hs : s + L ≤ 500) : ∀ (f g y : Nat), y ≤ L → L - y < f → L - y + 1 < g → ∃ r : Int32, (r = 0 ∨ r = 1) ∧ fX9_isWord_b28 (nI s) t w f (nI y) = some r ∧ fX11_isWord_b32 (nI s) t w g 1 (nI y) = some r := by
  intro f
  induction f with
  | zero => intro g y h1 h2; omega
  | succ f ih =>
    intro g y h1 h2 h3
    obtain ⟨g, rfl⟩ : ∃ k, g = k + 1 := ⟨g - 1, by omega⟩
    rw [fX9_isWord_b28_s, fX11_isWord_b32_s, hL]
    rcases Nat.lt_or_ge y L with c | c
    · rw [if_neg (nI_ge c (by omega)), if_neg (nI_ge c (by omega)), if_neg (by decide : ¬ (1 : Int32) = 0)]
      rw [gdI (by rw [nI_add]; exact vp_in_nI (by omega) (by decide)), gdI (vp_in_nI c (by omega)), gdI (by rw [nI_add]; exact vp_in_nI (by omega) (by decide)), gdI (vp_in_nI c (by omega))]
      by_cases q : t (nI s + nI y).toNatClampNeg = zCh w (nI y).toNatClampNeg
      · rw [if_pos q, if_pos q, nI_1]
        exact ih g (y + 1) (by omega) (by omega) (by omega)
      · rw [if_neg q, if_neg q]
        exact ⟨0, Or.inl rfl, rfl, wd_b32 g _ (by omega)⟩
    · rw [if_pos (nI_le c (by omega)), if_pos (nI_le c (by omega))]
      refine ⟨1, Or.inr rfl, rfl, ?_⟩
      unfold gb
      rw [if_pos (Or.inr rfl)]
section
variable {n : Nat} {t : Nat → Int32}
theorem wd_eq (hn : n ≤ 500) {k s en w : Nat} (hk : k ≤ 4) (hs : s ≤ en) (he : en ≤ n) (hw : w < 6) : ∃ r : Int32, (r = 0 ∨ r = 1) ∧ fX9_isWord (nI k) (nI s) (nI en) t w = some r ∧ fX11_isWord (nI s) (nI en) (nI k) t w = some r := by
  have hF := FUge
  obtain ⟨w1, w2⟩ := wLen w hw
  unfold fX9_isWord fX11_isWord
  by_cases c : k = 1
  · subst c
    rw [if_pos (show nI 1 = 1 from rfl), if_pos (show nI 1 = 1 from rfl), nsub (a := en) (b := s) rfl rfl hs]
    by_cases c2 : en - s = zLen.getD w 0
    · rw [if_pos (by rw [c2] : nI (en - s) = nI (zLen.getD w 0)), if_pos (by rw [c2] : nI (en - s) = nI (zLen.getD w 0))]
      exact wd_loop rfl w2 (by omega) FU FU 0 (Nat.zero_le _) (by omega) (by omega)
    · have q : ¬ nI (en - s) = nI (zLen.getD w 0) := fun z => c2 (i_eq32 (by omega) (by omega) z)
      rw [if_neg q, if_neg q]
      exact ⟨0, Or.inl rfl, rfl, wd_b32 FU 0 (by omega)⟩
  · have q : ¬ nI k = 1 := fun (z : nI k = 1) => c (i_eq32 (by omega) (by decide) (show nI k = nI 1 from z))
    rw [if_neg q, if_neg q]
    exact ⟨0, Or.inl rfl, rfl, wd_b32 FU 0 (by omega)⟩
def RdF (n : Nat) (t : Nat → Int32) (e k s en : Nat) (v lo hi : Int32) : Prop := ∃ (c : Int32) (q : Int32 → Int32), (c = 1 ∨ c = 3) ∧ (∀ code wr num, fX9_readNumber code wr (nI n) (nI e) num t lo hi = some (0, c, nI s, nI k, nI s, nI en, q num)) ∧ (∀ eA num, fX11_takes (nI n) (nI s) (nI en) (nI k) v 0 eA num t lo hi = some (0, nI s, nI en, nI k, v, c, nI s, num)) ∧ (k = 2 → v < lo ∨ hi < v)
def RdS (n : Nat) (t : Nat → Int32) (e k s en : Nat) (v lo hi : Int32) : Prop := k = 2 ∧ ¬ v < lo ∧ v ≤ hi ∧ (∀ code wr num, fX9_readNumber code wr (nI n) (nI e) num t lo hi = some (1, code, wr, nI 2, nI s, nI en, v)) ∧ ∃ k2 s2 en2 v2, Tok n t en k2 s2 en2 v2 ∧ ∀ eA num, fX11_takes (nI n) (nI s) (nI en) (nI k) v 0 eA num t lo hi = some (1, nI s2, nI en2, nI k2, v2, 0, eA, v)
theorem rd (hn : n ≤ 500) (hB : hBy t) {e k s en : Nat} {v : Int32} (T : Tok n t e k s en v) (lo hi : Int32) : RdF n t e k s en v lo hi ∨ RdS n t e k s en v lo hi := by
  have hF := FUge
  obtain ⟨h1, h2, h3, h4, h5, h6, h7, h8, h9⟩ := T
  by_cases hk : k = 2
  · subst hk
    have hv := h7 rfl
    have hC : ∀ code wr num, fX9_readNumber code wr (nI n) (nI e) num t lo hi = fX9_readNumber_b63 lo hi code wr (nI 2) (nI s) (nI en) v := fun code wr num => by
      unfold fX9_readNumber
      rw [h8, obs, if_pos (show nI 2 = 2 from rfl), hv]
      exact tk_read (by omega) FU s 0 h3 (by omega)
    have bad : (v < lo ∨ hi < v) → RdF n t e 2 s en v lo hi := fun hb => by
      refine ⟨3, fun _ => v, Or.inr rfl, fun code wr num => ?_, fun eA num => ?_, fun _ => hb⟩
      · rw [hC]
        unfold fX9_readNumber_b63
        by_cases c : v < lo
        · rw [if_pos c]
          rfl
        · rcases hb with hb | hb
          · exact absurd hb c
          · rw [if_neg c, if_neg (fun q => le_nlt q hb)]
            rfl
      · unfold fX11_takes
        have hw : fX11_within v lo hi = 0 := by
          unfold fX11_within
          by_cases c : v < lo
          · rw [if_pos c]
          · rcases hb with hb | hb
            · exact absurd hb c
            · rw [if_neg c, if_pos hb]
        rw [if_pos (show nI 2 = 2 from rfl), if_pos hw, fl0]
        rfl
    by_cases c1 : v < lo
    · exact Or.inl (bad (Or.inl c1))
    · by_cases c2 : v ≤ hi
      · refine Or.inr ⟨rfl, c1, c2, fun code wr num => ?_, ?_⟩
        · rw [hC]
          unfold fX9_readNumber_b63
          rw [if_neg c1, if_pos c2]
        · obtain ⟨k2, s2, en2, v2, T2⟩ := tk_tok hn hB h4
          refine ⟨k2, s2, en2, v2, T2, fun eA num => ?_⟩
          obtain ⟨-, -, -, -, -, -, -, -, g9⟩ := T2
          unfold fX11_takes
          have hw : ¬ fX11_within v lo hi = 0 := by
            unfold fX11_within
            rw [if_neg c1, if_neg (le_nlt c2)]
            decide
          rw [if_pos (show nI 2 = 2 from rfl), if_neg hw, g9, obs]
      · exact Or.inl (bad (Or.inr (nle_lt c2)))
  · have q : ¬ nI k = 2 := fun (z : nI k = 2) => hk (i_eq32 (by omega) (by decide) (show nI k = nI 2 from z))
    refine Or.inl ⟨1, fun num => num, Or.inl rfl, fun code wr num => ?_, fun eA num => ?_, fun z => absurd z hk⟩
    · unfold fX9_readNumber
      rw [h8, obs, if_neg q]
      rfl
    · unfold fX11_takes
      rw [if_neg q, fl0]
      rfl
def ScF (n : Nat) (t : Nat → Int32) (e k s en : Nat) (v : Int32) : Prop := (∀ code wr, fX9_readSemicolon code wr (nI n) (nI e) t = some (0, 1, nI s, nI k, nI s, nI en)) ∧ ∀ eA, fX11_closes (nI n) (nI s) (nI en) (nI k) v 0 eA t = some (0, nI s, nI en, nI k, v, 1, nI s, 0)
def ScS (n : Nat) (t : Nat → Int32) (e k s en : Nat) (v : Int32) : Prop := (∀ code wr, fX9_readSemicolon code wr (nI n) (nI e) t = some (1, code, wr, nI 3, nI s, nI en)) ∧ ∃ k2 s2 en2 v2, Tok n t en k2 s2 en2 v2 ∧ e < en ∧ ∀ eA, fX11_closes (nI n) (nI s) (nI en) (nI k) v 0 eA t = some (1, nI s2, nI en2, nI k2, v2, 0, eA, 0)
theorem sc (hn : n ≤ 500) (hB : hBy t) {e k s en : Nat} {v : Int32} (T : Tok n t e k s en v) : ScF n t e k s en v ∨ ScS n t e k s en v := by
  obtain ⟨h1, h2, h3, h4, h5, h6, h7, h8, h9⟩ := T
  by_cases hk : k = 3
  · subst hk
    obtain ⟨k2, s2, en2, v2, T2⟩ := tk_tok hn hB h4
    refine Or.inr ⟨fun code wr => ?_, k2, s2, en2, v2, T2, h5 (by decide), fun eA => ?_⟩
    · unfold fX9_readSemicolon
      rw [h8, obs, if_pos (show nI 3 = 3 from rfl)]
    · obtain ⟨-, -, -, -, -, -, -, -, g9⟩ := T2
      unfold fX11_closes
      rw [if_pos (show nI 3 = 3 from rfl), g9, obs]
  · have q : ¬ nI k = 3 := fun (z : nI k = 3) => hk (i_eq32 (by omega) (by decide) (show nI k = nI 3 from z))
    refine Or.inl ⟨fun code wr => ?_, fun eA => ?_⟩
    · unfold fX9_readSemicolon
      rw [h8, obs, if_neg q]
      rfl
    · unfold fX11_closes
      rw [if_neg q, fl0]
      rfl
theorem stF {s en k v eA why : Int32} : fX11_starts (nI n) s en k v 0 eA t why 0 = some (0, s, en, k, v, why, s) := by
  unfold fX11_starts
  rw [if_pos rfl, fl0]
  rfl
theorem stS (hn : n ≤ 500) (hB : hBy t) {en : Nat} (he : en ≤ n) : ∃ k2 s2 en2 v2, Tok n t en k2 s2 en2 v2 ∧ ∀ (s k v eA why : Int32), fX11_starts (nI n) s (nI en) k v 0 eA t why 1 = some (1, nI s2, nI en2, nI k2, v2, 0, eA) := by
  obtain ⟨k2, s2, en2, v2, T2⟩ := tk_tok hn hB he
  refine ⟨k2, s2, en2, v2, T2, fun s k v eA why => ?_⟩
  obtain ⟨-, -, -, -, -, -, -, -, g9⟩ := T2
  unfold fX11_starts
  rw [if_neg (by decide), g9, obs]
theorem half72 : nI 72 / 2 = nI 36 := by decide
theorem half48 : nI 48 / 2 = nI 24 := by decide
/-- a number put into a row of drafts -/
theorem ptF {N : Nat} {s en k v eA num lo hi x2 c : Int32} {p1 : Nat → Int32} (h : fX11_takes (nI n) s en k v 0 eA num t lo hi = some (0, s, en, k, v, c, s, num)) : fX11_puts N (nI n) s en k v 0 eA num t p1 x2 lo hi = some (0, s, en, k, v, c, s, num, p1) := by
  unfold fX11_puts
  rw [h, obs, if_pos rfl]
theorem ptS {N H j : Nat} {s en k v eA num lo hi s2 en2 k2 v2 x2 : Int32} {p1 : Nat → Int32} (hH : nI N / 2 = nI H) (hx : x2 = nI j) (hj : H + j < N) (hN : N < 100) (h : fX11_takes (nI n) s en k v 0 eA num t lo hi = some (1, s2, en2, k2, v2, 0, eA, v)) : fX11_puts N (nI n) s en k v 0 eA num t p1 x2 lo hi = some (1, s2, en2, k2, v2, 0, eA, v, upd p1 (H + j) v) := by
  unfold fX11_puts
  rw [h, obs, if_neg one0, hH, hx, nI_add, gdI (vp_in_nI hj (by omega)), nI_clamp (by omega)]
end
/-- what both drafts hold -/
def LR (nl np : Nat) (fi se co one other cost : Nat → Int32) : Prop := ∀ j : Nat, j < nl → ∃ a b c : Nat, a < np ∧ b < np ∧ a ≠ b ∧ c ≤ 999 ∧ fi j = nI a ∧ se j = nI b ∧ co j = nI c ∧ one (24 + j) = nI a ∧ other (24 + j) = nI b ∧ cost (24 + j) = nI c
def hLo (N : Nat) (f g : Nat → Int32) : Prop := ∀ j : Nat, j < N → f j = g j
theorem hLo_u {N k : Nat} {f g : Nat → Int32} {x : Int32} (h : hLo N f g) (hk : N ≤ k) : hLo N (upd f k x) g := fun j hj => by
  rw [pk_un (by omega)]
  exact h j hj
theorem hLo_r {N : Nat} {f : Nat → Int32} : hLo N f f := fun _ _ => rfl
def dT (told : Nat → Int32) (np nl nb na : Nat) : Prop := told 4 = nI np ∧ told 5 = nI nl ∧ told 6 = nI nb ∧ told 7 = nI na
theorem full24 {k : Nat} (h : k < 24) : fX1_isFull (nI k) = 0 ∧ ¬ (24 : Int32) ≤ nI k := by
  refine ⟨?_, nI_ge h (by decide)⟩
  unfold fX1_isFull
  rw [if_pos (show nI k < 24 from nI_lt (b := 24) h (by decide))]
theorem full24n {k : Nat} (h : 24 ≤ k) (h2 : k < 100) : ¬ fX1_isFull (nI k) = 0 ∧ (24 : Int32) ≤ nI k := by
  refine ⟨?_, nI_le h (by omega)⟩
  unfold fX1_isFull
  rw [if_neg (show ¬ nI k < 24 from nI_nlt (b := 24) h (by omega))]
  decide
theorem full12 {k : Nat} (h : k < 12) : fX8_isFull (nI k) = 0 ∧ ¬ (12 : Int32) ≤ nI k := by
  refine ⟨?_, nI_ge h (by decide)⟩
  unfold fX8_isFull
  rw [if_pos (show nI k < 12 from nI_lt (b := 12) h (by decide))]
theorem full12n {k : Nat} (h : 12 ≤ k) (h2 : k < 100) : ¬ fX8_isFull (nI k) = 0 ∧ (12 : Int32) ≤ nI k := by
  refine ⟨?_, nI_le h (by omega)⟩
  unfold fX8_isFull
  rw [if_neg (show ¬ nI k < 12 from nI_nlt (b := 12) h (by omega))]
  decide
