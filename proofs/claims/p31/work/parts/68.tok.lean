/-! both readers take the same tokens -/
def vC (b : Nat) : Int32 := nI b - 128
def hBy (t : Nat → Int32) : Prop := ∀ k : Nat, ∃ b : Nat, b < 256 ∧ t k = vC b
theorem by32 : ∀ b : Nat, b < 256 → ((vC b &&& 255) = 32 ↔ vC b = 32) := by decide +kernel
theorem by10 : ∀ b : Nat, b < 256 → ((vC b &&& 255) = 10 ↔ vC b = 10) := by decide +kernel
theorem by59 : ∀ b : Nat, b < 256 → ((vC b &&& 255) = 59 ↔ vC b = 59) := by decide +kernel
theorem byM : ∀ b : Nat, b < 256 → ¬ (vC b &&& 255) = (-1) := by decide +kernel
theorem byW : ∀ b : Nat, b < 256 → (fX11_within (vC b &&& 255) 97 122 = 0 ↔ (vC b < 97 ∨ 122 < vC b)) := by decide +kernel
theorem byN : ∀ b : Nat, b < 256 → (fX11_within (vC b &&& 255) 48 57 = 0 ↔ (vC b < 48 ∨ 57 < vC b)) := by decide +kernel
theorem byV : ∀ b : Nat, b < 256 → fX11_within (vC b &&& 255) 48 57 = 0 ∨ (vC b &&& 255) = vC b := by decide +kernel
section
variable {n : Nat} {t : Nat → Int32}
theorem tk_at (hn : n ≤ 500) {e : Nat} (h : e < n) : fX11_byteAt (nI n) t (nI e) = some (t e &&& 255) := by
  unfold fX11_byteAt
  rw [if_neg (nI_ge h (by omega)), gdI (vp_in_nI (by omega) (by decide)), nI_clamp (by omega)]
theorem tk_end (hn : n ≤ 500) : fX11_byteAt (nI n) t (nI n) = some (-1) := by
  unfold fX11_byteAt
  rw [if_pos (nI_le (Nat.le_refl _) (by omega))]
theorem tk_skip (hn : n ≤ 500) (hB : hBy t) : ∀ (f g e : Nat) (en : Int32), e ≤ n → n - e < f → n - e < g → ∃ s, e ≤ s ∧ s ≤ n ∧ fX9_skipSeparators_b8 (nI n) t f (nI e) en = some (nI s, nI s) ∧ ∀ st tk v, fX11_advance_b0 (nI n) t g st (nI e) tk v = fX11_advance_b39 (nI n) t (nI s) tk := by
  intro f
  induction f with
  | zero => intro g e en h1 h2; omega
  | succ f ih =>
    intro g e en h1 h2 h3
    obtain ⟨g, rfl⟩ : ∃ k, g = k + 1 := ⟨g - 1, by omega⟩
    rcases Nat.lt_or_ge e n with c | c
    · obtain ⟨b, b1, b2⟩ := hB e
      have hb := tk_at (t := t) hn c
      rw [fX9_skipSeparators_b8_s, if_neg (nI_ge c (by omega)), gdI (vp_in_nI (by omega) (by decide)), nI_clamp (by omega)]
      by_cases c1 : t e = 32
      · obtain ⟨s, s1, s2, s3, s4⟩ := ih g (e + 1) en (by omega) (by omega) (by omega)
        refine ⟨s, by omega, s2, ?_, fun st tk v => ?_⟩
        · rw [if_pos c1]
          unfold fX9_skipSeparators_b47
          rw [nI_1]
          exact s3
        · rw [fX11_advance_b0_s, hb, obs, if_pos (by rw [b2] at c1 ⊢; exact (by32 b b1).mpr c1)]
          unfold fX11_advance_b26
          rw [nI_1]
          exact s4 st tk v
      · by_cases c2 : t e = 10
        · obtain ⟨s, s1, s2, s3, s4⟩ := ih g (e + 1) en (by omega) (by omega) (by omega)
          refine ⟨s, by omega, s2, ?_, fun st tk v => ?_⟩
          · rw [if_neg c1, if_pos c2]
            unfold fX9_skipSeparators_b47
            rw [nI_1]
            exact s3
          · rw [fX11_advance_b0_s, hb, obs, if_neg (by rw [b2] at c1 ⊢; exact fun q => c1 ((by32 b b1).mp q)), obs, if_pos (by rw [b2] at c2 ⊢; exact (by10 b b1).mpr c2)]
            unfold fX11_advance_b26
            rw [nI_1]
            exact s4 st tk v
        · refine ⟨e, Nat.le_refl _, h1, ?_, fun st tk v => ?_⟩
          · rw [if_neg c1, if_neg c2]
            rfl
          · rw [fX11_advance_b0_s, hb, obs, if_neg (by rw [b2] at c1 ⊢; exact fun q => c1 ((by32 b b1).mp q)), obs, if_neg (by rw [b2] at c2 ⊢; exact fun q => c2 ((by10 b b1).mp q))]
    · have e0 : e = n := by omega
      subst e0
      refine ⟨e, Nat.le_refl _, h1, ?_, fun st tk v => ?_⟩
      · rw [fX9_skipSeparators_b8_s, if_pos (nI_le (Nat.le_refl _) (by omega))]
        rfl
      · rw [fX11_advance_b0_s, tk_end hn, obs, if_neg (by decide), obs, if_neg (by decide)]
theorem tk_word (hn : n ≤ 500) (hB : hBy t) : ∀ (f g e : Nat), e ≤ n → n - e < f → n - e < g → ∃ en, e ≤ en ∧ en ≤ n ∧ (∀ s, fX9_takeRun_b0 (nI n) s t 97 122 f (nI e) = fX9_takeRun_b50 s (nI en)) ∧ (∀ st tk v, fX11_advance_b85 (nI n) t g st (nI e) tk v = fX11_advance_b116 st (nI en) v) ∧ (e < n → ¬ fX11_within (t e &&& 255) 97 122 = 0 → e < en) ∧ (e = n ∨ fX11_within (t e &&& 255) 97 122 = 0 → en = e) := by
  intro f
  induction f with
  | zero => intro g e h1 h2; omega
  | succ f ih =>
    intro g e h1 h2 h3
    obtain ⟨g, rfl⟩ : ∃ k, g = k + 1 := ⟨g - 1, by omega⟩
    rcases Nat.lt_or_ge e n with c | c
    · obtain ⟨b, b1, b2⟩ := hB e
      have hb := tk_at (t := t) hn c
      by_cases c1 : fX11_within (t e &&& 255) 97 122 = 0
      · refine ⟨e, Nat.le_refl _, h1, fun s => ?_, fun st tk v => ?_, fun _ q => absurd c1 q, fun _ => rfl⟩
        · rw [fX9_takeRun_b0_s, if_neg (nI_ge c (by omega)), gdI (vp_in_nI (by omega) (by decide)), nI_clamp (by omega)]
          have q := c1
          rw [b2] at q ⊢
          rcases (byW b b1).mp q with q | q
          · rw [if_pos q]
          · by_cases q2 : vC b < 97
            · rw [if_pos q2]
            · rw [if_neg q2, if_pos q]
        · rw [fX11_advance_b85_s, hb, obs, if_pos c1]
      · obtain ⟨en, s1, s2, s3, s4, _⟩ := ih g (e + 1) (by omega) (by omega) (by omega)
        refine ⟨en, by omega, s2, fun s => ?_, fun st tk v => ?_, fun _ _ => by omega, fun q => ?_⟩
        · rw [fX9_takeRun_b0_s, if_neg (nI_ge c (by omega)), gdI (vp_in_nI (by omega) (by decide)), nI_clamp (by omega)]
          have q := c1
          rw [b2] at q
          rw [if_neg (by rw [b2]; exact fun z => q ((byW b b1).mpr (Or.inl z))), if_neg (by rw [b2]; exact fun z => q ((byW b b1).mpr (Or.inr z))), nI_1]
          exact s3 s
        · rw [fX11_advance_b85_s, hb, obs, if_neg c1, nI_1]
          exact s4 st tk v
        · rcases q with q | q
          · omega
          · exact absurd q c1
    · have e0 : e = n := by omega
      subst e0
      refine ⟨e, Nat.le_refl _, h1, fun s => ?_, fun st tk v => ?_, fun q _ => absurd q (Nat.lt_irrefl _), fun _ => rfl⟩
      · rw [fX9_takeRun_b0_s, if_pos (nI_le (Nat.le_refl _) (by omega))]
      · rw [fX11_advance_b85_s, tk_end hn, obs, if_pos (by decide)]
/-- a number's value, as the class reads it, and as the reference does (four digits at most count) -/
def cv (t : Nat → Int32) : Nat → Nat → Int32 → Int32
  | _, 0, v => v
  | e, k + 1, v => cv t (e + 1) k (((v * 10) + t e) - 48)
def mv (t : Nat → Int32) (st : Nat) : Nat → Nat → Int32 → Int32
  | _, 0, v => v
  | e, k + 1, v => mv t st (e + 1) k (if 4 ≤ e - st then v else ((10 * v) + t e) - 48)
theorem cv_mv {st : Nat} : ∀ (k e : Nat) (v : Int32), e + k ≤ st + 4 → mv t st e k v = cv t e k v
  | 0, _, _, _ => rfl
  | k + 1, e, v, h => by
    show mv t st (e + 1) k (if 4 ≤ e - st then v else ((10 * v) + t e) - 48) = cv t (e + 1) k (((v * 10) + t e) - 48)
    rw [if_neg (by omega), Int32.mul_comm]
    exact cv_mv k (e + 1) _ (by omega)
theorem tk_num (hn : n ≤ 500) (hB : hBy t) : ∀ (f g e : Nat), e ≤ n → n - e < f → n - e < g → ∃ en, e ≤ en ∧ en ≤ n ∧ (∀ s, fX9_takeRun_b0 (nI n) s t 48 57 f (nI e) = fX9_takeRun_b50 s (nI en)) ∧ (∀ (st : Nat) (tk v : Int32), st ≤ e → fX11_advance_b153 (nI n) t g (nI st) (nI e) tk v = fX11_advance_b227 (nI st) (nI en) (mv t st e (en - e) v)) ∧ (e < n → ¬ fX11_within (t e &&& 255) 48 57 = 0 → e < en) ∧ (e = n ∨ fX11_within (t e &&& 255) 48 57 = 0 → en = e) := by
  intro f
  induction f with
  | zero => intro g e h1 h2; omega
  | succ f ih =>
    intro g e h1 h2 h3
    obtain ⟨g, rfl⟩ : ∃ k, g = k + 1 := ⟨g - 1, by omega⟩
    rcases Nat.lt_or_ge e n with c | c
    · obtain ⟨b, b1, b2⟩ := hB e
      have hb := tk_at (t := t) hn c
      by_cases c1 : fX11_within (t e &&& 255) 48 57 = 0
      · refine ⟨e, Nat.le_refl _, h1, fun s => ?_, fun st tk v _ => ?_, fun _ q => absurd c1 q, fun _ => rfl⟩
        · rw [fX9_takeRun_b0_s, if_neg (nI_ge c (by omega)), gdI (vp_in_nI (by omega) (by decide)), nI_clamp (by omega)]
          have q := c1
          rw [b2] at q ⊢
          rcases (byN b b1).mp q with q | q
          · rw [if_pos q]
          · by_cases q2 : vC b < 48
            · rw [if_pos q2]
            · rw [if_neg q2, if_pos q]
        · rw [fX11_advance_b153_s, hb, obs, if_pos c1, Nat.sub_self]
          rfl
      · obtain ⟨en, s1, s2, s3, s4, _⟩ := ih g (e + 1) (by omega) (by omega) (by omega)
        refine ⟨en, by omega, s2, fun s => ?_, fun st tk v hst => ?_, fun _ _ => by omega, fun q => ?_⟩
        · rw [fX9_takeRun_b0_s, if_neg (nI_ge c (by omega)), gdI (vp_in_nI (by omega) (by decide)), nI_clamp (by omega)]
          have q := c1
          rw [b2] at q
          rw [if_neg (by rw [b2]; exact fun z => q ((byN b b1).mpr (Or.inl z))), if_neg (by rw [b2]; exact fun z => q ((byN b b1).mpr (Or.inr z))), nI_1]
          exact s3 s
        · have hv : (t e &&& 255) = t e := by
            rw [b2] at c1 ⊢
            rcases byV b b1 with z | z
            · exact absurd z c1
            · exact z
          have s5 := s4 st tk (if 4 ≤ e - st then v else ((10 * v) + t e) - 48) (by omega)
          have e3 : en - e = (en - (e + 1)) + 1 := by omega
          rw [e3]
          show _ = fX11_advance_b227 (nI st) (nI en) (mv t st (e + 1) (en - (e + 1)) (if 4 ≤ e - st then v else ((10 * v) + t e) - 48))
          rw [← s5, fX11_advance_b153_s, hb, obs, if_neg c1, obs, nsub (a := e) (b := st) rfl rfl hst]
          by_cases q : 4 ≤ e - st
          · rw [if_pos (show (4 : Int32) ≤ nI (e - st) from nI_le (a := 4) q (by omega)), if_pos q]
            unfold fX11_advance_b211
            rw [nI_1]
          · rw [if_neg (show ¬ (4 : Int32) ≤ nI (e - st) from nI_ge (b := 4) (by omega) (by omega)), if_neg q, hv]
            unfold fX11_advance_b211
            rw [nI_1]
        · rcases q with q | q
          · omega
          · exact absurd q c1
    · have e0 : e = n := by omega
      subst e0
      refine ⟨e, Nat.le_refl _, h1, fun s => ?_, fun st tk v _ => ?_, fun q _ => absurd q (Nat.lt_irrefl _), fun _ => rfl⟩
      · rw [fX9_takeRun_b0_s, if_pos (nI_le (Nat.le_refl _) (by omega))]
      · rw [fX11_advance_b153_s, tk_end hn, obs, if_pos (by decide), Nat.sub_self]
        rfl
/-- the token behind a place, and what the reference keeps of it -/
def Tok (n : Nat) (t : Nat → Int32) (e k s en : Nat) (v : Int32) : Prop := k ≤ 4 ∧ e ≤ s ∧ s ≤ en ∧ en ≤ n ∧ (k ≠ 0 → e < en) ∧ (k = 1 → s < en ∧ en ≤ s + 8) ∧ (k = 2 → v = cv t s (en - s) 0) ∧ fX9_nextToken (nI n) (nI e) t = some (nI k, nI s, nI en) ∧ (∀ st tk v0, fX11_advance (nI n) st (nI e) tk v0 t = some (nI s, nI en, nI k, v))
theorem run_e {s en : Nat} (h : s = en) (hl : en < 2 ^ 31) : fX9_takeRun_b50 (nI s) (nI en) = some (0, nI en) := by
  unfold fX9_takeRun_b50
  rw [if_pos (nI_le (by omega) (by omega))]
theorem run_p {s en : Nat} (h : s < en) (hl : en < 2 ^ 31) : fX9_takeRun_b50 (nI s) (nI en) = some (1, nI en) := by
  unfold fX9_takeRun_b50
  rw [if_neg (nI_ge h hl)]
theorem tk_tok (hn : n ≤ 500) (hB : hBy t) {e : Nat} (he : e ≤ n) : ∃ k s en v, Tok n t e k s en v := by
  obtain ⟨s, s1, s2, s3, s4⟩ := tk_skip hn hB FU FU e (nI e) he (by have := FUge; omega) (by have := FUge; omega)
  have hA : ∀ st tk v0, fX11_advance (nI n) st (nI e) tk v0 t = fX11_advance_b39 (nI n) t (nI s) tk := fun st tk v0 => by
    unfold fX11_advance
    exact s4 st tk v0
  have hS : fX9_skipSeparators (nI n) (nI e) t = some (nI s, nI s) := by
    unfold fX9_skipSeparators
    exact s3
  rcases Nat.lt_or_ge s n with c | c
  · obtain ⟨b, b1, b2⟩ := hB s
    have hb := tk_at (t := t) hn c
    have hm : ¬ (t s &&& 255) = (-1) := by rw [b2]; exact byM b b1
    obtain ⟨en, w1, w2, w3, w4, w5, w6⟩ := tk_word hn hB FU FU s s2 (by have := FUge; omega) (by have := FUge; omega)
    by_cases c1 : fX11_within (t s &&& 255) 97 122 = 0
    · have e1 := w6 (Or.inr c1)
      subst e1
      obtain ⟨em, m1, m2, m3, m4, m5, m6⟩ := tk_num hn hB FU FU en s2 (by have := FUge; omega) (by have := FUge; omega)
      by_cases c2 : fX11_within (t en &&& 255) 48 57 = 0
      · have e2 := m6 (Or.inr c2)
        subst e2
        by_cases c3 : t em = 59
        · refine ⟨3, em, em + 1, 0, by omega, s1, by omega, by omega, fun _ => by omega, fun q => absurd q (by decide), fun q => absurd q (by decide), ?_, fun st tk v0 => ?_⟩
          · unfold fX9_nextToken fX9_takeRun
            rw [hS, obs, if_pos (nI_lt c (by omega)), w3, run_e rfl (by omega), obs, if_pos rfl, m3, run_e rfl (by omega), obs, if_pos rfl, gdI (vp_in_nI (by omega) (by decide)), nI_clamp (by omega), if_pos c3]
            unfold fX9_nextToken_b116
            rw [nI_1]
            rfl
          · rw [hA]
            unfold fX11_advance_b39
            rw [hb, obs, if_neg hm, if_pos c1, if_pos c2, if_pos (by rw [b2] at c3 ⊢; exact (by59 b b1).mpr c3)]
            unfold fX11_advance_b274
            rw [nI_1]
            rfl
        · refine ⟨4, em, em + 1, 0, by omega, s1, by omega, by omega, fun _ => by omega, fun q => absurd q (by decide), fun q => absurd q (by decide), ?_, fun st tk v0 => ?_⟩
          · unfold fX9_nextToken fX9_takeRun
            rw [hS, obs, if_pos (nI_lt c (by omega)), w3, run_e rfl (by omega), obs, if_pos rfl, m3, run_e rfl (by omega), obs, if_pos rfl, gdI (vp_in_nI (by omega) (by decide)), nI_clamp (by omega), if_neg c3]
            unfold fX9_nextToken_b116
            rw [nI_1]
            rfl
          · rw [hA]
            unfold fX11_advance_b39
            rw [hb, obs, if_neg hm, if_pos c1, if_pos c2, if_neg (by rw [b2] at c3 ⊢; exact fun q => c3 ((by59 b b1).mp q))]
            unfold fX11_advance_b274
            rw [nI_1]
            rfl
      · have e2 := m5 c c2
        by_cases c3 : 4 < em - en
        · refine ⟨4, en, em, mv t en en (em - en) 0, by omega, s1, by omega, m2, fun _ => by omega, fun q => absurd q (by decide), fun q => absurd q (by decide), ?_, fun st tk v0 => ?_⟩
          · unfold fX9_nextToken fX9_takeRun
            rw [hS, obs, if_pos (nI_lt c (by omega)), w3, run_e rfl (by omega), obs, if_pos rfl, m3, run_p e2 (by omega), obs, if_neg one0, nsub (a := em) (b := en) rfl rfl m1, if_pos (show (4 : Int32) < nI (em - en) from nI_lt (a := 4) c3 (by omega))]
            rfl
          · rw [hA]
            unfold fX11_advance_b39
            rw [hb, obs, if_neg hm, if_pos c1, if_neg c2, m4 en _ _ (Nat.le_refl _)]
            unfold fX11_advance_b227 fX11_advance_b246
            rw [nsub (a := em) (b := en) rfl rfl m1, if_neg (show ¬ nI (em - en) ≤ (4 : Int32) from nI_ge (a := 4) c3 (by omega))]
            rfl
        · refine ⟨2, en, em, mv t en en (em - en) 0, by omega, s1, by omega, m2, fun _ => by omega, fun q => absurd q (by decide), fun _ => cv_mv _ _ _ (by omega), ?_, fun st tk v0 => ?_⟩
          · unfold fX9_nextToken fX9_takeRun
            rw [hS, obs, if_pos (nI_lt c (by omega)), w3, run_e rfl (by omega), obs, if_pos rfl, m3, run_p e2 (by omega), obs, if_neg one0, nsub (a := em) (b := en) rfl rfl m1, if_neg (show ¬ (4 : Int32) < nI (em - en) from nI_nlt (a := 4) (by omega) (by omega))]
            rfl
          · rw [hA]
            unfold fX11_advance_b39
            rw [hb, obs, if_neg hm, if_pos c1, if_neg c2, m4 en _ _ (Nat.le_refl _)]
            unfold fX11_advance_b227 fX11_advance_b246
            rw [nsub (a := em) (b := en) rfl rfl m1, if_pos (show nI (em - en) ≤ (4 : Int32) from nI_le (b := 4) (by omega) (by omega))]
            rfl
    · have e1 := w5 c c1
      by_cases c3 : 8 < en - s
      · refine ⟨4, s, en, 0, by omega, s1, by omega, w2, fun _ => by omega, fun q => absurd q (by decide), fun q => absurd q (by decide), ?_, fun st tk v0 => ?_⟩
        · unfold fX9_nextToken
          rw [hS, obs, if_pos (nI_lt c (by omega))]
          show (fX9_takeRun (nI n) (nI s) (nI s) t 97 122).bind _ = _
          unfold fX9_takeRun
          rw [w3, run_p e1 (by omega), obs, if_neg one0, nsub (a := en) (b := s) rfl rfl w1, if_pos (show (8 : Int32) < nI (en - s) from nI_lt (a := 8) c3 (by omega))]
          rfl
        · rw [hA]
          unfold fX11_advance_b39
          rw [hb, obs, if_neg hm, if_neg c1, w4]
          unfold fX11_advance_b116 fX11_advance_b136
          rw [nsub (a := en) (b := s) rfl rfl w1, if_neg (show ¬ nI (en - s) ≤ (8 : Int32) from nI_ge (a := 8) c3 (by omega))]
          rfl
      · refine ⟨1, s, en, 0, by omega, s1, by omega, w2, fun _ => by omega, fun _ => ⟨e1, by omega⟩, fun q => absurd q (by decide), ?_, fun st tk v0 => ?_⟩
        · unfold fX9_nextToken
          rw [hS, obs, if_pos (nI_lt c (by omega))]
          show (fX9_takeRun (nI n) (nI s) (nI s) t 97 122).bind _ = _
          unfold fX9_takeRun
          rw [w3, run_p e1 (by omega), obs, if_neg one0, nsub (a := en) (b := s) rfl rfl w1, if_neg (show ¬ (8 : Int32) < nI (en - s) from nI_nlt (a := 8) (by omega) (by omega))]
          rfl
        · rw [hA]
          unfold fX11_advance_b39
          rw [hb, obs, if_neg hm, if_neg c1, w4]
          unfold fX11_advance_b116 fX11_advance_b136
          rw [nsub (a := en) (b := s) rfl rfl w1, if_pos (show nI (en - s) ≤ (8 : Int32) from nI_le (b := 8) (by omega) (by omega))]
          rfl
  · have e0 : s = n := by omega
    subst e0
    refine ⟨0, s, s, 0, by omega, s1, Nat.le_refl _, Nat.le_refl _, fun q => absurd rfl q, fun q => absurd q (by decide), fun q => absurd q (by decide), ?_, fun st tk v0 => ?_⟩
    · unfold fX9_nextToken
      rw [hS, obs, if_neg (nI_nlt (Nat.le_refl _) (by omega))]
      rfl
    · rw [hA]
      unfold fX11_advance_b39
      rw [tk_end hn, obs, if_pos rfl]
      rfl
theorem tk_read {x1 x2 code wr kd st : Int32} {en : Nat} (he : en ≤ 500) : ∀ (f y : Nat) (num : Int32), y ≤ en → en - y < f → fX9_readNumber_b28 t x1 x2 f (nI y) code wr kd st (nI en) num = fX9_readNumber_b63 x1 x2 code wr kd st (nI en) (cv t y (en - y) num) := by
  intro f
  induction f with
  | zero => intro y num h1 h2; omega
  | succ f ih =>
    intro y num h1 h2
    rw [fX9_readNumber_b28_s]
    rcases Nat.lt_or_ge y en with c | c
    · rw [if_neg (nI_ge c (by omega)), gdI (vp_in_nI (by omega) (by decide)), nI_clamp (by omega), nI_1, ih (y + 1) _ (by omega) (by omega), show en - y = (en - (y + 1)) + 1 by omega]
      rfl
    · have e : y = en := by omega
      subst e
      rw [if_pos (nI_le (Nat.le_refl _) (by omega)), Nat.sub_self]
      rfl
end
