/-! what every change notes before -/
theorem rem10 : ∀ j : Nat, j < 10 → ∃ i : Nat, i < 10 ∧ (nI j + 1) - (nI j + 1) / 10 * 10 = nI i := by decide +kernel
theorem remV {hn hc : Nat} {e1 e2 e3 e4 : Nat → Int32} {e5 : Nat → Option Nat} {e6 : Nat → Int32} {e7 : Nat → Nat → Int32} {p1 p2 p3 p4 : Int32} {p5 : Option Nat} {p6 : Int32} {p7 : Nat → Int32} (h1 : hn < 10) (h2 : hc ≤ 10) : ∃ r, fX2_remember (nI hn) (nI hc) e1 e2 e3 e4 e5 e6 e7 p1 p2 p3 p4 p5 p6 p7 = some r ∧ (∃ j, j < 10 ∧ r.1 = nI j) ∧ ∃ m, m ≤ 10 ∧ r.2.1 = nI m := by
  obtain ⟨i, i1, i2⟩ := rem10 hn h1
  obtain ⟨u, q1, q2⟩ := copyV (pe := p6) (pcs := p7) (t := e7 hn)
  unfold fX2_remember
  rw [gdI (vkn h1 (by decide)), nI_clamp (by omega)]
  unfold nm fX7_copyFrom
  rw [q1, obs, obs, i2]
  refine ⟨_, rfl, ⟨i, i1, rfl⟩, if 10 < hc + 1 then 10 else hc + 1, ?_, ?_⟩
  · by_cases c : 10 < hc + 1
    · rw [if_pos c]; omega
    · rw [if_neg c]; omega
  · show (if 10 < nI hc + 1 then 10 else nI hc + 1) = _
    rw [nI_1]
    by_cases c : 10 < hc + 1
    · rw [if_pos c, if_pos (show (10 : Int32) < nI (hc + 1) from nI_lt (a := 10) c (by omega))]
      rfl
    · rw [if_neg c, if_neg (show ¬ (10 : Int32) < nI (hc + 1) from nI_nlt (a := 10) (by omega) (by decide))]
