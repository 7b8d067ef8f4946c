/-! what every change notes before -/
theorem rem10 : ∀ j : Nat, j < 10 → ∃ i : Nat, i < 10 ∧ (nI j + 1) - (nI j + 1) / 10 * 10 = nI i := by decide +kernel
theorem remV {hn hc : Nat} {e1 e2 e3 e4 : Nat → Int32} {e5 : Nat → Option Nat} {e6 : Nat → Int32} {e7 : Nat → Nat → Int32} {p1 p2 p3 p4 : Int32} {p5 : Option Nat} {p6 : Int32} {p7 : Nat → Int32} (h1 : hn < 10) (h2 : hc ≤ 10) : ∃ (j m : Nat) (w : (Nat → Int32) × (Nat → Int32) × (Nat → Int32) × (Nat → Int32) × (Nat → Option Nat) × (Nat → Int32) × (Nat → Nat → Int32)), j < 10 ∧ m ≤ 10 ∧ fX2_remember (nI hn) (nI hc) e1 e2 e3 e4 e5 e6 e7 p1 p2 p3 p4 p5 p6 p7 = some (nI j, nI m, w) := by
  obtain ⟨i, i1, i2⟩ := rem10 hn h1
  obtain ⟨u, q1, q2⟩ := copyV (pe := p6) (pcs := p7) (t := e7 hn)
  obtain ⟨m, m1, m2⟩ : ∃ m : Nat, m ≤ 10 ∧ (if 10 < nI hc + 1 then 10 else nI hc + 1) = nI m := by
    rw [nI_1]
    by_cases c : 10 < hc + 1
    · exact ⟨10, Nat.le_refl _, by rw [if_pos (show (10 : Int32) < nI (hc + 1) from nI_lt (a := 10) c (by omega))]; rfl⟩
    · exact ⟨hc + 1, by omega, by rw [if_neg (show ¬ (10 : Int32) < nI (hc + 1) from nI_nlt (a := 10) (by omega) (by decide))]⟩
  refine ⟨i, m, (va_up e1 hn p1, va_up e2 hn p2, va_up e3 hn p3, va_up e4 hn p4, va_up e5 hn p5, va_up e6 hn u.1, va_up e7 hn u.2), i1, m1, ?_⟩
  unfold fX2_remember
  rw [gdI (vkn h1 (by decide)), nI_clamp (by omega)]
  unfold nm fX7_copyFrom
  dsimp only
  rw [q1, obs, obs]
  dsimp only
  rw [i2, m2]
theorem canV {np nl nb na : Nat} {a b c : Nat → Nat} {fw cut S : Nat → Bool} {fi se co ow : Nat → Int32} {wb fb ub wa fa ua : Nat → Nat} {twb tfb tub twa tfa tua : Nat → Int32} {cu ar : Int32} {rounds q : Nat} (hE : hLn np nl a b c fw fi se co ow) (hb : hSp nb nl wb fb ub twb tfb tub) (ha : hSp na np wa fa ua twa tfa tua) (hr : rounds < 10000) (hc : hB nl cut cu) (hS : hB nl S ar) (hq : q < nl) : fX10_canArrange (nI nl) fi se (nI nb) twb tfb tub (nI na) twa tfa tua ar cu (nI rounds) (nI q) = some (if usb nb na wb fb ub wa fa ua a b cut (rounds + 1) q = true ∧ psn a b S nl (a q) = false ∧ psn a b S nl (b q) = false then 1 else 0) := by
  have hnp := hE.1
  have hnl := hE.2.1
  obtain ⟨e1, e2, e3, e4, e5, e6, e7, e8⟩ := hE.2.2 q hq
  obtain ⟨u1, h1, hu1⟩ := persV hE hS
  obtain ⟨u4, h4, hu4⟩ := usableV (round := rounds + 1) hE hb ha (by omega) hc
  unfold fX10_canArrange
  rw [h1, obs, nI_1, h4, obs, hB_in hu4 hq (by omega)]
  cases hus : usb nb na wb fb ub wa fa ua a b cut (rounds + 1) q with
  | false => rw [ifF, if_pos rfl, if_neg (fun z => absurd z.1 (by decide))]
  | true =>
    rw [if_pos rfl, if_neg one0]
    have hone : hB nl (fun i => decide (i = q)) ((1 : Int32) <<< (nI q &&& 31)) := fun i hi => by
      rw [ib_one q (by omega) i hi]
      show decide (i = q) = (decide (i < nl) && decide (i = q))
      by_cases z : i = q
      · rw [decide_eq_true z, decide_eq_true (show i < nl by omega)]; rfl
      · rw [decide_eq_false z, Bool.and_false]
    obtain ⟨u11, h11, hu11⟩ := persV hE hone
    rw [h11, obs]
    have key : (u1 &&& u11) = 0 ↔ (psn a b S nl (a q) = false ∧ psn a b S nl (b q) = false) := by
      have p1 : ∀ p, psn a b (fun i => decide (i = q)) nl p = (decide (p = a q) || decide (p = b q)) := fun p => by
        rw [Bool.eq_iff_iff, psn_iff, Bool.or_eq_true, decide_eq_true_iff, decide_eq_true_iff]
        constructor
        · rintro ⟨l, l1, l2, l3⟩
          have l4 := of_decide_eq_true l2
          rw [l4] at l3
          exact l3
        · intro h
          exact ⟨q, hq, decide_eq_true rfl, h⟩
      constructor
      · intro h
        have f : ∀ p, p < np → (p = a q ∨ p = b q) → psn a b S nl p = false := fun p hp hpq => by
          have := congrArg (fun x => xb x p) h
          have h2 : xb (u1 &&& u11) p = xb 0 p := this
          rw [ib_and, hu1 p (by omega), hu11 p (by omega), p1 p, ib_0, decide_eq_true hp, Bool.true_and, Bool.true_and] at h2
          have h3 : (decide (p = a q) || decide (p = b q)) = true := by
            rw [Bool.or_eq_true, decide_eq_true_iff, decide_eq_true_iff]
            exact hpq
          rw [h3, Bool.and_true] at h2
          exact h2
        exact ⟨f _ e1 (Or.inl rfl), f _ e2 (Or.inr rfl)⟩
      · intro h
        refine ib_ext (fun i hi => ?_)
        rw [ib_and, hu1 i hi, hu11 i hi, p1 i, ib_0]
        by_cases z1 : i = a q
        · rw [z1, h.1, Bool.and_false, Bool.false_and]
        · by_cases z2 : i = b q
          · rw [z2, h.2, Bool.and_false, Bool.false_and]
          · rw [decide_eq_false z1, decide_eq_false z2, Bool.or_false, Bool.and_false, Bool.and_false]
    by_cases z : (u1 &&& u11) = 0
    · rw [if_pos z, if_pos ⟨rfl, key.mp z⟩]
    · rw [if_neg z, if_neg (fun w => z (key.mpr w.2))]
