/-! p1: the start's values -/
def P0 : Nat → Int32 := upd (upd (upd (upd (upd (upd (upd (upd (upd (upd (fun _ => 0) 0 1) 1 2) 2 4) 3 8) 4 0) 5 0) 6 0) 7 0) 8 0) 9 0
def T4 : Nat → Int32 := upd (upd (upd (upd (fun _ => 0) 4 4) 5 0) 6 0) 7 0
def T0 : Nat → Int32 := upd (upd (upd (upd T4 0 4) 1 0) 2 0) 3 0
def N0 : Nat → Int32 := upd (upd (upd (upd (fun _ => 0) 4 1) 5 2) 6 4) 7 8
def B0 : Nat → Int32 := upd (upd (fun _ => 0) 0 0) 1 0
theorem pupd0 (i : Nat) : upd (fun _ => 0) i 0 = fun _ => 0 := by
  funext j
  simp [upd]
theorem pgd {α : Type} {k N : Nat} {a : Option α} (h : k < N) (hN : N < 2 ^ 31) : gd (nI k) N a = a := by
  unfold gd
  exact if_pos (vp_in_nI h hN)
theorem pv22 : fX7_begin (fun _ => 0) 4 = some (0, 0, 0, 0, none, 4, P0) := by rfl
theorem pv19 : fX11_clearDraft (fun _ => 0) = some T4 := by rfl
theorem plift0 (N : Nat) (hN : N < 1000) (h2 : nI N / 2 = nI (N / 2)) : ∀ d n k : Nat, k + d = N / 2 → d < n → fX11_lifts_b2 N n (nI k) (fun _ => 0) = some (fun _ => 0) := by
  intro d
  induction d with
  | zero =>
    intro n k hk hn
    obtain ⟨n, rfl⟩ : ∃ m, n = m + 1 := ⟨n - 1, by omega⟩
    rw [fX11_lifts_b2_s, h2, if_pos (by rw [nI_leI (by omega) (by omega)]; omega)]
  | succ d ih =>
    intro n k hk hn
    obtain ⟨n, rfl⟩ : ∃ m, n = m + 1 := ⟨n - 1, by omega⟩
    rw [fX11_lifts_b2_s, h2, if_neg (by rw [nI_leI (by omega) (by omega)]; omega), nI_add, pgd (by omega) (by omega), pgd (by omega) (by omega), nI_1, pupd0]
    exact ih n (k + 1) (by omega) (by omega)
theorem plz (N : Nat) (hN : N < 1000) (h2 : nI N / 2 = nI (N / 2)) : fX11_lifts N (fun _ => 0) = some (fun _ => 0) := by
  have h := plift0 N hN h2 (N / 2) FU 0 (by omega) (by unfold FU; omega)
  rw [nI_0] at h
  exact h
theorem pltold : fX11_lifts 8 T4 = some T0 := by rfl
theorem pv20 : fX11_liftsAll T4 (fun _ => 0) (fun _ => 0) (fun _ => 0) (fun _ => 0) (fun _ => 0) (fun _ => 0) = some (T0, (fun _ => 0), (fun _ => 0), (fun _ => 0), (fun _ => 0), (fun _ => 0), (fun _ => 0)) := by
  unfold fX11_liftsAll
  rw [pltold, plz 48 (by decide) (by decide +kernel), plz 72 (by decide) (by decide +kernel)]
  rfl
theorem pbg0 (told : Nat → Int32) (z : Nat → Int32) : ∀ d n k : Nat, k + d = 514 → d < n → fX11_begins_b2 told n (nI k) 0 (fun _ => 0) z = fX11_begins_b24 told FU 0 0 (fun _ => 0) z := by
  intro d
  induction d with
  | zero =>
    intro n k hk hn
    obtain ⟨n, rfl⟩ : ∃ m, n = m + 1 := ⟨n - 1, by omega⟩
    have hk : k = 514 := by omega
    subst hk
    rw [fX11_begins_b2_s, if_pos (by decide +kernel)]
  | succ d ih =>
    intro n k hk hn
    obtain ⟨n, rfl⟩ : ∃ m, n = m + 1 := ⟨n - 1, by omega⟩
    rw [fX11_begins_b2_s, if_neg (by rw [show (514 : Int32) = nI 514 from rfl, nI_leI (by omega) (by omega)]; omega), pgd (by omega) (by omega), nI_1, pupd0]
    exact ih n (k + 1) (by omega) (by omega)
theorem pv21 : fX11_begins 0 (fun _ => 0) T0 (fun _ => 0) = some (0, N0, B0) := by
  have h := pbg0 T0 (fun _ => 0) 514 FU 0 (by omega) (by unfold FU; omega)
  rw [nI_0] at h
  exact h.trans (by rfl)
def pck {α : Type} (a : Option α) (c : α → Bool) : Bool := match a with
  | some x => c x
  | none => false
theorem pckE {α : Type} {a : Option α} {c : α → Bool} (h : pck a c = true) : ∃ x, a = some x ∧ c x = true := by
  cases a with
  | none => cases h
  | some x => exact ⟨x, rfl, h⟩
theorem pand {a b : Bool} (h : (a && b) = true) : a = true ∧ b = true := by
  cases a
  · cases h
  · exact ⟨rfl, h⟩
theorem pmap {α β : Type} {a : Option α} {f : α → β} {v : β} (h : a.map f = some v) : ∃ r, a = some r ∧ f r = v := by
  cases a with
  | none => cases h
  | some x => exact ⟨x, rfl, Option.some.inj h⟩
theorem pw {x lo hi : Int32} (h : x < lo ∨ hi < x) : fX11_within x lo hi = 0 := by
  unfold fX11_within
  rcases h with h | h
  · rw [if_pos h]
  · by_cases c : x < lo
    · rw [if_pos c]
    · rw [if_neg c, if_pos h]
theorem pany (x : Int32) : x < 0 ∨ -1 < x := by
  by_cases c : x < 0
  · exact Or.inl c
  · refine Or.inr ?_
    rw [Int32.lt_iff_toInt_lt] at c ⊢
    have : (0 : Int32).toInt = 0 := rfl
    have : (-1 : Int32).toInt = -1 := rfl
    omega
theorem pno {x b : Int32} (h : fX11_within x 0 (b - 1) = 0) : fX11_no 0 x b = (1, 1) := by
  unfold fX11_no
  rw [if_pos h]
  rfl
theorem pnl (x : Int32) : fX11_noLine T0 x = some (1, 1) := by
  unfold fX11_noLine
  rw [pno (show fX11_within x 0 (T0 1 - 1) = 0 from pw (pany x))]
  rfl
theorem pnp {x : Int32} (h : x < 0 ∨ 3 < x) : fX11_noPerson T0 x = some (1, 1) := by
  unfold fX11_noPerson
  rw [pno (show fX11_within x 0 (T0 0 - 1) = 0 from pw h)]
  rfl
theorem pns {x : Int32} (h : x < 0 ∨ 1 < x) : fX11_noSlot x = (1, 1) := by
  unfold fX11_noSlot
  rw [pno (show fX11_within x 0 (2 - 1) = 0 from pw h)]
  rfl
theorem prng {α : Type} {x hi : Int32} {a b : α} (h : x < 0 ∨ hi < x) (e : b = a) : (if x < 0 then a else if x ≤ hi then b else a) = a := by
  subst e
  by_cases c : x < 0
  · rw [if_pos c]
  · by_cases c2 : x ≤ hi
    · rw [if_neg c, if_pos c2]
    · rw [if_neg c, if_neg c2]
theorem prg {x hi : Int32} {a b : Option Unit} (h : x < 0 ∨ hi < x) (e : a = some ()) : (if x < 0 then a else if x ≤ hi then b else a) = some () := by
  by_cases c : x < 0
  · rw [if_pos c, e]
  · rcases h with h | h
    · exact absurd h c
    · rw [if_neg c, if_neg (Int32.not_le.mpr h), e]
theorem prg2 {x hi : Int32} {a b : Option Unit} (h : x < 0 ∨ hi ≤ x) (e : a = some ()) : (if x < 0 then a else if x < hi then b else a) = some () := by
  by_cases c : x < 0
  · rw [if_pos c, e]
  · rcases h with h | h
    · exact absurd h c
    · rw [if_neg c, if_neg (Int32.not_lt.mpr h), e]
theorem pge {x : Int32} {a b : Int32} (h : x < 0 ∨ a < x) (e : a.toInt + 1 = b.toInt) : x < 0 ∨ b ≤ x := by
  rcases h with h | h
  · exact Or.inl h
  · refine Or.inr ?_
    rw [Int32.le_iff_toInt_le]
    rw [Int32.lt_iff_toInt_lt] at h
    omega
theorem ptl (x : Int32) : tX10_requireLine_I 0 x = some () := prg2 (by
  rcases pany x with h | h
  · exact Or.inl h
  · exact pge (Or.inr h) (by decide)) rfl
theorem ptp {x : Int32} (h : x < 0 ∨ 3 < x) : tX10_requirePerson_I 4 x = some () := prg2 (pge h (by decide)) rfl
theorem pts {x : Int32} (h : x < 0 ∨ 1 < x) : tX10_requireSlot_I x = some () := prg2 (pge h (by decide)) rfl
theorem pdec {x : Int32} (n : Nat) (hn : n < 100) (h : ¬ (x < 0 ∨ nI n < x)) : ∃ k : Nat, k ≤ n ∧ x = nI k := by
  have h1 : ¬ x < 0 := fun c => h (Or.inl c)
  have h2 : ¬ nI n < x := fun c => h (Or.inr c)
  rw [Int32.lt_iff_toInt_lt] at h1 h2
  have e0 : (0 : Int32).toInt = 0 := rfl
  have en : (nI n).toInt = n := by
    have := Int32.toInt_ofNat_of_lt (n := n) (by omega)
    exact this
  refine ⟨x.toInt.toNat, by omega, ?_⟩
  apply Int32.toInt_inj.mp
  have := Int32.toInt_ofNat_of_lt (n := x.toInt.toNat) (by omega)
  show x.toInt = (Int32.ofNat x.toInt.toNat).toInt
  rw [this]
  omega
theorem pstepX (x : Int32) (n h : Nat) (y : Int32) (t : Nat → Int32) (hy : ¬ y < 0) (hh : h < 500) : fX9_putFourBytes_b3 x (n + 1) y (nI h) t = fX9_putFourBytes_b3 x n (y + (-8)) (nI (h + 1)) (upd t (nI h).toNatClampNeg (vp_nar .byte ((x >>> (y &&& 31)).toInt8.toInt32))) := by
  rw [fX9_putFourBytes_b3_s, if_neg hy, if_neg (by rw [show (500 : Int32) = nI 500 from rfl, nI_leI (by omega) (by omega)]; omega), pgd hh (by omega), nI_1]
theorem pputX (h : Nat) (hh : h + 4 ≤ 500) (t : Nat → Int32) (x : Int32) : ∃ t' : Nat → Int32, fX9_putFourBytes (nI h) t x = some (nI (h + 4), t') := by
  unfold fX9_putFourBytes
  rw [show FU = 19995 + 1 + 1 + 1 + 1 + 1 from rfl, pstepX x _ h _ t (by decide) (by omega), pstepX x _ (h + 1) _ _ (by decide) (by omega), pstepX x _ (h + 2) _ _ (by decide) (by omega), pstepX x _ (h + 3) _ _ (by decide) (by omega), fX9_putFourBytes_b3_s, if_pos (by decide)]
  exact ⟨_, rfl⟩
theorem pstepM (x : Int32) (n h : Nat) (y : Int32) (t : Nat → Int32) (hy : ¬ y < 0) (hh : h < 500) : fX11_bytesOf_b3 x (n + 1) y (nI h) t = fX11_bytesOf_b3 x n (y + (-8)) (nI (h + 1)) (upd t (nI h).toNatClampNeg (vp_nar .byte ((x >>> (y &&& 31)).toInt8.toInt32))) := by
  rw [fX11_bytesOf_b3_s, if_neg hy, pgd hh (by omega), nI_1]
theorem pputM (h : Nat) (hh : h + 4 ≤ 500) (t : Nat → Int32) (x : Int32) : ∃ t' : Nat → Int32, fX11_bytesOf (nI h) t x = some (nI (h + 4), t') := by
  unfold fX11_bytesOf
  rw [show FU = 19995 + 1 + 1 + 1 + 1 + 1 from rfl, pstepM x _ h _ t (by decide) (by omega), pstepM x _ (h + 1) _ _ (by decide) (by omega), pstepM x _ (h + 2) _ _ (by decide) (by omega), pstepM x _ (h + 3) _ _ (by decide) (by omega), fX11_bytesOf_b3_s, if_pos (by decide)]
  exact ⟨_, rfl⟩
theorem pq2 : ∃ r2 : Int32 × Int32, (r2 = fX11_errorPosition (-1)) ∧ ((fX10_errorPosition (-1)) = r2.1) := by
  have h : pck ((some (fX11_errorPosition (-1)))) (fun r2 => (decide ((fX10_errorPosition (-1)) = r2.1) && true)) = true := by decide +kernel
  obtain ⟨r2, h2, h⟩ := pckE h
  have h2 := (Option.some.inj h2).symm
  obtain ⟨he3, h⟩ := pand h
  have he3 := of_decide_eq_true he3
  exact ⟨r2, h2, he3⟩
theorem pq9 : ∃ r1 : Int32, ∃ r2 : Int32 × Int32, (fX10_missing 4 P0 = some r1) ∧ (fX11_missing N0 T0 = some r2) ∧ (r1 = r2.1) := by
  have h : pck (fX10_missing 4 P0) (fun r1 => pck (fX11_missing N0 T0) (fun r2 => (decide (r1 = r2.1) && true))) = true := by decide +kernel
  obtain ⟨r1, h1, h⟩ := pckE h
  obtain ⟨r2, h2, h⟩ := pckE h
  obtain ⟨he3, h⟩ := pand h
  have he3 := of_decide_eq_true he3
  exact ⟨r1, r2, h1, h2, he3⟩
theorem pq11 : ∃ r2 : Int32 × Int32, (fX11_arranged N0 = some r2) ∧ ((fX10_arranged 0) = r2.1) := by
  have h : pck (fX11_arranged N0) (fun r2 => (decide ((fX10_arranged 0) = r2.1) && true)) = true := by decide +kernel
  obtain ⟨r2, h2, h⟩ := pckE h
  obtain ⟨he3, h⟩ := pand h
  have he3 := of_decide_eq_true he3
  exact ⟨r2, h2, he3⟩
theorem pq12 : ∃ r1 : Int32, ∃ r2 : Int32 × Int32, (fX10_gain 0 (fun _ => 0) (fun _ => 0) (fun _ => 0) 0 P0 = some r1) ∧ (fX11_gain N0 T0 (fun _ => 0) (fun _ => 0) (fun _ => 0) = some r2) ∧ (r1 = r2.1) := by
  have h : pck (fX10_gain 0 (fun _ => 0) (fun _ => 0) (fun _ => 0) 0 P0) (fun r1 => pck (fX11_gain N0 T0 (fun _ => 0) (fun _ => 0) (fun _ => 0)) (fun r2 => (decide (r1 = r2.1) && true))) = true := by decide +kernel
  obtain ⟨r1, h1, h⟩ := pckE h
  obtain ⟨r2, h2, h⟩ := pckE h
  obtain ⟨he3, h⟩ := pand h
  have he3 := of_decide_eq_true he3
  exact ⟨r1, r2, h1, h2, he3⟩
theorem pq17 : ∃ r1 : Int32, ∃ r2 : Int32 × Int32, (fX10_doublings 4 P0 = some r1) ∧ (fX11_doublings N0 T0 = some r2) ∧ (r1 = r2.1) := by
  have h : pck (fX10_doublings 4 P0) (fun r1 => pck (fX11_doublings N0 T0) (fun r2 => (decide (r1 = r2.1) && true))) = true := by decide +kernel
  obtain ⟨r1, h1, h⟩ := pckE h
  obtain ⟨r2, h2, h⟩ := pckE h
  obtain ⟨he3, h⟩ := pand h
  have he3 := of_decide_eq_true he3
  exact ⟨r1, r2, h1, h2, he3⟩
theorem pq20 : ∃ r1 : Int32, ∃ r2 : Int32 × Int32 × (Nat → Int32), (fX10_vital 4 0 (fun _ => 0) (fun _ => 0) (fun _ => 0) 0 4 P0 = some r1) ∧ (fX11_vital N0 T0 (fun _ => 0) (fun _ => 0) (fun _ => 0) (fun _ => 0) (fun _ => 0) = some r2) ∧ (r1 = r2.1) := by
  have h : pck (fX10_vital 4 0 (fun _ => 0) (fun _ => 0) (fun _ => 0) 0 4 P0) (fun r1 => pck (fX11_vital N0 T0 (fun _ => 0) (fun _ => 0) (fun _ => 0) (fun _ => 0) (fun _ => 0)) (fun r2 => (decide (r1 = r2.1) && true))) = true := by decide +kernel
  obtain ⟨r1, h1, h⟩ := pckE h
  obtain ⟨r2, h2, h⟩ := pckE h
  obtain ⟨he3, h⟩ := pand h
  have he3 := of_decide_eq_true he3
  exact ⟨r1, r2, h1, h2, he3⟩
theorem pq23 : ∃ r1 : Int32 × Int32 × Int32 × Int32 × (Nat → Int32) × (Nat → Int32) × (Nat → Int32) × (Nat → Int32) × (Nat → Option Nat) × (Nat → Int32) × (Nat → Nat → Int32) × (Nat → Int64) × (Nat → Int64), ∃ r2 : Int32 × Int32 × Int32 × (Nat → Int32) × (Nat → Int64) × (Nat → Int32) × (Nat → Int32), (fX10_arrangeBest 4 0 (fun _ => 0) (fun _ => 0) (fun _ => 0) (fun _ => 0) 0 (fun _ => 0) (fun _ => 0) (fun _ => 0) 0 (fun _ => 0) (fun _ => 0) (fun _ => 0) 0 0 0 0 none 4 P0 0 0 (fun _ => 0) (fun _ => 0) (fun _ => 0) (fun _ => 0) (fun _ => none) (fun _ => 0) (fun _ _ => 0) (fun _ => 0) (fun _ => 0) = some r1) ∧ (fX11_arrangeBest 0 N0 T0 (fun _ => 0) (fun _ => 0) (fun _ => 0) (fun _ => 0) (fun _ => 0) (fun _ => 0) (fun _ => 0) (fun _ => 0) (fun _ => 0) = some r2) ∧ (r1.1 = r2.1) := by
  have h : pck (fX10_arrangeBest 4 0 (fun _ => 0) (fun _ => 0) (fun _ => 0) (fun _ => 0) 0 (fun _ => 0) (fun _ => 0) (fun _ => 0) 0 (fun _ => 0) (fun _ => 0) (fun _ => 0) 0 0 0 0 none 4 P0 0 0 (fun _ => 0) (fun _ => 0) (fun _ => 0) (fun _ => 0) (fun _ => none) (fun _ => 0) (fun _ _ => 0) (fun _ => 0) (fun _ => 0)) (fun r1 => pck (fX11_arrangeBest 0 N0 T0 (fun _ => 0) (fun _ => 0) (fun _ => 0) (fun _ => 0) (fun _ => 0) (fun _ => 0) (fun _ => 0) (fun _ => 0) (fun _ => 0)) (fun r2 => (decide (r1.1 = r2.1) && true))) = true := by decide +kernel
  obtain ⟨r1, h1, h⟩ := pckE h
  obtain ⟨r2, h2, h⟩ := pckE h
  obtain ⟨he3, h⟩ := pand h
  have he3 := of_decide_eq_true he3
  exact ⟨r1, r2, h1, h2, he3⟩
theorem pq24 : ∃ r1 : (Nat → Int64) × Int32 × Int32 × Int32 × (Nat → Int32) × Int32 × Int32 × (Nat → Int32) × (Nat → Int32) × (Nat → Int32) × (Nat → Int32) × (Nat → Option Nat) × (Nat → Int32) × (Nat → Nat → Int32) × Int32, ∃ r2 : Int32 × Int32 × Int32 × (Nat → Int32) × (Nat → Int32) × (Nat → Int32) × (Nat → Int32), (fL_ring 1 (fun _ => 0) 0 (fun _ => 0) (fun _ => 0) (fun _ => 0) (fun _ => 0) 0 0 0 0 none 4 P0 0 0 (fun _ => 0) (fun _ => 0) (fun _ => 0) (fun _ => 0) (fun _ => none) (fun _ => 0) (fun _ _ => 0) ([]) = some r1) ∧ (fX11_ring 0 N0 T0 (fun _ => 0) (fun _ => 0) (fun _ => 0) (fun _ => 0) (fun _ => 0) (fun _ => 0) (fun _ => 0) = some r2) ∧ ((fX11_thrown r2.2.1) = (0 : Int32)) ∧ (r1.1 0 = r2.1.toInt64) := by
  have h : pck (fL_ring 1 (fun _ => 0) 0 (fun _ => 0) (fun _ => 0) (fun _ => 0) (fun _ => 0) 0 0 0 0 none 4 P0 0 0 (fun _ => 0) (fun _ => 0) (fun _ => 0) (fun _ => 0) (fun _ => none) (fun _ => 0) (fun _ _ => 0) ([])) (fun r1 => pck (fX11_ring 0 N0 T0 (fun _ => 0) (fun _ => 0) (fun _ => 0) (fun _ => 0) (fun _ => 0) (fun _ => 0) (fun _ => 0)) (fun r2 => (decide ((fX11_thrown r2.2.1) = (0 : Int32)) && (decide (r1.1 0 = r2.1.toInt64) && true)))) = true := by decide +kernel
  obtain ⟨r1, h1, h⟩ := pckE h
  obtain ⟨r2, h2, h⟩ := pckE h
  obtain ⟨he4, h⟩ := pand h
  have he4 := of_decide_eq_true he4
  obtain ⟨he5, h⟩ := pand h
  have he5 := of_decide_eq_true he5
  exact ⟨r1, r2, h1, h2, he4, he5⟩
theorem pq28 : ∃ r1 : Int32 × Int32 × Int32 × Int32 × Int32 × (Option Nat) × Int32 × (Nat → Int32) × Int32 × Int32, ∃ r2 : Int32 × Int32 × Int32 × (Nat → Int32), (fX10_undo 0 0 0 0 none 4 P0 0 0 (fun _ => 0) (fun _ => 0) (fun _ => 0) (fun _ => 0) (fun _ => none) (fun _ => 0) (fun _ _ => 0) = some r1) ∧ (fX11_undo 0 N0 (fun _ => 0) = some r2) ∧ (r1.1 = r2.1) := by
  have h : pck (fX10_undo 0 0 0 0 none 4 P0 0 0 (fun _ => 0) (fun _ => 0) (fun _ => 0) (fun _ => 0) (fun _ => none) (fun _ => 0) (fun _ _ => 0)) (fun r1 => pck (fX11_undo 0 N0 (fun _ => 0)) (fun r2 => (decide (r1.1 = r2.1) && true))) = true := by decide +kernel
  obtain ⟨r1, h1, h⟩ := pckE h
  obtain ⟨r2, h2, h⟩ := pckE h
  obtain ⟨he3, h⟩ := pand h
  have he3 := of_decide_eq_true he3
  exact ⟨r1, r2, h1, h2, he3⟩
theorem pq3_0 : ∃ r1 : (Nat → Int64), ∃ r2 : Int32 × Int32, (fL_size 1 (fun _ => 0) 4 0 0 0 0 0 (nI 0) = some r1) ∧ (fX11_size N0 T0 (nI 0) = some r2) ∧ ((fX11_thrown r2.2) = (0 : Int32)) ∧ (r1 0 = r2.1.toInt64) := by
  have h : pck (fL_size 1 (fun _ => 0) 4 0 0 0 0 0 (nI 0)) (fun r1 => pck (fX11_size N0 T0 (nI 0)) (fun r2 => (decide ((fX11_thrown r2.2) = (0 : Int32)) && (decide (r1 0 = r2.1.toInt64) && true)))) = true := by decide +kernel
  obtain ⟨r1, h1, h⟩ := pckE h
  obtain ⟨r2, h2, h⟩ := pckE h
  obtain ⟨he4, h⟩ := pand h
  have he4 := of_decide_eq_true he4
  obtain ⟨he5, h⟩ := pand h
  have he5 := of_decide_eq_true he5
  exact ⟨r1, r2, h1, h2, he4, he5⟩
theorem pq3_1 : ∃ r1 : (Nat → Int64), ∃ r2 : Int32 × Int32, (fL_size 1 (fun _ => 0) 4 0 0 0 0 0 (nI 1) = some r1) ∧ (fX11_size N0 T0 (nI 1) = some r2) ∧ ((fX11_thrown r2.2) = (0 : Int32)) ∧ (r1 0 = r2.1.toInt64) := by
  have h : pck (fL_size 1 (fun _ => 0) 4 0 0 0 0 0 (nI 1)) (fun r1 => pck (fX11_size N0 T0 (nI 1)) (fun r2 => (decide ((fX11_thrown r2.2) = (0 : Int32)) && (decide (r1 0 = r2.1.toInt64) && true)))) = true := by decide +kernel
  obtain ⟨r1, h1, h⟩ := pckE h
  obtain ⟨r2, h2, h⟩ := pckE h
  obtain ⟨he4, h⟩ := pand h
  have he4 := of_decide_eq_true he4
  obtain ⟨he5, h⟩ := pand h
  have he5 := of_decide_eq_true he5
  exact ⟨r1, r2, h1, h2, he4, he5⟩
theorem pq3_2 : ∃ r1 : (Nat → Int64), ∃ r2 : Int32 × Int32, (fL_size 1 (fun _ => 0) 4 0 0 0 0 0 (nI 2) = some r1) ∧ (fX11_size N0 T0 (nI 2) = some r2) ∧ ((fX11_thrown r2.2) = (0 : Int32)) ∧ (r1 0 = r2.1.toInt64) := by
  have h : pck (fL_size 1 (fun _ => 0) 4 0 0 0 0 0 (nI 2)) (fun r1 => pck (fX11_size N0 T0 (nI 2)) (fun r2 => (decide ((fX11_thrown r2.2) = (0 : Int32)) && (decide (r1 0 = r2.1.toInt64) && true)))) = true := by decide +kernel
  obtain ⟨r1, h1, h⟩ := pckE h
  obtain ⟨r2, h2, h⟩ := pckE h
  obtain ⟨he4, h⟩ := pand h
  have he4 := of_decide_eq_true he4
  obtain ⟨he5, h⟩ := pand h
  have he5 := of_decide_eq_true he5
  exact ⟨r1, r2, h1, h2, he4, he5⟩
theorem pq3_3 : ∃ r1 : (Nat → Int64), ∃ r2 : Int32 × Int32, (fL_size 1 (fun _ => 0) 4 0 0 0 0 0 (nI 3) = some r1) ∧ (fX11_size N0 T0 (nI 3) = some r2) ∧ ((fX11_thrown r2.2) = (0 : Int32)) ∧ (r1 0 = r2.1.toInt64) := by
  have h : pck (fL_size 1 (fun _ => 0) 4 0 0 0 0 0 (nI 3)) (fun r1 => pck (fX11_size N0 T0 (nI 3)) (fun r2 => (decide ((fX11_thrown r2.2) = (0 : Int32)) && (decide (r1 0 = r2.1.toInt64) && true)))) = true := by decide +kernel
  obtain ⟨r1, h1, h⟩ := pckE h
  obtain ⟨r2, h2, h⟩ := pckE h
  obtain ⟨he4, h⟩ := pand h
  have he4 := of_decide_eq_true he4
  obtain ⟨he5, h⟩ := pand h
  have he5 := of_decide_eq_true he5
  exact ⟨r1, r2, h1, h2, he4, he5⟩
theorem pq3_4 : ∃ r1 : (Nat → Int64), ∃ r2 : Int32 × Int32, (fL_size 1 (fun _ => 0) 4 0 0 0 0 0 (nI 4) = some r1) ∧ (fX11_size N0 T0 (nI 4) = some r2) ∧ ((fX11_thrown r2.2) = (0 : Int32)) ∧ (r1 0 = r2.1.toInt64) := by
  have h : pck (fL_size 1 (fun _ => 0) 4 0 0 0 0 0 (nI 4)) (fun r1 => pck (fX11_size N0 T0 (nI 4)) (fun r2 => (decide ((fX11_thrown r2.2) = (0 : Int32)) && (decide (r1 0 = r2.1.toInt64) && true)))) = true := by decide +kernel
  obtain ⟨r1, h1, h⟩ := pckE h
  obtain ⟨r2, h2, h⟩ := pckE h
  obtain ⟨he4, h⟩ := pand h
  have he4 := of_decide_eq_true he4
  obtain ⟨he5, h⟩ := pand h
  have he5 := of_decide_eq_true he5
  exact ⟨r1, r2, h1, h2, he4, he5⟩
theorem pq3_5 : ∃ r1 : (Nat → Int64), ∃ r2 : Int32 × Int32, (fL_size 1 (fun _ => 0) 4 0 0 0 0 0 (nI 5) = some r1) ∧ (fX11_size N0 T0 (nI 5) = some r2) ∧ ((fX11_thrown r2.2) = (0 : Int32)) ∧ (r1 0 = r2.1.toInt64) := by
  have h : pck (fL_size 1 (fun _ => 0) 4 0 0 0 0 0 (nI 5)) (fun r1 => pck (fX11_size N0 T0 (nI 5)) (fun r2 => (decide ((fX11_thrown r2.2) = (0 : Int32)) && (decide (r1 0 = r2.1.toInt64) && true)))) = true := by decide +kernel
  obtain ⟨r1, h1, h⟩ := pckE h
  obtain ⟨r2, h2, h⟩ := pckE h
  obtain ⟨he4, h⟩ := pand h
  have he4 := of_decide_eq_true he4
  obtain ⟨he5, h⟩ := pand h
  have he5 := of_decide_eq_true he5
  exact ⟨r1, r2, h1, h2, he4, he5⟩
theorem pq7_0 : ∃ r1 : (Nat → Int64), ∃ r2 : Int32 × Int32, (fL_known 1 (fun _ => 0) 4 P0 (nI 0) = some r1) ∧ (fX11_known N0 T0 (nI 0) = some r2) ∧ ((fX11_thrown r2.2) = (0 : Int32)) ∧ (r1 0 = r2.1.toInt64) := by
  have h : pck (fL_known 1 (fun _ => 0) 4 P0 (nI 0)) (fun r1 => pck (fX11_known N0 T0 (nI 0)) (fun r2 => (decide ((fX11_thrown r2.2) = (0 : Int32)) && (decide (r1 0 = r2.1.toInt64) && true)))) = true := by decide +kernel
  obtain ⟨r1, h1, h⟩ := pckE h
  obtain ⟨r2, h2, h⟩ := pckE h
  obtain ⟨he4, h⟩ := pand h
  have he4 := of_decide_eq_true he4
  obtain ⟨he5, h⟩ := pand h
  have he5 := of_decide_eq_true he5
  exact ⟨r1, r2, h1, h2, he4, he5⟩
theorem pq7_1 : ∃ r1 : (Nat → Int64), ∃ r2 : Int32 × Int32, (fL_known 1 (fun _ => 0) 4 P0 (nI 1) = some r1) ∧ (fX11_known N0 T0 (nI 1) = some r2) ∧ ((fX11_thrown r2.2) = (0 : Int32)) ∧ (r1 0 = r2.1.toInt64) := by
  have h : pck (fL_known 1 (fun _ => 0) 4 P0 (nI 1)) (fun r1 => pck (fX11_known N0 T0 (nI 1)) (fun r2 => (decide ((fX11_thrown r2.2) = (0 : Int32)) && (decide (r1 0 = r2.1.toInt64) && true)))) = true := by decide +kernel
  obtain ⟨r1, h1, h⟩ := pckE h
  obtain ⟨r2, h2, h⟩ := pckE h
  obtain ⟨he4, h⟩ := pand h
  have he4 := of_decide_eq_true he4
  obtain ⟨he5, h⟩ := pand h
  have he5 := of_decide_eq_true he5
  exact ⟨r1, r2, h1, h2, he4, he5⟩
theorem pq7_2 : ∃ r1 : (Nat → Int64), ∃ r2 : Int32 × Int32, (fL_known 1 (fun _ => 0) 4 P0 (nI 2) = some r1) ∧ (fX11_known N0 T0 (nI 2) = some r2) ∧ ((fX11_thrown r2.2) = (0 : Int32)) ∧ (r1 0 = r2.1.toInt64) := by
  have h : pck (fL_known 1 (fun _ => 0) 4 P0 (nI 2)) (fun r1 => pck (fX11_known N0 T0 (nI 2)) (fun r2 => (decide ((fX11_thrown r2.2) = (0 : Int32)) && (decide (r1 0 = r2.1.toInt64) && true)))) = true := by decide +kernel
  obtain ⟨r1, h1, h⟩ := pckE h
  obtain ⟨r2, h2, h⟩ := pckE h
  obtain ⟨he4, h⟩ := pand h
  have he4 := of_decide_eq_true he4
  obtain ⟨he5, h⟩ := pand h
  have he5 := of_decide_eq_true he5
  exact ⟨r1, r2, h1, h2, he4, he5⟩
theorem pq7_3 : ∃ r1 : (Nat → Int64), ∃ r2 : Int32 × Int32, (fL_known 1 (fun _ => 0) 4 P0 (nI 3) = some r1) ∧ (fX11_known N0 T0 (nI 3) = some r2) ∧ ((fX11_thrown r2.2) = (0 : Int32)) ∧ (r1 0 = r2.1.toInt64) := by
  have h : pck (fL_known 1 (fun _ => 0) 4 P0 (nI 3)) (fun r1 => pck (fX11_known N0 T0 (nI 3)) (fun r2 => (decide ((fX11_thrown r2.2) = (0 : Int32)) && (decide (r1 0 = r2.1.toInt64) && true)))) = true := by decide +kernel
  obtain ⟨r1, h1, h⟩ := pckE h
  obtain ⟨r2, h2, h⟩ := pckE h
  obtain ⟨he4, h⟩ := pand h
  have he4 := of_decide_eq_true he4
  obtain ⟨he5, h⟩ := pand h
  have he5 := of_decide_eq_true he5
  exact ⟨r1, r2, h1, h2, he4, he5⟩
theorem pq8_0 : ∃ r1 : (Nat → Int64), ∃ r2 : Int32 × Int32, (fL_knowers 1 (fun _ => 0) 4 4 P0 (nI 0) = some r1) ∧ (fX11_knowers N0 T0 (nI 0) = some r2) ∧ ((fX11_thrown r2.2) = (0 : Int32)) ∧ (r1 0 = r2.1.toInt64) := by
  have h : pck (fL_knowers 1 (fun _ => 0) 4 4 P0 (nI 0)) (fun r1 => pck (fX11_knowers N0 T0 (nI 0)) (fun r2 => (decide ((fX11_thrown r2.2) = (0 : Int32)) && (decide (r1 0 = r2.1.toInt64) && true)))) = true := by decide +kernel
  obtain ⟨r1, h1, h⟩ := pckE h
  obtain ⟨r2, h2, h⟩ := pckE h
  obtain ⟨he4, h⟩ := pand h
  have he4 := of_decide_eq_true he4
  obtain ⟨he5, h⟩ := pand h
  have he5 := of_decide_eq_true he5
  exact ⟨r1, r2, h1, h2, he4, he5⟩
theorem pq8_1 : ∃ r1 : (Nat → Int64), ∃ r2 : Int32 × Int32, (fL_knowers 1 (fun _ => 0) 4 4 P0 (nI 1) = some r1) ∧ (fX11_knowers N0 T0 (nI 1) = some r2) ∧ ((fX11_thrown r2.2) = (0 : Int32)) ∧ (r1 0 = r2.1.toInt64) := by
  have h : pck (fL_knowers 1 (fun _ => 0) 4 4 P0 (nI 1)) (fun r1 => pck (fX11_knowers N0 T0 (nI 1)) (fun r2 => (decide ((fX11_thrown r2.2) = (0 : Int32)) && (decide (r1 0 = r2.1.toInt64) && true)))) = true := by decide +kernel
  obtain ⟨r1, h1, h⟩ := pckE h
  obtain ⟨r2, h2, h⟩ := pckE h
  obtain ⟨he4, h⟩ := pand h
  have he4 := of_decide_eq_true he4
  obtain ⟨he5, h⟩ := pand h
  have he5 := of_decide_eq_true he5
  exact ⟨r1, r2, h1, h2, he4, he5⟩
theorem pq8_2 : ∃ r1 : (Nat → Int64), ∃ r2 : Int32 × Int32, (fL_knowers 1 (fun _ => 0) 4 4 P0 (nI 2) = some r1) ∧ (fX11_knowers N0 T0 (nI 2) = some r2) ∧ ((fX11_thrown r2.2) = (0 : Int32)) ∧ (r1 0 = r2.1.toInt64) := by
  have h : pck (fL_knowers 1 (fun _ => 0) 4 4 P0 (nI 2)) (fun r1 => pck (fX11_knowers N0 T0 (nI 2)) (fun r2 => (decide ((fX11_thrown r2.2) = (0 : Int32)) && (decide (r1 0 = r2.1.toInt64) && true)))) = true := by decide +kernel
  obtain ⟨r1, h1, h⟩ := pckE h
  obtain ⟨r2, h2, h⟩ := pckE h
  obtain ⟨he4, h⟩ := pand h
  have he4 := of_decide_eq_true he4
  obtain ⟨he5, h⟩ := pand h
  have he5 := of_decide_eq_true he5
  exact ⟨r1, r2, h1, h2, he4, he5⟩
theorem pq8_3 : ∃ r1 : (Nat → Int64), ∃ r2 : Int32 × Int32, (fL_knowers 1 (fun _ => 0) 4 4 P0 (nI 3) = some r1) ∧ (fX11_knowers N0 T0 (nI 3) = some r2) ∧ ((fX11_thrown r2.2) = (0 : Int32)) ∧ (r1 0 = r2.1.toInt64) := by
  have h : pck (fL_knowers 1 (fun _ => 0) 4 4 P0 (nI 3)) (fun r1 => pck (fX11_knowers N0 T0 (nI 3)) (fun r2 => (decide ((fX11_thrown r2.2) = (0 : Int32)) && (decide (r1 0 = r2.1.toInt64) && true)))) = true := by decide +kernel
  obtain ⟨r1, h1, h⟩ := pckE h
  obtain ⟨r2, h2, h⟩ := pckE h
  obtain ⟨he4, h⟩ := pand h
  have he4 := of_decide_eq_true he4
  obtain ⟨he5, h⟩ := pand h
  have he5 := of_decide_eq_true he5
  exact ⟨r1, r2, h1, h2, he4, he5⟩
theorem pq10_0 : ∃ r1 : (Nat → Int64), ∃ r2 : Int32 × Int32, (fL_partner 1 (fun _ => 0) 4 0 (fun _ => 0) (fun _ => 0) 0 (nI 0) = some r1) ∧ (fX11_partner N0 T0 (fun _ => 0) (fun _ => 0) (nI 0) = some r2) ∧ ((fX11_thrown r2.2) = (0 : Int32)) ∧ (r1 0 = r2.1.toInt64) := by
  have h : pck (fL_partner 1 (fun _ => 0) 4 0 (fun _ => 0) (fun _ => 0) 0 (nI 0)) (fun r1 => pck (fX11_partner N0 T0 (fun _ => 0) (fun _ => 0) (nI 0)) (fun r2 => (decide ((fX11_thrown r2.2) = (0 : Int32)) && (decide (r1 0 = r2.1.toInt64) && true)))) = true := by decide +kernel
  obtain ⟨r1, h1, h⟩ := pckE h
  obtain ⟨r2, h2, h⟩ := pckE h
  obtain ⟨he4, h⟩ := pand h
  have he4 := of_decide_eq_true he4
  obtain ⟨he5, h⟩ := pand h
  have he5 := of_decide_eq_true he5
  exact ⟨r1, r2, h1, h2, he4, he5⟩
theorem pq10_1 : ∃ r1 : (Nat → Int64), ∃ r2 : Int32 × Int32, (fL_partner 1 (fun _ => 0) 4 0 (fun _ => 0) (fun _ => 0) 0 (nI 1) = some r1) ∧ (fX11_partner N0 T0 (fun _ => 0) (fun _ => 0) (nI 1) = some r2) ∧ ((fX11_thrown r2.2) = (0 : Int32)) ∧ (r1 0 = r2.1.toInt64) := by
  have h : pck (fL_partner 1 (fun _ => 0) 4 0 (fun _ => 0) (fun _ => 0) 0 (nI 1)) (fun r1 => pck (fX11_partner N0 T0 (fun _ => 0) (fun _ => 0) (nI 1)) (fun r2 => (decide ((fX11_thrown r2.2) = (0 : Int32)) && (decide (r1 0 = r2.1.toInt64) && true)))) = true := by decide +kernel
  obtain ⟨r1, h1, h⟩ := pckE h
  obtain ⟨r2, h2, h⟩ := pckE h
  obtain ⟨he4, h⟩ := pand h
  have he4 := of_decide_eq_true he4
  obtain ⟨he5, h⟩ := pand h
  have he5 := of_decide_eq_true he5
  exact ⟨r1, r2, h1, h2, he4, he5⟩
theorem pq10_2 : ∃ r1 : (Nat → Int64), ∃ r2 : Int32 × Int32, (fL_partner 1 (fun _ => 0) 4 0 (fun _ => 0) (fun _ => 0) 0 (nI 2) = some r1) ∧ (fX11_partner N0 T0 (fun _ => 0) (fun _ => 0) (nI 2) = some r2) ∧ ((fX11_thrown r2.2) = (0 : Int32)) ∧ (r1 0 = r2.1.toInt64) := by
  have h : pck (fL_partner 1 (fun _ => 0) 4 0 (fun _ => 0) (fun _ => 0) 0 (nI 2)) (fun r1 => pck (fX11_partner N0 T0 (fun _ => 0) (fun _ => 0) (nI 2)) (fun r2 => (decide ((fX11_thrown r2.2) = (0 : Int32)) && (decide (r1 0 = r2.1.toInt64) && true)))) = true := by decide +kernel
  obtain ⟨r1, h1, h⟩ := pckE h
  obtain ⟨r2, h2, h⟩ := pckE h
  obtain ⟨he4, h⟩ := pand h
  have he4 := of_decide_eq_true he4
  obtain ⟨he5, h⟩ := pand h
  have he5 := of_decide_eq_true he5
  exact ⟨r1, r2, h1, h2, he4, he5⟩
theorem pq10_3 : ∃ r1 : (Nat → Int64), ∃ r2 : Int32 × Int32, (fL_partner 1 (fun _ => 0) 4 0 (fun _ => 0) (fun _ => 0) 0 (nI 3) = some r1) ∧ (fX11_partner N0 T0 (fun _ => 0) (fun _ => 0) (nI 3) = some r2) ∧ ((fX11_thrown r2.2) = (0 : Int32)) ∧ (r1 0 = r2.1.toInt64) := by
  have h : pck (fL_partner 1 (fun _ => 0) 4 0 (fun _ => 0) (fun _ => 0) 0 (nI 3)) (fun r1 => pck (fX11_partner N0 T0 (fun _ => 0) (fun _ => 0) (nI 3)) (fun r2 => (decide ((fX11_thrown r2.2) = (0 : Int32)) && (decide (r1 0 = r2.1.toInt64) && true)))) = true := by decide +kernel
  obtain ⟨r1, h1, h⟩ := pckE h
  obtain ⟨r2, h2, h⟩ := pckE h
  obtain ⟨he4, h⟩ := pand h
  have he4 := of_decide_eq_true he4
  obtain ⟨he5, h⟩ := pand h
  have he5 := of_decide_eq_true he5
  exact ⟨r1, r2, h1, h2, he4, he5⟩
theorem pq14_0 : ∃ r1 : (Nat → Int64) × (Nat → Int64) × (Nat → Int64), ∃ r2 : Int32 × Int32 × (Nat → Int64) × (Nat → Int32), (fL_best 1 (fun _ => 0) 4 0 (fun _ => 0) (fun _ => 0) (fun _ => 0) (fun _ => 0) 0 (fun _ => 0) (fun _ => 0) (fun _ => 0) 0 (fun _ => 0) (fun _ => 0) (fun _ => 0) 0 0 P0 (fun _ => 0) (fun _ => 0) (nI 0) = some r1) ∧ (fX11_best N0 T0 (fun _ => 0) (fun _ => 0) (fun _ => 0) (fun _ => 0) (fun _ => 0) (fun _ => 0) (fun _ => 0) (fun _ => 0) (nI 0) = some r2) ∧ ((fX11_thrown r2.2.1) = (0 : Int32)) ∧ (r1.1 0 = r2.1.toInt64) := by
  have h : pck (fL_best 1 (fun _ => 0) 4 0 (fun _ => 0) (fun _ => 0) (fun _ => 0) (fun _ => 0) 0 (fun _ => 0) (fun _ => 0) (fun _ => 0) 0 (fun _ => 0) (fun _ => 0) (fun _ => 0) 0 0 P0 (fun _ => 0) (fun _ => 0) (nI 0)) (fun r1 => pck (fX11_best N0 T0 (fun _ => 0) (fun _ => 0) (fun _ => 0) (fun _ => 0) (fun _ => 0) (fun _ => 0) (fun _ => 0) (fun _ => 0) (nI 0)) (fun r2 => (decide ((fX11_thrown r2.2.1) = (0 : Int32)) && (decide (r1.1 0 = r2.1.toInt64) && true)))) = true := by decide +kernel
  obtain ⟨r1, h1, h⟩ := pckE h
  obtain ⟨r2, h2, h⟩ := pckE h
  obtain ⟨he4, h⟩ := pand h
  have he4 := of_decide_eq_true he4
  obtain ⟨he5, h⟩ := pand h
  have he5 := of_decide_eq_true he5
  exact ⟨r1, r2, h1, h2, he4, he5⟩
theorem pq14_1 : ∃ r1 : (Nat → Int64) × (Nat → Int64) × (Nat → Int64), ∃ r2 : Int32 × Int32 × (Nat → Int64) × (Nat → Int32), (fL_best 1 (fun _ => 0) 4 0 (fun _ => 0) (fun _ => 0) (fun _ => 0) (fun _ => 0) 0 (fun _ => 0) (fun _ => 0) (fun _ => 0) 0 (fun _ => 0) (fun _ => 0) (fun _ => 0) 0 0 P0 (fun _ => 0) (fun _ => 0) (nI 1) = some r1) ∧ (fX11_best N0 T0 (fun _ => 0) (fun _ => 0) (fun _ => 0) (fun _ => 0) (fun _ => 0) (fun _ => 0) (fun _ => 0) (fun _ => 0) (nI 1) = some r2) ∧ ((fX11_thrown r2.2.1) = (0 : Int32)) ∧ (r1.1 0 = r2.1.toInt64) := by
  have h : pck (fL_best 1 (fun _ => 0) 4 0 (fun _ => 0) (fun _ => 0) (fun _ => 0) (fun _ => 0) 0 (fun _ => 0) (fun _ => 0) (fun _ => 0) 0 (fun _ => 0) (fun _ => 0) (fun _ => 0) 0 0 P0 (fun _ => 0) (fun _ => 0) (nI 1)) (fun r1 => pck (fX11_best N0 T0 (fun _ => 0) (fun _ => 0) (fun _ => 0) (fun _ => 0) (fun _ => 0) (fun _ => 0) (fun _ => 0) (fun _ => 0) (nI 1)) (fun r2 => (decide ((fX11_thrown r2.2.1) = (0 : Int32)) && (decide (r1.1 0 = r2.1.toInt64) && true)))) = true := by decide +kernel
  obtain ⟨r1, h1, h⟩ := pckE h
  obtain ⟨r2, h2, h⟩ := pckE h
  obtain ⟨he4, h⟩ := pand h
  have he4 := of_decide_eq_true he4
  obtain ⟨he5, h⟩ := pand h
  have he5 := of_decide_eq_true he5
  exact ⟨r1, r2, h1, h2, he4, he5⟩
theorem pq14_2 : ∃ r1 : (Nat → Int64) × (Nat → Int64) × (Nat → Int64), ∃ r2 : Int32 × Int32 × (Nat → Int64) × (Nat → Int32), (fL_best 1 (fun _ => 0) 4 0 (fun _ => 0) (fun _ => 0) (fun _ => 0) (fun _ => 0) 0 (fun _ => 0) (fun _ => 0) (fun _ => 0) 0 (fun _ => 0) (fun _ => 0) (fun _ => 0) 0 0 P0 (fun _ => 0) (fun _ => 0) (nI 2) = some r1) ∧ (fX11_best N0 T0 (fun _ => 0) (fun _ => 0) (fun _ => 0) (fun _ => 0) (fun _ => 0) (fun _ => 0) (fun _ => 0) (fun _ => 0) (nI 2) = some r2) ∧ ((fX11_thrown r2.2.1) = (0 : Int32)) ∧ (r1.1 0 = r2.1.toInt64) := by
  have h : pck (fL_best 1 (fun _ => 0) 4 0 (fun _ => 0) (fun _ => 0) (fun _ => 0) (fun _ => 0) 0 (fun _ => 0) (fun _ => 0) (fun _ => 0) 0 (fun _ => 0) (fun _ => 0) (fun _ => 0) 0 0 P0 (fun _ => 0) (fun _ => 0) (nI 2)) (fun r1 => pck (fX11_best N0 T0 (fun _ => 0) (fun _ => 0) (fun _ => 0) (fun _ => 0) (fun _ => 0) (fun _ => 0) (fun _ => 0) (fun _ => 0) (nI 2)) (fun r2 => (decide ((fX11_thrown r2.2.1) = (0 : Int32)) && (decide (r1.1 0 = r2.1.toInt64) && true)))) = true := by decide +kernel
  obtain ⟨r1, h1, h⟩ := pckE h
  obtain ⟨r2, h2, h⟩ := pckE h
  obtain ⟨he4, h⟩ := pand h
  have he4 := of_decide_eq_true he4
  obtain ⟨he5, h⟩ := pand h
  have he5 := of_decide_eq_true he5
  exact ⟨r1, r2, h1, h2, he4, he5⟩
theorem pq15_0 : ∃ r1 : (Nat → Int64) × (Nat → Int64) × (Nat → Int64) × Int32 × Int32 × Int32 × Int32 × (Nat → Int32), ∃ r2 : Int32 × Int32 × (Nat → Int64) × (Nat → Int32) × (Nat → Int32) × (Nat → Int32), (fL_plan 1 (fun _ => 0) 4 0 (fun _ => 0) (fun _ => 0) (fun _ => 0) (fun _ => 0) 0 (fun _ => 0) (fun _ => 0) (fun _ => 0) 0 (fun _ => 0) (fun _ => 0) (fun _ => 0) 0 0 4 P0 (fun _ => 0) (fun _ => 0) (fun _ => 0) (nI 0) = some r1) ∧ (fX11_plan N0 T0 (fun _ => 0) (fun _ => 0) (fun _ => 0) (fun _ => 0) (fun _ => 0) (fun _ => 0) (fun _ => 0) (fun _ => 0) (fun _ => 0) (fun _ => 0) (nI 0) = some r2) ∧ ((fX11_thrown r2.2.1) = (0 : Int32)) ∧ (r1.1 0 = r2.1.toInt64) := by
  have h : pck (fL_plan 1 (fun _ => 0) 4 0 (fun _ => 0) (fun _ => 0) (fun _ => 0) (fun _ => 0) 0 (fun _ => 0) (fun _ => 0) (fun _ => 0) 0 (fun _ => 0) (fun _ => 0) (fun _ => 0) 0 0 4 P0 (fun _ => 0) (fun _ => 0) (fun _ => 0) (nI 0)) (fun r1 => pck (fX11_plan N0 T0 (fun _ => 0) (fun _ => 0) (fun _ => 0) (fun _ => 0) (fun _ => 0) (fun _ => 0) (fun _ => 0) (fun _ => 0) (fun _ => 0) (fun _ => 0) (nI 0)) (fun r2 => (decide ((fX11_thrown r2.2.1) = (0 : Int32)) && (decide (r1.1 0 = r2.1.toInt64) && true)))) = true := by decide +kernel
  obtain ⟨r1, h1, h⟩ := pckE h
  obtain ⟨r2, h2, h⟩ := pckE h
  obtain ⟨he4, h⟩ := pand h
  have he4 := of_decide_eq_true he4
  obtain ⟨he5, h⟩ := pand h
  have he5 := of_decide_eq_true he5
  exact ⟨r1, r2, h1, h2, he4, he5⟩
theorem pq15_1 : ∃ r1 : (Nat → Int64) × (Nat → Int64) × (Nat → Int64) × Int32 × Int32 × Int32 × Int32 × (Nat → Int32), ∃ r2 : Int32 × Int32 × (Nat → Int64) × (Nat → Int32) × (Nat → Int32) × (Nat → Int32), (fL_plan 1 (fun _ => 0) 4 0 (fun _ => 0) (fun _ => 0) (fun _ => 0) (fun _ => 0) 0 (fun _ => 0) (fun _ => 0) (fun _ => 0) 0 (fun _ => 0) (fun _ => 0) (fun _ => 0) 0 0 4 P0 (fun _ => 0) (fun _ => 0) (fun _ => 0) (nI 1) = some r1) ∧ (fX11_plan N0 T0 (fun _ => 0) (fun _ => 0) (fun _ => 0) (fun _ => 0) (fun _ => 0) (fun _ => 0) (fun _ => 0) (fun _ => 0) (fun _ => 0) (fun _ => 0) (nI 1) = some r2) ∧ ((fX11_thrown r2.2.1) = (0 : Int32)) ∧ (r1.1 0 = r2.1.toInt64) := by
  have h : pck (fL_plan 1 (fun _ => 0) 4 0 (fun _ => 0) (fun _ => 0) (fun _ => 0) (fun _ => 0) 0 (fun _ => 0) (fun _ => 0) (fun _ => 0) 0 (fun _ => 0) (fun _ => 0) (fun _ => 0) 0 0 4 P0 (fun _ => 0) (fun _ => 0) (fun _ => 0) (nI 1)) (fun r1 => pck (fX11_plan N0 T0 (fun _ => 0) (fun _ => 0) (fun _ => 0) (fun _ => 0) (fun _ => 0) (fun _ => 0) (fun _ => 0) (fun _ => 0) (fun _ => 0) (fun _ => 0) (nI 1)) (fun r2 => (decide ((fX11_thrown r2.2.1) = (0 : Int32)) && (decide (r1.1 0 = r2.1.toInt64) && true)))) = true := by decide +kernel
  obtain ⟨r1, h1, h⟩ := pckE h
  obtain ⟨r2, h2, h⟩ := pckE h
  obtain ⟨he4, h⟩ := pand h
  have he4 := of_decide_eq_true he4
  obtain ⟨he5, h⟩ := pand h
  have he5 := of_decide_eq_true he5
  exact ⟨r1, r2, h1, h2, he4, he5⟩
theorem pq15_2 : ∃ r1 : (Nat → Int64) × (Nat → Int64) × (Nat → Int64) × Int32 × Int32 × Int32 × Int32 × (Nat → Int32), ∃ r2 : Int32 × Int32 × (Nat → Int64) × (Nat → Int32) × (Nat → Int32) × (Nat → Int32), (fL_plan 1 (fun _ => 0) 4 0 (fun _ => 0) (fun _ => 0) (fun _ => 0) (fun _ => 0) 0 (fun _ => 0) (fun _ => 0) (fun _ => 0) 0 (fun _ => 0) (fun _ => 0) (fun _ => 0) 0 0 4 P0 (fun _ => 0) (fun _ => 0) (fun _ => 0) (nI 2) = some r1) ∧ (fX11_plan N0 T0 (fun _ => 0) (fun _ => 0) (fun _ => 0) (fun _ => 0) (fun _ => 0) (fun _ => 0) (fun _ => 0) (fun _ => 0) (fun _ => 0) (fun _ => 0) (nI 2) = some r2) ∧ ((fX11_thrown r2.2.1) = (0 : Int32)) ∧ (r1.1 0 = r2.1.toInt64) := by
  have h : pck (fL_plan 1 (fun _ => 0) 4 0 (fun _ => 0) (fun _ => 0) (fun _ => 0) (fun _ => 0) 0 (fun _ => 0) (fun _ => 0) (fun _ => 0) 0 (fun _ => 0) (fun _ => 0) (fun _ => 0) 0 0 4 P0 (fun _ => 0) (fun _ => 0) (fun _ => 0) (nI 2)) (fun r1 => pck (fX11_plan N0 T0 (fun _ => 0) (fun _ => 0) (fun _ => 0) (fun _ => 0) (fun _ => 0) (fun _ => 0) (fun _ => 0) (fun _ => 0) (fun _ => 0) (fun _ => 0) (nI 2)) (fun r2 => (decide ((fX11_thrown r2.2.1) = (0 : Int32)) && (decide (r1.1 0 = r2.1.toInt64) && true)))) = true := by decide +kernel
  obtain ⟨r1, h1, h⟩ := pckE h
  obtain ⟨r2, h2, h⟩ := pckE h
  obtain ⟨he4, h⟩ := pand h
  have he4 := of_decide_eq_true he4
  obtain ⟨he5, h⟩ := pand h
  have he5 := of_decide_eq_true he5
  exact ⟨r1, r2, h1, h2, he4, he5⟩
theorem pq15_3 : ∃ r1 : (Nat → Int64) × (Nat → Int64) × (Nat → Int64) × Int32 × Int32 × Int32 × Int32 × (Nat → Int32), ∃ r2 : Int32 × Int32 × (Nat → Int64) × (Nat → Int32) × (Nat → Int32) × (Nat → Int32), (fL_plan 1 (fun _ => 0) 4 0 (fun _ => 0) (fun _ => 0) (fun _ => 0) (fun _ => 0) 0 (fun _ => 0) (fun _ => 0) (fun _ => 0) 0 (fun _ => 0) (fun _ => 0) (fun _ => 0) 0 0 4 P0 (fun _ => 0) (fun _ => 0) (fun _ => 0) (nI 3) = some r1) ∧ (fX11_plan N0 T0 (fun _ => 0) (fun _ => 0) (fun _ => 0) (fun _ => 0) (fun _ => 0) (fun _ => 0) (fun _ => 0) (fun _ => 0) (fun _ => 0) (fun _ => 0) (nI 3) = some r2) ∧ ((fX11_thrown r2.2.1) = (0 : Int32)) ∧ (r1.1 0 = r2.1.toInt64) := by
  have h : pck (fL_plan 1 (fun _ => 0) 4 0 (fun _ => 0) (fun _ => 0) (fun _ => 0) (fun _ => 0) 0 (fun _ => 0) (fun _ => 0) (fun _ => 0) 0 (fun _ => 0) (fun _ => 0) (fun _ => 0) 0 0 4 P0 (fun _ => 0) (fun _ => 0) (fun _ => 0) (nI 3)) (fun r1 => pck (fX11_plan N0 T0 (fun _ => 0) (fun _ => 0) (fun _ => 0) (fun _ => 0) (fun _ => 0) (fun _ => 0) (fun _ => 0) (fun _ => 0) (fun _ => 0) (fun _ => 0) (nI 3)) (fun r2 => (decide ((fX11_thrown r2.2.1) = (0 : Int32)) && (decide (r1.1 0 = r2.1.toInt64) && true)))) = true := by decide +kernel
  obtain ⟨r1, h1, h⟩ := pckE h
  obtain ⟨r2, h2, h⟩ := pckE h
  obtain ⟨he4, h⟩ := pand h
  have he4 := of_decide_eq_true he4
  obtain ⟨he5, h⟩ := pand h
  have he5 := of_decide_eq_true he5
  exact ⟨r1, r2, h1, h2, he4, he5⟩
theorem pq16_0 : ∃ r1 : (Nat → Int64) × Int32 × Int32 × (Nat → Int32) × (Nat → Nat → Int32) × (Nat → Nat → Int32) × (Nat → Nat → Int32), ∃ r2 : Int32 × Int32 × Int32 × (Nat → Int32), (fL_fewest 1 (fun _ => 0) 4 0 (fun _ => 0) (fun _ => 0) (fun _ => 0) 0 (fun _ => 0) (fun _ => 0) (fun _ => 0) 0 (fun _ => 0) (fun _ => 0) (fun _ => 0) 0 0 4 P0 0 (fun _ => 0) (fun _ _ => 0) (fun _ _ => 0) (fun _ _ => 0) (nI 0) = some r1) ∧ (fX11_fewest 0 N0 T0 (fun _ => 0) (fun _ => 0) (fun _ => 0) (fun _ => 0) (fun _ => 0) (fun _ => 0) (nI 0) = some r2) ∧ ((fX11_thrown r2.2.1) = (0 : Int32)) ∧ (r1.1 0 = r2.1.toInt64) := by
  have h : pck (fL_fewest 1 (fun _ => 0) 4 0 (fun _ => 0) (fun _ => 0) (fun _ => 0) 0 (fun _ => 0) (fun _ => 0) (fun _ => 0) 0 (fun _ => 0) (fun _ => 0) (fun _ => 0) 0 0 4 P0 0 (fun _ => 0) (fun _ _ => 0) (fun _ _ => 0) (fun _ _ => 0) (nI 0)) (fun r1 => pck (fX11_fewest 0 N0 T0 (fun _ => 0) (fun _ => 0) (fun _ => 0) (fun _ => 0) (fun _ => 0) (fun _ => 0) (nI 0)) (fun r2 => (decide ((fX11_thrown r2.2.1) = (0 : Int32)) && (decide (r1.1 0 = r2.1.toInt64) && true)))) = true := by decide +kernel
  obtain ⟨r1, h1, h⟩ := pckE h
  obtain ⟨r2, h2, h⟩ := pckE h
  obtain ⟨he4, h⟩ := pand h
  have he4 := of_decide_eq_true he4
  obtain ⟨he5, h⟩ := pand h
  have he5 := of_decide_eq_true he5
  exact ⟨r1, r2, h1, h2, he4, he5⟩
theorem pq16_1 : ∃ r1 : (Nat → Int64) × Int32 × Int32 × (Nat → Int32) × (Nat → Nat → Int32) × (Nat → Nat → Int32) × (Nat → Nat → Int32), ∃ r2 : Int32 × Int32 × Int32 × (Nat → Int32), (fL_fewest 1 (fun _ => 0) 4 0 (fun _ => 0) (fun _ => 0) (fun _ => 0) 0 (fun _ => 0) (fun _ => 0) (fun _ => 0) 0 (fun _ => 0) (fun _ => 0) (fun _ => 0) 0 0 4 P0 0 (fun _ => 0) (fun _ _ => 0) (fun _ _ => 0) (fun _ _ => 0) (nI 1) = some r1) ∧ (fX11_fewest 0 N0 T0 (fun _ => 0) (fun _ => 0) (fun _ => 0) (fun _ => 0) (fun _ => 0) (fun _ => 0) (nI 1) = some r2) ∧ ((fX11_thrown r2.2.1) = (0 : Int32)) ∧ (r1.1 0 = r2.1.toInt64) := by
  have h : pck (fL_fewest 1 (fun _ => 0) 4 0 (fun _ => 0) (fun _ => 0) (fun _ => 0) 0 (fun _ => 0) (fun _ => 0) (fun _ => 0) 0 (fun _ => 0) (fun _ => 0) (fun _ => 0) 0 0 4 P0 0 (fun _ => 0) (fun _ _ => 0) (fun _ _ => 0) (fun _ _ => 0) (nI 1)) (fun r1 => pck (fX11_fewest 0 N0 T0 (fun _ => 0) (fun _ => 0) (fun _ => 0) (fun _ => 0) (fun _ => 0) (fun _ => 0) (nI 1)) (fun r2 => (decide ((fX11_thrown r2.2.1) = (0 : Int32)) && (decide (r1.1 0 = r2.1.toInt64) && true)))) = true := by decide +kernel
  obtain ⟨r1, h1, h⟩ := pckE h
  obtain ⟨r2, h2, h⟩ := pckE h
  obtain ⟨he4, h⟩ := pand h
  have he4 := of_decide_eq_true he4
  obtain ⟨he5, h⟩ := pand h
  have he5 := of_decide_eq_true he5
  exact ⟨r1, r2, h1, h2, he4, he5⟩
theorem pq16_2 : ∃ r1 : (Nat → Int64) × Int32 × Int32 × (Nat → Int32) × (Nat → Nat → Int32) × (Nat → Nat → Int32) × (Nat → Nat → Int32), ∃ r2 : Int32 × Int32 × Int32 × (Nat → Int32), (fL_fewest 1 (fun _ => 0) 4 0 (fun _ => 0) (fun _ => 0) (fun _ => 0) 0 (fun _ => 0) (fun _ => 0) (fun _ => 0) 0 (fun _ => 0) (fun _ => 0) (fun _ => 0) 0 0 4 P0 0 (fun _ => 0) (fun _ _ => 0) (fun _ _ => 0) (fun _ _ => 0) (nI 2) = some r1) ∧ (fX11_fewest 0 N0 T0 (fun _ => 0) (fun _ => 0) (fun _ => 0) (fun _ => 0) (fun _ => 0) (fun _ => 0) (nI 2) = some r2) ∧ ((fX11_thrown r2.2.1) = (0 : Int32)) ∧ (r1.1 0 = r2.1.toInt64) := by
  have h : pck (fL_fewest 1 (fun _ => 0) 4 0 (fun _ => 0) (fun _ => 0) (fun _ => 0) 0 (fun _ => 0) (fun _ => 0) (fun _ => 0) 0 (fun _ => 0) (fun _ => 0) (fun _ => 0) 0 0 4 P0 0 (fun _ => 0) (fun _ _ => 0) (fun _ _ => 0) (fun _ _ => 0) (nI 2)) (fun r1 => pck (fX11_fewest 0 N0 T0 (fun _ => 0) (fun _ => 0) (fun _ => 0) (fun _ => 0) (fun _ => 0) (fun _ => 0) (nI 2)) (fun r2 => (decide ((fX11_thrown r2.2.1) = (0 : Int32)) && (decide (r1.1 0 = r2.1.toInt64) && true)))) = true := by decide +kernel
  obtain ⟨r1, h1, h⟩ := pckE h
  obtain ⟨r2, h2, h⟩ := pckE h
  obtain ⟨he4, h⟩ := pand h
  have he4 := of_decide_eq_true he4
  obtain ⟨he5, h⟩ := pand h
  have he5 := of_decide_eq_true he5
  exact ⟨r1, r2, h1, h2, he4, he5⟩
theorem pq16_3 : ∃ r1 : (Nat → Int64) × Int32 × Int32 × (Nat → Int32) × (Nat → Nat → Int32) × (Nat → Nat → Int32) × (Nat → Nat → Int32), ∃ r2 : Int32 × Int32 × Int32 × (Nat → Int32), (fL_fewest 1 (fun _ => 0) 4 0 (fun _ => 0) (fun _ => 0) (fun _ => 0) 0 (fun _ => 0) (fun _ => 0) (fun _ => 0) 0 (fun _ => 0) (fun _ => 0) (fun _ => 0) 0 0 4 P0 0 (fun _ => 0) (fun _ _ => 0) (fun _ _ => 0) (fun _ _ => 0) (nI 3) = some r1) ∧ (fX11_fewest 0 N0 T0 (fun _ => 0) (fun _ => 0) (fun _ => 0) (fun _ => 0) (fun _ => 0) (fun _ => 0) (nI 3) = some r2) ∧ ((fX11_thrown r2.2.1) = (0 : Int32)) ∧ (r1.1 0 = r2.1.toInt64) := by
  have h : pck (fL_fewest 1 (fun _ => 0) 4 0 (fun _ => 0) (fun _ => 0) (fun _ => 0) 0 (fun _ => 0) (fun _ => 0) (fun _ => 0) 0 (fun _ => 0) (fun _ => 0) (fun _ => 0) 0 0 4 P0 0 (fun _ => 0) (fun _ _ => 0) (fun _ _ => 0) (fun _ _ => 0) (nI 3)) (fun r1 => pck (fX11_fewest 0 N0 T0 (fun _ => 0) (fun _ => 0) (fun _ => 0) (fun _ => 0) (fun _ => 0) (fun _ => 0) (nI 3)) (fun r2 => (decide ((fX11_thrown r2.2.1) = (0 : Int32)) && (decide (r1.1 0 = r2.1.toInt64) && true)))) = true := by decide +kernel
  obtain ⟨r1, h1, h⟩ := pckE h
  obtain ⟨r2, h2, h⟩ := pckE h
  obtain ⟨he4, h⟩ := pand h
  have he4 := of_decide_eq_true he4
  obtain ⟨he5, h⟩ := pand h
  have he5 := of_decide_eq_true he5
  exact ⟨r1, r2, h1, h2, he4, he5⟩
theorem pq16_4 : ∃ r1 : (Nat → Int64) × Int32 × Int32 × (Nat → Int32) × (Nat → Nat → Int32) × (Nat → Nat → Int32) × (Nat → Nat → Int32), ∃ r2 : Int32 × Int32 × Int32 × (Nat → Int32), (fL_fewest 1 (fun _ => 0) 4 0 (fun _ => 0) (fun _ => 0) (fun _ => 0) 0 (fun _ => 0) (fun _ => 0) (fun _ => 0) 0 (fun _ => 0) (fun _ => 0) (fun _ => 0) 0 0 4 P0 0 (fun _ => 0) (fun _ _ => 0) (fun _ _ => 0) (fun _ _ => 0) (nI 4) = some r1) ∧ (fX11_fewest 0 N0 T0 (fun _ => 0) (fun _ => 0) (fun _ => 0) (fun _ => 0) (fun _ => 0) (fun _ => 0) (nI 4) = some r2) ∧ ((fX11_thrown r2.2.1) = (0 : Int32)) ∧ (r1.1 0 = r2.1.toInt64) := by
  have h : pck (fL_fewest 1 (fun _ => 0) 4 0 (fun _ => 0) (fun _ => 0) (fun _ => 0) 0 (fun _ => 0) (fun _ => 0) (fun _ => 0) 0 (fun _ => 0) (fun _ => 0) (fun _ => 0) 0 0 4 P0 0 (fun _ => 0) (fun _ _ => 0) (fun _ _ => 0) (fun _ _ => 0) (nI 4)) (fun r1 => pck (fX11_fewest 0 N0 T0 (fun _ => 0) (fun _ => 0) (fun _ => 0) (fun _ => 0) (fun _ => 0) (fun _ => 0) (nI 4)) (fun r2 => (decide ((fX11_thrown r2.2.1) = (0 : Int32)) && (decide (r1.1 0 = r2.1.toInt64) && true)))) = true := by decide +kernel
  obtain ⟨r1, h1, h⟩ := pckE h
  obtain ⟨r2, h2, h⟩ := pckE h
  obtain ⟨he4, h⟩ := pand h
  have he4 := of_decide_eq_true he4
  obtain ⟨he5, h⟩ := pand h
  have he5 := of_decide_eq_true he5
  exact ⟨r1, r2, h1, h2, he4, he5⟩
theorem pq29_0 : ∃ r1 : (Nat → Int64) × (Nat → Int32) × (Nat → Int32) × (Nat → Int32) × (Nat → Int32) × (Nat → Option Nat) × (Nat → Int32) × (Nat → Nat → Int32) × (Nat → Int32), ∃ r2 : Int32 × Int32 × (Nat → Int32) × (Nat → Int32), (fL_saveSnapshot 1 (fun _ => 0) 0 0 0 0 none 4 P0 (fun _ => 0) (fun _ => 0) (fun _ => 0) (fun _ => 0) (fun _ => none) (fun _ => 0) (fun _ _ => 0) (fun _ => 0) (nI 0) = some r1) ∧ (fX11_saveSnapshot N0 (fun _ => 0) B0 (nI 0) = some r2) ∧ ((fX11_thrown r2.2.1) = (0 : Int32)) ∧ (r1.1 0 = if r2.1 = 0 then (0 : Int64) else 1) := by
  have h : pck (fL_saveSnapshot 1 (fun _ => 0) 0 0 0 0 none 4 P0 (fun _ => 0) (fun _ => 0) (fun _ => 0) (fun _ => 0) (fun _ => none) (fun _ => 0) (fun _ _ => 0) (fun _ => 0) (nI 0)) (fun r1 => pck (fX11_saveSnapshot N0 (fun _ => 0) B0 (nI 0)) (fun r2 => (decide ((fX11_thrown r2.2.1) = (0 : Int32)) && (decide (r1.1 0 = if r2.1 = 0 then (0 : Int64) else 1) && true)))) = true := by decide +kernel
  obtain ⟨r1, h1, h⟩ := pckE h
  obtain ⟨r2, h2, h⟩ := pckE h
  obtain ⟨he4, h⟩ := pand h
  have he4 := of_decide_eq_true he4
  obtain ⟨hb5, h⟩ := pand h
  have hb5 := of_decide_eq_true hb5
  exact ⟨r1, r2, h1, h2, he4, hb5⟩
theorem pq29_1 : ∃ r1 : (Nat → Int64) × (Nat → Int32) × (Nat → Int32) × (Nat → Int32) × (Nat → Int32) × (Nat → Option Nat) × (Nat → Int32) × (Nat → Nat → Int32) × (Nat → Int32), ∃ r2 : Int32 × Int32 × (Nat → Int32) × (Nat → Int32), (fL_saveSnapshot 1 (fun _ => 0) 0 0 0 0 none 4 P0 (fun _ => 0) (fun _ => 0) (fun _ => 0) (fun _ => 0) (fun _ => none) (fun _ => 0) (fun _ _ => 0) (fun _ => 0) (nI 1) = some r1) ∧ (fX11_saveSnapshot N0 (fun _ => 0) B0 (nI 1) = some r2) ∧ ((fX11_thrown r2.2.1) = (0 : Int32)) ∧ (r1.1 0 = if r2.1 = 0 then (0 : Int64) else 1) := by
  have h : pck (fL_saveSnapshot 1 (fun _ => 0) 0 0 0 0 none 4 P0 (fun _ => 0) (fun _ => 0) (fun _ => 0) (fun _ => 0) (fun _ => none) (fun _ => 0) (fun _ _ => 0) (fun _ => 0) (nI 1)) (fun r1 => pck (fX11_saveSnapshot N0 (fun _ => 0) B0 (nI 1)) (fun r2 => (decide ((fX11_thrown r2.2.1) = (0 : Int32)) && (decide (r1.1 0 = if r2.1 = 0 then (0 : Int64) else 1) && true)))) = true := by decide +kernel
  obtain ⟨r1, h1, h⟩ := pckE h
  obtain ⟨r2, h2, h⟩ := pckE h
  obtain ⟨he4, h⟩ := pand h
  have he4 := of_decide_eq_true he4
  obtain ⟨hb5, h⟩ := pand h
  have hb5 := of_decide_eq_true hb5
  exact ⟨r1, r2, h1, h2, he4, hb5⟩
theorem pq1_0 : ∃ r1 : (Nat → Int64) × Int32 × Int32 × Int32 × Int32 × Int32 × Int32 × Int32 × Int32 × Int32 × Int32 × (Nat → Int32) × (Nat → Int32) × (Nat → Int32) × (Nat → Int32) × Int32 × (Nat → Int32) × (Nat → Int32) × (Nat → Int32) × Int32 × (Nat → Int32) × (Nat → Int32) × (Nat → Int32) × Int32 × Int32 × Int32 × Int32 × (Option Nat) × Int32 × (Nat → Int32) × Int32 × (Nat → Int32), ∃ r2 : Int32 × Int32 × Int32 × Int32 × Int32 × Int32 × Int32 × Int32 × Int32 × Int32 × Int32 × Int32 × Int32 × (Nat → Int32) × (Nat → Int32) × (Nat → Int32) × (Nat → Int32) × (Nat → Int32) × (Nat → Int32) × (Nat → Int32) × (Nat → Int32) × (Nat → Int32), (fL_parse_ok 1 (fun _ => 0) 0 0 0 0 (fun _ => 0) (fun _ => 0) (fun _ => 0) (fun _ => 0) (fun _ => 0) (fun _ => 0) (fun _ => 0) (fun _ => 0) (fun _ => 0) (fun _ => 0) (fun _ => 0) P0 (fun _ => 0) (nI 0) = some r1) ∧ (fX11_parse 0 0 0 0 0 0 0 (-1) 0 0 0 N0 T0 (fun _ => 0) (fun _ => 0) (fun _ => 0) (fun _ => 0) (fun _ => 0) (fun _ => 0) (fun _ => 0) B0 (nI 0) = some r2) ∧ ((fX11_thrown r2.2.1) = (0 : Int32)) ∧ (r1.1 0 = r2.1.toInt64) := by
  have h : pck (fL_parse_ok 1 (fun _ => 0) 0 0 0 0 (fun _ => 0) (fun _ => 0) (fun _ => 0) (fun _ => 0) (fun _ => 0) (fun _ => 0) (fun _ => 0) (fun _ => 0) (fun _ => 0) (fun _ => 0) (fun _ => 0) P0 (fun _ => 0) (nI 0)) (fun r1 => pck (fX11_parse 0 0 0 0 0 0 0 (-1) 0 0 0 N0 T0 (fun _ => 0) (fun _ => 0) (fun _ => 0) (fun _ => 0) (fun _ => 0) (fun _ => 0) (fun _ => 0) B0 (nI 0)) (fun r2 => (decide ((fX11_thrown r2.2.1) = (0 : Int32)) && (decide (r1.1 0 = r2.1.toInt64) && true)))) = true := by decide +kernel
  obtain ⟨r1, h1, h⟩ := pckE h
  obtain ⟨r2, h2, h⟩ := pckE h
  obtain ⟨he4, h⟩ := pand h
  have he4 := of_decide_eq_true he4
  obtain ⟨he5, h⟩ := pand h
  have he5 := of_decide_eq_true he5
  exact ⟨r1, r2, h1, h2, he4, he5⟩
theorem pq30_0 : ∃ r2 : Int32 × Int32 × Int32 × (Nat → Int32), (tX10_restoreSnapshot_S (fun _ => 0) (nI 0) = some ()) ∧ (fX11_restoreSnapshot 0 N0 (fun _ => 0) B0 (nI 0) = some r2) ∧ ((fX11_thrown r2.2.1) = (2 : Int32)) := by
  have h : (decide (tX10_restoreSnapshot_S (fun _ => 0) (nI 0) = some ()) && pck (fX11_restoreSnapshot 0 N0 (fun _ => 0) B0 (nI 0)) (fun r2 => (decide ((fX11_thrown r2.2.1) = (2 : Int32)) && true))) = true := by decide +kernel
  obtain ⟨h1, h⟩ := pand h
  have h1 := of_decide_eq_true h1
  obtain ⟨r2, h2, h⟩ := pckE h
  obtain ⟨he4, h⟩ := pand h
  have he4 := of_decide_eq_true he4
  exact ⟨r2, h1, h2, he4⟩
theorem pq30_1 : ∃ r2 : Int32 × Int32 × Int32 × (Nat → Int32), (tX10_restoreSnapshot_S (fun _ => 0) (nI 1) = some ()) ∧ (fX11_restoreSnapshot 0 N0 (fun _ => 0) B0 (nI 1) = some r2) ∧ ((fX11_thrown r2.2.1) = (2 : Int32)) := by
  have h : (decide (tX10_restoreSnapshot_S (fun _ => 0) (nI 1) = some ()) && pck (fX11_restoreSnapshot 0 N0 (fun _ => 0) B0 (nI 1)) (fun r2 => (decide ((fX11_thrown r2.2.1) = (2 : Int32)) && true))) = true := by decide +kernel
  obtain ⟨h1, h⟩ := pand h
  have h1 := of_decide_eq_true h1
  obtain ⟨r2, h2, h⟩ := pckE h
  obtain ⟨he4, h⟩ := pand h
  have he4 := of_decide_eq_true he4
  exact ⟨r2, h1, h2, he4⟩
theorem pq18_0_0 : ∃ r1 : (Nat → Int64), ∃ r2 : Int32 × Int32 × (Nat → Int32) × (Nat → Int32), (fL_soonest 1 (fun _ => 0) 4 0 (fun _ => 0) (fun _ => 0) (fun _ => 0) 0 (fun _ => 0) (fun _ => 0) (fun _ => 0) 0 (fun _ => 0) (fun _ => 0) (fun _ => 0) 0 0 4 P0 (nI 0) (nI 0) = some r1) ∧ (fX11_soonest N0 T0 (fun _ => 0) (fun _ => 0) (fun _ => 0) (fun _ => 0) (fun _ => 0) (fun _ => 0) (fun _ => 0) (nI 0) (nI 0) = some r2) ∧ ((fX11_thrown r2.2.1) = (0 : Int32)) ∧ (r1 0 = r2.1.toInt64) := by
  have h : pck (fL_soonest 1 (fun _ => 0) 4 0 (fun _ => 0) (fun _ => 0) (fun _ => 0) 0 (fun _ => 0) (fun _ => 0) (fun _ => 0) 0 (fun _ => 0) (fun _ => 0) (fun _ => 0) 0 0 4 P0 (nI 0) (nI 0)) (fun r1 => pck (fX11_soonest N0 T0 (fun _ => 0) (fun _ => 0) (fun _ => 0) (fun _ => 0) (fun _ => 0) (fun _ => 0) (fun _ => 0) (nI 0) (nI 0)) (fun r2 => (decide ((fX11_thrown r2.2.1) = (0 : Int32)) && (decide (r1 0 = r2.1.toInt64) && true)))) = true := by decide +kernel
  obtain ⟨r1, h1, h⟩ := pckE h
  obtain ⟨r2, h2, h⟩ := pckE h
  obtain ⟨he4, h⟩ := pand h
  have he4 := of_decide_eq_true he4
  obtain ⟨he5, h⟩ := pand h
  have he5 := of_decide_eq_true he5
  exact ⟨r1, r2, h1, h2, he4, he5⟩
theorem pq18_0_1 : ∃ r1 : (Nat → Int64), ∃ r2 : Int32 × Int32 × (Nat → Int32) × (Nat → Int32), (fL_soonest 1 (fun _ => 0) 4 0 (fun _ => 0) (fun _ => 0) (fun _ => 0) 0 (fun _ => 0) (fun _ => 0) (fun _ => 0) 0 (fun _ => 0) (fun _ => 0) (fun _ => 0) 0 0 4 P0 (nI 0) (nI 1) = some r1) ∧ (fX11_soonest N0 T0 (fun _ => 0) (fun _ => 0) (fun _ => 0) (fun _ => 0) (fun _ => 0) (fun _ => 0) (fun _ => 0) (nI 0) (nI 1) = some r2) ∧ ((fX11_thrown r2.2.1) = (0 : Int32)) ∧ (r1 0 = r2.1.toInt64) := by
  have h : pck (fL_soonest 1 (fun _ => 0) 4 0 (fun _ => 0) (fun _ => 0) (fun _ => 0) 0 (fun _ => 0) (fun _ => 0) (fun _ => 0) 0 (fun _ => 0) (fun _ => 0) (fun _ => 0) 0 0 4 P0 (nI 0) (nI 1)) (fun r1 => pck (fX11_soonest N0 T0 (fun _ => 0) (fun _ => 0) (fun _ => 0) (fun _ => 0) (fun _ => 0) (fun _ => 0) (fun _ => 0) (nI 0) (nI 1)) (fun r2 => (decide ((fX11_thrown r2.2.1) = (0 : Int32)) && (decide (r1 0 = r2.1.toInt64) && true)))) = true := by decide +kernel
  obtain ⟨r1, h1, h⟩ := pckE h
  obtain ⟨r2, h2, h⟩ := pckE h
  obtain ⟨he4, h⟩ := pand h
  have he4 := of_decide_eq_true he4
  obtain ⟨he5, h⟩ := pand h
  have he5 := of_decide_eq_true he5
  exact ⟨r1, r2, h1, h2, he4, he5⟩
theorem pq18_0_2 : ∃ r1 : (Nat → Int64), ∃ r2 : Int32 × Int32 × (Nat → Int32) × (Nat → Int32), (fL_soonest 1 (fun _ => 0) 4 0 (fun _ => 0) (fun _ => 0) (fun _ => 0) 0 (fun _ => 0) (fun _ => 0) (fun _ => 0) 0 (fun _ => 0) (fun _ => 0) (fun _ => 0) 0 0 4 P0 (nI 0) (nI 2) = some r1) ∧ (fX11_soonest N0 T0 (fun _ => 0) (fun _ => 0) (fun _ => 0) (fun _ => 0) (fun _ => 0) (fun _ => 0) (fun _ => 0) (nI 0) (nI 2) = some r2) ∧ ((fX11_thrown r2.2.1) = (0 : Int32)) ∧ (r1 0 = r2.1.toInt64) := by
  have h : pck (fL_soonest 1 (fun _ => 0) 4 0 (fun _ => 0) (fun _ => 0) (fun _ => 0) 0 (fun _ => 0) (fun _ => 0) (fun _ => 0) 0 (fun _ => 0) (fun _ => 0) (fun _ => 0) 0 0 4 P0 (nI 0) (nI 2)) (fun r1 => pck (fX11_soonest N0 T0 (fun _ => 0) (fun _ => 0) (fun _ => 0) (fun _ => 0) (fun _ => 0) (fun _ => 0) (fun _ => 0) (nI 0) (nI 2)) (fun r2 => (decide ((fX11_thrown r2.2.1) = (0 : Int32)) && (decide (r1 0 = r2.1.toInt64) && true)))) = true := by decide +kernel
  obtain ⟨r1, h1, h⟩ := pckE h
  obtain ⟨r2, h2, h⟩ := pckE h
  obtain ⟨he4, h⟩ := pand h
  have he4 := of_decide_eq_true he4
  obtain ⟨he5, h⟩ := pand h
  have he5 := of_decide_eq_true he5
  exact ⟨r1, r2, h1, h2, he4, he5⟩
theorem pq18_0_3 : ∃ r1 : (Nat → Int64), ∃ r2 : Int32 × Int32 × (Nat → Int32) × (Nat → Int32), (fL_soonest 1 (fun _ => 0) 4 0 (fun _ => 0) (fun _ => 0) (fun _ => 0) 0 (fun _ => 0) (fun _ => 0) (fun _ => 0) 0 (fun _ => 0) (fun _ => 0) (fun _ => 0) 0 0 4 P0 (nI 0) (nI 3) = some r1) ∧ (fX11_soonest N0 T0 (fun _ => 0) (fun _ => 0) (fun _ => 0) (fun _ => 0) (fun _ => 0) (fun _ => 0) (fun _ => 0) (nI 0) (nI 3) = some r2) ∧ ((fX11_thrown r2.2.1) = (0 : Int32)) ∧ (r1 0 = r2.1.toInt64) := by
  have h : pck (fL_soonest 1 (fun _ => 0) 4 0 (fun _ => 0) (fun _ => 0) (fun _ => 0) 0 (fun _ => 0) (fun _ => 0) (fun _ => 0) 0 (fun _ => 0) (fun _ => 0) (fun _ => 0) 0 0 4 P0 (nI 0) (nI 3)) (fun r1 => pck (fX11_soonest N0 T0 (fun _ => 0) (fun _ => 0) (fun _ => 0) (fun _ => 0) (fun _ => 0) (fun _ => 0) (fun _ => 0) (nI 0) (nI 3)) (fun r2 => (decide ((fX11_thrown r2.2.1) = (0 : Int32)) && (decide (r1 0 = r2.1.toInt64) && true)))) = true := by decide +kernel
  obtain ⟨r1, h1, h⟩ := pckE h
  obtain ⟨r2, h2, h⟩ := pckE h
  obtain ⟨he4, h⟩ := pand h
  have he4 := of_decide_eq_true he4
  obtain ⟨he5, h⟩ := pand h
  have he5 := of_decide_eq_true he5
  exact ⟨r1, r2, h1, h2, he4, he5⟩
theorem pq18_1_0 : ∃ r1 : (Nat → Int64), ∃ r2 : Int32 × Int32 × (Nat → Int32) × (Nat → Int32), (fL_soonest 1 (fun _ => 0) 4 0 (fun _ => 0) (fun _ => 0) (fun _ => 0) 0 (fun _ => 0) (fun _ => 0) (fun _ => 0) 0 (fun _ => 0) (fun _ => 0) (fun _ => 0) 0 0 4 P0 (nI 1) (nI 0) = some r1) ∧ (fX11_soonest N0 T0 (fun _ => 0) (fun _ => 0) (fun _ => 0) (fun _ => 0) (fun _ => 0) (fun _ => 0) (fun _ => 0) (nI 1) (nI 0) = some r2) ∧ ((fX11_thrown r2.2.1) = (0 : Int32)) ∧ (r1 0 = r2.1.toInt64) := by
  have h : pck (fL_soonest 1 (fun _ => 0) 4 0 (fun _ => 0) (fun _ => 0) (fun _ => 0) 0 (fun _ => 0) (fun _ => 0) (fun _ => 0) 0 (fun _ => 0) (fun _ => 0) (fun _ => 0) 0 0 4 P0 (nI 1) (nI 0)) (fun r1 => pck (fX11_soonest N0 T0 (fun _ => 0) (fun _ => 0) (fun _ => 0) (fun _ => 0) (fun _ => 0) (fun _ => 0) (fun _ => 0) (nI 1) (nI 0)) (fun r2 => (decide ((fX11_thrown r2.2.1) = (0 : Int32)) && (decide (r1 0 = r2.1.toInt64) && true)))) = true := by decide +kernel
  obtain ⟨r1, h1, h⟩ := pckE h
  obtain ⟨r2, h2, h⟩ := pckE h
  obtain ⟨he4, h⟩ := pand h
  have he4 := of_decide_eq_true he4
  obtain ⟨he5, h⟩ := pand h
  have he5 := of_decide_eq_true he5
  exact ⟨r1, r2, h1, h2, he4, he5⟩
theorem pq18_1_1 : ∃ r1 : (Nat → Int64), ∃ r2 : Int32 × Int32 × (Nat → Int32) × (Nat → Int32), (fL_soonest 1 (fun _ => 0) 4 0 (fun _ => 0) (fun _ => 0) (fun _ => 0) 0 (fun _ => 0) (fun _ => 0) (fun _ => 0) 0 (fun _ => 0) (fun _ => 0) (fun _ => 0) 0 0 4 P0 (nI 1) (nI 1) = some r1) ∧ (fX11_soonest N0 T0 (fun _ => 0) (fun _ => 0) (fun _ => 0) (fun _ => 0) (fun _ => 0) (fun _ => 0) (fun _ => 0) (nI 1) (nI 1) = some r2) ∧ ((fX11_thrown r2.2.1) = (0 : Int32)) ∧ (r1 0 = r2.1.toInt64) := by
  have h : pck (fL_soonest 1 (fun _ => 0) 4 0 (fun _ => 0) (fun _ => 0) (fun _ => 0) 0 (fun _ => 0) (fun _ => 0) (fun _ => 0) 0 (fun _ => 0) (fun _ => 0) (fun _ => 0) 0 0 4 P0 (nI 1) (nI 1)) (fun r1 => pck (fX11_soonest N0 T0 (fun _ => 0) (fun _ => 0) (fun _ => 0) (fun _ => 0) (fun _ => 0) (fun _ => 0) (fun _ => 0) (nI 1) (nI 1)) (fun r2 => (decide ((fX11_thrown r2.2.1) = (0 : Int32)) && (decide (r1 0 = r2.1.toInt64) && true)))) = true := by decide +kernel
  obtain ⟨r1, h1, h⟩ := pckE h
  obtain ⟨r2, h2, h⟩ := pckE h
  obtain ⟨he4, h⟩ := pand h
  have he4 := of_decide_eq_true he4
  obtain ⟨he5, h⟩ := pand h
  have he5 := of_decide_eq_true he5
  exact ⟨r1, r2, h1, h2, he4, he5⟩
theorem pq18_1_2 : ∃ r1 : (Nat → Int64), ∃ r2 : Int32 × Int32 × (Nat → Int32) × (Nat → Int32), (fL_soonest 1 (fun _ => 0) 4 0 (fun _ => 0) (fun _ => 0) (fun _ => 0) 0 (fun _ => 0) (fun _ => 0) (fun _ => 0) 0 (fun _ => 0) (fun _ => 0) (fun _ => 0) 0 0 4 P0 (nI 1) (nI 2) = some r1) ∧ (fX11_soonest N0 T0 (fun _ => 0) (fun _ => 0) (fun _ => 0) (fun _ => 0) (fun _ => 0) (fun _ => 0) (fun _ => 0) (nI 1) (nI 2) = some r2) ∧ ((fX11_thrown r2.2.1) = (0 : Int32)) ∧ (r1 0 = r2.1.toInt64) := by
  have h : pck (fL_soonest 1 (fun _ => 0) 4 0 (fun _ => 0) (fun _ => 0) (fun _ => 0) 0 (fun _ => 0) (fun _ => 0) (fun _ => 0) 0 (fun _ => 0) (fun _ => 0) (fun _ => 0) 0 0 4 P0 (nI 1) (nI 2)) (fun r1 => pck (fX11_soonest N0 T0 (fun _ => 0) (fun _ => 0) (fun _ => 0) (fun _ => 0) (fun _ => 0) (fun _ => 0) (fun _ => 0) (nI 1) (nI 2)) (fun r2 => (decide ((fX11_thrown r2.2.1) = (0 : Int32)) && (decide (r1 0 = r2.1.toInt64) && true)))) = true := by decide +kernel
  obtain ⟨r1, h1, h⟩ := pckE h
  obtain ⟨r2, h2, h⟩ := pckE h
  obtain ⟨he4, h⟩ := pand h
  have he4 := of_decide_eq_true he4
  obtain ⟨he5, h⟩ := pand h
  have he5 := of_decide_eq_true he5
  exact ⟨r1, r2, h1, h2, he4, he5⟩
theorem pq18_1_3 : ∃ r1 : (Nat → Int64), ∃ r2 : Int32 × Int32 × (Nat → Int32) × (Nat → Int32), (fL_soonest 1 (fun _ => 0) 4 0 (fun _ => 0) (fun _ => 0) (fun _ => 0) 0 (fun _ => 0) (fun _ => 0) (fun _ => 0) 0 (fun _ => 0) (fun _ => 0) (fun _ => 0) 0 0 4 P0 (nI 1) (nI 3) = some r1) ∧ (fX11_soonest N0 T0 (fun _ => 0) (fun _ => 0) (fun _ => 0) (fun _ => 0) (fun _ => 0) (fun _ => 0) (fun _ => 0) (nI 1) (nI 3) = some r2) ∧ ((fX11_thrown r2.2.1) = (0 : Int32)) ∧ (r1 0 = r2.1.toInt64) := by
  have h : pck (fL_soonest 1 (fun _ => 0) 4 0 (fun _ => 0) (fun _ => 0) (fun _ => 0) 0 (fun _ => 0) (fun _ => 0) (fun _ => 0) 0 (fun _ => 0) (fun _ => 0) (fun _ => 0) 0 0 4 P0 (nI 1) (nI 3)) (fun r1 => pck (fX11_soonest N0 T0 (fun _ => 0) (fun _ => 0) (fun _ => 0) (fun _ => 0) (fun _ => 0) (fun _ => 0) (fun _ => 0) (nI 1) (nI 3)) (fun r2 => (decide ((fX11_thrown r2.2.1) = (0 : Int32)) && (decide (r1 0 = r2.1.toInt64) && true)))) = true := by decide +kernel
  obtain ⟨r1, h1, h⟩ := pckE h
  obtain ⟨r2, h2, h⟩ := pckE h
  obtain ⟨he4, h⟩ := pand h
  have he4 := of_decide_eq_true he4
  obtain ⟨he5, h⟩ := pand h
  have he5 := of_decide_eq_true he5
  exact ⟨r1, r2, h1, h2, he4, he5⟩
theorem pq18_2_0 : ∃ r1 : (Nat → Int64), ∃ r2 : Int32 × Int32 × (Nat → Int32) × (Nat → Int32), (fL_soonest 1 (fun _ => 0) 4 0 (fun _ => 0) (fun _ => 0) (fun _ => 0) 0 (fun _ => 0) (fun _ => 0) (fun _ => 0) 0 (fun _ => 0) (fun _ => 0) (fun _ => 0) 0 0 4 P0 (nI 2) (nI 0) = some r1) ∧ (fX11_soonest N0 T0 (fun _ => 0) (fun _ => 0) (fun _ => 0) (fun _ => 0) (fun _ => 0) (fun _ => 0) (fun _ => 0) (nI 2) (nI 0) = some r2) ∧ ((fX11_thrown r2.2.1) = (0 : Int32)) ∧ (r1 0 = r2.1.toInt64) := by
  have h : pck (fL_soonest 1 (fun _ => 0) 4 0 (fun _ => 0) (fun _ => 0) (fun _ => 0) 0 (fun _ => 0) (fun _ => 0) (fun _ => 0) 0 (fun _ => 0) (fun _ => 0) (fun _ => 0) 0 0 4 P0 (nI 2) (nI 0)) (fun r1 => pck (fX11_soonest N0 T0 (fun _ => 0) (fun _ => 0) (fun _ => 0) (fun _ => 0) (fun _ => 0) (fun _ => 0) (fun _ => 0) (nI 2) (nI 0)) (fun r2 => (decide ((fX11_thrown r2.2.1) = (0 : Int32)) && (decide (r1 0 = r2.1.toInt64) && true)))) = true := by decide +kernel
  obtain ⟨r1, h1, h⟩ := pckE h
  obtain ⟨r2, h2, h⟩ := pckE h
  obtain ⟨he4, h⟩ := pand h
  have he4 := of_decide_eq_true he4
  obtain ⟨he5, h⟩ := pand h
  have he5 := of_decide_eq_true he5
  exact ⟨r1, r2, h1, h2, he4, he5⟩
theorem pq18_2_1 : ∃ r1 : (Nat → Int64), ∃ r2 : Int32 × Int32 × (Nat → Int32) × (Nat → Int32), (fL_soonest 1 (fun _ => 0) 4 0 (fun _ => 0) (fun _ => 0) (fun _ => 0) 0 (fun _ => 0) (fun _ => 0) (fun _ => 0) 0 (fun _ => 0) (fun _ => 0) (fun _ => 0) 0 0 4 P0 (nI 2) (nI 1) = some r1) ∧ (fX11_soonest N0 T0 (fun _ => 0) (fun _ => 0) (fun _ => 0) (fun _ => 0) (fun _ => 0) (fun _ => 0) (fun _ => 0) (nI 2) (nI 1) = some r2) ∧ ((fX11_thrown r2.2.1) = (0 : Int32)) ∧ (r1 0 = r2.1.toInt64) := by
  have h : pck (fL_soonest 1 (fun _ => 0) 4 0 (fun _ => 0) (fun _ => 0) (fun _ => 0) 0 (fun _ => 0) (fun _ => 0) (fun _ => 0) 0 (fun _ => 0) (fun _ => 0) (fun _ => 0) 0 0 4 P0 (nI 2) (nI 1)) (fun r1 => pck (fX11_soonest N0 T0 (fun _ => 0) (fun _ => 0) (fun _ => 0) (fun _ => 0) (fun _ => 0) (fun _ => 0) (fun _ => 0) (nI 2) (nI 1)) (fun r2 => (decide ((fX11_thrown r2.2.1) = (0 : Int32)) && (decide (r1 0 = r2.1.toInt64) && true)))) = true := by decide +kernel
  obtain ⟨r1, h1, h⟩ := pckE h
  obtain ⟨r2, h2, h⟩ := pckE h
  obtain ⟨he4, h⟩ := pand h
  have he4 := of_decide_eq_true he4
  obtain ⟨he5, h⟩ := pand h
  have he5 := of_decide_eq_true he5
  exact ⟨r1, r2, h1, h2, he4, he5⟩
theorem pq18_2_2 : ∃ r1 : (Nat → Int64), ∃ r2 : Int32 × Int32 × (Nat → Int32) × (Nat → Int32), (fL_soonest 1 (fun _ => 0) 4 0 (fun _ => 0) (fun _ => 0) (fun _ => 0) 0 (fun _ => 0) (fun _ => 0) (fun _ => 0) 0 (fun _ => 0) (fun _ => 0) (fun _ => 0) 0 0 4 P0 (nI 2) (nI 2) = some r1) ∧ (fX11_soonest N0 T0 (fun _ => 0) (fun _ => 0) (fun _ => 0) (fun _ => 0) (fun _ => 0) (fun _ => 0) (fun _ => 0) (nI 2) (nI 2) = some r2) ∧ ((fX11_thrown r2.2.1) = (0 : Int32)) ∧ (r1 0 = r2.1.toInt64) := by
  have h : pck (fL_soonest 1 (fun _ => 0) 4 0 (fun _ => 0) (fun _ => 0) (fun _ => 0) 0 (fun _ => 0) (fun _ => 0) (fun _ => 0) 0 (fun _ => 0) (fun _ => 0) (fun _ => 0) 0 0 4 P0 (nI 2) (nI 2)) (fun r1 => pck (fX11_soonest N0 T0 (fun _ => 0) (fun _ => 0) (fun _ => 0) (fun _ => 0) (fun _ => 0) (fun _ => 0) (fun _ => 0) (nI 2) (nI 2)) (fun r2 => (decide ((fX11_thrown r2.2.1) = (0 : Int32)) && (decide (r1 0 = r2.1.toInt64) && true)))) = true := by decide +kernel
  obtain ⟨r1, h1, h⟩ := pckE h
  obtain ⟨r2, h2, h⟩ := pckE h
  obtain ⟨he4, h⟩ := pand h
  have he4 := of_decide_eq_true he4
  obtain ⟨he5, h⟩ := pand h
  have he5 := of_decide_eq_true he5
  exact ⟨r1, r2, h1, h2, he4, he5⟩
theorem pq18_2_3 : ∃ r1 : (Nat → Int64), ∃ r2 : Int32 × Int32 × (Nat → Int32) × (Nat → Int32), (fL_soonest 1 (fun _ => 0) 4 0 (fun _ => 0) (fun _ => 0) (fun _ => 0) 0 (fun _ => 0) (fun _ => 0) (fun _ => 0) 0 (fun _ => 0) (fun _ => 0) (fun _ => 0) 0 0 4 P0 (nI 2) (nI 3) = some r1) ∧ (fX11_soonest N0 T0 (fun _ => 0) (fun _ => 0) (fun _ => 0) (fun _ => 0) (fun _ => 0) (fun _ => 0) (fun _ => 0) (nI 2) (nI 3) = some r2) ∧ ((fX11_thrown r2.2.1) = (0 : Int32)) ∧ (r1 0 = r2.1.toInt64) := by
  have h : pck (fL_soonest 1 (fun _ => 0) 4 0 (fun _ => 0) (fun _ => 0) (fun _ => 0) 0 (fun _ => 0) (fun _ => 0) (fun _ => 0) 0 (fun _ => 0) (fun _ => 0) (fun _ => 0) 0 0 4 P0 (nI 2) (nI 3)) (fun r1 => pck (fX11_soonest N0 T0 (fun _ => 0) (fun _ => 0) (fun _ => 0) (fun _ => 0) (fun _ => 0) (fun _ => 0) (fun _ => 0) (nI 2) (nI 3)) (fun r2 => (decide ((fX11_thrown r2.2.1) = (0 : Int32)) && (decide (r1 0 = r2.1.toInt64) && true)))) = true := by decide +kernel
  obtain ⟨r1, h1, h⟩ := pckE h
  obtain ⟨r2, h2, h⟩ := pckE h
  obtain ⟨he4, h⟩ := pand h
  have he4 := of_decide_eq_true he4
  obtain ⟨he5, h⟩ := pand h
  have he5 := of_decide_eq_true he5
  exact ⟨r1, r2, h1, h2, he4, he5⟩
theorem pq18_3_0 : ∃ r1 : (Nat → Int64), ∃ r2 : Int32 × Int32 × (Nat → Int32) × (Nat → Int32), (fL_soonest 1 (fun _ => 0) 4 0 (fun _ => 0) (fun _ => 0) (fun _ => 0) 0 (fun _ => 0) (fun _ => 0) (fun _ => 0) 0 (fun _ => 0) (fun _ => 0) (fun _ => 0) 0 0 4 P0 (nI 3) (nI 0) = some r1) ∧ (fX11_soonest N0 T0 (fun _ => 0) (fun _ => 0) (fun _ => 0) (fun _ => 0) (fun _ => 0) (fun _ => 0) (fun _ => 0) (nI 3) (nI 0) = some r2) ∧ ((fX11_thrown r2.2.1) = (0 : Int32)) ∧ (r1 0 = r2.1.toInt64) := by
  have h : pck (fL_soonest 1 (fun _ => 0) 4 0 (fun _ => 0) (fun _ => 0) (fun _ => 0) 0 (fun _ => 0) (fun _ => 0) (fun _ => 0) 0 (fun _ => 0) (fun _ => 0) (fun _ => 0) 0 0 4 P0 (nI 3) (nI 0)) (fun r1 => pck (fX11_soonest N0 T0 (fun _ => 0) (fun _ => 0) (fun _ => 0) (fun _ => 0) (fun _ => 0) (fun _ => 0) (fun _ => 0) (nI 3) (nI 0)) (fun r2 => (decide ((fX11_thrown r2.2.1) = (0 : Int32)) && (decide (r1 0 = r2.1.toInt64) && true)))) = true := by decide +kernel
  obtain ⟨r1, h1, h⟩ := pckE h
  obtain ⟨r2, h2, h⟩ := pckE h
  obtain ⟨he4, h⟩ := pand h
  have he4 := of_decide_eq_true he4
  obtain ⟨he5, h⟩ := pand h
  have he5 := of_decide_eq_true he5
  exact ⟨r1, r2, h1, h2, he4, he5⟩
theorem pq18_3_1 : ∃ r1 : (Nat → Int64), ∃ r2 : Int32 × Int32 × (Nat → Int32) × (Nat → Int32), (fL_soonest 1 (fun _ => 0) 4 0 (fun _ => 0) (fun _ => 0) (fun _ => 0) 0 (fun _ => 0) (fun _ => 0) (fun _ => 0) 0 (fun _ => 0) (fun _ => 0) (fun _ => 0) 0 0 4 P0 (nI 3) (nI 1) = some r1) ∧ (fX11_soonest N0 T0 (fun _ => 0) (fun _ => 0) (fun _ => 0) (fun _ => 0) (fun _ => 0) (fun _ => 0) (fun _ => 0) (nI 3) (nI 1) = some r2) ∧ ((fX11_thrown r2.2.1) = (0 : Int32)) ∧ (r1 0 = r2.1.toInt64) := by
  have h : pck (fL_soonest 1 (fun _ => 0) 4 0 (fun _ => 0) (fun _ => 0) (fun _ => 0) 0 (fun _ => 0) (fun _ => 0) (fun _ => 0) 0 (fun _ => 0) (fun _ => 0) (fun _ => 0) 0 0 4 P0 (nI 3) (nI 1)) (fun r1 => pck (fX11_soonest N0 T0 (fun _ => 0) (fun _ => 0) (fun _ => 0) (fun _ => 0) (fun _ => 0) (fun _ => 0) (fun _ => 0) (nI 3) (nI 1)) (fun r2 => (decide ((fX11_thrown r2.2.1) = (0 : Int32)) && (decide (r1 0 = r2.1.toInt64) && true)))) = true := by decide +kernel
  obtain ⟨r1, h1, h⟩ := pckE h
  obtain ⟨r2, h2, h⟩ := pckE h
  obtain ⟨he4, h⟩ := pand h
  have he4 := of_decide_eq_true he4
  obtain ⟨he5, h⟩ := pand h
  have he5 := of_decide_eq_true he5
  exact ⟨r1, r2, h1, h2, he4, he5⟩
theorem pq18_3_2 : ∃ r1 : (Nat → Int64), ∃ r2 : Int32 × Int32 × (Nat → Int32) × (Nat → Int32), (fL_soonest 1 (fun _ => 0) 4 0 (fun _ => 0) (fun _ => 0) (fun _ => 0) 0 (fun _ => 0) (fun _ => 0) (fun _ => 0) 0 (fun _ => 0) (fun _ => 0) (fun _ => 0) 0 0 4 P0 (nI 3) (nI 2) = some r1) ∧ (fX11_soonest N0 T0 (fun _ => 0) (fun _ => 0) (fun _ => 0) (fun _ => 0) (fun _ => 0) (fun _ => 0) (fun _ => 0) (nI 3) (nI 2) = some r2) ∧ ((fX11_thrown r2.2.1) = (0 : Int32)) ∧ (r1 0 = r2.1.toInt64) := by
  have h : pck (fL_soonest 1 (fun _ => 0) 4 0 (fun _ => 0) (fun _ => 0) (fun _ => 0) 0 (fun _ => 0) (fun _ => 0) (fun _ => 0) 0 (fun _ => 0) (fun _ => 0) (fun _ => 0) 0 0 4 P0 (nI 3) (nI 2)) (fun r1 => pck (fX11_soonest N0 T0 (fun _ => 0) (fun _ => 0) (fun _ => 0) (fun _ => 0) (fun _ => 0) (fun _ => 0) (fun _ => 0) (nI 3) (nI 2)) (fun r2 => (decide ((fX11_thrown r2.2.1) = (0 : Int32)) && (decide (r1 0 = r2.1.toInt64) && true)))) = true := by decide +kernel
  obtain ⟨r1, h1, h⟩ := pckE h
  obtain ⟨r2, h2, h⟩ := pckE h
  obtain ⟨he4, h⟩ := pand h
  have he4 := of_decide_eq_true he4
  obtain ⟨he5, h⟩ := pand h
  have he5 := of_decide_eq_true he5
  exact ⟨r1, r2, h1, h2, he4, he5⟩
theorem pq18_3_3 : ∃ r1 : (Nat → Int64), ∃ r2 : Int32 × Int32 × (Nat → Int32) × (Nat → Int32), (fL_soonest 1 (fun _ => 0) 4 0 (fun _ => 0) (fun _ => 0) (fun _ => 0) 0 (fun _ => 0) (fun _ => 0) (fun _ => 0) 0 (fun _ => 0) (fun _ => 0) (fun _ => 0) 0 0 4 P0 (nI 3) (nI 3) = some r1) ∧ (fX11_soonest N0 T0 (fun _ => 0) (fun _ => 0) (fun _ => 0) (fun _ => 0) (fun _ => 0) (fun _ => 0) (fun _ => 0) (nI 3) (nI 3) = some r2) ∧ ((fX11_thrown r2.2.1) = (0 : Int32)) ∧ (r1 0 = r2.1.toInt64) := by
  have h : pck (fL_soonest 1 (fun _ => 0) 4 0 (fun _ => 0) (fun _ => 0) (fun _ => 0) 0 (fun _ => 0) (fun _ => 0) (fun _ => 0) 0 (fun _ => 0) (fun _ => 0) (fun _ => 0) 0 0 4 P0 (nI 3) (nI 3)) (fun r1 => pck (fX11_soonest N0 T0 (fun _ => 0) (fun _ => 0) (fun _ => 0) (fun _ => 0) (fun _ => 0) (fun _ => 0) (fun _ => 0) (nI 3) (nI 3)) (fun r2 => (decide ((fX11_thrown r2.2.1) = (0 : Int32)) && (decide (r1 0 = r2.1.toInt64) && true)))) = true := by decide +kernel
  obtain ⟨r1, h1, h⟩ := pckE h
  obtain ⟨r2, h2, h⟩ := pckE h
  obtain ⟨he4, h⟩ := pand h
  have he4 := of_decide_eq_true he4
  obtain ⟨he5, h⟩ := pand h
  have he5 := of_decide_eq_true he5
  exact ⟨r1, r2, h1, h2, he4, he5⟩
theorem pq19_0_0 : ∃ r1 : (Nat → Int64) × (Nat → Int32), ∃ r2 : Int32 × Int32 × (Nat → Int32), (fL_cheapest 1 (fun _ => 0) 4 0 (fun _ => 0) (fun _ => 0) (fun _ => 0) (fun _ => 0) 0 4 P0 (fun _ => 0) (nI 0) (nI 0) = some r1) ∧ (fX11_cheapest N0 T0 (fun _ => 0) (fun _ => 0) (fun _ => 0) (fun _ => 0) (fun _ => 0) (nI 0) (nI 0) = some r2) ∧ ((fX11_thrown r2.2.1) = (0 : Int32)) ∧ (r1.1 0 = r2.1.toInt64) := by
  have h : pck (fL_cheapest 1 (fun _ => 0) 4 0 (fun _ => 0) (fun _ => 0) (fun _ => 0) (fun _ => 0) 0 4 P0 (fun _ => 0) (nI 0) (nI 0)) (fun r1 => pck (fX11_cheapest N0 T0 (fun _ => 0) (fun _ => 0) (fun _ => 0) (fun _ => 0) (fun _ => 0) (nI 0) (nI 0)) (fun r2 => (decide ((fX11_thrown r2.2.1) = (0 : Int32)) && (decide (r1.1 0 = r2.1.toInt64) && true)))) = true := by decide +kernel
  obtain ⟨r1, h1, h⟩ := pckE h
  obtain ⟨r2, h2, h⟩ := pckE h
  obtain ⟨he4, h⟩ := pand h
  have he4 := of_decide_eq_true he4
  obtain ⟨he5, h⟩ := pand h
  have he5 := of_decide_eq_true he5
  exact ⟨r1, r2, h1, h2, he4, he5⟩
theorem pq19_0_1 : ∃ r1 : (Nat → Int64) × (Nat → Int32), ∃ r2 : Int32 × Int32 × (Nat → Int32), (fL_cheapest 1 (fun _ => 0) 4 0 (fun _ => 0) (fun _ => 0) (fun _ => 0) (fun _ => 0) 0 4 P0 (fun _ => 0) (nI 0) (nI 1) = some r1) ∧ (fX11_cheapest N0 T0 (fun _ => 0) (fun _ => 0) (fun _ => 0) (fun _ => 0) (fun _ => 0) (nI 0) (nI 1) = some r2) ∧ ((fX11_thrown r2.2.1) = (0 : Int32)) ∧ (r1.1 0 = r2.1.toInt64) := by
  have h : pck (fL_cheapest 1 (fun _ => 0) 4 0 (fun _ => 0) (fun _ => 0) (fun _ => 0) (fun _ => 0) 0 4 P0 (fun _ => 0) (nI 0) (nI 1)) (fun r1 => pck (fX11_cheapest N0 T0 (fun _ => 0) (fun _ => 0) (fun _ => 0) (fun _ => 0) (fun _ => 0) (nI 0) (nI 1)) (fun r2 => (decide ((fX11_thrown r2.2.1) = (0 : Int32)) && (decide (r1.1 0 = r2.1.toInt64) && true)))) = true := by decide +kernel
  obtain ⟨r1, h1, h⟩ := pckE h
  obtain ⟨r2, h2, h⟩ := pckE h
  obtain ⟨he4, h⟩ := pand h
  have he4 := of_decide_eq_true he4
  obtain ⟨he5, h⟩ := pand h
  have he5 := of_decide_eq_true he5
  exact ⟨r1, r2, h1, h2, he4, he5⟩
theorem pq19_0_2 : ∃ r1 : (Nat → Int64) × (Nat → Int32), ∃ r2 : Int32 × Int32 × (Nat → Int32), (fL_cheapest 1 (fun _ => 0) 4 0 (fun _ => 0) (fun _ => 0) (fun _ => 0) (fun _ => 0) 0 4 P0 (fun _ => 0) (nI 0) (nI 2) = some r1) ∧ (fX11_cheapest N0 T0 (fun _ => 0) (fun _ => 0) (fun _ => 0) (fun _ => 0) (fun _ => 0) (nI 0) (nI 2) = some r2) ∧ ((fX11_thrown r2.2.1) = (0 : Int32)) ∧ (r1.1 0 = r2.1.toInt64) := by
  have h : pck (fL_cheapest 1 (fun _ => 0) 4 0 (fun _ => 0) (fun _ => 0) (fun _ => 0) (fun _ => 0) 0 4 P0 (fun _ => 0) (nI 0) (nI 2)) (fun r1 => pck (fX11_cheapest N0 T0 (fun _ => 0) (fun _ => 0) (fun _ => 0) (fun _ => 0) (fun _ => 0) (nI 0) (nI 2)) (fun r2 => (decide ((fX11_thrown r2.2.1) = (0 : Int32)) && (decide (r1.1 0 = r2.1.toInt64) && true)))) = true := by decide +kernel
  obtain ⟨r1, h1, h⟩ := pckE h
  obtain ⟨r2, h2, h⟩ := pckE h
  obtain ⟨he4, h⟩ := pand h
  have he4 := of_decide_eq_true he4
  obtain ⟨he5, h⟩ := pand h
  have he5 := of_decide_eq_true he5
  exact ⟨r1, r2, h1, h2, he4, he5⟩
theorem pq19_0_3 : ∃ r1 : (Nat → Int64) × (Nat → Int32), ∃ r2 : Int32 × Int32 × (Nat → Int32), (fL_cheapest 1 (fun _ => 0) 4 0 (fun _ => 0) (fun _ => 0) (fun _ => 0) (fun _ => 0) 0 4 P0 (fun _ => 0) (nI 0) (nI 3) = some r1) ∧ (fX11_cheapest N0 T0 (fun _ => 0) (fun _ => 0) (fun _ => 0) (fun _ => 0) (fun _ => 0) (nI 0) (nI 3) = some r2) ∧ ((fX11_thrown r2.2.1) = (0 : Int32)) ∧ (r1.1 0 = r2.1.toInt64) := by
  have h : pck (fL_cheapest 1 (fun _ => 0) 4 0 (fun _ => 0) (fun _ => 0) (fun _ => 0) (fun _ => 0) 0 4 P0 (fun _ => 0) (nI 0) (nI 3)) (fun r1 => pck (fX11_cheapest N0 T0 (fun _ => 0) (fun _ => 0) (fun _ => 0) (fun _ => 0) (fun _ => 0) (nI 0) (nI 3)) (fun r2 => (decide ((fX11_thrown r2.2.1) = (0 : Int32)) && (decide (r1.1 0 = r2.1.toInt64) && true)))) = true := by decide +kernel
  obtain ⟨r1, h1, h⟩ := pckE h
  obtain ⟨r2, h2, h⟩ := pckE h
  obtain ⟨he4, h⟩ := pand h
  have he4 := of_decide_eq_true he4
  obtain ⟨he5, h⟩ := pand h
  have he5 := of_decide_eq_true he5
  exact ⟨r1, r2, h1, h2, he4, he5⟩
theorem pq19_1_0 : ∃ r1 : (Nat → Int64) × (Nat → Int32), ∃ r2 : Int32 × Int32 × (Nat → Int32), (fL_cheapest 1 (fun _ => 0) 4 0 (fun _ => 0) (fun _ => 0) (fun _ => 0) (fun _ => 0) 0 4 P0 (fun _ => 0) (nI 1) (nI 0) = some r1) ∧ (fX11_cheapest N0 T0 (fun _ => 0) (fun _ => 0) (fun _ => 0) (fun _ => 0) (fun _ => 0) (nI 1) (nI 0) = some r2) ∧ ((fX11_thrown r2.2.1) = (0 : Int32)) ∧ (r1.1 0 = r2.1.toInt64) := by
  have h : pck (fL_cheapest 1 (fun _ => 0) 4 0 (fun _ => 0) (fun _ => 0) (fun _ => 0) (fun _ => 0) 0 4 P0 (fun _ => 0) (nI 1) (nI 0)) (fun r1 => pck (fX11_cheapest N0 T0 (fun _ => 0) (fun _ => 0) (fun _ => 0) (fun _ => 0) (fun _ => 0) (nI 1) (nI 0)) (fun r2 => (decide ((fX11_thrown r2.2.1) = (0 : Int32)) && (decide (r1.1 0 = r2.1.toInt64) && true)))) = true := by decide +kernel
  obtain ⟨r1, h1, h⟩ := pckE h
  obtain ⟨r2, h2, h⟩ := pckE h
  obtain ⟨he4, h⟩ := pand h
  have he4 := of_decide_eq_true he4
  obtain ⟨he5, h⟩ := pand h
  have he5 := of_decide_eq_true he5
  exact ⟨r1, r2, h1, h2, he4, he5⟩
theorem pq19_1_1 : ∃ r1 : (Nat → Int64) × (Nat → Int32), ∃ r2 : Int32 × Int32 × (Nat → Int32), (fL_cheapest 1 (fun _ => 0) 4 0 (fun _ => 0) (fun _ => 0) (fun _ => 0) (fun _ => 0) 0 4 P0 (fun _ => 0) (nI 1) (nI 1) = some r1) ∧ (fX11_cheapest N0 T0 (fun _ => 0) (fun _ => 0) (fun _ => 0) (fun _ => 0) (fun _ => 0) (nI 1) (nI 1) = some r2) ∧ ((fX11_thrown r2.2.1) = (0 : Int32)) ∧ (r1.1 0 = r2.1.toInt64) := by
  have h : pck (fL_cheapest 1 (fun _ => 0) 4 0 (fun _ => 0) (fun _ => 0) (fun _ => 0) (fun _ => 0) 0 4 P0 (fun _ => 0) (nI 1) (nI 1)) (fun r1 => pck (fX11_cheapest N0 T0 (fun _ => 0) (fun _ => 0) (fun _ => 0) (fun _ => 0) (fun _ => 0) (nI 1) (nI 1)) (fun r2 => (decide ((fX11_thrown r2.2.1) = (0 : Int32)) && (decide (r1.1 0 = r2.1.toInt64) && true)))) = true := by decide +kernel
  obtain ⟨r1, h1, h⟩ := pckE h
  obtain ⟨r2, h2, h⟩ := pckE h
  obtain ⟨he4, h⟩ := pand h
  have he4 := of_decide_eq_true he4
  obtain ⟨he5, h⟩ := pand h
  have he5 := of_decide_eq_true he5
  exact ⟨r1, r2, h1, h2, he4, he5⟩
theorem pq19_1_2 : ∃ r1 : (Nat → Int64) × (Nat → Int32), ∃ r2 : Int32 × Int32 × (Nat → Int32), (fL_cheapest 1 (fun _ => 0) 4 0 (fun _ => 0) (fun _ => 0) (fun _ => 0) (fun _ => 0) 0 4 P0 (fun _ => 0) (nI 1) (nI 2) = some r1) ∧ (fX11_cheapest N0 T0 (fun _ => 0) (fun _ => 0) (fun _ => 0) (fun _ => 0) (fun _ => 0) (nI 1) (nI 2) = some r2) ∧ ((fX11_thrown r2.2.1) = (0 : Int32)) ∧ (r1.1 0 = r2.1.toInt64) := by
  have h : pck (fL_cheapest 1 (fun _ => 0) 4 0 (fun _ => 0) (fun _ => 0) (fun _ => 0) (fun _ => 0) 0 4 P0 (fun _ => 0) (nI 1) (nI 2)) (fun r1 => pck (fX11_cheapest N0 T0 (fun _ => 0) (fun _ => 0) (fun _ => 0) (fun _ => 0) (fun _ => 0) (nI 1) (nI 2)) (fun r2 => (decide ((fX11_thrown r2.2.1) = (0 : Int32)) && (decide (r1.1 0 = r2.1.toInt64) && true)))) = true := by decide +kernel
  obtain ⟨r1, h1, h⟩ := pckE h
  obtain ⟨r2, h2, h⟩ := pckE h
  obtain ⟨he4, h⟩ := pand h
  have he4 := of_decide_eq_true he4
  obtain ⟨he5, h⟩ := pand h
  have he5 := of_decide_eq_true he5
  exact ⟨r1, r2, h1, h2, he4, he5⟩
theorem pq19_1_3 : ∃ r1 : (Nat → Int64) × (Nat → Int32), ∃ r2 : Int32 × Int32 × (Nat → Int32), (fL_cheapest 1 (fun _ => 0) 4 0 (fun _ => 0) (fun _ => 0) (fun _ => 0) (fun _ => 0) 0 4 P0 (fun _ => 0) (nI 1) (nI 3) = some r1) ∧ (fX11_cheapest N0 T0 (fun _ => 0) (fun _ => 0) (fun _ => 0) (fun _ => 0) (fun _ => 0) (nI 1) (nI 3) = some r2) ∧ ((fX11_thrown r2.2.1) = (0 : Int32)) ∧ (r1.1 0 = r2.1.toInt64) := by
  have h : pck (fL_cheapest 1 (fun _ => 0) 4 0 (fun _ => 0) (fun _ => 0) (fun _ => 0) (fun _ => 0) 0 4 P0 (fun _ => 0) (nI 1) (nI 3)) (fun r1 => pck (fX11_cheapest N0 T0 (fun _ => 0) (fun _ => 0) (fun _ => 0) (fun _ => 0) (fun _ => 0) (nI 1) (nI 3)) (fun r2 => (decide ((fX11_thrown r2.2.1) = (0 : Int32)) && (decide (r1.1 0 = r2.1.toInt64) && true)))) = true := by decide +kernel
  obtain ⟨r1, h1, h⟩ := pckE h
  obtain ⟨r2, h2, h⟩ := pckE h
  obtain ⟨he4, h⟩ := pand h
  have he4 := of_decide_eq_true he4
  obtain ⟨he5, h⟩ := pand h
  have he5 := of_decide_eq_true he5
  exact ⟨r1, r2, h1, h2, he4, he5⟩
theorem pq19_2_0 : ∃ r1 : (Nat → Int64) × (Nat → Int32), ∃ r2 : Int32 × Int32 × (Nat → Int32), (fL_cheapest 1 (fun _ => 0) 4 0 (fun _ => 0) (fun _ => 0) (fun _ => 0) (fun _ => 0) 0 4 P0 (fun _ => 0) (nI 2) (nI 0) = some r1) ∧ (fX11_cheapest N0 T0 (fun _ => 0) (fun _ => 0) (fun _ => 0) (fun _ => 0) (fun _ => 0) (nI 2) (nI 0) = some r2) ∧ ((fX11_thrown r2.2.1) = (0 : Int32)) ∧ (r1.1 0 = r2.1.toInt64) := by
  have h : pck (fL_cheapest 1 (fun _ => 0) 4 0 (fun _ => 0) (fun _ => 0) (fun _ => 0) (fun _ => 0) 0 4 P0 (fun _ => 0) (nI 2) (nI 0)) (fun r1 => pck (fX11_cheapest N0 T0 (fun _ => 0) (fun _ => 0) (fun _ => 0) (fun _ => 0) (fun _ => 0) (nI 2) (nI 0)) (fun r2 => (decide ((fX11_thrown r2.2.1) = (0 : Int32)) && (decide (r1.1 0 = r2.1.toInt64) && true)))) = true := by decide +kernel
  obtain ⟨r1, h1, h⟩ := pckE h
  obtain ⟨r2, h2, h⟩ := pckE h
  obtain ⟨he4, h⟩ := pand h
  have he4 := of_decide_eq_true he4
  obtain ⟨he5, h⟩ := pand h
  have he5 := of_decide_eq_true he5
  exact ⟨r1, r2, h1, h2, he4, he5⟩
theorem pq19_2_1 : ∃ r1 : (Nat → Int64) × (Nat → Int32), ∃ r2 : Int32 × Int32 × (Nat → Int32), (fL_cheapest 1 (fun _ => 0) 4 0 (fun _ => 0) (fun _ => 0) (fun _ => 0) (fun _ => 0) 0 4 P0 (fun _ => 0) (nI 2) (nI 1) = some r1) ∧ (fX11_cheapest N0 T0 (fun _ => 0) (fun _ => 0) (fun _ => 0) (fun _ => 0) (fun _ => 0) (nI 2) (nI 1) = some r2) ∧ ((fX11_thrown r2.2.1) = (0 : Int32)) ∧ (r1.1 0 = r2.1.toInt64) := by
  have h : pck (fL_cheapest 1 (fun _ => 0) 4 0 (fun _ => 0) (fun _ => 0) (fun _ => 0) (fun _ => 0) 0 4 P0 (fun _ => 0) (nI 2) (nI 1)) (fun r1 => pck (fX11_cheapest N0 T0 (fun _ => 0) (fun _ => 0) (fun _ => 0) (fun _ => 0) (fun _ => 0) (nI 2) (nI 1)) (fun r2 => (decide ((fX11_thrown r2.2.1) = (0 : Int32)) && (decide (r1.1 0 = r2.1.toInt64) && true)))) = true := by decide +kernel
  obtain ⟨r1, h1, h⟩ := pckE h
  obtain ⟨r2, h2, h⟩ := pckE h
  obtain ⟨he4, h⟩ := pand h
  have he4 := of_decide_eq_true he4
  obtain ⟨he5, h⟩ := pand h
  have he5 := of_decide_eq_true he5
  exact ⟨r1, r2, h1, h2, he4, he5⟩
theorem pq19_2_2 : ∃ r1 : (Nat → Int64) × (Nat → Int32), ∃ r2 : Int32 × Int32 × (Nat → Int32), (fL_cheapest 1 (fun _ => 0) 4 0 (fun _ => 0) (fun _ => 0) (fun _ => 0) (fun _ => 0) 0 4 P0 (fun _ => 0) (nI 2) (nI 2) = some r1) ∧ (fX11_cheapest N0 T0 (fun _ => 0) (fun _ => 0) (fun _ => 0) (fun _ => 0) (fun _ => 0) (nI 2) (nI 2) = some r2) ∧ ((fX11_thrown r2.2.1) = (0 : Int32)) ∧ (r1.1 0 = r2.1.toInt64) := by
  have h : pck (fL_cheapest 1 (fun _ => 0) 4 0 (fun _ => 0) (fun _ => 0) (fun _ => 0) (fun _ => 0) 0 4 P0 (fun _ => 0) (nI 2) (nI 2)) (fun r1 => pck (fX11_cheapest N0 T0 (fun _ => 0) (fun _ => 0) (fun _ => 0) (fun _ => 0) (fun _ => 0) (nI 2) (nI 2)) (fun r2 => (decide ((fX11_thrown r2.2.1) = (0 : Int32)) && (decide (r1.1 0 = r2.1.toInt64) && true)))) = true := by decide +kernel
  obtain ⟨r1, h1, h⟩ := pckE h
  obtain ⟨r2, h2, h⟩ := pckE h
  obtain ⟨he4, h⟩ := pand h
  have he4 := of_decide_eq_true he4
  obtain ⟨he5, h⟩ := pand h
  have he5 := of_decide_eq_true he5
  exact ⟨r1, r2, h1, h2, he4, he5⟩
theorem pq19_2_3 : ∃ r1 : (Nat → Int64) × (Nat → Int32), ∃ r2 : Int32 × Int32 × (Nat → Int32), (fL_cheapest 1 (fun _ => 0) 4 0 (fun _ => 0) (fun _ => 0) (fun _ => 0) (fun _ => 0) 0 4 P0 (fun _ => 0) (nI 2) (nI 3) = some r1) ∧ (fX11_cheapest N0 T0 (fun _ => 0) (fun _ => 0) (fun _ => 0) (fun _ => 0) (fun _ => 0) (nI 2) (nI 3) = some r2) ∧ ((fX11_thrown r2.2.1) = (0 : Int32)) ∧ (r1.1 0 = r2.1.toInt64) := by
  have h : pck (fL_cheapest 1 (fun _ => 0) 4 0 (fun _ => 0) (fun _ => 0) (fun _ => 0) (fun _ => 0) 0 4 P0 (fun _ => 0) (nI 2) (nI 3)) (fun r1 => pck (fX11_cheapest N0 T0 (fun _ => 0) (fun _ => 0) (fun _ => 0) (fun _ => 0) (fun _ => 0) (nI 2) (nI 3)) (fun r2 => (decide ((fX11_thrown r2.2.1) = (0 : Int32)) && (decide (r1.1 0 = r2.1.toInt64) && true)))) = true := by decide +kernel
  obtain ⟨r1, h1, h⟩ := pckE h
  obtain ⟨r2, h2, h⟩ := pckE h
  obtain ⟨he4, h⟩ := pand h
  have he4 := of_decide_eq_true he4
  obtain ⟨he5, h⟩ := pand h
  have he5 := of_decide_eq_true he5
  exact ⟨r1, r2, h1, h2, he4, he5⟩
theorem pq19_3_0 : ∃ r1 : (Nat → Int64) × (Nat → Int32), ∃ r2 : Int32 × Int32 × (Nat → Int32), (fL_cheapest 1 (fun _ => 0) 4 0 (fun _ => 0) (fun _ => 0) (fun _ => 0) (fun _ => 0) 0 4 P0 (fun _ => 0) (nI 3) (nI 0) = some r1) ∧ (fX11_cheapest N0 T0 (fun _ => 0) (fun _ => 0) (fun _ => 0) (fun _ => 0) (fun _ => 0) (nI 3) (nI 0) = some r2) ∧ ((fX11_thrown r2.2.1) = (0 : Int32)) ∧ (r1.1 0 = r2.1.toInt64) := by
  have h : pck (fL_cheapest 1 (fun _ => 0) 4 0 (fun _ => 0) (fun _ => 0) (fun _ => 0) (fun _ => 0) 0 4 P0 (fun _ => 0) (nI 3) (nI 0)) (fun r1 => pck (fX11_cheapest N0 T0 (fun _ => 0) (fun _ => 0) (fun _ => 0) (fun _ => 0) (fun _ => 0) (nI 3) (nI 0)) (fun r2 => (decide ((fX11_thrown r2.2.1) = (0 : Int32)) && (decide (r1.1 0 = r2.1.toInt64) && true)))) = true := by decide +kernel
  obtain ⟨r1, h1, h⟩ := pckE h
  obtain ⟨r2, h2, h⟩ := pckE h
  obtain ⟨he4, h⟩ := pand h
  have he4 := of_decide_eq_true he4
  obtain ⟨he5, h⟩ := pand h
  have he5 := of_decide_eq_true he5
  exact ⟨r1, r2, h1, h2, he4, he5⟩
theorem pq19_3_1 : ∃ r1 : (Nat → Int64) × (Nat → Int32), ∃ r2 : Int32 × Int32 × (Nat → Int32), (fL_cheapest 1 (fun _ => 0) 4 0 (fun _ => 0) (fun _ => 0) (fun _ => 0) (fun _ => 0) 0 4 P0 (fun _ => 0) (nI 3) (nI 1) = some r1) ∧ (fX11_cheapest N0 T0 (fun _ => 0) (fun _ => 0) (fun _ => 0) (fun _ => 0) (fun _ => 0) (nI 3) (nI 1) = some r2) ∧ ((fX11_thrown r2.2.1) = (0 : Int32)) ∧ (r1.1 0 = r2.1.toInt64) := by
  have h : pck (fL_cheapest 1 (fun _ => 0) 4 0 (fun _ => 0) (fun _ => 0) (fun _ => 0) (fun _ => 0) 0 4 P0 (fun _ => 0) (nI 3) (nI 1)) (fun r1 => pck (fX11_cheapest N0 T0 (fun _ => 0) (fun _ => 0) (fun _ => 0) (fun _ => 0) (fun _ => 0) (nI 3) (nI 1)) (fun r2 => (decide ((fX11_thrown r2.2.1) = (0 : Int32)) && (decide (r1.1 0 = r2.1.toInt64) && true)))) = true := by decide +kernel
  obtain ⟨r1, h1, h⟩ := pckE h
  obtain ⟨r2, h2, h⟩ := pckE h
  obtain ⟨he4, h⟩ := pand h
  have he4 := of_decide_eq_true he4
  obtain ⟨he5, h⟩ := pand h
  have he5 := of_decide_eq_true he5
  exact ⟨r1, r2, h1, h2, he4, he5⟩
theorem pq19_3_2 : ∃ r1 : (Nat → Int64) × (Nat → Int32), ∃ r2 : Int32 × Int32 × (Nat → Int32), (fL_cheapest 1 (fun _ => 0) 4 0 (fun _ => 0) (fun _ => 0) (fun _ => 0) (fun _ => 0) 0 4 P0 (fun _ => 0) (nI 3) (nI 2) = some r1) ∧ (fX11_cheapest N0 T0 (fun _ => 0) (fun _ => 0) (fun _ => 0) (fun _ => 0) (fun _ => 0) (nI 3) (nI 2) = some r2) ∧ ((fX11_thrown r2.2.1) = (0 : Int32)) ∧ (r1.1 0 = r2.1.toInt64) := by
  have h : pck (fL_cheapest 1 (fun _ => 0) 4 0 (fun _ => 0) (fun _ => 0) (fun _ => 0) (fun _ => 0) 0 4 P0 (fun _ => 0) (nI 3) (nI 2)) (fun r1 => pck (fX11_cheapest N0 T0 (fun _ => 0) (fun _ => 0) (fun _ => 0) (fun _ => 0) (fun _ => 0) (nI 3) (nI 2)) (fun r2 => (decide ((fX11_thrown r2.2.1) = (0 : Int32)) && (decide (r1.1 0 = r2.1.toInt64) && true)))) = true := by decide +kernel
  obtain ⟨r1, h1, h⟩ := pckE h
  obtain ⟨r2, h2, h⟩ := pckE h
  obtain ⟨he4, h⟩ := pand h
  have he4 := of_decide_eq_true he4
  obtain ⟨he5, h⟩ := pand h
  have he5 := of_decide_eq_true he5
  exact ⟨r1, r2, h1, h2, he4, he5⟩
theorem pq19_3_3 : ∃ r1 : (Nat → Int64) × (Nat → Int32), ∃ r2 : Int32 × Int32 × (Nat → Int32), (fL_cheapest 1 (fun _ => 0) 4 0 (fun _ => 0) (fun _ => 0) (fun _ => 0) (fun _ => 0) 0 4 P0 (fun _ => 0) (nI 3) (nI 3) = some r1) ∧ (fX11_cheapest N0 T0 (fun _ => 0) (fun _ => 0) (fun _ => 0) (fun _ => 0) (fun _ => 0) (nI 3) (nI 3) = some r2) ∧ ((fX11_thrown r2.2.1) = (0 : Int32)) ∧ (r1.1 0 = r2.1.toInt64) := by
  have h : pck (fL_cheapest 1 (fun _ => 0) 4 0 (fun _ => 0) (fun _ => 0) (fun _ => 0) (fun _ => 0) 0 4 P0 (fun _ => 0) (nI 3) (nI 3)) (fun r1 => pck (fX11_cheapest N0 T0 (fun _ => 0) (fun _ => 0) (fun _ => 0) (fun _ => 0) (fun _ => 0) (nI 3) (nI 3)) (fun r2 => (decide ((fX11_thrown r2.2.1) = (0 : Int32)) && (decide (r1.1 0 = r2.1.toInt64) && true)))) = true := by decide +kernel
  obtain ⟨r1, h1, h⟩ := pckE h
  obtain ⟨r2, h2, h⟩ := pckE h
  obtain ⟨he4, h⟩ := pand h
  have he4 := of_decide_eq_true he4
  obtain ⟨he5, h⟩ := pand h
  have he5 := of_decide_eq_true he5
  exact ⟨r1, r2, h1, h2, he4, he5⟩
theorem pq27_0_0 : ∃ r2 : Int32 × Int32 × Int32 × (Nat → Int32) × (Nat → Int32), (tX10_tell_S 4 P0 (nI 0) (nI 0) = some ()) ∧ (fX11_tell 0 N0 T0 (fun _ => 0) (nI 0) (nI 0) = some r2) ∧ ((fX11_thrown r2.2.1) = (2 : Int32)) := by
  have h : (decide (tX10_tell_S 4 P0 (nI 0) (nI 0) = some ()) && pck (fX11_tell 0 N0 T0 (fun _ => 0) (nI 0) (nI 0)) (fun r2 => (decide ((fX11_thrown r2.2.1) = (2 : Int32)) && true))) = true := by decide +kernel
  obtain ⟨h1, h⟩ := pand h
  have h1 := of_decide_eq_true h1
  obtain ⟨r2, h2, h⟩ := pckE h
  obtain ⟨he4, h⟩ := pand h
  have he4 := of_decide_eq_true he4
  exact ⟨r2, h1, h2, he4⟩
theorem pq27_0_1 : ∃ r1 : (Nat → Int64) × (Nat → Int32) × Int32 × Int32 × (Nat → Int32) × (Nat → Int32) × (Nat → Int32) × (Nat → Int32) × (Nat → Option Nat) × (Nat → Int32) × (Nat → Nat → Int32), ∃ r2 : Int32 × Int32 × Int32 × (Nat → Int32) × (Nat → Int32), (fL_tell 1 (fun _ => 0) 4 0 0 0 0 none 4 P0 0 0 (fun _ => 0) (fun _ => 0) (fun _ => 0) (fun _ => 0) (fun _ => none) (fun _ => 0) (fun _ _ => 0) (nI 0) (nI 1) = some r1) ∧ (fX11_tell 0 N0 T0 (fun _ => 0) (nI 0) (nI 1) = some r2) ∧ ((fX11_thrown r2.2.1) = (0 : Int32)) ∧ (r1.1 0 = r2.1.toInt64) := by
  have h : pck (fL_tell 1 (fun _ => 0) 4 0 0 0 0 none 4 P0 0 0 (fun _ => 0) (fun _ => 0) (fun _ => 0) (fun _ => 0) (fun _ => none) (fun _ => 0) (fun _ _ => 0) (nI 0) (nI 1)) (fun r1 => pck (fX11_tell 0 N0 T0 (fun _ => 0) (nI 0) (nI 1)) (fun r2 => (decide ((fX11_thrown r2.2.1) = (0 : Int32)) && (decide (r1.1 0 = r2.1.toInt64) && true)))) = true := by decide +kernel
  obtain ⟨r1, h1, h⟩ := pckE h
  obtain ⟨r2, h2, h⟩ := pckE h
  obtain ⟨he4, h⟩ := pand h
  have he4 := of_decide_eq_true he4
  obtain ⟨he5, h⟩ := pand h
  have he5 := of_decide_eq_true he5
  exact ⟨r1, r2, h1, h2, he4, he5⟩
theorem pq27_0_2 : ∃ r1 : (Nat → Int64) × (Nat → Int32) × Int32 × Int32 × (Nat → Int32) × (Nat → Int32) × (Nat → Int32) × (Nat → Int32) × (Nat → Option Nat) × (Nat → Int32) × (Nat → Nat → Int32), ∃ r2 : Int32 × Int32 × Int32 × (Nat → Int32) × (Nat → Int32), (fL_tell 1 (fun _ => 0) 4 0 0 0 0 none 4 P0 0 0 (fun _ => 0) (fun _ => 0) (fun _ => 0) (fun _ => 0) (fun _ => none) (fun _ => 0) (fun _ _ => 0) (nI 0) (nI 2) = some r1) ∧ (fX11_tell 0 N0 T0 (fun _ => 0) (nI 0) (nI 2) = some r2) ∧ ((fX11_thrown r2.2.1) = (0 : Int32)) ∧ (r1.1 0 = r2.1.toInt64) := by
  have h : pck (fL_tell 1 (fun _ => 0) 4 0 0 0 0 none 4 P0 0 0 (fun _ => 0) (fun _ => 0) (fun _ => 0) (fun _ => 0) (fun _ => none) (fun _ => 0) (fun _ _ => 0) (nI 0) (nI 2)) (fun r1 => pck (fX11_tell 0 N0 T0 (fun _ => 0) (nI 0) (nI 2)) (fun r2 => (decide ((fX11_thrown r2.2.1) = (0 : Int32)) && (decide (r1.1 0 = r2.1.toInt64) && true)))) = true := by decide +kernel
  obtain ⟨r1, h1, h⟩ := pckE h
  obtain ⟨r2, h2, h⟩ := pckE h
  obtain ⟨he4, h⟩ := pand h
  have he4 := of_decide_eq_true he4
  obtain ⟨he5, h⟩ := pand h
  have he5 := of_decide_eq_true he5
  exact ⟨r1, r2, h1, h2, he4, he5⟩
theorem pq27_0_3 : ∃ r1 : (Nat → Int64) × (Nat → Int32) × Int32 × Int32 × (Nat → Int32) × (Nat → Int32) × (Nat → Int32) × (Nat → Int32) × (Nat → Option Nat) × (Nat → Int32) × (Nat → Nat → Int32), ∃ r2 : Int32 × Int32 × Int32 × (Nat → Int32) × (Nat → Int32), (fL_tell 1 (fun _ => 0) 4 0 0 0 0 none 4 P0 0 0 (fun _ => 0) (fun _ => 0) (fun _ => 0) (fun _ => 0) (fun _ => none) (fun _ => 0) (fun _ _ => 0) (nI 0) (nI 3) = some r1) ∧ (fX11_tell 0 N0 T0 (fun _ => 0) (nI 0) (nI 3) = some r2) ∧ ((fX11_thrown r2.2.1) = (0 : Int32)) ∧ (r1.1 0 = r2.1.toInt64) := by
  have h : pck (fL_tell 1 (fun _ => 0) 4 0 0 0 0 none 4 P0 0 0 (fun _ => 0) (fun _ => 0) (fun _ => 0) (fun _ => 0) (fun _ => none) (fun _ => 0) (fun _ _ => 0) (nI 0) (nI 3)) (fun r1 => pck (fX11_tell 0 N0 T0 (fun _ => 0) (nI 0) (nI 3)) (fun r2 => (decide ((fX11_thrown r2.2.1) = (0 : Int32)) && (decide (r1.1 0 = r2.1.toInt64) && true)))) = true := by decide +kernel
  obtain ⟨r1, h1, h⟩ := pckE h
  obtain ⟨r2, h2, h⟩ := pckE h
  obtain ⟨he4, h⟩ := pand h
  have he4 := of_decide_eq_true he4
  obtain ⟨he5, h⟩ := pand h
  have he5 := of_decide_eq_true he5
  exact ⟨r1, r2, h1, h2, he4, he5⟩
theorem pq27_1_0 : ∃ r1 : (Nat → Int64) × (Nat → Int32) × Int32 × Int32 × (Nat → Int32) × (Nat → Int32) × (Nat → Int32) × (Nat → Int32) × (Nat → Option Nat) × (Nat → Int32) × (Nat → Nat → Int32), ∃ r2 : Int32 × Int32 × Int32 × (Nat → Int32) × (Nat → Int32), (fL_tell 1 (fun _ => 0) 4 0 0 0 0 none 4 P0 0 0 (fun _ => 0) (fun _ => 0) (fun _ => 0) (fun _ => 0) (fun _ => none) (fun _ => 0) (fun _ _ => 0) (nI 1) (nI 0) = some r1) ∧ (fX11_tell 0 N0 T0 (fun _ => 0) (nI 1) (nI 0) = some r2) ∧ ((fX11_thrown r2.2.1) = (0 : Int32)) ∧ (r1.1 0 = r2.1.toInt64) := by
  have h : pck (fL_tell 1 (fun _ => 0) 4 0 0 0 0 none 4 P0 0 0 (fun _ => 0) (fun _ => 0) (fun _ => 0) (fun _ => 0) (fun _ => none) (fun _ => 0) (fun _ _ => 0) (nI 1) (nI 0)) (fun r1 => pck (fX11_tell 0 N0 T0 (fun _ => 0) (nI 1) (nI 0)) (fun r2 => (decide ((fX11_thrown r2.2.1) = (0 : Int32)) && (decide (r1.1 0 = r2.1.toInt64) && true)))) = true := by decide +kernel
  obtain ⟨r1, h1, h⟩ := pckE h
  obtain ⟨r2, h2, h⟩ := pckE h
  obtain ⟨he4, h⟩ := pand h
  have he4 := of_decide_eq_true he4
  obtain ⟨he5, h⟩ := pand h
  have he5 := of_decide_eq_true he5
  exact ⟨r1, r2, h1, h2, he4, he5⟩
theorem pq27_1_1 : ∃ r2 : Int32 × Int32 × Int32 × (Nat → Int32) × (Nat → Int32), (tX10_tell_S 4 P0 (nI 1) (nI 1) = some ()) ∧ (fX11_tell 0 N0 T0 (fun _ => 0) (nI 1) (nI 1) = some r2) ∧ ((fX11_thrown r2.2.1) = (2 : Int32)) := by
  have h : (decide (tX10_tell_S 4 P0 (nI 1) (nI 1) = some ()) && pck (fX11_tell 0 N0 T0 (fun _ => 0) (nI 1) (nI 1)) (fun r2 => (decide ((fX11_thrown r2.2.1) = (2 : Int32)) && true))) = true := by decide +kernel
  obtain ⟨h1, h⟩ := pand h
  have h1 := of_decide_eq_true h1
  obtain ⟨r2, h2, h⟩ := pckE h
  obtain ⟨he4, h⟩ := pand h
  have he4 := of_decide_eq_true he4
  exact ⟨r2, h1, h2, he4⟩
theorem pq27_1_2 : ∃ r1 : (Nat → Int64) × (Nat → Int32) × Int32 × Int32 × (Nat → Int32) × (Nat → Int32) × (Nat → Int32) × (Nat → Int32) × (Nat → Option Nat) × (Nat → Int32) × (Nat → Nat → Int32), ∃ r2 : Int32 × Int32 × Int32 × (Nat → Int32) × (Nat → Int32), (fL_tell 1 (fun _ => 0) 4 0 0 0 0 none 4 P0 0 0 (fun _ => 0) (fun _ => 0) (fun _ => 0) (fun _ => 0) (fun _ => none) (fun _ => 0) (fun _ _ => 0) (nI 1) (nI 2) = some r1) ∧ (fX11_tell 0 N0 T0 (fun _ => 0) (nI 1) (nI 2) = some r2) ∧ ((fX11_thrown r2.2.1) = (0 : Int32)) ∧ (r1.1 0 = r2.1.toInt64) := by
  have h : pck (fL_tell 1 (fun _ => 0) 4 0 0 0 0 none 4 P0 0 0 (fun _ => 0) (fun _ => 0) (fun _ => 0) (fun _ => 0) (fun _ => none) (fun _ => 0) (fun _ _ => 0) (nI 1) (nI 2)) (fun r1 => pck (fX11_tell 0 N0 T0 (fun _ => 0) (nI 1) (nI 2)) (fun r2 => (decide ((fX11_thrown r2.2.1) = (0 : Int32)) && (decide (r1.1 0 = r2.1.toInt64) && true)))) = true := by decide +kernel
  obtain ⟨r1, h1, h⟩ := pckE h
  obtain ⟨r2, h2, h⟩ := pckE h
  obtain ⟨he4, h⟩ := pand h
  have he4 := of_decide_eq_true he4
  obtain ⟨he5, h⟩ := pand h
  have he5 := of_decide_eq_true he5
  exact ⟨r1, r2, h1, h2, he4, he5⟩
theorem pq27_1_3 : ∃ r1 : (Nat → Int64) × (Nat → Int32) × Int32 × Int32 × (Nat → Int32) × (Nat → Int32) × (Nat → Int32) × (Nat → Int32) × (Nat → Option Nat) × (Nat → Int32) × (Nat → Nat → Int32), ∃ r2 : Int32 × Int32 × Int32 × (Nat → Int32) × (Nat → Int32), (fL_tell 1 (fun _ => 0) 4 0 0 0 0 none 4 P0 0 0 (fun _ => 0) (fun _ => 0) (fun _ => 0) (fun _ => 0) (fun _ => none) (fun _ => 0) (fun _ _ => 0) (nI 1) (nI 3) = some r1) ∧ (fX11_tell 0 N0 T0 (fun _ => 0) (nI 1) (nI 3) = some r2) ∧ ((fX11_thrown r2.2.1) = (0 : Int32)) ∧ (r1.1 0 = r2.1.toInt64) := by
  have h : pck (fL_tell 1 (fun _ => 0) 4 0 0 0 0 none 4 P0 0 0 (fun _ => 0) (fun _ => 0) (fun _ => 0) (fun _ => 0) (fun _ => none) (fun _ => 0) (fun _ _ => 0) (nI 1) (nI 3)) (fun r1 => pck (fX11_tell 0 N0 T0 (fun _ => 0) (nI 1) (nI 3)) (fun r2 => (decide ((fX11_thrown r2.2.1) = (0 : Int32)) && (decide (r1.1 0 = r2.1.toInt64) && true)))) = true := by decide +kernel
  obtain ⟨r1, h1, h⟩ := pckE h
  obtain ⟨r2, h2, h⟩ := pckE h
  obtain ⟨he4, h⟩ := pand h
  have he4 := of_decide_eq_true he4
  obtain ⟨he5, h⟩ := pand h
  have he5 := of_decide_eq_true he5
  exact ⟨r1, r2, h1, h2, he4, he5⟩
theorem pq27_2_0 : ∃ r1 : (Nat → Int64) × (Nat → Int32) × Int32 × Int32 × (Nat → Int32) × (Nat → Int32) × (Nat → Int32) × (Nat → Int32) × (Nat → Option Nat) × (Nat → Int32) × (Nat → Nat → Int32), ∃ r2 : Int32 × Int32 × Int32 × (Nat → Int32) × (Nat → Int32), (fL_tell 1 (fun _ => 0) 4 0 0 0 0 none 4 P0 0 0 (fun _ => 0) (fun _ => 0) (fun _ => 0) (fun _ => 0) (fun _ => none) (fun _ => 0) (fun _ _ => 0) (nI 2) (nI 0) = some r1) ∧ (fX11_tell 0 N0 T0 (fun _ => 0) (nI 2) (nI 0) = some r2) ∧ ((fX11_thrown r2.2.1) = (0 : Int32)) ∧ (r1.1 0 = r2.1.toInt64) := by
  have h : pck (fL_tell 1 (fun _ => 0) 4 0 0 0 0 none 4 P0 0 0 (fun _ => 0) (fun _ => 0) (fun _ => 0) (fun _ => 0) (fun _ => none) (fun _ => 0) (fun _ _ => 0) (nI 2) (nI 0)) (fun r1 => pck (fX11_tell 0 N0 T0 (fun _ => 0) (nI 2) (nI 0)) (fun r2 => (decide ((fX11_thrown r2.2.1) = (0 : Int32)) && (decide (r1.1 0 = r2.1.toInt64) && true)))) = true := by decide +kernel
  obtain ⟨r1, h1, h⟩ := pckE h
  obtain ⟨r2, h2, h⟩ := pckE h
  obtain ⟨he4, h⟩ := pand h
  have he4 := of_decide_eq_true he4
  obtain ⟨he5, h⟩ := pand h
  have he5 := of_decide_eq_true he5
  exact ⟨r1, r2, h1, h2, he4, he5⟩
theorem pq27_2_1 : ∃ r1 : (Nat → Int64) × (Nat → Int32) × Int32 × Int32 × (Nat → Int32) × (Nat → Int32) × (Nat → Int32) × (Nat → Int32) × (Nat → Option Nat) × (Nat → Int32) × (Nat → Nat → Int32), ∃ r2 : Int32 × Int32 × Int32 × (Nat → Int32) × (Nat → Int32), (fL_tell 1 (fun _ => 0) 4 0 0 0 0 none 4 P0 0 0 (fun _ => 0) (fun _ => 0) (fun _ => 0) (fun _ => 0) (fun _ => none) (fun _ => 0) (fun _ _ => 0) (nI 2) (nI 1) = some r1) ∧ (fX11_tell 0 N0 T0 (fun _ => 0) (nI 2) (nI 1) = some r2) ∧ ((fX11_thrown r2.2.1) = (0 : Int32)) ∧ (r1.1 0 = r2.1.toInt64) := by
  have h : pck (fL_tell 1 (fun _ => 0) 4 0 0 0 0 none 4 P0 0 0 (fun _ => 0) (fun _ => 0) (fun _ => 0) (fun _ => 0) (fun _ => none) (fun _ => 0) (fun _ _ => 0) (nI 2) (nI 1)) (fun r1 => pck (fX11_tell 0 N0 T0 (fun _ => 0) (nI 2) (nI 1)) (fun r2 => (decide ((fX11_thrown r2.2.1) = (0 : Int32)) && (decide (r1.1 0 = r2.1.toInt64) && true)))) = true := by decide +kernel
  obtain ⟨r1, h1, h⟩ := pckE h
  obtain ⟨r2, h2, h⟩ := pckE h
  obtain ⟨he4, h⟩ := pand h
  have he4 := of_decide_eq_true he4
  obtain ⟨he5, h⟩ := pand h
  have he5 := of_decide_eq_true he5
  exact ⟨r1, r2, h1, h2, he4, he5⟩
theorem pq27_2_2 : ∃ r2 : Int32 × Int32 × Int32 × (Nat → Int32) × (Nat → Int32), (tX10_tell_S 4 P0 (nI 2) (nI 2) = some ()) ∧ (fX11_tell 0 N0 T0 (fun _ => 0) (nI 2) (nI 2) = some r2) ∧ ((fX11_thrown r2.2.1) = (2 : Int32)) := by
  have h : (decide (tX10_tell_S 4 P0 (nI 2) (nI 2) = some ()) && pck (fX11_tell 0 N0 T0 (fun _ => 0) (nI 2) (nI 2)) (fun r2 => (decide ((fX11_thrown r2.2.1) = (2 : Int32)) && true))) = true := by decide +kernel
  obtain ⟨h1, h⟩ := pand h
  have h1 := of_decide_eq_true h1
  obtain ⟨r2, h2, h⟩ := pckE h
  obtain ⟨he4, h⟩ := pand h
  have he4 := of_decide_eq_true he4
  exact ⟨r2, h1, h2, he4⟩
theorem pq27_2_3 : ∃ r1 : (Nat → Int64) × (Nat → Int32) × Int32 × Int32 × (Nat → Int32) × (Nat → Int32) × (Nat → Int32) × (Nat → Int32) × (Nat → Option Nat) × (Nat → Int32) × (Nat → Nat → Int32), ∃ r2 : Int32 × Int32 × Int32 × (Nat → Int32) × (Nat → Int32), (fL_tell 1 (fun _ => 0) 4 0 0 0 0 none 4 P0 0 0 (fun _ => 0) (fun _ => 0) (fun _ => 0) (fun _ => 0) (fun _ => none) (fun _ => 0) (fun _ _ => 0) (nI 2) (nI 3) = some r1) ∧ (fX11_tell 0 N0 T0 (fun _ => 0) (nI 2) (nI 3) = some r2) ∧ ((fX11_thrown r2.2.1) = (0 : Int32)) ∧ (r1.1 0 = r2.1.toInt64) := by
  have h : pck (fL_tell 1 (fun _ => 0) 4 0 0 0 0 none 4 P0 0 0 (fun _ => 0) (fun _ => 0) (fun _ => 0) (fun _ => 0) (fun _ => none) (fun _ => 0) (fun _ _ => 0) (nI 2) (nI 3)) (fun r1 => pck (fX11_tell 0 N0 T0 (fun _ => 0) (nI 2) (nI 3)) (fun r2 => (decide ((fX11_thrown r2.2.1) = (0 : Int32)) && (decide (r1.1 0 = r2.1.toInt64) && true)))) = true := by decide +kernel
  obtain ⟨r1, h1, h⟩ := pckE h
  obtain ⟨r2, h2, h⟩ := pckE h
  obtain ⟨he4, h⟩ := pand h
  have he4 := of_decide_eq_true he4
  obtain ⟨he5, h⟩ := pand h
  have he5 := of_decide_eq_true he5
  exact ⟨r1, r2, h1, h2, he4, he5⟩
theorem pq27_3_0 : ∃ r1 : (Nat → Int64) × (Nat → Int32) × Int32 × Int32 × (Nat → Int32) × (Nat → Int32) × (Nat → Int32) × (Nat → Int32) × (Nat → Option Nat) × (Nat → Int32) × (Nat → Nat → Int32), ∃ r2 : Int32 × Int32 × Int32 × (Nat → Int32) × (Nat → Int32), (fL_tell 1 (fun _ => 0) 4 0 0 0 0 none 4 P0 0 0 (fun _ => 0) (fun _ => 0) (fun _ => 0) (fun _ => 0) (fun _ => none) (fun _ => 0) (fun _ _ => 0) (nI 3) (nI 0) = some r1) ∧ (fX11_tell 0 N0 T0 (fun _ => 0) (nI 3) (nI 0) = some r2) ∧ ((fX11_thrown r2.2.1) = (0 : Int32)) ∧ (r1.1 0 = r2.1.toInt64) := by
  have h : pck (fL_tell 1 (fun _ => 0) 4 0 0 0 0 none 4 P0 0 0 (fun _ => 0) (fun _ => 0) (fun _ => 0) (fun _ => 0) (fun _ => none) (fun _ => 0) (fun _ _ => 0) (nI 3) (nI 0)) (fun r1 => pck (fX11_tell 0 N0 T0 (fun _ => 0) (nI 3) (nI 0)) (fun r2 => (decide ((fX11_thrown r2.2.1) = (0 : Int32)) && (decide (r1.1 0 = r2.1.toInt64) && true)))) = true := by decide +kernel
  obtain ⟨r1, h1, h⟩ := pckE h
  obtain ⟨r2, h2, h⟩ := pckE h
  obtain ⟨he4, h⟩ := pand h
  have he4 := of_decide_eq_true he4
  obtain ⟨he5, h⟩ := pand h
  have he5 := of_decide_eq_true he5
  exact ⟨r1, r2, h1, h2, he4, he5⟩
theorem pq27_3_1 : ∃ r1 : (Nat → Int64) × (Nat → Int32) × Int32 × Int32 × (Nat → Int32) × (Nat → Int32) × (Nat → Int32) × (Nat → Int32) × (Nat → Option Nat) × (Nat → Int32) × (Nat → Nat → Int32), ∃ r2 : Int32 × Int32 × Int32 × (Nat → Int32) × (Nat → Int32), (fL_tell 1 (fun _ => 0) 4 0 0 0 0 none 4 P0 0 0 (fun _ => 0) (fun _ => 0) (fun _ => 0) (fun _ => 0) (fun _ => none) (fun _ => 0) (fun _ _ => 0) (nI 3) (nI 1) = some r1) ∧ (fX11_tell 0 N0 T0 (fun _ => 0) (nI 3) (nI 1) = some r2) ∧ ((fX11_thrown r2.2.1) = (0 : Int32)) ∧ (r1.1 0 = r2.1.toInt64) := by
  have h : pck (fL_tell 1 (fun _ => 0) 4 0 0 0 0 none 4 P0 0 0 (fun _ => 0) (fun _ => 0) (fun _ => 0) (fun _ => 0) (fun _ => none) (fun _ => 0) (fun _ _ => 0) (nI 3) (nI 1)) (fun r1 => pck (fX11_tell 0 N0 T0 (fun _ => 0) (nI 3) (nI 1)) (fun r2 => (decide ((fX11_thrown r2.2.1) = (0 : Int32)) && (decide (r1.1 0 = r2.1.toInt64) && true)))) = true := by decide +kernel
  obtain ⟨r1, h1, h⟩ := pckE h
  obtain ⟨r2, h2, h⟩ := pckE h
  obtain ⟨he4, h⟩ := pand h
  have he4 := of_decide_eq_true he4
  obtain ⟨he5, h⟩ := pand h
  have he5 := of_decide_eq_true he5
  exact ⟨r1, r2, h1, h2, he4, he5⟩
theorem pq27_3_2 : ∃ r1 : (Nat → Int64) × (Nat → Int32) × Int32 × Int32 × (Nat → Int32) × (Nat → Int32) × (Nat → Int32) × (Nat → Int32) × (Nat → Option Nat) × (Nat → Int32) × (Nat → Nat → Int32), ∃ r2 : Int32 × Int32 × Int32 × (Nat → Int32) × (Nat → Int32), (fL_tell 1 (fun _ => 0) 4 0 0 0 0 none 4 P0 0 0 (fun _ => 0) (fun _ => 0) (fun _ => 0) (fun _ => 0) (fun _ => none) (fun _ => 0) (fun _ _ => 0) (nI 3) (nI 2) = some r1) ∧ (fX11_tell 0 N0 T0 (fun _ => 0) (nI 3) (nI 2) = some r2) ∧ ((fX11_thrown r2.2.1) = (0 : Int32)) ∧ (r1.1 0 = r2.1.toInt64) := by
  have h : pck (fL_tell 1 (fun _ => 0) 4 0 0 0 0 none 4 P0 0 0 (fun _ => 0) (fun _ => 0) (fun _ => 0) (fun _ => 0) (fun _ => none) (fun _ => 0) (fun _ _ => 0) (nI 3) (nI 2)) (fun r1 => pck (fX11_tell 0 N0 T0 (fun _ => 0) (nI 3) (nI 2)) (fun r2 => (decide ((fX11_thrown r2.2.1) = (0 : Int32)) && (decide (r1.1 0 = r2.1.toInt64) && true)))) = true := by decide +kernel
  obtain ⟨r1, h1, h⟩ := pckE h
  obtain ⟨r2, h2, h⟩ := pckE h
  obtain ⟨he4, h⟩ := pand h
  have he4 := of_decide_eq_true he4
  obtain ⟨he5, h⟩ := pand h
  have he5 := of_decide_eq_true he5
  exact ⟨r1, r2, h1, h2, he4, he5⟩
theorem pq27_3_3 : ∃ r2 : Int32 × Int32 × Int32 × (Nat → Int32) × (Nat → Int32), (tX10_tell_S 4 P0 (nI 3) (nI 3) = some ()) ∧ (fX11_tell 0 N0 T0 (fun _ => 0) (nI 3) (nI 3) = some r2) ∧ ((fX11_thrown r2.2.1) = (2 : Int32)) := by
  have h : (decide (tX10_tell_S 4 P0 (nI 3) (nI 3) = some ()) && pck (fX11_tell 0 N0 T0 (fun _ => 0) (nI 3) (nI 3)) (fun r2 => (decide ((fX11_thrown r2.2.1) = (2 : Int32)) && true))) = true := by decide +kernel
  obtain ⟨h1, h⟩ := pand h
  have h1 := of_decide_eq_true h1
  obtain ⟨r2, h2, h⟩ := pckE h
  obtain ⟨he4, h⟩ := pand h
  have he4 := of_decide_eq_true he4
  exact ⟨r2, h1, h2, he4⟩
theorem pe1 {x : Int32} (hx : x < 0 ∨ 0 < x) : ∃ r2 : Int32 × Int32 × Int32 × Int32 × Int32 × Int32 × Int32 × Int32 × Int32 × Int32 × Int32 × Int32 × Int32 × (Nat → Int32) × (Nat → Int32) × (Nat → Int32) × (Nat → Int32) × (Nat → Int32) × (Nat → Int32) × (Nat → Int32) × (Nat → Int32) × (Nat → Int32), (tX10_parse_A 0 x = some ()) ∧ (fX11_parse 0 0 0 0 0 0 0 (-1) 0 0 0 N0 T0 (fun _ => 0) (fun _ => 0) (fun _ => 0) (fun _ => 0) (fun _ => 0) (fun _ => 0) (fun _ => 0) B0 x = some r2) ∧ ((fX11_thrown r2.2.1) = (1 : Int32)) := by
  have hm : (fX11_parse 0 0 0 0 0 0 0 (-1) 0 0 0 N0 T0 (fun _ => 0) (fun _ => 0) (fun _ => 0) (fun _ => 0) (fun _ => 0) (fun _ => 0) (fun _ => 0) B0 x).map (fun r2 => (fX11_thrown r2.2.1)) = some (1 : Int32) := by
    unfold fX11_parse
    rw [if_pos (pw hx)]
    rfl
  obtain ⟨r2, h2, h3⟩ := pmap hm
  exact ⟨r2, prg hx rfl, h2, h3⟩
theorem pe3 {x : Int32} (hx : x < 0 ∨ 5 < x) : ∃ r2 : Int32 × Int32, (tX10_size_A x = some ()) ∧ (fX11_size N0 T0 x = some r2) ∧ ((fX11_thrown r2.2) = (1 : Int32)) := by
  have hm : (fX11_size N0 T0 x).map (fun r2 => (fX11_thrown r2.2)) = some (1 : Int32) := by
    unfold fX11_size
    rw [if_pos (pw hx)]
    rfl
  obtain ⟨r2, h2, h3⟩ := pmap hm
  exact ⟨r2, (by unfold tX10_size_A; rw [if_neg (by rintro rfl; revert hx; decide), if_neg (by rintro rfl; revert hx; decide), if_neg (by rintro rfl; revert hx; decide), if_neg (by rintro rfl; revert hx; decide), if_neg (by rintro rfl; revert hx; decide), if_neg (by rintro rfl; revert hx; decide)]), h2, h3⟩
theorem pe13 {x : Int32} (hx : x < 0 ∨ 9999 < x) : ∃ r2 : Int32 × Int32, (tX10_spent_A x = some ()) ∧ (fX11_spent N0 x = some r2) ∧ ((fX11_thrown r2.2) = (1 : Int32)) := by
  have hm : (fX11_spent N0 x).map (fun r2 => (fX11_thrown r2.2)) = some (1 : Int32) := by
    unfold fX11_spent
    rw [if_pos (pw hx)]
    rfl
  obtain ⟨r2, h2, h3⟩ := pmap hm
  exact ⟨r2, prg hx rfl, h2, h3⟩
theorem pe14 {x : Int32} (hx : x < 0 ∨ 2 < x) : ∃ r2 : Int32 × Int32 × (Nat → Int64) × (Nat → Int32), (tX10_best_A x = some ()) ∧ (fX11_best N0 T0 (fun _ => 0) (fun _ => 0) (fun _ => 0) (fun _ => 0) (fun _ => 0) (fun _ => 0) (fun _ => 0) (fun _ => 0) x = some r2) ∧ ((fX11_thrown r2.2.1) = (1 : Int32)) := by
  have hm : (fX11_best N0 T0 (fun _ => 0) (fun _ => 0) (fun _ => 0) (fun _ => 0) (fun _ => 0) (fun _ => 0) (fun _ => 0) (fun _ => 0) x).map (fun r2 => (fX11_thrown r2.2.1)) = some (1 : Int32) := by
    unfold fX11_best
    rw [if_pos (pw hx)]
    rfl
  obtain ⟨r2, h2, h3⟩ := pmap hm
  exact ⟨r2, prg hx rfl, h2, h3⟩
theorem pe15 {x : Int32} (hx : x < 0 ∨ 3 < x) : ∃ r2 : Int32 × Int32 × (Nat → Int64) × (Nat → Int32) × (Nat → Int32) × (Nat → Int32), (tX10_plan_A x = some ()) ∧ (fX11_plan N0 T0 (fun _ => 0) (fun _ => 0) (fun _ => 0) (fun _ => 0) (fun _ => 0) (fun _ => 0) (fun _ => 0) (fun _ => 0) (fun _ => 0) (fun _ => 0) x = some r2) ∧ ((fX11_thrown r2.2.1) = (1 : Int32)) := by
  have hm : (fX11_plan N0 T0 (fun _ => 0) (fun _ => 0) (fun _ => 0) (fun _ => 0) (fun _ => 0) (fun _ => 0) (fun _ => 0) (fun _ => 0) (fun _ => 0) (fun _ => 0) x).map (fun r2 => (fX11_thrown r2.2.1)) = some (1 : Int32) := by
    unfold fX11_plan
    rw [if_pos (pw hx)]
    rfl
  obtain ⟨r2, h2, h3⟩ := pmap hm
  exact ⟨r2, prg hx rfl, h2, h3⟩
theorem pe16 {x : Int32} (hx : x < 0 ∨ 4 < x) : ∃ r2 : Int32 × Int32 × Int32 × (Nat → Int32), (tX10_fewest_A x = some ()) ∧ (fX11_fewest 0 N0 T0 (fun _ => 0) (fun _ => 0) (fun _ => 0) (fun _ => 0) (fun _ => 0) (fun _ => 0) x = some r2) ∧ ((fX11_thrown r2.2.1) = (1 : Int32)) := by
  have hm : (fX11_fewest 0 N0 T0 (fun _ => 0) (fun _ => 0) (fun _ => 0) (fun _ => 0) (fun _ => 0) (fun _ => 0) x).map (fun r2 => (fX11_thrown r2.2.1)) = some (1 : Int32) := by
    unfold fX11_fewest
    rw [if_pos (pw hx)]
    rfl
  obtain ⟨r2, h2, h3⟩ := pmap hm
  exact ⟨r2, prg hx rfl, h2, h3⟩
theorem pe7 {x : Int32} (hx : x < 0 ∨ 3 < x) : ∃ r2 : Int32 × Int32, (tX10_known_I 4 x = some ()) ∧ (fX11_known N0 T0 x = some r2) ∧ ((fX11_thrown r2.2) = (1 : Int32)) := by
  have hm : (fX11_known N0 T0 x).map (fun r2 => (fX11_thrown r2.2)) = some (1 : Int32) := by
    unfold fX11_known
    rw [pnp hx]
    rfl
  obtain ⟨r2, h2, h3⟩ := pmap hm
  exact ⟨r2, (by show tsel (tX10_requirePerson_I 4 x) _ = _; rw [ptp hx]; rfl), h2, h3⟩
theorem pe8 {x : Int32} (hx : x < 0 ∨ 3 < x) : ∃ r2 : Int32 × Int32, (tX10_knowers_I 4 x = some ()) ∧ (fX11_knowers N0 T0 x = some r2) ∧ ((fX11_thrown r2.2) = (1 : Int32)) := by
  have hm : (fX11_knowers N0 T0 x).map (fun r2 => (fX11_thrown r2.2)) = some (1 : Int32) := by
    unfold fX11_knowers
    rw [pnp hx]
    rfl
  obtain ⟨r2, h2, h3⟩ := pmap hm
  exact ⟨r2, (by show tsel (tX10_requirePerson_I 4 x) _ = _; rw [ptp hx]; rfl), h2, h3⟩
theorem pe10 {x : Int32} (hx : x < 0 ∨ 3 < x) : ∃ r2 : Int32 × Int32, (tX10_partner_I 4 x = some ()) ∧ (fX11_partner N0 T0 (fun _ => 0) (fun _ => 0) x = some r2) ∧ ((fX11_thrown r2.2) = (1 : Int32)) := by
  have hm : (fX11_partner N0 T0 (fun _ => 0) (fun _ => 0) x).map (fun r2 => (fX11_thrown r2.2)) = some (1 : Int32) := by
    unfold fX11_partner
    rw [pnp hx]
    rfl
  obtain ⟨r2, h2, h3⟩ := pmap hm
  exact ⟨r2, (by show tsel (tX10_requirePerson_I 4 x) _ = _; rw [ptp hx]; rfl), h2, h3⟩
theorem pe4 (x y : Int32) : ∃ r2 : Int32 × Int32, (tX10_line_I 0 x = some ()) ∧ (fX11_line N0 T0 (fun _ => 0) (fun _ => 0) (fun _ => 0) (fun _ => 0) (fun _ => 0) x y = some r2) ∧ ((fX11_thrown r2.2) = (1 : Int32)) := by
  have hm : (fX11_line N0 T0 (fun _ => 0) (fun _ => 0) (fun _ => 0) (fun _ => 0) (fun _ => 0) x y).map (fun r2 => (fX11_thrown r2.2)) = some (1 : Int32) := by
    unfold fX11_line
    rw [pnl x]
    rfl
  obtain ⟨r2, h2, h3⟩ := pmap hm
  exact ⟨r2, (by show tsel (tX10_requireLine_I 0 x) _ = _; rw [ptl x]; rfl), h2, h3⟩
theorem pe5 (x y : Int32) : ∃ r2 : Int32 × Int32, (tX10_isUsable_I 0 x = some ()) ∧ (fX11_isUsable N0 T0 (fun _ => 0) (fun _ => 0) (fun _ => 0) (fun _ => 0) x y = some r2) ∧ ((fX11_thrown r2.2) = (1 : Int32)) := by
  have hm : (fX11_isUsable N0 T0 (fun _ => 0) (fun _ => 0) (fun _ => 0) (fun _ => 0) x y).map (fun r2 => (fX11_thrown r2.2)) = some (1 : Int32) := by
    unfold fX11_isUsable
    rw [pnl x]
    rfl
  obtain ⟨r2, h2, h3⟩ := pmap hm
  exact ⟨r2, (by show tsel (tX10_requireLine_I 0 x) _ = _; rw [ptl x]; rfl), h2, h3⟩
theorem pe21 (x : Int32) : ∃ r2 : Int32 × Int32 × Int32 × (Nat → Int32) × (Nat → Int32), (tX10_arrange_I 0 x = some ()) ∧ (fX11_arrange 0 N0 T0 (fun _ => 0) (fun _ => 0) (fun _ => 0) (fun _ => 0) (fun _ => 0) (fun _ => 0) x = some r2) ∧ ((fX11_thrown r2.2.1) = (1 : Int32)) := by
  have hm : (fX11_arrange 0 N0 T0 (fun _ => 0) (fun _ => 0) (fun _ => 0) (fun _ => 0) (fun _ => 0) (fun _ => 0) x).map (fun r2 => (fX11_thrown r2.2.1)) = some (1 : Int32) := by
    unfold fX11_arrange
    rw [pnl x]
    rfl
  obtain ⟨r2, h2, h3⟩ := pmap hm
  exact ⟨r2, (by show tsel (tX10_requireLine_I 0 x) _ = _; rw [ptl x]; rfl), h2, h3⟩
theorem pe22 (x : Int32) : ∃ r2 : Int32 × Int32 × Int32 × (Nat → Int32) × (Nat → Int32), (tX10_takeBack_I 0 x = some ()) ∧ (fX11_takeBack 0 N0 T0 (fun _ => 0) (fun _ => 0) (fun _ => 0) (fun _ => 0) x = some r2) ∧ ((fX11_thrown r2.2.1) = (1 : Int32)) := by
  have hm : (fX11_takeBack 0 N0 T0 (fun _ => 0) (fun _ => 0) (fun _ => 0) (fun _ => 0) x).map (fun r2 => (fX11_thrown r2.2.1)) = some (1 : Int32) := by
    unfold fX11_takeBack
    rw [pnl x]
    rfl
  obtain ⟨r2, h2, h3⟩ := pmap hm
  exact ⟨r2, (by show tsel (tX10_requireLine_I 0 x) _ = _; rw [ptl x]; rfl), h2, h3⟩
theorem pe25 (x : Int32) : ∃ r2 : Int32 × Int32 × Int32 × (Nat → Int32) × (Nat → Int32), (tX10_cut_I 0 x = some ()) ∧ (fX11_cut 0 N0 T0 (fun _ => 0) x = some r2) ∧ ((fX11_thrown r2.2.1) = (1 : Int32)) := by
  have hm : (fX11_cut 0 N0 T0 (fun _ => 0) x).map (fun r2 => (fX11_thrown r2.2.1)) = some (1 : Int32) := by
    unfold fX11_cut
    rw [pnl x]
    rfl
  obtain ⟨r2, h2, h3⟩ := pmap hm
  exact ⟨r2, (by show tsel (tX10_requireLine_I 0 x) _ = _; rw [ptl x]; rfl), h2, h3⟩
theorem pe26 (x : Int32) : ∃ r2 : Int32 × Int32 × Int32 × (Nat → Int32) × (Nat → Int32), (tX10_mend_I 0 x = some ()) ∧ (fX11_mend 0 N0 T0 (fun _ => 0) x = some r2) ∧ ((fX11_thrown r2.2.1) = (1 : Int32)) := by
  have hm : (fX11_mend 0 N0 T0 (fun _ => 0) x).map (fun r2 => (fX11_thrown r2.2.1)) = some (1 : Int32) := by
    unfold fX11_mend
    rw [pnl x]
    rfl
  obtain ⟨r2, h2, h3⟩ := pmap hm
  exact ⟨r2, (by show tsel (tX10_requireLine_I 0 x) _ = _; rw [ptl x]; rfl), h2, h3⟩
theorem pe18 {x : Int32} (y : Int32) (hx : x < 0 ∨ 3 < x) : ∃ r2 : Int32 × Int32 × (Nat → Int32) × (Nat → Int32), (tX10_soonest_I 4 x y = some ()) ∧ (fX11_soonest N0 T0 (fun _ => 0) (fun _ => 0) (fun _ => 0) (fun _ => 0) (fun _ => 0) (fun _ => 0) (fun _ => 0) x y = some r2) ∧ ((fX11_thrown r2.2.1) = (1 : Int32)) := by
  have hm : (fX11_soonest N0 T0 (fun _ => 0) (fun _ => 0) (fun _ => 0) (fun _ => 0) (fun _ => 0) (fun _ => 0) (fun _ => 0) x y).map (fun r2 => (fX11_thrown r2.2.1)) = some (1 : Int32) := by
    unfold fX11_soonest
    rw [pnp hx]
    rfl
  obtain ⟨r2, h2, h3⟩ := pmap hm
  exact ⟨r2, (by show tsel (tX10_requirePerson_I 4 x) _ = _; rw [ptp hx]; rfl), h2, h3⟩
theorem pe18_0 {y : Int32} (hx : y < 0 ∨ 3 < y) : ∃ r2 : Int32 × Int32 × (Nat → Int32) × (Nat → Int32), (tX10_soonest_I 4 (nI 0) y = some ()) ∧ (fX11_soonest N0 T0 (fun _ => 0) (fun _ => 0) (fun _ => 0) (fun _ => 0) (fun _ => 0) (fun _ => 0) (fun _ => 0) (nI 0) y = some r2) ∧ ((fX11_thrown r2.2.1) = (1 : Int32)) := by
  have hm : (fX11_soonest N0 T0 (fun _ => 0) (fun _ => 0) (fun _ => 0) (fun _ => 0) (fun _ => 0) (fun _ => 0) (fun _ => 0) (nI 0) y).map (fun r2 => (fX11_thrown r2.2.1)) = some (1 : Int32) := by
    unfold fX11_soonest
    rw [show fX11_noPerson T0 (nI 0) = some (0, 0) from by decide +kernel]
    rw [Option.bind_some, if_pos (show ((0 : Int32), (0 : Int32)).1 = 0 from rfl), pnp hx]
    rfl
  obtain ⟨r2, h2, h3⟩ := pmap hm
  exact ⟨r2, (by show tsel (tX10_requirePerson_I 4 y) _ = _; rw [ptp hx]; rfl), h2, h3⟩
theorem pe18_1 {y : Int32} (hx : y < 0 ∨ 3 < y) : ∃ r2 : Int32 × Int32 × (Nat → Int32) × (Nat → Int32), (tX10_soonest_I 4 (nI 1) y = some ()) ∧ (fX11_soonest N0 T0 (fun _ => 0) (fun _ => 0) (fun _ => 0) (fun _ => 0) (fun _ => 0) (fun _ => 0) (fun _ => 0) (nI 1) y = some r2) ∧ ((fX11_thrown r2.2.1) = (1 : Int32)) := by
  have hm : (fX11_soonest N0 T0 (fun _ => 0) (fun _ => 0) (fun _ => 0) (fun _ => 0) (fun _ => 0) (fun _ => 0) (fun _ => 0) (nI 1) y).map (fun r2 => (fX11_thrown r2.2.1)) = some (1 : Int32) := by
    unfold fX11_soonest
    rw [show fX11_noPerson T0 (nI 1) = some (0, 0) from by decide +kernel]
    rw [Option.bind_some, if_pos (show ((0 : Int32), (0 : Int32)).1 = 0 from rfl), pnp hx]
    rfl
  obtain ⟨r2, h2, h3⟩ := pmap hm
  exact ⟨r2, (by show tsel (tX10_requirePerson_I 4 y) _ = _; rw [ptp hx]; rfl), h2, h3⟩
theorem pe18_2 {y : Int32} (hx : y < 0 ∨ 3 < y) : ∃ r2 : Int32 × Int32 × (Nat → Int32) × (Nat → Int32), (tX10_soonest_I 4 (nI 2) y = some ()) ∧ (fX11_soonest N0 T0 (fun _ => 0) (fun _ => 0) (fun _ => 0) (fun _ => 0) (fun _ => 0) (fun _ => 0) (fun _ => 0) (nI 2) y = some r2) ∧ ((fX11_thrown r2.2.1) = (1 : Int32)) := by
  have hm : (fX11_soonest N0 T0 (fun _ => 0) (fun _ => 0) (fun _ => 0) (fun _ => 0) (fun _ => 0) (fun _ => 0) (fun _ => 0) (nI 2) y).map (fun r2 => (fX11_thrown r2.2.1)) = some (1 : Int32) := by
    unfold fX11_soonest
    rw [show fX11_noPerson T0 (nI 2) = some (0, 0) from by decide +kernel]
    rw [Option.bind_some, if_pos (show ((0 : Int32), (0 : Int32)).1 = 0 from rfl), pnp hx]
    rfl
  obtain ⟨r2, h2, h3⟩ := pmap hm
  exact ⟨r2, (by show tsel (tX10_requirePerson_I 4 y) _ = _; rw [ptp hx]; rfl), h2, h3⟩
theorem pe18_3 {y : Int32} (hx : y < 0 ∨ 3 < y) : ∃ r2 : Int32 × Int32 × (Nat → Int32) × (Nat → Int32), (tX10_soonest_I 4 (nI 3) y = some ()) ∧ (fX11_soonest N0 T0 (fun _ => 0) (fun _ => 0) (fun _ => 0) (fun _ => 0) (fun _ => 0) (fun _ => 0) (fun _ => 0) (nI 3) y = some r2) ∧ ((fX11_thrown r2.2.1) = (1 : Int32)) := by
  have hm : (fX11_soonest N0 T0 (fun _ => 0) (fun _ => 0) (fun _ => 0) (fun _ => 0) (fun _ => 0) (fun _ => 0) (fun _ => 0) (nI 3) y).map (fun r2 => (fX11_thrown r2.2.1)) = some (1 : Int32) := by
    unfold fX11_soonest
    rw [show fX11_noPerson T0 (nI 3) = some (0, 0) from by decide +kernel]
    rw [Option.bind_some, if_pos (show ((0 : Int32), (0 : Int32)).1 = 0 from rfl), pnp hx]
    rfl
  obtain ⟨r2, h2, h3⟩ := pmap hm
  exact ⟨r2, (by show tsel (tX10_requirePerson_I 4 y) _ = _; rw [ptp hx]; rfl), h2, h3⟩
theorem pe19 {x : Int32} (y : Int32) (hx : x < 0 ∨ 3 < x) : ∃ r2 : Int32 × Int32 × (Nat → Int32), (tX10_cheapest_I 4 x y = some ()) ∧ (fX11_cheapest N0 T0 (fun _ => 0) (fun _ => 0) (fun _ => 0) (fun _ => 0) (fun _ => 0) x y = some r2) ∧ ((fX11_thrown r2.2.1) = (1 : Int32)) := by
  have hm : (fX11_cheapest N0 T0 (fun _ => 0) (fun _ => 0) (fun _ => 0) (fun _ => 0) (fun _ => 0) x y).map (fun r2 => (fX11_thrown r2.2.1)) = some (1 : Int32) := by
    unfold fX11_cheapest
    rw [pnp hx]
    rfl
  obtain ⟨r2, h2, h3⟩ := pmap hm
  exact ⟨r2, (by show tsel (tX10_requirePerson_I 4 x) _ = _; rw [ptp hx]; rfl), h2, h3⟩
theorem pe19_0 {y : Int32} (hx : y < 0 ∨ 3 < y) : ∃ r2 : Int32 × Int32 × (Nat → Int32), (tX10_cheapest_I 4 (nI 0) y = some ()) ∧ (fX11_cheapest N0 T0 (fun _ => 0) (fun _ => 0) (fun _ => 0) (fun _ => 0) (fun _ => 0) (nI 0) y = some r2) ∧ ((fX11_thrown r2.2.1) = (1 : Int32)) := by
  have hm : (fX11_cheapest N0 T0 (fun _ => 0) (fun _ => 0) (fun _ => 0) (fun _ => 0) (fun _ => 0) (nI 0) y).map (fun r2 => (fX11_thrown r2.2.1)) = some (1 : Int32) := by
    unfold fX11_cheapest
    rw [show fX11_noPerson T0 (nI 0) = some (0, 0) from by decide +kernel]
    rw [Option.bind_some, if_pos (show ((0 : Int32), (0 : Int32)).1 = 0 from rfl), pnp hx]
    rfl
  obtain ⟨r2, h2, h3⟩ := pmap hm
  exact ⟨r2, (by show tsel (tX10_requirePerson_I 4 y) _ = _; rw [ptp hx]; rfl), h2, h3⟩
theorem pe19_1 {y : Int32} (hx : y < 0 ∨ 3 < y) : ∃ r2 : Int32 × Int32 × (Nat → Int32), (tX10_cheapest_I 4 (nI 1) y = some ()) ∧ (fX11_cheapest N0 T0 (fun _ => 0) (fun _ => 0) (fun _ => 0) (fun _ => 0) (fun _ => 0) (nI 1) y = some r2) ∧ ((fX11_thrown r2.2.1) = (1 : Int32)) := by
  have hm : (fX11_cheapest N0 T0 (fun _ => 0) (fun _ => 0) (fun _ => 0) (fun _ => 0) (fun _ => 0) (nI 1) y).map (fun r2 => (fX11_thrown r2.2.1)) = some (1 : Int32) := by
    unfold fX11_cheapest
    rw [show fX11_noPerson T0 (nI 1) = some (0, 0) from by decide +kernel]
    rw [Option.bind_some, if_pos (show ((0 : Int32), (0 : Int32)).1 = 0 from rfl), pnp hx]
    rfl
  obtain ⟨r2, h2, h3⟩ := pmap hm
  exact ⟨r2, (by show tsel (tX10_requirePerson_I 4 y) _ = _; rw [ptp hx]; rfl), h2, h3⟩
theorem pe19_2 {y : Int32} (hx : y < 0 ∨ 3 < y) : ∃ r2 : Int32 × Int32 × (Nat → Int32), (tX10_cheapest_I 4 (nI 2) y = some ()) ∧ (fX11_cheapest N0 T0 (fun _ => 0) (fun _ => 0) (fun _ => 0) (fun _ => 0) (fun _ => 0) (nI 2) y = some r2) ∧ ((fX11_thrown r2.2.1) = (1 : Int32)) := by
  have hm : (fX11_cheapest N0 T0 (fun _ => 0) (fun _ => 0) (fun _ => 0) (fun _ => 0) (fun _ => 0) (nI 2) y).map (fun r2 => (fX11_thrown r2.2.1)) = some (1 : Int32) := by
    unfold fX11_cheapest
    rw [show fX11_noPerson T0 (nI 2) = some (0, 0) from by decide +kernel]
    rw [Option.bind_some, if_pos (show ((0 : Int32), (0 : Int32)).1 = 0 from rfl), pnp hx]
    rfl
  obtain ⟨r2, h2, h3⟩ := pmap hm
  exact ⟨r2, (by show tsel (tX10_requirePerson_I 4 y) _ = _; rw [ptp hx]; rfl), h2, h3⟩
theorem pe19_3 {y : Int32} (hx : y < 0 ∨ 3 < y) : ∃ r2 : Int32 × Int32 × (Nat → Int32), (tX10_cheapest_I 4 (nI 3) y = some ()) ∧ (fX11_cheapest N0 T0 (fun _ => 0) (fun _ => 0) (fun _ => 0) (fun _ => 0) (fun _ => 0) (nI 3) y = some r2) ∧ ((fX11_thrown r2.2.1) = (1 : Int32)) := by
  have hm : (fX11_cheapest N0 T0 (fun _ => 0) (fun _ => 0) (fun _ => 0) (fun _ => 0) (fun _ => 0) (nI 3) y).map (fun r2 => (fX11_thrown r2.2.1)) = some (1 : Int32) := by
    unfold fX11_cheapest
    rw [show fX11_noPerson T0 (nI 3) = some (0, 0) from by decide +kernel]
    rw [Option.bind_some, if_pos (show ((0 : Int32), (0 : Int32)).1 = 0 from rfl), pnp hx]
    rfl
  obtain ⟨r2, h2, h3⟩ := pmap hm
  exact ⟨r2, (by show tsel (tX10_requirePerson_I 4 y) _ = _; rw [ptp hx]; rfl), h2, h3⟩
theorem pe27 {x : Int32} (y : Int32) (hx : x < 0 ∨ 3 < x) : ∃ r2 : Int32 × Int32 × Int32 × (Nat → Int32) × (Nat → Int32), (tX10_tell_I 4 x y = some ()) ∧ (fX11_tell 0 N0 T0 (fun _ => 0) x y = some r2) ∧ ((fX11_thrown r2.2.1) = (1 : Int32)) := by
  have hm : (fX11_tell 0 N0 T0 (fun _ => 0) x y).map (fun r2 => (fX11_thrown r2.2.1)) = some (1 : Int32) := by
    unfold fX11_tell
    rw [pnp hx]
    rfl
  obtain ⟨r2, h2, h3⟩ := pmap hm
  exact ⟨r2, (by show tsel (tX10_requirePerson_I 4 x) _ = _; rw [ptp hx]; rfl), h2, h3⟩
theorem pe27_0 {y : Int32} (hx : y < 0 ∨ 3 < y) : ∃ r2 : Int32 × Int32 × Int32 × (Nat → Int32) × (Nat → Int32), (tX10_tell_I 4 (nI 0) y = some ()) ∧ (fX11_tell 0 N0 T0 (fun _ => 0) (nI 0) y = some r2) ∧ ((fX11_thrown r2.2.1) = (1 : Int32)) := by
  have hm : (fX11_tell 0 N0 T0 (fun _ => 0) (nI 0) y).map (fun r2 => (fX11_thrown r2.2.1)) = some (1 : Int32) := by
    unfold fX11_tell
    rw [show fX11_noPerson T0 (nI 0) = some (0, 0) from by decide +kernel]
    rw [Option.bind_some, if_pos (show ((0 : Int32), (0 : Int32)).1 = 0 from rfl), pnp hx]
    rfl
  obtain ⟨r2, h2, h3⟩ := pmap hm
  exact ⟨r2, (by show tsel (tX10_requirePerson_I 4 y) _ = _; rw [ptp hx]; rfl), h2, h3⟩
theorem pe27_1 {y : Int32} (hx : y < 0 ∨ 3 < y) : ∃ r2 : Int32 × Int32 × Int32 × (Nat → Int32) × (Nat → Int32), (tX10_tell_I 4 (nI 1) y = some ()) ∧ (fX11_tell 0 N0 T0 (fun _ => 0) (nI 1) y = some r2) ∧ ((fX11_thrown r2.2.1) = (1 : Int32)) := by
  have hm : (fX11_tell 0 N0 T0 (fun _ => 0) (nI 1) y).map (fun r2 => (fX11_thrown r2.2.1)) = some (1 : Int32) := by
    unfold fX11_tell
    rw [show fX11_noPerson T0 (nI 1) = some (0, 0) from by decide +kernel]
    rw [Option.bind_some, if_pos (show ((0 : Int32), (0 : Int32)).1 = 0 from rfl), pnp hx]
    rfl
  obtain ⟨r2, h2, h3⟩ := pmap hm
  exact ⟨r2, (by show tsel (tX10_requirePerson_I 4 y) _ = _; rw [ptp hx]; rfl), h2, h3⟩
theorem pe27_2 {y : Int32} (hx : y < 0 ∨ 3 < y) : ∃ r2 : Int32 × Int32 × Int32 × (Nat → Int32) × (Nat → Int32), (tX10_tell_I 4 (nI 2) y = some ()) ∧ (fX11_tell 0 N0 T0 (fun _ => 0) (nI 2) y = some r2) ∧ ((fX11_thrown r2.2.1) = (1 : Int32)) := by
  have hm : (fX11_tell 0 N0 T0 (fun _ => 0) (nI 2) y).map (fun r2 => (fX11_thrown r2.2.1)) = some (1 : Int32) := by
    unfold fX11_tell
    rw [show fX11_noPerson T0 (nI 2) = some (0, 0) from by decide +kernel]
    rw [Option.bind_some, if_pos (show ((0 : Int32), (0 : Int32)).1 = 0 from rfl), pnp hx]
    rfl
  obtain ⟨r2, h2, h3⟩ := pmap hm
  exact ⟨r2, (by show tsel (tX10_requirePerson_I 4 y) _ = _; rw [ptp hx]; rfl), h2, h3⟩
theorem pe27_3 {y : Int32} (hx : y < 0 ∨ 3 < y) : ∃ r2 : Int32 × Int32 × Int32 × (Nat → Int32) × (Nat → Int32), (tX10_tell_I 4 (nI 3) y = some ()) ∧ (fX11_tell 0 N0 T0 (fun _ => 0) (nI 3) y = some r2) ∧ ((fX11_thrown r2.2.1) = (1 : Int32)) := by
  have hm : (fX11_tell 0 N0 T0 (fun _ => 0) (nI 3) y).map (fun r2 => (fX11_thrown r2.2.1)) = some (1 : Int32) := by
    unfold fX11_tell
    rw [show fX11_noPerson T0 (nI 3) = some (0, 0) from by decide +kernel]
    rw [Option.bind_some, if_pos (show ((0 : Int32), (0 : Int32)).1 = 0 from rfl), pnp hx]
    rfl
  obtain ⟨r2, h2, h3⟩ := pmap hm
  exact ⟨r2, (by show tsel (tX10_requirePerson_I 4 y) _ = _; rw [ptp hx]; rfl), h2, h3⟩
theorem pe29 {x : Int32} (hx : x < 0 ∨ 1 < x) : ∃ r2 : Int32 × Int32 × (Nat → Int32) × (Nat → Int32), (tX10_saveSnapshot_I x = some ()) ∧ (fX11_saveSnapshot N0 (fun _ => 0) B0 x = some r2) ∧ ((fX11_thrown r2.2.1) = (1 : Int32)) := by
  have hm : (fX11_saveSnapshot N0 (fun _ => 0) B0 x).map (fun r2 => (fX11_thrown r2.2.1)) = some (1 : Int32) := by
    unfold fX11_saveSnapshot
    rw [pns hx]
    rfl
  obtain ⟨r2, h2, h3⟩ := pmap hm
  exact ⟨r2, (by show tsel (tX10_requireSlot_I x) _ = _; rw [pts hx]; rfl), h2, h3⟩
theorem pe30 {x : Int32} (hx : x < 0 ∨ 1 < x) : ∃ r2 : Int32 × Int32 × Int32 × (Nat → Int32), (tX10_restoreSnapshot_I x = some ()) ∧ (fX11_restoreSnapshot 0 N0 (fun _ => 0) B0 x = some r2) ∧ ((fX11_thrown r2.2.1) = (1 : Int32)) := by
  have hm : (fX11_restoreSnapshot 0 N0 (fun _ => 0) B0 x).map (fun r2 => (fX11_thrown r2.2.1)) = some (1 : Int32) := by
    unfold fX11_restoreSnapshot
    rw [pns hx]
    rfl
  obtain ⟨r2, h2, h3⟩ := pmap hm
  exact ⟨r2, (by show tsel (tX10_requireSlot_I x) _ = _; rw [pts hx]; rfl), h2, h3⟩
theorem pq0 (a b c d e : Int32) : ∃ r1 : Int32 × Int32 × (Nat → Int32), ∃ r2 : Int32 × Int32 × Int32 × (Nat → Int32), (fX10_append 0 (fun _ => 0) a b c d e = some r1) ∧ (fX11_append 0 (fun _ => 0) a b c d e = some r2) ∧ (r1.1 = r2.1) := by
  obtain ⟨t1, e1⟩ := pputX 0 (by decide) (fun _ => 0) a
  obtain ⟨t2, e2⟩ := pputX 4 (by decide) t1 b
  obtain ⟨t3, e3⟩ := pputX 8 (by decide) t2 c
  obtain ⟨t4, e4⟩ := pputX 12 (by decide) t3 d
  obtain ⟨t5, e5⟩ := pputX 16 (by decide) t4 e
  obtain ⟨s1, g1⟩ := pputM 0 (by decide) (fun _ => 0) a
  obtain ⟨s2, g2⟩ := pputM 4 (by decide) s1 b
  obtain ⟨s3, g3⟩ := pputM 8 (by decide) s2 c
  obtain ⟨s4, g4⟩ := pputM 12 (by decide) s3 d
  obtain ⟨s5, g5⟩ := pputM 16 (by decide) s4 e
  rw [nI_0] at e1 g1
  refine ⟨(nI 20, nI 20, t5), (nI 20, 0, nI 20, s5), ?_, ?_, rfl⟩
  · unfold fX10_append
    rw [if_pos (by decide), e1, Option.bind_some, e2, Option.bind_some, e3, Option.bind_some, e4, Option.bind_some, e5, Option.bind_some]
  · unfold fX11_append
    rw [if_pos (by decide), g1, Option.bind_some, g2, Option.bind_some, g3, Option.bind_some, g4, Option.bind_some, g5, Option.bind_some]
theorem pq6 (x : Int32) : ∃ r1 : Int32, ∃ r2 : Int32 × Int32, (fX10_cheapestLine 0 (fun _ => 0) x = some r1) ∧ (fX11_cheapestLine T0 (fun _ => 0) x = some r2) ∧ (r1 = r2.1) := by
  refine ⟨-1, (-1, 0), by rfl, ?_, rfl⟩
  unfold fX11_cheapestLine
  rw [if_pos (show fX11_within x 0 (T0 1 - 1) = 0 from pw (pany x))]
theorem pq13 {x : Int32} (hx : ¬ (x < 0 ∨ 9999 < x)) : ∃ r1 : (Nat → Int64), ∃ r2 : Int32 × Int32, (fL_spent 1 (fun _ => 0) none ([]) x = some r1) ∧ (fX11_spent N0 x = some r2) ∧ ((fX11_thrown r2.2) = (0 : Int32)) ∧ (r1 0 = r2.1.toInt64) := by
  have h1 : ¬ x < 0 := fun c => hx (Or.inl c)
  have h2 : x ≤ 9999 := Int32.not_lt.mp fun c => hx (Or.inr c)
  have hw : fX11_within x 0 9999 = 1 := by unfold fX11_within; rw [if_neg h1, if_neg (fun c => hx (Or.inr c))]
  refine ⟨vp_updL (fun _ => 0) 0 0, (0, 0), ?_, ?_, rfl, rfl⟩
  · unfold fL_spent fX10_spent
    rw [if_neg h1, if_pos h2]
    rfl
  · unfold fX11_spent
    rw [hw]
    rw [if_neg (by decide)]
    show (if N0 0 ≤ x then fX11_spent_b57 N0 (N0 0) 14 0 else fX11_spent_b57 N0 x 14 0) = _
    rw [if_pos (show N0 0 ≤ x from Int32.not_lt.mp h1)]
    rfl
