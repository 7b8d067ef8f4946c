theorem zmjX9_47 : Cond.methodLink RX9 47 yJ9_min_7cf53 ∈ zG := zm3 (i := 97) rfl rfl
theorem zmjX6_36 : Cond.methodLink RX6 36 yJ9_min_7cf53 ∈ zG := zm4 (i := 150) rfl rfl
theorem zmjX3_35 : Cond.methodLink RX3 35 yJ9_max_7cf53 ∈ zG := zm2 (i := 155) rfl rfl
theorem zmjX2_29 : Cond.methodLink RX2 29 yJ9_min_7cf53 ∈ zG := zm2 (i := 199) rfl rfl
theorem zmjX1_90 : Cond.methodLink RX1 90 yJ9_min_7cf53 ∈ zG := zm4 (i := 214) rfl rfl
theorem zmjX0_71 : Cond.methodLink RX0 71 yJ9_min_7cf53 ∈ zG := zm2 (i := 233) rfl rfl
theorem zmjX0_69 : Cond.methodLink RX0 69 yJ9_max_7cf53 ∈ zG := zm2 (i := 232) rfl rfl
theorem zmjX0_63 : Cond.methodLink RX0 63 yJ9_max_f86c9 ∈ zG := zm2 (i := 237) rfl rfl
def FU : Nat := 20000
def gd {α : Type} (i : Int32) (N : Nat) (a : Option α) : Option α := if ¬ (i < 0 ∨ N ≤ i.toNatClampNeg) then a else none
theorem ig {α : Type} {i : Int32} {N : Nat} {a : Option α} {r : α} (h : gd i N a = some r) : vp_in i N ∧ a = some r := io (c := ¬ (i < 0 ∨ N ≤ i.toNatClampNeg)) h
theorem zsw2 {x : Int32} (i : Nat) (hi : i < ((1 : Int) - 0 + 1).toNat) (c0 : ¬ x = 0) (c1 : ¬ x = 1) : ¬ x = Int32.ofInt (0 + i) := by
  rcases (show i = 0 ∨ i = 1 by omega) with rfl | rfl
  · exact c0
  · exact c1
theorem zsw3 {x : Int32} (i : Nat) (hi : i < ((2 : Int) - 0 + 1).toNat) (c0 : ¬ x = 0) (c1 : ¬ x = 1) (c2 : ¬ x = 2) : ¬ x = Int32.ofInt (0 + i) := by
  rcases (show i = 0 ∨ i = 1 ∨ i = 2 by omega) with rfl | rfl | rfl
  · exact c0
  · exact c1
  · exact c2
theorem zsw4 {x : Int32} (i : Nat) (hi : i < ((3 : Int) - 0 + 1).toNat) (c0 : ¬ x = 0) (c1 : ¬ x = 1) (c2 : ¬ x = 2) (c3 : ¬ x = 3) : ¬ x = Int32.ofInt (0 + i) := by
  rcases (show i = 0 ∨ i = 1 ∨ i = 2 ∨ i = 3 by omega) with rfl | rfl | rfl | rfl
  · exact c0
  · exact c1
  · exact c2
  · exact c3
theorem zsw5 {x : Int32} (i : Nat) (hi : i < ((4 : Int) - 0 + 1).toNat) (c0 : ¬ x = 0) (c1 : ¬ x = 1) (c2 : ¬ x = 2) (c3 : ¬ x = 3) (c4 : ¬ x = 4) : ¬ x = Int32.ofInt (0 + i) := by
  rcases (show i = 0 ∨ i = 1 ∨ i = 2 ∨ i = 3 ∨ i = 4 by omega) with rfl | rfl | rfl | rfl | rfl
  · exact c0
  · exact c1
  · exact c2
  · exact c3
  · exact c4
theorem zsw6 {x : Int32} (i : Nat) (hi : i < ((5 : Int) - 0 + 1).toNat) (c0 : ¬ x = 0) (c1 : ¬ x = 1) (c2 : ¬ x = 2) (c3 : ¬ x = 3) (c4 : ¬ x = 4) (c5 : ¬ x = 5) : ¬ x = Int32.ofInt (0 + i) := by
  rcases (show i = 0 ∨ i = 1 ∨ i = 2 ∨ i = 3 ∨ i = 4 ∨ i = 5 by omega) with rfl | rfl | rfl | rfl | rfl | rfl
  · exact c0
  · exact c1
  · exact c2
  · exact c3
  · exact c4
  · exact c5
theorem zsw7 {x : Int32} (i : Nat) (hi : i < ((6 : Int) - 0 + 1).toNat) (c0 : ¬ x = 0) (c1 : ¬ x = 1) (c2 : ¬ x = 2) (c3 : ¬ x = 3) (c4 : ¬ x = 4) (c5 : ¬ x = 5) (c6 : ¬ x = 6) : ¬ x = Int32.ofInt (0 + i) := by
  rcases (show i = 0 ∨ i = 1 ∨ i = 2 ∨ i = 3 ∨ i = 4 ∨ i = 5 ∨ i = 6 by omega) with rfl | rfl | rfl | rfl | rfl | rfl | rfl
  · exact c0
  · exact c1
  · exact c2
  · exact c3
  · exact c4
  · exact c5
  · exact c6
def gb {α : Type} (i : Int32) (a : Option α) : Option α := if i = 0 ∨ i = 1 then a else none
theorem ib {α : Type} {i : Int32} {a : Option α} {r : α} (h : gb i a = some r) : narrow .boolean (.int i) = .int i ∧ a = some r := by
  obtain ⟨h1, h2⟩ := io (c := i = 0 ∨ i = 1) h
  refine ⟨?_, h2⟩
  rcases h1 with rfl | rfl <;> rfl
theorem zrfn {C : String} (q : Option Nat) : narrow (.object C) (va_rf q) = va_rf q := by cases q <;> rfl
theorem zrff {C : String} (q : Option Nat) : fits (.object C) (va_rf q) = true := by cases q <;> rfl
theorem zrfc (q : Option Nat) : (va_rf q).category = 1 := by cases q <;> rfl
section RQ
variable {X : sX} {l : Launch} {R : Room} {D : va_G} {cT : Nat → ClassId} {nL k n pc : Nat} {cc : ByteArray} {own : String} {L : List (Nat × Value)} {st : List Value} {ws : va_W}
theorem xi_bzero {x : Int32} {P : Prop} (h : x = 0 → P) (h' : ¬ x = 0 → P) : P := by
  by_cases c : x = 0
  · exact h c
  · exact h' c
theorem xi_mmax (C : sC X R D cT nL cc own) {index : Nat} {x y : Int32} (hl : Cond.methodLink own index yJ9_max_7cf53 ∈ zG) (hf : 1 ≤ R.frames ∧ 23 ≤ R.locals) (hk : k ≤ R.cells ∧ n ≤ R.slots) (hroom : (st.map fun v => v.category).sum ≤ 8) (hdg : decode cc pc = .ok (.invokestatic index, 3)) (kk : sW X l R D nL k n (pc + 3) L (.int (if x < y then y else x) :: st) ws) : sW X l R D nL k n pc L (.int y :: .int x :: st) ws := by
  obtain ⟨p, e, s, m, args, below, meth, c, Q, A⟩ := X
  intro H locs ls hP hD hS hl1
  exact va_mmax C.1.1 C.1.2.1 (C.1.2.2.1.trans hl1.1.symm) C.1.2.2.2.1 (C.1.2.2.2.2 _ hl) (C.1.2.2.2.2 _ zsJ9_max_7cf53) (C.1.2.2.2.2 _ zcJ9_max_7cf53.2.1) (C.1.2.2.2.2 _ zcJ9_max_7cf53.1) hf.1 (Nat.le_trans (Nat.add_le_add_right hroom 13) (by have := hf.2; omega)) hk.1 hk.2 hdg (kk H locs ls hP hD hS hl1)
theorem xi_mmin (C : sC X R D cT nL cc own) {index : Nat} {x y : Int32} (hl : Cond.methodLink own index yJ9_min_7cf53 ∈ zG) (hf : 1 ≤ R.frames ∧ 23 ≤ R.locals) (hk : k ≤ R.cells ∧ n ≤ R.slots) (hroom : (st.map fun v => v.category).sum ≤ 8) (hdg : decode cc pc = .ok (.invokestatic index, 3)) (kk : sW X l R D nL k n (pc + 3) L (.int (if y < x then y else x) :: st) ws) : sW X l R D nL k n pc L (.int y :: .int x :: st) ws := by
  obtain ⟨p, e, s, m, args, below, meth, c, Q, A⟩ := X
  intro H locs ls hP hD hS hl1
  exact va_mmin C.1.1 C.1.2.1 (C.1.2.2.1.trans hl1.1.symm) C.1.2.2.2.1 (C.1.2.2.2.2 _ hl) (C.1.2.2.2.2 _ zsJ9_min_7cf53) (C.1.2.2.2.2 _ zcJ9_min_7cf53.2.1) (C.1.2.2.2.2 _ zcJ9_min_7cf53.1) hf.1 (Nat.le_trans (Nat.add_le_add_right hroom 13) (by have := hf.2; omega)) hk.1 hk.2 hdg (kk H locs ls hP hD hS hl1)
theorem xi_mmaxl (C : sC X R D cT nL cc own) {index : Nat} {x y : Int64} (hl : Cond.methodLink own index yJ9_max_f86c9 ∈ zG) (hf : 1 ≤ R.frames ∧ 23 ≤ R.locals) (hk : k ≤ R.cells ∧ n ≤ R.slots) (hroom : (st.map fun v => v.category).sum ≤ 8) (hdg : decode cc pc = .ok (.invokestatic index, 3)) (kk : sW X l R D nL k n (pc + 3) L (.long (if y < x then x else y) :: st) ws) : sW X l R D nL k n pc L (.long y :: .long x :: st) ws := by
  obtain ⟨p, e, s, m, args, below, meth, c, Q, A⟩ := X
  intro H locs ls hP hD hS hl1
  exact va_mmax_long C.1.1 C.1.2.1 (C.1.2.2.1.trans hl1.1.symm) C.1.2.2.2.1 (C.1.2.2.2.2 _ hl) (C.1.2.2.2.2 _ zsJ9_max_f86c9) (C.1.2.2.2.2 _ zcJ9_max_f86c9.2.1) (C.1.2.2.2.2 _ zcJ9_max_f86c9.1) hf.1 (Nat.le_trans (Nat.add_le_add_right hroom 15) (by have := hf.2; omega)) hk.1 hk.2 hdg (kk H locs ls hP hD hS hl1)
theorem zrj {k : Nat} : 1 ≤ (zR (k + 1)).frames ∧ 23 ≤ (zR (k + 1)).locals := ⟨by simp only [zR]; omega, by simp only [zR]; omega⟩
end RQ
