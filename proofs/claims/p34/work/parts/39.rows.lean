/-! that the pure functions give an answer: rows -/
def tG {ρ : Type} (Q : ρ → Prop) (a : Option ρ) : Prop := ∃ r, a = some r ∧ Q r
def tT {ρ : Type} : ρ → Prop := fun _ => True
theorem FUge : 20000 ≤ FU := by unfold FU; omega
theorem tgS {ρ : Type} {Q : ρ → Prop} {x : ρ} (h : Q x) : tG Q (some x) := ⟨x, rfl, h⟩
theorem tgI {ρ : Type} {c : Prop} [Decidable c] {Q : ρ → Prop} {a b : Option ρ} (h1 : c → tG Q a) (h2 : ¬ c → tG Q b) : tG Q (if c then a else b) := by
  by_cases h : c
  · rw [if_pos h]; exact h1 h
  · rw [if_neg h]; exact h2 h
theorem obs {α β : Type} (u : α) (f : α → Option β) : (some u).bind f = f u := rfl
theorem one0 : ¬ (1 : Int32) = 0 := by decide
theorem gdI {α : Type} {i : Int32} {N : Nat} {a : Option α} (h : vp_in i N) : gd i N a = a := if_pos h
theorem tgD {ρ : Type} {i : Int32} {N : Nat} {Q : ρ → Prop} {a : Option ρ} (h : vp_in i N) (k : tG Q a) : tG Q (gd i N a) := by
  rw [gdI h]
  exact k
theorem tgB {ρ : Type} {i : Int32} {Q : ρ → Prop} {a : Option ρ} (h : i = 0 ∨ i = 1) (k : tG Q a) : tG Q (gb i a) := by
  unfold gb
  rw [if_pos h]
  exact k
theorem tgN {ρ α : Type} {x : α} {k : α → Option ρ} {Q : ρ → Prop} (h : ∀ w, w = x → tG Q (k w)) : tG Q (nm x k) := h x rfl
theorem tgC {ρ α : Type} {a : Option α} {f : α → Option ρ} {P : α → Prop} {Q : ρ → Prop} (h : tG P a) (k : ∀ u, P u → tG Q (f u)) : tG Q (a.bind f) := by
  obtain ⟨u, hu, hp⟩ := h
  rw [hu]
  exact k u hp
theorem tgW {ρ : Type} {P Q : ρ → Prop} {a : Option ρ} (h : tG P a) (k : ∀ r, P r → Q r) : tG Q a := by
  obtain ⟨u, hu, hp⟩ := h
  exact ⟨u, hu, k u hp⟩
/-- a small count -/
def pB (b : Nat) (x : Int32) : Prop := ∃ k : Nat, k ≤ b ∧ x = nI k
theorem vkn {k N : Nat} (h : k < N) (hN : N < 2 ^ 31) : vp_in (nI k) N := vp_in_nI h hN
theorem vpB {x : Int32} {b N : Nat} (h : pB b x) (hb : b < N) (hN : N < 2 ^ 31) : vp_in x N := by
  obtain ⟨k, h1, rfl⟩ := h
  exact vp_in_nI (by omega) hN
theorem vps {a b N : Nat} (h : a + b < N) (hN : N < 2 ^ 31) : vp_in (nI a + nI b) N := by
  rw [nI_add]
  exact vp_in_nI h hN
theorem nll {a b : Nat} (h : nI a ≤ nI b) (ha : a < 2 ^ 31) (hb : b < 2 ^ 31) : a ≤ b := (nI_leI ha hb).mp h
theorem nln {a b : Nat} (h : ¬ nI a ≤ nI b) (ha : a < 2 ^ 31) (hb : b < 2 ^ 31) : b < a := Nat.not_le.mp fun q => h ((nI_leI ha hb).mpr q)
theorem nlt {a b : Nat} (h : nI a < nI b) (ha : a < 2 ^ 31) (hb : b < 2 ^ 31) : a < b := (nI_ltI ha hb).mp h
theorem nltn {a b : Nat} (h : ¬ nI a < nI b) (ha : a < 2 ^ 31) (hb : b < 2 ^ 31) : b ≤ a := Nat.not_lt.mp fun q => h ((nI_ltI ha hb).mpr q)
/-- lines among at most ten people -/
def hFS (nl : Nat) (f s : Nat → Int32) : Prop := ∀ k : Nat, k < nl → pB 9 (f (nI k).toNatClampNeg) ∧ pB 9 (s (nI k).toNatClampNeg)
theorem tz (x : Int32) (i : Int32) : fX10_isIn x i = 0 ∨ fX10_isIn x i = 1 := by
  unfold fX10_isIn
  by_cases h : ((x >>> (i &&& 31)) &&& 1) = 1
  · rw [if_pos h]; exact Or.inr rfl
  · rw [if_neg h]; exact Or.inl rfl
theorem nadd {x y : Int32} {a b : Nat} (h1 : x = nI a) (h2 : y = nI b) : x + y = nI (a + b) := by rw [h1, h2, nI_add]
theorem nmul {x y : Int32} {a b : Nat} (h1 : x = nI a) (h2 : y = nI b) : x * y = nI (a * b) := by
  rw [h1, h2]
  exact (Int32.ofNat_mul a b).symm
theorem nsub {x y : Int32} {a b : Nat} (h1 : x = nI a) (h2 : y = nI b) (h : b ≤ a) : x - y = nI (a - b) := by
  rw [h1, h2]
  obtain ⟨c, rfl⟩ : ∃ c, a = b + c := ⟨a - b, by omega⟩
  rw [← nI_add, Nat.add_sub_cancel_left, Int32.add_comm, Int32.add_sub_cancel]
theorem nsub1 {a : Nat} (h : 1 ≤ a) : nI a - 1 = nI (a - 1) := nsub (a := a) (b := 1) rfl rfl h
theorem vne {x : Int32} {e N : Nat} (h : x = nI e) (hk : e < N) (hN : N < 2 ^ 31) : vp_in x N := by
  rw [h]
  exact vp_in_nI hk hN
theorem vsp {y : Int32} {a b N : Nat} (h : pB b y) (hk : a + b < N) (hN : N < 2 ^ 31) : vp_in (nI a + y) N := by
  obtain ⟨k, h1, rfl⟩ := h
  rw [nI_add]
  exact vp_in_nI (by omega) hN
theorem tpw {p : Nat} (hp : p ≤ 9) : 2 ^ p ≤ 512 := Nat.le_trans (Nat.pow_le_pow_right (by decide) hp) (by decide)
theorem tshl {p : Nat} (hp : p ≤ 9) : (1 : Int32) <<< (nI p &&& 31) = nI (2 ^ p) := by
  rcases (show p = 0 ∨ p = 1 ∨ p = 2 ∨ p = 3 ∨ p = 4 ∨ p = 5 ∨ p = 6 ∨ p = 7 ∨ p = 8 ∨ p = 9 by omega) with rfl | rfl | rfl | rfl | rfl | rfl | rfl | rfl | rfl | rfl <;> decide +kernel
theorem vshl1 {p : Nat} (hp : p ≤ 10) : vp_in (((1 : Int32) <<< (nI p &&& 31)) - 1) 1024 := by
  rcases (show p = 0 ∨ p = 1 ∨ p = 2 ∨ p = 3 ∨ p = 4 ∨ p = 5 ∨ p = 6 ∨ p = 7 ∨ p = 8 ∨ p = 9 ∨ p = 10 by omega) with rfl | rfl | rfl | rfl | rfl | rfl | rfl | rfl | rfl | rfl | rfl <;> exact zv (by decide +kernel)
theorem nand (k : Nat) (hk : k < 2 ^ 31) (z : Int32) : ∃ j, j ≤ k ∧ nI k &&& z = nI j := by
  refine ⟨k &&& z.toUInt32.toNat, Nat.and_le_left, ?_⟩
  apply Int32.toBitVec_inj.mp
  apply BitVec.eq_of_toNat_eq
  have h1 : (nI k &&& z).toBitVec.toNat = k % 2 ^ 32 &&& z.toBitVec.toNat := by
    show ((Int32.ofNat k).toBitVec &&& z.toBitVec).toNat = _
    rw [BitVec.toNat_and]
    rfl
  have h2 : (nI (k &&& z.toUInt32.toNat)).toBitVec.toNat = (k &&& z.toUInt32.toNat) % 2 ^ 32 := rfl
  have h3 : k &&& z.toUInt32.toNat ≤ k := Nat.and_le_left
  rw [h1, h2, Nat.mod_eq_of_lt (by omega), Nat.mod_eq_of_lt (by omega)]
  rfl
theorem vand {k N : Nat} {z : Int32} (h : k < N) (hN : N < 2 ^ 31) : vp_in (nI k &&& z) N := by
  obtain ⟨j, h1, h2⟩ := nand k (by omega) z
  rw [h2]
  exact vp_in_nI (by omega) hN
theorem tpair {a b : Int32} (h1 : pB 9 a) (h2 : pB 9 b) : pB 99 (fX0_pairOf a b) := by
  obtain ⟨x, hx, rfl⟩ := h1
  obtain ⟨y, hy, rfl⟩ := h2
  unfold fX0_pairOf nm
  by_cases c : nI x < nI y
  · rw [if_pos c, if_neg (fun d => absurd (nlt d (by omega) (by omega)) (by have := nlt c (by omega) (by omega); omega))]
    exact ⟨y * 10 + x, by omega, nadd (nmul rfl rfl) rfl⟩
  · by_cases d : nI y < nI x
    · rw [if_neg c, if_pos d]
      exact ⟨x * 10 + y, by omega, nadd (nmul rfl rfl) rfl⟩
    · rw [if_neg c, if_neg d]
      exact ⟨x * 10 + x, by omega, nadd (nmul rfl rfl) rfl⟩
theorem tshr (p : Nat) (hp : p ≤ 10) : ((1 : Int32) <<< (nI p &&& 31)) - 1 = nI (2 ^ p - 1) := by
  rcases (show p = 0 ∨ p = 1 ∨ p = 2 ∨ p = 3 ∨ p = 4 ∨ p = 5 ∨ p = 6 ∨ p = 7 ∨ p = 8 ∨ p = 9 ∨ p = 10 by omega) with rfl | rfl | rfl | rfl | rfl | rfl | rfl | rfl | rfl | rfl | rfl <;> decide +kernel
