/-! values of the class's functions, of at most seven people and eight lines -/
def hB (n : Nat) (S : Nat → Bool) (x : Int32) : Prop := ∀ i, i < 32 → xb x i = (decide (i < n) && S i)
theorem sbit_tb {S : Nat → Bool} : ∀ n i : Nat, (sbit S n).testBit i = (decide (i < n) && S i) := by
  intro n
  induction n with
  | zero =>
    intro i
    show (0 : Nat).testBit i = _
    rw [Nat.zero_testBit, decide_eq_false (Nat.not_lt_zero i), Bool.false_and]
  | succ n ih =>
    intro i
    have hl := sbit_lt (S := S) n
    show (sbit S n + (if S n = true then 2 ^ n else 0)).testBit i = _
    cases hs : S n with
    | true =>
      rw [if_pos rfl, Nat.add_comm, show 2 ^ n + sbit S n = 2 ^ n ||| sbit S n by
        have := Nat.two_pow_add_eq_or_of_lt hl 1
        rw [Nat.mul_one] at this
        exact this, Nat.testBit_or, Nat.testBit_two_pow, ih i]
      by_cases e : i = n
      · subst e
        rw [decide_eq_true (rfl : i = i), decide_eq_true (Nat.lt_succ_self i), hs, Bool.true_or, Bool.true_and]
      · rw [decide_eq_false (fun z => e z.symm), Bool.false_or, show decide (i < n + 1) = decide (i < n) by rw [decide_eq_decide]; omega]
    | false =>
      rw [if_neg (by decide), Nat.add_zero, ih i]
      by_cases e : i = n
      · subst e
        rw [hs, Bool.and_false, Bool.and_false]
      · rw [show decide (i < n + 1) = decide (i < n) by rw [decide_eq_decide]; omega]
theorem hB_of {n : Nat} {S : Nat → Bool} (hn : n ≤ 31) : hB n S (nI (sbit S n)) := by
  intro i hi
  have h1 := sbit_lt (S := S) n
  have h2 : 2 ^ n ≤ 2 ^ 31 := Nat.pow_le_pow_right (by decide) hn
  rw [ib_N (by omega), sbit_tb]
theorem hB_is {n : Nat} {S : Nat → Bool} {x : Int32} (hn : n ≤ 31) (h : hB n S x) : x = nI (sbit S n) := ib_ext (fun i hi => by rw [h i hi, hB_of hn i hi])
theorem hB_in {n : Nat} {S : Nat → Bool} {x : Int32} (h : hB n S x) {l : Nat} (hl : l < n) (hn : n ≤ 31) : fX10_isIn x (nI l) = if S l = true then 1 else 0 := by
  rw [isIn_ib (by omega), h l (by omega), decide_eq_true hl, Bool.true_and]
theorem hB_congr {n : Nat} {S T : Nat → Bool} {x : Int32} (h : hB n S x) (e : ∀ l, l < n → S l = T l) : hB n T x := by
  intro i hi
  rw [h i hi]
  by_cases c : i < n
  · rw [e i c]
  · rw [decide_eq_false c, Bool.false_and, Bool.false_and]
theorem hB_or1 {n : Nat} {S : Nat → Bool} {x : Int32} {p : Nat} (h : hB n S x) (hp : p < n) (hn : n ≤ 31) : hB n (fun i => S i || decide (i = p)) (x ||| ((1 : Int32) <<< (nI p &&& 31))) := by
  intro i hi
  rw [ib_or, ib_one p (by omega) i hi, h i hi]
  show _ = (decide (i < n) && (S i || decide (i = p)))
  by_cases e : i = p
  · subst e
    rw [decide_eq_true hp, decide_eq_true (rfl : i = i), Bool.or_true, Bool.true_and, Bool.or_true]
  · rw [decide_eq_false e, Bool.or_false, Bool.or_false]
theorem hB_del {n : Nat} {S : Nat → Bool} {x : Int32} {p : Nat} (h : hB n S x) (hp : p < 32) : hB n (fun i => S i && !decide (i = p)) (x &&& (((1 : Int32) <<< (nI p &&& 31)) ^^^ (-1))) := by
  intro i hi
  rw [ib_and, ib_not hi, ib_one p hp i hi, h i hi, Bool.and_assoc]
theorem hB_0 {n : Nat} : hB n (fun _ => false) 0 := fun i _ => by rw [ib_0, Bool.and_false]
theorem decs {i l : Nat} (e : ¬ i = l) : decide (i < l + 1) = decide (i < l) := by rw [decide_eq_decide]; omega
/-- the lines -/
def hLn (np nl : Nat) (a b c : Nat → Nat) (fw : Nat → Bool) (fi se co ow : Nat → Int32) : Prop := np ≤ 7 ∧ nl ≤ 8 ∧ ∀ l, l < nl → a l < np ∧ b l < np ∧ a l ≠ b l ∧ c l < 1000 ∧ fi l = nI (a l) ∧ se l = nI (b l) ∧ co l = nI (c l) ∧ ow l = if fw l = true then 1 else 0
theorem hLn_Ex {np nl : Nat} {a b c : Nat → Nat} {fw : Nat → Bool} {fi se co ow : Nat → Int32} (h : hLn np nl a b c fw fi se co ow) : hEx np nl a b c fi se co := ⟨h.1, h.2.1, fun l hl => by
  obtain ⟨e1, e2, e3, e4, e5, e6, e7, _⟩ := h.2.2 l hl
  exact ⟨e1, e2, e3, e4, e5, e6, e7⟩⟩
theorem ow0 {f : Bool} {x : Int32} (h : x = if f = true then 1 else 0) : x = 0 ↔ f = false := by
  cases f with
  | true => exact ⟨fun z => absurd (h.symm.trans z) one0, fun z => absurd z (by decide)⟩
  | false => exact ⟨fun _ => rfl, fun _ => h⟩
/-- how many bits of a small number are set -/
def pc (x : Nat) : Nat := (x.testBit 0).toNat + (x.testBit 1).toNat + (x.testBit 2).toNat + (x.testBit 3).toNat + (x.testBit 4).toNat + (x.testBit 5).toNat + (x.testBit 6).toNat
theorem bc128 : ∀ x : Nat, x < 128 → fJ6_bitCount_0f7a4 (nI x) = nI (pc x) := by decide +kernel
theorem bc256 : ∀ x : Nat, x < 256 → fJ6_bitCount_0f7a4 (nI x) = nI (pc x + (x.testBit 7).toNat) := by decide +kernel
theorem pc_le : ∀ n : Nat, n ≤ 7 → ∀ x : Nat, x < 2 ^ n → pc x ≤ n := by decide +kernel
def dif (x y : Nat) : Nat := x &&& (127 ^^^ y)
theorem dif_lt {x y : Nat} (h : x < 128) : dif x y < 128 := Nat.lt_of_le_of_lt Nat.and_le_left h
theorem tb127 : ∀ i : Nat, i < 7 → Nat.testBit 127 i = true := by decide
theorem dif_eq {x y : Nat} (hx : x < 128) (hy : y < 128) : nI x &&& (nI y ^^^ (-1)) = nI (dif x y) := by
  have h3 := dif_lt (y := y) hx
  refine ib_ext (fun i hi => ?_)
  rw [ib_and, ib_not hi, ib_N (by omega), ib_N (by omega), ib_N (by omega)]
  unfold dif
  rw [Nat.testBit_and, Nat.testBit_xor]
  rcases Nat.lt_or_ge i 7 with c | c
  · rw [tb127 i c, Bool.true_xor]
  · rw [tb_hi (p := 7) hx c, Bool.false_and, Bool.false_and]
theorem bcd {x y : Nat} (hx : x < 128) (hy : y < 128) : fJ6_bitCount_0f7a4 (nI x &&& (nI y ^^^ (-1))) = nI (pc (dif x y)) := by
  rw [dif_eq hx hy, bc128 _ (dif_lt hx)]
theorem pcd_le {x y : Nat} (hx : x < 128) : pc (dif x y) ≤ 7 := pc_le 7 (by decide) _ (dif_lt hx)
/-- what a line gains -/
def gn (a b : Nat → Nat) (fw : Nat → Bool) (k : Nat → Nat) (l : Nat) : Nat := pc (dif (k (a l)) (k (b l))) + (if fw l = true then 0 else pc (dif (k (b l)) (k (a l))))
section
variable {np nl : Nat} {a b c : Nat → Nat} {fw : Nat → Bool} {fi se co ow : Nat → Int32}
def hK (np : Nat) (k : Nat → Nat) (pcs : Nat → Int32) : Prop := ∀ p, p < np → k p < 2 ^ np ∧ pcs p = nI (k p)
theorem hK_lt {k : Nat → Nat} {pcs : Nat → Int32} (hnp : np ≤ 7) (h : hK np k pcs) {p : Nat} (hp : p < np) : k p < 128 := Nat.lt_of_lt_of_le (h p hp).1 (Nat.le_trans (Nat.pow_le_pow_right (by decide) hnp) (by decide))
theorem gainLine {k : Nat → Nat} {pcs : Nat → Int32} (hE : hLn np nl a b c fw fi se co ow) (h : hK np k pcs) : hGn nl (gn a b fw k) fi se ow pcs := by
  intro l hl
  obtain ⟨hnp, hnl, hE⟩ := hE
  obtain ⟨e1, e2, e3, e4, e5, e6, e7, e8⟩ := hE l hl
  have ka := hK_lt hnp h e1
  have kb := hK_lt hnp h e2
  have p1 := pcd_le (y := k (b l)) ka
  have p2 := pcd_le (y := k (a l)) kb
  refine ⟨?_, ?_⟩
  · unfold gn
    cases fw l with
    | true => rw [if_pos rfl]; omega
    | false => rw [if_neg (by decide)]; omega
  · unfold fX1_gainOfLine nm
    dsimp only
    rw [gdI (vkn (by omega) (by decide)), nI_clamp (by omega), e5, e6, gdI (vkn (by omega) (by decide)), gdI (vkn (by omega) (by decide)), nI_clamp (by omega), nI_clamp (by omega), (h _ e1).2, (h _ e2).2]
    rw [bcd ka kb, bcd kb ka]
    unfold gn
    cases hf : fw l with
    | true =>
      rw [hf, if_pos rfl] at e8
      rw [if_neg (by rw [e8]; exact one0), if_pos rfl, Nat.add_zero]
    | false =>
      rw [hf, if_neg (by decide)] at e8
      rw [if_pos e8, if_neg (by decide), nI_add]
def nsum (S : Nat → Bool) (g : Nat → Nat) : Nat → Nat
  | 0 => 0
  | n + 1 => nsum S g n + (if S n = true then g n else 0)
theorem nsum_swm {S : Nat → Bool} {g : Nat → Nat} : ∀ n : Nat, (nsum S g n : Int) = swm S (fun l => (g l : Int)) n := by
  intro n
  induction n with
  | zero => rfl
  | succ n ih =>
    show ((nsum S g n + (if S n = true then g n else 0) : Nat) : Int) = swm S (fun l => (g l : Int)) n + (if S n = true then (g n : Int) else 0)
    rw [← ih]
    cases S n with
    | true => rw [if_pos rfl, if_pos rfl]; omega
    | false => rw [if_neg (by decide), if_neg (by decide)]; omega
theorem gain5 {g : Nat → Nat} {pcs : Nat → Int32} {S : Nat → Bool} {x : Int32} (hnl : nl ≤ 8) (hG : hGn nl g fi se ow pcs) (hS : hB nl S x) : ∀ (f l : Nat), l ≤ nl → nl - l < f → tG (fun r => r = nI (nsum S g nl)) (fX1_gainOf_b5 (nI nl) fi se ow pcs x f (nI (nsum S g l)) (nI l)) := by
  intro f
  induction f with
  | zero => intro l h1 h2; omega
  | succ f ih =>
    intro l h1 h2
    rw [fX1_gainOf_b5_s]
    rcases Nat.lt_or_ge l nl with d | d
    · rw [if_neg (nI_ge d (by omega)), hB_in hS d (by omega), nI_1]
      have nx : nsum S g (l + 1) = nsum S g l + (if S l = true then g l else 0) := rfl
      cases hs : S l with
      | true =>
        rw [hs, if_pos rfl] at nx
        rw [if_pos rfl, if_neg one0, (hG l d).2, obs, nI_add, ← nx]
        exact ih (l + 1) (by omega) (by omega)
      | false =>
        rw [hs, ifF] at nx
        replace nx := nx.trans (Nat.add_zero _)
        rw [ifF, if_pos rfl, ← nx]
        exact ih (l + 1) (by omega) (by omega)
    · have e : l = nl := by omega
      subst e
      rw [if_pos (nI_le (Nat.le_refl _) (by omega))]
      exact tgS rfl
theorem gainV {g : Nat → Nat} {pcs : Nat → Int32} {S : Nat → Bool} {x : Int32} (hnl : nl ≤ 8) (hG : hGn nl g fi se ow pcs) (hS : hB nl S x) : fX1_gainOf (nI nl) fi se ow pcs x = some (nI (nsum S g nl)) := by
  obtain ⟨r, h1, h2⟩ := gain5 hnl hG hS FU 0 (Nat.zero_le _) (by have := FUge; omega)
  unfold fX1_gainOf
  rw [← h2]
  exact h1
theorem cost4 {S : Nat → Bool} {x : Int32} (hE : hLn np nl a b c fw fi se co ow) (hS : hB nl S x) : ∀ (f l : Nat), l ≤ nl → nl - l < f → tG (fun r => r = nI (nsum S c nl)) (fX1_costOf_b4 (nI nl) co x f (nI (nsum S c l)) (nI l)) := by
  obtain ⟨hnp, hnl, hE⟩ := hE
  intro f
  induction f with
  | zero => intro l h1 h2; omega
  | succ f ih =>
    intro l h1 h2
    rw [fX1_costOf_b4_s]
    rcases Nat.lt_or_ge l nl with d | d
    · rw [if_neg (nI_ge d (by omega)), hB_in hS d (by omega), nI_1]
      have nx : nsum S c (l + 1) = nsum S c l + (if S l = true then c l else 0) := rfl
      obtain ⟨e1, e2, e3, e4, e5, e6, e7, e8⟩ := hE l d
      cases hs : S l with
      | true =>
        rw [hs, if_pos rfl] at nx
        rw [if_pos rfl, if_neg one0]
        refine tgD (vkn (by omega) (by decide)) ?_
        rw [nI_clamp (by omega), e7, nI_add, ← nx]
        exact ih (l + 1) (by omega) (by omega)
      | false =>
        rw [hs, ifF] at nx
        replace nx := nx.trans (Nat.add_zero _)
        rw [ifF, if_pos rfl, ← nx]
        exact ih (l + 1) (by omega) (by omega)
    · have e : l = nl := by omega
      subst e
      rw [if_pos (nI_le (Nat.le_refl _) (by omega))]
      exact tgS rfl
theorem costV {S : Nat → Bool} {x : Int32} (hE : hLn np nl a b c fw fi se co ow) (hS : hB nl S x) : fX1_costOf (nI nl) co x = some (nI (nsum S c nl)) := by
  obtain ⟨r, h1, h2⟩ := cost4 hE hS FU 0 (Nat.zero_le _) (by have := FUge; have := hE.2.1; omega)
  unfold fX1_costOf
  rw [← h2]
  exact h1
/-- the persons of a set of lines -/
def psn (a b : Nat → Nat) (S : Nat → Bool) : Nat → Nat → Bool
  | 0, _ => false
  | n + 1, p => psn a b S n p || (S n && (decide (p = a n) || decide (p = b n)))
theorem psn_iff {S : Nat → Bool} {p : Nat} : ∀ n : Nat, psn a b S n p = true ↔ ∃ l, l < n ∧ S l = true ∧ (p = a l ∨ p = b l) := by
  intro n
  induction n with
  | zero => exact ⟨fun h => nofalse h, fun ⟨l, h, _⟩ => absurd h (Nat.not_lt_zero l)⟩
  | succ n ih =>
    show (psn a b S n p || (S n && (decide (p = a n) || decide (p = b n)))) = true ↔ _
    rw [Bool.or_eq_true, Bool.and_eq_true, Bool.or_eq_true, decide_eq_true_iff, decide_eq_true_iff, ih]
    constructor
    · rintro (⟨l, h1, h2⟩ | h)
      · exact ⟨l, by omega, h2⟩
      · exact ⟨n, by omega, h⟩
    · rintro ⟨l, h1, h2⟩
      by_cases e : l = n
      · rw [e] at h2
        exact Or.inr h2
      · exact Or.inl ⟨l, by omega, h2⟩
theorem pers4 {S : Nat → Bool} {x : Int32} (hE : hLn np nl a b c fw fi se co ow) (hS : hB nl S x) : ∀ (f l : Nat) (y : Int32), l ≤ nl → nl - l < f → hB np (psn a b S l) y → tG (hB np (psn a b S nl)) (fX1_personsOf_b4 (nI nl) fi se x f y (nI l)) := by
  obtain ⟨hnp, hnl, hE⟩ := hE
  intro f
  induction f with
  | zero => intro l y h1 h2; omega
  | succ f ih =>
    intro l y h1 h2 h3
    rw [fX1_personsOf_b4_s]
    rcases Nat.lt_or_ge l nl with d | d
    · rw [if_neg (nI_ge d (by omega)), hB_in hS d (by omega), nI_1]
      obtain ⟨e1, e2, e3, e4, e5, e6, e7, e8⟩ := hE l d
      have nx : ∀ p, psn a b S (l + 1) p = (psn a b S l p || (S l && (decide (p = a l) || decide (p = b l)))) := fun p => rfl
      cases hs : S l with
      | true =>
        rw [if_pos rfl, if_neg one0]
        refine tgD (vkn (by omega) (by decide)) (tgN (fun w hw => ih (l + 1) w (by omega) (by omega) (fun i hi => ?_)))
        rw [hw, nI_clamp (by omega), e5, e6, ib_or, ib_or, ib_one _ (by omega) i hi, ib_one _ (by omega) i hi, h3 i hi, nx i, hs, Bool.true_and]
        by_cases q : i < np
        · rw [decide_eq_true q, Bool.true_and, Bool.true_and]
        · rw [decide_eq_false q, decide_eq_false (show ¬ i = a l by omega), decide_eq_false (show ¬ i = b l by omega)]
          rfl
      | false =>
        rw [ifF, if_pos rfl]
        exact ih (l + 1) y (by omega) (by omega) (hB_congr h3 (fun p _ => by rw [nx p, hs, Bool.false_and, Bool.or_false]))
    · have e : l = nl := by omega
      subst e
      rw [if_pos (nI_le (Nat.le_refl _) (by omega))]
      exact tgS h3
theorem persV {S : Nat → Bool} {x : Int32} (hE : hLn np nl a b c fw fi se co ow) (hS : hB nl S x) : tG (hB np (psn a b S nl)) (fX1_personsOf (nI nl) fi se x) := by
  unfold fX1_personsOf
  exact pers4 hE hS FU 0 0 (Nat.zero_le _) (by have := FUge; have := hE.2.1; omega) hB_0
end
