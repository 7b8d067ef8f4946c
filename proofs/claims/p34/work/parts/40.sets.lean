/-! sets of lines: sums over them, free ones, the worthiest one among those within a group of persons -/
theorem nofalse {p : Prop} (h : false = true) : p := by cases h
theorem ifF {α : Type} {a b : α} : (if false = true then a else b) = b := rfl
theorem ifT {α : Type} {a b : α} : (if true = true then a else b) = a := rfl
def swm (S : Nat → Bool) (w : Nat → Int) : Nat → Int
  | 0 => 0
  | n + 1 => swm S w n + (if S n = true then w n else 0)
def sdel (S : Nat → Bool) (l : Nat) : Nat → Bool := fun m => if m = l then false else S m
def sadd (S : Nat → Bool) (l : Nat) : Nat → Bool := fun m => if m = l then true else S m
theorem swm_congr {S T : Nat → Bool} {w : Nat → Int} : ∀ n : Nat, (∀ m, m < n → S m = T m) → swm S w n = swm T w n := by
  intro n
  induction n with
  | zero => intro _; rfl
  | succ n ih =>
    intro h
    show swm S w n + (if S n = true then w n else 0) = swm T w n + (if T n = true then w n else 0)
    rw [ih (fun m hm => h m (by omega)), h n (by omega)]
theorem sdel_ne {S : Nat → Bool} {l m : Nat} (h : m ≠ l) : sdel S l m = S m := if_neg h
theorem sdel_eq {S : Nat → Bool} {l : Nat} : sdel S l l = false := if_pos rfl
theorem sadd_ne {S : Nat → Bool} {l m : Nat} (h : m ≠ l) : sadd S l m = S m := if_neg h
theorem sadd_eq {S : Nat → Bool} {l : Nat} : sadd S l l = true := if_pos rfl
theorem swm_del {S : Nat → Bool} {w : Nat → Int} {l : Nat} (hS : S l = true) : ∀ n : Nat, l < n → swm S w n = swm (sdel S l) w n + w l := by
  intro n
  induction n with
  | zero => intro h; omega
  | succ n ih =>
    intro h
    show swm S w n + (if S n = true then w n else 0) = swm (sdel S l) w n + (if sdel S l n = true then w n else 0) + w l
    by_cases e : l = n
    · subst e
      rw [if_pos hS, sdel_eq, if_neg (by decide), swm_congr (S := sdel S l) (T := S) l (fun m hm => sdel_ne (by omega))]
      omega
    · rw [ih (by omega), sdel_ne (by omega)]
      omega
theorem swm_add {S : Nat → Bool} {w : Nat → Int} {l n : Nat} (hS : S l = false) (hl : l < n) : swm (sadd S l) w n = swm S w n + w l := by
  rw [swm_del (S := sadd S l) sadd_eq n hl]
  have e : swm (sdel (sadd S l) l) w n = swm S w n := swm_congr n (fun m hm => by
    by_cases c : m = l
    · rw [c, sdel_eq, hS]
    · rw [sdel_ne c, sadd_ne c])
  rw [e]
theorem swm_none {w : Nat → Int} : ∀ n : Nat, swm (fun _ => false) w n = 0 := by
  intro n
  induction n with
  | zero => rfl
  | succ n ih =>
    show swm (fun _ => false) w n + (if false = true then w n else 0) = 0
    rw [ih, if_neg (by decide)]
    rfl
theorem swm_lin {S : Nat → Bool} {g c v w : Nat → Int} {A B : Int} : ∀ n : Nat, (∀ l, l < n → w l = A * g l - B * c l - v l) → swm S w n = A * swm S g n - B * swm S c n - swm S v n := by
  intro n
  induction n with
  | zero => intro _; show (0 : Int) = A * 0 - B * 0 - 0; omega
  | succ n ih =>
    intro h
    show swm S w n + (if S n = true then w n else 0) = A * (swm S g n + (if S n = true then g n else 0)) - B * (swm S c n + (if S n = true then c n else 0)) - (swm S v n + (if S n = true then v n else 0))
    rw [ih (fun l hl => h l (by omega)), h n (by omega), Int.mul_add, Int.mul_add]
    cases S n with
    | true =>
      rw [if_pos rfl, if_pos rfl, if_pos rfl, if_pos rfl]
      omega
    | false =>
      rw [if_neg (by decide), if_neg (by decide), if_neg (by decide), if_neg (by decide), Int.mul_zero, Int.mul_zero]
      omega
theorem swm_bd {S : Nat → Bool} {w : Nat → Int} {M : Int} (hM : 0 ≤ M) : ∀ n : Nat, (∀ l, l < n → 0 ≤ w l ∧ w l ≤ M) → 0 ≤ swm S w n ∧ swm S w n ≤ M * n := by
  intro n
  induction n with
  | zero => intro _; exact ⟨Int.le_refl _, by show (0 : Int) ≤ M * 0; omega⟩
  | succ n ih =>
    intro h
    obtain ⟨h1, h2⟩ := ih (fun l hl => h l (by omega))
    obtain ⟨h3, h4⟩ := h n (by omega)
    have e : M * ((n + 1 : Nat) : Int) = M * n + M := by rw [Int.natCast_succ, Int.mul_add, Int.mul_one]
    rw [e]
    show 0 ≤ swm S w n + (if S n = true then w n else 0) ∧ swm S w n + (if S n = true then w n else 0) ≤ M * n + M
    cases S n with
    | true => rw [if_pos rfl]; omega
    | false => rw [if_neg (by decide)]; omega
/-- the bits of a set -/
def sbit (S : Nat → Bool) : Nat → Nat
  | 0 => 0
  | n + 1 => sbit S n + (if S n = true then 2 ^ n else 0)
theorem sbit_lt {S : Nat → Bool} : ∀ n : Nat, sbit S n < 2 ^ n := by
  intro n
  induction n with
  | zero => show 0 < 1; omega
  | succ n ih =>
    show sbit S n + (if S n = true then 2 ^ n else 0) < 2 ^ (n + 1)
    rw [Nat.pow_succ]
    cases S n with
    | true => rw [if_pos rfl]; omega
    | false => rw [if_neg (by decide)]; omega
theorem sbit_swm {S : Nat → Bool} : ∀ n : Nat, swm S (fun l => ((2 ^ l : Nat) : Int)) n = (sbit S n : Int) := by
  intro n
  induction n with
  | zero => rfl
  | succ n ih =>
    show swm S (fun l => ((2 ^ l : Nat) : Int)) n + (if S n = true then ((2 ^ n : Nat) : Int) else 0) = ((sbit S n + (if S n = true then 2 ^ n else 0) : Nat) : Int)
    rw [ih]
    cases S n with
    | true => rw [if_pos rfl, if_pos rfl]; omega
    | false => rw [if_neg (by decide), if_neg (by decide)]; omega
theorem sbit_inj {S T : Nat → Bool} : ∀ n : Nat, sbit S n = sbit T n → ∀ m, m < n → S m = T m := by
  intro n
  induction n with
  | zero => intro _ m hm; omega
  | succ n ih =>
    intro h m hm
    have h1 := sbit_lt (S := S) n
    have h2 := sbit_lt (S := T) n
    have h3 : sbit S n + (if S n = true then 2 ^ n else 0) = sbit T n + (if T n = true then 2 ^ n else 0) := h
    have key : S n = T n ∧ sbit S n = sbit T n := by
      cases hs : S n with
      | true =>
        cases ht : T n with
        | true =>
          rw [hs, ht, if_pos rfl] at h3
          exact ⟨rfl, by omega⟩
        | false =>
          rw [hs, ht, if_pos rfl, if_neg (by decide)] at h3
          omega
      | false =>
        cases ht : T n with
        | true =>
          rw [hs, ht, if_pos rfl, if_neg (by decide)] at h3
          omega
        | false =>
          rw [hs, ht, if_neg (by decide)] at h3
          exact ⟨rfl, by omega⟩
    by_cases e : m = n
    · rw [e]; exact key.1
    · exact ih key.2 m (by omega)
section
variable {n : Nat} {a b : Nat → Nat} {us : Nat → Bool} {w : Nat → Int}
/-- a free set -/
def sfree (n : Nat) (a b : Nat → Nat) (us : Nat → Bool) (S : Nat → Bool) : Prop := (∀ l, l < n → S l = true → us l = true) ∧ ∀ l m, l < n → m < n → l ≠ m → S l = true → S m = true → a l ≠ a m ∧ a l ≠ b m ∧ b l ≠ a m ∧ b l ≠ b m
def swith (n : Nat) (a b : Nat → Nat) (G : Nat) (S : Nat → Bool) : Prop := ∀ l, l < n → S l = true → G.testBit (a l) = true ∧ G.testBit (b l) = true
def sMax (n : Nat) (a b : Nat → Nat) (us : Nat → Bool) (w : Nat → Int) (G : Nat) (v : Int) : Prop := (∃ S, sfree n a b us S ∧ swith n a b G S ∧ swm S w n = v) ∧ ∀ S, sfree n a b us S → swith n a b G S → swm S w n ≤ v
theorem sfree_del {S : Nat → Bool} {l : Nat} (h : sfree n a b us S) : sfree n a b us (sdel S l) := by
  have key : ∀ m, sdel S l m = true → S m = true := fun m hm => by
    by_cases c : m = l
    · rw [c, sdel_eq] at hm
      exact absurd hm (by decide)
    · rw [sdel_ne c] at hm
      exact hm
  exact ⟨fun m hm hs => h.1 m hm (key m hs), fun m q hm hq hne h1 h2 => h.2 m q hm hq hne (key m h1) (key q h2)⟩
theorem sMax_0 : sMax n a b us w 0 0 := by
  refine ⟨⟨fun _ => false, ⟨fun l _ h => nofalse h, fun l m _ _ _ h => nofalse h⟩, fun l _ h => nofalse h, swm_none n⟩, fun S h1 h2 => ?_⟩
  have e : swm S w n = swm (fun _ => false) w n := swm_congr n (fun m hm => by
    cases hs : S m with
    | false => rfl
    | true =>
      have := (h2 m hm hs).1
      rw [Nat.zero_testBit] at this
      exact absurd this (by decide))
  rw [e, swm_none]
  exact Int.le_refl _
/-- the groups with one more person -/
theorem sMax_step {p G : Nat} {MX : Nat → Int} {v : Int} (hab : ∀ l, l < n → a l ≠ b l)
    (tp : ∀ i, (2 ^ p + G).testBit i = (decide (i = p) || G.testBit i)) (tq : ∀ q, G.testBit q = true → ∀ i, (G - 2 ^ q).testBit i = (G.testBit i && !decide (i = q))) (tn : G.testBit p = false)
    (h0 : sMax n a b us w G (MX G)) (hq : ∀ q, G.testBit q = true → sMax n a b us w (G - 2 ^ q) (MX (G - 2 ^ q)))
    (hv : v = MX G ∨ ∃ q l, G.testBit q = true ∧ l < n ∧ us l = true ∧ ((a l = p ∧ b l = q) ∨ (a l = q ∧ b l = p)) ∧ v = w l + MX (G - 2 ^ q))
    (hg : MX G ≤ v) (hl : ∀ q l, G.testBit q = true → l < n → us l = true → ((a l = p ∧ b l = q) ∨ (a l = q ∧ b l = p)) → w l + MX (G - 2 ^ q) ≤ v) : sMax n a b us w (2 ^ p + G) v := by
  have wG : ∀ S, swith n a b G S → swith n a b (2 ^ p + G) S := fun S h l hl hs => by
    rw [tp, tp, (h l hl hs).1, (h l hl hs).2]
    exact ⟨by rw [Bool.or_true], by rw [Bool.or_true]⟩
  refine ⟨?_, fun S h1 h2 => ?_⟩
  · rcases hv with rfl | ⟨q, l, q1, q2, q3, q4, rfl⟩
    · obtain ⟨S, s1, s2, s3⟩ := h0.1
      exact ⟨S, s1, wG S s2, s3⟩
    · obtain ⟨S, s1, s2, s3⟩ := (hq q q1).1
      have nS : ∀ m, m < n → S m = true → a m ≠ p ∧ b m ≠ p ∧ a m ≠ q ∧ b m ≠ q := fun m hm hs => by
        obtain ⟨t1, t2⟩ := s2 m hm hs
        rw [tq q q1] at t1 t2
        rw [Bool.and_eq_true] at t1 t2
        refine ⟨fun e => ?_, fun e => ?_, fun e => ?_, fun e => ?_⟩
        · rw [e, tn] at t1
          exact absurd t1.1 (by decide)
        · rw [e, tn] at t2
          exact absurd t2.1 (by decide)
        · rw [e] at t1
          have := t1.2
          simp at this
        · rw [e] at t2
          have := t2.2
          simp at this
      have lS : S l = false := by
        cases hs : S l with
        | false => rfl
        | true =>
          have := nS l q2 hs
          rcases q4 with ⟨e1, _⟩ | ⟨_, e1⟩
          · exact absurd e1 this.1
          · exact absurd e1 this.2.1
      refine ⟨sadd S l, ⟨fun m hm hs => ?_, fun m k hm hk hne h1 h2 => ?_⟩, fun m hm hs => ?_, ?_⟩
      · by_cases c : m = l
        · rw [c]; exact q3
        · rw [sadd_ne c] at hs
          exact s1.1 m hm hs
      · by_cases c : m = l
        · have ck : k ≠ l := fun z => hne (c.trans z.symm)
          rw [sadd_ne ck] at h2
          have := nS k hk h2
          rw [c]
          rcases q4 with ⟨e1, e2⟩ | ⟨e1, e2⟩
          · rw [e1, e2]
            exact ⟨fun z => this.1 z.symm, fun z => this.2.1 z.symm, fun z => this.2.2.1 z.symm, fun z => this.2.2.2 z.symm⟩
          · rw [e1, e2]
            exact ⟨fun z => this.2.2.1 z.symm, fun z => this.2.2.2 z.symm, fun z => this.1 z.symm, fun z => this.2.1 z.symm⟩
        · rw [sadd_ne c] at h1
          by_cases ck : k = l
          · have := nS m hm h1
            rw [ck]
            rcases q4 with ⟨e1, e2⟩ | ⟨e1, e2⟩
            · rw [e1, e2]
              exact ⟨this.1, this.2.2.1, this.2.1, this.2.2.2⟩
            · rw [e1, e2]
              exact ⟨this.2.2.1, this.1, this.2.2.2, this.2.1⟩
          · rw [sadd_ne ck] at h2
            exact s1.2 m k hm hk hne h1 h2
      · by_cases c : m = l
        · rw [c, tp, tp]
          rcases q4 with ⟨e1, e2⟩ | ⟨e1, e2⟩
          · rw [e1, e2, q1]
            exact ⟨by simp, by simp⟩
          · rw [e1, e2, q1]
            exact ⟨by simp, by simp⟩
        · rw [sadd_ne c] at hs
          obtain ⟨t1, t2⟩ := s2 m hm hs
          rw [tq q q1, Bool.and_eq_true] at t1 t2
          rw [tp, tp, t1.1, t2.1]
          exact ⟨by rw [Bool.or_true], by rw [Bool.or_true]⟩
      · rw [swm_add lS q2, s3]
        omega
  · by_cases hp : ∃ l, l < n ∧ S l = true ∧ (a l = p ∨ b l = p)
    · obtain ⟨l, l1, l2, l3⟩ := hp
      -- the other person of the line
      obtain ⟨q, q4, q5⟩ : ∃ q, ((a l = p ∧ b l = q) ∨ (a l = q ∧ b l = p)) ∧ q ≠ p := by
        rcases l3 with e | e
        · exact ⟨b l, Or.inl ⟨e, rfl⟩, fun z => hab l l1 (e.trans z.symm)⟩
        · exact ⟨a l, Or.inr ⟨rfl, e⟩, fun z => hab l l1 (z.trans e.symm)⟩
      have q1 : G.testBit q = true := by
        obtain ⟨t1, t2⟩ := h2 l l1 l2
        rw [tp] at t1 t2
        rcases q4 with ⟨e1, e2⟩ | ⟨e1, e2⟩
        · rw [e2] at t2
          rcases Bool.or_eq_true _ _ ▸ t2 with z | z
          · exact absurd (of_decide_eq_true z) q5
          · exact z
        · rw [e1] at t1
          rcases Bool.or_eq_true _ _ ▸ t1 with z | z
          · exact absurd (of_decide_eq_true z) q5
          · exact z
      have h3 : swith n a b (G - 2 ^ q) (sdel S l) := fun m hm hs => by
        have c : m ≠ l := fun z => by rw [z, sdel_eq] at hs; exact absurd hs (by decide)
        rw [sdel_ne c] at hs
        obtain ⟨d1, d2, d3, d4⟩ := h1.2 m l hm l1 c hs l2
        obtain ⟨t1, t2⟩ := h2 m hm hs
        rw [tp] at t1 t2
        have x1 : a m ≠ p ∧ a m ≠ q ∧ b m ≠ p ∧ b m ≠ q := by
          rcases q4 with ⟨e1, e2⟩ | ⟨e1, e2⟩
          · exact ⟨e1 ▸ d1, e2 ▸ d2, e1 ▸ d3, e2 ▸ d4⟩
          · exact ⟨e2 ▸ d2, e1 ▸ d1, e2 ▸ d4, e1 ▸ d3⟩
        have y1 : G.testBit (a m) = true := by
          rcases Bool.or_eq_true _ _ ▸ t1 with z | z
          · exact absurd (of_decide_eq_true z) x1.1
          · exact z
        have y2 : G.testBit (b m) = true := by
          rcases Bool.or_eq_true _ _ ▸ t2 with z | z
          · exact absurd (of_decide_eq_true z) x1.2.2.1
          · exact z
        rw [tq q q1, tq q q1, y1, y2, decide_eq_false x1.2.1, decide_eq_false x1.2.2.2]
        exact ⟨rfl, rfl⟩
      have h4 := (hq q q1).2 _ (sfree_del h1) h3
      have h5 := hl q l q1 l1 (h1.1 l l1 l2) q4
      rw [swm_del l2 n l1]
      omega
    · have h3 : swith n a b G S := fun m hm hs => by
        obtain ⟨t1, t2⟩ := h2 m hm hs
        rw [tp] at t1 t2
        have x1 : a m ≠ p := fun z => hp ⟨m, hm, hs, Or.inl z⟩
        have x2 : b m ≠ p := fun z => hp ⟨m, hm, hs, Or.inr z⟩
        rw [decide_eq_false x1, Bool.false_or] at t1
        rw [decide_eq_false x2, Bool.false_or] at t2
        exact ⟨t1, t2⟩
      have := h0.2 S h1 h3
      omega
theorem sMax_mono {G H : Nat} {v u : Int} (h : ∀ i, G.testBit i = true → H.testBit i = true) (hG : sMax n a b us w G v) (hH : sMax n a b us w H u) : v ≤ u := by
  obtain ⟨S, s1, s2, s3⟩ := hG.1
  rw [← s3]
  exact hH.2 S s1 (fun l hl hs => ⟨h _ (s2 l hl hs).1, h _ (s2 l hl hs).2⟩)
end
