/-! walks along lines, the cheapest ones and the shortest -/
def ole (x y : Option Nat) : Prop := ∀ v, y = some v → ∃ w, x = some w ∧ w ≤ v
theorem ole_r (x : Option Nat) : ole x x := fun v h => ⟨v, h, Nat.le_refl v⟩
theorem ole_t {x y z : Option Nat} (h1 : ole x y) (h2 : ole y z) : ole x z := fun v h => by
  obtain ⟨w, e, q⟩ := h2 v h
  obtain ⟨u, e2, q2⟩ := h1 w e
  exact ⟨u, e2, Nat.le_trans q2 q⟩
theorem ole_a {x y : Option Nat} (h1 : ole x y) (h2 : ole y x) : x = y := by
  cases x with
  | none =>
    cases y with
    | none => rfl
    | some v =>
      obtain ⟨w, e, _⟩ := h1 v rfl
      cases e
  | some u =>
    obtain ⟨w, e, q⟩ := h2 u rfl
    obtain ⟨w2, e2, q2⟩ := h1 w e
    cases e2
    rw [e]
    congr 1
    omega
def oadd (x : Option Nat) (n : Nat) : Option Nat := match x with
  | none => none
  | some v => some (v + n)
def omin (x y : Option Nat) : Option Nat := match x, y with
  | none, y => y
  | some v, none => some v
  | some v, some w => some (if w < v then w else v)
theorem oadd_m {x y : Option Nat} (n : Nat) (h : ole x y) : ole (oadd x n) (oadd y n) := fun v e => by
  cases y with
  | none => cases e
  | some u =>
    obtain ⟨w, e2, q⟩ := h u rfl
    subst e2
    have e' : some (u + n) = some v := e
    cases e'
    exact ⟨w + n, rfl, by omega⟩
theorem omin_l (x y : Option Nat) : ole (omin x y) x := fun v e => by
  subst e
  cases y with
  | none => exact ⟨v, rfl, Nat.le_refl v⟩
  | some w =>
    refine ⟨if w < v then w else v, rfl, ?_⟩
    by_cases c : w < v
    · rw [if_pos c]; omega
    · rw [if_neg c]; omega
theorem omin_r (x y : Option Nat) : ole (omin x y) y := fun v e => by
  subst e
  cases x with
  | none => exact ⟨v, rfl, Nat.le_refl v⟩
  | some w =>
    refine ⟨if v < w then v else w, rfl, ?_⟩
    by_cases c : v < w
    · rw [if_pos c]; omega
    · rw [if_neg c]; omega
theorem omin_one (x y : Option Nat) : omin x y = x ∨ omin x y = y := by
  cases x with
  | none => exact Or.inr rfl
  | some v =>
    cases y with
    | none => exact Or.inl rfl
    | some w =>
      show some (if w < v then w else v) = some v ∨ some (if w < v then w else v) = some w
      by_cases c : w < v
      · rw [if_pos c]; exact Or.inr rfl
      · rw [if_neg c]; exact Or.inl rfl
/-- back over the line that was just tried gains nothing -/
theorem omin_back (x y : Option Nat) (n : Nat) : omin x (oadd (omin y (oadd x n)) n) = omin x (oadd y n) := by
  cases x with
  | none => cases y <;> rfl
  | some v =>
    cases y with
    | none =>
      show some (if v + n + n < v then v + n + n else v) = some v
      rw [if_neg (by omega)]
    | some w =>
      show some (if (if v + n < w then v + n else w) + n < v then (if v + n < w then v + n else w) + n else v) = some (if w + n < v then w + n else v)
      by_cases c : v + n < w
      · rw [if_pos c, if_neg (by omega), if_neg (by omega)]
      · rw [if_neg c]
def opt (P : Nat → Option Nat) (p : Nat) (x : Option Nat) : Nat → Option Nat := fun q => if q = p then x else P q
section
variable {np nl : Nat} {a b c : Nat → Nat} {fw U K : Nat → Bool}
/-- one line tried in both ways -/
def rx1 (a b c : Nat → Nat) (fw U : Nat → Bool) (l : Nat) (P : Nat → Option Nat) : Nat → Option Nat := if U l = true then (if fw l = true then opt P (b l) (omin (P (b l)) (oadd (P (a l)) (c l))) else opt (opt P (b l) (omin (P (b l)) (oadd (P (a l)) (c l)))) (a l) (omin (P (a l)) (oadd (P (b l)) (c l)))) else P
def rx (a b c : Nat → Nat) (fw U : Nat → Bool) : Nat → (Nat → Option Nat) → Nat → Option Nat
  | 0, P => P
  | n + 1, P => rx1 a b c fw U n (rx a b c fw U n P)
theorem rx1_mono (P : Nat → Option Nat) (l : Nat) (p : Nat) : ole (rx1 a b c fw U l P p) (P p) := by
  unfold rx1
  by_cases h : U l = true
  · rw [if_pos h]
    by_cases h2 : fw l = true
    · rw [if_pos h2]
      show ole (if p = b l then _ else P p) (P p)
      by_cases e : p = b l
      · rw [if_pos e, ← e]; exact omin_l _ _
      · rw [if_neg e]; exact ole_r _
    · rw [if_neg h2]
      show ole (if p = a l then _ else (if p = b l then _ else P p)) (P p)
      by_cases e : p = a l
      · rw [if_pos e, ← e]; exact omin_l _ _
      · rw [if_neg e]
        by_cases e : p = b l
        · rw [if_pos e, ← e]; exact omin_l _ _
        · rw [if_neg e]; exact ole_r _
  · rw [if_neg h]; exact ole_r _
theorem rx_mono (P : Nat → Option Nat) (p : Nat) : ∀ n, ole (rx a b c fw U n P p) (P p) := by
  intro n
  induction n with
  | zero => exact ole_r _
  | succ n ih => exact ole_t (rx1_mono _ n p) ih
theorem rx1_b {P : Nat → Option Nat} {l : Nat} (hab : a l ≠ b l) (h : U l = true) : ole (rx1 a b c fw U l P (b l)) (oadd (P (a l)) (c l)) := by
  unfold rx1
  rw [if_pos h]
  by_cases h2 : fw l = true
  · rw [if_pos h2]
    show ole (if b l = b l then _ else P (b l)) _
    rw [if_pos rfl]; exact omin_r _ _
  · rw [if_neg h2]
    show ole (if b l = a l then _ else (if b l = b l then _ else P (b l))) _
    rw [if_neg (fun z => hab z.symm), if_pos rfl]; exact omin_r _ _
theorem rx1_a {P : Nat → Option Nat} {l : Nat} (h : U l = true) (h2 : fw l = false) : ole (rx1 a b c fw U l P (a l)) (oadd (P (b l)) (c l)) := by
  unfold rx1
  rw [if_pos h, h2, if_neg (by decide)]
  show ole (if a l = a l then _ else _) _
  rw [if_pos rfl]; exact omin_r _ _
theorem rx_b {P : Nat → Option Nat} {l : Nat} (hab : a l ≠ b l) (h : U l = true) : ∀ n, l < n → ole (rx a b c fw U n P (b l)) (oadd (P (a l)) (c l)) := by
  intro n
  induction n with
  | zero => intro hl; omega
  | succ n ih =>
    intro hl
    by_cases e : l = n
    · subst e
      exact ole_t (rx1_b hab h) (oadd_m _ (rx_mono P _ l))
    · exact ole_t (rx1_mono _ n _) (ih (by omega))
theorem rx_a {P : Nat → Option Nat} {l : Nat} (h : U l = true) (h2 : fw l = false) : ∀ n, l < n → ole (rx a b c fw U n P (a l)) (oadd (P (b l)) (c l)) := by
  intro n
  induction n with
  | zero => intro hl; omega
  | succ n ih =>
    intro hl
    by_cases e : l = n
    · subst e
      exact ole_t (rx1_a h h2) (oadd_m _ (rx_mono P _ l))
    · exact ole_t (rx1_mono _ n _) (ih (by omega))
/-- a call from one to another -/
def eg (nl : Nat) (a b c : Nat → Nat) (fw U : Nat → Bool) (p q x : Nat) : Prop := ∃ l, l < nl ∧ U l = true ∧ x = c l ∧ ((a l = p ∧ b l = q) ∨ (fw l = false ∧ b l = p ∧ a l = q))
def Wk (nl : Nat) (a b c : Nat → Nat) (fw U K : Nat → Bool) : Nat → Nat → Nat → Prop
  | 0, p, v => K p = true ∧ v = 0
  | h + 1, q, v => ∃ p u x, Wk nl a b c fw U K h p u ∧ eg nl a b c fw U p q x ∧ v = u + x
def Sk (nl : Nat) (a b c : Nat → Nat) (fw U K : Nat → Bool) : List Nat → Nat → Prop
  | [], _ => False
  | [p], v => K p = true ∧ v = 0
  | q :: p :: L, v => ∃ u x, Sk nl a b c fw U K (p :: L) u ∧ eg nl a b c fw U p q x ∧ ¬ q ∈ p :: L ∧ v = u + x
theorem Sk_wk : ∀ (L : List Nat) (v : Nat), Sk nl a b c fw U K L v → ∃ p M, L = p :: M ∧ Wk nl a b c fw U K M.length p v
  | [], _, h => h.elim
  | [p], v, h => ⟨p, [], rfl, h⟩
  | q :: p :: L, v, ⟨u, x, h1, h2, h3, h4⟩ => by
    obtain ⟨p2, M, e1, e2⟩ := Sk_wk (p :: L) u h1
    cases e1
    exact ⟨q, p :: L, rfl, p, u, x, e2, h2, h4⟩
theorem Sk_nd : ∀ (L : List Nat) (v : Nat), Sk nl a b c fw U K L v → L.Nodup
  | [], _, h => h.elim
  | [p], v, h => List.nodup_cons.mpr ⟨by simp, List.nodup_nil⟩
  | q :: p :: L, v, ⟨u, x, h1, h2, h3, h4⟩ => List.nodup_cons.mpr ⟨h3, Sk_nd (p :: L) u h1⟩
theorem Sk_lt (hE : ∀ l, l < nl → a l < np ∧ b l < np) (hK : ∀ p, K p = true → p < np) : ∀ (L : List Nat) (v : Nat), Sk nl a b c fw U K L v → ∀ p ∈ L, p < np
  | [], _, h => h.elim
  | [p], v, h => fun q hq => by
    rw [List.mem_singleton] at hq
    rw [hq]
    exact hK p h.1
  | q :: p :: L, v, ⟨u, x, h1, h2, h3, h4⟩ => fun r hr => by
    rcases List.mem_cons.mp hr with z | z
    · obtain ⟨l, l1, l2, l3, l4⟩ := h2
      rw [z]
      rcases l4 with ⟨_, z2⟩ | ⟨_, _, z2⟩
      · rw [← z2]; exact (hE l l1).2
      · rw [← z2]; exact (hE l l1).1
    · exact Sk_lt hE hK (p :: L) u h1 r z
/-- an earlier place of a walk is reached for no more -/
theorem Sk_at : ∀ (L : List Nat) (v : Nat), Sk nl a b c fw U K L v → ∀ q ∈ L, ∃ M u, Sk nl a b c fw U K (q :: M) u ∧ u ≤ v
  | [], _, h => h.elim
  | [p], v, h => fun q hq => by
    rw [List.mem_singleton] at hq
    subst hq
    exact ⟨[], v, h, Nat.le_refl _⟩
  | q :: p :: L, v, ⟨u, x, h1, h2, h3, h4⟩ => fun r hr => by
    rcases List.mem_cons.mp hr with z | z
    · subst z
      exact ⟨p :: L, v, ⟨u, x, h1, h2, h3, h4⟩, Nat.le_refl _⟩
    · obtain ⟨M, w, m1, m2⟩ := Sk_at (p :: L) u h1 r z
      exact ⟨M, w, m1, by omega⟩
theorem Wk_sk : ∀ (h p v : Nat), Wk nl a b c fw U K h p v → ∃ M u, Sk nl a b c fw U K (p :: M) u ∧ u ≤ v
  | 0, p, v, h => ⟨[], v, h, Nat.le_refl _⟩
  | h + 1, q, v, ⟨p, u, x, w, e, hv⟩ => by
    obtain ⟨M, y, m1, m2⟩ := Wk_sk h p u w
    by_cases c : q ∈ p :: M
    · obtain ⟨N, z, n1, n2⟩ := Sk_at _ _ m1 q c
      exact ⟨N, z, n1, by omega⟩
    · exact ⟨p :: M, y + x, ⟨y, x, m1, e, c, rfl⟩, by omega⟩
theorem nd_len : ∀ (n : Nat) (L : List Nat), L.Nodup → (∀ p ∈ L, p < n) → L.length ≤ n := by
  intro n
  induction n with
  | zero =>
    intro L _ h
    cases L with
    | nil => exact Nat.le_refl _
    | cons x L => exact absurd (h x (List.mem_cons_self ..)) (Nat.not_lt_zero x)
  | succ n ih =>
    intro L h1 h2
    by_cases c : n ∈ L
    · have e := List.length_erase_of_mem c
      have := ih (L.erase n) (h1.erase n) (fun p hp => by
        have q1 := h2 p (List.mem_of_mem_erase hp)
        have q2 : p ≠ n := fun z => by
          rw [z] at hp
          exact (List.Nodup.not_mem_erase h1) hp
        omega)
      omega
    · have := ih L h1 (fun p hp => by
        have q1 := h2 p hp
        have q2 : p ≠ n := fun z => c (z ▸ hp)
        omega)
      omega
/-- a walk need not be longer than there are others -/
theorem Wk_short (hE : ∀ l, l < nl → a l < np ∧ b l < np) (hK : ∀ p, K p = true → p < np) {h p v : Nat} (w : Wk nl a b c fw U K h p v) : ∃ h2 v2, h2 + 1 ≤ np ∧ v2 ≤ v ∧ Wk nl a b c fw U K h2 p v2 := by
  obtain ⟨M, u, m1, m2⟩ := Wk_sk _ _ _ w
  obtain ⟨p2, M2, e1, e2⟩ := Sk_wk _ _ m1
  cases e1
  have := nd_len np _ (Sk_nd _ _ m1) (Sk_lt hE hK _ _ m1)
  rw [List.length_cons] at this
  exact ⟨M.length, u, this, m2, e2⟩
/-- prices after so many rounds -/
def prc (nl : Nat) (a b c : Nat → Nat) (fw U K : Nat → Bool) : Nat → Nat → Option Nat
  | 0, p => if K p = true then some 0 else none
  | m + 1, p => rx a b c fw U nl (prc nl a b c fw U K m) p
theorem prc_walk (hab : ∀ l, l < nl → a l ≠ b l) : ∀ (h p v : Nat), Wk nl a b c fw U K h p v → ∀ m, h ≤ m → ∃ u, prc nl a b c fw U K m p = some u ∧ u ≤ v
  | 0, p, v, h => fun m _ => by
    induction m with
    | zero => exact ⟨0, if_pos h.1, Nat.zero_le _⟩
    | succ m ih =>
      obtain ⟨u, e1, e2⟩ := ih (Nat.zero_le _)
      obtain ⟨w, f1, f2⟩ := rx_mono (a := a) (b := b) (c := c) (fw := fw) (U := U) (prc nl a b c fw U K m) p nl u e1
      exact ⟨w, f1, by omega⟩
  | h + 1, q, v, ⟨p, u0, x, w, e, hv⟩ => fun m hm => by
    obtain ⟨k, rfl⟩ : ∃ k, m = k + 1 := ⟨m - 1, by omega⟩
    obtain ⟨u, e1, e2⟩ := prc_walk hab h p u0 w k (by omega)
    obtain ⟨l, l1, l2, l3, l4⟩ := e
    have key : ole (prc nl a b c fw U K (k + 1) q) (oadd (prc nl a b c fw U K k p) x) := by
      rw [l3]
      rcases l4 with ⟨z1, z2⟩ | ⟨z0, z1, z2⟩
      · rw [← z1, ← z2]
        exact rx_b (hab l l1) l2 nl l1
      · rw [← z1, ← z2]
        exact rx_a l2 z0 nl l1
    obtain ⟨w, f1, f2⟩ := key (u + x) (by rw [e1]; rfl)
    exact ⟨w, f1, by omega⟩
/-- prices are prices of walks -/
def snd (nl : Nat) (a b c : Nat → Nat) (fw U K : Nat → Bool) (P : Nat → Option Nat) : Prop := ∀ p v, P p = some v → ∃ h, Wk nl a b c fw U K h p v
theorem snd_min {P : Nat → Option Nat} {p q x : Nat} (hP : snd nl a b c fw U K P) (e : eg nl a b c fw U p q x) {v : Nat} (h : omin (P q) (oadd (P p) x) = some v) : ∃ h, Wk nl a b c fw U K h q v := by
  rcases omin_one (P q) (oadd (P p) x) with z | z
  · exact hP q v (z.symm.trans h)
  · have h2 := z.symm.trans h
    cases hp : P p with
    | none => rw [hp] at h2; cases h2
    | some u =>
      rw [hp] at h2
      have h3 : some (u + x) = some v := h2
      cases h3
      obtain ⟨n, w⟩ := hP p u hp
      exact ⟨n + 1, p, u, x, w, e, rfl⟩
theorem snd_rx1 {P : Nat → Option Nat} {l : Nat} (hl : l < nl) (hP : snd nl a b c fw U K P) : snd nl a b c fw U K (rx1 a b c fw U l P) := by
  intro p v h
  unfold rx1 at h
  by_cases hu : U l = true
  · rw [if_pos hu] at h
    have e1 : eg nl a b c fw U (a l) (b l) (c l) := ⟨l, hl, hu, rfl, Or.inl ⟨rfl, rfl⟩⟩
    by_cases h2 : fw l = true
    · rw [if_pos h2] at h
      have h' : (if p = b l then omin (P (b l)) (oadd (P (a l)) (c l)) else P p) = some v := h
      by_cases z : p = b l
      · rw [if_pos z] at h'
        rw [z]
        exact snd_min hP e1 h'
      · rw [if_neg z] at h'
        exact hP p v h'
    · have h2' : fw l = false := by
        cases hq : fw l with
        | true => exact absurd hq h2
        | false => rfl
      rw [if_neg h2] at h
      have h' : (if p = a l then omin (P (a l)) (oadd (P (b l)) (c l)) else if p = b l then omin (P (b l)) (oadd (P (a l)) (c l)) else P p) = some v := h
      have e2 : eg nl a b c fw U (b l) (a l) (c l) := ⟨l, hl, hu, rfl, Or.inr ⟨h2', rfl, rfl⟩⟩
      by_cases z : p = a l
      · rw [if_pos z] at h'
        rw [z]
        exact snd_min hP e2 h'
      · rw [if_neg z] at h'
        by_cases z : p = b l
        · rw [if_pos z] at h'
          rw [z]
          exact snd_min hP e1 h'
        · rw [if_neg z] at h'
          exact hP p v h'
  · rw [if_neg hu] at h
    exact hP p v h
theorem snd_rx {P : Nat → Option Nat} (hP : snd nl a b c fw U K P) : ∀ n, n ≤ nl → snd nl a b c fw U K (rx a b c fw U n P) := by
  intro n
  induction n with
  | zero => intro _; exact hP
  | succ n ih => intro h; exact snd_rx1 (by omega) (ih (by omega))
theorem snd_prc : ∀ m, snd nl a b c fw U K (prc nl a b c fw U K m) := by
  intro m
  induction m with
  | zero =>
    intro p v h
    have h' : (if K p = true then some 0 else none) = some v := h
    by_cases z : K p = true
    · rw [if_pos z] at h'
      cases h'
      exact ⟨0, z, rfl⟩
    · rw [if_neg z] at h'
      cases h'
  | succ m ih => exact snd_rx ih nl (Nat.le_refl _)
/-- one round more changes nothing -/
theorem prc_fix (hE : ∀ l, l < nl → a l < np ∧ b l < np) (hab : ∀ l, l < nl → a l ≠ b l) (hK : ∀ p, K p = true → p < np) (hn : 1 ≤ np) (p : Nat) : prc nl a b c fw U K np p = prc nl a b c fw U K (np - 1) p := by
  obtain ⟨m, rfl⟩ : ∃ m, np = m + 1 := ⟨np - 1, by omega⟩
  rw [Nat.add_sub_cancel]
  refine ole_a (rx_mono _ p nl) (fun v h => ?_)
  obtain ⟨n, w⟩ := snd_prc (m + 1) p v h
  obtain ⟨h2, v2, q1, q2, q3⟩ := Wk_short hE hK w
  obtain ⟨u, u1, u2⟩ := prc_walk hab _ _ _ q3 m (by omega)
  exact ⟨u, u1, by omega⟩
/-- who is reached -/
theorem spr_iff {L : Nat → Bool} {p : Nat} : ∀ n, spr a b fw U L n p = true ↔ (L p = true ∨ ∃ l, l < n ∧ U l = true ∧ ((L (a l) = true ∧ p = b l) ∨ (L (b l) = true ∧ fw l = false ∧ p = a l))) := by
  intro n
  induction n with
  | zero => exact ⟨fun h => Or.inl h, fun h => h.elim id (fun ⟨l, h, _⟩ => absurd h (Nat.not_lt_zero l))⟩
  | succ n ih =>
    show (spr a b fw U L n p || (U n && ((L (a n) && decide (p = b n)) || (L (b n) && !fw n && decide (p = a n))))) = true ↔ _
    rw [Bool.or_eq_true, Bool.and_eq_true, Bool.or_eq_true, Bool.and_eq_true, Bool.and_eq_true, Bool.and_eq_true, decide_eq_true_iff, decide_eq_true_iff, Bool.not_eq_true', ih]
    constructor
    · rintro ((h | ⟨l, h1, h2⟩) | ⟨h1, h2 | ⟨⟨h2, h3⟩, h4⟩⟩)
      · exact Or.inl h
      · exact Or.inr ⟨l, by omega, h2⟩
      · exact Or.inr ⟨n, by omega, h1, Or.inl h2⟩
      · exact Or.inr ⟨n, by omega, h1, Or.inr ⟨h2, h3, h4⟩⟩
    · rintro (h | ⟨l, h1, h2, h3⟩)
      · exact Or.inl (Or.inl h)
      · by_cases e : l = n
        · rw [e] at h2 h3
          refine Or.inr ⟨h2, ?_⟩
          rcases h3 with h3 | ⟨h3, h4, h5⟩
          · exact Or.inl h3
          · exact Or.inr ⟨⟨h3, h4⟩, h5⟩
        · exact Or.inl (Or.inr ⟨l, by omega, h2, h3⟩)
theorem rch_wk {m p : Nat} : rch nl a b fw U K m p = true → ∃ h v, h ≤ m ∧ Wk nl a b c fw U K h p v := by
  induction m generalizing p with
  | zero => intro h; exact ⟨0, 0, Nat.le_refl _, h, rfl⟩
  | succ m ih =>
    intro h
    rcases (spr_iff nl).mp h with h | ⟨l, l1, l2, l3⟩
    · obtain ⟨n, v, n1, n2⟩ := ih h
      exact ⟨n, v, by omega, n2⟩
    · rcases l3 with ⟨z, z1⟩ | ⟨z, z0, z1⟩
      · obtain ⟨n, v, n1, n2⟩ := ih z
        exact ⟨n + 1, v + c l, by omega, _, v, c l, n2, ⟨l, l1, l2, rfl, Or.inl ⟨rfl, z1.symm⟩⟩, rfl⟩
      · obtain ⟨n, v, n1, n2⟩ := ih z
        exact ⟨n + 1, v + c l, by omega, _, v, c l, n2, ⟨l, l1, l2, rfl, Or.inr ⟨z0, rfl, z1.symm⟩⟩, rfl⟩
theorem wk_rch : ∀ (h p v : Nat), Wk nl a b c fw U K h p v → ∀ m, h ≤ m → rch nl a b fw U K m p = true
  | 0, p, v, h => fun m _ => by
    induction m with
    | zero => exact h.1
    | succ m ih => exact (spr_iff nl).mpr (Or.inl (ih (Nat.zero_le _)))
  | h + 1, q, v, ⟨p, u, x, w, e, hv⟩ => fun m hm => by
    obtain ⟨k, rfl⟩ : ∃ k, m = k + 1 := ⟨m - 1, by omega⟩
    have := wk_rch h p u w k (by omega)
    obtain ⟨l, l1, l2, l3, l4⟩ := e
    refine (spr_iff nl).mpr (Or.inr ⟨l, l1, l2, ?_⟩)
    rcases l4 with ⟨z1, z2⟩ | ⟨z0, z1, z2⟩
    · exact Or.inl ⟨by rw [z1]; exact this, z2.symm⟩
    · exact Or.inr ⟨by rw [z1]; exact this, z0, z2.symm⟩
theorem rch_prc (hE : ∀ l, l < nl → a l < np ∧ b l < np) (hab : ∀ l, l < nl → a l ≠ b l) (hK : ∀ p, K p = true → p < np) (hn : 1 ≤ np) (p : Nat) : rch nl a b fw U K (np - 1) p = (prc nl a b c fw U K np p).isSome := by
  cases h : prc nl a b c fw U K np p with
  | none =>
    cases h2 : rch nl a b fw U K (np - 1) p with
    | false => rfl
    | true =>
      obtain ⟨n, v, n1, n2⟩ := rch_wk (c := c) h2
      obtain ⟨u, u1, _⟩ := prc_walk hab _ _ _ n2 np (by omega)
      rw [h] at u1
      cases u1
  | some v =>
    obtain ⟨n, w⟩ := snd_prc np p v h
    obtain ⟨h2, v2, q1, q2, q3⟩ := Wk_short hE hK w
    exact wk_rch _ _ _ q3 (np - 1) (by omega)
/-- fewer lines reach no more -/
theorem rch_del {V : Nat → Bool} (h : ∀ l, V l = true → U l = true) : ∀ m p, rch nl a b fw V K m p = true → rch nl a b fw U K m p = true := by
  intro m
  induction m with
  | zero => intro p hp; exact hp
  | succ m ih =>
    intro p hp
    refine (spr_iff nl).mpr ?_
    rcases (spr_iff nl).mp hp with z | ⟨l, l1, l2, l3⟩
    · exact Or.inl (ih p z)
    · refine Or.inr ⟨l, l1, h l l2, ?_⟩
      rcases l3 with ⟨z, z1⟩ | ⟨z, z0, z1⟩
      · exact Or.inl ⟨ih _ z, z1⟩
      · exact Or.inr ⟨ih _ z, z0, z1⟩
/-- prices stay small -/
theorem rx_bd {P : Nat → Option Nat} {B : Nat} (hc : ∀ l, l < nl → c l ≤ 4) (hP : ∀ p v, P p = some v → v ≤ B) : ∀ n, n ≤ nl → ∀ p v, rx a b c fw U n P p = some v → v ≤ B + 4 * n := by
  intro n
  induction n with
  | zero => intro _ p v h; have := hP p v h; omega
  | succ n ih =>
    intro hn p v h
    have ih := ih (by omega)
    have hcn := hc n (by omega)
    have two : ∀ p q v, omin (rx a b c fw U n P q) (oadd (rx a b c fw U n P p) (c n)) = some v → v ≤ B + 4 * (n + 1) := fun p q v h => by
      rcases omin_one (rx a b c fw U n P q) (oadd (rx a b c fw U n P p) (c n)) with z | z
      · have := ih q v (z.symm.trans h)
        omega
      · have h2 := z.symm.trans h
        cases hp : rx a b c fw U n P p with
        | none => rw [hp] at h2; cases h2
        | some u =>
          rw [hp] at h2
          have h3 : some (u + c n) = some v := h2
          cases h3
          have := ih p u hp
          omega
    have one : ∀ p v, rx a b c fw U n P p = some v → v ≤ B + 4 * (n + 1) := fun p v h => by
      have := ih p v h
      omega
    have h : rx1 a b c fw U n (rx a b c fw U n P) p = some v := h
    unfold rx1 at h
    by_cases hu : U n = true
    · rw [if_pos hu] at h
      by_cases h2 : fw n = true
      · rw [if_pos h2] at h
        have h' : (if p = b n then omin (rx a b c fw U n P (b n)) (oadd (rx a b c fw U n P (a n)) (c n)) else rx a b c fw U n P p) = some v := h
        by_cases z : p = b n
        · rw [if_pos z] at h'
          exact two _ _ v h'
        · rw [if_neg z] at h'
          exact one p v h'
      · rw [if_neg h2] at h
        have h' : (if p = a n then omin (rx a b c fw U n P (a n)) (oadd (rx a b c fw U n P (b n)) (c n)) else if p = b n then omin (rx a b c fw U n P (b n)) (oadd (rx a b c fw U n P (a n)) (c n)) else rx a b c fw U n P p) = some v := h
        by_cases z : p = a n
        · rw [if_pos z] at h'
          exact two _ _ v h'
        · rw [if_neg z] at h'
          by_cases z : p = b n
          · rw [if_pos z] at h'
            exact two _ _ v h'
          · rw [if_neg z] at h'
            exact one p v h'
    · rw [if_neg hu] at h
      exact one p v h
theorem prc_bd (hc : ∀ l, l < nl → c l ≤ 4) : ∀ m p v, prc nl a b c fw U K m p = some v → v ≤ 4 * nl * m := by
  intro m
  induction m with
  | zero =>
    intro p v h
    have h' : (if K p = true then some 0 else none) = some v := h
    by_cases z : K p = true
    · rw [if_pos z] at h'
      cases h'
      exact Nat.zero_le _
    · rw [if_neg z] at h'
      cases h'
  | succ m ih =>
    intro p v h
    have := rx_bd hc ih nl (Nat.le_refl _) p v h
    rw [Nat.mul_succ]
    exact this
end
