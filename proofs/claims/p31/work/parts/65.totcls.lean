/-! the class's methods: an answer, or one of the exceptions -/
theorem tGb {α β : Type} {a : Option α} {u : α} {Q : β → Prop} {f : α → Option β} (h : a = some u) (k : tG Q (f u)) : tG Q (a.bind f) := by
  rw [h]
  exact k
theorem bnd {α β : Type} {a : Option α} {u : α} {f : α → Option β} {r : Option β} (h : a = some u) (k : f u = r) : a.bind f = r := by
  rw [h]
  exact k
theorem lt_le_no {x y : Int32} (h : y ≤ x) : ¬ x < y := by
  rw [Int32.lt_iff_toInt_lt]
  rw [Int32.le_iff_toInt_le] at h
  omega
theorem c_reqL {nl : Nat} (hnl : nl ≤ 24) (x : Int32) : tX10_requireLine_I (nI nl) x = some () ∨ ∃ k, k < nl ∧ x = nI k ∧ fX10_requireLine (nI nl) x = some () ∧ tX10_requireLine_I (nI nl) x = none := by
  rcases pk_ix x (n := nl) (by omega) with h | h | ⟨k, hk, rfl⟩
  · left
    unfold tX10_requireLine_I tX10_requireLine_I_b15
    rw [if_pos h]
  · left
    unfold tX10_requireLine_I tX10_requireLine_I_b15
    by_cases c : x < 0
    · rw [if_pos c]
    · rw [if_neg c, if_neg (lt_le_no h)]
  · right
    refine ⟨k, hk, rfl, ?_, ?_⟩
    · unfold fX10_requireLine
      rw [if_neg (nI_pos (by omega)), if_pos (nI_lt hk (by omega))]
    · unfold tX10_requireLine_I
      rw [if_neg (nI_pos (by omega)), if_pos (nI_lt hk (by omega))]
theorem c_reqP {pe : Nat} (hpe : pe ≤ 10) (x : Int32) : tX10_requirePerson_I (nI pe) x = some () ∨ ∃ k, k < pe ∧ x = nI k ∧ fX10_requirePerson (nI pe) x = some () ∧ tX10_requirePerson_I (nI pe) x = none := by
  rcases pk_ix x (n := pe) (by omega) with h | h | ⟨k, hk, rfl⟩
  · left
    unfold tX10_requirePerson_I tX10_requirePerson_I_b15
    rw [if_pos h]
  · left
    unfold tX10_requirePerson_I tX10_requirePerson_I_b15
    by_cases c : x < 0
    · rw [if_pos c]
    · rw [if_neg c, if_neg (lt_le_no h)]
  · right
    refine ⟨k, hk, rfl, ?_, ?_⟩
    · unfold fX10_requirePerson
      rw [if_neg (nI_pos (by omega)), if_pos (nI_lt hk (by omega))]
    · unfold tX10_requirePerson_I
      rw [if_neg (nI_pos (by omega)), if_pos (nI_lt hk (by omega))]
theorem c_reqS (x : Int32) : tX10_requireSlot_I x = some () ∨ ∃ k, k < 2 ∧ x = nI k ∧ fX10_requireSlot x = some () ∧ tX10_requireSlot_I x = none := by
  rcases pk_ix x (n := 2) (by decide) with h | h | ⟨k, hk, rfl⟩
  · left
    unfold tX10_requireSlot_I tX10_requireSlot_I_b9
    rw [if_pos h]
  · left
    unfold tX10_requireSlot_I tX10_requireSlot_I_b9
    by_cases c : x < 0
    · rw [if_pos c]
    · rw [if_neg c, if_neg (show ¬ x < 2 from lt_le_no h)]
  · right
    refine ⟨k, hk, rfl, ?_, ?_⟩
    · unfold fX10_requireSlot
      rw [if_neg (nI_pos (by omega)), if_pos (show nI k < 2 from nI_lt (b := 2) hk (by omega))]
    · unfold tX10_requireSlot_I
      rw [if_neg (nI_pos (by omega)), if_pos (show nI k < 2 from nI_lt (b := 2) hk (by omega))]
/-- the rounds behind one: a chain of so many at most -/
def zV (rl : zRL) : Nat → Option Nat → Prop
  | _, none => True
  | 0, some _ => False
  | d + 1, some a => ∃ q, zLk rl a = some q ∧ zV rl d q.2.2.2
theorem zVs {rl : zRL} : ∀ (d : Nat) (l : Option Nat), zV rl d l → zV rl (d + 1) l
  | _, none, _ => trivial
  | 0, some _, h => absurd h id
  | d + 1, some a, ⟨q, h1, h2⟩ => ⟨q, h1, zVs d _ h2⟩
theorem zVle {rl : zRL} {l : Option Nat} {d e : Nat} (h : zV rl d l) (le : d ≤ e) : zV rl e l := by
  obtain ⟨k, rfl⟩ : ∃ k, e = d + k := ⟨e - d, by omega⟩
  clear le
  induction k with
  | zero => exact h
  | succ k ih => exact zVs _ _ ih
theorem zLka {rl rs : zRL} {a : Nat} {q : Nat × Int32 × Int32 × Option Nat} (h : zLk rl a = some q) : zLk (rl ++ rs) a = some q := by
  unfold zLk at h ⊢
  rw [List.find?_append, h]
  rfl
theorem zVa {rl rs : zRL} : ∀ (d : Nat) (l : Option Nat), zV rl d l → zV (rl ++ rs) d l
  | _, none, _ => by cases ‹Nat› <;> trivial
  | 0, some _, h => absurd h id
  | d + 1, some a, ⟨q, h1, h2⟩ => ⟨q, zLka h1, zVa d _ h2⟩
theorem zVn {rl : zRL} {d : Nat} {a : Nat} {x y : Int32} {l : Option Nat} (h : zV rl d l) (hn : zLk rl a = none) : zV (rl ++ [(a, x, y, l)]) (d + 1) (some a) := by
  refine ⟨(a, x, y, l), ?_, zVa d l h⟩
  unfold zLk at hn ⊢
  rw [List.find?_append, hn]
  show (List.find? (fun q => q.1 == a) [(a, x, y, l)]) = _
  rw [List.find?_cons_of_pos (by exact beq_self_eq_true a)]
theorem tl_spent {rl : zRL} {x : Int32} : ∀ (n d : Nat) (l : Option Nat), zV rl d l → d < n → tG tT (fX7_spentUpTo_b5 rl x n l) := by
  intro n
  induction n with
  | zero => intro d l h1 h2; omega
  | succ n ih =>
    intro d l h1 h2
    cases l with
    | none => exact tgS trivial
    | some a =>
      cases d with
      | zero => exact absurd h1 id
      | succ d =>
        obtain ⟨q, q1, q2⟩ := h1
        show tG tT ((zLk rl a).bind (fun q => if x < q.2.1 then fX7_spentUpTo_b5 rl x n q.2.2.2 else some q.2.2.1))
        exact tGb q1 (tgI (fun _ => ih d _ q2 (by omega)) (fun _ => tgS trivial))
theorem t_spentUpTo {rl : zRL} {x : Int32} {d : Nat} {l : Option Nat} (h : zV rl d l) (hd : d ≤ 10000) : tG tT (fX7_spentUpTo rl l x) := by
  unfold fX7_spentUpTo
  exact tl_spent FU d l h (by have := FUge; omega)
/-- what is remembered -/
def hH (rl : zRL) (d : Nat) (nx ct : Int32) (lat : Nat → Option Nat) (ppl : Nat → Int32) : Prop := (∃ a : Nat, a < 10 ∧ nx = nI a) ∧ (∃ b : Nat, b ≤ 10 ∧ ct = nI b) ∧ ∀ J : Nat, J < 10 → pB 10 (ppl J) ∧ zV rl d (lat J)
theorem upS {α : Type} {f : Nat → α} {k : Nat} {v : α} : va_up f k v k = v := by
  unfold va_up
  rw [if_pos rfl]
theorem upN {α : Type} {f : Nat → α} {k j : Nat} {v : α} (h : j ≠ k) : va_up f k v j = f j := by
  unfold va_up
  rw [if_neg h]
theorem t_copy7 {t_news_pieces : Nat → Int32} {p1_arrangedLines : Int32} {p1_cutLines : Int32} {p1_rounds : Int32} {p1_calls : Int32} {p1_latest : Option Nat} {p1_news_people : Int32} {p1_news_pieces : Nat → Int32} : ∃ pc, fX7_copyFrom t_news_pieces p1_arrangedLines p1_cutLines p1_rounds p1_calls p1_latest p1_news_people p1_news_pieces = some (p1_arrangedLines, p1_cutLines, p1_rounds, p1_calls, p1_latest, p1_news_people, pc) := by
  obtain ⟨r, h1, h2⟩ := t_fX3_copyFrom (t_pieces := t_news_pieces) (p1_people := p1_news_people) (p1_pieces := p1_news_pieces)
  refine ⟨r.2, ?_⟩
  unfold fX7_copyFrom
  rw [h1, ← h2]
  rfl
theorem t_remember {rl : zRL} {d : Nat} {t_next : Int32} {t_count : Int32} {t_earlier_e_arrangedLines : Nat → Int32} {t_earlier_e_cutLines : Nat → Int32} {t_earlier_e_rounds : Nat → Int32} {t_earlier_e_calls : Nat → Int32} {t_earlier_e_latest : Nat → Option Nat} {t_earlier_e_news_people : Nat → Int32} {t_earlier_e_news_pieces : Nat → Nat → Int32} {p1_arrangedLines : Int32} {p1_cutLines : Int32} {p1_rounds : Int32} {p1_calls : Int32} {p1_latest : Option Nat} {p1_news_people : Int32} {p1_news_pieces : Nat → Int32} (hh : hH rl d t_next t_count t_earlier_e_latest t_earlier_e_news_people) (hp : pB 10 p1_news_people) (hl : zV rl d p1_latest) : tG (fun r => hH rl d r.1 r.2.1 r.2.2.2.2.2.2.1 r.2.2.2.2.2.2.2.1) (fX2_remember t_next t_count t_earlier_e_arrangedLines t_earlier_e_cutLines t_earlier_e_rounds t_earlier_e_calls t_earlier_e_latest t_earlier_e_news_people t_earlier_e_news_pieces p1_arrangedLines p1_cutLines p1_rounds p1_calls p1_latest p1_news_people p1_news_pieces) := by
  obtain ⟨⟨a, ha, rfl⟩, ⟨b, hb, rfl⟩, h3⟩ := hh
  unfold fX2_remember
  refine tgD (vkn ha (by decide)) (tgN (fun J hJ => ?_))
  rw [nI_clamp (by omega)] at hJ
  subst hJ
  obtain ⟨pc, hpc⟩ := t_copy7 (t_news_pieces := t_earlier_e_news_pieces J) (p1_arrangedLines := p1_arrangedLines) (p1_cutLines := p1_cutLines) (p1_rounds := p1_rounds) (p1_calls := p1_calls) (p1_latest := p1_latest) (p1_news_people := p1_news_people) (p1_news_pieces := p1_news_pieces)
  refine tGb hpc (tgN (fun w hw => tgS ⟨?_, ?_, fun K hK => ?_⟩))
  · show ∃ a : Nat, a < 10 ∧ (nI J + 1) - (nI J + 1) / 10 * 10 = nI a
    rw [nI_1]
    exact ⟨(J + 1) % 10, Nat.mod_lt _ (by decide), pk_rem (a := J + 1) (d := 10) (by omega) (by decide) (by decide)⟩
  · show ∃ b : Nat, b ≤ 10 ∧ w = nI b
    rw [hw, nI_1]
    by_cases c : 10 < nI (b + 1)
    · rw [if_pos c]
      exact ⟨10, Nat.le_refl _, rfl⟩
    · rw [if_neg c]
      exact ⟨b + 1, nltn (a := 10) (b := b + 1) c (by decide) (by omega), rfl⟩
  · show pB 10 (va_up t_earlier_e_news_people J p1_news_people K) ∧ zV rl d (va_up t_earlier_e_latest J p1_latest K)
    by_cases c : K = J
    · subst c
      rw [upS, upS]
      exact ⟨hp, hl⟩
    · rw [upN c, upN c]
      exact h3 K hK
theorem t_stepBack {rl : zRL} {d : Nat} {t_next : Int32} {t_count : Int32} {t_earlier_e_arrangedLines : Nat → Int32} {t_earlier_e_cutLines : Nat → Int32} {t_earlier_e_rounds : Nat → Int32} {t_earlier_e_calls : Nat → Int32} {t_earlier_e_latest : Nat → Option Nat} {t_earlier_e_news_people : Nat → Int32} {t_earlier_e_news_pieces : Nat → Nat → Int32} {p1_arrangedLines : Int32} {p1_cutLines : Int32} {p1_rounds : Int32} {p1_calls : Int32} {p1_latest : Option Nat} {p1_news_people : Int32} {p1_news_pieces : Nat → Int32} (hh : hH rl d t_next t_count t_earlier_e_latest t_earlier_e_news_people) (hp : pB 10 p1_news_people) (hl : zV rl d p1_latest) : tG (fun r => hH rl d r.2.1 r.2.2.1 t_earlier_e_latest t_earlier_e_news_people ∧ zV rl d r.2.2.2.2.2.2.2.1 ∧ pB 10 r.2.2.2.2.2.2.2.2.1) (fX2_stepBack t_next t_count t_earlier_e_arrangedLines t_earlier_e_cutLines t_earlier_e_rounds t_earlier_e_calls t_earlier_e_latest t_earlier_e_news_people t_earlier_e_news_pieces p1_arrangedLines p1_cutLines p1_rounds p1_calls p1_latest p1_news_people p1_news_pieces) := by
  have hh2 := hh
  obtain ⟨⟨a, ha, rfl⟩, ⟨b, hb, rfl⟩, h3⟩ := hh
  unfold fX2_stepBack
  refine tgI (fun _ => tgS ⟨hh2, hl, hp⟩) (fun c => ?_)
  have hb0 : 0 < b := by
    rcases Nat.eq_zero_or_pos b with e | e
    · rw [e] at c; exact absurd rfl c
    · exact e
  have e1 : ((nI a + 10) - 1) - ((nI a + 10) - 1) / 10 * 10 = nI ((a + 9) % 10) := by
    rw [show nI a + 10 = nI (a + 10) from nI_add a 10, show nI (a + 10) - 1 = nI (a + 9) from nsub (a := a + 10) (b := 1) rfl rfl (by omega)]
    exact pk_rem (a := a + 9) (d := 10) (by omega) (by decide) (by decide)
  rw [e1]
  have hm : (a + 9) % 10 < 10 := Nat.mod_lt _ (by decide)
  refine tgD (vkn hm (by decide)) (tgN (fun J hJ => ?_))
  rw [nI_clamp (by omega)] at hJ
  subst hJ
  obtain ⟨pc, hpc⟩ := t_copy7 (t_news_pieces := p1_news_pieces) (p1_arrangedLines := t_earlier_e_arrangedLines ((a + 9) % 10)) (p1_cutLines := t_earlier_e_cutLines ((a + 9) % 10)) (p1_rounds := t_earlier_e_rounds ((a + 9) % 10)) (p1_calls := t_earlier_e_calls ((a + 9) % 10)) (p1_latest := t_earlier_e_latest ((a + 9) % 10)) (p1_news_people := t_earlier_e_news_people ((a + 9) % 10)) (p1_news_pieces := t_earlier_e_news_pieces ((a + 9) % 10))
  refine tGb hpc (tgS ⟨⟨⟨_, hm, rfl⟩, ⟨b - 1, by omega, nsub (a := b) (b := 1) rfl rfl hb0⟩, h3⟩, ?_, ?_⟩)
  · exact (h3 _ hm).2
  · exact (h3 _ hm).1
