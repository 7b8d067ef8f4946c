/-! the reference's methods: an answer, and that what holds goes on to hold -/
def sI (np : Nat) (undos : Int32) (now undo : Nat → Int32) : Prop := (∃ u : Nat, u ≤ 10 ∧ undos = nI u ∧ ∀ k : Nat, k < u → gNow np undo (514 * k)) ∧ gNow np now 0
theorem gNow_u {np k : Nat} {now : Nat → Int32} {x : Int32} (h : gNow np now 0) (hn : np ≤ 10) (hk : (0 < k ∧ k < 4) ∨ 14 ≤ k) : gNow np (upd now k x) 0 := by
  obtain ⟨⟨r, r1, r2⟩, h3⟩ := h
  refine ⟨⟨r, r1, ?_⟩, gOwnU h3 (fun i hi q => absurd q (by omega))⟩
  rw [pk_un (by omega)]
  exact r2
theorem t_keepsI {np : Nat} {undos : Int32} {now undo : Nat → Int32} (hnp : np ≤ 10) (h : sI np undos now undo) : tG (fun r => ∀ nw, gNow np nw 0 → sI np r.1 nw r.2) (fX11_keeps undos now undo) := by
  obtain ⟨⟨u, u1, rfl, u2⟩, h2⟩ := h
  obtain ⟨v, un, v1, v2, v3⟩ := t_keeps hnp u1 u2 h2
  exact ⟨_, v2, fun nw hw => ⟨⟨v, v1, rfl, v3⟩, hw⟩⟩
section
variable {np nl nb na : Nat} {now told one other forth cost broken away undo : Nat → Int32} {undos : Int32}
theorem t_arrange_b35 (hnp : np ≤ 10) (hnl : nl ≤ 24) (hnb : nb ≤ 12) (hna : na ≤ 12) (hT : hTold told np nl nb na) (hL : hLN nl np one other) (h : sI np undos now undo) {x1 s0 th : Int32} : tG (fun r => sI np r.2.2.1 r.2.2.2.1 r.2.2.2.2) (fX11_arrange_b35 told one other forth x1 s0 th undos now undo) := by
  unfold fX11_arrange_b35
  refine tgN (fun w _ => tgI (fun _ => ?_) (fun _ => tgS h))
  exact tgC (t_keepsI hnp h) (fun u13 k => tgC (t_fX11_gainNow hnp hnl hnb hna hT hL) (fun u16 _ => tgS (k _ (gNow_u h.2 hnp (Or.inl ⟨by decide, by decide⟩)))))
theorem t_arrange (hnp : np ≤ 10) (hnl : nl ≤ 24) (hnb : nb ≤ 12) (hna : na ≤ 12) (hT : hTold told np nl nb na) (hL : hLN nl np one other) (h : sI np undos now undo) {x1 : Int32} : tG (fun r => sI np r.2.2.1 r.2.2.2.1 r.2.2.2.2) (fX11_arrange undos now told one other forth broken away undo x1) := by
  unfold fX11_arrange
  refine tgC (t_fX11_noLine hnp hnl hnb hna hT) (fun u1 g => tgI (fun e => ?_) (fun _ => tgS h))
  obtain ⟨k, hk, rfl⟩ := g e
  refine tgI (fun _ => tgC (t_fX11_canArrange (by omega) hnp hnl hnb hna hk hT hL) (fun u19 _ => tgI (fun _ => ?_) (fun _ => ?_))) (fun _ => ?_)
  · unfold fX11_arrange_b30
    exact t_arrange_b35 hnp hnl hnb hna hT hL h
  · exact t_arrange_b35 hnp hnl hnb hna hT hL h
  · unfold fX11_arrange_b30
    exact t_arrange_b35 hnp hnl hnb hna hT hL h
theorem t_takeBack_b27 (hnp : np ≤ 10) (hnl : nl ≤ 24) (hnb : nb ≤ 12) (hna : na ≤ 12) (hT : hTold told np nl nb na) (hL : hLN nl np one other) (h : sI np undos now undo) {x1 s0 th : Int32} : tG (fun r => sI np r.2.2.1 r.2.2.2.1 r.2.2.2.2) (fX11_takeBack_b27 told one other forth x1 s0 th undos now undo) := by
  unfold fX11_takeBack_b27
  refine tgN (fun w _ => tgI (fun _ => ?_) (fun _ => tgS h))
  exact tgC (t_keepsI hnp h) (fun u13 k => tgC (t_fX11_gainNow hnp hnl hnb hna hT hL) (fun u16 _ => tgS (k _ (gNow_u h.2 hnp (Or.inl ⟨by decide, by decide⟩)))))
theorem t_takeBack (hnp : np ≤ 10) (hnl : nl ≤ 24) (hnb : nb ≤ 12) (hna : na ≤ 12) (hT : hTold told np nl nb na) (hL : hLN nl np one other) (h : sI np undos now undo) {x1 : Int32} : tG (fun r => sI np r.2.2.1 r.2.2.2.1 r.2.2.2.2) (fX11_takeBack undos now told one other forth undo x1) := by
  unfold fX11_takeBack
  refine tgC (t_fX11_noLine hnp hnl hnb hna hT) (fun u1 g => tgI (fun e => tgI (fun _ => ?_) (fun _ => ?_)) (fun _ => tgS h)) <;> exact t_takeBack_b27 hnp hnl hnb hna hT hL h
theorem t_arrangeBest {worth : Nat → Int64} {choice : Nat → Int32} (hnp : np ≤ 10) (hnl : nl ≤ 24) (hnb : nb ≤ 12) (hna : na ≤ 12) (hT : hTold told np nl nb na) (hL : hLN nl np one other) (h : sI np undos now undo) : tG (fun r => sI np r.2.2.1 r.2.2.2.1 r.2.2.2.2.2.2) (fX11_arrangeBest undos now told one other forth cost broken away worth choice undo) := by
  unfold fX11_arrangeBest
  exact tgC (t_keepsI hnp h) (fun u13 k => tgC (t_fX11_bestNow hnp hnl hnb hna hT hL) (fun u4 _ => tgC (t_fX11_gainNow hnp hnl hnb hna hT hL) (fun u16 _ => tgS (k _ (gNow_u h.2 hnp (Or.inl ⟨by decide, by decide⟩))))))
theorem t_cut_b61 (hnp : np ≤ 10) {x1 s0 s1 th un y : Int32} {ud : Nat → Int32} (hy : y = 0 ∨ y = 1) (hn : gNow np now 0) (h : ∀ nw, gNow np nw 0 → sI np un nw ud) : tG (fun r => (r.1 = 0 ∨ r.1 = 1) ∧ sI np r.2.2.1 r.2.2.2.1 r.2.2.2.2) (fX11_cut_b61 x1 y s0 s1 2 th un now ud) := by
  unfold fX11_cut_b61
  exact tgD (zv (by decide)) (tgB hy (tgS ⟨hy, h _ (gNow_u (gNow_u hn hnp (Or.inl ⟨by decide, by decide⟩)) hnp (Or.inl ⟨by decide, by decide⟩))⟩))
theorem t_cut (hnp : np ≤ 10) (hnl : nl ≤ 24) (hnb : nb ≤ 12) (hna : na ≤ 12) (hT : hTold told np nl nb na) (h : sI np undos now undo) {x1 : Int32} : tG (fun r => (r.1 = 0 ∨ r.1 = 1) ∧ sI np r.2.2.1 r.2.2.2.1 r.2.2.2.2) (fX11_cut undos now told undo x1) := by
  unfold fX11_cut
  refine tgC (t_fX11_noLine hnp hnl hnb hna hT) (fun u1 g => tgI (fun e => tgN (fun w _ => tgI (fun _ => ?_) (fun _ => tgS ⟨Or.inl rfl, h⟩))) (fun _ => tgS ⟨Or.inl rfl, h⟩))
  exact tgC (t_keepsI hnp h) (fun u12 k => tgI (fun _ => t_cut_b61 hnp (isIn01 _ _) h.2 k) (fun _ => t_cut_b61 hnp (isIn01 _ _) h.2 k))
theorem t_mend_b27 (hnp : np ≤ 10) (h : sI np undos now undo) {x1 s0 th : Int32} : tG (fun r => sI np r.2.2.1 r.2.2.2.1 r.2.2.2.2) (fX11_mend_b27 x1 s0 th undos now undo) := by
  unfold fX11_mend_b27
  refine tgN (fun w _ => tgI (fun _ => ?_) (fun _ => tgS h))
  exact tgC (t_keepsI hnp h) (fun u13 k => tgC (t_many0 _) (fun u16 _ => tgS (k _ (gNow_u h.2 hnp (Or.inl ⟨by decide, by decide⟩)))))
theorem t_mend (hnp : np ≤ 10) (hnl : nl ≤ 24) (hnb : nb ≤ 12) (hna : na ≤ 12) (hT : hTold told np nl nb na) (h : sI np undos now undo) {x1 : Int32} : tG (fun r => sI np r.2.2.1 r.2.2.2.1 r.2.2.2.2) (fX11_mend undos now told undo x1) := by
  unfold fX11_mend
  refine tgC (t_fX11_noLine hnp hnl hnb hna hT) (fun u1 g => tgI (fun e => tgI (fun _ => ?_) (fun _ => ?_)) (fun _ => tgS h)) <;> exact t_mend_b27 hnp h
theorem t_tell (hnp : np ≤ 10) (hnl : nl ≤ 24) (hnb : nb ≤ 12) (hna : na ≤ 12) (hT : hTold told np nl nb na) (h : sI np undos now undo) {x1 x2 : Int32} : tG (fun r => sI np r.2.2.1 r.2.2.2.1 r.2.2.2.2) (fX11_tell undos now told undo x1 x2) := by
  unfold fX11_tell
  refine tgC (t_fX11_noPerson hnp hnl hnb hna hT) (fun u1 g => tgI (fun e => ?_) (fun _ => tgS h))
  obtain ⟨a, ha, rfl⟩ := g e
  refine tgC (t_fX11_noPerson hnp hnl hnb hna hT) (fun u5 g => tgI (fun e => ?_) (fun _ => tgS h))
  have e4 : (4 : Int32) + nI a = nI (4 + a) := nI_add 4 a
  rw [e4]
  refine tgD (vkn (by omega) (by omega)) (tgN (fun w _ => tgI (fun _ => ?_) (fun _ => tgS h)))
  refine tgC (t_keepsI hnp h) (fun u17 k => tgC (t_many0 _) (fun u20 _ => tgS (k _ ?_)))
  rw [nI_clamp (by omega)]
  obtain ⟨⟨r, r1, r2⟩, h3⟩ := h.2
  refine ⟨⟨r, r1, ?_⟩, gOwnU h3 (fun i hi q => ?_)⟩
  · show upd now (4 + a) (now (4 + a) ||| 1 <<< (x2 &&& 31)) 0 = nI r
    rw [pk_un (by omega)]
    exact r2
  · have := h3 i hi
    rw [← q] at this
    exact isInOr this
theorem t_undoI (hnp : np ≤ 10) (h : sI np undos now undo) : tG (fun r => sI np r.2.2.1 r.2.2.2 undo) (fX11_undo undos now undo) := by
  obtain ⟨⟨u, u1, rfl, u2⟩, h2⟩ := h
  obtain ⟨x, v, nw, v1, v2, v3⟩ := t_undo hnp u1 u2 h2
  exact ⟨_, v2, ⟨v, by omega, rfl, fun k hk => u2 k (by omega)⟩, v3⟩
/-- the slots: what is saved in them is well -/
def gS (np : Nat) (isSaved slots : Nat → Int32) : Prop := ∀ s : Nat, s < 2 → (isSaved s = 0 ∨ isSaved s = 1) ∧ (isSaved s = 0 ∨ gNow np slots (514 * s))
theorem noSlot2 (x : Int32) : fX11_noSlot x = (0, 0) ∨ fX11_noSlot x = (1, 1) := by
  by_cases c : fX11_within x 0 (2 - 1) = 0
  · right
    unfold fX11_noSlot nm fX11_no
    rw [if_pos c]
    rfl
  · left
    unfold fX11_noSlot nm fX11_no
    rw [if_neg c]
    rfl
theorem t_saveSnapshot (hnp : np ≤ 10) {slots isSaved : Nat → Int32} {x1 : Int32} (hn : gNow np now 0) (h : gS np isSaved slots) : tG (fun r => (r.1 = 0 ∨ r.1 = 1) ∧ gS np r.2.2.2 r.2.2.1) (fX11_saveSnapshot now slots isSaved x1) := by
  unfold fX11_saveSnapshot
  refine tgN (fun w hw => tgI (fun e => ?_) (fun _ => tgS ⟨Or.inl rfl, h⟩))
  obtain ⟨s, hs, rfl⟩ := tnoSlot hw e
  refine tgD (vkn hs (by decide)) ?_
  rw [show (514 : Int32) * nI s = nI (514 * s) from pk_mul 514 s, nI_clamp (by omega : s < 2 ^ 31)]
  obtain ⟨r, r1, r2⟩ := t_copies (N2 := 1028) (N0 := 514) (p0 := now) (p2 := slots) (a := 0) (b := 514 * s) (m := 514) (by omega) (by omega) (by omega)
  refine tgC (P := fun z => z = r) ⟨_, r1, rfl⟩ (fun u z => ?_)
  subst z
  refine tgB (h s hs).1 (tgS ⟨(h s hs).1, fun t ht => ?_⟩)
  show (upd isSaved s (vp_nar .boolean 1) t = 0 ∨ upd isSaved s (vp_nar .boolean 1) t = 1) ∧ (upd isSaved s (vp_nar .boolean 1) t = 0 ∨ gNow np u (514 * t))
  by_cases c : t = s
  · subst c
    rw [pk_us]
    exact ⟨Or.inr rfl, Or.inr (gNowC hn hnp (fun j hj => by rw [r2, if_pos (by omega), show 0 + (514 * t + j - 514 * t) = 0 + j by omega]))⟩
  · rw [pk_un c]
    refine ⟨(h t ht).1, ?_⟩
    rcases (h t ht).2 with q | q
    · exact Or.inl q
    · refine Or.inr (gNowC q hnp (fun j hj => by rw [r2, if_neg (by omega)]))
theorem t_restoreSnapshot (hnp : np ≤ 10) {slots isSaved : Nat → Int32} {x1 : Int32} (h : sI np undos now undo) (hs : gS np isSaved slots) : tG (fun r => sI np r.2.2.1 r.2.2.2 undo) (fX11_restoreSnapshot undos now slots isSaved x1) := by
  unfold fX11_restoreSnapshot
  refine tgN (fun w hw => tgI (fun e => ?_) (fun _ => tgS h))
  obtain ⟨s, hs1, rfl⟩ := tnoSlot hw e
  refine tgD (vkn hs1 (by decide)) ?_
  rw [nI_clamp (by omega : s < 2 ^ 31)]
  have w0 : w = (0, 0) := by
    rcases noSlot2 (nI s) with z | z
    · rw [hw, z]
    · rw [hw, z] at e
      exact absurd e (by decide)
  subst w0
  refine tgI (fun c => ?_) (fun c => ?_)
  · unfold fX11_restoreSnapshot_b23
    refine tgN (fun w hw => ?_)
    obtain rfl : w = (1, 2) := hw
    exact tgI (fun c => absurd c (by decide)) (fun _ => tgS h)
  · unfold fX11_restoreSnapshot_b23
    refine tgN (fun w hw => ?_)
    obtain rfl : w = (0, 0) := hw
    refine tgI (fun _ => ?_) (fun c => absurd rfl c)
    rw [show (514 : Int32) * nI s = nI (514 * s) from pk_mul 514 s]
    obtain ⟨r, r1, r2⟩ := t_copies (N2 := 514) (N0 := 1028) (p0 := slots) (p2 := now) (a := 514 * s) (b := 0) (m := 514) (by omega) (by omega) (by omega)
    refine tgC (P := fun z => z = r) ⟨_, r1, rfl⟩ (fun u z => ?_)
    subst z
    refine tgS ⟨⟨0, by decide, rfl, fun k hk => absurd hk (Nat.not_lt_zero k)⟩, ?_⟩
    rcases (hs s hs1).2 with q | q
    · exact absurd q c
    · refine gNowC q hnp (fun j hj => ?_)
      show u (0 + j) = slots (514 * s + j)
      rw [r2, if_pos (by omega), show 514 * s + (0 + j - 0) = 514 * s + j by omega]
theorem t_spent (h : gNow np now 0) {x1 : Int32} : tG tT (fX11_spent now x1) := by
  obtain ⟨⟨r, r1, r2⟩, _⟩ := h
  unfold fX11_spent
  refine tgI (fun c => ?_) (fun c => ?_)
  · unfold fX11_spent_b22
    refine tgN (fun w hw => ?_)
    obtain rfl : w = (1, 1) := hw
    exact tgI (fun c => absurd c (by decide)) (fun _ => tgS trivial)
  · obtain ⟨k, k1, rfl⟩ := pwn (b := 9999) (by decide) c
    unfold fX11_spent_b22
    rw [r2]
    refine tgN (fun w hw => ?_)
    obtain rfl : w = (0, 0) := hw
    refine tgI (fun _ => tgI (fun q => ?_) (fun q => ?_)) (fun c => absurd rfl c)
    · unfold fX11_spent_b57
      exact tgD (vne (nadd (a := 14) (b := r) rfl rfl) (by omega) (by decide)) (tgS trivial)
    · have := nln q (by omega) (by omega)
      unfold fX11_spent_b57
      exact tgD (vne (nadd (a := 14) (b := k) rfl rfl) (by omega) (by decide)) (tgS trivial)
/-- a round -/
theorem t_ring_b162 {r : Nat} {y1 y2 th un : Int32} {p tho be ud : Nat → Int32} {s : Nat} (hnp : np ≤ 10) (hr : r + s ≤ 499) (ho : gOwn np p (0 + 4)) : tG (fun q => q.2.2.1 = un ∧ gNow np q.2.2.2.1 0 ∧ q.2.2.2.2.2.2 = ud) (fX11_ring_b162 y1 y2 (nI s) (nI r) 0 th un p tho be ud) := by
  unfold fX11_ring_b162
  have e0 : (0 : Int32).toNatClampNeg = 0 := rfl
  rw [e0, pk_us, nI_add, show (14 : Int32) + nI (r + s) = nI (14 + (r + s)) from nI_add 14 (r + s)]
  refine tgD (zv (by decide)) (tgD (vkn (by omega) (by decide)) (tgS ⟨rfl, ?_, rfl⟩))
  rw [nI_clamp (by omega)]
  refine gNow_u ⟨⟨r + s, hr, pk_us⟩, gOwnU ho (fun i hi q => absurd q (by omega))⟩ hnp (Or.inr (by omega))
theorem tl_ring83 {r : Nat} {y1 y2 th un : Int32} {tho be ud : Nat → Int32} (hnp : np ≤ 10) (hT : told 0 = nI np) (hr : r ≤ 499) (hth : gOwn np tho 0) : ∀ (n y : Nat) (p : Nat → Int32), y ≤ np → np - y < n → p 0 = nI r → (∀ i, i < y → fX11_isIn (p (4 + i)) (nI i) = 1) → tG (fun q => q.2.2.1 = un ∧ gNow np q.2.2.2.1 0 ∧ q.2.2.2.2.2.2 = ud) (fX11_ring_b83 told n y1 y2 (nI y) th un p tho be ud) := by
  intro n
  induction n with
  | zero => intro y p h1 h2; omega
  | succ n ih =>
    intro y p h1 h2 h3 h4
    rw [fX11_ring_b83_s, hT]
    rcases Nat.lt_or_ge y np with c | c
    · rw [if_neg (nI_ge c (by omega)), show (4 : Int32) + nI y = nI (4 + y) from nI_add 4 y, nI_1, nI_clamp (by omega), nI_clamp (by omega)]
      refine tgD (vkn (by omega) (by omega)) (tgD (vkn (by omega) (by omega)) ?_)
      refine ih (y + 1) _ (by omega) (by omega) ?_ (fun i hi => ?_)
      · rw [pk_un (by omega)]
        exact h3
      · by_cases e : i = y
        · subst e
          rw [pk_us]
          have := hth i c
          rw [Nat.zero_add] at this
          exact this
        · rw [pk_un (by omega)]
          exact h4 i (by omega)
    · have e : y = np := by omega
      subst e
      rw [if_pos (nI_le (Nat.le_refl _) (by omega))]
      unfold fX11_ring_b113
      refine tgC (t_many0 _) (fun u24 _ => ?_)
      rw [show (upd (upd p 1 (p 1 + u24)) 2 0) 0 = nI r by rw [pk_un (by decide), pk_un (by decide)]; exact h3]
      have ho : gOwn y (upd (upd p 1 (p 1 + u24)) 2 0) (0 + 4) := by
        intro i hi
        rw [pk_un (by omega), pk_un (by omega), Nat.zero_add]
        exact h4 i hi
      refine tgI (fun _ => ?_) (fun q => ?_)
      · exact t_ring_b162 (s := 0) hnp hr ho
      · have := nln (a := 499) (b := r) q (by decide) (by omega)
        exact t_ring_b162 (s := 1) hnp (by omega) ho
theorem t_ring {tho be : Nat → Int32} (hnp : np ≤ 10) (hnl : nl ≤ 24) (hnb : nb ≤ 12) (hna : na ≤ 12) (hT : hTold told np nl nb na) (hL : hLN nl np one other) (h : sI np undos now undo) : tG (fun r => sI np r.2.2.1 r.2.2.2.1 r.2.2.2.2.2.2) (fX11_ring undos now told one other forth cost tho be undo) := by
  obtain ⟨⟨r, r1, r2⟩, ho⟩ := h.2
  unfold fX11_ring
  rw [r2, if_neg (fun (e : nI r = 9999) => absurd (i_eq32 (by omega) (by decide) (show nI r = nI 9999 from e)) (by omega))]
  unfold fX11_ring_b23
  refine tgN (fun w hw => ?_)
  obtain rfl : w = (0, 0) := hw
  refine tgI (fun _ => ?_) (fun c => absurd rfl c)
  refine tgC (t_keepsI hnp h) (fun u6 k => tgC (t_fX11_gainNow hnp hnl hnb hna hT hL) (fun u9 _ => ?_))
  rw [r2]
  refine tgD (vne (nadd (a := 14) (b := r) rfl rfl) (by omega) (by decide)) ?_
  refine tgC (t_fX11_costOf hnp hnl hnb hna hT) (fun u13 _ => tgN (fun w16 _ => ?_))
  obtain ⟨th, t1, t2⟩ := t_thinks (th := tho) (now := now) hnp hT.1
  refine tgC (P := fun z => z = th) ⟨_, t1, rfl⟩ (fun u17 z => ?_)
  subst z
  have hth : gOwn np u17 0 := fun i hi => by
    rw [Nat.zero_add, t2 i hi]
    have := ho i hi
    rw [Nat.zero_add] at this
    exact this
  refine tgC (t_calls hnp hnl hT.1 hT.2.1 hL hth) (fun u20 k2 => ?_)
  refine tgW (tl_ring83 hnp hT.1 r1 k2 FU 0 now (Nat.zero_le _) (by have := FUge; omega) r2 (fun i hi => absurd hi (Nat.not_lt_zero i))) (fun q hq => ?_)
  obtain ⟨q1, q2, q3⟩ := hq
  rw [q1, q3]
  exact k _ q2
/-- the bytes -/
theorem t_bytesOf {l : Nat} {t : Nat → Int32} {x : Int32} (hl : l + 4 ≤ 500) : ∃ t', fX11_bytesOf (nI l) t x = some (nI (l + 4), t') := by
  unfold fX11_bytesOf
  obtain ⟨m, hm⟩ : ∃ m, FU = m + 5 := ⟨FU - 5, by have := FUge; omega⟩
  rw [hm, fX11_bytesOf_b3_s, if_neg (by decide)]
  rw [gdI (vp_in_nI (by omega) (by omega)), nI_1, fX11_bytesOf_b3_s, if_neg (by decide)]
  rw [gdI (vp_in_nI (by omega) (by omega)), nI_1, fX11_bytesOf_b3_s, if_neg (by decide)]
  rw [gdI (vp_in_nI (by omega) (by omega)), nI_1, fX11_bytesOf_b3_s, if_neg (by decide)]
  rw [gdI (vp_in_nI (by omega) (by omega)), nI_1, fX11_bytesOf_b3_s, if_pos (by decide)]
  exact ⟨_, rfl⟩
end
