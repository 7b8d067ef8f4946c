/-! what holds between the law's turns -/
theorem sW_fresh {X : sX} {l : Launch} {R : Room} {D : va_G} {nL k n pc : Nat} {L : List (Nat × Value)} {st : List Value} {ws : va_W} {rl : zRL} {q : Nat × Int32 × Int32 × Option Nat} (h : zLk rl q.1 = none → sW X l R D nL k n pc L st (ws ++ zPl (rl ++ [q]))) : sW X l R D nL k n pc L st (ws ++ zPl (rl ++ [q])) := by
  obtain ⟨p, e, s, m, args, below, meth, c, Q, A⟩ := X
  intro H locs ls hP hD hS hl
  refine h ?_ H locs ls hP hD hS hl
  cases hz : zLk rl q.1 with
  | none => rfl
  | some a =>
    exfalso
    obtain ⟨k, hk⟩ := zLk_at hz
    have hkl : k < (zPl rl).length := (List.getElem?_eq_some_iff.mp hk).1
    have e1 : (ws ++ zPl (rl ++ [q]))[ws.length + k]? = some (q.1, .inr (5, [.int a.2.1, .int a.2.2.1, va_rf a.2.2.2])) := by
      rw [List.getElem?_append_right (by omega), Nat.add_sub_cancel_left, zPl_add, List.getElem?_append_left hkl]
      exact hk
    have e2 : (ws ++ zPl (rl ++ [q]))[ws.length + (zPl rl).length]? = some (zRd q) := by
      rw [List.getElem?_append_right (by omega), Nat.add_sub_cancel_left, zPl_add, List.getElem?_append_right (Nat.le_refl _), Nat.sub_self]
      rfl
    have := hD.1 _ _ _ _ e1 e2 rfl
    omega
abbrev INV (rl : zRL) (d : Nat) (bh : Int32) (tx : Nat → Int32) (wr pe lc : Int32) (fi se co : Nat → Int32) (bc ac : Int32) (lat : Option Nat) (npp hn hc : Int32) (hlat : Nat → Option Nat) (hpp : Nat → Int32) (slat : Nat → Option Nat) (spp fl : Nat → Int32) (mL : Int32) (mT : Nat → Int32) (mE un : Int32) (now told one other cost undo slots isv : Nat → Int32) : Prop :=
  ∃ L np nl nb na : Nat, L ≤ 500 ∧ bh = nI L ∧ mL = nI L ∧ tx = mT ∧ hBy tx ∧ np ≤ 10 ∧ nl ≤ 24 ∧ nb ≤ 12 ∧ na ≤ 12 ∧ pe = nI np ∧ lc = nI nl ∧ bc = nI nb ∧ ac = nI na ∧ wr = mE ∧ LQ nl np fi se co one other cost ∧ hTold told np nl nb na ∧ sI np un now undo ∧ gS np isv slots ∧ pB 10 npp ∧ zV rl d lat ∧ hH rl d hn hc hlat hpp ∧ (∀ s : Nat, s < 2 → pB 10 (spp s) ∧ zV rl d (slat s)) ∧ (∀ s : Nat, s < 2 → fl s = isv s)
theorem LQ_F {nl np : Nat} {fi se co one other cost : Nat → Int32} (h : LQ nl np fi se co one other cost) (hn : np ≤ 10) (hl : nl ≤ 24) : hFS nl fi se := fun k hk => by
  obtain ⟨a, b, c, h1, h2, h3, h4, h5, h6, h7, h8, h9, h10⟩ := h k hk
  rw [nI_clamp (by omega)]
  exact ⟨⟨a, by omega, h5⟩, ⟨b, by omega, h6⟩⟩
theorem LQ_L {nl np : Nat} {fi se co one other cost : Nat → Int32} (h : LQ nl np fi se co one other cost) (hl : nl ≤ 24) : hLN nl np one other := fun k hk => by
  obtain ⟨a, b, c, h1, h2, h3, h4, h5, h6, h7, h8, h9, h10⟩ := h k hk
  rw [nI_clamp (by omega)]
  exact ⟨a, b, h1, h2, h3, h8, h9⟩
theorem LQ_C {nl np : Nat} {fi se co one other cost : Nat → Int32} (h : LQ nl np fi se co one other cost) : hCost nl cost := fun k hk => by
  obtain ⟨a, b, c, h1, h2, h3, h4, h5, h6, h7, h8, h9, h10⟩ := h k hk
  exact ⟨c, h4, h10⟩
theorem hHs {rl : zRL} {d : Nat} {nx ct : Int32} {lat : Nat → Option Nat} {ppl : Nat → Int32} (h : hH rl d nx ct lat ppl) : hH rl (d + 1) nx ct lat ppl := ⟨h.1, h.2.1, fun J hJ => ⟨(h.2.2 J hJ).1, zVs _ _ (h.2.2 J hJ).2⟩⟩
theorem hHa {rl rs : zRL} {d : Nat} {nx ct : Int32} {lat : Nat → Option Nat} {ppl : Nat → Int32} (h : hH rl d nx ct lat ppl) : hH (rl ++ rs) d nx ct lat ppl := ⟨h.1, h.2.1, fun J hJ => ⟨(h.2.2 J hJ).1, zVa _ _ (h.2.2 J hJ).2⟩⟩
theorem hH0 {rl : zRL} {d : Nat} {nx ct : Int32} {lat : Nat → Option Nat} {ppl : Nat → Int32} (h : hH rl d nx ct lat ppl) {ct' : Int32} (h0 : ct' = 0) : hH rl d nx ct' lat ppl := ⟨h.1, ⟨0, by decide, h0⟩, h.2.2⟩
theorem sSs {rl : zRL} {d : Nat} {slat : Nat → Option Nat} {spp : Nat → Int32} (h : ∀ s : Nat, s < 2 → pB 10 (spp s) ∧ zV rl d (slat s)) : ∀ s : Nat, s < 2 → pB 10 (spp s) ∧ zV rl (d + 1) (slat s) := fun s hs => ⟨(h s hs).1, zVs _ _ (h s hs).2⟩
theorem INVs {rl : zRL} {d : Nat} {bh : Int32} {tx : Nat → Int32} {wr pe lc : Int32} {fi se co : Nat → Int32} {bc ac : Int32} {lat : Option Nat} {npp hn hc : Int32} {hlat : Nat → Option Nat} {hpp : Nat → Int32} {slat : Nat → Option Nat} {spp fl : Nat → Int32} {mL : Int32} {mT : Nat → Int32} {mE un : Int32} {now told one other cost undo slots isv : Nat → Int32} (h : INV rl d bh tx wr pe lc fi se co bc ac lat npp hn hc hlat hpp slat spp fl mL mT mE un now told one other cost undo slots isv) : INV rl (d + 1) bh tx wr pe lc fi se co bc ac lat npp hn hc hlat hpp slat spp fl mL mT mE un now told one other cost undo slots isv := by
  obtain ⟨L, np, nl, nb, na, h1, h2, h3, h4, h5, h6, h7, h8, h9, h10, h11, h12, h13, h14, h15, h16, h17, h18, h19, h20, h21, h22, h23⟩ := h
  exact ⟨L, np, nl, nb, na, h1, h2, h3, h4, h5, h6, h7, h8, h9, h10, h11, h12, h13, h14, h15, h16, h17, h18, h19, zVs _ _ h20, hHs h21, sSs h22, h23⟩
