/-! statements, the loop over them, a text read by both -/
theorem bRt {α β : Type} {R : α → β → Prop} {Q : β → Prop} {a : Option α} {b : Option β} (h : tG Q b) (k : ∀ v, Q v → bT R a (some v)) : bT R a b := by
  obtain ⟨v, h1, h2⟩ := h
  rw [h1]
  exact k v h2
theorem bLt {α β : Type} {R : α → β → Prop} {Q : α → Prop} {a : Option α} {b : Option β} (h : tG Q a) (k : ∀ u, Q u → bT R (some u) b) : bT R a b := by
  obtain ⟨u, h1, h2⟩ := h
  rw [h1]
  exact k u h2
section
variable {n : Nat} {t : Nat → Int32}
theorem stm_eq (hn : n ≤ 500) (hB : hBy t) {e k s en np nl nb na : Nat} {v : Int32} (T : Tok n t e k s en v) (hk : 0 < k) (hnp : np ≤ 10) (hnl : nl ≤ 24) (hnb : nb ≤ 12) (hna : na ≤ 12) {told one other forth cost broken away fi se co ow bw bf bu aw af au : Nat → Int32} (hT : dT told np nl nb na) (hL : LR nl np fi se co one other cost) {code wr eA num num2 x1 : Int32} (hx : (x1 = 1 ∧ nl = 0) ∨ x1 = 0) : bT (fun rc um => hLo 4 (um.2.2.2.2.2.2.2.2.1) told ∧ hLo 24 (um.2.2.2.2.2.2.2.2.2.1) one ∧ hLo 24 (um.2.2.2.2.2.2.2.2.2.2.1) other ∧ hLo 24 (um.2.2.2.2.2.2.2.2.2.2.2.1) forth ∧ hLo 24 (um.2.2.2.2.2.2.2.2.2.2.2.2.1) cost ∧ hLo 36 (um.2.2.2.2.2.2.2.2.2.2.2.2.2.1) broken ∧ hLo 36 (um.2.2.2.2.2.2.2.2.2.2.2.2.2.2) away ∧ ClO n t e eA (um.1) (um.2.1) (um.2.2.1) (um.2.2.2.1) (um.2.2.2.2.1) (um.2.2.2.2.2.1) (um.2.2.2.2.2.2.1) (rc.1) (rc.2.1) (rc.2.2.1) (rc.2.2.2.2.2.1) code wr (∃ np2 nl2 nb2 na2 : Nat, np2 ≤ 10 ∧ nl2 ≤ 24 ∧ nb2 ≤ 12 ∧ na2 ≤ 12 ∧ (rc.2.2.2.2.2.2.2.1) = nI np2 ∧ (rc.2.2.2.2.2.2.2.2.1) = nI nl2 ∧ (rc.2.2.2.2.2.2.2.2.2.2.2.2.2.1) = nI nb2 ∧ (rc.2.2.2.2.2.2.2.2.2.2.2.2.2.2.2.2.2.1) = nI na2 ∧ dT (um.2.2.2.2.2.2.2.2.1) np2 nl2 nb2 na2 ∧ LR nl2 np2 (rc.2.2.2.2.2.2.2.2.2.1) (rc.2.2.2.2.2.2.2.2.2.2.1) (rc.2.2.2.2.2.2.2.2.2.2.2.1) (um.2.2.2.2.2.2.2.2.2.1) (um.2.2.2.2.2.2.2.2.2.2.1) (um.2.2.2.2.2.2.2.2.2.2.2.2.1))) (fX9_readStatement code wr (nI n) (nI k) (nI s) (nI en) num t (nI np) (nI nl) fi se co ow (nI nb) bw bf bu (nI na) aw af au x1) (fX11_statement (nI n) (nI s) (nI en) (nI k) v 0 eA num2 x1 told one other forth cost broken away t) := by
  obtain ⟨hk4, hes, hsen, hen, hken, -, -, -, -⟩ := id T
  have hlt := hken (by omega)
  have lows : hLo 4 told told ∧ hLo 24 one one ∧ hLo 24 other other ∧ hLo 24 forth forth ∧ hLo 24 cost cost ∧ hLo 36 broken broken ∧ hLo 36 away away := ⟨hLo_r, hLo_r, hLo_r, hLo_r, hLo_r, hLo_r, hLo_r⟩
  obtain ⟨o1, o2, o3, o4, o5, o6, o7⟩ := lows
  unfold fX9_readStatement fX11_statement
  rw [hT.1, hT.2.1]
  obtain ⟨r0, hr0, w1, w2⟩ := wd_eq (t := t) hn hk4 hsen hen (show 0 < 6 by decide)
  refine bLb w1 (bRb w2 ?_)
  rcases hr0 with rfl | rfl
  · refine bLp rfl (bRp rfl ?_)
    obtain ⟨r1, hr1, w1, w2⟩ := wd_eq (t := t) hn hk4 hsen hen (show 1 < 6 by decide)
    refine bLb w1 (bRb w2 ?_)
    rcases hr1 with rfl | rfl
    · refine bLp rfl (bRp rfl ?_)
      obtain ⟨r2, hr2, w1, w2⟩ := wd_eq (t := t) hn hk4 hsen hen (show 2 < 6 by decide)
      refine bLb w1 (bRb w2 ?_)
      rcases hr2 with rfl | rfl
      · refine bLp rfl (bRp rfl ?_)
        obtain ⟨r3, hr3, w1, w2⟩ := wd_eq (t := t) hn hk4 hsen hen (show 3 < 6 by decide)
        refine bLb w1 (bRb w2 ?_)
        rcases hr3 with rfl | rfl
        · exact bLp rfl (bRp rfl (bLm (bRm fl0 (bS ⟨o1, o2, o3, o4, o5, o6, o7, Or.inl ⟨1, nI s, one0, rfl, rfl, rfl, Or.inl ⟨rfl, rfl, rfl⟩⟩⟩))))
        · refine bLn one0 (bRn one0 (bBB (sp_eq (w := 3) (M := np) hn hB T hk hna (by omega) (Or.inr rfl) hT.2.2.2) ?_))
          intro rc um h
          obtain ⟨l0, l1, hcl⟩ := h
          refine bS ⟨l0, o2, o3, o4, o5, o6, l1, hcl.mono (fun z => ?_)⟩
          obtain ⟨z1, z2, z3⟩ := z
          refine ⟨np, nl, nb, na + 1, hnp, hnl, hnb, z2, rfl, rfl, rfl, z1, ?_, hL⟩
          show dT (um.2.2.2.2.2.2.2.2.1) np nl nb (na + 1)
          rw [z3]
          refine ⟨?_, ?_, ?_, ?_⟩
          · rw [pk_un (by decide)]; exact hT.1
          · rw [pk_un (by decide)]; exact hT.2.1
          · rw [pk_un (by decide)]; exact hT.2.2.1
          · exact pk_us
      · refine bLn one0 (bRn one0 (bBB (sp_eq (w := 2) (M := nl) hn hB T hk hnb (by omega) (Or.inl rfl) hT.2.2.1) ?_))
        intro rc um h
        obtain ⟨l0, l1, hcl⟩ := h
        refine bS ⟨l0, o2, o3, o4, o5, l1, o7, hcl.mono (fun z => ?_)⟩
        obtain ⟨z1, z2, z3⟩ := z
        refine ⟨np, nl, nb + 1, na, hnp, hnl, z2, hna, rfl, rfl, z1, rfl, ?_, hL⟩
        show dT (um.2.2.2.2.2.2.2.2.1) np nl (nb + 1) na
        rw [z3]
        refine ⟨?_, ?_, ?_, ?_⟩
        · rw [pk_un (by decide)]; exact hT.1
        · rw [pk_un (by decide)]; exact hT.2.1
        · exact pk_us
        · rw [pk_un (by decide)]; exact hT.2.2.2
    · refine bLn one0 (bRn one0 (bBB (ln_eq hn hB T hk hnp hnl hT hL) ?_))
      intro rc um h
      obtain ⟨l0, l1, l2, l3, l4, hcl⟩ := h
      refine bS ⟨l0, l1, l2, l3, l4, o6, o7, hcl.mono (fun z => ?_)⟩
      obtain ⟨z1, z2, z3, z4⟩ := z
      exact ⟨np, nl + 1, nb, na, hnp, z2, hnb, hna, rfl, z1, rfl, rfl, z3, z4⟩
  · refine bLn one0 (bRn one0 ?_)
    rcases hx with ⟨rfl, hz⟩ | rfl
    · subst hz
      obtain ⟨k1, s1, en1, v1, T1, hs1⟩ := stS hn hB hen
      refine bRb (hs1 _ _ _ _ _) (bRn one0 ?_)
      rcases rd hn hB T1 2 10 with ⟨c, q, hc, hC, hM, _⟩ | ⟨rfl, b1, b2, hC, k2, s2, en2, v2, T2, hM⟩
      · have hP : fX9_readPeople code wr (nI n) (nI k) (nI s) (nI en) num t (nI np) 1 = some (0, c, nI s1, nI k1, nI s1, nI en1, q num, nI np) := by
          unfold fX9_readPeople
          rw [if_neg one0, hC, obs, if_pos rfl]
        exact bLb hP (bRb (hM _ _) (bRp rfl (bS ⟨o1, o2, o3, o4, o5, o6, o7, Or.inl ⟨c, nI s1, hc0 hc, rfl, rfl, rfl, Or.inl ⟨rfl, rfl, rfl⟩⟩⟩)))
      · obtain ⟨np2, p1, p2, rfl⟩ := rng (lo := 2) (hi := 10) (by decide) (by decide) b1 b2
        have hd : dT (upd told 4 (nI np2)) np2 0 nb na := by
          refine ⟨pk_us, ?_, ?_, ?_⟩
          · rw [pk_un (by decide)]; exact hT.2.1
          · rw [pk_un (by decide)]; exact hT.2.2.1
          · rw [pk_un (by decide)]; exact hT.2.2.2
        have l0 : hLo 4 (upd told 4 (nI np2)) told := hLo_u hLo_r (by decide)
        obtain ⟨-, f2, f3, f4, -, -, -, -, -⟩ := id T1
        rcases sc hn hB T2 with ⟨hC2, hM2⟩ | ⟨hC2, k6, s6, en6, v6, T6, lt6, hM2⟩
        · have hP : fX9_readPeople code wr (nI n) (nI k) (nI s) (nI en) num t (nI np) 1 = some (0, 1, nI s2, nI k2, nI s2, nI en2, nI np2, nI np2) := by
            unfold fX9_readPeople
            rw [if_neg one0, hC, obs, if_neg one0, hC2, obs]
          exact bLb hP (bRb (hM _ _) (bRn one0 (bS ⟨l0, o2, o3, o4, o5, o6, o7, Or.inl ⟨1, nI s2, one0, rfl, rfl, rfl, Or.inr ⟨one0, _, hM2 _, rfl, rfl, rfl⟩⟩⟩)))
        · have hP : fX9_readPeople code wr (nI n) (nI k) (nI s) (nI en) num t (nI np) 1 = some (1, code, wr, nI 3, nI s2, nI en2, nI np2, nI np2) := by
            unfold fX9_readPeople
            rw [if_neg one0, hC, obs, if_neg one0, hC2, obs]
          exact bLb hP (bRb (hM _ _) (bRn one0 (bS ⟨l0, o2, o3, o4, o5, o6, o7, Or.inr ⟨one0, one0, rfl, rfl, ⟨np2, 0, nb, na, p2, hnl, hnb, hna, rfl, rfl, rfl, rfl, hd, fun j hj => absurd hj (Nat.not_lt_zero j)⟩, en2, k6, s6, en6, v6, rfl, T6, by omega, hM2 _⟩⟩)))
    · have hP : fX9_readPeople code wr (nI n) (nI k) (nI s) (nI en) num t (nI np) 0 = some (0, 2, nI s, nI k, nI s, nI en, num, nI np) := by
        unfold fX9_readPeople
        rw [if_pos rfl]
        rfl
      exact bLb hP (bRb stF (bRp rfl (bS ⟨o1, o2, o3, o4, o5, o6, o7, Or.inl ⟨2, nI s, (by decide), rfl, rfl, rfl, Or.inl ⟨rfl, rfl, rfl⟩⟩⟩)))
end
/-- what is read, when all is lifted -/
def LQ (nl np : Nat) (fi se co one other cost : Nat → Int32) : Prop := ∀ j : Nat, j < nl → ∃ a b c : Nat, a < np ∧ b < np ∧ a ≠ b ∧ c ≤ 999 ∧ fi j = nI a ∧ se j = nI b ∧ co j = nI c ∧ one j = nI a ∧ other j = nI b ∧ cost j = nI c
theorem tl_bg24 {told : Nat → Int32} {np : Nat} {un : Int32} {isv : Nat → Int32} (hnp : np ≤ 10) (hT : told 0 = nI np) : ∀ (f y : Nat) (p : Nat → Int32), y ≤ np → np - y < f → p 0 = nI 0 → (∀ i, i < y → fX11_isIn (p (4 + i)) (nI i) = 1) → tG (fun r => r.1 = 0 ∧ gNow np r.2.1 0 ∧ r.2.2 0 = 0 ∧ r.2.2 1 = 0) (fX11_begins_b24 told f (nI y) un p isv) := by
  intro f
  induction f with
  | zero => intro y p h1 h2; omega
  | succ f ih =>
    intro y p h1 h2 h3 h4
    rw [fX11_begins_b24_s, hT]
    rcases Nat.lt_or_ge y np with c | c
    · rw [if_neg (nI_ge c (by omega)), show (4 : Int32) + nI y = nI (4 + y) from nI_add 4 y, nI_1, nI_clamp (by omega)]
      refine tgD (vkn (by omega) (by omega)) ?_
      refine ih (y + 1) _ (by omega) (by omega) ?_ (fun i hi => ?_)
      · rw [pk_un (by omega)]
        exact h3
      · by_cases e : i = y
        · subst e
          rw [pk_us]
          exact own1 i (by omega)
        · rw [pk_un (by omega)]
          exact h4 i (by omega)
    · have e : y = np := by omega
      subst e
      rw [if_pos (nI_le (Nat.le_refl _) (by omega))]
      unfold fX11_begins_b51
      refine tgS ⟨rfl, ⟨⟨0, by decide, h3⟩, fun i hi => ?_⟩, ?_, ?_⟩
      · show fX11_isIn (p (0 + 4 + i)) (nI i) = 1
        rw [Nat.zero_add]
        exact h4 i hi
      · show upd (upd isv 0 (vp_nar .boolean 0)) 1 (vp_nar .boolean 0) 0 = 0
        rw [pk_un (by decide), pk_us]
        rfl
      · show upd (upd isv 0 (vp_nar .boolean 0)) 1 (vp_nar .boolean 0) 1 = 0
        rw [pk_us]
        rfl
theorem tl_bg2 {told : Nat → Int32} {np : Nat} {un : Int32} {isv : Nat → Int32} (hnp : np ≤ 10) (hT : told 0 = nI np) : ∀ (f y : Nat) (p : Nat → Int32), y ≤ 514 → 514 - y < f → (0 < y → p 0 = nI 0) → tG (fun r => r.1 = 0 ∧ gNow np r.2.1 0 ∧ r.2.2 0 = 0 ∧ r.2.2 1 = 0) (fX11_begins_b2 told f (nI y) un p isv) := by
  intro f
  induction f with
  | zero => intro y p h1 h2; omega
  | succ f ih =>
    intro y p h1 h2 h3
    rw [fX11_begins_b2_s]
    rcases Nat.lt_or_ge y 514 with c | c
    · rw [if_neg (show ¬ (514 : Int32) ≤ nI y from nI_ge (b := 514) c (by omega)), nI_1, nI_clamp (by omega)]
      refine tgD (vkn (by omega) (by omega)) ?_
      refine ih (y + 1) _ (by omega) (by omega) (fun _ => ?_)
      rcases Nat.eq_zero_or_pos y with rfl | hy
      · exact pk_us
      · rw [pk_un (by omega)]
        exact h3 hy
    · have e : y = 514 := by omega
      subst e
      rw [if_pos (show (514 : Int32) ≤ nI 514 from nI_le (a := 514) (Nat.le_refl _) (by decide))]
      exact tl_bg24 hnp hT FU 0 p (Nat.zero_le _) (by have := FUge; omega) (h3 (by decide)) (fun i hi => absurd hi (Nat.not_lt_zero i))
theorem t_begins {told : Nat → Int32} {np : Nat} {un : Int32} {now isv : Nat → Int32} (hnp : np ≤ 10) (hT : told 0 = nI np) : tG (fun r => r.1 = 0 ∧ gNow np r.2.1 0 ∧ r.2.2 0 = 0 ∧ r.2.2 1 = 0) (fX11_begins un now told isv) := by
  unfold fX11_begins
  exact tl_bg2 hnp hT FU 0 now (by decide) (by have := FUge; omega) (fun h => absurd h (Nat.not_lt_zero _))
def PE (th le : Int32) (np nl nb na : Nat) (fi se co : Nat → Int32) (eA : Int32) (rm : Int32 × Int32 × Int32 × Int32 × Int32 × Int32 × Int32 × Int32 × Int32 × Int32 × Int32 × Int32 × Int32 × (Nat → Int32) × (Nat → Int32) × (Nat → Int32) × (Nat → Int32) × (Nat → Int32) × (Nat → Int32) × (Nat → Int32) × (Nat → Int32) × (Nat → Int32)) : Prop := (rm.1) = 0 ∧ (rm.2.1) = th ∧ (rm.2.2.1) = le ∧ (rm.2.2.2.2.2.2.2.2.2.1) = eA ∧ (rm.2.2.2.2.2.2.2.2.2.2.2.2.1) = 0 ∧ gNow np (rm.2.2.2.2.2.2.2.2.2.2.2.2.2.1) 0 ∧ hTold (rm.2.2.2.2.2.2.2.2.2.2.2.2.2.2.1) np nl nb na ∧ LQ nl np fi se co (rm.2.2.2.2.2.2.2.2.2.2.2.2.2.2.2.1) (rm.2.2.2.2.2.2.2.2.2.2.2.2.2.2.2.2.1) (rm.2.2.2.2.2.2.2.2.2.2.2.2.2.2.2.2.2.2.1) ∧ (rm.2.2.2.2.2.2.2.2.2.2.2.2.2.2.2.2.2.2.2.2.2) 0 = 0 ∧ (rm.2.2.2.2.2.2.2.2.2.2.2.2.2.2.2.2.2.2.2.2.2) 1 = 0
theorem endR {np nl nb na : Nat} {told one other forth cost broken away now isv fi se co : Nat → Int32} (hnp : np ≤ 10) (hnl : nl ≤ 24) (hT : dT told np nl nb na) (hL : LR nl np fi se co one other cost) {th le ts st nx tk va eA nu isF un : Int32} : tG (PE th le np nl nb na fi se co eA) (fX11_parse_b106 1 th le ts st nx tk va 0 eA nu isF un now told one other forth cost broken away isv) := by
  obtain ⟨r1, a1, b1⟩ := t_lifts (N := 8) (by decide) told
  obtain ⟨r2, a2, b2⟩ := t_lifts (N := 48) (by decide) one
  obtain ⟨r3, a3, b3⟩ := t_lifts (N := 48) (by decide) other
  obtain ⟨r4, a4, b4⟩ := t_lifts (N := 48) (by decide) forth
  obtain ⟨r5, a5, b5⟩ := t_lifts (N := 48) (by decide) cost
  obtain ⟨r6, a6, b6⟩ := t_lifts (N := 72) (by decide) broken
  obtain ⟨r7, a7, b7⟩ := t_lifts (N := 72) (by decide) away
  have hl : fX11_liftsAll told one other forth cost broken away = some (r1, r2, r3, r4, r5, r6, r7) := by
    unfold fX11_liftsAll
    rw [a1, obs, a2, obs, a3, obs, a4, obs, a5, obs, a6, obs, a7, obs]
  obtain ⟨t4, t5, t6, t7⟩ := hT
  have u0 : r1 0 = nI np := by rw [b1, if_pos (by decide)]; exact t4
  have u1 : r1 1 = nI nl := by rw [b1, if_pos (by decide)]; exact t5
  have u2 : r1 2 = nI nb := by rw [b1, if_pos (by decide)]; exact t6
  have u3 : r1 3 = nI na := by rw [b1, if_pos (by decide)]; exact t7
  have hq : LQ nl np fi se co r2 r3 r5 := fun j hj => by
    obtain ⟨a, b, c, h1, h2, h3, h4, h5, h6, h7, h8, h9, h10⟩ := hL j hj
    refine ⟨a, b, c, h1, h2, h3, h4, h5, h6, h7, ?_, ?_, ?_⟩
    · rw [b2, if_pos (by omega)]; exact h8
    · rw [b3, if_pos (by omega)]; exact h9
    · rw [b5, if_pos (by omega)]; exact h10
  unfold fX11_parse_b106
  rw [if_neg one0, hl, obs]
  refine tgC (t_begins (un := un) (now := now) (isv := isv) hnp u0) (fun u hu => ?_)
  obtain ⟨g1, g2, g3, g4⟩ := hu
  exact tgS ⟨rfl, rfl, rfl, rfl, g1, g2, ⟨u0, u1, u2, u3⟩, hq, g3, g4⟩
theorem b72_0 {t : Nat → Int32} {g : Nat} (hg : 0 < g) {th le ts st nx tk va er eA nu isF un : Int32} {now told one other forth cost broken away isv : Nat → Int32} : fX11_parse_b72 t g 0 th le ts st nx tk va er eA nu isF un now told one other forth cost broken away isv = some (er, th, le, ts, st, nx, tk, va, er, eA, nu, isF, un, now, told, one, other, forth, cost, broken, away, isv) := by
  obtain ⟨g, rfl⟩ : ∃ k, g = k + 1 := ⟨g - 1, by omega⟩
  rw [fX11_parse_b72_s, if_pos rfl]
  unfold fX11_parse_b106
  rw [if_pos rfl]
theorem hLo_t {N : Nat} {f g h : Nat → Int32} (a : hLo N f g) (b : hLo N g h) : hLo N f h := fun j hj => (a j hj).trans (b j hj)
/-- how both come out of a text -/
def PO (un : Int32) (now isv told one other forth cost broken away : Nat → Int32) (rc : Int32 × Int32 × Int32 × Int32 × Int32 × Int32 × Int32 × Int32 × Int32 × Int32 × Int32 × (Nat → Int32) × (Nat → Int32) × (Nat → Int32) × (Nat → Int32) × Int32 × (Nat → Int32) × (Nat → Int32) × (Nat → Int32) × Int32 × (Nat → Int32) × (Nat → Int32) × (Nat → Int32)) (rm : Int32 × Int32 × Int32 × Int32 × Int32 × Int32 × Int32 × Int32 × Int32 × Int32 × Int32 × Int32 × Int32 × (Nat → Int32) × (Nat → Int32) × (Nat → Int32) × (Nat → Int32) × (Nat → Int32) × (Nat → Int32) × (Nat → Int32) × (Nat → Int32) × (Nat → Int32)) : Prop :=
  (rc.2.1) = 0 ∧ (rc.1) = (rm.1) ∧ (rc.2.2.2.1) = (rm.2.2.2.2.2.2.2.2.2.1) ∧ (rm.2.1) = 0 ∧ (rm.2.2.1) = 0 ∧
  ((¬ (rc.1) = 0 ∧ (rm.2.2.2.2.2.2.2.2.2.2.2.2.1) = un ∧ (rm.2.2.2.2.2.2.2.2.2.2.2.2.2.1) = now ∧ (rm.2.2.2.2.2.2.2.2.2.2.2.2.2.2.2.2.2.2.2.2.2) = isv ∧ hLo 4 (rm.2.2.2.2.2.2.2.2.2.2.2.2.2.2.1) told ∧ hLo 24 (rm.2.2.2.2.2.2.2.2.2.2.2.2.2.2.2.1) one ∧ hLo 24 (rm.2.2.2.2.2.2.2.2.2.2.2.2.2.2.2.2.1) other ∧ hLo 24 (rm.2.2.2.2.2.2.2.2.2.2.2.2.2.2.2.2.2.1) forth ∧ hLo 24 (rm.2.2.2.2.2.2.2.2.2.2.2.2.2.2.2.2.2.2.1) cost ∧ hLo 36 (rm.2.2.2.2.2.2.2.2.2.2.2.2.2.2.2.2.2.2.2.1) broken ∧ hLo 36 (rm.2.2.2.2.2.2.2.2.2.2.2.2.2.2.2.2.2.2.2.2.1) away) ∨
   ((rc.1) = 0 ∧ ∃ np nl nb na : Nat, np ≤ 10 ∧ nl ≤ 24 ∧ nb ≤ 12 ∧ na ≤ 12 ∧ (rc.2.2.2.2.2.2.2.2.2.1) = nI np ∧ (rc.2.2.2.2.2.2.2.2.2.2.1) = nI nl ∧ (rc.2.2.2.2.2.2.2.2.2.2.2.2.2.2.2.1) = nI nb ∧ (rc.2.2.2.2.2.2.2.2.2.2.2.2.2.2.2.2.2.2.2.1) = nI na ∧ PE 0 0 np nl nb na (rc.2.2.2.2.2.2.2.2.2.2.2.1) (rc.2.2.2.2.2.2.2.2.2.2.2.2.1) (rc.2.2.2.2.2.2.2.2.2.2.2.2.2.1) (rm.2.2.2.2.2.2.2.2.2.1) rm))
section
variable {n : Nat} {t : Nat → Int32}
theorem rx_loop (hn : n ≤ 500) (hB : hBy t) {un : Int32} {now isv told one other forth cost broken away : Nat → Int32} : ∀ (f g y e k s en np nl nb na : Nat) (v kd st num num2 isF : Int32) (fi se co ow bw bf bu aw af au tl ol rl fl cl bl al : Nat → Int32), Tok n t e k s en v → y ≤ e → n - e < f → n - e + 1 < g → np ≤ 10 → nl ≤ 24 → nb ≤ 12 → na ≤ 12 → dT tl np nl nb na → LR nl np fi se co ol rl cl → hLo 4 tl told → hLo 24 ol one → hLo 24 rl other → hLo 24 fl forth → hLo 24 cl cost → hLo 36 bl broken → hLo 36 al away → ((y = 0 ∧ isF = 1 ∧ nl = 0) ∨ (0 < y ∧ isF = 0)) → bT (PO un now isv told one other forth cost broken away) (fX9_readExchange_b41 t f (nI y) 0 0 (-1) (nI n) kd st (nI e) num (nI np) (nI nl) fi se co ow (nI nb) bw bf bu (nI na) aw af au) (fX11_parse_b72 t g 1 0 0 (nI n) (nI s) (nI en) (nI k) v 0 (-1) num2 isF un now tl ol rl fl cl bl al isv) := by
  intro f
  induction f with
  | zero => intro g y e k s en np nl nb na v kd st num num2 isF fi se co ow bw bf bu aw af au tl ol rl fl cl bl al T h1 h2; omega
  | succ f ih =>
    intro g y e k s en np nl nb na v kd st num num2 isF fi se co ow bw bf bu aw af au tl ol rl fl cl bl al T h1 h2 h3 hnp hnl hnb hna hT hL kk0 kk1 kk2 kk3 kk4 kk5 kk6 hF
    obtain ⟨g, rfl⟩ : ∃ q, g = q + 1 := ⟨g - 1, by omega⟩
    obtain ⟨hk4, hes, hsen, hen, hken, -, -, hNT, -⟩ := id T
    rw [fX9_readExchange_b41_s, fX11_parse_b72_s]
    refine bRn one0 ?_
    rcases Nat.eq_zero_or_pos k with hk | hk
    · subst hk
      refine bRp rfl (bRt (endR hnp hnl hT hL) (fun rm hrm => ?_))
      obtain ⟨q1, q2, q3, q4, q5⟩ := id hrm
      have hfin : ∀ a5 a6 a7 a8 a9, bT (PO un now isv told one other forth cost broken away) (some (0, 0, 0, -1, a5, a6, a7, a8, a9, nI np, nI nl, fi, se, co, ow, nI nb, bw, bf, bu, nI na, aw, af, au)) (some rm) := fun a5 a6 a7 a8 a9 => bS ⟨rfl, q1.symm, q4.symm, q2, q3, Or.inr ⟨rfl, np, nl, nb, na, hnp, hnl, hnb, hna, rfl, rfl, rfl, rfl, (by rw [q4]; exact hrm)⟩⟩
      by_cases c : (500 : Int32) ≤ nI y
      · refine bLp c ?_
        unfold fX9_readExchange_b86
        exact hfin _ _ _ _ _
      · refine bLn c (bLb hNT (bLp rfl ?_))
        unfold fX9_readExchange_b75
        exact hfin _ _ _ _ _
    · have hlt := hken (by omega)
      have hkn : ¬ nI k = 0 := nI_ne0 hk (by omega)
      refine bRn hkn (bLn (show ¬ (500 : Int32) ≤ nI y from nI_ge (b := 500) (by omega) (by decide)) (bLb hNT (bLn hkn ?_)))
      have hx : (isF = 1 ∧ nl = 0) ∨ isF = 0 := by
        rcases hF with ⟨_, z2, z3⟩ | ⟨_, z2⟩
        · exact Or.inl ⟨z2, z3⟩
        · exact Or.inr z2
      have key : bT (PO un now isv told one other forth cost broken away) (fX9_readExchange_b69 t (fX9_readExchange_b41 t f) (nI y) isF 0 0 (-1) (nI n) (nI k) (nI s) (nI en) num (nI np) (nI nl) fi se co ow (nI nb) bw bf bu (nI na) aw af au) ((fX11_statement (nI n) (nI s) (nI en) (nI k) v 0 (-1) num2 isF tl ol rl fl cl bl al t).bind (fun u24 => if u24.1 = 0 then (fX11_parse_b72 t g) 0 0 0 (nI n) u24.2.1 u24.2.2.1 u24.2.2.2.1 u24.2.2.2.2.1 u24.2.2.2.2.2.1 u24.2.2.2.2.2.2.1 u24.2.2.2.2.2.2.2.1 isF un now u24.2.2.2.2.2.2.2.2.1 u24.2.2.2.2.2.2.2.2.2.1 u24.2.2.2.2.2.2.2.2.2.2.1 u24.2.2.2.2.2.2.2.2.2.2.2.1 u24.2.2.2.2.2.2.2.2.2.2.2.2.1 u24.2.2.2.2.2.2.2.2.2.2.2.2.2.1 u24.2.2.2.2.2.2.2.2.2.2.2.2.2.2 isv else (fX11_closes (nI n) u24.2.1 u24.2.2.1 u24.2.2.2.1 u24.2.2.2.2.1 u24.2.2.2.2.2.1 u24.2.2.2.2.2.2.1 t).bind (fun u28 => if u28.1 = 0 then (fX11_parse_b72 t g) 0 0 0 (nI n) u28.2.1 u28.2.2.1 u28.2.2.2.1 u28.2.2.2.2.1 u28.2.2.2.2.2.1 u28.2.2.2.2.2.2.1 u24.2.2.2.2.2.2.2.1 u28.2.2.2.2.2.2.2 un now u24.2.2.2.2.2.2.2.2.1 u24.2.2.2.2.2.2.2.2.2.1 u24.2.2.2.2.2.2.2.2.2.2.1 u24.2.2.2.2.2.2.2.2.2.2.2.1 u24.2.2.2.2.2.2.2.2.2.2.2.2.1 u24.2.2.2.2.2.2.2.2.2.2.2.2.2.1 u24.2.2.2.2.2.2.2.2.2.2.2.2.2.2 isv else (fX11_parse_b72 t g) 1 0 0 (nI n) u28.2.1 u28.2.2.1 u28.2.2.2.1 u28.2.2.2.2.1 u28.2.2.2.2.2.1 u28.2.2.2.2.2.2.1 u24.2.2.2.2.2.2.2.1 u28.2.2.2.2.2.2.2 un now u24.2.2.2.2.2.2.2.2.1 u24.2.2.2.2.2.2.2.2.2.1 u24.2.2.2.2.2.2.2.2.2.2.1 u24.2.2.2.2.2.2.2.2.2.2.2.1 u24.2.2.2.2.2.2.2.2.2.2.2.2.1 u24.2.2.2.2.2.2.2.2.2.2.2.2.2.1 u24.2.2.2.2.2.2.2.2.2.2.2.2.2.2 isv))) := by
        unfold fX9_readExchange_b69
        refine bBB (stm_eq (code := 0) (wr := -1) (eA := -1) hn hB T hk hnp hnl hnb hna hT hL hx) ?_
        intro rc um h
        obtain ⟨l0, l1, l2, l3, l4, l5, l6, hcl⟩ := h
        rcases hcl with ⟨c, p, hc, r1, r2, r3, hm⟩ | ⟨r1, m1, r2, r3, ⟨np2, nl2, nb2, na2, j1, j2, j3, j4, j5, j6, j7, j8, j9, j10⟩, e2, k2, s2, en2, v2, r6, T2, lt, hcs⟩
        · refine bLp r1 ?_
          unfold fX9_readExchange_b75
          rcases hm with ⟨m1, m6, m7⟩ | ⟨m1, uc, hu, u1, u6, u7⟩
          · refine bRp m1 ?_
            rw [b72_0 (by omega)]
            exact bS ⟨rfl, r2.trans m6.symm, r3.trans m7.symm, rfl, rfl, Or.inl ⟨fun z => hc (r2.symm.trans z), rfl, rfl, rfl, hLo_t l0 kk0, hLo_t l1 kk1, hLo_t l2 kk2, hLo_t l3 kk3, hLo_t l4 kk4, hLo_t l5 kk5, hLo_t l6 kk6⟩⟩
          · refine bRn m1 (bRb hu (bRp u1 ?_))
            rw [b72_0 (by omega)]
            exact bS ⟨rfl, r2.trans u6.symm, r3.trans u7.symm, rfl, rfl, Or.inl ⟨fun z => hc (r2.symm.trans z), rfl, rfl, rfl, hLo_t l0 kk0, hLo_t l1 kk1, hLo_t l2 kk2, hLo_t l3 kk3, hLo_t l4 kk4, hLo_t l5 kk5, hLo_t l6 kk6⟩⟩
        · refine bLn r1 (bRn m1 (bRb hcs (bRn one0 ?_)))
          rw [r2, r3, r6, j5, j6, j7, j8, nI_1]
          exact ih g (y + 1) e2 k2 s2 en2 np2 nl2 nb2 na2 v2 _ _ _ _ _ _ _ _ _ _ _ _ _ _ _ _ _ _ _ _ _ _ T2 (by omega) (by omega) (by omega) j1 j2 j3 j4 j9 j10 (hLo_t l0 kk0) (hLo_t l1 kk1) (hLo_t l2 kk2) (hLo_t l3 kk3) (hLo_t l4 kk4) (hLo_t l5 kk5) (hLo_t l6 kk6) (Or.inr ⟨by omega, rfl⟩)
      rcases hF with ⟨z1, z2, z3⟩ | ⟨z1, z2⟩
      · refine bLp (by rw [z1]; rfl) ?_
        rw [z2] at key ⊢
        exact key
      · refine bLn (nI_ne0 z1 (by omega)) ?_
        rw [z2] at key ⊢
        exact key
theorem px_eq {L x : Nat} (hx : x ≤ L) (hL : L ≤ 500) (hB : hBy t) {kd st num th2 ts st2 nx tk va er eA nu isF un : Int32} {fi se co ow bw bf bu aw af au now isv told one other forth cost broken away : Nat → Int32} : bT (PO un now isv told one other forth cost broken away) (fX9_readExchange (nI L) kd st num t fi se co ow bw bf bu aw af au (nI x)) (fX11_parse (nI L) ts st2 nx tk va er eA nu isF un now told one other forth cost broken away t isv (nI x)) := by
  have hF := FUge
  have hn : x ≤ 500 := by omega
  unfold fX9_readExchange fX11_parse
  have hw : ¬ fX11_within (nI x) 0 (nI L) = 0 := by
    unfold fX11_within
    rw [if_neg (nI_pos (by omega)), if_neg (nI_nlt hx (by omega))]
    decide
  refine bRn hw ?_
  unfold fX11_parse_b23
  refine bRm (show fX11_throwsIf 0 0 1 = (0, 0) from rfl) (bRp rfl ?_)
  refine bRb (show fX11_clearDraft told = some (upd (upd (upd (upd told 4 4) 5 0) 6 0) 7 0) from rfl) ?_
  obtain ⟨k, s, en, v, T⟩ := tk_tok hn hB (Nat.zero_le x)
  have hA := T.2.2.2.2.2.2.2.2
  refine bRb (hA _ _ _) ?_
  have e1 : (if nI L < nI x then nI L else nI x) = nI x := if_neg (nI_nlt hx (by omega))
  rw [e1]
  refine bLm (bLm ?_)
  refine rx_loop hn hB FU FU 0 0 k s en 4 0 0 0 v _ _ _ _ 1 _ _ _ _ _ _ _ _ _ _ _ _ _ _ _ _ _ T (Nat.le_refl _) (by omega) (by omega) (by decide) (by decide) (by decide) (by decide) ?_ (fun j hj => absurd hj (Nat.not_lt_zero j)) ?_ hLo_r hLo_r hLo_r hLo_r hLo_r hLo_r (Or.inl ⟨rfl, rfl, rfl⟩)
  · refine ⟨?_, ?_, ?_, ?_⟩
    · rw [pk_un (by decide), pk_un (by decide), pk_un (by decide), pk_us]; rfl
    · rw [pk_un (by decide), pk_un (by decide), pk_us]; rfl
    · rw [pk_un (by decide), pk_us]; rfl
    · rw [pk_us]; rfl
  · exact hLo_u (hLo_u (hLo_u (hLo_u hLo_r (by decide)) (by decide)) (by decide)) (by decide)
end
