/-! a statement, read by both -/
def bT {α β : Type} (R : α → β → Prop) (a : Option α) (b : Option β) : Prop := ∃ u v, a = some u ∧ b = some v ∧ R u v
section
variable {α β γ δ : Type} {R : α → β → Prop}
theorem bS {u : α} {v : β} (h : R u v) : bT R (some u) (some v) := ⟨u, v, rfl, rfl, h⟩
theorem bLb {a : Option γ} {f : γ → Option α} {u : γ} {b : Option β} (h : a = some u) (k : bT R (f u) b) : bT R (a.bind f) b := by
  rw [h]
  exact k
theorem bRb {a : Option α} {u : γ} {b : Option γ} {f : γ → Option β} (h : b = some u) (k : bT R a (f u)) : bT R a (b.bind f) := by
  rw [h]
  exact k
theorem bLp {c : Prop} [Decidable c] {x y : Option α} {b : Option β} (h : c) (k : bT R x b) : bT R (if c then x else y) b := by
  rw [if_pos h]
  exact k
theorem bLn {c : Prop} [Decidable c] {x y : Option α} {b : Option β} (h : ¬ c) (k : bT R y b) : bT R (if c then x else y) b := by
  rw [if_neg h]
  exact k
theorem bRp {c : Prop} [Decidable c] {a : Option α} {x y : Option β} (h : c) (k : bT R a x) : bT R a (if c then x else y) := by
  rw [if_pos h]
  exact k
theorem bRn {c : Prop} [Decidable c] {a : Option α} {x y : Option β} (h : ¬ c) (k : bT R a y) : bT R a (if c then x else y) := by
  rw [if_neg h]
  exact k
theorem bLd {i : Int32} {N : Nat} {a : Option α} {b : Option β} (h : vp_in i N) (k : bT R a b) : bT R (gd i N a) b := by
  rw [gdI h]
  exact k
theorem bRd {i : Int32} {N : Nat} {a : Option α} {b : Option β} (h : vp_in i N) (k : bT R a b) : bT R a (gd i N b) := by
  rw [gdI h]
  exact k
theorem bLm {x : γ} {f : γ → Option α} {b : Option β} (k : bT R (f x) b) : bT R (nm x f) b := k
theorem bRm {x y : γ} {a : Option α} {f : γ → Option β} (h : x = y) (k : bT R a (f y)) : bT R a (nm x f) := by
  rw [h]
  exact k
theorem bBB {R' : γ → δ → Prop} {a : Option γ} {b : Option δ} {f : γ → Option α} {g : δ → Option β} (h : bT R' a b) (k : ∀ u v, R' u v → bT R (f u) (g v)) : bT R (a.bind f) (b.bind g) := by
  obtain ⟨u, v, h1, h2, h3⟩ := h
  rw [h1, h2]
  exact k u v h3
end
theorem hc0 {c : Int32} (h : c = 1 ∨ c = 3) : ¬ c = 0 := by
  rcases h with rfl | rfl <;> decide
def ClO (n : Nat) (t : Nat → Int32) (e : Nat) (eA m1 m2 m3 m4 m5 m6 m7 r1 r2 r3 r6 code wr : Int32) (S : Prop) : Prop :=
  (∃ c p : Int32, ¬ c = 0 ∧ r1 = 0 ∧ r2 = c ∧ r3 = p ∧ ((m1 = 0 ∧ m6 = c ∧ m7 = p) ∨ (¬ m1 = 0 ∧ ∃ uc, fX11_closes (nI n) m2 m3 m4 m5 m6 m7 t = some uc ∧ uc.1 = 0 ∧ uc.2.2.2.2.2.1 = c ∧ uc.2.2.2.2.2.2.1 = p))) ∨
  (¬ r1 = 0 ∧ ¬ m1 = 0 ∧ r2 = code ∧ r3 = wr ∧ S ∧ ∃ (e2 k2 s2 en2 : Nat) (v2 : Int32), r6 = nI e2 ∧ Tok n t e2 k2 s2 en2 v2 ∧ e < e2 ∧ fX11_closes (nI n) m2 m3 m4 m5 m6 m7 t = some (1, nI s2, nI en2, nI k2, v2, 0, eA, 0))
theorem ClO.mono {n : Nat} {t : Nat → Int32} {e : Nat} {eA m1 m2 m3 m4 m5 m6 m7 r1 r2 r3 r6 code wr : Int32} {S S' : Prop} (h : ClO n t e eA m1 m2 m3 m4 m5 m6 m7 r1 r2 r3 r6 code wr S) (k : S → S') : ClO n t e eA m1 m2 m3 m4 m5 m6 m7 r1 r2 r3 r6 code wr S' := by
  rcases h with h | ⟨h1, h2, h3, h4, h5, h6⟩
  · exact Or.inl h
  · exact Or.inr ⟨h1, h2, h3, h4, k h5, h6⟩
theorem add_ln {nl : Nat} (h : nl < 24) {fi se co ow : Nat → Int32} {y1 y2 y3 y4 : Int32} : fX1_addLine (nI nl) fi se co ow y1 y2 y3 y4 = some (nI (nl + 1), upd fi nl y1, upd se nl y2, upd co nl y4, upd ow nl (vp_nar .boolean y3)) := by
  unfold fX1_addLine
  rw [if_pos (full24 h).1, gdI (vp_in_nI h (by decide)), nI_clamp (by omega), nI_1]
theorem add_sp {m : Nat} (h : m < 12) {w f u : Nat → Int32} {y1 y2 y3 : Int32} : fX8_add (nI m) w f u y1 y2 y3 = some (nI (m + 1), upd w m y1, upd f m y2, upd u m y3) := by
  unfold fX8_add
  rw [if_pos (full12 h).1, gdI (vp_in_nI h (by decide)), nI_clamp (by omega), nI_1]
theorem c24 {nl : Nat} (h : nl < 24) : ((24 : Int32) + nI nl).toNatClampNeg = 24 + nl := by
  rw [show (24 : Int32) + nI nl = nI (24 + nl) from nI_add 24 nl, nI_clamp (by omega)]
theorem v24 {nl : Nat} (h : nl < 24) : vp_in ((24 : Int32) + nI nl) 48 := by
  rw [show (24 : Int32) + nI nl = nI (24 + nl) from nI_add 24 nl]
  exact vp_in_nI (by omega) (by decide)
theorem LRs {nl np a b c : Nat} {fi se co one other cost : Nat → Int32} (h : LR nl np fi se co one other cost) (ha : a < np) (hb : b < np) (hab : a ≠ b) (hc : c ≤ 999) : LR (nl + 1) np (upd fi nl (nI a)) (upd se nl (nI b)) (upd co nl (nI c)) (upd one (24 + nl) (nI a)) (upd other (24 + nl) (nI b)) (upd cost (24 + nl) (nI c)) := by
  intro j hj
  by_cases e : j = nl
  · subst e
    exact ⟨a, b, c, ha, hb, hab, hc, pk_us, pk_us, pk_us, pk_us, pk_us, pk_us⟩
  · obtain ⟨a', b', c', h1, h2, h3, h4, h5, h6, h7, h8, h9, h10⟩ := h j (by omega)
    refine ⟨a', b', c', h1, h2, h3, h4, ?_, ?_, ?_, ?_, ?_, ?_⟩
    · rw [pk_un e]; exact h5
    · rw [pk_un e]; exact h6
    · rw [pk_un e]; exact h7
    · rw [pk_un (by omega)]; exact h8
    · rw [pk_un (by omega)]; exact h9
    · rw [pk_un (by omega)]; exact h10
section
variable {n : Nat} {t : Nat → Int32}
theorem ln_tail (hn : n ≤ 500) (hB : hBy t) {e en3 a b np nl nb na : Nat} (he : e < en3) (hen3 : en3 ≤ n) (hnp : np ≤ 10) (h24 : nl < 24) {told one other forth cost fi se co ow : Nat → Int32} (hT : dT told np nl nb na) (hL : LR nl np fi se co one other cost) (ha : a < np) (hb : b < np) (hab : a ≠ b) {y3 : Int32} {code wr eA num num2 s3 k3 v3 : Int32} : bT (fun rc um => hLo 4 (um.2.2.2.2.2.2.2.2.1) told ∧ hLo 24 (um.2.2.2.2.2.2.2.2.2.1) one ∧ hLo 24 (um.2.2.2.2.2.2.2.2.2.2.1) other ∧ hLo 24 (um.2.2.2.2.2.2.2.2.2.2.2.1) forth ∧ hLo 24 (um.2.2.2.2.2.2.2.2.2.2.2.2) cost ∧ ClO n t e eA (um.1) (um.2.1) (um.2.2.1) (um.2.2.2.1) (um.2.2.2.2.1) (um.2.2.2.2.2.1) (um.2.2.2.2.2.2.1) (rc.1) (rc.2.1) (rc.2.2.1) (rc.2.2.2.2.2.1) code wr (rc.2.2.2.2.2.2.2.1 = nI (nl + 1) ∧ nl + 1 ≤ 24 ∧ dT (um.2.2.2.2.2.2.2.2.1) np (nl + 1) nb na ∧ LR (nl + 1) np (rc.2.2.2.2.2.2.2.2.1) (rc.2.2.2.2.2.2.2.2.2.1) (rc.2.2.2.2.2.2.2.2.2.2.1) (um.2.2.2.2.2.2.2.2.2.1) (um.2.2.2.2.2.2.2.2.2.2.1) (um.2.2.2.2.2.2.2.2.2.2.2.2))) (fX9_readLine_b105 (nI n) t (nI a) (nI b) y3 code wr (nI en3) num (nI nl) fi se co ow) (fX11_lineLine_b124 (nI n) t (nI nl) y3 1 1 s3 (nI en3) k3 v3 0 eA num2 told (upd one (24 + nl) (nI a)) (upd other (24 + nl) (nI b)) forth cost) := by
  have lo1 : hLo 24 (upd one (24 + nl) (nI a)) one := hLo_u hLo_r (by omega)
  have lo2 : hLo 24 (upd other (24 + nl) (nI b)) other := hLo_u hLo_r (by omega)
  unfold fX9_readLine_b105 fX11_lineLine_b124
  obtain ⟨k4, s4, en4, v4, T4, hs4⟩ := stS hn hB hen3
  refine bRb (hs4 _ _ _ _ _) (bRn one0 ?_)
  rcases rd hn hB T4 0 999 with ⟨c, q, hc, hC, hM, _⟩ | ⟨rfl, b1, b2, hC, k5, s5, en5, v5, T5, hM⟩
  · exact bLb (hC _ _ _) (bLp rfl (bRb (ptF (hM _ _)) (bRp rfl (bS ⟨hLo_r, lo1, lo2, hLo_r, hLo_r, Or.inl ⟨c, nI s4, hc0 hc, rfl, rfl, rfl, Or.inl ⟨rfl, rfl, rfl⟩⟩⟩))))
  · obtain ⟨cc, -, hcc, rfl⟩ := rng (lo := 0) (hi := 999) (by decide) (by decide) b1 b2
    refine bLb (hC _ _ _) (bLn one0 (bLb (add_ln h24) ?_))
    refine bRb (ptS half48 rfl (by omega) (by decide) (hM _ _)) (bRn one0 ?_)
    obtain ⟨t4, t5, t6, t7⟩ := hT
    have hd : dT (upd told 5 (told 5 + 1)) np (nl + 1) nb na := by
      refine ⟨?_, ?_, ?_, ?_⟩
      · rw [pk_un (by decide)]; exact t4
      · rw [pk_us, t5, nI_1]
      · rw [pk_un (by decide)]; exact t6
      · rw [pk_un (by decide)]; exact t7
    have hl2 := LRs hL ha hb hab hcc
    have lo3 : hLo 24 (upd cost (24 + nl) (nI cc)) cost := hLo_u hLo_r (by omega)
    have lo0 : hLo 4 (upd told 5 (told 5 + 1)) told := hLo_u hLo_r (by decide)
    have lo4 : ∀ z : Int32, hLo 24 (upd forth (24 + nl) z) forth := fun z => hLo_u hLo_r (by omega)
    obtain ⟨-, -, g3, g4, -, -, -, -, -⟩ := id T5
    obtain ⟨-, f2, f3, f4, -, -, -, -, -⟩ := id T4
    rcases sc hn hB T5 with ⟨hC2, hM2⟩ | ⟨hC2, k6, s6, en6, v6, T6, lt6, hM2⟩
    · refine bLb (hC2 _ _) ?_
      by_cases c0 : y3 = 0
      · refine bRp c0 ?_
        unfold fX11_lineLine_b165
        exact bRd (v24 h24) (bS ⟨lo0, lo1, lo2, (by rw [c24 h24]; exact lo4 _), lo3, Or.inl ⟨1, nI s5, one0, rfl, rfl, rfl, Or.inr ⟨one0, _, hM2 _, rfl, rfl, rfl⟩⟩⟩)
      · refine bRn c0 ?_
        unfold fX11_lineLine_b165
        exact bRd (v24 h24) (bS ⟨lo0, lo1, lo2, (by rw [c24 h24]; exact lo4 _), lo3, Or.inl ⟨1, nI s5, one0, rfl, rfl, rfl, Or.inr ⟨one0, _, hM2 _, rfl, rfl, rfl⟩⟩⟩)
    · refine bLb (hC2 _ _) ?_
      by_cases c0 : y3 = 0
      · refine bRp c0 ?_
        unfold fX11_lineLine_b165
        exact bRd (v24 h24) (bS ⟨lo0, lo1, lo2, (by rw [c24 h24]; exact lo4 _), lo3, Or.inr ⟨one0, one0, rfl, rfl, ⟨rfl, h24, hd, hl2⟩, en5, k6, s6, en6, v6, rfl, T6, by omega, hM2 _⟩⟩)
      · refine bRn c0 ?_
        unfold fX11_lineLine_b165
        exact bRd (v24 h24) (bS ⟨lo0, lo1, lo2, (by rw [c24 h24]; exact lo4 _), lo3, Or.inr ⟨one0, one0, rfl, rfl, ⟨rfl, h24, hd, hl2⟩, en5, k6, s6, en6, v6, rfl, T6, by omega, hM2 _⟩⟩)
theorem ln_eq (hn : n ≤ 500) (hB : hBy t) {e k s en np nl nb na : Nat} {v : Int32} (T : Tok n t e k s en v) (hk : 0 < k) (hnp : np ≤ 10) (hnl : nl ≤ 24) {told one other forth cost fi se co ow : Nat → Int32} (hT : dT told np nl nb na) (hL : LR nl np fi se co one other cost) {code wr eA num num2 : Int32} : bT (fun rc um => hLo 4 (um.2.2.2.2.2.2.2.2.1) told ∧ hLo 24 (um.2.2.2.2.2.2.2.2.2.1) one ∧ hLo 24 (um.2.2.2.2.2.2.2.2.2.2.1) other ∧ hLo 24 (um.2.2.2.2.2.2.2.2.2.2.2.1) forth ∧ hLo 24 (um.2.2.2.2.2.2.2.2.2.2.2.2) cost ∧ ClO n t e eA (um.1) (um.2.1) (um.2.2.1) (um.2.2.2.1) (um.2.2.2.2.1) (um.2.2.2.2.2.1) (um.2.2.2.2.2.2.1) (rc.1) (rc.2.1) (rc.2.2.1) (rc.2.2.2.2.2.1) code wr (rc.2.2.2.2.2.2.2.1 = nI (nl + 1) ∧ nl + 1 ≤ 24 ∧ dT (um.2.2.2.2.2.2.2.2.1) np (nl + 1) nb na ∧ LR (nl + 1) np (rc.2.2.2.2.2.2.2.2.1) (rc.2.2.2.2.2.2.2.2.2.1) (rc.2.2.2.2.2.2.2.2.2.2.1) (um.2.2.2.2.2.2.2.2.2.1) (um.2.2.2.2.2.2.2.2.2.2.1) (um.2.2.2.2.2.2.2.2.2.2.2.2))) (fX9_readLine code wr (nI n) (nI k) (nI s) (nI en) num t (nI np) (nI nl) fi se co ow) (fX11_lineLine (nI n) (nI s) (nI en) (nI k) v 0 eA num2 told one other forth cost t) := by
  obtain ⟨hk4, hes, hsen, hen, hken, -, -, -, -⟩ := id T
  have hlt := hken (by omega)
  unfold fX9_readLine fX11_lineLine
  rw [hT.1, hT.2.1]
  rcases Nat.lt_or_ge nl 24 with h24 | h24
  · refine bLp (full24 h24).1 (bRn (full24 h24).2 ?_)
    unfold fX11_lineLine_b29
    obtain ⟨k1, s1, en1, v1, T1, hs1⟩ := stS hn hB hen
    refine bRb (hs1 _ _ _ _ _) (bRn one0 ?_)
    rcases rd hn hB T1 0 (nI np - 1) with ⟨c, q, hc, hC, hM, _⟩ | ⟨rfl, b1, b2, hC, k2, s2, en2, v2, T2, hM⟩
    · exact bLb (hC _ _ _) (bLp rfl (bRb (ptF (hM _ _)) (bRp rfl (bS ⟨hLo_r, hLo_r, hLo_r, hLo_r, hLo_r, Or.inl ⟨c, nI s1, hc0 hc, rfl, rfl, rfl, Or.inl ⟨rfl, rfl, rfl⟩⟩⟩))))
    · obtain ⟨a, ha, rfl⟩ := rng1 (by omega) b1 b2
      refine bLb (hC _ _ _) (bLn one0 ?_)
      refine bRb (ptS half48 rfl (by omega) (by decide) (hM _ _)) (bRn one0 ?_)
      have lo1 : hLo 24 (upd one (24 + nl) (nI a)) one := hLo_u hLo_r (by omega)
      obtain ⟨-, f2, f3, f4, -, -, -, -, -⟩ := id T1
      obtain ⟨-, g2, g3, g4, g5, -, -, -, -⟩ := id T2
      have eone : upd one (24 + nl) (nI a) ((24 : Int32) + nI nl).toNatClampNeg = nI a := by rw [c24 h24, pk_us]
      rcases rd hn hB T2 0 (nI np - 1) with ⟨c, q, hc, hC2, hM2, hr⟩ | ⟨rfl, d1, d2, hC2, k3, s3, en3, v3, T3, hM2⟩
      · refine bLb (hC2 _ _ _) (bLp rfl ?_)
        by_cases ck : k2 = 2
        · have hne : ¬ v2 = upd one (24 + nl) (nI a) ((24 : Int32) + nI nl).toNatClampNeg := by
            rw [eone]
            intro z
            rw [z] at hr
            rcases hr ck with h | h
            · exact b1 h
            · exact le_nlt b2 h
          refine bRp (by rw [ck]; rfl) (bRd (v24 h24) (bRn hne ?_))
          unfold fX11_lineLine_b81
          exact bRb (ptF (hM2 _ _)) (bRp rfl (bS ⟨hLo_r, lo1, hLo_r, hLo_r, hLo_r, Or.inl ⟨c, nI s2, hc0 hc, rfl, rfl, rfl, Or.inl ⟨rfl, rfl, rfl⟩⟩⟩))
        · refine bRn (fun (z : nI k2 = 2) => ck (i_eq32 (by have := T2.1; omega) (by decide) (show nI k2 = nI 2 from z))) ?_
          unfold fX11_lineLine_b81
          exact bRb (ptF (hM2 _ _)) (bRp rfl (bS ⟨hLo_r, lo1, hLo_r, hLo_r, hLo_r, Or.inl ⟨c, nI s2, hc0 hc, rfl, rfl, rfl, Or.inl ⟨rfl, rfl, rfl⟩⟩⟩))
      · obtain ⟨b, hb, rfl⟩ := rng1 (by omega) d1 d2
        refine bLb (hC2 _ _ _) (bLn one0 ?_)
        refine bRp rfl (bRd (v24 h24) ?_)
        by_cases hab : nI b = nI a
        · refine bLp hab (bLm ?_)
          exact bRp (hab.trans eone.symm) (bRm fl0 (bS ⟨hLo_r, lo1, hLo_r, hLo_r, hLo_r, Or.inl ⟨3, nI s2, (by decide), rfl, rfl, rfl, Or.inl ⟨rfl, rfl, rfl⟩⟩⟩))
        · refine bLn hab ?_
          refine bRn (fun z => hab (z.trans eone)) ?_
          unfold fX11_lineLine_b81
          refine bRb (ptS half48 rfl (by omega) (by decide) (hM2 _ _)) (bRn one0 ?_)
          have lo2 : hLo 24 (upd other (24 + nl) (nI b)) other := hLo_u hLo_r (by omega)
          have nab : a ≠ b := fun z => hab (by rw [z])
          obtain ⟨j1, j2, j3, j4, j5, -, -, j8, -⟩ := id T3
          refine bLb j8 ?_
          obtain ⟨r, hr, w1, w2⟩ := wd_eq (t := t) hn j1 j3 j4 (show 4 < 6 by decide)
          refine bLb w1 (bRb w2 ?_)
          rcases hr with rfl | rfl
          · refine bLp rfl (bRp rfl ?_)
            obtain ⟨r2, hr2, x1, x2⟩ := wd_eq (t := t) hn j1 j3 j4 (show 5 < 6 by decide)
            refine bLb x1 (bRb x2 ?_)
            rcases hr2 with rfl | rfl
            · refine bLp rfl (bRp rfl (bLm ?_))
              unfold fX11_lineLine_b124
              exact bRb stF (bRp rfl (bS ⟨hLo_r, lo1, lo2, hLo_r, hLo_r, Or.inl ⟨1, nI s3, one0, rfl, rfl, rfl, Or.inl ⟨rfl, rfl, rfl⟩⟩⟩))
            · refine bLn one0 (bRn one0 ?_)
              unfold fX11_lineLine_b119
              exact ln_tail hn hB (by omega) j4 hnp h24 hT hL ha hb nab
          · refine bLn one0 (bRn one0 ?_)
            unfold fX11_lineLine_b119
            exact ln_tail hn hB (by omega) j4 hnp h24 hT hL ha hb nab
  · refine bLn (full24n h24 (by omega)).1 (bLm ?_)
    refine bRp (full24n h24 (by omega)).2 ?_
    unfold fX11_lineLine_b29
    exact bRb stF (bRp rfl (bS ⟨hLo_r, hLo_r, hLo_r, hLo_r, hLo_r, Or.inl ⟨4, nI s, (by decide), rfl, rfl, rfl, Or.inl ⟨rfl, rfl, rfl⟩⟩⟩))
theorem sp_eq (hn : n ≤ 500) (hB : hBy t) {e k s en m M w : Nat} {v : Int32} (T : Tok n t e k s en v) (hk : 0 < k) (hm : m ≤ 12) (hM9 : M < 100) (hw : w = 2 ∨ w = 3) {told bank wh fr un : Nat → Int32} (hT : told (4 + w) = nI m) {code wr eA num num2 : Int32} : bT (fun rc um => hLo 4 (um.2.2.2.2.2.2.2.2.1) told ∧ hLo 36 (um.2.2.2.2.2.2.2.2.2) bank ∧ ClO n t e eA (um.1) (um.2.1) (um.2.2.1) (um.2.2.2.1) (um.2.2.2.2.1) (um.2.2.2.2.2.1) (um.2.2.2.2.2.2.1) (rc.1) (rc.2.1) (rc.2.2.1) (rc.2.2.2.2.2.1) code wr (rc.2.2.2.2.2.2.2.1 = nI (m + 1) ∧ m + 1 ≤ 12 ∧ um.2.2.2.2.2.2.2.2.1 = upd told (4 + w) (nI (m + 1)))) (fX9_readSpan code wr (nI n) (nI k) (nI s) (nI en) num t (nI m) wh fr un (nI M)) (fX11_span 72 (nI n) (nI s) (nI en) (nI k) v 0 eA num2 told t bank (nI w) (nI M)) := by
  obtain ⟨hk4, hes, hsen, hen, hken, -, -, -, -⟩ := id T
  have hlt := hken (by omega)
  have e4 : (4 : Int32) + nI w = nI (4 + w) := nI_add 4 w
  have v4 : vp_in ((4 : Int32) + nI w) 8 := by
    rw [e4]
    exact vp_in_nI (by omega) (by decide)
  have c4 : ((4 : Int32) + nI w).toNatClampNeg = 4 + w := by rw [e4, nI_clamp (by omega)]
  have et : told ((4 : Int32) + nI w).toNatClampNeg = nI m := by rw [c4]; exact hT
  unfold fX9_readSpan fX11_span
  refine bRd v4 ?_
  rw [et]
  rcases Nat.lt_or_ge m 12 with h12 | h12
  · refine bLp (full12 h12).1 (bRn (full12 h12).2 ?_)
    unfold fX11_span_b24
    obtain ⟨k1, s1, en1, v1, T1, hs1⟩ := stS hn hB hen
    refine bRb (hs1 _ _ _ _ _) (bRn one0 ?_)
    rcases rd hn hB T1 0 (nI M - 1) with ⟨c, q, hc, hC, hM, _⟩ | ⟨rfl, b1, b2, hC, k2, s2, en2, v2, T2, hM⟩
    · exact bLb (hC _ _ _) (bLp rfl (bRb (ptF (hM _ _)) (bRp rfl (bS ⟨hLo_r, hLo_r, Or.inl ⟨c, nI s1, hc0 hc, rfl, rfl, rfl, Or.inl ⟨rfl, rfl, rfl⟩⟩⟩))))
    · refine bLb (hC _ _ _) (bLn one0 ?_)
      refine bRb (ptS half72 (pk_mul 3 m) (by omega) (by decide) (hM _ _)) (bRn one0 ?_)
      have lo1 : hLo 36 (upd bank (36 + 3 * m) v1) bank := hLo_u hLo_r (by omega)
      obtain ⟨-, f2, f3, f4, -, -, -, -, -⟩ := id T1
      obtain ⟨-, g2, g3, g4, g5, -, -, -, -⟩ := id T2
      rcases rd hn hB T2 1 999 with ⟨c, q, hc, hC2, hM2, _⟩ | ⟨rfl, d1, d2, hC2, k3, s3, en3, v3, T3, hM2⟩
      · exact bLb (hC2 _ _ _) (bLp rfl (bRb (ptF (hM2 _ _)) (bRp rfl (bS ⟨hLo_r, lo1, Or.inl ⟨c, nI s2, hc0 hc, rfl, rfl, rfl, Or.inl ⟨rfl, rfl, rfl⟩⟩⟩))))
      · refine bLb (hC2 _ _ _) (bLn one0 ?_)
        refine bRb (ptS half72 (nadd (a := 3 * m) (b := 1) (pk_mul 3 m) rfl) (by omega) (by decide) (hM2 _ _)) (bRn one0 ?_)
        have lo2 : hLo 36 (upd (upd bank (36 + 3 * m) v1) (36 + (3 * m + 1)) v2) bank := hLo_u lo1 (by omega)
        obtain ⟨-, j2, j3, j4, -, -, -, -, -⟩ := id T3
        rcases rd hn hB T3 v2 999 with ⟨c, q, hc, hC3, hM3, _⟩ | ⟨rfl, x1, x2, hC3, k4, s4, en4, v5, T4, hM3⟩
        · exact bLb (hC3 _ _ _) (bLp rfl (bRb (ptF (hM3 _ _)) (bRp rfl (bS ⟨hLo_r, lo2, Or.inl ⟨c, nI s3, hc0 hc, rfl, rfl, rfl, Or.inl ⟨rfl, rfl, rfl⟩⟩⟩))))
        · refine bLb (hC3 _ _ _) (bLn one0 (bLb (add_sp h12) ?_))
          refine bRb (ptS half72 (nadd (a := 3 * m) (b := 2) (pk_mul 3 m) rfl) (by omega) (by decide) (hM3 _ _)) (bRn one0 ?_)
          have lo3 : hLo 36 (upd (upd (upd bank (36 + 3 * m) v1) (36 + (3 * m + 1)) v2) (36 + (3 * m + 2)) v3) bank := hLo_u lo2 (by omega)
          have e5 : upd told ((4 : Int32) + nI w).toNatClampNeg (told ((4 : Int32) + nI w).toNatClampNeg + 1) = upd told (4 + w) (nI (m + 1)) := by rw [et, c4, nI_1]
          have lo0 : hLo 4 (upd told ((4 : Int32) + nI w).toNatClampNeg (told ((4 : Int32) + nI w).toNatClampNeg + 1)) told := by
            rw [e5]
            exact hLo_u hLo_r (by omega)
          rcases sc hn hB T4 with ⟨hC4, hM4⟩ | ⟨hC4, k6, s6, en6, v6, T6, lt6, hM4⟩
          · exact bLb (hC4 _ _) (bRd v4 (bS ⟨lo0, lo3, Or.inl ⟨1, nI s4, one0, rfl, rfl, rfl, Or.inr ⟨one0, _, hM4 _, rfl, rfl, rfl⟩⟩⟩))
          · exact bLb (hC4 _ _) (bRd v4 (bS ⟨lo0, lo3, Or.inr ⟨one0, one0, rfl, rfl, ⟨rfl, h12, e5⟩, en4, k6, s6, en6, v6, rfl, T6, by omega, hM4 _⟩⟩))
  · refine bLn (full12n h12 (by omega)).1 (bLm ?_)
    refine bRp (full12n h12 (by omega)).2 ?_
    unfold fX11_span_b24
    exact bRb stF (bRp rfl (bS ⟨hLo_r, hLo_r, Or.inl ⟨4, nI s, (by decide), rfl, rfl, rfl, Or.inl ⟨rfl, rfl, rfl⟩⟩⟩))
end
