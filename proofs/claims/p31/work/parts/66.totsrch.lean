/-! the class's search: an answer -/
section
variable {p L m : Nat} {ap : Nat → Int32} {hears talks : Nat → Nat → Int32}
def hRC (p L : Nat) (ap : Nat → Int32) (hears talks : Nat → Nat → Int32) (m : Nat) (RP : Int32 → Int32 → (Nat → Int32) → (Nat → Nat → Int32) → (Nat → Nat → Int32) → (Nat → Nat → Int32) → Int32 → Int32 → Int32 → Int32 → Option (Int32 × (Nat → Nat → Int32))) : Prop := ∀ (pc : Nat → Nat → Int32) (x1 x2 : Nat) (x3 x4 : Int32), x1 < L → x2 ≤ p → 8 * (L - 1 - x1) + (p - x2) < m → tG tT (RP (nI p) (nI L) ap pc hears talks (nI x1) (nI x2) x3 x4)
variable {RP : Int32 → Int32 → (Nat → Int32) → (Nat → Nat → Int32) → (Nat → Nat → Int32) → (Nat → Nat → Int32) → Int32 → Int32 → Int32 → Int32 → Option (Int32 × (Nat → Nat → Int32))}
theorem t_goOn57 {x1 x2 J : Nat} {x4 x5 s0 : Int32} {pc : Nat → Nat → Int32} (hx1 : x1 < L) (hx2 : x2 < p) (hm : 8 * (L - 1 - x1) + (p - (x2 + 1)) < m) (hR : hRC p L ap hears talks m RP) : tG tT (fX6_goOn_b57_k RP (nI p) (nI L) ap hears talks (nI x1) (nI x2) x4 x5 J s0 pc) := by
  unfold fX6_goOn_b57_k
  rw [nI_1]
  exact tgI (fun _ => tgS trivial) (fun _ => tgC (hR pc x1 (x2 + 1) x4 x5 hx1 (by omega) hm) (fun u _ => tgI (fun _ => tgS trivial) (fun _ => tgS trivial)))
theorem t_goOn {x1 x2 x3 : Nat} {x4 x5 : Int32} {pc : Nat → Nat → Int32} (hp : p ≤ 6) (hL4 : L ≤ 4) (hx1 : x1 < L) (hx2 : x2 < p) (hx3 : x3 < p) (hm : 8 * (L - 1 - x1) + (p - (x2 + 1)) < m) (hR : hRC p L ap hears talks m RP) : tG tT (fX6_goOn RP (nI p) (nI L) ap pc hears talks (nI x1) (nI x2) (nI x3) x4 x5) := by
  unfold fX6_goOn fX6_goOn_b52_k
  rw [nI_1]
  refine tgD (vkn (by omega) (by decide)) (tgN (fun J _ => tgD (vkn (by omega) (by decide)) (tgD (vkn (by omega) (by decide)) (tgN (fun w _ => tgI (fun _ => ?_) (fun _ => tgI (fun _ => ?_) (fun _ => ?_))))))) <;> exact t_goOn57 hx1 hx2 hm hR
theorem t_tryPair129 {x1 x2 x3 J : Nat} {x5 y6 y7 y9 : Int32} {pc : Nat → Nat → Int32} (hp : p ≤ 6) (hL4 : L ≤ 4) (hx1 : x1 < L) (hx2 : x2 < p) (hx3 : x3 < p) (hm : 8 * (L - 1 - x1) + (p - (x2 + 1)) < m) (hR : hRC p L ap hears talks m RP) : tG tT (fX6_tryPair_b129_k RP (nI p) (nI L) ap hears talks (nI x1) (nI x2) (nI x3) x5 J y6 y7 y9 pc) := by
  unfold fX6_tryPair_b129_k
  refine tgD (vkn (by omega) (by decide)) (tgD (vkn (by omega) (by decide)) (tgI (fun _ => tgS trivial) (fun _ => ?_)))
  exact tgC (t_goOn hp hL4 hx1 hx2 hx3 hm hR) (fun u _ => tgI (fun _ => tgS trivial) (fun _ => tgS trivial))
theorem t_tryPair {x1 x2 x3 : Nat} {x4 x5 : Int32} {pc : Nat → Nat → Int32} (hp : p ≤ 6) (hL4 : L ≤ 4) (hx1 : x1 < L) (hx2 : x2 < p) (hx3 : x3 < p) (hm : 8 * (L - 1 - x1) + (p - (x2 + 1)) < m) (hR : hRC p L ap hears talks m RP) : tG tT (fX6_tryPair RP (nI p) (nI L) ap pc hears talks (nI x1) (nI x2) (nI x3) x4 x5) := by
  unfold fX6_tryPair
  refine tgD (vkn (by omega) (by decide)) (tgN (fun J _ => tgD (vkn (by omega) (by decide)) (tgD (vkn (by omega) (by decide)) (tgD (vps (a := x1) (b := 1) (by omega) (by decide)) (tgD (vkn (by omega) (by decide)) ?_)))))
  refine tgI (fun _ => tgI (fun _ => ?_) (fun _ => ?_)) (fun _ => ?_)
  · exact t_tryPair129 hp hL4 hx1 hx2 hx3 hm hR
  · exact tgC (t_goOn hp hL4 hx1 hx2 hx3 hm hR) (fun u _ => tgI (fun _ => t_tryPair129 hp hL4 hx1 hx2 hx3 hm hR) (fun _ => tgS trivial))
  · exact tgC (t_goOn hp hL4 hx1 hx2 hx3 hm hR) (fun u _ => tgS trivial)
theorem t_tryAlone {x1 x2 : Nat} {x3 x4 : Int32} {pc : Nat → Nat → Int32} (hp : p ≤ 6) (hL4 : L ≤ 4) (hx1 : x1 < L) (hx2 : x2 < p) (hm : 8 * (L - 1 - x1) + (p - (x2 + 1)) < m) (hR : hRC p L ap hears talks m RP) : tG tT (fX6_tryAlone RP (nI p) (nI L) ap pc hears talks (nI x1) (nI x2) x3 x4) := by
  unfold fX6_tryAlone
  refine tgC (t_fX6_couldCall (by omega) (by omega) (by omega)) (fun u _ => tgI (fun _ => ?_) (fun _ => tgS trivial))
  refine tgD (vps (a := x1) (b := 1) (by omega) (by decide)) (tgN (fun J _ => tgD (vkn (by omega) (by decide)) (tgN (fun J2 _ => tgD (vkn (by omega) (by decide)) ?_))))
  exact tgC (t_goOn hp hL4 hx1 hx2 hx2 hm hR) (fun u _ => tgS trivial)
theorem t_canEnd {x1 : Nat} {pc : Nat → Nat → Int32} (hp : p ≤ 6) (hL4 : L ≤ 4) (hap : ∀ J : Nat, J < 5 → pB 10 (ap J)) (hx : x1 ≤ L) (hm : x1 < L → 8 * (L - 1 - x1) + p < m) (hR : hRC p L ap hears talks m RP) : tG tT (fX6_canEnd RP (nI p) (nI L) ap pc hears talks (nI x1)) := by
  unfold fX6_canEnd
  refine tgD (vkn (by omega) (by decide)) (tgN (fun J hJ => ?_))
  rw [nI_clamp (by omega)] at hJ
  subst hJ
  obtain ⟨q, q1, q2⟩ := hap J (by omega)
  rw [q2]
  have b48 : J < L → tG tT (fX6_canEnd_b48_k RP (nI p) (nI L) ap hears talks (nI J) J pc) := fun h => by
    unfold fX6_canEnd_b48_k
    exact tgC (hR pc J 0 0 0 h (Nat.zero_le _) (hm h)) (fun u _ => tgI (fun _ => tgS trivial) (fun _ => tgS trivial))
  refine tgC (t_fX3_neededDoublings q1) (fun u4 _ => tgI (fun _ => tgI (fun h => ?_) (fun _ => tgS trivial)) (fun _ => tgS trivial))
  have h1 := nlt h (by omega) (by omega)
  refine tgI (fun _ => b48 h1) (fun _ => ?_)
  exact tgC (t_fX6_allCanLearnTheRest (by omega) (by omega)) (fun u _ => tgI (fun _ => tgS trivial) (fun _ => b48 h1))
theorem tl_pairUp50 {x1 y5 : Nat} {x3 x4 : Int32} (hp : p ≤ 6) (hL4 : L ≤ 4) (hx1 : x1 < L) (h5 : y5 < p) (hm : 8 * (L - 1 - x1) + (p - (y5 + 1)) < m) (hR : hRC p L ap hears talks m RP) : ∀ (n y : Nat) (pc : Nat → Nat → Int32), y ≤ p → p - y < n → tG tT (fX6_pairUp_b50 RP (nI p) (nI L) ap hears talks (nI x1) x3 x4 n (nI y5) (nI y) pc) := by
  intro n
  induction n with
  | zero => intro y pc h1 h2; omega
  | succ n ih =>
    intro y pc h1 h2
    rw [fX6_pairUp_b50_s]
    rcases Nat.lt_or_ge y p with c | c
    · rw [if_neg (nI_ge c (by omega)), nI_1]
      refine tgI (fun _ => ?_) (fun _ => ih _ _ (by omega) (by omega))
      exact tgC (t_tryPair hp hL4 hx1 h5 c hm hR) (fun u _ => tgI (fun _ => ih _ _ (by omega) (by omega)) (fun _ => tgS trivial))
    · have e : y = p := by omega
      subst e
      rw [if_pos (nI_le (Nat.le_refl _) (by omega))]
      unfold fX6_pairUp_b91
      exact tgC (t_tryAlone hp hL4 hx1 h5 hm hR) (fun u _ => tgS trivial)
theorem t_pairUp27 {x1 x2 y5 : Nat} {x3 x4 : Int32} {pc : Nat → Nat → Int32} (hp : p ≤ 6) (hL4 : L ≤ 4) (hap : ∀ J : Nat, J < 5 → pB 10 (ap J)) (hx1 : x1 < L) (h2 : x2 ≤ y5) (h5 : y5 ≤ p) (hm : 8 * (L - 1 - x1) + (p - x2) < m + 1) (hR : hRC p L ap hears talks m RP) : tG tT (fX6_pairUp_b27 RP (nI p) (nI L) ap hears talks (nI x1) x3 x4 (nI y5) pc) := by
  unfold fX6_pairUp_b27
  refine tgI (fun h => ?_) (fun _ => ?_)
  · have h1 := nlt h (by omega) (by omega)
    rw [nI_1]
    exact tl_pairUp50 hp hL4 hx1 h1 (by omega) hR FU (y5 + 1) pc (by omega) (by have := FUge; omega)
  · rw [nI_1]
    exact tgC (t_canEnd hp hL4 hap (by omega) (fun q => by omega) hR) (fun u _ => tgS trivial)
theorem tl_pairUp3 {x1 x2 : Nat} {x3 x4 : Int32} (hp : p ≤ 6) (hL4 : L ≤ 4) (hap : ∀ J : Nat, J < 5 → pB 10 (ap J)) (hx1 : x1 < L) (hm : 8 * (L - 1 - x1) + (p - x2) < m + 1) (hR : hRC p L ap hears talks m RP) : ∀ (n y : Nat) (pc : Nat → Nat → Int32), x2 ≤ y → y ≤ p → p - y < n → tG tT (fX6_pairUp_b3 RP (nI p) (nI L) ap hears talks (nI x1) x3 x4 n (nI y) pc) := by
  intro n
  induction n with
  | zero => intro y pc h0 h1 h2; omega
  | succ n ih =>
    intro y pc h0 h1 h2
    rw [fX6_pairUp_b3_s]
    refine tgI (fun _ => t_pairUp27 hp hL4 hap hx1 h0 h1 hm hR) (fun c => ?_)
    have := nln c (by omega) (by omega)
    rw [nI_1]
    exact tgI (fun _ => t_pairUp27 hp hL4 hap hx1 h0 h1 hm hR) (fun _ => ih _ _ (by omega) (by omega) (by omega))
theorem t_pairUp (hp : p ≤ 6) (hL4 : L ≤ 4) (hap : ∀ J : Nat, J < 5 → pB 10 (ap J)) : ∀ n : Nat, hRC p L ap hears talks n (fX6_pairUp n) := by
  intro n
  induction n with
  | zero => intro pc x1 x2 x3 x4 h1 h2 h3; omega
  | succ n ih =>
    intro pc x1 x2 x3 x4 h1 h2 h3
    show tG tT (fX6_pairUp_g (fX6_pairUp n) (nI p) (nI L) ap pc hears talks (nI x1) (nI x2) x3 x4)
    unfold fX6_pairUp_g
    exact tl_pairUp3 hp hL4 hap h1 h3 ih FU x2 pc (Nat.le_refl _) h2 (by have := FUge; omega)
theorem tl_find87 {x3 : Int32} (hp : p ≤ 6) (hap : ∀ J : Nat, J < 5 → pB 10 (ap J)) : ∀ (n y : Nat) (lim : Int32) (pc : Nat → Nat → Int32), y ≤ 5 → 5 - y < n → tG tT (fX6_find_b87 x3 n (nI y) (nI p) lim ap pc hears talks) := by
  intro n
  induction n with
  | zero => intro y lim pc h1 h2; omega
  | succ n ih =>
    intro y lim pc h1 h2
    rw [fX6_find_b87_s]
    refine tgI (fun _ => tgS trivial) (fun _ => tgI (fun _ => tgS trivial) (fun c => ?_))
    have h4 := nltn (a := 4) (b := y) c (by decide) (by omega)
    refine tgC (t_canEnd (x1 := 0) (m := FR) hp h4 hap (Nat.zero_le _) (fun q => ?_) (t_pairUp hp h4 hap FR)) (fun u _ => tgI (fun _ => ?_) (fun _ => tgS trivial))
    · unfold FR
      omega
    · rw [nI_1]
      exact ih _ _ _ (by omega) (by omega)
theorem tl_find45 {p1_lineCount p1_breaks_count p1_absences_count : Nat} {p1_first p1_second p1_oneWay p1_breaks_whose p1_breaks_from p1_breaks_until p1_absences_whose p1_absences_from p1_absences_until : Nat → Int32} {p2_cutLines p2_rounds x3 : Int32} (h1 : p1_lineCount ≤ 24) (h2 : p1_breaks_count ≤ 12) (h3 : p1_absences_count ≤ 12) (hF : hFS p1_lineCount p1_first p1_second) (hp : p ≤ 6) (hap : ∀ J : Nat, J < 5 → pB 10 (ap J)) : ∀ (n y : Nat) (lim : Int32) (pc hears talks : Nat → Nat → Int32), y ≤ 4 → 4 - y < n → tG tT (fX6_find_b45 (nI p1_lineCount) p1_first p1_second p1_oneWay (nI p1_breaks_count) p1_breaks_whose p1_breaks_from p1_breaks_until (nI p1_absences_count) p1_absences_whose p1_absences_from p1_absences_until p2_cutLines p2_rounds x3 n (nI y) (nI p) lim ap pc hears talks) := by
  intro n
  induction n with
  | zero => intro y lim pc hears talks q1 q2; omega
  | succ n ih =>
    intro y lim pc hears talks q1 q2
    rw [fX6_find_b45_s]
    refine tgI (fun _ => tl_find87 hp hap FU 0 lim pc (by decide) (by have := FUge; omega)) (fun c => ?_)
    have h4 := nln (a := 4) (b := y) c (by decide) (by omega)
    refine tgC (t_fX1_openLines h1 h2 h3 hF) (fun u10 _ => tgC (t_fX6_connect h1 (by omega) hF) (fun u13 _ => ?_))
    rw [nI_1]
    exact ih _ _ _ _ _ (by omega) (by omega)
theorem tl_find16 {p1_lineCount p1_breaks_count p1_absences_count : Nat} {p1_first p1_second p1_oneWay p1_breaks_whose p1_breaks_from p1_breaks_until p1_absences_whose p1_absences_from p1_absences_until : Nat → Int32} {p2_cutLines p2_rounds p2_news_people x3 : Int32} {p2_news_pieces : Nat → Int32} (h1 : p1_lineCount ≤ 24) (h2 : p1_breaks_count ≤ 12) (h3 : p1_absences_count ≤ 12) (hF : hFS p1_lineCount p1_first p1_second) (hp : p ≤ 6) (hn : pB 10 p2_news_people) : ∀ (n y : Nat) (lim : Int32) (ap : Nat → Int32) (pc hears talks : Nat → Nat → Int32), y ≤ 5 → 5 - y < n → (∀ J : Nat, J < y → pB 10 (ap J)) → tG tT (fX6_find_b16 (nI p1_lineCount) p1_first p1_second p1_oneWay (nI p1_breaks_count) p1_breaks_whose p1_breaks_from p1_breaks_until (nI p1_absences_count) p1_absences_whose p1_absences_from p1_absences_until p2_cutLines p2_rounds p2_news_people p2_news_pieces x3 n (nI y) (nI p) lim ap pc hears talks) := by
  intro n
  induction n with
  | zero => intro y lim ap pc hears talks q1 q2; omega
  | succ n ih =>
    intro y lim ap pc hears talks q1 q2 q3
    rw [fX6_find_b16_s]
    refine tgI (fun c => ?_) (fun c => ?_)
    · have h4 := nlt (a := 4) (b := y) c (by decide) (by omega)
      exact tl_find45 h1 h2 h3 hF hp (fun J hJ => q3 J (by omega)) FU 0 lim pc hears talks (by decide) (by have := FUge; omega)
    · have h4 := nltn (a := 4) (b := y) c (by decide) (by omega)
      refine tgD (vkn (by omega) (by decide)) (tgN (fun J hJ => ?_))
      rw [nI_clamp (by omega)] at hJ
      subst hJ
      refine tgC t_fX3_copyFrom (fun u19 hu => ?_)
      rw [nI_1]
      refine ih _ _ _ _ _ _ (by omega) (by omega) (fun K hK => ?_)
      by_cases e : K = J
      · subst e
        rw [upS, hu]
        exact hn
      · rw [upN e]
        exact q3 K (by omega)
theorem t_find {p1_people p1_lineCount p1_breaks_count p1_absences_count : Nat} {p1_first p1_second p1_oneWay p1_breaks_whose p1_breaks_from p1_breaks_until p1_absences_whose p1_absences_from p1_absences_until : Nat → Int32} {p2_cutLines p2_rounds p2_news_people lim x3 : Int32} {p2_news_pieces : Nat → Int32} {pc : Nat → Nat → Int32} (h1 : p1_lineCount ≤ 24) (h2 : p1_breaks_count ≤ 12) (h3 : p1_absences_count ≤ 12) (hF : hFS p1_lineCount p1_first p1_second) (hp : p1_people ≤ 10) (hn : pB 10 p2_news_people) : tG tT (fX6_find lim ap pc hears talks (nI p1_people) (nI p1_lineCount) p1_first p1_second p1_oneWay (nI p1_breaks_count) p1_breaks_whose p1_breaks_from p1_breaks_until (nI p1_absences_count) p1_absences_whose p1_absences_from p1_absences_until p2_cutLines p2_rounds p2_news_people p2_news_pieces x3) := by
  unfold fX6_find
  refine tgN (fun w hw => ?_)
  have h6 : ∃ q, q ≤ 6 ∧ w = nI q := by
    rw [hw]
    by_cases c : 6 < nI p1_people
    · rw [if_pos c]
      exact ⟨6, Nat.le_refl _, rfl⟩
    · rw [if_neg c]
      exact ⟨p1_people, nltn (a := 6) (b := p1_people) c (by decide) (by omega), rfl⟩
  obtain ⟨q, q1, rfl⟩ := h6
  exact tl_find16 h1 h2 h3 hF q1 hn FU 0 lim ap pc hears talks (by decide) (by have := FUge; omega) (fun J hJ => absurd hJ (Nat.not_lt_zero J))
end
