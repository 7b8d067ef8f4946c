/-! rows: arrays of int rows -/
section RowsA
variable {X : sX} {l : Launch} {R : Room} {D : va_G} {cT : Nat → ClassId} {nL k n pc : Nat} {cc : ByteArray} {own : String} {L : List (Nat × Value)} {st : List Value} {ws : va_W}
theorem xi_anewA (C : sC X R D cT nL cc own) {x : Int32} {N index : Nat} (hcl : Cond.classLink own index "[I" ∈ zG) (hn : ¬ x < 0) (hN : x.toNatClampNeg = N) (hb : N ≤ 10000) (hcells : k + 1 ≤ R.cells) (hslots : n + N ≤ R.slots) (hdg : decode cc pc = .ok (.anewarray index, 3)) (kk : ∀ q : Nat, sW X l R D nL (k + 1) (n + N) (pc + 3) L (.ref q :: st) (ws ++ [(q, .inl (cT 6, N, .inr (.inr (.inr (.inr (fun _ => none))))))])) : sW X l R D nL k n pc L (.int x :: st) ws := by
  obtain ⟨p, e, s, m, args, below, meth, c, Q, A⟩ := X
  intro H locs ls hP hD hS hl
  subst hN
  have hlink : (Cond.classLink own index (FieldType.array .int).toString).before args s = true := C.1.2.2.2.2 _ hcl
  refine W.anewA (t := .int) C.1.1 C.1.2.1 C.1.2.2.2.1 hlink (va_AOA.use C.2.2.2.2.1.2.2.2.2.2.2.2.2.2.1) rfl hdg rfl hn (by omega) hcells hslots fun cA kA comp f1 f2 f3 f4 => ?_
  have e3 : s.vm.findClass ("[" ++ (FieldType.array .int).toString) = some (cT 6) := (C.2.1.2 6 _ rfl).2
  have e6 : cA = cT 6 := Option.some.inj (f1.symm.trans e3)
  subst e6
  generalize hH1 : H.push ({ cls := cT 6, slots := Array.replicate x.toNatClampNeg .null, vm := .none } : Cell) = H1
  have z1 : H1.size = H.size + 1 := by rw [← hH1, Array.size_push]
  have e1 : H1[H.size]? = some (arrV (cT 6) x.toNatClampNeg (fun _ => .null)) := by rw [← hH1, Array.getElem?_push_size, ← arrV_new]
  have o1 : ∀ q : Nat, q < H.size → H1[q]? = H[q]? := fun q hq => by rw [← hH1, Array.getElem?_push, if_neg (Nat.ne_of_lt hq)]
  have hk : ∀ (k : Nat) (x : Nat × va_E), ws[k]? = some x → H1[x.1]? = H[x.1]? := fun k x hx => o1 x.1 ((hP k x hx).lt)
  refine kk H.size H1 locs ls ((hP.kept hk).app (fun k x hx => ?_)) (hD.push hP rfl (C.2.2.1 _ hS.1)) ⟨Nat.le_trans hS.1 (by omega), fun x h1 h2 => (o1 x (Nat.lt_of_lt_of_le h1 hS.1)).trans (hS.2.1 x h1 h2), hS.2.2⟩ hl
  have hz : k < 1 := (List.getElem?_eq_some_iff.mp hx).1
  rw [show k = 0 by omega] at hx
  cases hx
  show H1[H.size]? = some (vp_cell _ _)
  rw [vp_cell_q]
  exact e1
theorem xi_aastA (C : sC X R D cT nL cc own) {a b N M : Nat} {g : Nat → Option Nat} {f : Nat → Int32} {i : Int32} {ws2 : va_W} (q q2 : Nat) (he : ws[q]? = some (a, .inl (cT 6, N, .inr (.inr (.inr (.inr g)))))) (hv : ws[q2]? = some (b, .inl (cT 0, M, .inl f))) (hin : vp_in i N) (hdg : decode cc pc = .ok (.aastore, 1)) (hw : ws.set q (a, .inl (cT 6, N, .inr (.inr (.inr (.inr (va_up g i.toNatClampNeg (some b))))))) = ws2) (kk : sW X l R D nL k n (pc + 1) L st ws2) : sW X l R D nL k n pc L (.ref b :: .int i :: .ref a :: st) ws := by
  obtain ⟨p, e, s, m, args, below, meth, c, Q, A⟩ := X
  intro H locs ls hP hD hS hl
  subst hw
  have hlt : i.toNatClampNeg < N := Nat.not_le.mp fun q => hin (Or.inr q)
  have h0 : ¬ i < 0 := fun q => hin (Or.inl q)
  have e6 : s.vm.findClass ("[" ++ (FieldType.array .int).toString) = some (cT 6) := (C.2.1.2 6 _ rfl).2
  have e0 : s.vm.findClass (FieldType.array .int).toString = some (cT 0) := (C.2.1.2 0 _ rfl).2
  obtain ⟨comp, c6, k6, r1, -, r2, r3, r4⟩ := arrayOverA_spec (va_AOA.use (A := args) C.2.2.2.2.1.2.2.2.2.2.2.2.2.2.1)
  have z6 : c6 = cT 6 := Option.some.inj (r4.symm.trans e6)
  have z0 : comp = cT 0 := Option.some.inj (r1.symm.trans e0)
  subst z6
  subst z0
  obtain ⟨-, k0, hk0, cm0, hkk0⟩ := (C.2.1.2 0 _ rfl).1 M (fun j => .int (f j))
  have hk0' : s.vm.classes[cT 0]? = some k0 := hk0
  have hasg : s.vm.assignable (cT 0) (cT 0) = true := by
    show s.vm.assignableAux (255 + 1) (cT 0) (cT 0) = true
    rw [Vm.assignableAux, beq_self_eq_true, Bool.true_or]
  refine W.aast C.1.1 C.1.2.1 (hP q _ he) (fun q h => by cases h) (fun h => by cases h) r2 r3 rfl hk0' ⟨h0, by show _ < (arrV _ _ _).slots.size; rw [arrV_size]; exact hlt⟩ (hP q2 _ hv) (fun q h => by cases h) hk0' hasg rfl rfl hdg fun H1 e z oq => ?_
  refine kk H1 _ ls (hP.set hD he ?_ oq) (hD.set he) (hS.put z oq (hD.2 q _ he)) hl
  show H1[a]? = some (vp_cell _ _)
  rw [e]
  rw [vp_cell_q, vp_cell_q, arrV_store]
  congr 2
  funext q
  by_cases hq : q = i.toNatClampNeg
  · subst hq
    simp [updV, va_up, va_rf]
  · simp [updV, va_up, hq]
end RowsA
