/-! from the law's entry in the machine -/
section LStart0
theorem fr_nil {s : State} {o : Outcome} {t : State} {L : List Loc} {k n : Nat} (h : FrameEnd s o t L k n) (hL : ∀ q ∈ L, s.heap.size ≤ q.base) : Framed s o t [] k n := by
  obtain ⟨h1, h2, a1, a2, a3, a4, a5, a6⟩ := h
  refine ⟨h1, h2, a1, a2, a3, a4, a5, fun a c hc => ?_⟩
  obtain ⟨c', b1, b2, b3, b4⟩ := a6 a c hc
  have hlt := (Array.getElem?_eq_some_iff.mp hc).1
  exact ⟨c', b1, b2, b3, fun i _ => b4 i (fun hm => by
    have : s.heap.size ≤ a := hL _ hm
    omega)⟩
/-- a static row of ints -/
theorem st_arr {args : Array Value} {s : State} {tm : Term} {N : Nat} {f : Nat → Int32} (hN : N < 2 ^ 31) (harr : (Cond.arrayOf tm .int).before args s = true) (hlen : (Cond.eq (.length tm) (.int (Int32.ofNat N))).before args s = true) (hel : ∀ j : Nat, j < N → (Cond.eq (.elem tm (.int (Int32.ofNat j))) (.int (f j))).before args s = true) (hex : (Cond.exactly tm "[I").before args s = true) : ∃ (t : Nat) (scr : Cell), tm.eval args s none [] s = some (.ref t) ∧ t < s.heap.size ∧ va_X t N f s s.heap ∧ s.heap[t]? = some scr ∧ s.vm.findClass "[I" = some scr.cls := by
  have hl := va_eqt hlen
  obtain ⟨t, cell, ht, hat, hv⟩ := Term.length_spec hl
  obtain ⟨hcell, hkn, -, -⟩ := State.arrayAt?_spec hat
  obtain ⟨hof, -⟩ := Cond.arrayOf_spec harr ht hcell
  obtain ⟨a', c', cell', k', e1, e2, e3, e4, e5, e6, -⟩ := Cond.exactly_spec (args := args) (first := s) (o := none) (s := s) (idx := []) hex
  cases ht.symm.trans e1
  cases hcell.symm.trans e3
  have hsz : cell.slots.size < 2 ^ 31 := by
    have hv2 := hl
    simp only [Term.eval, ht, hat, Option.bind_eq_bind, Option.bind_some] at hv2
    by_cases hlt : cell.slots.size < 2147483648
    · exact hlt
    · simp [hlt] at hv2
  have hN2 : cell.slots.size = N := by
    have e : Int32.ofNat N = Int32.ofNat cell.slots.size := Value.int.inj hv
    have e' := congrArg Int32.toNatClampNeg e
    rw [Int32.toNatClampNeg_ofNat_of_lt hN, Int32.toNatClampNeg_ofNat_of_lt hsz] at e'
    exact e'.symm
  refine ⟨t, cell, ht, (Array.getElem?_eq_some_iff.mp hcell).1, ⟨cell, hcell, hof, hkn, hN2, fun j hj => ?_⟩, hcell, by rw [e6]; exact e2⟩
  obtain ⟨a, i, cell2, h1, h2, h3, h4, h5⟩ := Term.elem_spec (va_eqt (hel j hj))
  cases ht.symm.trans h1
  cases hat.symm.trans h3
  have hi : i = Int32.ofNat j := by
    have e : (Term.int (Int32.ofNat j)).eval args s none [] s = some (.int (Int32.ofNat j)) := rfl
    cases h2.symm.trans e
    rfl
  have hc : i.toNatClampNeg = j := by rw [hi]; exact Int32.toNatClampNeg_ofNat_of_lt (Nat.lt_trans hj hN)
  rw [hc] at h5
  exact h5
def nw_c : ∀ {c : Nat}, c < 12 → Cond.instantiable (cl_C c) (cl_n c) ∈ tb_
  | 0, _ => nw_X0 | 1, _ => nw_X1 | 2, _ => nw_X2 | 3, _ => nw_X3 | 4, _ => nw_X4 | 5, _ => nw_X5 | 6, _ => nw_X6 | 7, _ => nw_X7 | 8, _ => nw_X8 | 9, _ => nw_X9 | 10, _ => nw_X10 | 11, _ => nw_X11
  | n + 12, h => by omega
theorem ar_of {args : Array Value} {s : State} (hts : ∀ w ∈ lw_tbl, w.before args s = true) {y : Nat} (hy : y < 6) : ∃ cA : ClassId, ArrOfT s cA (ar_y y) ∧ va_RA s cA (ar_y y) := by
  have pr : ∀ {ty : FieldType}, (Cond.arrayClass ty).before args s = true → ∃ cA : ClassId, ArrOfT s cA ty ∧ s.vm.findClass ("[" ++ ty.toString) = some cA := fun h => by
    obtain ⟨c, k, comp, h1, h2, h3⟩ := Cond.arrayClass_spec h
    exact ⟨c, fun n z => ⟨(fun _ h => by cases h), k, h2, comp, h3⟩, h1⟩
  have ov : ∀ {C : String}, (Cond.arrayOver (.object C)).before args s = true → ∃ cA : ClassId, ArrOfT s cA (.object C) ∧ va_RA s cA (.object C) := fun h => by
    obtain ⟨comp, c, k, h1, -, h3, h4, h5⟩ := Cond.arrayOver_spec h
    exact ⟨c, fun n z => ⟨(fun _ h => by cases h), k, h3, comp, h4⟩, k, comp, h3, h4, h1, h5⟩
  have tin : ∀ {w : Cond}, w ∈ tb_ → w ∈ lw_tbl := fun h => (List.mem_filter.mp h).1
  have : y = 0 ∨ y = 1 ∨ y = 2 ∨ y = 3 ∨ y = 4 ∨ y = 5 := by omega
  rcases this with rfl | rfl | rfl | rfl | rfl | rfl
  · exact pr (hts _ (tin ac_int))
  · exact pr (hts _ (tin ac_boolean))
  · exact ov (hts _ ao_X3)
  · exact ov (hts _ ao_X6)
  · exact ov (hts _ ao_X7)
  · exact ov (hts _ ao_X9)
end LStart0
/-- the memory at the entry -/
def m0_ (L : Nat) (xs : Nat → Int32) : mm_T := (5, fun a => if a = 1 then (15, L) else if a = 2 then (15, 6) else if a = 3 then (15, 6) else if a = 4 then (15, 3) else (0, 0), fun a j => if a = 1 then xs j else if a = 2 then inb_ (4 + j) else if a = 3 then nI (if j < 2 then 99 else if j = 2 then 20 else if j = 4 then 48 else 9) else nI (if j = 0 then 9 else if j = 1 then 32 else 6), fun _ _ => 0, fun _ _ => 0)
