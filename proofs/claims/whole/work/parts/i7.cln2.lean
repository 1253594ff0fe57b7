section Cln2
variable {p : Program} {l : Launch} {e : Env} {R : Room} {s : State} {m : MethodId} {args : Array Value} {below : List Frame} {meth : Method} {c : Code} {H : Heap} {locs : List Loc} {cells slots : Nat} {Q : State → Prop} {cc : ByteArray} {pc : Nat} {ls : Array Slot} {rest : List Value}
/-- a cell that is an int array by what it holds: its copy is the plain one -/
theorem cl_arrV {scr : Cell} {n : Nat} {f : Nat → Int32} (hz : scr.slots.size = n) (hf : ∀ j : Nat, j < n → scr.slots[j]? = some (.int (f j))) : ({ cls := scr.cls, slots := scr.slots } : Cell) = arrV scr.cls n (fun j => .int (f j)) := by
  have e : scr.slots = (arrV scr.cls n (fun j => Value.int (f j))).slots := by
    apply Array.ext_getElem?
    intro i
    by_cases hi : i < n
    · rw [hf i hi, arrV_read _ _ hi]
    · rw [Array.getElem?_eq_none (by omega), Array.getElem?_eq_none (by rw [arrV_size]; omega)]
  exact congrArg (fun x => ({ cls := scr.cls, slots := x } : Cell)) e
theorem gq_clone (hexec : p.tables.exec = Jvm.exec) (hb : c.code = cc) (hml : c.maxLocals = ls.size) {own : String} {index : Nat} (hown : s.vm.findClass own = some m.cls) (hlink : (Cond.methodLink own index ⟨"[I", "clone", "()Ljava/lang/Object;"⟩).before args s = true) (hsame : (Cond.sameMethod "[I" "java/lang/Object" "clone" "()Ljava/lang/Object;").before args s = true)
    (hnat : (Cond.native ⟨"java/lang/Object", "clone", "()Ljava/lang/Object;"⟩).before args s = true) (hinst : (Cond.instanceMethod ⟨"java/lang/Object", "clone", "()Ljava/lang/Object;"⟩).before args s = true) (hsel : (Cond.selects "[I" ⟨"[I", "clone", "()Ljava/lang/Object;"⟩ ⟨"java/lang/Object", "clone", "()Ljava/lang/Object;"⟩).before args s = true)
    (hcast : va_Nw (.castable "[I" "java/lang/Cloneable") s) {a : Nat} {scr : Cell} {n : Nat} {f : Nat → Int32} (hc : H[a]? = some scr) (hA : s.isArrayOf scr .int) (hu : scr.vm ≠ .unknown) (hz : scr.slots.size = n) (hf : ∀ j : Nat, j < n → scr.slots[j]? = some (.int (f j))) (hcl : s.vm.findClass "[I" = some scr.cls)
    (hframes : 1 ≤ R.frames) (hlocals : (rest.map fun v => v.category).sum + 14 ≤ R.locals) (hcells : cells + 1 ≤ R.cells) (hslots : slots + n ≤ R.slots) (hdg : decode cc pc = .ok (.invokevirtual index, 3))
    (kk : ∀ H1 : Heap, H1[H.size]? = some (arrV scr.cls n (fun j => .int (f j))) → H1.size = H.size + 1 → (∀ q : Nat, q < H.size → H1[q]? = H[q]?) → W p l e R s m args below meth c H1 locs (cells + 1) (slots + n) Q (F0 m (pc + 3) ls (.ref H.size :: rest))) : W p l e R s m args below meth c H locs cells slots Q (F0 m pc ls (.ref a :: rest)) := by
  obtain ⟨cI, cC, f1, f2, f3⟩ := Cond.castable_spec (va_Nw.use (A := args) rfl hcast)
  cases hcl.symm.trans f1
  intro T hT X
  obtain ⟨-, kA, hkA, comp, hkind⟩ := State.isArrayOf_alike X.warmed.alike hA
  obtain ⟨-, kS, hkS, compS, hkindS⟩ := id hA
  obtain ⟨vm', X', st⟩ := X.cloneArray hexec hown hlink hsame hnat hinst hsel (a := a) (cell := scr) (by rw [hT]; exact hc) hA.1 hu hcl f2 f3
    (fun i v hv => by
      have hk' : T.vm.classes[scr.cls]? = some kA := hkA
      have hi : i < n := by rw [← hz]; exact (Array.getElem?_eq_some_iff.mp hv).1
      have hv2 : v = .int (f i) := Option.some.inj (hv.symm.trans (hf i hi))
      rw [hv2]
      simp [State.fitsSlot, State.slotType?, hk', hkind, fits])
    (g := F0 m pc ls (.ref a :: rest)) rfl (by rw [hml]) (rest := rest) rfl (by rw [hb]; exact hdg) hframes (by show 2 * 0 + _ + 14 ≤ _; omega) hcells (by rw [hz]; exact hslots) (hloader := Vm.clonesLoader_of_array hkS hkindS)
  rw [cl_arrV hz hf, hz] at X'
  rw [cl_arrV hz hf] at st
  generalize hH1 : H.push (arrV scr.cls n (fun j => Value.int (f j))) = H1
  obtain ⟨t, b1, b2⟩ := kk H1 (by rw [← hH1, Array.getElem?_push_size]) (by rw [← hH1, Array.size_push]) (fun q hq => by rw [← hH1, Array.getElem?_push, if_neg (Nat.ne_of_lt hq)]) ((T.setVm vm').pushCell (arrV scr.cls n (fun j => Value.int (f j)))) (by rw [← hH1, ← hT]; rfl) X'
  refine ⟨t, st t ?_, b2⟩
  rw [hT]
  exact b1
end Cln2
section Cln3
variable {t : mt_T} {fr : Nat → Bool} {pc : Nat} {ls : List (Option pv_T)} {st : List pv_T} {M : mm_T} {Q : Option pv_T → mm_T → Prop}
/-- the first rules are cloned -/
theorem go_clone {n ix : Nat} (tg : Nat) (ht : ar_ok tg 0) (hk : mm_k M 2 = (15, n)) (hn : n ≤ 100000) (hst : pv_cs st ≤ 8) (hf : 1 ≤ mt_f t ∧ 60 ≤ mt_l t) (hw : Cond.methodLink (mt_y t).cls ix ⟨"[I", "clone", "()Ljava/lang/Object;"⟩ ∈ tb_) (hsame : Cond.sameMethod "[I" "java/lang/Object" "clone" "()Ljava/lang/Object;" ∈ tb_)
    (hnat : Cond.native ⟨"java/lang/Object", "clone", "()Ljava/lang/Object;"⟩ ∈ tb_) (hinst : Cond.instanceMethod ⟨"java/lang/Object", "clone", "()Ljava/lang/Object;"⟩ ∈ tb_) (hsel : Cond.selects "[I" ⟨"[I", "clone", "()Ljava/lang/Object;"⟩ ⟨"java/lang/Object", "clone", "()Ljava/lang/Object;"⟩ ∈ tb_)
    (h1 : mm_n M + 1 ≤ nb_) (h2 : mm_t M (mm_n M) + n ≤ sb_) (d : decode (mt_b t) pc = .ok (.invokevirtual ix, 3)) (kk : go_W t fr (pc + 3) ls (pv_r (mm_n M) :: st) (mm_ws (mm_w M tg n) (mm_n M) (mm_i M 2)) Q) : go_W t fr pc ls (pv_r 2 :: st) M Q := by
  intro cx l p e s m args below meth c H locs cells slots n0 s0 L F I N0 hl
  refine go_tight I.1 N0 ?_
  obtain ⟨hx, hb, hml, hr, hlk, hnm, hown, hts, hS⟩ := id F
  obtain ⟨N1, N2, N3, N4, N5, N6⟩ := id N0
  have hmono := mm_t_mono (M := M) N3
  obtain ⟨-, -, scr, q1, q2, q3, q4, q5⟩ := I.2.2 2 (by decide) (by decide)
  rw [hk] at q4 q5
  obtain ⟨scr', r1, r2⟩ := hS.2.2.2.2.2.2.2.2.2.2.2.2
  have hss : scr' = scr := Option.some.inj (r1.symm.trans q1)
  subst hss
  have hnmI : s.vm.findClass "[I" = some scr'.cls := by rw [r2]; exact va_nm_int (ar_K hS (y := 0) (by decide)).2
  have h2lt := hS.2.2.1 2 (by decide) (by decide)
  have hcH : H[cx.2.1 2]? = some scr' := by rw [I.2.1.2.1 _ (Nat.lt_of_lt_of_le h2lt hS.2.1) (Nat.not_le.mpr h2lt)]; exact q1
  have ea : cx_a cx 2 = cx.2.1 2 := by unfold cx_a; rw [if_pos (by decide)]
  show W p l e _ s m args below meth c H locs _ _ _ (F0 m pc L (cx_v cx (pv_r 2) :: st.map (cx_v cx)))
  rw [cx_v_ref (by decide), ea]
  refine gq_clone (f := mm_i M 2) (n := n) hx hb (by rw [hml]; exact hl.2.2.1.symm) hown (hts _ hw) (hts _ hsame) (hts _ hnat) (hts _ hinst) (hts _ hsel) hS.2.2.2.2.2.2.2.2.2.2.1 hcH q2 q3 q4 q5 hnmI hf.1 (by rw [pv_cat2]; show _ ≤ mt_l t; omega) (by show _ + 1 ≤ nb_ - n0; omega) (by show _ + _ ≤ sb_ - s0; omega) d fun H1 e1 z1 o1 => ?_
  have e0 : cx_a cx (mm_n M) = H.size := by rw [cx_a_own (by omega), I.1.2.1]
  have hok : hp_ok cx (mm_ws (mm_w M tg n) (mm_n M) (mm_i M 2)) H1 (mm_n M) := by
    refine Or.inr ?_
    rw [show mm_k (mm_ws (mm_w M tg n) (mm_n M) (mm_i M 2)) (mm_n M) = (tg, n) from mm_k_w]
    refine ⟨ht.1, by rw [ht.2]; decide, by show n < _; omega, ?_⟩
    rw [e0, e1, ht.2, r2]
    congr 2
    funext q
    show Value.int (mm_i M 2 q) = Value.int (if mm_n M = mm_n M then mm_i M 2 q else _)
    rw [if_pos rfl]
  have hI : hp_I cx (mm_ws (mm_w M tg n) (mm_n M) (mm_i M 2)) s H1 locs := by
    obtain ⟨⟨I1, I2, I3, I4⟩, ⟨S1, S2, S3⟩, I6⟩ := I
    have hW := mm_S_w (fr := fun _ => false) (M := M) (tg := tg) (n := n)
    refine ⟨⟨Nat.le_succ_of_le I1, ?_, fun b hb5 hbn => ?_, by show mm_k (mm_w M tg n) 0 = _; rw [hW.2.1 0 (by omega)]; exact I4⟩, ⟨by omega, fun q q1 q2 => (o1 q (by omega)).trans (S2 q q1 q2), S3⟩, fun b hb1 hb5 => ?_⟩
    · rw [z1, I2]
      show _ = cx.1 + (mm_n M + 1 - 5)
      omega
    · have hbn' : b < mm_n M + 1 := hbn
      by_cases hb : b = mm_n M
      · rw [hb]; exact hok
      · have hlt : b < mm_n M := by omega
        obtain ⟨p1, p2, p3⟩ := hW.2.2 b hlt (Or.inl rfl)
        exact hp_same (I3 b hb5 hlt) (hW.2.1 b hlt) (fun j => (if_neg hb).trans (p1 j)) p2 p3 (o1 _ (by rw [cx_a_own hb5, I2]; omega))
    · obtain ⟨p1, -, -⟩ := hW.2.2 b (by omega) (Or.inl rfl)
      rw [show mm_k (mm_ws (mm_w M tg n) (mm_n M) (mm_i M 2)) b = mm_k M b from hW.2.1 b (by omega), show mm_i (mm_ws (mm_w M tg n) (mm_n M) (mm_i M 2)) b = mm_i M b from funext fun j => (if_neg (by omega)).trans (p1 j)]
      exact I6 b hb1 hb5
  have hst2 : F0 m (pc + 3) L (.ref H.size :: st.map (cx_v cx)) = F0 m (pc + 3) L ((pv_r (mm_n M) :: st).map (cx_v cx)) := by
    rw [List.map_cons, cx_v_ref (by omega), e0]
  show W p l e _ s m args below meth c H1 locs _ _ _ (F0 m (pc + 3) L (.ref H.size :: st.map (cx_v cx)))
  rw [hst2]
  refine go_post ?_ (kk cx l p e s m args below meth c H1 locs _ _ n0 s0 L F hI (gx_N_put (gx_N_new (tg := tg) N0 h1 h2) rfl (fun _ => rfl)) hl)
  have hW := mm_S_w (fr := fr) (M := M) (tg := tg) (n := n)
  refine ⟨hW.1, hW.2.1, fun b hb hh => ?_⟩
  obtain ⟨p1, p2, p3⟩ := hW.2.2 b hb hh
  exact ⟨fun j => (if_neg (by omega)).trans (p1 j), p2, p3⟩
theorem go_cast {a tg n ix : Nat} (ht : ar_ok tg 0) (hk : mm_k M a = (tg, n)) (hw : Cond.classLink (mt_y t).cls ix "[I" ∈ tb_) (d : decode (mt_b t) pc = .ok (.checkcast ix, 3)) (kk : go_W t fr (pc + 3) ls (pv_r a :: st) M Q) : go_W t fr pc ls (pv_r a :: st) M Q := by
  intro cx l p e s m args below meth c H locs cells slots n0 s0 L F I N hl
  obtain ⟨h5, hlt, -, -, hc⟩ := hp_arr I ht.1 hk
  rw [ht.2] at hc
  have hS := F.2.2.2.2.2.2.2.2
  have k := kk cx l p e s m args below meth c H locs cells slots n0 s0 L F I N hl
  rw [List.map_cons, cx_v_ref (by omega)] at k ⊢
  exact va_castE F.1 F.2.1 F.2.2.2.2.2.2.1 (F.2.2.2.2.2.2.2.1 _ hw) ⟨_, hc, rfl, va_nm_int (ar_K hS (y := 0) (by decide)).2⟩ d k
end Cln3
theorem mm_S_wws {fr : Nat → Bool} {M : mm_T} {tg n : Nat} {f : Nat → Int32} : mm_S fr M (mm_ws (mm_w M tg n) (mm_n M) f) := by
  have hW := mm_S_w (fr := fr) (M := M) (tg := tg) (n := n)
  refine ⟨hW.1, hW.2.1, fun b hb hh => ?_⟩
  obtain ⟨p1, p2, p3⟩ := hW.2.2 b hb hh
  exact ⟨fun j => (if_neg (by omega)).trans (p1 j), p2, p3⟩
