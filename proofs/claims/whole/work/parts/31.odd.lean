/-! ROWS for the odd ones: arraycopy, clone of the first rules, constructors of nest mates, lookupswitch. -/
section GoOddW
variable {p : Program} {l : Launch} {e : Env} {R : Room} {s : State} {m : MethodId} {args : Array Value} {below : List Frame} {meth : Method} {c : Code} {H : Heap} {locs : List Loc} {cells slots : Nat} {Q : State → Prop} {cc : ByteArray} {pc : Nat} {ls : Array Slot} {rest : List Value}
theorem gq_copy (hexec : p.tables.exec = Jvm.exec) (hb : c.code = cc) (hml : c.maxLocals = ls.size) {own : String} {index : Nat} (hown : s.vm.findClass own = some m.cls) (hlink : (Cond.methodLink own index arraycopyName).before args s = true) (hnat : (Cond.native arraycopyName).before args s = true) (hstat : (Cond.static arraycopyName).before args s = true) (hini : (Cond.initialized "java/lang/System").before args s = true)
    {a0 a : Nat} {c0 c1 : ClassId} {n0 n1 : Nat} {f g : Nat → Int32} (hc0 : H[a0]? = some (vp_cell c0 (n0, .inl f))) (hc1 : H[a]? = some (vp_cell c1 (n1, .inl g))) (hA0 : ArrOfT s c0 .int) (hA1 : ArrOfT s c1 .int)
    {sp dp n : Int32} (h1 : ¬ sp < 0) (h2 : ¬ dp < 0) (h3 : ¬ n < 0) (h4 : sp.toNatClampNeg + n.toNatClampNeg ≤ n0) (h5 : dp.toNatClampNeg + n.toNatClampNeg ≤ n1)
    (hframes : 1 ≤ R.frames) (hlocals : (rest.map fun v => v.category).sum + (nativeFrameWords "java/lang/System" "arraycopy" 5 + 11) ≤ R.locals) (hdg : decode cc pc = .ok (.invokestatic index, 3))
    (kk : ∀ (H1 : Heap) (L1 : List Loc), H1[a]? = some (vp_cell c1 (n1, .inl (va_cpy f g sp.toNatClampNeg dp.toNatClampNeg n.toNatClampNeg))) → H1.size = H.size → (∀ q : Nat, q ≠ a → H1[q]? = H[q]?) → (∀ q ∈ L1, q.base = a) → W p l e R s m args below meth c H1 (locs ++ L1) cells slots Q (F0 m (pc + 3) ls rest)) : W p l e R s m args below meth c H locs cells slots Q (F0 m pc ls (.int n :: .int dp :: .ref a :: .int sp :: .ref a0 :: rest)) := by
  have nn : ∀ z : Int32, ¬ z < 0 → z.toInt = (z.toNatClampNeg : Int) := by
    intro z hz
    have hz0 : (0 : Int) ≤ z.toInt := by
      have := Int32.not_lt.mp hz
      simpa using Int32.le_iff_toInt_le.mp this
    show z.toInt = ((z.toInt.toNat : Nat) : Int)
    omega
  intro T hT X
  obtain ⟨-, k0, hk0, cm0, hkk0⟩ := hA0 n0 (fun j => .int (f j))
  obtain ⟨-, k1, hk1, cm1, hkk1⟩ := hA1 n1 (fun j => .int (g j))
  obtain ⟨vm', X', step⟩ := X.arraycopy hexec hown hlink hnat hstat hini (src := a0) (dst := a) (cs := vp_cell c0 (n0, .inl f)) (cd := vp_cell c1 (n1, .inl g)) (srcPos := sp) (destPos := dp) (n := n) (by rw [hT]; exact hc0) (by rw [hT]; exact hc1)
    (fun _ h => by cases h) (fun _ h => by cases h) (fun h => by cases h) (fun h => by cases h) hk0 hk1 hkk0 hkk1 (by simp [refKind]) h1 h2 h3
    (by rw [nn sp h1, nn n h3]; show ¬ _ > ((arrV c0 n0 (fun j => .int (f j))).slots.size : Int); rw [arrV_size]; omega)
    (by rw [nn dp h2, nn n h3]; show ¬ _ > ((arrV c1 n1 (fun j => .int (g j))).slots.size : Int); rw [arrV_size]; omega)
    (fun vm₁ _ i hi => by
      have e : (vp_cell c0 (n0, .inl f)).slots.getD (sp.toNatClampNeg + i) .null = .int (f (sp.toNatClampNeg + i)) := by
        show (arrV c0 n0 (fun j => .int (f j))).slots.getD _ _ = _
        rw [Array.getD_eq_getD_getElem?, arrV_read _ _ (by omega)]
        rfl
      refine ⟨?_, ?_⟩
      · rw [e]
        rfl
      · rw [e]
        exact trivial)
    (g := F0 m pc ls (.int n :: .int dp :: .ref a :: .int sp :: .ref a0 :: rest)) rfl (by rw [hml]) (rest := rest) rfl (by rw [hb]; exact hdg) hframes (by show 2 * 0 + _ + _ ≤ _; omega)
  have e1 : copied (vp_cell c0 (n0, .inl f)) (vp_cell c1 (n1, .inl g)) sp dp n = vp_cell c1 (n1, .inl (va_cpy f g sp.toNatClampNeg dp.toNatClampNeg n.toNatClampNeg)) := va_copied (fun z => .int z) c0 c1 f g h4
  rw [e1] at X' step
  have hl : a < H.size := (Array.getElem?_eq_some_iff.mp hc1).1
  have hheap : ((T.setVm vm').setCell a (vp_cell c1 (n1, .inl (va_cpy f g sp.toNatClampNeg dp.toNatClampNeg n.toNatClampNeg)))).heap = H.setIfInBounds a (vp_cell c1 (n1, .inl (va_cpy f g sp.toNatClampNeg dp.toNatClampNeg n.toNatClampNeg))) := by rw [← hT]; rfl
  obtain ⟨t, a1, b1⟩ := kk _ _ (show (H.setIfInBounds a _)[a]? = some _ by simp [Array.getElem?_setIfInBounds, hl]) (by simp) (fun q hq => by simp [Array.getElem?_setIfInBounds, Ne.symm hq]) (fun q hq => by
    obtain ⟨z, -, hz⟩ := List.mem_map.mp hq
    rw [← hz]) _ hheap X'
  exact ⟨t, step t a1, b1⟩
end GoOddW
section GoOdd
variable {t t' : mt_T} {fr fr' : Nat → Bool} {pc : Nat} {ls : List (Option pv_T)} {st : List pv_T} {M : mm_T} {Q Q' : Option pv_T → mm_T → Prop}
theorem hp_loc {cx : cx_T} {M M' : mm_T} {s : State} {H H' : Heap} {locs L1 : List Loc} {a : Nat} (I : hp_I cx M s H locs) (h5 : 5 ≤ a) (ha : a < mm_n M) (hn : mm_n M' = mm_n M) (hk : ∀ b, mm_k M' b = mm_k M b) (ho : ∀ b, b ≠ a → (∀ j, mm_i M' b j = mm_i M b j) ∧ (∀ j, mm_l M' b j = mm_l M b j) ∧ ∀ j, mm_r M' b j = mm_r M b j) (hz : H'.size = H.size) (hq : ∀ q : Nat, q ≠ cx_a cx a → H'[q]? = H[q]?) (hL : ∀ q ∈ L1, q.base = cx_a cx a) (hok : hp_ok cx M' H' a) : hp_I cx M' s H' (locs ++ L1) := by
  obtain ⟨J1, J2, J3⟩ := hp_put (j := 0) I h5 ha hn hk ho hz hq hok
  refine ⟨J1, ⟨J2.1, J2.2.1, fun q hq => ?_⟩, J3⟩
  rcases List.mem_append.mp hq with h | h
  · exact I.2.1.2.2 q h
  · rw [hL q h, cx_a_own h5]; exact Nat.le_add_right _ _
/-- System.arraycopy from a row of ints to another -/
theorem go_copy {a b n0 n1 k ix : Nat} {sp dp n : Int32} (ha : ak_ M a 0 n0) (hb : ak_ M b 0 n1) (hsp : sp = 0) (hdp : dp = 0) (hn : n = nI k) (h0 : k ≤ n0) (h1 : k ≤ n1) (hst : pv_cs st ≤ 8) (hf : 1 ≤ mt_f t ∧ 60 ≤ mt_l t) (hw : Cond.methodLink (mt_y t).cls ix arraycopyName ∈ tb_) (hnat : Cond.native arraycopyName ∈ tb_) (hstat : Cond.static arraycopyName ∈ tb_) (hini : Cond.initialized "java/lang/System" ∈ tb_) (d : decode (mt_b t) pc = .ok (.invokestatic ix, 3)) (kk : go_W t fr_C (pc + 3) ls st (mm_ws M b (va_cpy (mm_i M a) (mm_i M b) 0 0 k)) Q) : go_W t fr_C pc ls (pv_i n :: pv_i dp :: pv_r b :: pv_i sp :: pv_r a :: st) M Q := by
  intro cx l p e s m args below meth c H locs cells slots n0' s0 L F I N hl
  subst hsp
  subst hdp
  subst hn
  obtain ⟨ta, ka, k2, k3, k4, -⟩ := ha
  obtain ⟨tg, kb, g2, g3, g4, g5⟩ := hb
  obtain ⟨a5, alt, -, -, hca⟩ := hp_arr I k2 ka
  obtain ⟨b5, blt, -, bn, hcb⟩ := hp_arr I g2 kb
  rw [k3] at hca
  rw [g3] at hcb
  have hS := F.2.2.2.2.2.2.2.2
  have hA := (ar_K hS (y := 0) (by decide)).1
  have ecl : (nI k).toNatClampNeg = k := nI_clamp (by omega)
  have e0 : ((0 : Int32)).toNatClampNeg = 0 := rfl
  show W p l e _ s m args below meth c H locs cells slots _ (F0 m pc L (.int (nI k) :: .int 0 :: cx_v cx (pv_r b) :: .int 0 :: cx_v cx (pv_r a) :: st.map (cx_v cx)))
  rw [cx_v_ref (a := a) (by omega), cx_v_ref (a := b) (by omega)]
  have hnw : nativeFrameWords "java/lang/System" "arraycopy" 5 ≤ 30 := by decide +kernel
  have hroom : (((st.map (cx_v cx)).map fun v => v.category).sum) + (nativeFrameWords "java/lang/System" "arraycopy" 5 + 11) ≤ mt_l t := by
    rw [pv_cat2]
    omega
  refine gq_copy (f := mm_i M a) (g := mm_i M b) (sp := 0) (dp := 0) (n := nI k) F.1 F.2.1 (by rw [F.2.2.1]; exact hl.2.2.1.symm) F.2.2.2.2.2.2.1 (F.2.2.2.2.2.2.2.1 _ hw) (F.2.2.2.2.2.2.2.1 _ hnat) (F.2.2.2.2.2.2.2.1 _ hstat) (F.2.2.2.2.2.2.2.1 _ hini) hca hcb hA hA (by decide) (by decide) (nI_nn (by omega)) (by rw [ecl, e0]; omega) (by rw [ecl, e0]; omega) hf.1 hroom d (fun H1 L1 x1 x2 x3 x4 => ?_)
  rw [ecl, e0] at x1
  refine go_post (mm_S_ws (by rw [kb]; exact g5) (by rw [kb]; show tg ≠ 15; omega)) (kk cx l p e s m args below meth c H1 _ cells slots n0' s0 L F (hp_loc I b5 blt rfl (fun _ => rfl) (fun q hq => ⟨fun j => if_neg hq, fun _ => rfl, fun _ => rfl⟩) x2 x3 x4 (Or.inr ?_)) (gx_N_put N rfl (fun _ => rfl)) hl)
  rw [show mm_k (mm_ws M b (va_cpy (mm_i M a) (mm_i M b) 0 0 k)) b = mm_k M b from rfl, kb]
  refine ⟨g2, by rw [g3]; decide, bn, ?_⟩
  rw [x1, g3]
  have ef : (hp_w cx (mm_ws M b (va_cpy (mm_i M a) (mm_i M b) 0 0 k)) b 0) = fun q => Value.int (va_cpy (mm_i M a) (mm_i M b) 0 0 k q) := by
    funext q
    show Value.int (if b = b then _ else _) = _
    rw [if_pos rfl]
  rw [ef]
  rfl
/-- constructors of nest mates -/
theorem go_InN {a ix ci n : Nat} {av : List pv_T} (hc : ci < 12) (hk : mm_k M a = (ci, cl_n ci)) (ok : mt_okI t' n) (fit : mt_fit t t') (hw : ∀ (cx : cx_T) (s : State), gx_S cx s → va_Nw (.methodLinkNest (mt_y t).cls ix (mt_y t') "LaneStore") s) (hn : av.length = n) (hlen : n + 1 ≤ mt_n t') (h1 : ∀ v ∈ av, pv_1 v) (hst : pv_cs st ≤ 8) (hfr : ∀ k, fr' k = true → fr k = true) (d : decode (mt_b t) pc = .ok (.invokespecial ix, 3)) (hS : go_S t' fr' (pv_r a :: av) M Q') (kk : ∀ r M', Q' r M' → mm_S fr' M M' → go_W t fr (pc + 3) ls (r.toList ++ st) M' Q) : go_W t fr pc ls (av.reverse ++ pv_r a :: st) M Q := by
  intro cx l p e s m args below meth c H locs cells slots n0 s0 L F I N hl
  have ha : a ≠ 0 := by have := (hp_obj I hc hk).1; omega
  obtain ⟨N1, N2, N3, N4, N5, N6⟩ := id N
  have hmono := mm_t_mono (M := M) N3
  refine go_tight I.1 N ?_
  obtain ⟨hx, hb, hml, hr, hlk, hnm, hown, hts, hSx⟩ := id F
  have hM := gx_met ok.1 hS (by simp; omega) (fun v hv => (List.mem_cons.mp hv).elim (fun q => by rw [q]; exact pv_1r) (h1 v)) N4 N6 cx l
  have hgood : GoodIn tb_ (mt_ws t') := tb_good (mt_ws_in ok.1)
  have hstk : (av.reverse ++ pv_r a :: st).map (cx_v cx) = (av.map (cx_v cx)).reverse ++ .ref (cx_a cx a) :: st.map (cx_v cx) := by
    rw [List.map_append, List.map_reverse, List.map_cons, cx_v_ref ha]
  have hav : (Value.ref (cx_a cx a) :: av.map (cx_v cx)) = (pv_r a :: av).map (cx_v cx) := by
    rw [List.map_cons, cx_v_ref ha]
  have hws : mt_ws t' = Cond.code (mt_y t') (mt_b t') (mt_n t') none :: tb_ := by
    unfold mt_ws
    rw [ok.2.2.2]
  refine gq_back (va_runIN (b := cx_a cx a) (As := av.map (cx_v cx)) (rest := st.map (cx_v cx)) ⟨hx, hb, hml, hown, hts⟩ hM ⟨va_cnB n hts hgood hws rfl rfl (hw cx s hSx) (hts _ ok.1.2.2) ok.1.1.2 fit, ok.2.2.1, hts _ ok.2.1⟩ ⟨gx_P_blind, fun U hU hW => by rw [hav]; exact gx_pre hSx I hU hW⟩ rfl (by simpa using hn) hl.2.2.1 hstk (lv_room (by rw [pv_cat2]; exact hst)) d ⟨by show _ + _ ≤ nb_ - n0; omega, by show _ + _ ≤ sb_ - s0; omega⟩) I N hfr (fun r M' hQ hSm H' locs' I' N' => ?_)
  exact kk r M' hQ hSm cx l p e s m args below meth c H' locs' _ _ n0 s0 L F I' N' hl
end GoOdd
