/-! RETURNS AND CALLS. -/
theorem tb_good {ws : List Cond} (h : ∀ w ∈ ws, w ∈ tb_) : GoodIn tb_ ws := fun w hw => ⟨h w hw, good_of_word (List.mem_filter.mp (h w hw)).2⟩
section GoRet
variable {t : mt_T} {fr : Nat → Bool} {pc : Nat} {ls : List (Option pv_T)} {st : List pv_T} {M : mm_T} {Q : Option pv_T → mm_T → Prop}
theorem go_iret {x : Int32} {ty : FieldType} (hr : mt_r t = some ty) (hn : narrow ty (.int x) = .int x) (d : decode (mt_b t) pc = .ok (.ireturn, 1)) (h : Q (some (pv_i x)) M) : go_W t fr pc ls [pv_i x] M Q := by
  intro cx l p e s m args below meth c H locs cells slots n0 s0 L F I N hl
  obtain ⟨N1, N2, N3, N4, N5, N6⟩ := id N
  refine go_tight I.1 N (W.widen (k := nb_ - n0) (n := sb_ - s0) (by omega) (by omega) ?_)
  exact W.zret F.1 F.2.1 (F.2.2.2.1.trans hr) hn (fun u hu _ => ⟨some (pv_i x), M, rfl, h, mm_S_rf, N4, N6, by rw [hu]; exact I.1, I.2.1.F hu⟩) I.2.1.2.2 d F.2.2.2.2.1
theorem go_vret (hr : mt_r t = none) (d : decode (mt_b t) pc = .ok (.return_, 1)) (h : Q none M) : go_W t fr pc ls [] M Q := by
  intro cx l p e s m args below meth c H locs cells slots n0 s0 L F I N hl
  obtain ⟨N1, N2, N3, N4, N5, N6⟩ := id N
  refine go_tight I.1 N (W.widen (k := nb_ - n0) (n := sb_ - s0) (by omega) (by omega) ?_)
  exact W.vret F.1 F.2.1 (F.2.2.2.1.trans hr) (fun u hu _ => ⟨none, M, rfl, h, mm_S_rf, N4, N6, by rw [hu]; exact I.1, I.2.1.F hu⟩) I.2.1.2.2 d F.2.2.2.2.1
theorem go_lret {x : Int64} (hr : mt_r t = some .long) (d : decode (mt_b t) pc = .ok (.lreturn, 1)) (h : Q (some (pv_l x)) M) : go_W t fr pc ls [pv_l x] M Q := by
  intro cx l p e s m args below meth c H locs cells slots n0 s0 L F I N hl
  obtain ⟨N1, N2, N3, N4, N5, N6⟩ := id N
  refine go_tight I.1 N (W.widen (k := nb_ - n0) (n := sb_ - s0) (by omega) (by omega) ?_)
  exact W.lret F.1 F.2.1 (F.2.2.2.1.trans hr) (fun u hu _ => ⟨some (pv_l x), M, rfl, h, mm_S_rf, N4, N6, by rw [hu]; exact I.1, I.2.1.F hu⟩) I.2.1.2.2 d F.2.2.2.2.1
theorem go_aret {a : Nat} {ty : FieldType} (hr : mt_r t = some ty) (hy : ty_ref ty) (d : decode (mt_b t) pc = .ok (.areturn, 1)) (h : Q (some (pv_r a)) M) : go_W t fr pc ls [pv_r a] M Q := by
  intro cx l p e s m args below meth c H locs cells slots n0 s0 L F I N hl
  obtain ⟨N1, N2, N3, N4, N5, N6⟩ := id N
  refine go_tight I.1 N (W.widen (k := nb_ - n0) (n := sb_ - s0) (by omega) (by omega) ?_)
  exact W.aret (v := va_rf (cx_o cx a)) F.1 F.2.1 (F.2.2.2.1.trans hr) hy (by cases cx_o cx a with
    | none => exact Or.inl rfl
    | some b => exact Or.inr ⟨b, rfl⟩) (fun u hu _ => ⟨some (pv_r a), M, rfl, h, mm_S_rf, N4, N6, by rw [hu]; exact I.1, I.2.1.F hu⟩) I.2.1.2.2 d F.2.2.2.2.1
end GoRet
/-- what holds at a method's entry -/
def gx_P (cx : cx_T) (M : mm_T) (av : List pv_T) : Array Value → State → Prop := va_Pc (av.map (cx_v cx)) (fun U => gx_S cx U ∧ hp_A cx M U.heap ∧ hp_X cx M U U.heap)
theorem gx_P_blind {cx : cx_T} {M : mm_T} {av : List pv_T} : FrameBlind (gx_P cx M av) := by
  rintro a U g mk ⟨h1, h2, h3, h4⟩
  refine ⟨h1, gx_S_moved h2 (State.WarmedH.refl U) (Nat.le_refl _) (fun _ _ _ => rfl), h3, fun b hb hb5 => ?_⟩
  obtain ⟨x1, x2, x3⟩ := h4 b hb hb5
  exact ⟨x1, x2, va_X.moved (u := U) (Vm.Alike.refl U.vm) x3⟩
/-- static facts of a method: its class's name is plain, its descriptor has n parameters, its code stands in the tables -/
def mt_ok (t : mt_T) (n : Nat) : Prop := (plainName (mt_y t).cls = true ∧ (mt_y t).cls ≠ "java/lang/invoke/MethodHandle" ∧ (mt_y t).cls ≠ "java/lang/invoke/VarHandle" ∧ (parseMethodDescriptor (mt_y t).desc).map (fun d => d.parameters.length) = some n) ∧ Cond.code (mt_y t) (mt_b t) (mt_n t) (mt_r t) ∈ tb_ ∧ Cond.initialized (mt_y t).cls ∈ tb_
def mt_okV (t : mt_T) (n : Nat) : Prop := mt_ok t n ∧ Cond.instanceMethod (mt_y t) ∈ tb_ ∧ Cond.selects (mt_y t).cls (mt_y t) (mt_y t) ∈ tb_
def mt_okS (t : mt_T) (n : Nat) : Prop := mt_ok t n ∧ Cond.static (mt_y t) ∈ tb_
def mt_okI (t : mt_T) (n : Nat) : Prop := mt_ok t n ∧ Cond.instanceMethod (mt_y t) ∈ tb_ ∧ (mt_y t).name = "<init>" ∧ mt_r t = none
def mt_ws (t : mt_T) : List Cond := Cond.code (mt_y t) (mt_b t) (mt_n t) (mt_r t) :: tb_
theorem mt_ws_in {t : mt_T} {n : Nat} (h : mt_ok t n) : ∀ w ∈ mt_ws t, w ∈ tb_ := fun w hw => (List.mem_cons.mp hw).elim (fun e => by rw [e]; exact h.2.1) id
/-- a contract over the plain memory is a contract of the machine -/
theorem gx_met {t : mt_T} {fr : Nat → Bool} {av : List pv_T} {M : mm_T} {Q : Option pv_T → mm_T → Prop} {n : Nat} (ok : mt_ok t n) (h : go_S t fr av M Q) (hl : av.length ≤ mt_n t) (h1 : ∀ v ∈ av, pv_1 v) (hM : mm_n M ≤ nb_) (hT : mm_t M (mm_n M) ≤ sb_) (cx : cx_T) (l : Launch) :
    Met l (mt_y t) (mt_ws t) (mt_R t (mm_n M) (mm_t M (mm_n M))) (gx_P cx M av) (gx_Q cx M fr Q) (nb_ - mm_n M) (sb_ - mm_t M (mm_n M)) (fun q => cx.1 ≤ q) := by
  refine Met.ofW (cc := mt_b t) (maxL := mt_n t) (ret := mt_r t) ok.1.1 rfl ?_
  intro p e s m args below meth c s₁ B hml hv
  obtain ⟨rfl, hS, hA, hX⟩ := hv
  have hts := atoms_spec (ws := mt_ws t) B.pre
  rw [lg_entry_eq]
  exact h cx l p e s m _ below meth c s.heap [] 0 0 (mm_n M) (mm_t M (mm_n M)) _ ⟨B.exec, B.bytes, hml, B.returns, B.notSynchronized, (name_of_methodNamed B.named B.method).1, findClass_of_methodNamed B.named, fun w hw => hts w (List.mem_cons_of_mem _ hw), hS⟩ ⟨hA, va_S.rf, hX⟩ ⟨hA.2.1, hA.1, Nat.le_refl _, hM, rfl, hT⟩ (cx_L_entry hl h1)
section GoCall
variable {t t' : mt_T} {fr fr' : Nat → Bool} {pc : Nat} {ls : List (Option pv_T)} {st : List pv_T} {M : mm_T} {Q Q' : Option pv_T → mm_T → Prop}
section GoCallW
variable {p : Program} {l : Launch} {e : Env} {R : Room} {s : State} {m : MethodId} {args a : Array Value} {below : List Frame} {meth : Method} {c : Code} {H : Heap} {locs : List Loc} {cells slots mc ms n0 s0 : Nat} {L : Array Slot} {st0 : List Value} {cx : cx_T} {free : Addr → Prop}
/-- behind a call -/
theorem gq_back (hr : va_Run p l e R s m args below meth c H locs cells slots mc ms (F0 m pc L st0) (st.map (cx_v cx)) (gx_Q cx M fr' Q' a) (fun q => cx.1 ≤ q)) (I : hp_I cx M s H locs) (N : gx_N cx M s n0 s0) (hfr : ∀ k, fr' k = true → fr k = true)
    (kk : ∀ (r : Option pv_T) (M' : mm_T), Q' r M' → mm_S fr' M M' → ∀ (H' : Heap) (locs' : List Loc), hp_I cx M' s H' locs' → gx_N cx M' s n0 s0 → W p l e R s m args below meth c H' locs' (cells + mc) (slots + ms) (MQ below (gx_Q cx M' fr Q) args s (nb_ - n0) (sb_ - s0) free) (F0 m (pc + 3) L ((r.toList ++ st).map (cx_v cx)))) : W p l e R s m args below meth c H locs cells slots (MQ below (gx_Q cx M fr Q) args s (nb_ - n0) (sb_ - s0) free) (F0 m pc L st0) := by
  intro T hT X
  obtain ⟨v, st₀, u, T', Lc, h0, X', hL, e1, e2, ⟨r, M', hv, hQ, hSm, hM', hT', hA', hF⟩, stp⟩ := hr T hT X
  have hv' : v = r.map (cx_v cx) := by cases hv; rfl
  obtain ⟨hz, hk⟩ := hF
  rw [h0] at hz hk
  obtain ⟨⟨I1, I2, I3, I4⟩, ⟨S1, S2, S3⟩, I6⟩ := I
  obtain ⟨N1, N2, N3, N4, N5, N6⟩ := N
  have I' : hp_I cx M' s T'.heap (locs ++ Lc) := by
    refine ⟨by rw [e1]; exact hA', ⟨by rw [e1]; omega, fun q h1 h2 => by rw [e1, hk q (by omega) h2]; exact S2 q h1 h2, fun q hq => ?_⟩, fun b hb1 hb5 => ?_⟩
    · rcases List.mem_append.mp hq with h | h
      · exact S3 q h
      · exact hL q h
    · obtain ⟨o1, -, -⟩ := hSm.2.2 b (by omega) (Or.inr (I6 b hb1 hb5).1)
      rw [hSm.2.1 b (by omega), show mm_i M' b = mm_i M b from funext o1]
      exact I6 b hb1 hb5
  have N' : gx_N cx M' s n0 s0 := ⟨N1, N2, Nat.le_trans N3 hSm.1, hM', by rw [mm_t_eq (M := M) (fun b hb => hSm.2.1 b (by omega))]; exact N5, hT'⟩
  obtain ⟨t2, a1, b1⟩ := go_post (mm_S_up hSm hfr) (kk r M' hQ hSm T'.heap (locs ++ Lc) I' N') T' rfl X'
  refine ⟨t2, stp t2 ?_, b1⟩
  have hst : v.toList ++ st.map (cx_v cx) = (r.toList ++ st).map (cx_v cx) := by
    rw [hv', List.map_append]
    cases r <;> rfl
  show Steps p.tables e below (T'.setTop (F0 m (pc + 3) L (v.toList ++ st.map (cx_v cx)))) t2
  rw [hst]
  exact a1
end GoCallW
def pv_c (v : pv_T) : Nat := match v with
  | .inl _ => 1
  | .inr (.inl _) => 2
  | .inr (.inr _) => 1
def pv_cs : List pv_T → Nat
  | [] => 0
  | v :: q => pv_c v + pv_cs q
theorem pv_cat2 {cx : cx_T} : ∀ {st : List pv_T}, ((st.map (cx_v cx)).map fun v => v.category).sum = pv_cs st
  | [] => rfl
  | v :: q => by
    have ih := pv_cat2 (cx := cx) (st := q)
    have hc : (cx_v cx v).category = pv_c v := by
      rcases v with x | x | a
      · rfl
      · rfl
      · show (va_rf (cx_o cx a)).category = 1
        cases cx_o cx a <;> rfl
    simp only [List.map_cons, List.sum_cons, hc, ih, pv_cs]
theorem gx_pre {cx : cx_T} {s : State} {H : Heap} {locs : List Loc} (hS : gx_S cx s) (I : hp_I cx M s H locs) {av : List pv_T} {U : State} (hU : U.heap = H) (hW : s.WarmedH U.vm) : gx_P cx M av (av.map (cx_v cx)).toArray U := by
  refine ⟨rfl, gx_S_moved hS hW (by rw [hU]; exact I.2.1.1) (fun q h1 h2 => by rw [hU]; exact I.2.1.2.1 q h1 h2), by rw [hU]; exact I.1, fun b hb hb5 => ?_⟩
  obtain ⟨x1, x2, x3⟩ := I.2.2 b hb hb5
  refine ⟨x1, x2, ?_⟩
  have := x3.moved hW.alike
  refine this.kept ?_
  rw [hU]
  have hlt := hS.2.2.1 b hb hb5
  exact I.2.1.2.1 _ (by have := hS.2.1; omega) (by omega)
/-- room for a call -/
def mt_fit (t t' : mt_T) : Prop := mt_f t' + 1 ≤ mt_f t ∧ 8 + (mt_n t' + 11) + mt_l t' ≤ mt_l t
theorem go_V {a ix ci n : Nat} {av : List pv_T} (ok : mt_okV t' n) (fit : mt_fit t t') (hw : Cond.methodLink (mt_y t).cls ix (mt_y t') ∈ tb_) (hn : av.length = n) (hl : n + 1 ≤ mt_n t') (h1 : ∀ v ∈ av, pv_1 v) (hst : pv_cs st ≤ 8) (hfr : ∀ k, fr' k = true → fr k = true) (hc : ci < 12) (hC : (mt_y t').cls = cl_C ci) (hk : mm_k M a = (ci, cl_n ci)) (d : decode (mt_b t) pc = .ok (.invokevirtual ix, 3)) (hS : go_S t' fr' (pv_r a :: av) M Q') (kk : ∀ r M', Q' r M' → mm_S fr' M M' → go_W t fr (pc + 3) ls (r.toList ++ st) M' Q) : go_W t fr pc ls (av.reverse ++ pv_r a :: st) M Q := by
  intro cx l p e s m args below meth c H locs cells slots n0 s0 L F I N hl
  obtain ⟨N1, N2, N3, N4, N5, N6⟩ := id N
  have hmono := mm_t_mono (M := M) N3
  refine go_tight I.1 N ?_
  obtain ⟨hx, hb, hml, hr, hlk, hnm, hown, hts, hSx⟩ := id F
  obtain ⟨h5, hlt, cell, e1, e2, e3, -, -⟩ := hp_obj I hc hk
  have hfc : s.vm.findClass (cl_C ci) = some (cx.2.2.1.1 ci) := (hSx.1.1 ci _ (cl_at hc)).2.1
  have hM := gx_met ok.1 hS (by simp; omega) (fun v hv => (List.mem_cons.mp hv).elim (fun q => by rw [q]; exact pv_1r) (h1 v)) N4 N6 cx l
  have hgood : GoodIn tb_ (wsV (mt_y t).cls ix (cl_C ci) (mt_y t') (mt_ws t')) := tb_good (fun w hw' => by
    unfold wsV at hw'
    rcases List.mem_append.mp hw' with q | q
    · simp only [List.mem_cons, List.not_mem_nil, or_false] at q
      rcases q with rfl | rfl | rfl | rfl
      · exact hw
      · exact ok.2.1
      · rw [← hC]; exact ok.2.2
      · rw [← hC]; exact ok.1.2.2
    · exact mt_ws_in ok.1 w q)
  have hstk : (av.reverse ++ pv_r a :: st).map (cx_v cx) = (av.map (cx_v cx)).reverse ++ .ref (cx_a cx a) :: st.map (cx_v cx) := by
    rw [List.map_append, List.map_reverse, List.map_cons, cx_v_ref (by omega)]
  have hav : (Value.ref (cx_a cx a) :: av.map (cx_v cx)) = (pv_r a :: av).map (cx_v cx) := by
    rw [List.map_cons, cx_v_ref (by omega)]
  refine gq_back (va_runV (C := cl_C ci) (b := cx_a cx a) (As := av.map (cx_v cx)) (rest := st.map (cx_v cx)) ⟨hx, hb, hml, hown, hts⟩ hM (cwV n hts hgood rfl rfl rfl ⟨hC, ok.1.1.2⟩ fit) ⟨gx_P_blind, ⟨cell, e1, by rw [e3]; rfl, by rw [e2]; exact hfc⟩, fun U hU hW => by rw [hav]; exact gx_pre hSx I hU hW⟩ rfl (by simpa using hn) hl.2.2.1 hstk (lv_room (by rw [pv_cat2]; exact hst)) d ⟨by show _ + _ ≤ nb_ - n0; omega, by show _ + _ ≤ sb_ - s0; omega⟩) I N hfr (fun r M' hQ hSm H' locs' I' N' => ?_)
  exact kk r M' hQ hSm cx l p e s m args below meth c H' locs' _ _ n0 s0 L F I' N' hl

theorem go_St {ix n : Nat} {av : List pv_T} (ok : mt_okS t' n) (fit : mt_fit t t') (hw : Cond.methodLink (mt_y t).cls ix (mt_y t') ∈ tb_) (hn : av.length = n) (hlen : n ≤ mt_n t') (h1 : ∀ v ∈ av, pv_1 v) (hst : pv_cs st ≤ 8) (hfr : ∀ k, fr' k = true → fr k = true) (d : decode (mt_b t) pc = .ok (.invokestatic ix, 3)) (hS : go_S t' fr' av M Q') (kk : ∀ r M', Q' r M' → mm_S fr' M M' → go_W t fr (pc + 3) ls (r.toList ++ st) M' Q) : go_W t fr pc ls (av.reverse ++ st) M Q := by
  intro cx l p e s m args below meth c H locs cells slots n0 s0 L F I N hl
  obtain ⟨N1, N2, N3, N4, N5, N6⟩ := id N
  have hmono := mm_t_mono (M := M) N3
  refine go_tight I.1 N ?_
  obtain ⟨hx, hb, hml, hr, hlk, hnm, hown, hts, hSx⟩ := id F
  have hM := gx_met ok.1 hS (by omega) h1 N4 N6 cx l
  have hgood : GoodIn tb_ (mt_ws t') := tb_good (mt_ws_in ok.1)
  have hstk : (av.reverse ++ st).map (cx_v cx) = (av.map (cx_v cx)).reverse ++ st.map (cx_v cx) := by
    rw [List.map_append, List.map_reverse]
  refine gq_back (va_runS (As := av.map (cx_v cx)) (rest := st.map (cx_v cx)) ⟨hx, hb, hml, hown, hts⟩ hM ⟨callB_of n hts hgood rfl rfl rfl (hts _ ok.1.2.2) (hts _ hw) ok.1.1.2 fit, hts _ ok.2⟩ ⟨gx_P_blind, fun U hU hW => gx_pre hSx I hU hW⟩ rfl (by simpa using hn) hl.2.2.1 hstk (lv_room (by rw [pv_cat2]; exact hst)) d ⟨by show _ + _ ≤ nb_ - n0; omega, by show _ + _ ≤ sb_ - s0; omega⟩) I N hfr (fun r M' hQ hSm H' locs' I' N' => ?_)
  exact kk r M' hQ hSm cx l p e s m args below meth c H' locs' _ _ n0 s0 L F I' N' hl
theorem go_In {a ix n : Nat} {av : List pv_T} (ok : mt_okI t' n) (fit : mt_fit t t') (hw : Cond.methodLink (mt_y t).cls ix (mt_y t') ∈ tb_) (hn : av.length = n) (hlen : n + 1 ≤ mt_n t') (h1 : ∀ v ∈ av, pv_1 v) (hst : pv_cs st ≤ 8) (hfr : ∀ k, fr' k = true → fr k = true) (ha : a ≠ 0) (d : decode (mt_b t) pc = .ok (.invokespecial ix, 3)) (hS : go_S t' fr' (pv_r a :: av) M Q') (kk : ∀ r M', Q' r M' → mm_S fr' M M' → go_W t fr (pc + 3) ls (r.toList ++ st) M' Q) : go_W t fr pc ls (av.reverse ++ pv_r a :: st) M Q := by
  intro cx l p e s m args below meth c H locs cells slots n0 s0 L F I N hl
  obtain ⟨N1, N2, N3, N4, N5, N6⟩ := id N
  have hmono := mm_t_mono (M := M) N3
  refine go_tight I.1 N ?_
  obtain ⟨hx, hb, hml, hr, hlk, hnm, hown, hts, hSx⟩ := id F
  have hM := gx_met ok.1 hS (by simp; omega) (fun v hv => (List.mem_cons.mp hv).elim (fun q => by rw [q]; exact pv_1r) (h1 v)) N4 N6 cx l
  have hgood : GoodIn tb_ (mt_ws t') := tb_good (mt_ws_in ok.1)
  have hstk : (av.reverse ++ pv_r a :: st).map (cx_v cx) = (av.map (cx_v cx)).reverse ++ .ref (cx_a cx a) :: st.map (cx_v cx) := by
    rw [List.map_append, List.map_reverse, List.map_cons, cx_v_ref ha]
  have hav : (Value.ref (cx_a cx a) :: av.map (cx_v cx)) = (pv_r a :: av).map (cx_v cx) := by
    rw [List.map_cons, cx_v_ref ha]
  have hws : mt_ws t' = Cond.code (mt_y t') (mt_b t') (mt_n t') none :: tb_ := by
    unfold mt_ws
    rw [ok.2.2.2]
  refine gq_back (va_runI (b := cx_a cx a) (As := av.map (cx_v cx)) (rest := st.map (cx_v cx)) ⟨hx, hb, hml, hown, hts⟩ hM (cwI n hts hgood hws rfl rfl (hts _ ok.1.2.2) (hts _ hw) (hts _ ok.2.1) ok.2.2.1 ok.1.1.2 fit) ⟨gx_P_blind, fun U hU hW => by rw [hav]; exact gx_pre hSx I hU hW⟩ rfl (by simpa using hn) hl.2.2.1 hstk (lv_room (by rw [pv_cat2]; exact hst)) d ⟨by show _ + _ ≤ nb_ - n0; omega, by show _ + _ ≤ sb_ - s0; omega⟩) I N hfr (fun r M' hQ hSm H' locs' I' N' => ?_)
  exact kk r M' hQ hSm cx l p e s m args below meth c H' locs' _ _ n0 s0 L F I' N' hl
theorem go_objInit {a ix : Nat} (ha : a ≠ 0) (hst : pv_cs st ≤ 8) (hf : 1 ≤ mt_f t ∧ 20 ≤ mt_l t) (hw : Cond.methodLink (mt_y t).cls ix Lib.objectInit ∈ tb_) (hi : Cond.instanceMethod Lib.objectInit ∈ tb_) (hc : Cond.code Lib.objectInit ⟨#[0xb1]⟩ 1 none ∈ tb_) (d : decode (mt_b t) pc = .ok (.invokespecial ix, 3)) (kk : go_W t fr (pc + 3) ls st M Q) : go_W t fr pc ls (pv_r a :: st) M Q := by
  intro cx l p e s m args below meth c H locs cells slots n0 s0 L F I N hl
  show W p l e _ s m args below meth c H locs cells slots _ (F0 m pc L (cx_v cx (pv_r a) :: st.map (cx_v cx)))
  rw [cx_v_ref ha]
  have h2 := pv_cat2 (cx := cx) (st := st)
  exact W.objInit F.1 F.2.1 F.2.2.2.2.2.2.1 (F.2.2.2.2.2.2.2.1 _ hw) (F.2.2.2.2.2.2.2.1 _ hi) (F.2.2.2.2.2.2.2.1 _ hc) rfl (by show L.size = _; rw [hl.2.2.1]; exact F.2.2.1.symm) rfl d hf.1 (by show 2 * 0 + _ + 12 ≤ mt_l t; omega) (kk cx l p e s m args below meth c H locs cells slots n0 s0 L F I N hl)
end GoCall
