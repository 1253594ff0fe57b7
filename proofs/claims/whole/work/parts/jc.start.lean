/-! THE CLAIM OUT OF ONE WALK OF THE LAW'S BODY. Your part is whole_start (and what it stands on); all else here is the same for every law, but numbers. -/
def R_law : String := "LaneStoreLaw"
def lw_P (b : Addr) (xs : List Int32) (args : Array Value) (s : State) : Prop := args = #[.ref b] ∧ s.IntsAt b xs ∧ xs.length ≤ 3072 ∧ (Jvm.Cond.and given_1 narrow_1).before args s = true
def lw_Q (_ : Array Value) (s : State) (o : Outcome) (t : State) : Prop := o = .returned (some (.int 1)) ∧ Framed s o t [] 600000 7302250
def lw_Z (below : List Frame) (a : Array Value) (s : State) : State → Prop := fun t => ∃ o, t.status = .running ∧ Ended t below o ∧ lw_Q a s o t
/-- the law's own end, with 1 on the stack, nothing written that was there before, its room as the claim has it -/
theorem lw_ret {p : Program} {l : Launch} {e : Env} {s : State} {m : MethodId} {below : List Frame} {meth : Method} {c : Code} {b : Nat} (hx : p.tables.exec = Jvm.exec) (hb : c.code = code) (hr : meth.sig.returnType = ret) (hlocks : meth.locks = false) {pc : Nat} {H : Heap} {ls : Array Slot} (hdg : decode code pc = .ok (.ireturn, 1)) : W p l e room_1 s m #[Value.ref b] below meth c H [] 600000 7302250 (lw_Z below #[Value.ref b] s) (F0 m pc ls [.int 1]) := by
  intro T hT X
  obtain ⟨fs, hret, hrun, hended, hW, hframe⟩ := X.leave (v := some (.int 1)) (hlocks := hlocks) (fun h => by rw [hr] at h; cases h)
  have hmeth' : T.vm.method? m = some meth := X.method'
  refine ⟨T.setFrames fs, ?_, .returned (some (.int 1)), hrun, hended, rfl, ⟨_, rfl⟩, hW, hframe⟩
  jvm_step X.here [X.here.top, hx, hb, hdg, hmeth', hr, ret, narrow_b1]
  (try refine ⟨rfl, ?_⟩); (try refine ⟨rfl, ?_⟩)
  first | (intro acts; rw [hret _ acts rfl rfl rfl]) | rw [hret _ _ rfl rfl rfl]
  exact Steps.refl _
/-- what holds at the law's entry: the machine, the code, the tables' words (any of lw_tbl by 'hts w (by decide +kernel)'), the script of L ints xs at the cell b, what the Statement gives of the start (any of its parts by flat_of_before) -/
def lw_At (p : Program) (s : State) (m : MethodId) (meth : Method) (c : Code) (b L : Nat) (xs : Nat → Int32) : Prop :=
  p.tables.exec = Jvm.exec ∧ c.code = code ∧ meth.sig.returnType = ret ∧ c.maxLocals = 4 ∧ s.vm.findClass R_law = some m.cls ∧ (∀ w ∈ lw_tbl, w.before #[Value.ref b] s = true) ∧ va_X b L xs s s.heap ∧ b < s.heap.size ∧ meth.locks = false ∧ (Jvm.Cond.and given_1 narrow_1).before #[Value.ref b] s = true
-- ===== YOUR PART BEGINS =====
/-- YOUR PART: from the entry, for every script of at most 3072 ints, the law comes to its end with true ('hflags': the launch's flags, for a law that throws: no stack traces) -/
theorem whole_start {p : Program} {e : Env} {s : State} {m : MethodId} {below : List Frame} {meth : Method} {c : Code} (l : Launch) (hflags : l.flags = flags0) {b L : Nat} {xs : Nat → Int32} (hL : L ≤ 3072) (C0 : lw_At p s m meth c b L xs) : W p l e room_1 s m #[Value.ref b] below meth c s.heap [] 0 0 (lw_Z below #[Value.ref b] s) (entryFrame m ([Value.ref b] : List Value).toArray 4) := by
  obtain ⟨hx, hb, hr, hml, hown, hts, hX, hbl, hlocks, hgv⟩ := id C0
  have hfl := flat_of_before _ hgv
  have tin : ∀ {w : Cond}, w ∈ tb_ → w ∈ lw_tbl := fun h => (List.mem_filter.mp h).1
  have ini : (Cond.initialized "LaneStore").before #[Value.ref b] s = true := hts _ (tin ni_X10)
  have hA : ∀ a : Nat, a < s.heap.size → ¬ (fun q : Nat => s.heap.size ≤ q) a := fun a h q => absurd h (Nat.not_lt.mpr q)
  have e2 : ∀ j : Nat, j < 6 → (Cond.eq (.elem (.static "LaneStore" "FIRST_RULES" "[I") (.int (Int32.ofNat j))) (.int (inb_ (4 + j)))).before #[Value.ref b] s = true := fun j hj => by
    have : j = 0 ∨ j = 1 ∨ j = 2 ∨ j = 3 ∨ j = 4 ∨ j = 5 := by omega
    rcases this with rfl | rfl | rfl | rfl | rfl | rfl <;> exact hfl _ (by decide +kernel)
  have e3 : ∀ j : Nat, j < 6 → (Cond.eq (.elem (.static "LaneStore" "TOP_RULES" "[I") (.int (Int32.ofNat j))) (.int (nI (if j < 2 then 99 else if j = 2 then 20 else if j = 4 then 48 else 9)))).before #[Value.ref b] s = true := fun j hj => by
    have : j = 0 ∨ j = 1 ∨ j = 2 ∨ j = 3 ∨ j = 4 ∨ j = 5 := by omega
    rcases this with rfl | rfl | rfl | rfl | rfl | rfl <;> exact hfl _ (by decide +kernel)
  have e4 : ∀ j : Nat, j < 3 → (Cond.eq (.elem (.static "LaneStore" "TOP_OF_LANE" "[I") (.int (Int32.ofNat j))) (.int (nI (if j = 0 then 9 else if j = 1 then 32 else 6)))).before #[Value.ref b] s = true := fun j hj => by
    have : j = 0 ∨ j = 1 ∨ j = 2 := by omega
    rcases this with rfl | rfl | rfl <;> exact hfl _ (by decide +kernel)
  obtain ⟨t2, c2, v2, l2, x2, y2, z2⟩ := st_arr (N := 6) (f := fun j => inb_ (4 + j)) (by decide) (hfl (.arrayOf (.static "LaneStore" "FIRST_RULES" "[I") .int) (by decide +kernel)) (hfl _ (by decide +kernel)) e2 (hfl _ (by decide +kernel))
  obtain ⟨t3, c3, v3, l3, x3, y3, z3⟩ := st_arr (N := 6) (f := fun j => nI (if j < 2 then 99 else if j = 2 then 20 else if j = 4 then 48 else 9)) (by decide) (hfl (.arrayOf (.static "LaneStore" "TOP_RULES" "[I") .int) (by decide +kernel)) (hfl _ (by decide +kernel)) e3 (hfl _ (by decide +kernel))
  obtain ⟨t4, c4, v4, l4, x4, y4, z4⟩ := st_arr (N := 3) (f := fun j => nI (if j = 0 then 9 else if j = 1 then 32 else 6)) (by decide) (hfl (.arrayOf (.static "LaneStore" "TOP_OF_LANE" "[I") .int) (by decide +kernel)) (hfl _ (by decide +kernel)) e4 (hfl _ (by decide +kernel))
  have hKn : ∀ c, c < 12 → ∃ (cC : ClassId) (iS : Nat → Nat), u_Kn s (cl_C c) (cl_T c) (cl_n c) cC iS := fun c hc => u_known (ws := tb_) (args := #[Value.ref b]) (fun w hw => hts w (tin hw)) (cl_in hc) (hts _ (tin (nw_c hc)))
  obtain ⟨dC, dI, hD⟩ : ∃ (dC : Nat → ClassId) (dI : Nat → Nat → Nat), ∀ c, c < 12 → u_Kn s (cl_C c) (cl_T c) (cl_n c) (dC c) (dI c) := by
    refine ⟨fun c => if h : c < 12 then (hKn c h).choose else 0, fun c => if h : c < 12 then (hKn c h).choose_spec.choose else fun _ => 0, fun c h => ?_⟩
    simp only [dif_pos h]
    exact (hKn c h).choose_spec.choose_spec
  obtain ⟨cA, hcA⟩ : ∃ cA : Nat → ClassId, ∀ y, y < 6 → ArrOfT s (cA y) (ar_y y) ∧ va_RA s (cA y) (ar_y y) := by
    refine ⟨fun y => if h : y < 6 then (ar_of hts h).choose else 0, fun y h => ?_⟩
    simp only [dif_pos h]
    exact (ar_of hts h).choose_spec
  obtain ⟨cx, hcx⟩ : ∃ cx : cx_T, cx = (s.heap.size, fun a => if a = 1 then b else if a = 2 then t2 else if a = 3 then t3 else t4, (dC, dI), cA) := ⟨_, rfl⟩
  have a1 : cx.2.1 1 = b := by rw [hcx]; rfl
  have a2 : cx.2.1 2 = t2 := by rw [hcx]; rfl
  have a3 : cx.2.1 3 = t3 := by rw [hcx]; rfl
  have a4 : cx.2.1 4 = t4 := by rw [hcx]; rfl
  have a0 : cx.1 = s.heap.size := by rw [hcx]
  have aG : cx.2.2.1 = (dC, dI) := by rw [hcx]
  have aA : cx.2.2.2 = cA := by rw [hcx]
  have o4 : ∀ a, 1 ≤ a → a < 5 → a = 1 ∨ a = 2 ∨ a = 3 ∨ a = 4 := fun a h1 h5 => by omega
  have hS : gx_S cx s := by
    refine ⟨⟨fun k q hq => ?_, fun k q hq => ?_⟩, by rw [a0]; exact Nat.le_refl _, fun a h1 h5 => ?_, by rw [a0, a2]; exact va_Zref (hts _ ls_FIRST_RULES) ini v2 hA, by rw [a0, a3]; exact va_Zref (hts _ ls_TOP_RULES) ini v3 hA, by rw [a0, a4]; exact va_Zref (hts _ ls_TOP_OF_LANE) ini v4 hA, va_Nw.of rfl (hts _ fn_X0_30), va_Nw.of rfl (hts _ mn_X10_53), va_Nw.of rfl (hts _ mn_X10_60), va_Nw.of rfl (hts _ mn_X10_67), va_Nw.of rfl (hts _ ca_I), fun y h2 h6 => ?_, c2, by rw [a2]; exact y2, ?_⟩
    · have hk : k < 12 := by
        have := (List.getElem?_eq_some_iff.mp hq).1
        exact this
      have := (cl_at hk).symm.trans hq
      cases this
      rw [aG]
      exact hD k hk
    · have hk : k < 6 := by
        have := (List.getElem?_eq_some_iff.mp hq).1
        simpa [cx_ty] using this
      have := (cx_ty_at cx hk).symm.trans hq
      cases this
      rw [aA]
      exact hcA k hk
    · rcases o4 a h1 h5 with rfl | rfl | rfl | rfl
      · rw [a1, a0]; exact hbl
      · rw [a2, a0]; exact l2
      · rw [a3, a0]; exact l3
      · rw [a4, a0]; exact l4
    · have : y = 2 ∨ y = 3 ∨ y = 4 ∨ y = 5 := by omega
      rcases this with rfl | rfl | rfl | rfl
      · exact va_AO.of (hts _ ao_X3)
      · exact va_AO.of (hts _ ao_X6)
      · exact va_AO.of (hts _ ao_X7)
      · exact va_AO.of (hts _ ao_X9)
    · rw [aA]
      exact Option.some.inj (z2.symm.trans (va_nm_int (hcA 0 (by decide)).2))
  have hI : hp_I cx (m0_ L xs) s s.heap [] := by
    refine ⟨⟨Nat.le_refl 5, by rw [a0]; rfl, fun a h5 hn => absurd hn (Nat.not_lt.mpr h5), rfl⟩, va_S.rf, fun a h1 h5 => ?_⟩
    rcases o4 a h1 h5 with rfl | rfl | rfl | rfl
    · exact ⟨rfl, (by show L < 2 ^ 31; omega), by rw [a1]; exact hX⟩
    · exact ⟨rfl, (by show 6 < 2 ^ 31; decide), by rw [a2]; exact x2⟩
    · exact ⟨rfl, (by show 6 < 2 ^ 31; decide), by rw [a3]; exact x3⟩
    · exact ⟨rfl, (by show 3 < 2 ^ 31; decide), by rw [a4]; exact x4⟩
  have kk := law_S (M0 := m0_ L xs) (N := L) (nm := meth.name) (Q := fun r _ => r = some (pv_i 1)) rfl hL rfl rfl (fun k _ => rfl) ⟨rfl, fun k _ => rfl⟩ ⟨rfl, fun k _ => rfl⟩ (fun _ => rfl)
  have w := kk cx l p e s m #[Value.ref b] below meth c s.heap [] 0 0 5 0 _ ⟨hx, hb, hml, hr, hlocks, rfl, hown, fun w hw => hts w (tin hw), hS⟩ hI ⟨(by rw [a0]; rfl), Nat.le_refl 5, Nat.le_refl 5, Nat.le_of_ble_eq_true rfl, rfl, Nat.zero_le _⟩ (cx_L_entry (av := [pv_r 1]) (n := 4) (by decide) (fun v hv => by simp only [List.mem_cons, List.not_mem_nil, or_false] at hv; rw [hv]; exact pv_1r))
  have ev : [pv_r 1].map (cx_v cx) = [Value.ref b] := by
    rw [List.map_cons, List.map_nil, cx_v_ref (by decide), show cx_a cx 1 = cx.2.1 1 from rfl, a1]
  rw [ev] at w
  rw [lg_entry_eq]
  refine go_mono (fun t ht => ?_) w
  obtain ⟨o, h1, h2, ⟨r, M', h3, h4, h5⟩, Lx, h7, h8⟩ := ht
  subst h4
  exact ⟨o, h1, h2, h3, fr_nil h7 (fun q hq => by have := h8 q hq; rw [a0] at this; exact this)⟩
-- ===== YOUR PART ENDS =====
set_option maxHeartbeats 4000000 in
theorem lw_walk (l : Launch) (hflags : l.flags = flags0) (b : Addr) (xs : List Int32) : MetFree l x (headSpec (Jvm.Cond.code x code maxLocals ret :: tables_1) room_1) (lw_P b xs) (fun _ _ _ _ _ => True) lw_Q := by
  refine MetFree.of_bodyS (code := code) (maxLocals := maxLocals) (ret := ret) (by decide) ?_ ?_
  · intro args s m h hn
    obtain ⟨meth, c, h1, h2, h3, h4, h5, h6, -, -⟩ := Cond.code_spec hn (atoms_spec (ws := Jvm.Cond.code x code maxLocals ret :: tables_1) h _ List.mem_cons_self)
    exact ⟨meth, c, h1, h2, h3, h4, h5, h6⟩
  · intro p e s m args below meth c s₁ B hml0 hP _
    obtain ⟨rfl, hx, hbd, hgv⟩ := hP
    obtain ⟨scr, harrAt, hlist, hof, hsmall⟩ := hx
    obtain ⟨hcb, hkn, -, -⟩ := State.arrayAt?_spec harrAt
    have hown : s.vm.findClass R_law = some m.cls := findClass_of_methodNamed B.named
    have hts0 : ∀ c ∈ (Jvm.Cond.code x code maxLocals ret :: tables_1), c.before #[Value.ref b] s = true := atoms_spec (ws := Jvm.Cond.code x code maxLocals ret :: tables_1) B.pre
    have hts : ∀ w ∈ lw_tbl, w.before #[Value.ref b] s = true := k2_hts_sels lw_privs (fun w hw => hts0 w (List.mem_cons_of_mem _ hw)) lw_privs_ok
    have hml : c.maxLocals = 4 := B.maxLocals_eq (hts0 _ List.mem_cons_self)
    have X₀ : Stand p l e room_1 s m #[Value.ref b] below meth c s₁ [] 0 0 := Stand.of_body B
    have hh0 : s₁.heap = s.heap := by rw [B.state]; rfl
    have hsz : scr.slots.size = xs.length := by rw [← Array.length_toList, hlist, List.length_map]
    have hval : ∀ j : Nat, j < xs.length → scr.slots[j]? = some (.int (xs.getD j 0)) := fun j hj => by
      rw [← Array.getElem?_toList, hlist]
      simp [hj]
    have hbl : b < s.heap.size := (Array.getElem?_eq_some_iff.mp hcb).1
    have hX : va_X b xs.length (fun j => xs.getD j 0) s s.heap := ⟨scr, hcb, hof, hkn, hsz, hval⟩
    have K : W p l e room_1 s m #[Value.ref b] below meth c s₁.heap [] 0 0 (lw_Z below #[Value.ref b] s) (entryFrame m ([Value.ref b] : List Value).toArray 4) := by
      rw [hh0]
      exact whole_start l hflags hbd ⟨B.exec, B.bytes, B.returns, hml, hown, hts, hX, hbl, B.notSynchronized, hgv⟩
    obtain ⟨t, a1, o, b1, b2, b3⟩ := K s₁ rfl X₀
    exact ⟨t, o, a1, b1, b2, b3⟩
theorem lw_pre_spec {args : Array Value} {s : State} (h : (Jvm.Cond.and given_1 narrow_1).before args s = true) (hr : rest_1_c.before args s = true) : ∃ (b : Addr) (xs : List Int32), lw_P b xs args s := by
  have hs := flat_of_before _ h
  have hq := flat_of_before _ hr
  have hc : (Cond.count 1).before args s = true := hs _ (by decide +kernel)
  have harr : (Cond.arrayOf (.arg 0) .int).before args s = true := hs _ (by decide +kernel)
  have hle : (Cond.le (.length (.arg 0)) (.int 3072)).before args s = true := hs _ (by decide +kernel)
  have hlen : (Cond.isInt (.length (.arg 0))).before args s = true := hq _ (by decide +kernel)
  have hall : (Cond.all (.arg 0) (.isInt (.elem (.arg 0) (.index 0)))).before args s = true := hq _ (by decide +kernel)
  obtain ⟨b, xs, hb, hx⟩ := State.ints_of_pre rfl harr hlen hall
  have hsm : xs.length < 2 ^ 31 := hx.choose_spec.2.2.2
  have hev : (Term.length (.arg 0)).eval args s none [] s = some (.int xs.length.toInt32) := hx.length_eval hb
  have hv := Cond.le_ints hev (show (Term.int 3072).eval args s none [] s = some (.int 3072) from rfl)
  have hd : xs.length.toInt32 ≤ 3072 := by
    simpa [Cond.before, Cond.holds, hv] using hle
  have hN : xs.length ≤ 3072 := (Int32.ofNat_le_ofNat hsm (by decide)).mp (show Int32.ofNat xs.length ≤ Int32.ofNat 3072 from hd)
  exact ⟨b, xs, Cond.one_arg hc (show args[0]? = some (.ref b) from hb), hx, hN, h⟩
theorem lw_comes (l : Launch) (hflags : l.flags = flags0) : Comes l x (Jvm.Cond.code x code maxLocals ret :: tables_1) room_1 (fun tb e args s => Calls_1 tb e args s ∧ rest_1 tb e args s ∧ Pre_1 tb e args s)
    (fun _ _ args s o t => lw_Q args s o t) := by
  intro p e ha hc hk s m args below hf hfit hheap happ hpre
  obtain ⟨b, xs, hP⟩ := lw_pre_spec hpre.2.2 hpre.2.1
  obtain ⟨k, o, h1, h2, h3, hQ⟩ := lw_walk l hflags b xs p e ha hc hk s m args below hf ((Spec.applies_iff_loose hf).mp happ).1 hP trivial
  exact ⟨k, o, h1, h2, h3, hQ⟩
theorem lw_frame {s t : State} {o : Outcome} {args : Array Value} (h : Framed s o t [] 600000 7302250) :
    Framed s o t (fieldLocs frame_1_writes args s ++ arrayLocs frame_1_arrays args s ++ staticLocs frame_1_statics s) 600000 7302250 := h
theorem lw_limb (L : Cond) (hL : ∀ (args : Array Value) (s t : State), L.after args s (.returned (some (.int 1))) t = true) :
    ArmFor flags0 classFile x code maxLocals ret World_1 tables_1 room_1 Calls_1 rest_1 Pre_1
      (fun tb e a s o t => postC L tb e a s o t ∧ Framed s o t (fieldLocs frame_1_writes a s ++ arrayLocs frame_1_arrays a s ++ staticLocs frame_1_statics s) 600000 7302250) := by
  intro l hflags _ _ p e ha hc hk s m args below hf hfit hheap happ hpre
  obtain ⟨k, o, h1, h2, h3, rfl, hF⟩ := lw_comes l hflags p e ha hc hk s m args below hf hfit hheap happ hpre
  exact ⟨k, _, h1, h2, h3, hL args s _, lw_frame hF⟩
theorem i_vc : Claimed_1_1 ∧ Claimed_1_2 := ⟨lw_limb limb_1_1 (fun args s t => by simp [limb_1_1, Cond.after, Cond.holds, Cond.value]), lw_limb limb_1_2 (fun args s t => Cond.after_iff.mpr (by
  first | (rw [show limb_1_2 = Cond.eq .result (.int 1) from rfl, Cond.eq_ints (x := 1) (y := 1) rfl rfl]; simp; done) | (simp [limb_1_2, Cond.value, Term.eval]; done)))⟩
