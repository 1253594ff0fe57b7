/-! THE CLASS: any memory M; what it may write; rows over kinds. -/
def fr_C (k : Nat) : Bool := !(k == 11 || k == 31 || k == 51 || k == 15 || k == 2)
def cw_i (t : mt_T) (pc : Nat) (ls : List (Option pv_T)) (st : List pv_T) (M : mm_T) (P : Int32 → mm_T → Prop) : Prop := go_W t fr_C pc ls st M (qi_ P)
def cw_l (t : mt_T) (pc : Nat) (ls : List (Option pv_T)) (st : List pv_T) (M : mm_T) (P : Int64 → mm_T → Prop) : Prop := go_W t fr_C pc ls st M (ql_ P)
def cw_r (t : mt_T) (pc : Nat) (ls : List (Option pv_T)) (st : List pv_T) (M : mm_T) (P : Nat → mm_T → Prop) : Prop := go_W t fr_C pc ls st M (qr_ P)
def cw_v (t : mt_T) (pc : Nat) (ls : List (Option pv_T)) (st : List pv_T) (M : mm_T) (P : mm_T → Prop) : Prop := go_W t fr_C pc ls st M (qv_ P)
def cs_i (t : mt_T) (av : List pv_T) (M : mm_T) (P : Int32 → mm_T → Prop) : Prop := cw_i t 0 (cx_e av (mt_n t)) [] M P
def cs_l (t : mt_T) (av : List pv_T) (M : mm_T) (P : Int64 → mm_T → Prop) : Prop := cw_l t 0 (cx_e av (mt_n t)) [] M P
def cs_r (t : mt_T) (av : List pv_T) (M : mm_T) (P : Nat → mm_T → Prop) : Prop := cw_r t 0 (cx_e av (mt_n t)) [] M P
def cs_v (t : mt_T) (av : List pv_T) (M : mm_T) (P : mm_T → Prop) : Prop := cw_v t 0 (cx_e av (mt_n t)) [] M P
/-- an object of the class's -/
def ob_ (M : mm_T) (a : Nat) : Prop := ∃ c, c < 12 ∧ mm_k M a = (c, cl_n c)
/-- an own array of kind y with n places -/
def ak_ (M : mm_T) (r y n : Nat) : Prop := ∃ tg, mm_k M r = (tg, n) ∧ 20 ≤ tg ∧ (tg - 20) / 20 = y ∧ n ≤ 100000 ∧ fr_C tg = true
theorem ks_S {fr : Nat → Bool} {M M' : mm_T} {a c n : Nat} (h : mm_k M a = (c, n)) (h0 : ¬ (c = 0 ∧ n = 0)) (hS : mm_S fr M M') : mm_k M' a = (c, n) :=
  (hS.2.1 a (mm_k_lt (by rw [h]; intro q; exact h0 (by simpa using q)))).trans h
theorem ak_S {fr : Nat → Bool} {M M' : mm_T} {r y n : Nat} (h : ak_ M r y n) (hS : mm_S fr M M') : ak_ M' r y n := by
  obtain ⟨tg, h1, h2, h3⟩ := h
  exact ⟨tg, ks_S h1 (by omega) hS, h2, h3⟩
section GoCls
variable {t t' : mt_T} {fr fr' : Nat → Bool} {pc : Nat} {ls : List (Option pv_T)} {st : List pv_T} {M : mm_T} {Q Q' : Option pv_T → mm_T → Prop}
theorem ob_5 {cx : cx_T} {s : State} {H : Heap} {locs : List Loc} {a : Nat} (I : hp_I cx M s H locs) (h : a = 0 ∨ ob_ M a) : a = 0 ∨ 5 ≤ a := by
  rcases h with h | ⟨c, hc, hk⟩
  · exact Or.inl h
  · exact Or.inr (hp_obj I hc hk).1
theorem go_acmpO_eq {a b : Nat} {off : Int} {tgt : Nat} (ha : a = 0 ∨ ob_ M a) (hb : b = 0 ∨ ob_ M b) (d : decode (mt_b t) pc = .ok (.if_acmp .eq off, 3)) (ht : (pc : Int) + off = (tgt : Int)) (kt : a = b → go_W t fr tgt ls st M Q) (kf : ¬ a = b → go_W t fr (pc + 3) ls st M Q) : go_W t fr pc ls (pv_r b :: pv_r a :: st) M Q := by
  intro cx l p e s m args below meth c H locs cells slots n0 s0 L F I N hl
  exact go_acmp_eq (ob_5 I ha) (ob_5 I hb) d ht kt kf cx l p e s m args below meth c H locs cells slots n0 s0 L F I N hl
theorem go_acmpO_ne {a b : Nat} {off : Int} {tgt : Nat} (ha : a = 0 ∨ ob_ M a) (hb : b = 0 ∨ ob_ M b) (d : decode (mt_b t) pc = .ok (.if_acmp .ne off, 3)) (ht : (pc : Int) + off = (tgt : Int)) (kt : ¬ a = b → go_W t fr tgt ls st M Q) (kf : a = b → go_W t fr (pc + 3) ls st M Q) : go_W t fr pc ls (pv_r b :: pv_r a :: st) M Q := by
  intro cx l p e s m args below meth c H locs cells slots n0 s0 L F I N hl
  exact go_acmp_ne (ob_5 I ha) (ob_5 I hb) d ht kt kf cx l p e s m args below meth c H locs cells slots n0 s0 L F I N hl
theorem go_xaldN {a n j : Nat} {x : Int32} (hk : mm_k M a = (15, n)) (hn : n ≤ 100000) (hx : x = nI j) (hj : j < n) (d : decode (mt_b t) pc = .ok (.iaload, 1)) (kk : go_W t fr (pc + 1) ls (pv_i (mm_i M a j) :: st) M Q) : go_W t fr pc ls (pv_i x :: pv_r a :: st) M Q := by
  subst hx
  exact go_xald hk (nI_vp hj hn) d (by rw [nI_cl hj hn]; exact kk)
theorem go_ialdA {a n j : Nat} {x : Int32} (h : ak_ M a 0 n) (hx : x = nI j) (hj : j < n) (d : decode (mt_b t) pc = .ok (.iaload, 1)) (kk : go_W t fr (pc + 1) ls (pv_i (mm_i M a j) :: st) M Q) : go_W t fr pc ls (pv_i x :: pv_r a :: st) M Q := by
  obtain ⟨tg, h1, h2, h3, h4, h5⟩ := h
  exact go_ialdN ⟨h2, h3, h4⟩ h1 hx hj d kk
theorem go_zaldA {a n j : Nat} {x : Int32} (h : ak_ M a 1 n) (hx : x = nI j) (hj : j < n) (d : decode (mt_b t) pc = .ok (.baload, 1)) (kk : go_W t fr (pc + 1) ls (pv_i (mm_i M a j) :: st) M Q) : go_W t fr pc ls (pv_i x :: pv_r a :: st) M Q := by
  obtain ⟨tg, h1, h2, h3, h4, h5⟩ := h
  exact go_zaldN ⟨h2, h3, h4⟩ h1 hx hj d kk
theorem go_aaldA {a n y j : Nat} {x : Int32} (h : ak_ M a y n) (hy : 2 ≤ y) (hx : x = nI j) (hj : j < n) (d : decode (mt_b t) pc = .ok (.aaload, 1)) (kk : go_W t fr (pc + 1) ls (pv_r (mm_r M a j) :: st) M Q) : go_W t fr pc ls (pv_i x :: pv_r a :: st) M Q := by
  obtain ⟨tg, h1, h2, h3, h4, h5⟩ := h
  subst hx
  exact go_aald ⟨h2, h3⟩ hy h1 (nI_vp hj h4) d (by rw [nI_cl hj h4]; exact kk)
theorem go_iastA {a n j : Nat} {x v : Int32} (h : ak_ M a 0 n) (hx : x = nI j) (hj : j < n) (d : decode (mt_b t) pc = .ok (.iastore, 1)) (kk : go_W t fr_C (pc + 1) ls st (mm_pi M a j v) Q) : go_W t fr_C pc ls (pv_i v :: pv_i x :: pv_r a :: st) M Q := by
  obtain ⟨tg, h1, h2, h3, h4, h5⟩ := h
  exact go_iastN ⟨h2, h3, h4⟩ h1 h5 hx hj d kk
theorem go_aastA {a n y j v : Nat} {x : Int32} (h : ak_ M a y n) (hy : 2 ≤ y) (hv : v = 0 ∨ mm_k M v = (ar_c y, cl_n (ar_c y))) (hx : x = nI j) (hj : j < n) (d : decode (mt_b t) pc = .ok (.aastore, 1)) (kk : go_W t fr_C (pc + 1) ls st (mm_pr M a j v) Q) : go_W t fr_C pc ls (pv_r v :: pv_i x :: pv_r a :: st) M Q := by
  obtain ⟨tg, h1, h2, h3, h4, h5⟩ := h
  subst hx
  exact go_aast ⟨h2, h3⟩ hy h1 h5 hv (nI_vp hj h4) d (by rw [nI_cl hj h4]; exact kk)
theorem go_alenA {a n y : Nat} (h : ak_ M a y n) (d : decode (mt_b t) pc = .ok (.arraylength, 1)) (kk : go_W t fr (pc + 1) ls (pv_i (nI n) :: st) M Q) : go_W t fr pc ls (pv_r a :: st) M Q := by
  obtain ⟨tg, h1, h2, h3, h4, h5⟩ := h
  exact go_alen h2 h1 d kk
theorem nI_nn {n : Nat} (h : n ≤ 100000) : ¬ nI n < 0 := nI_pos (by omega)
theorem go_newIA {x : Int32} {n : Nat} (tg : Nat) (ht : ar_ok tg 0) (hx : x = nI n) (hn : n ≤ 100000) (hw : Cond.arrayClass .int ∈ tb_) (h1 : mm_n M + 1 ≤ nb_) (h2 : mm_t M (mm_n M) + n ≤ sb_) (d : decode (mt_b t) pc = .ok (.newarray .int, 2)) (kk : go_W t fr (pc + 2) ls (pv_r (mm_n M) :: st) (mm_w M tg n) Q) : go_W t fr pc ls (pv_i x :: st) M Q := by
  subst hx
  exact go_newI tg ht (nI_nn hn) (nI_clamp (by omega)) hn hw h1 h2 d kk
theorem go_newZA {x : Int32} {n : Nat} (tg : Nat) (ht : ar_ok tg 1) (hx : x = nI n) (hn : n ≤ 100000) (hw : Cond.arrayClass .boolean ∈ tb_) (h1 : mm_n M + 1 ≤ nb_) (h2 : mm_t M (mm_n M) + n ≤ sb_) (d : decode (mt_b t) pc = .ok (.newarray .boolean, 2)) (kk : go_W t fr (pc + 2) ls (pv_r (mm_n M) :: st) (mm_w M tg n) Q) : go_W t fr pc ls (pv_i x :: st) M Q := by
  subst hx
  exact go_newZ tg ht (nI_nn hn) (nI_clamp (by omega)) hn hw h1 h2 d kk
theorem go_anewA {x : Int32} {n ix : Nat} (tg y : Nat) (ht : ar_ok tg y) (hy : 2 ≤ y) (hy6 : y < 6) (hx : x = nI n) (hn : n ≤ 100000) (hw : Cond.classLink (mt_y t).cls ix (cl_C (ar_c y)) ∈ tb_) (h1 : mm_n M + 1 ≤ nb_) (h2 : mm_t M (mm_n M) + n ≤ sb_) (d : decode (mt_b t) pc = .ok (.anewarray ix, 3)) (kk : go_W t fr (pc + 3) ls (pv_r (mm_n M) :: st) (mm_w M tg n) Q) : go_W t fr pc ls (pv_i x :: st) M Q := by
  subst hx
  exact go_anew tg y ht hy hy6 (nI_nn hn) (nI_clamp (by omega)) hn hw h1 h2 d kk
theorem go_objInitK {a ix ci : Nat} (hc : ci < 12) (hk : mm_k M a = (ci, cl_n ci)) (hst : pv_cs st ≤ 8) (hf : 1 ≤ mt_f t ∧ 20 ≤ mt_l t) (hw : Cond.methodLink (mt_y t).cls ix Lib.objectInit ∈ tb_) (hi : Cond.instanceMethod Lib.objectInit ∈ tb_) (hcd : Cond.code Lib.objectInit ⟨#[0xb1]⟩ 1 none ∈ tb_) (d : decode (mt_b t) pc = .ok (.invokespecial ix, 3)) (kk : go_W t fr (pc + 3) ls st M Q) : go_W t fr pc ls (pv_r a :: st) M Q := by
  intro cx l p e s m args below meth c H locs cells slots n0 s0 L F I N hl
  have h5 := (hp_obj I hc hk).1
  exact go_objInit (by omega) hst hf hw hi hcd d kk cx l p e s m args below meth c H locs cells slots n0 s0 L F I N hl
theorem go_InK {a ix ci n : Nat} {av : List pv_T} (hc : ci < 12) (hk : mm_k M a = (ci, cl_n ci)) (ok : mt_okI t' n) (fit : mt_fit t t') (hw : Cond.methodLink (mt_y t).cls ix (mt_y t') ∈ tb_) (hn : av.length = n) (hlen : n + 1 ≤ mt_n t') (h1 : ∀ v ∈ av, pv_1 v) (hst : pv_cs st ≤ 8) (hfr : ∀ k, fr' k = true → fr k = true) (d : decode (mt_b t) pc = .ok (.invokespecial ix, 3)) (hS : go_S t' fr' (pv_r a :: av) M Q') (kk : ∀ r M', Q' r M' → mm_S fr' M M' → go_W t fr (pc + 3) ls (r.toList ++ st) M' Q) : go_W t fr pc ls (av.reverse ++ pv_r a :: st) M Q := by
  intro cx l p e s m args below meth c H locs cells slots n0 s0 L F I N hl
  have h5 := (hp_obj I hc hk).1
  exact go_In ok fit hw hn hlen h1 hst hfr (by omega) d hS kk cx l p e s m args below meth c H locs cells slots n0 s0 L F I N hl
theorem go_mmax {x y : Int32} {ix : Nat} (hw : Cond.methodLink (mt_y t).cls ix Lib.Math.max.name ∈ tb_) (hst : pv_cs st ≤ 8) (hf : 1 ≤ mt_f t ∧ 21 ≤ mt_l t) (d : decode (mt_b t) pc = .ok (.invokestatic ix, 3)) (kk : go_W t fr (pc + 3) ls (pv_i (if x < y then y else x) :: st) M Q) : go_W t fr pc ls (pv_i y :: pv_i x :: st) M Q := by
  intro cx l p e s m args below meth c H locs cells slots n0 s0 L F I N hl
  obtain ⟨N1, N2, N3, N4, N5, N6⟩ := id N
  have hmono := mm_t_mono (M := M) N3
  refine go_tight I.1 N ?_
  obtain ⟨hx, hb, hml, hr, hlk, hnm, hown, hts, hSx⟩ := id F
  exact va_mmax hx hb (by rw [hml]; exact hl.2.2.1.symm) hown (hts _ hw) (hts _ sm_J9_max_7cf53) (hts _ ni_J9) (hts _ cd_J9_max_7cf53) hf.1 (by rw [pv_cat2]; show _ + 13 ≤ mt_l t; omega) (by show _ ≤ nb_ - n0; omega) (by show _ ≤ sb_ - s0; omega) d (kk cx l p e s m args below meth c H locs _ _ n0 s0 L F I N hl)
theorem go_mmin {x y : Int32} {ix : Nat} (hw : Cond.methodLink (mt_y t).cls ix Lib.Math.min.name ∈ tb_) (hst : pv_cs st ≤ 8) (hf : 1 ≤ mt_f t ∧ 21 ≤ mt_l t) (d : decode (mt_b t) pc = .ok (.invokestatic ix, 3)) (kk : go_W t fr (pc + 3) ls (pv_i (if y < x then y else x) :: st) M Q) : go_W t fr pc ls (pv_i y :: pv_i x :: st) M Q := by
  intro cx l p e s m args below meth c H locs cells slots n0 s0 L F I N hl
  obtain ⟨N1, N2, N3, N4, N5, N6⟩ := id N
  have hmono := mm_t_mono (M := M) N3
  refine go_tight I.1 N ?_
  obtain ⟨hx, hb, hml, hr, hlk, hnm, hown, hts, hSx⟩ := id F
  exact va_mmin hx hb (by rw [hml]; exact hl.2.2.1.symm) hown (hts _ hw) (hts _ sm_J9_min_7cf53) (hts _ ni_J9) (hts _ cd_J9_min_7cf53) hf.1 (by rw [pv_cat2]; show _ + 13 ≤ mt_l t; omega) (by show _ ≤ nb_ - n0; omega) (by show _ ≤ sb_ - s0; omega) d (kk cx l p e s m args below meth c H locs _ _ n0 s0 L F I N hl)
theorem gx_st {cx : cx_T} {a : Nat} (h1 : 1 ≤ a) (h5 : a < 5) : cx_v cx (pv_r a) = .ref (cx.2.1 a) := by
  rw [cx_v_ref (by omega)]
  unfold cx_a
  rw [if_pos h5]
theorem go_gets_TOP_RULES {ix : Nat} (hw : Cond.fieldLink (mt_y t).cls ix "LaneStore" "TOP_RULES" "[I" ∈ tb_) (d : decode (mt_b t) pc = .ok (.getstatic ix, 3)) (kk : go_W t fr (pc + 3) ls (pv_r 3 :: st) M Q) : go_W t fr pc ls st M Q := by
  intro cx l p e s m args below meth c H locs cells slots n0 s0 L F I N hl
  have k := kk cx l p e s m args below meth c H locs cells slots n0 s0 L F I N hl
  rw [List.map_cons, gx_st (by decide) (by decide)] at k
  exact va_gets F.1 F.2.1 F.2.2.2.2.2.2.2.2.2.2.2.2.1 I.2.1 F.2.2.2.2.2.2.1 (F.2.2.2.2.2.2.2.1 _ hw) (fun x hx => hx) d k
theorem go_gets_TOP_OF_LANE {ix : Nat} (hw : Cond.fieldLink (mt_y t).cls ix "LaneStore" "TOP_OF_LANE" "[I" ∈ tb_) (d : decode (mt_b t) pc = .ok (.getstatic ix, 3)) (kk : go_W t fr (pc + 3) ls (pv_r 4 :: st) M Q) : go_W t fr pc ls st M Q := by
  intro cx l p e s m args below meth c H locs cells slots n0 s0 L F I N hl
  have k := kk cx l p e s m args below meth c H locs cells slots n0 s0 L F I N hl
  rw [List.map_cons, gx_st (by decide) (by decide)] at k
  exact va_gets F.1 F.2.1 F.2.2.2.2.2.2.2.2.2.2.2.2.2.1 I.2.1 F.2.2.2.2.2.2.1 (F.2.2.2.2.2.2.2.1 _ hw) (fun x hx => hx) d k
end GoCls
