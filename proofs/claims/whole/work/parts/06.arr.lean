/-! ROWS over arrays, and new cells. -/
theorem ar_K {cx : cx_T} {s : State} (h : gx_S cx s) {y : Nat} (hy : y < 6) : ArrOfT s (cx.2.2.2 y) (ar_y y) ∧ va_RA s (cx.2.2.2 y) (ar_y y) := h.1.2 y _ (cx_ty_at cx hy)
/-- tag of an array: its kind -/
def ar_ok (tg y : Nat) : Prop := 20 ≤ tg ∧ (tg - 20) / 20 = y
theorem hp_new {cx : cx_T} {M : mm_T} {s : State} {H H' : Heap} {locs : List Loc} {tg n : Nat} (I : hp_I cx M s H locs) (hz : H'.size = H.size + 1) (ho : ∀ q : Nat, q < H.size → H'[q]? = H[q]?) (hok : hp_ok cx (mm_w M tg n) H' (mm_n M)) : hp_I cx (mm_w M tg n) s H' locs := by
  obtain ⟨⟨I1, I2, I3, I4⟩, ⟨S1, S2, S3⟩, I6⟩ := I
  have hS := mm_S_w (fr := fun _ => false) (M := M) (tg := tg) (n := n)
  refine ⟨⟨Nat.le_succ_of_le I1, ?_, fun b hb5 hbn => ?_, by rw [hS.2.1 0 (by omega)]; exact I4⟩, ⟨by omega, fun q q1 q2 => (ho q (by omega)).trans (S2 q q1 q2), S3⟩, fun b hb1 hb5 => ?_⟩
  · rw [hz, I2]
    show _ = cx.1 + (mm_n M + 1 - 5)
    omega
  · have hbn' : b < mm_n M + 1 := hbn
    by_cases hb : b = mm_n M
    · rw [hb]; exact hok
    · have hlt : b < mm_n M := by omega
      obtain ⟨o1, o2, o3⟩ := hS.2.2 b hlt (Or.inl rfl)
      exact hp_same (I3 b hb5 hlt) (hS.2.1 b hlt) o1 o2 o3 (ho _ (by rw [cx_a_own hb5, I2]; omega))
  · obtain ⟨o1, -, -⟩ := hS.2.2 b (by omega) (Or.inl rfl)
    rw [hS.2.1 b (by omega), show mm_i (mm_w M tg n) b = mm_i M b from funext o1]
    exact I6 b hb1 hb5
theorem mm_t_w {M : mm_T} {tg n : Nat} (h : 5 ≤ mm_n M) : mm_t (mm_w M tg n) (mm_n (mm_w M tg n)) = mm_t M (mm_n M) + n := by
  show mm_t (mm_w M tg n) (mm_n M) + (if 5 ≤ mm_n M then (mm_k (mm_w M tg n) (mm_n M)).2 else 0) = _
  rw [if_pos h, mm_k_w, mm_t_eq (M := M) (fun a ha => (mm_S_w (fr := fun _ => false)).2.1 a ha)]
theorem gx_N_new {cx : cx_T} {M : mm_T} {s : State} {n0 s0 tg n : Nat} (N : gx_N cx M s n0 s0) (h1 : mm_n M + 1 ≤ nb_) (h2 : mm_t M (mm_n M) + n ≤ sb_) : gx_N cx (mm_w M tg n) s n0 s0 := by
  obtain ⟨N1, N2, N3, N4, N5, N6⟩ := N
  refine ⟨N1, N2, Nat.le_succ_of_le N3, h1, by rw [mm_t_eq (M := M) (fun a ha => (mm_S_w (fr := fun _ => false)).2.1 a (by omega))]; exact N5, by rw [mm_t_w (by omega)]; exact h2⟩
theorem cl_four : ∀ {c : Nat}, c < 12 → ∀ {k : Nat}, k < cl_n c → cl_y c k = .int ∨ cl_y c k = .boolean ∨ cl_y c k = .long ∨ ty_ref (cl_y c k) := by
  intro c hc k hk
  have dec : ∀ ty : FieldType, (match ty with | .int => true | .boolean => true | .long => true | .object _ => true | .array _ => true | _ => false) = true → ty = .int ∨ ty = .boolean ∨ ty = .long ∨ ty_ref ty := by
    intro ty h
    cases ty <;> simp [ty_ref] at h ⊢
  apply dec
  have all : (List.range 12).all (fun c => (List.range (cl_n c)).all (fun k => match cl_y c k with | .int => true | .boolean => true | .long => true | .object _ => true | .array _ => true | _ => false)) = true := by decide +kernel
  have h1 := List.all_eq_true.mp all c (List.mem_range.mpr hc)
  exact List.all_eq_true.mp h1 k (List.mem_range.mpr hk)
section GoArr
variable {t : mt_T} {fr : Nat → Bool} {pc : Nat} {ls : List (Option pv_T)} {st : List pv_T} {M : mm_T} {Q : Option pv_T → mm_T → Prop}
theorem go_iald {a tg n : Nat} {x : Int32} (ht : ar_ok tg 0) (hk : mm_k M a = (tg, n)) (hx : vp_in x n) (d : decode (mt_b t) pc = .ok (.iaload, 1)) (kk : go_W t fr (pc + 1) ls (pv_i (mm_i M a x.toNatClampNeg) :: st) M Q) : go_W t fr pc ls (pv_i x :: pv_r a :: st) M Q := by
  intro cx l p e s m args below meth c H locs cells slots n0 s0 L F I N hl
  obtain ⟨h5, hlt, -, -, hc⟩ := hp_arr I ht.1 hk
  rw [ht.2] at hc
  have hlt' : x.toNatClampNeg < n := Nat.not_le.mp fun q => hx (Or.inr q)
  show W p l e _ s m args below meth c H locs cells slots _ (F0 m pc L (.int x :: cx_v cx (pv_r a) :: st.map (cx_v cx)))
  rw [cx_v_ref (by omega)]
  refine W.iald (v := .int (mm_i M a x.toNatClampNeg)) F.1 F.2.1 hc ((ar_K F.2.2.2.2.2.2.2.2 (y := 0) (by decide)).1 n _) (fun q => by cases q) (by rw [arrV_size]; exact hx) (by rw [arrV_read _ _ hlt']; rfl) rfl rfl d ?_
  exact kk cx l p e s m args below meth c H locs cells slots n0 s0 L F I N hl
theorem go_zald {a tg n : Nat} {x : Int32} (ht : ar_ok tg 1) (hk : mm_k M a = (tg, n)) (hx : vp_in x n) (d : decode (mt_b t) pc = .ok (.baload, 1)) (kk : go_W t fr (pc + 1) ls (pv_i (mm_i M a x.toNatClampNeg) :: st) M Q) : go_W t fr pc ls (pv_i x :: pv_r a :: st) M Q := by
  intro cx l p e s m args below meth c H locs cells slots n0 s0 L F I N hl
  obtain ⟨h5, hlt, -, -, hc⟩ := hp_arr I ht.1 hk
  rw [ht.2] at hc
  have hlt' : x.toNatClampNeg < n := Nat.not_le.mp fun q => hx (Or.inr q)
  show W p l e _ s m args below meth c H locs cells slots _ (F0 m pc L (.int x :: cx_v cx (pv_r a) :: st.map (cx_v cx)))
  rw [cx_v_ref (by omega)]
  refine W.zald (v := .int (mm_i M a x.toNatClampNeg)) F.1 F.2.1 hc ((ar_K F.2.2.2.2.2.2.2.2 (y := 1) (by decide)).1 n _) (fun q => by cases q) (by rw [arrV_size]; exact hx) (by rw [arrV_read _ _ hlt']; rfl) rfl rfl d ?_
  exact kk cx l p e s m args below meth c H locs cells slots n0 s0 L F I N hl
theorem ar_ref {y : Nat} (h : 2 ≤ y) : ar_y y = .object (cl_C (ar_c y)) := by
  match y, h with
  | y + 2, _ => rfl
theorem go_aald {a tg n y : Nat} {x : Int32} (ht : ar_ok tg y) (hy : 2 ≤ y) (hk : mm_k M a = (tg, n)) (hx : vp_in x n) (d : decode (mt_b t) pc = .ok (.aaload, 1)) (kk : go_W t fr (pc + 1) ls (pv_r (mm_r M a x.toNatClampNeg) :: st) M Q) : go_W t fr pc ls (pv_i x :: pv_r a :: st) M Q := by
  intro cx l p e s m args below meth c H locs cells slots n0 s0 L F I N hl
  obtain ⟨h5, hlt, hy6, -, hc⟩ := hp_arr I ht.1 hk
  rw [ht.2] at hc hy6
  have hlt' : x.toNatClampNeg < n := Nat.not_le.mp fun q => hx (Or.inr q)
  show W p l e _ s m args below meth c H locs cells slots _ (F0 m pc L (.int x :: cx_v cx (pv_r a) :: st.map (cx_v cx)))
  rw [cx_v_ref (by omega)]
  refine W.aald (v := va_rf (cx_o cx (mm_r M a x.toNatClampNeg))) F.1 F.2.1 hc ((ar_K F.2.2.2.2.2.2.2.2 hy6).1 n _) (by rw [ar_ref hy]; rfl) (fun q => by cases q) (by rw [arrV_size]; exact hx) (by rw [arrV_read _ _ hlt', hp_w, if_neg (by omega)]) rfl rfl d ?_
  exact kk cx l p e s m args below meth c H locs cells slots n0 s0 L F I N hl
theorem go_alen {a tg n : Nat} (ht : 20 ≤ tg) (hk : mm_k M a = (tg, n)) (d : decode (mt_b t) pc = .ok (.arraylength, 1)) (kk : go_W t fr (pc + 1) ls (pv_i (nI n) :: st) M Q) : go_W t fr pc ls (pv_r a :: st) M Q := by
  intro cx l p e s m args below meth c H locs cells slots n0 s0 L F I N hl
  obtain ⟨h5, hlt, hy6, -, hc⟩ := hp_arr I ht hk
  show W p l e _ s m args below meth c H locs cells slots _ (F0 m pc L (cx_v cx (pv_r a) :: st.map (cx_v cx)))
  rw [cx_v_ref (by omega)]
  refine W.alen (n := nI n) F.1 F.2.1 hc ((ar_K F.2.2.2.2.2.2.2.2 hy6).1 n _) (by rw [arrV_size]; rfl) rfl rfl d ?_
  exact kk cx l p e s m args below meth c H locs cells slots n0 s0 L F I N hl
/-- the outer rows: read alone -/
theorem hp_out {cx : cx_T} {s : State} {H : Heap} {locs : List Loc} {a n : Nat} (I : hp_I cx M s H locs) (hk : mm_k M a = (15, n)) : 1 ≤ a ∧ a < 5 := by
  have hlt : a < mm_n M := mm_k_lt (by rw [hk]; simp)
  rcases Nat.eq_zero_or_pos a with z | z
  · subst z
    have := I.1.2.2.2
    rw [hk] at this
    simp at this
  · refine ⟨z, ?_⟩
    rcases Nat.lt_or_ge a 5 with q | q
    · exact q
    · rcases I.1.2.2.1 a q hlt with ⟨w, -⟩ | ⟨w, -⟩ <;> rw [hk] at w <;> simp at w
theorem go_xald {a n : Nat} {x : Int32} (hk : mm_k M a = (15, n)) (hx : vp_in x n) (d : decode (mt_b t) pc = .ok (.iaload, 1)) (kk : go_W t fr (pc + 1) ls (pv_i (mm_i M a x.toNatClampNeg) :: st) M Q) : go_W t fr pc ls (pv_i x :: pv_r a :: st) M Q := by
  intro cx l p e s m args below meth c H locs cells slots n0 s0 L F I N hl
  obtain ⟨h1, h5⟩ := hp_out I hk
  obtain ⟨-, -, hX⟩ := I.2.2 a h1 h5
  rw [hk] at hX
  have hS := F.2.2.2.2.2.2.2.2
  have ea : cx_a cx a = cx.2.1 a := by unfold cx_a; rw [if_pos h5]
  show W p l e _ s m args below meth c H locs cells slots _ (F0 m pc L (.int x :: cx_v cx (pv_r a) :: st.map (cx_v cx)))
  rw [cx_v_ref (by omega), ea]
  exact va_sld F.1 F.2.1 hX (Nat.lt_of_lt_of_le (hS.2.2.1 a h1 h5) hS.2.1) (Nat.not_le.mpr (hS.2.2.1 a h1 h5)) I.2.1 hx d (kk cx l p e s m args below meth c H locs cells slots n0 s0 L F I N hl)
theorem go_xlen {a n : Nat} (hk : mm_k M a = (15, n)) (d : decode (mt_b t) pc = .ok (.arraylength, 1)) (kk : go_W t fr (pc + 1) ls (pv_i (nI n) :: st) M Q) : go_W t fr pc ls (pv_r a :: st) M Q := by
  intro cx l p e s m args below meth c H locs cells slots n0 s0 L F I N hl
  obtain ⟨h1, h5⟩ := hp_out I hk
  obtain ⟨-, -, hX⟩ := I.2.2 a h1 h5
  rw [hk] at hX
  have hS := F.2.2.2.2.2.2.2.2
  have ea : cx_a cx a = cx.2.1 a := by unfold cx_a; rw [if_pos h5]
  show W p l e _ s m args below meth c H locs cells slots _ (F0 m pc L (cx_v cx (pv_r a) :: st.map (cx_v cx)))
  rw [cx_v_ref (by omega), ea]
  exact va_slen F.1 F.2.1 hX (Nat.lt_of_lt_of_le (hS.2.2.1 a h1 h5) hS.2.1) (Nat.not_le.mpr (hS.2.2.1 a h1 h5)) I.2.1 d (kk cx l p e s m args below meth c H locs cells slots n0 s0 L F I N hl)
/-- what an array holds when one place is written -/
theorem hp_w_i {cx : cx_T} {a y j : Nat} {x : Int32} (hy : y < 2) : updV (hp_w cx M a y) j (.int x) = hp_w cx (mm_pi M a j x) a y := by
  funext q
  unfold updV hp_w
  rw [if_pos hy, if_pos hy]
  show _ = Value.int (if a = a ∧ q = j then x else mm_i M a q)
  by_cases h : q = j
  · rw [if_pos h, if_pos ⟨rfl, h⟩]
  · rw [if_neg h, if_neg (fun z => h z.2)]
theorem hp_w_r {cx : cx_T} {a y j x : Nat} (hy : 2 ≤ y) : updV (hp_w cx M a y) j (va_rf (cx_o cx x)) = hp_w cx (mm_pr M a j x) a y := by
  funext q
  unfold updV hp_w
  have hy2 : ¬ y < 2 := by omega
  rw [if_neg hy2, if_neg hy2]
  show _ = va_rf (cx_o cx (if a = a ∧ q = j then x else mm_r M a q))
  by_cases h : q = j
  · rw [if_pos h, if_pos ⟨rfl, h⟩]
  · rw [if_neg h, if_neg (fun z => h z.2)]
theorem go_iast {a tg n : Nat} {x v : Int32} (ht : ar_ok tg 0) (hk : mm_k M a = (tg, n)) (hfr : fr tg = true) (hx : vp_in x n) (d : decode (mt_b t) pc = .ok (.iastore, 1)) (kk : go_W t fr (pc + 1) ls st (mm_pi M a x.toNatClampNeg v) Q) : go_W t fr pc ls (pv_i v :: pv_i x :: pv_r a :: st) M Q := by
  intro cx l p e s m args below meth c H locs cells slots n0 s0 L F I N hl
  obtain ⟨h5, hlt, hy6, hn, hc⟩ := hp_arr I ht.1 hk
  rw [ht.2] at hc hy6
  show W p l e _ s m args below meth c H locs cells slots _ (F0 m pc L (.int v :: .int x :: cx_v cx (pv_r a) :: st.map (cx_v cx)))
  rw [cx_v_ref (by omega)]
  refine W.iast F.1 F.2.1 hc ((ar_K F.2.2.2.2.2.2.2.2 (y := 0) (by decide)).1 n _) (fun q => by cases q) (by rw [arrV_size]; exact hx) rfl rfl d fun H' x1 x2 x3 => ?_
  refine go_post (mm_S_pi (by rw [hk]; exact hfr) (by rw [hk]; show tg ≠ 15; have := ht.1; omega)) (kk cx l p e s m args below meth c H' _ cells slots n0 s0 L F (hp_put I h5 hlt rfl (fun _ => rfl) (fun b hb => ⟨fun j => if_neg (fun q => hb q.1), fun _ => rfl, fun _ => rfl⟩) x2 x3 (Or.inr ?_)) (gx_N_put N rfl (fun _ => rfl)) hl)
  rw [show mm_k (mm_pi M a x.toNatClampNeg v) a = mm_k M a from rfl, hk]
  refine ⟨ht.1, by rw [ht.2]; exact hy6, hn, ?_⟩
  rw [x1, arrV_store, ht.2, hp_w_i (by decide)]
theorem go_zast {a tg n : Nat} {x v : Int32} (hv : v = 0 ∨ v = 1) (ht : ar_ok tg 1) (hk : mm_k M a = (tg, n)) (hfr : fr tg = true) (hx : vp_in x n) (d : decode (mt_b t) pc = .ok (.bastore, 1)) (kk : go_W t fr (pc + 1) ls st (mm_pi M a x.toNatClampNeg v) Q) : go_W t fr pc ls (pv_i v :: pv_i x :: pv_r a :: st) M Q := by
  intro cx l p e s m args below meth c H locs cells slots n0 s0 L F I N hl
  obtain ⟨h5, hlt, hy6, hn, hc⟩ := hp_arr I ht.1 hk
  rw [ht.2] at hc hy6
  show W p l e _ s m args below meth c H locs cells slots _ (F0 m pc L (.int v :: .int x :: cx_v cx (pv_r a) :: st.map (cx_v cx)))
  rw [cx_v_ref (by omega)]
  refine W.zast F.1 F.2.1 hc ((ar_K F.2.2.2.2.2.2.2.2 (y := 1) (by decide)).1 n _) (fun q => by cases q) (by rw [arrV_size]; exact hx) rfl rfl d fun H' x1 x2 x3 => ?_
  have hnz : narrow .boolean (.int v) = .int v := by rcases hv with rfl | rfl <;> rfl
  rw [hnz] at x1
  refine go_post (mm_S_pi (by rw [hk]; exact hfr) (by rw [hk]; show tg ≠ 15; have := ht.1; omega)) (kk cx l p e s m args below meth c H' _ cells slots n0 s0 L F (hp_put I h5 hlt rfl (fun _ => rfl) (fun b hb => ⟨fun j => if_neg (fun q => hb q.1), fun _ => rfl, fun _ => rfl⟩) x2 x3 (Or.inr ?_)) (gx_N_put N rfl (fun _ => rfl)) hl)
  rw [show mm_k (mm_pi M a x.toNatClampNeg v) a = mm_k M a from rfl, hk]
  refine ⟨ht.1, by rw [ht.2]; exact hy6, hn, ?_⟩
  rw [x1, arrV_store, ht.2, hp_w_i (by decide)]
/-- a reference of the array's class, or null, is stored -/
theorem go_aast {a tg n y v : Nat} {x : Int32} (ht : ar_ok tg y) (hy : 2 ≤ y) (hk : mm_k M a = (tg, n)) (hfr : fr tg = true) (hv : v = 0 ∨ mm_k M v = (ar_c y, cl_n (ar_c y))) (hx : vp_in x n) (d : decode (mt_b t) pc = .ok (.aastore, 1)) (kk : go_W t fr (pc + 1) ls st (mm_pr M a x.toNatClampNeg v) Q) : go_W t fr pc ls (pv_r v :: pv_i x :: pv_r a :: st) M Q := by
  intro cx l p e s m args below meth c H locs cells slots n0 s0 L F I N hl
  obtain ⟨h5, hlt, hy6, hn, hc⟩ := hp_arr I ht.1 hk
  rw [ht.2] at hc hy6
  have hS := F.2.2.2.2.2.2.2.2
  obtain ⟨hA, hRA⟩ := ar_K hS hy6
  rw [ar_ref hy] at hA hRA
  have fin : ∀ H' : Heap, H'[cx_a cx a]? = some ((arrV (cx.2.2.2 y) n (hp_w cx M a y)).setSlot x.toNatClampNeg (va_rf (cx_o cx v))) → H'.size = H.size → (∀ q, q ≠ cx_a cx a → H'[q]? = H[q]?) → W p l e (mt_R t n0 s0) s m args below meth c H' (locs ++ [⟨cx_a cx a, x.toNatClampNeg⟩]) cells slots (MQ below (gx_Q cx M fr Q) args s (nb_ - n0) (sb_ - s0) (fun q => cx.1 ≤ q)) (F0 m (pc + 1) L (st.map (cx_v cx))) := by
    intro H' x1 x2 x3
    refine go_post (mm_S_pr (by rw [hk]; exact hfr) (by rw [hk]; show tg ≠ 15; have := ht.1; omega)) (kk cx l p e s m args below meth c H' _ cells slots n0 s0 L F (hp_put I h5 hlt rfl (fun _ => rfl) (fun b hb => ⟨fun _ => rfl, fun _ => rfl, fun j => if_neg (fun q => hb q.1)⟩) x2 x3 (Or.inr ?_)) (gx_N_put N rfl (fun _ => rfl)) hl)
    rw [show mm_k (mm_pr M a x.toNatClampNeg v) a = mm_k M a from rfl, hk]
    refine ⟨ht.1, by rw [ht.2]; exact hy6, hn, ?_⟩
    rw [x1, arrV_store, ht.2, hp_w_r hy]
  show W p l e _ s m args below meth c H locs cells slots _ (F0 m pc L (cx_v cx (pv_r v) :: .int x :: cx_v cx (pv_r a) :: st.map (cx_v cx)))
  rw [cx_v_ref (a := a) (by omega)]
  rcases hv with rfl | hv
  · exact va_WaastN F.1 F.2.1 hc (hA n _) (fun q => by cases q) (by rw [arrV_size]; exact hx) rfl rfl d fin
  · have hac : ar_c y < 12 := by unfold ar_c; split <;> decide
    obtain ⟨v5, vlt, cellV, g1, g2, g3, -, -⟩ := hp_obj I hac hv
    have hcls := (hS.1.1 _ _ (cl_at hac)).2
    obtain ⟨kA, comp, k1, k2, k3, -⟩ := hRA
    have hcomp : comp = cx.2.2.1.1 (ar_c y) := Option.some.inj (k3.symm.trans hcls.1)
    subst hcomp
    obtain ⟨kC, hkC, -⟩ := hcls.2
    have hlt' : x.toNatClampNeg < n := Nat.not_le.mp fun q => hx (Or.inr q)
    have h0 : ¬ x < 0 := fun q => hx (Or.inl q)
    rw [cx_o_ref (show v ≠ 0 by omega)] at fin
    rw [cx_v_ref (show v ≠ 0 by omega)]
    exact W.aast F.1 F.2.1 hc (fun q h => by cases h) (fun h => by cases h) k1 k2 rfl hkC ⟨h0, by show _ < (arrV _ _ _).slots.size; rw [arrV_size]; exact hlt'⟩ g1 (fun q h => by rw [g3] at h; cases h) (by rw [g2]; exact hkC) (by rw [g2]; exact va_assign hcls) rfl rfl d fin
/-- a new object -/
theorem go_new {ix ci N : Nat} (hc : ci < 12) (hN : N = cl_n ci) (hw : Cond.classLink (mt_y t).cls ix (cl_C ci) ∈ tb_) (hi : Cond.instantiable (cl_C ci) N ∈ tb_) (hj : Cond.initialized (cl_C ci) ∈ tb_) (h1 : mm_n M + 1 ≤ nb_) (h2 : mm_t M (mm_n M) + N ≤ sb_) (d : decode (mt_b t) pc = .ok (.new ix, 3)) (kk : go_W t fr (pc + 3) ls (pv_r (mm_n M) :: st) (mm_w M ci N) Q) : go_W t fr pc ls st M Q := by
  intro cx l p e s m args below meth c H locs cells slots n0 s0 L F I N0 hl
  subst hN
  refine go_tight I.1 N0 ?_
  obtain ⟨hx, hb, hml, hr, hlk, hnm, hown, hts, hS⟩ := id F
  have hKn := hS.1.1 ci _ (cl_at hc)
  obtain ⟨N1, N2, N3, N4, N5, N6⟩ := id N0
  have hmono := mm_t_mono (M := M) N3
  refine W.newcK hx hb hown (hts _ hw) (hts _ hi) (hts _ hj) rfl d (by show _ + 1 ≤ nb_ - n0; omega) (by show _ + _ ≤ sb_ - s0; omega) hKn.2.1 rfl fun H1 kC hkC e1 z1 o1 => ?_
  have hB := u_born (cl_y ci) hts (cl_in hc) hKn hkC e1 (cl_ty hc)
  obtain ⟨cell, b1, b2, b3, b4⟩ := hB
  have hsz : cell.slots.size = cl_n ci := by
    have e2 : cell = blank (cx.2.2.1.1 ci) kC := by rw [e1] at b1; exact (Option.some.inj b1).symm
    obtain ⟨cC', kC', y1, y2, y3, y4, -, y7⟩ := Cond.instantiable_spec (hts _ hi)
    have y5 : cC' = cx.2.2.1.1 ci := Option.some.inj (y1.symm.trans hKn.2.1)
    rw [y5, hkC] at y2
    have y6 : kC' = kC := (Option.some.inj y2).symm
    rw [e2]
    show (kC.instanceTypes.map defaultValue).size = _
    rw [Array.size_map, ← y6]
    exact y7
  have e0 : cx_a cx (mm_n M) = H.size := by rw [cx_a_own (by omega), I.1.2.1]
  have hok : hp_ok cx (mm_w M ci (cl_n ci)) H1 (mm_n M) := by
    refine Or.inl ?_
    rw [mm_k_w]
    refine ⟨hc, rfl, cell, by rw [e0]; exact b1, b2, b3, hsz, fun k hk => ?_⟩
    rw [b4 k hk]
    show some (defaultValue (cl_y ci k)) = some (hp_v cx (mm_w M ci (cl_n ci)) (mm_n M) (cl_y ci k) k)
    unfold hp_v
    have i0 : mm_i (mm_w M ci (cl_n ci)) (mm_n M) k = 0 := if_pos rfl
    have l0 : mm_l (mm_w M ci (cl_n ci)) (mm_n M) k = 0 := if_pos rfl
    have r0 : mm_r (mm_w M ci (cl_n ci)) (mm_n M) k = 0 := if_pos rfl
    rw [i0, l0, r0]
    have hty : cl_y ci k = .int ∨ cl_y ci k = .boolean ∨ cl_y ci k = .long ∨ ty_ref (cl_y ci k) := cl_four hc hk
    rcases hty with h | h | h | ⟨C, h⟩ | ⟨y, h⟩ <;> rw [h] <;> rfl
  have hst : F0 m (pc + 3) L (.ref H.size :: st.map (cx_v cx)) = F0 m (pc + 3) L ((pv_r (mm_n M) :: st).map (cx_v cx)) := by
    rw [List.map_cons, cx_v_ref (by omega), e0]
  show W p l e _ s m args below meth c H1 locs _ _ _ (F0 m (pc + 3) L (.ref H.size :: st.map (cx_v cx)))
  rw [hst]
  exact go_post mm_S_w (kk cx l p e s m args below meth c H1 locs _ _ n0 s0 L F (hp_new I z1 o1 hok) (gx_N_new N0 h1 h2) hl)
/-- a new row of ints -/
theorem go_newI {x : Int32} {n : Nat} (tg : Nat) (ht : ar_ok tg 0) (hn : ¬ x < 0) (hN : x.toNatClampNeg = n) (hb4 : n ≤ 100000) (hw : Cond.arrayClass .int ∈ tb_) (h1 : mm_n M + 1 ≤ nb_) (h2 : mm_t M (mm_n M) + n ≤ sb_) (d : decode (mt_b t) pc = .ok (.newarray .int, 2)) (kk : go_W t fr (pc + 2) ls (pv_r (mm_n M) :: st) (mm_w M tg n) Q) : go_W t fr pc ls (pv_i x :: st) M Q := by
  intro cx l p e s m args below meth c H locs cells slots n0 s0 L F I N0 hl
  refine go_tight I.1 N0 ?_
  obtain ⟨hx, hb, hml, hr, hlk, hnm, hown, hts, hS⟩ := id F
  obtain ⟨N1, N2, N3, N4, N5, N6⟩ := id N0
  have hmono := mm_t_mono (M := M) N3
  have hnm : s.vm.findClass ("[" ++ (FieldType.int).toString) = some (cx.2.2.2 0) := (ar_K hS (y := 0) (by decide)).2
  refine va_newaK (atype := .int) hx hb (hts _ hw) rfl d rfl hn hN (by show n * 4 ≤ _; omega) (by show _ + 1 ≤ nb_ - n0; omega) (by show _ + _ ≤ sb_ - s0; omega) rfl fun H1 cA e1 z1 o1 hAr hNm => ?_
  have hcA : cA = cx.2.2.2 0 := Option.some.inj (hNm.symm.trans hnm)
  subst hcA
  have e0 : cx_a cx (mm_n M) = H.size := by rw [cx_a_own (by omega), I.1.2.1]
  have hok : hp_ok cx (mm_w M tg n) H1 (mm_n M) := by
    refine Or.inr ?_
    rw [mm_k_w]
    refine ⟨ht.1, by rw [ht.2]; decide, by show n < _; omega, ?_⟩
    rw [e0, e1, ht.2]
    congr 2
    funext q
    show Value.int 0 = Value.int (mm_i (mm_w M tg n) (mm_n M) q)
    rw [show mm_i (mm_w M tg n) (mm_n M) q = 0 from if_pos rfl]
  have hst : F0 m (pc + 2) L (.ref H.size :: st.map (cx_v cx)) = F0 m (pc + 2) L ((pv_r (mm_n M) :: st).map (cx_v cx)) := by
    rw [List.map_cons, cx_v_ref (by omega), e0]
  show W p l e _ s m args below meth c H1 locs _ _ _ (F0 m (pc + 2) L (.ref H.size :: st.map (cx_v cx)))
  rw [hst]
  exact go_post mm_S_w (kk cx l p e s m args below meth c H1 locs _ _ n0 s0 L F (hp_new I z1 o1 hok) (gx_N_new N0 h1 h2) hl)
theorem go_newZ {x : Int32} {n : Nat} (tg : Nat) (ht : ar_ok tg 1) (hn : ¬ x < 0) (hN : x.toNatClampNeg = n) (hb4 : n ≤ 100000) (hw : Cond.arrayClass .boolean ∈ tb_) (h1 : mm_n M + 1 ≤ nb_) (h2 : mm_t M (mm_n M) + n ≤ sb_) (d : decode (mt_b t) pc = .ok (.newarray .boolean, 2)) (kk : go_W t fr (pc + 2) ls (pv_r (mm_n M) :: st) (mm_w M tg n) Q) : go_W t fr pc ls (pv_i x :: st) M Q := by
  intro cx l p e s m args below meth c H locs cells slots n0 s0 L F I N0 hl
  refine go_tight I.1 N0 ?_
  obtain ⟨hx, hb, hml, hr, hlk, hnm, hown, hts, hS⟩ := id F
  obtain ⟨N1, N2, N3, N4, N5, N6⟩ := id N0
  have hmono := mm_t_mono (M := M) N3
  have hnm : s.vm.findClass ("[" ++ (FieldType.boolean).toString) = some (cx.2.2.2 1) := (ar_K hS (y := 1) (by decide)).2
  refine va_newaK (atype := .boolean) hx hb (hts _ hw) rfl d rfl hn hN (by show n * 1 ≤ _; omega) (by show _ + 1 ≤ nb_ - n0; omega) (by show _ + _ ≤ sb_ - s0; omega) rfl fun H1 cA e1 z1 o1 hAr hNm => ?_
  have hcA : cA = cx.2.2.2 1 := Option.some.inj (hNm.symm.trans hnm)
  subst hcA
  have e0 : cx_a cx (mm_n M) = H.size := by rw [cx_a_own (by omega), I.1.2.1]
  have hok : hp_ok cx (mm_w M tg n) H1 (mm_n M) := by
    refine Or.inr ?_
    rw [mm_k_w]
    refine ⟨ht.1, by rw [ht.2]; decide, by show n < _; omega, ?_⟩
    rw [e0, e1, ht.2]
    congr 2
    funext q
    show Value.int 0 = Value.int (mm_i (mm_w M tg n) (mm_n M) q)
    rw [show mm_i (mm_w M tg n) (mm_n M) q = 0 from if_pos rfl]
  have hst : F0 m (pc + 2) L (.ref H.size :: st.map (cx_v cx)) = F0 m (pc + 2) L ((pv_r (mm_n M) :: st).map (cx_v cx)) := by
    rw [List.map_cons, cx_v_ref (by omega), e0]
  show W p l e _ s m args below meth c H1 locs _ _ _ (F0 m (pc + 2) L (.ref H.size :: st.map (cx_v cx)))
  rw [hst]
  exact go_post mm_S_w (kk cx l p e s m args below meth c H1 locs _ _ n0 s0 L F (hp_new I z1 o1 hok) (gx_N_new N0 h1 h2) hl)
/-- a new row of references -/
theorem go_anew {x : Int32} {n ix : Nat} (tg y : Nat) (ht : ar_ok tg y) (hy : 2 ≤ y) (hy6 : y < 6) (hn : ¬ x < 0) (hN : x.toNatClampNeg = n) (hb4 : n ≤ 100000) (hw : Cond.classLink (mt_y t).cls ix (cl_C (ar_c y)) ∈ tb_) (h1 : mm_n M + 1 ≤ nb_) (h2 : mm_t M (mm_n M) + n ≤ sb_) (d : decode (mt_b t) pc = .ok (.anewarray ix, 3)) (kk : go_W t fr (pc + 3) ls (pv_r (mm_n M) :: st) (mm_w M tg n) Q) : go_W t fr pc ls (pv_i x :: st) M Q := by
  intro cx l p e s m args below meth c H locs cells slots n0 s0 L F I N0 hl
  subst hN
  refine go_tight I.1 N0 ?_
  obtain ⟨hx, hb, hml, hr, hlk, hnm, hown, hts, hS⟩ := id F
  obtain ⟨N1, N2, N3, N4, N5, N6⟩ := id N0
  have hmono := mm_t_mono (M := M) N3
  have hRA := (ar_K hS hy6).2
  rw [ar_ref hy] at hRA
  obtain ⟨kA0, comp0, r1, r2, r3, r4⟩ := hRA
  refine W.anew hx hb hown (hts _ hw) (va_AO.use (hS.2.2.2.2.2.2.2.2.2.2.2.1 y hy hy6)) rfl d rfl hn (by omega) (by show _ + 1 ≤ nb_ - n0; omega) (by show _ + _ ≤ sb_ - s0; omega) fun cA kA comp f1 f2 f3 f4 => ?_
  have hcA : cA = cx.2.2.2 y := Option.some.inj (f1.symm.trans r4)
  subst hcA
  generalize hH1 : H.push ({ cls := cx.2.2.2 y, slots := Array.replicate x.toNatClampNeg .null, vm := .none } : Cell) = H1
  have z1 : H1.size = H.size + 1 := by rw [← hH1, Array.size_push]
  have e1 : H1[H.size]? = some (arrV (cx.2.2.2 y) x.toNatClampNeg (fun _ => .null)) := by rw [← hH1, Array.getElem?_push_size, ← arrV_new]
  have o1 : ∀ q : Nat, q < H.size → H1[q]? = H[q]? := fun q hq => by rw [← hH1, Array.getElem?_push, if_neg (Nat.ne_of_lt hq)]
  have e0 : cx_a cx (mm_n M) = H.size := by rw [cx_a_own (by omega), I.1.2.1]
  have hok : hp_ok cx (mm_w M tg x.toNatClampNeg) H1 (mm_n M) := by
    refine Or.inr ?_
    rw [mm_k_w]
    refine ⟨ht.1, by rw [ht.2]; exact hy6, by show x.toNatClampNeg < _; omega, ?_⟩
    rw [e0, e1, ht.2]
    congr 2
    funext q
    unfold hp_w
    rw [if_neg (by omega), show mm_r (mm_w M tg x.toNatClampNeg) (mm_n M) q = 0 from if_pos rfl]
    rfl
  have hst : F0 m (pc + 3) L (.ref H.size :: st.map (cx_v cx)) = F0 m (pc + 3) L ((pv_r (mm_n M) :: st).map (cx_v cx)) := by
    rw [List.map_cons, cx_v_ref (by omega), e0]
  show W p l e _ s m args below meth c H1 locs _ _ _ (F0 m (pc + 3) L (.ref H.size :: st.map (cx_v cx)))
  rw [hst]
  exact go_post mm_S_w (kk cx l p e s m args below meth c H1 locs _ _ n0 s0 L F (hp_new I z1 o1 hok) (gx_N_new N0 h1 h2) hl)
end GoArr
