/-! the further invariant after each act -/
section Xo
variable {I J N : Nat → Nat → Int32} {m n T W P L V : Nat}
theorem xo_put (h : ix_ I m n T W P L) (hl : lim_ T W P L) (hx : xi_ I m n V) {x1 x2 x3 x4 x5 : Int32} : xo_ m (V + 60) (ap_put I m n x1 x2 x3 x4 x5).2 := by
  have := hl.1
  have := hl.2.2.1
  have := hl.2.2.2
  unfold ap_put
  by_cases z : sp_why I m n x1 x2 x3 x4 x5 = 0
  · rw [if_pos z]
    have hc := ix_com h (by omega) (by omega) (by omega) z
    exact xo_n (ix_4 hc) (ix_1 hc) (xi_com h hx z) (by omega)
  · rw [if_neg z]
    exact xo_ref h hx (by omega)
theorem xo_take (h : ix_ I m n T W P L) (hl : lim_ T W P L) (hx : xi_ I m n V) {x1 : Int32} : xo_ m (V + 60) (ap_take I m n x1).2 := by
  have := hl.1
  unfold ap_take
  by_cases z : 0 ≤ x1 ∧ x1 ≤ 5
  · rw [if_pos z]
    by_cases y : ra_W I m x1.toNatClampNeg 0 = -1
    · rw [if_pos y]
      obtain ⟨w, w5, ew⟩ := nI_of2 (n := 5) (M := 5) rfl (Int32.not_lt.mpr z.1) z.2
      have cw : x1.toNatClampNeg = w := by rw [ew]; exact nI_clamp (by omega)
      rw [cw]
      have hw : w < 6 := by omega
      refine xo_n (ix_4 h) ?_ (xi_tkby h hx (by omega) hw) (by omega)
      rcases tkby_3 h (w := w) with e | ⟨t, l, t1, t2, t3, t4, e⟩
      · rw [e]; exact ix_1 h
      · rw [e]; exact (tk_o (by omega) (by omega) (by omega)).trans (ix_1 h)
    · rw [if_neg y]
      exact xo_ref h hx (by omega)
  · rw [if_neg z]
    exact xo_ref h hx (by omega)
theorem done_j {pb : Int32} (hb : rb_ I m n pb) {t w j : Nat} (ht : t < n) (hw : w < 6) (hj : j = 0 ∨ j = 1) : sp_done I m n t w (m + 1) j = I (m + 1) j := by
  unfold sp_done
  have hb' : rb_ (i2_u (sp_lw (i2_u (sp_log I m 2 t (nI w) 0) (m + 1) (60 + 4 * w + 2) (I (m + 1) (60 + 4 * w + 2) + 1)) m t w) (m + 1) (200 + 14 * t + 12) (I (m + 1) 0)) m n pb := by
    refine rb_o hb ?_ (fun x q => ?_) (fun l q => ?_)
    · rw [i2_uj (by omega), sp_lw_o (by omega), i2_uj (by omega), sp_log_r]
    · show i2_u _ _ _ _ (m + 1) (200 + 14 * x + 0) = _
      rw [i2_uj (by omega), sp_lw_o (by omega), i2_uj (by omega), sp_log_r]
      rfl
    · show i2_u _ _ _ _ (m + 1) (10 + 10 * l + 4) = _
      rw [i2_uj (by omega), sp_lw_o (by omega), i2_uj (by omega), sp_log_r]
      rfl
  rw [cl_o (by omega), fre_o hb' (by omega) (by omega) (by omega), i2_uj (by omega), sp_lw_o (by omega), i2_uj (by omega), sp_log_r]
theorem xo_done (h : ix_ I m n T W P L) (hl : lim_ T W P L) (hx : xi_ I m n V) {x1 x2 : Int32} : xo_ m (V + 60) (ap_done I m n x1 x2).2 := by
  have h4 := ix_4 h
  have hb := ix_rb h (by have := hl.2.2.1; omega)
  show xo_ m (V + 60) (if 0 ≤ hd_ I m x1 x2 then sp_done I m n (hd_ I m x1 x2).toNatClampNeg x1.toNatClampNeg else sp_ref I m)
  rcases hd_3 h (x1 := x1) (x2 := x2) with e | ⟨w, t, w6, e1, t1, t2, t3, t4, t5, e⟩
  · rw [if_neg (hd_lt e)]
    exact xo_ref h hx (by omega)
  · rw [e, if_pos (nI_pos' (by omega)), nI_clamp (by omega), e1, nI_clamp (by omega)]
    exact xo_g h hx (xg_done hb t1 w6) (done_j hb t1 w6 (by omega)) (done_j hb t1 w6 (by omega)) (by omega)
theorem xo_fail (h : ix_ I m n T W P L) (hl : lim_ T W P L) (hx : xi_ I m n V) {x1 x2 x3 : Int32} : xo_ m (V + 60) (ap_fail I m n x1 x2 x3).2 := by
  have h4 := ix_4 h
  unfold ap_fail
  by_cases z : 1 ≤ x3 ∧ x3 ≤ 99
  · rw [if_pos z]
    rcases hd_3 h (x1 := x1) (x2 := x2) with e | ⟨w, t, w6, e1, t1, t2, t3, t4, t5, e⟩
    · rw [if_neg (hd_lt e)]
      exact xo_ref h hx (by omega)
    · rw [e, if_pos (nI_pos' (by omega)), nI_clamp (by omega)]
      obtain ⟨c, c9, ec⟩ := nI_of2 (n := 99) (M := 99) rfl (fun q => absurd (Int32.lt_of_lt_of_le q (show (0 : Int32) ≤ 1 by decide)) (Int32.not_lt.mpr z.1)) z.2
      have ef : (sp_fail I m n t x1.toNatClampNeg (ra_T I m t 3).toNatClampNeg x3).2 = sp_fl I m n t (nI c) := by
        unfold sp_fl
        rw [t4, e1, ec]
      show xo_ m (V + 60) (sp_fail I m n t x1.toNatClampNeg (ra_T I m t 3).toNatClampNeg x3).2
      rw [ef]
      have fo := (fl_o (c := nI c) h t1 t3).2.1
      exact xo_g h hx (xg_fl h t1 t3 (by omega)) (fo 0 (by omega) (by omega) (by omega)) (fo 1 (by omega) (by omega) (by omega)) (by omega)
  · rw [if_neg z]
    exact xo_ref h hx (by omega)
theorem xo_back (h : ix_ I m n T W P L) (hl : lim_ T W P L) (hx : xi_ I m n V) {x1 x2 : Int32} : xo_ m (V + 60) (ap_back I m n x1 x2).2 := by
  have h4 := ix_4 h
  have hb := ix_rb h (by have := hl.2.2.1; omega)
  show xo_ m (V + 60) (if 0 ≤ hd_ I m x1 x2 then sp_fr1 (sp_lw I m (hd_ I m x1 x2).toNatClampNeg x1.toNatClampNeg) m n (hd_ I m x1 x2).toNatClampNeg else sp_ref I m)
  rcases hd_3 h (x1 := x1) (x2 := x2) with e | ⟨w, t, w6, e1, t1, t2, t3, t4, t5, e⟩
  · rw [if_neg (hd_lt e)]
    exact xo_ref h hx (by omega)
  · rw [e, if_pos (nI_pos' (by omega)), nI_clamp (by omega), e1, nI_clamp (by omega)]
    have hbA : rb_ (sp_lw I m t w) m n (nI P) := rb_o hb (sp_lw_o (by omega)) (fun x q => sp_lw_o (by omega)) (fun l q => sp_lw_o (by omega))
    have o : ∀ j, (j = 0 ∨ j = 1) → sp_fr1 (sp_lw I m t w) m n t (m + 1) j = I (m + 1) j := fun j q => by
      rw [sp_fr1_o hbA t1 (by omega) (by omega) (by omega), sp_lw_o (by omega)]
    exact xo_g h hx (xg_back hb t1 w6) (o 0 (by omega)) (o 1 (by omega)) (by omega)
theorem xo_beat (h : ix_ I m n T W P L) (hl : lim_ T W P L) (hx : xi_ I m n V) {x1 x2 : Int32} : xo_ m (V + 60) (ap_beat I m x1 x2).2 := by
  have h4 := ix_4 h
  have := hl.1
  unfold ap_beat
  rcases hd_3 h (x1 := x1) (x2 := x2) with e | ⟨w, t, w6, e1, t1, t2, t3, t4, t5, e⟩
  · rw [if_neg (hd_lt e)]
    exact xo_ref h hx (by omega)
  · rw [e, if_pos (nI_pos' (by omega)), nI_clamp (by omega)]
    exact xo_n h4 ((i2_uj (by omega)).trans (ix_1 h)) (xi_11 h hx (by omega) t1 (fun j _ q => i2_uj q) (i2_uj (by omega)) i2_us) (by omega)
theorem xo_hand (h : ix_ I m n T W P L) (hl : lim_ T W P L) (hx : xi_ I m n V) {x1 x2 x3 : Int32} : xo_ m (V + 60) (ap_hand I m x1 x2 x3).2 := by
  have h4 := ix_4 h
  have := hl.1
  unfold ap_hand
  by_cases z : 0 ≤ x3 ∧ x3 ≤ 5
  · rw [if_pos z]
    rcases hd_3 h (x1 := x1) (x2 := x2) with e | ⟨w, t, w6, e1, t1, t2, t3, t4, t5, e⟩
    · rw [if_neg (hd_lt e)]
      exact xo_ref h hx (by omega)
    · rw [e, if_pos (nI_pos' (by omega)), nI_clamp (by omega), e1, nI_clamp (by omega)]
      obtain ⟨w', w5, ew⟩ := nI_of2 (n := 5) (M := 5) rfl (Int32.not_lt.mpr z.1) z.2
      have cw : x3.toNatClampNeg = w' := by rw [ew]; exact nI_clamp (by omega)
      rw [cw]
      split
      · have o : ∀ j, j ≠ 60 + 4 * w → j ≠ 60 + 4 * w' → j ≠ 200 + 14 * t + 9 → j ≠ 200 + 14 * t + 11 → sp_hand I m t w w' (m + 1) j = I (m + 1) j := fun j q1 q2 q3 q4 => by
          unfold sp_hand
          rw [i2_uj q4, i2_uj q3, i2_uj q2, i2_uj q1]
        exact xo_n h4 ((o 1 (by omega) (by omega) (by omega) (by omega)).trans (ix_1 h)) (xi_11 h hx (by omega) t1 (fun j q q' => o j (by unfold xj_ at q; omega) (by unfold xj_ at q; omega) (by unfold xj_ at q; omega) q') (o 0 (by omega) (by omega) (by omega) (by omega)) i2_us) (by omega)
      · exact xo_ref h hx (by omega)
  · rw [if_neg z]
    exact xo_ref h hx (by omega)
/-- where nothing of it is touched -/
theorem xo_eq (h : ix_ I m n T W P L) (hx : xi_ I m n V) (ho : ∀ j, (xj_ j ∨ j = 0 ∨ j = 1) → J (m + 1) j = I (m + 1) j) : xo_ m (V + 60) J := xo_g h hx (xg_eq (ix_4 h) (fun j q => ho j (Or.inl q))) (ho 0 (by omega)) (ho 1 (by omega)) (by omega)
theorem xo_pardon (h : ix_ I m n T W P L) (hx : xi_ I m n V) {x1 : Int32} : xo_ m (V + 60) (ap_pardon I m x1).2 := by
  unfold ap_pardon
  split
  · split
    · exact xo_ref h hx (by omega)
    · exact xo_eq h hx (fun j _ => i2_ua (by omega))
  · exact xo_ref h hx (by omega)
theorem xo_stop (h : ix_ I m n T W P L) (hx : xi_ I m n V) {x1 : Int32} : xo_ m (V + 60) (ap_stop I m x1).2 := by
  obtain ⟨k, k1, k2⟩ := hx.2.2.2
  unfold ap_stop
  by_cases z : 0 ≤ x1 ∧ x1 ≤ I (m + 1) 84 - 1
  · rw [if_pos z]
    split
    · exact xo_ref h hx (by omega)
    · have hc : x1.toNatClampNeg < 12 := by
        obtain ⟨c, hc, ec⟩ := nI_of (Int32.not_lt.mpr z.1)
        have z2 := z.2
        rw [ec, k2] at z2
        rw [ec, nI_clamp hc]
        rcases k with _ | k
        · exact absurd z2 (by
            intro y
            have : (0 : Int32) ≤ nI 0 - 1 := Int32.le_trans (nI_pos' hc) y
            exact absurd this (by decide))
        · rw [show nI (k + 1) - 1 = nI k from sub_nI (a := k) (b := 1), nI_leI hc (by omega)] at z2
          omega
      exact xo_eq h hx (fun j q => i2_uj (by unfold xj_ at q; omega))
  · rw [if_neg z]
    exact xo_ref h hx (by omega)
theorem l_of {x : Int32} (z : 0 ≤ x ∧ x ≤ 4) : ∃ l, l < 5 ∧ x = nI l ∧ x.toNatClampNeg = l := by
  obtain ⟨l, l5, el⟩ := nI_of2 (n := 4) (M := 4) rfl (Int32.not_lt.mpr z.1) z.2
  exact ⟨l, by omega, el, by rw [el]; exact nI_clamp (by omega)⟩
theorem xo_open (h : ix_ I m n T W P L) (hx : xi_ I m n V) {x1 : Int32} : xo_ m (V + 60) (ap_open I m x1).2 := by
  unfold ap_open
  by_cases z : 0 ≤ x1 ∧ x1 ≤ 4
  · rw [if_pos z]
    obtain ⟨l, l5, el, cl⟩ := l_of z
    rw [cl]
    split
    · exact xo_ref h hx (by omega)
    · exact xo_eq h hx (fun j q => i2_uj (by unfold xj_ at q; omega))
  · rw [if_neg z]
    exact xo_ref h hx (by omega)
theorem xo_drain (h : ix_ I m n T W P L) (hx : xi_ I m n V) {x1 : Int32} : xo_ m (V + 60) (ap_drain I m n x1).2 := by
  unfold ap_drain
  by_cases z : 0 ≤ x1 ∧ x1 ≤ 4
  · rw [if_pos z]
    obtain ⟨l, l5, el, cl⟩ := l_of z
    rw [cl]
    split
    · exact xo_eq h hx (fun j q => by
        show ra_cls _ m n 5 (m + 1) j = _
        rw [cl_o (by unfold xj_ at q; omega), i2_uj (by unfold xj_ at q; omega)])
    · exact xo_ref h hx (by omega)
  · rw [if_neg z]
    exact xo_ref h hx (by omega)
theorem xi_tks (hP : P < 2147483648) : ∀ (j : Nat) {I : fI} {n T L : Nat}, ix_ I m n T W P L → xi_ I m n V → T + j < 900000 → L + lj_ j < 1998900000 → ∃ n', ix_ (sp_tks m j I) m n' (T + j) W P (L + lj_ j) ∧ xi_ (sp_tks m j I) m n' V
  | 0, I, n, T, L, h, hx, _, _ => ⟨n, h, hx⟩
  | j + 1, I, n, T, L, h, hx, hT, hL => by
    rw [lj_s] at hL
    have hL1 : L + 20000 < 1998900000 := Nat.lt_of_le_of_lt (Nat.add_le_add_left (Nat.le_add_left 20000 (lj_ j)) L) hL
    have hL2 : L + 20000 + lj_ j < 1998900000 := by rw [Nat.add_assoc, Nat.add_comm 20000]; exact hL
    obtain ⟨n1, a1, a2, a3⟩ := xi_tick h hx (by omega) hP hL1
    obtain ⟨n2, b1, b2⟩ := xi_tks hP j a2 a3 (by omega) hL2
    refine ⟨n2, ?_, ?_⟩
    · show ix_ (sp_tks m j (sp_tick I m (nn_ I m))) m n2 (T + (j + 1)) W P (L + lj_ (j + 1))
      rw [nn_e h, lj_s]
      exact ix_up b1 (by omega) (Nat.le_refl _) (Nat.le_refl _) (by rw [Nat.add_assoc, Nat.add_comm 20000]; exact Nat.le_refl _)
    · show xi_ (sp_tks m j (sp_tick I m (nn_ I m))) m n2 V
      rw [nn_e h]
      exact b2
theorem xo_tick (h : ix_ I m n T W P L) (hl : lim_ T W P L) (hx : xi_ I m n V) {x1 : Int32} : xo_ m (V + 60) (ap_tick I m x1).2 := by
  have := hl.1
  have := hl.2.2.1
  have := hl.2.2.2
  unfold ap_tick
  by_cases z : 1 ≤ x1 ∧ x1 ≤ 99
  · rw [if_pos z]
    obtain ⟨c, c9, ec⟩ := nI_of2 (n := 99) (M := 99) rfl (fun q => absurd (Int32.lt_of_lt_of_le q (show (0 : Int32) ≤ 1 by decide)) (Int32.not_lt.mpr z.1)) z.2
    have cc : x1.toNatClampNeg = c := by rw [ec]; exact nI_clamp (by omega)
    have hlj : lj_ c ≤ 1980000 := lj_le (by omega)
    rw [cc]
    obtain ⟨n', b1, b2⟩ := xi_tks (by omega) c h hx (by omega) (by omega)
    exact xo_n (ix_4 b1) (ix_1 b1) b2 (by omega)
  · rw [if_neg z]
    exact xo_ref h hx (by omega)
theorem xo_rule (h : ix_ I m n T W P L) (hx : xi_ I m n V) {x1 x2 : Int32} : xo_ m (V + 60) (ap_rule I m x1 x2).2 := by
  unfold ap_rule
  by_cases z : (0 ≤ x1 ∧ x1 ≤ 5) ∧ (1 ≤ x2 ∧ x2 ≤ nI (most_ x1.toNatClampNeg))
  · rw [if_pos z]
    obtain ⟨w, w5, ew⟩ := nI_of2 (n := 5) (M := 5) rfl (Int32.not_lt.mpr z.1.1) z.1.2
    have cw : x1.toNatClampNeg = w := by rw [ew]; exact nI_clamp (by omega)
    rw [cw]
    exact xo_eq h hx (fun j q => i2_uj (by unfold xj_ at q; omega))
  · rw [if_neg z]
    exact xo_ref h hx (by omega)
theorem xo_arr (h : ix_ I m n T W P L) (hx : xi_ I m n V) {x1 x2 x3 : Int32} : xo_ m (V + 60) (ap_arr I m x1 x2 x3).2 := by
  unfold ap_arr
  by_cases z : (0 ≤ x1 ∧ x1 ≤ 4) ∧ (0 ≤ x2 ∧ x2 ≤ 2) ∧ (1 ≤ x3 ∧ x3 ≤ nI (topl_ x2.toNatClampNeg))
  · rw [if_pos z]
    obtain ⟨l, l5, el, cl⟩ := l_of z.1
    obtain ⟨w, w5, ew⟩ := nI_of2 (n := 2) (M := 2) rfl (Int32.not_lt.mpr z.2.1.1) z.2.1.2
    have cw : x2.toNatClampNeg = w := by rw [ew]; exact nI_clamp (by omega)
    rw [cl, cw]
    exact xo_eq h hx (fun j q => i2_uj (by unfold xj_ at q; omega))
  · rw [if_neg z]
    exact xo_ref h hx (by omega)
theorem t_of (h : ix_ I m n T W P L) {x : Int32} (z : 0 ≤ x ∧ x ≤ nI n - 1) : ∃ t, t < n ∧ x = nI t ∧ x.toNatClampNeg = t := by
  have h4 := ix_4 h
  obtain ⟨c, hc, ec⟩ := nI_of (Int32.not_lt.mpr z.1)
  have z2 := z.2
  rw [ec] at z2
  refine ⟨c, ?_, ec, by rw [ec]; exact nI_clamp hc⟩
  rcases n with _ | n
  · exact absurd (Int32.le_trans (nI_pos' hc) z2) (by decide)
  · rw [show nI (n + 1) - 1 = nI n from sub_nI (a := n) (b := 1), nI_leI hc (by omega)] at z2
    omega
theorem xo_raise (h : ix_ I m n T W P L) (hx : xi_ I m n V) {x1 x2 : Int32} : xo_ m (V + 60) (ap_raise I m n x1 x2).2 := by
  unfold ap_raise
  split
  · split
    · exact xo_eq h hx (fun j q => i2_uj (by unfold xj_ at q; omega))
    · exact xo_ref h hx (by omega)
  · exact xo_ref h hx (by omega)
theorem xo_cancel (h : ix_ I m n T W P L) (hx : xi_ I m n V) {x1 : Int32} : xo_ m (V + 60) (ap_cancel I m n x1).2 := by
  have h4 := ix_4 h
  unfold ap_cancel
  by_cases z : 0 ≤ x1 ∧ x1 ≤ nI n - 1
  · rw [if_pos z]
    obtain ⟨t, t1, et, ct⟩ := t_of h z
    rw [ct]
    split
    · have e6 : ra_T (sp_gone I m t) m t 6 = 6 := by rw [gone_6, if_pos rfl]
      have g1 : xg_ m n I (sp_gone I m t) := xg_1 (t := t) h4 (fun j q q1 q2 q3 => gone_o (by unfold xj_ at q; omega) (by omega) (by omega)) (by rw [e6]; decide) (fun q => by rw [e6] at q; exact absurd q (by decide))
      have o : ∀ j, (j = 0 ∨ j = 1) → ra_cls (sp_dr 401 (sp_gone I m t) m n [t] 101).1 m n 5 (m + 1) j = I (m + 1) j := fun j q => by
        rw [cl_o (by omega), dr_o 401 (Or.inr ⟨fun x _ _ => by omega, by omega, by omega⟩) h4 (by omega) (by omega) (by omega) (by omega), gone_o (by omega) (by omega) (by omega)]
      have g2 := xg_dr (m := m) h4 401 (I := sp_gone I m t) (lv := [t]) (c := 101) (by decide)
      rw [show nI 101 = (101 : Int32) from rfl] at g2
      exact xo_g h hx (xg_tr g1 (xg_tr g2 (xg_cls h4))) (o 0 (by omega)) (o 1 (by omega)) (by omega)
    · exact xo_ref h hx (by omega)
  · rw [if_neg z]
    exact xo_ref h hx (by omega)
theorem xo_every (h : ix_ I m n T W P L) (hx : xi_ I m n V) {x1 x2 x3 x4 x5 : Int32} : xo_ m (V + 60) (ap_every I m x1 x2 x3 x4 x5).2 := by
  obtain ⟨k, k1, k2⟩ := hx.2.2.2
  unfold ap_every
  split
  · by_cases z : I (m + 1) 84 = 12
    · rw [if_pos z]
      exact xo_ref h hx (by omega)
    · rw [if_neg z]
      have k12 : k < 12 := by
        rcases Nat.lt_or_ge k 12 with y | y
        · exact y
        · exact absurd (by rw [k2, show k = 12 by omega]; rfl) z
      have ck : (I (m + 1) 84).toNatClampNeg = k := by rw [k2]; exact nI_clamp (by omega)
      rw [ck]
      have o : ∀ j, j ≠ 84 → (j < 85 + 8 * k ∨ 85 + 8 * k + 8 ≤ j) → sp_ev I m k x1 x2 x3 x4 x5 (m + 1) j = I (m + 1) j := fun j q1 q2 => by
        unfold sp_ev
        rw [i2_uj q1, i2_uj (by omega), i2_uj (by omega), i2_uj (by omega), i2_uj (by omega), i2_uj (by omega), i2_uj (by omega), i2_uj (by omega), i2_uj (by omega)]
      obtain ⟨a, b, ⟨g, g1, g2⟩, -⟩ := hx
      have h4 := ix_4 h
      refine xo_n (V := V) h4 ((o 1 (by omega) (by omega)).trans (ix_1 h)) ⟨fun t ht q => ?_, fun t ht q => ?_, ⟨g, fun l q => (o _ (by omega) (by omega)).trans (g1 l q), g2⟩, k + 1, by omega, ?_⟩ (by omega)
      · rw [show ra_T (sp_ev I m k x1 x2 x3 x4 x5) m t 6 = ra_T I m t 6 from o _ (by omega) (by omega)] at q
        rw [show ra_T (sp_ev I m k x1 x2 x3 x4 x5) m t 11 = ra_T I m t 11 from o _ (by omega) (by omega)]
        show sp_ev I m k x1 x2 x3 x4 x5 (m + 1) 0 < _
        rw [o 0 (by omega) (by omega)]
        exact a t ht q
      · rw [show ra_T (sp_ev I m k x1 x2 x3 x4 x5) m t 6 = ra_T I m t 6 from o _ (by omega) (by omega)] at q
        rw [show ra_T (sp_ev I m k x1 x2 x3 x4 x5) m t 13 = ra_T I m t 13 from o _ (by omega) (by omega)]
        exact b t ht q
      · unfold sp_ev
        show i2_u _ (m + 1) 84 (I (m + 1) 84 + 1) (m + 1) 84 = _
        rw [i2_us, k2, nI_1]
  · exact xo_ref h hx (by omega)
theorem xo_dis (h : ix_ I m n T W P L) (hx : xi_ I m n V) {x1 : Int32} : xo_ m (V + 60) (ap_dis I m n x1).2 := by
  have h4 := ix_4 h
  unfold ap_dis
  by_cases z : 0 ≤ x1 ∧ x1 ≤ nI n - 1
  · rw [if_pos z]
    obtain ⟨t, t1, et, ct⟩ := t_of h z
    rw [ct]
    split
    · have e6 : ra_T (sp_dis I m t) m t 6 = 6 := by rw [dis_6 (by omega), if_pos rfl]
      have o : ∀ j, j ≠ 3 → j < 5800 → j ≠ 200 + 14 * t + 6 → sp_dis I m t (m + 1) j = I (m + 1) j := fun j q1 q2 q3 => dis_o (by omega) (by omega) (by omega) (by omega)
      exact xo_g h hx (xg_1 (t := t) h4 (fun j q q1 q2 q3 => o j (by unfold xj_ at q; omega) (by unfold xj_ at q; omega) q1) (by rw [e6]; decide) (fun q => by rw [e6] at q; exact absurd q (by decide))) (o 0 (by omega) (by omega) (by omega)) (o 1 (by omega) (by omega) (by omega)) (by omega)
    · exact xo_ref h hx (by omega)
  · rw [if_neg z]
    exact xo_ref h hx (by omega)
theorem xo_agn (h : ix_ I m n T W P L) (hl : lim_ T W P L) (hx : xi_ I m n V) {x1 : Int32} : xo_ m (V + 60) (ap_agn I m n x1).2 := by
  have h4 := ix_4 h
  have hb := ix_rb h (by have := hl.2.2.1; omega)
  unfold ap_agn
  by_cases z : 0 ≤ x1 ∧ x1 ≤ nI n - 1
  · rw [if_pos z]
    obtain ⟨t, t1, et, ct⟩ := t_of h z
    rw [ct]
    split
    · have hbv := agv_rb hb (t := t) (by omega) (v := 1)
      have o : ∀ j, j ≠ 3 → j < 5800 → j ≠ 200 + 14 * t + 6 → j ≠ 200 + 14 * t + 7 → (j < 10 ∨ 60 ≤ j ∨ j % 10 ≠ 4) → sp_agn I m n t (m + 1) j = I (m + 1) j := fun j q1 q2 q3 q4 q5 => by
        unfold sp_agn
        rw [sp_log_r]
        unfold sp_agx
        split
        · exact agv_o (by omega) (by omega)
        · rw [sp_wt_o hbv t1 (by omega)]
          exact agv_o (by omega) (by omega)
      have e6 : ra_T (sp_agn I m n t) m t 6 = 0 ∨ ra_T (sp_agn I m n t) m t 6 = 1 := by
        have e : ra_T (sp_agn I m n t) m t 6 = ra_T (sp_agx I m n t) m t 6 := sp_log_r
        rw [e]
        unfold sp_agx
        split
        · right
          rw [agv_T (by omega) (by omega) (by decide), if_pos ⟨rfl, rfl⟩]
        · left
          exact sp_wt_6
      exact xo_g h hx (xg_1 (t := t) h4 (fun j q q1 q2 q3 => o j (by unfold xj_ at q; omega) (by unfold xj_ at q; omega) q1 (by unfold xj_ at q; omega) (by unfold xj_ at q; omega)) (by rcases e6 with e | e <;> rw [e] <;> decide) (fun q => by rcases e6 with e | e <;> (rw [e] at q; exact absurd q (by decide)))) (o 0 (by omega) (by omega) (by omega) (by omega) (by omega)) (o 1 (by omega) (by omega) (by omega) (by omega) (by omega)) (by omega)
    · exact xo_ref h hx (by omega)
  · rw [if_neg z]
    exact xo_ref h hx (by omega)
theorem xo_mov (h : ix_ I m n T W P L) (hx : xi_ I m n V) {x1 x2 : Int32} : xo_ m (V + 60) (ap_mov I m n x1 x2).2 := by
  have h4 := ix_4 h
  unfold ap_mov
  by_cases z : (0 ≤ x1 ∧ x1 ≤ nI n - 1) ∧ (0 ≤ x2 ∧ x2 ≤ 4)
  · rw [if_pos z]
    obtain ⟨t, t1, et, ct⟩ := t_of h z.1
    obtain ⟨l, l5, el, cl⟩ := l_of z.2
    rw [ct, cl]
    split
    · split
      · exact xo_ref h hx (by omega)
      · have oT : ∀ x f, f < 14 → f ≠ 0 → ra_T (sp_mov I m n t l) m x f = ra_T I m x f := fun x f q1 q2 => by rw [mov_T l5 q1, if_neg (by omega)]
        refine xo_eq h hx (fun j q => ?_)
        by_cases y : j = 200 + 14 * t + 6
        · rw [y]
          exact oT t 6 (by decide) (by decide)
        · exact mov_o l5 (by unfold xj_ at q; omega) (by omega) (by omega)
    · exact xo_ref h hx (by omega)
  · rw [if_neg z]
    exact xo_ref h hx (by omega)
theorem xo_hng (h : ix_ I m n T W P L) (hx : xi_ I m n V) {x1 : Int32} : xo_ m (V + 60) (ap_hng I m n x1).2 := by
  unfold ap_hng
  split
  · exact xo_eq h hx (fun j _ => hm_o (by omega))
  · exact xo_eq h hx (fun j _ => rfl)
/-- queries, and calls on paper -/
theorem xo_id (h : ix_ I m n T W P L) (hx : xi_ I m n V) : xo_ m (V + 60) I := xo_eq h hx (fun _ _ => rfl)
theorem xo_sc (h : ix_ I m n T W P L) (hx : xi_ I m n V) (hs : sc_ m I J) : xo_ m (V + 60) J := xo_eq h hx (fun j _ => hs.1 _ _ (by omega))
end Xo
