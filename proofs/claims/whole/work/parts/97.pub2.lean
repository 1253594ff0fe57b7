/-! what a worker holds: done, fail, beat, back, hand -/
section Pub2
variable {B M M' : mm_T} {I J E : Nat → Nat → Int32} {m n T W P L : Nat} {ta tm : Nat → Nat} {S : Nat → Nat → Bool}
def hd_ (I : fI) (m : Nat) (x1 x2 : Int32) : Int32 := if 0 ≤ x1 ∧ x1 ≤ 5 then (if ra_W I m x1.toNatClampNeg 0 = -1 then -3 else if ra_T I m (ra_W I m x1.toNatClampNeg 0).toNatClampNeg 10 = x2 then ra_W I m x1.toNatClampNeg 0 else -3) else -2
theorem hd_e {w t : Nat} {x1 x2 : Int32} (e1 : x1 = nI w) (hw : w < 6) (h0 : ra_W I m w 0 = nI t) (ht : t < 400) (h10 : ra_T I m t 10 = x2) : hd_ I m x1 x2 = nI t := by
  unfold hd_
  rw [e1, if_pos (in_5 hw), nI_clamp (by omega), h0, if_neg (nI_nm (by omega)), nI_clamp (by omega), if_pos h10]
theorem hd_x {w : Nat} {x1 x2 : Int32} (e1 : x1 = nI w) (hw : w < 6) (h : ra_W I m w 0 = -1 ∨ ∃ t, t < 400 ∧ ra_W I m w 0 = nI t ∧ ¬ ra_T I m t 10 = x2) : hd_ I m x1 x2 = -3 := by
  unfold hd_
  rw [e1, if_pos (in_5 hw), nI_clamp (by omega)]
  rcases h with h | ⟨t, ht, h0, h10⟩
  · rw [if_pos h]
  · rw [h0, if_neg (nI_nm (by omega)), nI_clamp (by omega), if_neg h10]
theorem hd_3 (h : ix_ I m n T W P L) {x1 x2 : Int32} : (hd_ I m x1 x2 = -2 ∨ hd_ I m x1 x2 = -3) ∨ ∃ w t, w < 6 ∧ x1 = nI w ∧ t < n ∧ ra_W I m w 0 = nI t ∧ ra_T I m t 6 = 3 ∧ ra_T I m t 9 = nI w ∧ ra_T I m t 10 = x2 ∧ hd_ I m x1 x2 = nI t := by
  have h4 := ix_4 h
  by_cases c : 0 ≤ x1 ∧ x1 ≤ 5
  · obtain ⟨w, hw, rfl⟩ := i32_in (N := 5) (by decide) c
    rcases h.1.2.2.1.2.2 w (by omega) with e | ⟨t, t1, t2, t3, t4⟩
    · exact Or.inl (Or.inr (hd_x rfl (by omega) (Or.inl e)))
    · by_cases d : ra_T I m t 10 = x2
      · exact Or.inr ⟨w, t, by omega, rfl, t1, t2, t3, t4, d, hd_e rfl (by omega) t2 (by omega) d⟩
      · exact Or.inl (Or.inr (hd_x rfl (by omega) (Or.inr ⟨t, by omega, t2, d⟩)))
  · exact Or.inl (Or.inl (if_neg c))
theorem rc_hd (RK : rf_ok B m) (h : ix_ I m n T W P L) {x1 x2 : Int32} {Q : Int32 → fI → Prop} (K : Q (hd_ I m x1 x2) I) : rs_i mt_X11_heldBy [pv_r m, pv_i x1, pv_i x2] B I Q := by
  have h4 := ix_4 h
  refine wq_X11_heldBy_0 RK ⟨fun c => ?_, fun c => by rw [show hd_ I m x1 x2 = -2 from if_neg c] at K; exact K⟩
  obtain ⟨w, hw, rfl⟩ := i32_in (N := 5) (by decide) c
  rcases h.1.2.2.1.2.2 w (by omega) with e | ⟨t, t1, t2, t3, t4⟩
  · refine ⟨w, ⟨rfl, by omega⟩, fun _ => ?_, fun q => absurd e q⟩
    rw [hd_x rfl (by omega) (Or.inl e)] at K
    exact K
  · refine ⟨w, ⟨rfl, by omega⟩, fun q => absurd (t2.symm.trans q) (nI_nm (by omega)), fun _ => ⟨t, ⟨t2, by omega⟩, fun d => ?_, fun d => ?_⟩⟩
    · rw [hd_e rfl (by omega) t2 (by omega) d, ← t2] at K
      exact K
    · rw [hd_x rfl (by omega) (Or.inr ⟨t, by omega, t2, d⟩)] at K
      exact K
theorem nt_hd (hS : uf_ S m) (h : ix_ I m n T W P L) {x1 x2 : Int32} : hd_ (pt_ S E I) m x1 x2 = hd_ I m x1 x2 := by
  unfold hd_ ra_W ra_T
  rw [uf_at hS (by omega) (by omega), uf_at hS (by omega) (by omega)]
theorem ce_holding (h : re_ M I m n ta tm) (hi : ix_ I m n T W P L) {w : Nat} (hw : w < 6) {x1 x2 : Int32} (e1 : x1 = nI w) {Q : Nat → mm_T → Prop} (K0 : hd_ I m x1 x2 = -3 → Q 0 M) (K1 : ∀ t, t < n → ra_W I m w 0 = nI t → ra_T I m t 6 = 3 → ra_T I m t 9 = nI w → ra_T I m t 10 = x2 → Q (ta t) M) : cs_r mt_X9_holding [pv_r (86 + w), pv_i x2] M Q := by
  have h4 := ix_4 hi
  have rw1 := (h.2.1.2.2.1 w hw).1
  refine wc_X9_holding_0 (h.1.1.2.2.1.2.1 w hw).2.1 ?_
  rw [rw1]
  rcases hi.1.2.2.1.2.2 w hw with e | ⟨t, t1, t2, t3, t4⟩
  · exact ⟨fun _ => K0 (hd_x e1 hw (Or.inl e)), fun q => absurd (by unfold rft; rw [if_pos e]) q⟩
  · have er : rft ta (ra_W I m w 0) = ta t := by unfold rft; rw [t2, if_neg (nI_nm (by omega)), nI_clamp (by omega)]
    have g := re_ge h t1
    have v10 : mm_i M (ta t) 11 = ra_T I m t 10 := by
      refine (h.1.2.2.1.1 t t1).2.2.1.2.1 ?_
      rcases hi.1.2.2.1.1 t t1 with ⟨-, w2, k, e', -, -, -, hk9, hk, -⟩ | ⟨z, -⟩
      · rw [hk]; exact nI_nm (by omega)
      · exact absurd t3 z
    rw [er, v10]
    exact ⟨fun q => absurd q (by omega), fun _ => ⟨g.2, fun d => K0 (hd_x e1 hw (Or.inr ⟨t, by omega, t2, d⟩)), fun d => K1 t t1 t2 t3 t4 d⟩⟩
theorem ce_hd (h : re_ M I m n ta tm) (hi : ix_ I m n T W P L) {x1 x2 : Int32} {A : Nat → mm_T → Prop} {Q : Int32 → mm_T → Prop} (K1 : ∀ w t, w < 6 → x1 = nI w → t < n → ra_W I m w 0 = nI t → ra_T I m t 6 = 3 → ra_T I m t 9 = nI w → ra_T I m t 10 = x2 → A (ta t) M) (K3 : hd_ I m x1 x2 = -3 → cs_i mt_X10_counted [pv_r 5, pv_i (-3)] M Q) (K2 : hd_ I m x1 x2 = -2 → cs_i mt_X10_counted [pv_r 5, pv_i (-2)] M Q) :
    cs_r mt_X10_workerAt [pv_r 5, pv_i x1] M (fun v2 M1 => (((¬ v2 = 0) → mm_k M1 v2 = (9, 5) ∧ (cs_r mt_X9_holding [pv_r v2, pv_i x2] M1 (fun v6 M5 => (((¬ v6 = 0) → A v6 M5) ∧ ((v6 = 0) → (((¬ v2 = 0) → cs_i mt_X10_counted [pv_r 5, pv_i (-3)] M5 Q) ∧ ((v2 = 0) → cs_i mt_X10_counted [pv_r 5, pv_i (-2)] M5 Q))))))) ∧ ((v2 = 0) → (((¬ v2 = 0) → cs_i mt_X10_counted [pv_r 5, pv_i (-3)] M1 Q) ∧ ((v2 = 0) → cs_i mt_X10_counted [pv_r 5, pv_i (-2)] M1 Q))))) := by
  refine ce_workerAt h (fun w hw e => ⟨fun _ => ⟨(h.1.1.2.2.1.2.1 w hw).2.1, ce_holding h hi hw e (fun z => ?_) (fun t t1 t2 t3 t4 t5 => ?_)⟩, fun c => absurd c (by omega)⟩) (fun q => ⟨fun c => absurd rfl c, fun _ => ⟨fun c => absurd rfl c, fun _ => K2 (if_neg q)⟩⟩)
  · exact ⟨fun c => absurd rfl c, fun _ => ⟨fun _ => K3 z, fun c => absurd c (by omega)⟩⟩
  · exact ⟨fun _ => K1 w t hw e t1 t2 t3 t4 t5, fun c => absurd c (by have := (re_ge h t1).1; omega)⟩
theorem hd_no (h : ix_ I m n T W P L) {x1 x2 : Int32} (e : hd_ I m x1 x2 = -2 ∨ hd_ I m x1 x2 = -3) {w t : Nat} (hw : w < 6) (e1 : x1 = nI w) (ht : t < n) (h0 : ra_W I m w 0 = nI t) (h10 : ra_T I m t 10 = x2) : False := by
  have h4 := ix_4 h
  rw [hd_e e1 hw h0 (by omega) h10] at e
  rcases e with e | e
  · exact absurd (show nI t < 0 by rw [e]; decide) (nI_pos (by omega))
  · exact absurd (show nI t < 0 by rw [e]; decide) (nI_pos (by omega))
theorem hd_lt {x : Int32} (e : x = -2 ∨ x = -3) : ¬ 0 ≤ x := by
  rcases e with e | e <;> rw [e] <;> decide
/-! done -/
def ap_done (I : fI) (m n : Nat) (x1 x2 : Int32) : Int32 × fI := (hd_ I m x1 x2, if 0 ≤ hd_ I m x1 x2 then sp_done I m n (hd_ I m x1 x2).toNatClampNeg x1.toNatClampNeg else sp_ref I m)
theorem sm_done (h : ix_ I m n T W P L) (hl : lim_ T W P L) {x1 x2 : Int32} : sm_ I m n T W P L (ap_done I m n x1 x2) (fun M Q => cs_i mt_X10_done [pv_r 5, pv_i x1, pv_i x2] M Q) (fun B J Q => rs_i mt_X11_done [pv_r m, pv_i x1, pv_i x2] B J Q) := by
  obtain ⟨l1, l2, l3, l4⟩ := hl
  have h4 := ix_4 h
  rcases hd_3 h (x1 := x1) (x2 := x2) with e | ⟨w, t, hw, e1, t1, t2, t3, t4, t5, e⟩
  · rw [show ap_done I m n x1 x2 = (hd_ I m x1 x2, sp_ref I m) by unfold ap_done; rw [if_neg (hd_lt e)]]
    refine ⟨ix_rx h, fun M ta tm Q hr K => ?_, fun S E B Q hS RK K => ?_⟩
    · have K : ∀ M' n' ta' tn, re_ M' (sp_ref I m) m n' ta' tn → Q (hd_ I m x1 x2) M' := K
      exact wc_X10_done_0 (re_m5 hr) (ce_hd hr h (fun w t hw e1 t1 t2 _ _ t5 => (hd_no h e hw e1 t1 t2 t5).elim) (fun z => cr_x hr (by decide) (by rw [z] at K; exact K)) (fun z => cr_x hr (by decide) (by rw [z] at K; exact K)))
    · refine wq_X11_done_0 RK (rc_hd RK (ix_pt h hS) ?_)
      rw [nt_hd hS h]
      exact ⟨fun q => absurd q (hd_lt e), fun _ => rr_x hS (ix_8 h) K⟩
  · have h0 : 0 ≤ nI t := Int32.not_lt.mp (nI_pos (by omega))
    rw [show ap_done I m n x1 x2 = (nI t, sp_done I m n t w) by unfold ap_done; rw [e, e1, if_pos h0, nI_clamp (by omega), nI_clamp (by omega)]]
    refine ⟨⟨n, ix_up (ix_done h (by omega) (by omega) t1 hw t3 t4) (by omega) (by omega) (by omega) (by omega)⟩, fun M ta tm Q hr K => ?_, fun S E B Q hS RK K => ?_⟩
    · refine wc_X10_done_0 (re_m5 hr) (ce_hd hr h (fun w' t' hw' e1' t1' t2' t3' t4' t5' => ?_) (fun z => absurd (e.symm.trans z) ?_) (fun z => absurd (e.symm.trans z) ?_))
      · have ew : w' = w := (nI_eq (by omega) (by omega)).mp (e1'.symm.trans e1)
        subst ew
        have et : t' = t := (nI_eq (by omega) (by omega)).mp (t2'.symm.trans t2)
        subst et
        refine ce_complete hr (ix_8 h) (ix_bl h) (ix_rb h (by omega)) (ix_lb h) (by omega) h.2.1.2.2.1 t1 hw t3 t4 (fun M' h' => ⟨(re_ge h' t1).2, ?_⟩)
        rw [(h'.1.2.2.1.1 t' t1).1.2.2.1]
        exact K _ _ _ _ h'
      · intro z; rw [z] at h0; exact absurd h0 (by decide)
      · intro z; rw [z] at h0; exact absurd h0 (by decide)
    · have hJ := ix_pt (E := E) h hS
      refine wq_X11_done_0 RK (rc_hd RK hJ ?_)
      rw [nt_hd hS h, e]
      refine ⟨fun _ => rc_done RK (ix_rb hJ (by omega)) (ix_lb hJ) (by omega) (w := w) ((nt_T (uf_us hS)).trans t4) hw rfl t1 ?_, fun q => absurd h0 q⟩
      rw [nt_done (uf_us hS) (ix_rb h (by omega)) hw]
      exact K
/-! fail -/
def ap_fail (I : fI) (m n : Nat) (x1 x2 x3 : Int32) : Int32 × fI := if 1 ≤ x3 ∧ x3 ≤ 99 then (if 0 ≤ hd_ I m x1 x2 then sp_fail I m n (hd_ I m x1 x2).toNatClampNeg x1.toNatClampNeg (ra_T I m (hd_ I m x1 x2).toNatClampNeg 3).toNatClampNeg x3 else (hd_ I m x1 x2, sp_ref I m)) else (-2, sp_ref I m)
theorem sm_fail (h : ix_ I m n T W P L) (hl : lim_ T W P L) {x1 x2 x3 : Int32} : sm_ I m n T W P L (ap_fail I m n x1 x2 x3) (fun M Q => cs_i mt_X10_fail [pv_r 5, pv_i x1, pv_i x2, pv_i x3] M Q) (fun B J Q => rs_i mt_X11_fail [pv_r m, pv_i x1, pv_i x2, pv_i x3] B J Q) := by
  obtain ⟨l1, l2, l3, l4⟩ := hl
  have h4 := ix_4 h
  by_cases c3 : 1 ≤ x3 ∧ x3 ≤ 99
  · have c1 : ¬ x3 < 1 := Int32.not_lt.mpr c3.1
    rcases hd_3 h (x1 := x1) (x2 := x2) with e | ⟨w, t, hw, e1, t1, t2, t3, t4, t5, e⟩
    · rw [show ap_fail I m n x1 x2 x3 = (hd_ I m x1 x2, sp_ref I m) by unfold ap_fail; rw [if_pos c3, if_neg (hd_lt e)]]
      refine ⟨ix_rx h, fun M ta tm Q hr K => ?_, fun S E B Q hS RK K => ?_⟩
      · have K : ∀ M' n' ta' tn, re_ M' (sp_ref I m) m n' ta' tn → Q (hd_ I m x1 x2) M' := K
        refine wc_X10_fail_0 (re_m5 hr) (ce_workerAt hr (fun w hw e1 => ⟨fun c => absurd c (by omega), fun _ => ⟨fun q => absurd q c1, fun _ => ⟨fun _ => ⟨(hr.1.1.2.2.1.2.1 w hw).2.1, ce_holding hr h hw e1 (fun z => ⟨fun q => absurd rfl q, fun _ => cr_x hr (by decide) (by rw [z] at K; exact K)⟩) (fun t t1 t2 t3 t4 t5 => (hd_no h e hw e1 t1 t2 t5).elim)⟩, fun q => absurd c3.2 q⟩⟩⟩) (fun q => ⟨fun _ => cr_x hr (by decide) (by rw [show hd_ I m x1 x2 = -2 from if_neg q] at K; exact K), fun q => absurd rfl q⟩))
      · refine wq_X11_fail_0 RK ⟨fun _ => rc_hd RK (ix_pt h hS) ?_, fun q => absurd c3 q⟩
        rw [nt_hd hS h]
        exact ⟨fun q => absurd q (hd_lt e), fun _ => rr_x hS (ix_8 h) K⟩
    · have h0 : 0 ≤ nI t := Int32.not_lt.mp (nI_pos (by omega))
      obtain ⟨w0, k, -, -, hk, h3, -, ek, -⟩ := ix_out h t1 t3
      rw [show ap_fail I m n x1 x2 x3 = sp_fail I m n t w k x3 by unfold ap_fail; rw [if_pos c3, e, e1, if_pos h0, nI_clamp (by omega), nI_clamp (by omega), ek]]
      refine ⟨⟨n, ix_up (ix_fail h (by omega) (by omega) t1 hw t3 t4) (by omega) (by omega) (by omega) (by omega)⟩, fun M ta tm Q hr K => ?_, fun S E B Q hS RK K => ?_⟩
      · obtain ⟨r, hrr, e7⟩ := ix_7 h t1 (by rw [t3]; decide)
        obtain ⟨tr, htr, -, etr⟩ := h.1.2.1.2.2.2.2.1
        refine wc_X10_fail_0 (re_m5 hr) (ce_workerAt hr (fun w' hw' e1' => ⟨fun c => absurd c (by omega), fun _ => ⟨fun q => absurd q c1, fun _ => ⟨fun _ => ⟨(hr.1.1.2.2.1.2.1 w' hw').2.1, ce_holding hr h hw' e1' (fun z => absurd (e.symm.trans z) ?_) (fun t' t1' t2' t3' t4' t5' => ⟨fun _ => ?_, fun q => absurd q (by have := (re_ge hr t1').1; omega)⟩)⟩, fun q => absurd c3.2 q⟩⟩⟩) (fun q => absurd (by rw [e1]; exact in_5 hw) q))
        · intro z; rw [z] at h0; exact absurd h0 (by decide)
        · have ew : w' = w := (nI_eq (by omega) (by omega)).mp (e1'.symm.trans e1)
          subst ew
          have et : t' = t := (nI_eq (by omega) (by omega)).mp (t2'.symm.trans t2)
          subst et
          refine ce_fail hr (ix_8 h) (ix_bl h) (ix_dv h) (ix_z h) (by omega) h.2.1.2.2.1 h.1.2.2.2 t1 hw t3 t4 h3 hk e7 (by omega) etr htr (Int32.lt_of_le_of_lt c3.2 (by decide)) (fun M' tn h' e6 => ⟨(re_ge h' t1).2, ?_⟩)
          rw [(h'.1.2.2.1.1 t' t1).2.1.2.2.2.2.1, ← e6]
          exact K _ _ _ _ h'
      · have hJ := ix_pt (E := E) h hS
        refine wq_X11_fail_0 RK ⟨fun _ => rc_hd RK hJ ?_, fun q => absurd c3 q⟩
        rw [nt_hd hS h, e]
        have hc := Nat.le_trans (hc_le (ix_tv hJ)) hJ.2.1.2.2.1
        refine ⟨fun _ => rc_fail RK (ix_dv hJ) (ix_z hJ) (by omega) (w := w) (k := k) ((nt_T (uf_us hS)).trans t4) hw ((nt_T (uf_us hS)).trans h3) hk ((nt_T (uf_us hS)).trans t3) rfl t1 ?_, fun q => absurd h0 q⟩
        rw [nt_fail (uf_us hS) hw]
        exact K
  · rw [show ap_fail I m n x1 x2 x3 = (-2, sp_ref I m) from if_neg c3]
    refine ⟨ix_rx h, fun M ta tm Q hr K => ?_, fun S E B Q hS RK K => ?_⟩
    · refine wc_X10_fail_0 (re_m5 hr) (ce_workerAt hr (fun w hw e1 => ⟨fun c => absurd c (by omega), fun _ => ⟨fun _ => cr_x hr (by decide) K, fun q1 => ⟨fun q2 => absurd ⟨Int32.not_lt.mp q1, q2⟩ c3, fun _ => cr_x hr (by decide) K⟩⟩⟩) (fun q => ⟨fun _ => cr_x hr (by decide) K, fun q => absurd rfl q⟩))
    · exact wq_X11_fail_0 RK ⟨fun q => absurd q c3, fun _ => rr_x hS (ix_8 h) K⟩
/-! back -/
def ap_back (I : fI) (m n : Nat) (x1 x2 : Int32) : Int32 × fI := (hd_ I m x1 x2, if 0 ≤ hd_ I m x1 x2 then sp_fr1 (sp_lw I m (hd_ I m x1 x2).toNatClampNeg x1.toNatClampNeg) m n (hd_ I m x1 x2).toNatClampNeg else sp_ref I m)
theorem sm_back (h : ix_ I m n T W P L) (hl : lim_ T W P L) {x1 x2 : Int32} : sm_ I m n T W P L (ap_back I m n x1 x2) (fun M Q => cs_i mt_X10_back [pv_r 5, pv_i x1, pv_i x2] M Q) (fun B J Q => rs_i mt_X11_back [pv_r m, pv_i x1, pv_i x2] B J Q) := by
  obtain ⟨l1, l2, l3, l4⟩ := hl
  have h4 := ix_4 h
  obtain ⟨x, y1, y2⟩ := ix_log h
  rcases hd_3 h (x1 := x1) (x2 := x2) with e | ⟨w, t, hw, e1, t1, t2, t3, t4, t5, e⟩
  · rw [show ap_back I m n x1 x2 = (hd_ I m x1 x2, sp_ref I m) by unfold ap_back; rw [if_neg (hd_lt e)]]
    refine ⟨ix_rx h, fun M ta tm Q hr K => ?_, fun S E B Q hS RK K => ?_⟩
    · have K : ∀ M' n' ta' tn, re_ M' (sp_ref I m) m n' ta' tn → Q (hd_ I m x1 x2) M' := K
      exact wc_X10_back_0 (re_m5 hr) (ce_hd hr h (fun w t hw e1 t1 t2 _ _ t5 => (hd_no h e hw e1 t1 t2 t5).elim) (fun z => cr_x hr (by decide) (by rw [z] at K; exact K)) (fun z => cr_x hr (by decide) (by rw [z] at K; exact K)))
    · refine wq_X11_back_0 RK (rc_hd RK (ix_pt h hS) ?_)
      rw [nt_hd hS h]
      exact ⟨fun q => absurd q (hd_lt e), fun _ => rr_x hS (ix_8 h) K⟩
  · have h0 : 0 ≤ nI t := Int32.not_lt.mp (nI_pos (by omega))
    have lo : ∀ {I : fI} a j, (a ≠ m + 1 ∨ (j ≠ 60 + 4 * w + 0 ∧ j ≠ 200 + 14 * t + 9 ∧ j ≠ 200 + 14 * t + 10 ∧ j ≠ 200 + 14 * t + 11)) → sp_lw I m t w a j = I a j := fun {I} a j q => by
      unfold sp_lw
      rw [i2_at, if_neg (by omega), i2_at, if_neg (by omega), i2_at, if_neg (by omega), i2_at, if_neg (by omega)]
    rw [show ap_back I m n x1 x2 = (nI t, sp_fr1 (sp_lw I m t w) m n t) by unfold ap_back; rw [e, e1, if_pos h0, nI_clamp (by omega), nI_clamp (by omega)]]
    refine ⟨⟨n, ix_up (ix_back h (by omega) (by omega) t1 hw t3 t4) (by omega) (by omega) (by omega) (by omega)⟩, fun M ta tm Q hr K => ?_, fun S E B Q hS RK K => ?_⟩
    · refine wc_X10_back_0 (re_m5 hr) (ce_hd hr h (fun w' t' hw' e1' t1' t2' t3' t4' t5' => ?_) (fun z => absurd (e.symm.trans z) ?_) (fun z => absurd (e.symm.trans z) ?_))
      · have ew : w' = w := (nI_eq (by omega) (by omega)).mp (e1'.symm.trans e1)
        subst ew
        have et : t' = t := (nI_eq (by omega) (by omega)).mp (t2'.symm.trans t2)
        subst et
        refine ⟨(re_ge hr t1).2, ce_letGo hr t1 hw t4 (fun M1 h1 => ce_waitAgain h1 ((lo _ _ (by omega)).trans (ix_8 h)) ((lo _ _ (by omega)).trans y2) (by omega) t1 (by unfold sgI ra_T; rw [lo _ _ (by omega)]; exact sd_3 (Or.inr (Or.inr (Or.inr t3)))) (fun M' h' => ?_))⟩
        rw [(h'.1.2.2.1.1 t' t1).1.2.2.1]
        exact K _ _ _ _ h'
      · intro z; rw [z] at h0; exact absurd h0 (by decide)
      · intro z; rw [z] at h0; exact absurd h0 (by decide)
    · have hJ := ix_pt (E := E) h hS
      have hb : rb_ (sp_lw (pt_ S E I) m t w) m n (nI P) := rb_o (ix_rb hJ (by omega)) (lo _ _ (by omega)) (fun t' _ => lo _ _ (by omega)) (fun l hl => lo _ _ (by omega))
      have hL : lb_ (sp_lw (pt_ S E I) m t w) m L := by
        intro z
        rw [lo _ _ (by omega)] at z
        rw [lo _ _ (by omega)]
        exact ix_lb hJ z
      refine wq_X11_back_0 RK (rc_hd RK hJ ?_)
      rw [nt_hd hS h, e]
      refine ⟨fun _ => rc_lw RK (w := w) ((nt_T (uf_us hS)).trans t4) hw rfl (by omega) (rc_wt RK hb rfl t1 (rc_log RK (b := L) (lb_wt hb t1 hL) (by omega) rfl (by omega) ?_)), fun q => absurd h0 q⟩
      have K : Q (nI t) (pt_ S E (sp_fr1 (sp_lw I m t w) m n t)) := K
      rw [← nt_fr1 (uf_us hS) (by unfold ra_T; rw [lo _ _ (by omega)]; exact (ix_rb h (show P < 2147483648 by omega)).2.2.1 t t1), ← nt_lw (uf_us hS) hw] at K
      exact K
end Pub2
