/-! beat, hand -/
section Pub3
variable {B M M' : mm_T} {I J E : Nat → Nat → Int32} {m n T W P L : Nat} {ta tm : Nat → Nat} {S : Nat → Nat → Bool}
theorem ix_wl (h : ix_ I m n T W P L) (hW : ivW J m n) (j1 : ∀ j, j < 60 ∨ 5800 ≤ j → J (m + 1) j = I (m + 1) j) (jT : ∀ t f, t < n → f < 9 → ra_T J m t f = ra_T I m t f) (jo : ∀ a j, a ≠ m + 1 → J a j = I a j) : ix_ J m n T W P L := by
  obtain ⟨⟨a1, a2, a3, a4⟩, ⟨b1, b2, b3, b4⟩, c⟩ := id h
  refine ⟨⟨ivT_o a1 (j1 _ (by omega)) (fun t f q1 q2 => jT t f q1 (by omega)) (fun t q => by rw [jT t 6 q (by decide)]; exact ix_s h q) (fun t q z => by rw [jT t 6 q (by decide)] at z; rw [jT t 7 q (by decide)]; exact ix_7 h q z), ivL_o a2 (fun l f _ _ => j1 _ (by omega)) (fun j q1 q2 => j1 _ (by omega)), hW, ivH_o a4 (fun t q => jT t 4 q (by decide)) (fun t q z => by rw [jT t 6 q (by decide)] at z; exact z) (fun t q _ _ _ q2 z => by rw [jT _ 6 q2 (by decide)]; exact z)⟩, ⟨ivC_o b1 (fun l _ => j1 _ (by omega)) (fun t q => jT t 0 q (by decide)) (fun t q z => by rw [jT t 6 q (by decide)]; exact z), ivS_o b2 (j1 _ (by omega)) (fun j q => j1 _ (by omega)) (fun t q => by rw [jT t 6 q (by decide)]), ivR_o b3 (fun t q z => by rw [jT t 6 q (by decide)] at z; exact z), fun t q1 q2 => (jo _ _ (by omega)).trans (b4 t q1 q2)⟩, ?_⟩
  obtain ⟨⟨x, x1, x2⟩, c2, c3, c4, c5, c6, c7⟩ := c
  exact ⟨⟨x, by omega, by rw [j1 _ (by omega), x2]⟩, by rw [j1 _ (by omega)]; exact c2, fun l q => by rw [show ra_L J m l 4 = ra_L I m l 4 from j1 _ (by omega)]; exact c3 l q, by rw [jo _ _ (by omega)]; exact c4, (jo _ _ (by omega)).trans c5, fun j => ⟨(jo _ _ (by omega)).trans (c6 j).1, (jo _ _ (by omega)).trans (c6 j).2⟩, fun t q => by rw [jo _ _ (by omega)]; exact c7 t q⟩
theorem ivW_hd (h : ivW I m n) (hn : n ≤ 400) {t w w' e : Nat} (ht : t < n) (hw : w < 6) (hw' : w' < 6) (h6 : ra_T I m t 6 = 3) (h9 : ra_T I m t 9 = nI w) (h0 : w' = w ∨ ra_W I m w' 0 = -1) (e9 : ra_T J m t 9 = nI w') (e10 : ra_T J m t 10 = ra_T I m t 10) (e11 : ra_T J m t 11 = nI e) (he : e < 1000000000) (hT : ∀ t' f, t' < n → (t' ≠ t ∨ f = 6 ∨ f = 8) → f < 12 → ra_T J m t' f = ra_T I m t' f) (hW : ∀ x, x < 6 → ra_W J m x 0 = if x = w' then nI t else if x = w then -1 else ra_W I m x 0) : ivW J m n := by
  obtain ⟨a, b, c⟩ := h
  have hwt : ra_W I m w 0 = nI t := by
    rcases a t ht with ⟨-, w2, k, e2, b2, b3, b4, -⟩ | ⟨z, -⟩
    · rw [(nI_eq (by omega) (by omega)).mp (b3.symm.trans h9)] at b4
      exact b4
    · exact absurd h6 z
  refine ⟨fun t' q => ?_, fun t' q => ?_, fun x q => ?_⟩
  · by_cases z : t' = t
    · subst z
      rcases a t' q with ⟨-, w2, k, e2, b2, b3, b4, b5, b6, -⟩ | ⟨z, -⟩
      · exact Or.inl ⟨(hT t' 6 q (by omega) (by decide)).trans h6, w', k, e, hw', e9, by rw [hW w' hw', if_pos rfl], b5, e10.trans b6, he, e11⟩
      · exact absurd h6 z
    · rw [hT t' 6 q (by omega) (by decide), hT t' 9 q (by omega) (by decide), hT t' 10 q (by omega) (by decide), hT t' 11 q (by omega) (by decide)]
      rcases a t' q with ⟨a1, w1, k, e1, a2, a3, a4, a5⟩ | y
      · refine Or.inl ⟨a1, w1, k, e1, a2, a3, ?_, a5⟩
        have n1 : ¬ w1 = w := fun y => by
          rw [y, hwt] at a4
          exact z ((nI_eq (by omega) (by omega)).mp a4).symm
        have n2 : ¬ w1 = w' := fun y => by
          rcases h0 with y2 | y2
          · exact n1 (y.trans y2)
          · rw [y, y2] at a4
            exact nI_nm (by omega) a4.symm
        rw [hW w1 a2, if_neg n2, if_neg n1, a4]
      · exact Or.inr y
  · rw [hT t' 6 q (by omega) (by decide), hT t' 8 q (by omega) (by decide)]
    exact b t' q
  · rw [hW x q]
    by_cases z : x = w'
    · rw [if_pos z]
      exact Or.inr ⟨t, ht, rfl, (hT t 6 ht (by omega) (by decide)).trans h6, by rw [e9, z]⟩
    · rw [if_neg z]
      by_cases z2 : x = w
      · rw [if_pos z2]
        exact Or.inl rfl
      · rw [if_neg z2]
        rcases c x q with y | ⟨t2, y1, y2, y3, y4⟩
        · exact Or.inl y
        · have : t2 ≠ t := fun y => by
            rw [y, h9] at y4
            exact z2 ((nI_eq (by omega) (by omega)).mp y4).symm
          exact Or.inr ⟨t2, y1, y2, (hT t2 6 y1 (by omega) (by decide)).trans y3, (hT t2 9 y1 (by omega) (by decide)).trans y4⟩
theorem ix_end (h : ix_ I m n T W P L) (hT : T < 1000000) : ∃ e, e < 1000000000 ∧ I (m + 1) 0 + I (m + 1) 5 = nI e := by
  obtain ⟨⟨x, x1, x2⟩, -⟩ := h.2.2
  obtain ⟨a, a1, -, a2⟩ := h.1.2.1.2.2.1
  exact ⟨x + a, by omega, by rw [x2, a2, nI_add]⟩
/-! beat -/
def ap_beat (I : fI) (m : Nat) (x1 x2 : Int32) : Int32 × fI := if 0 ≤ hd_ I m x1 x2 then (I (m + 1) 0 + I (m + 1) 5, i2_u I (m + 1) (200 + 14 * (hd_ I m x1 x2).toNatClampNeg + 11) (I (m + 1) 0 + I (m + 1) 5)) else (hd_ I m x1 x2, sp_ref I m)
theorem sm_beat (h : ix_ I m n T W P L) (hl : lim_ T W P L) {x1 x2 : Int32} : sm_ I m n T W P L (ap_beat I m x1 x2) (fun M Q => cs_i mt_X10_beat [pv_r 5, pv_i x1, pv_i x2] M Q) (fun B J Q => rs_i mt_X11_beat [pv_r m, pv_i x1, pv_i x2] B J Q) := by
  obtain ⟨l1, l2, l3, l4⟩ := hl
  have h4 := ix_4 h
  rcases hd_3 h (x1 := x1) (x2 := x2) with e | ⟨w, t, hw, e1, t1, t2, t3, t4, t5, e⟩
  · rw [show ap_beat I m x1 x2 = (hd_ I m x1 x2, sp_ref I m) by unfold ap_beat; rw [if_neg (hd_lt e)]]
    refine ⟨ix_rx h, fun M ta tm Q hr K => ?_, fun S E B Q hS RK K => ?_⟩
    · have K : ∀ M' n' ta' tn, re_ M' (sp_ref I m) m n' ta' tn → Q (hd_ I m x1 x2) M' := K
      exact wc_X10_beat_0 (re_m5 hr) (ce_hd hr h (fun w t hw e1 t1 t2 _ _ t5 => (hd_no h e hw e1 t1 t2 t5).elim) (fun z => cr_x hr (by decide) (by rw [z] at K; exact K)) (fun z => cr_x hr (by decide) (by rw [z] at K; exact K)))
    · refine wq_X11_beat_0 RK (rc_hd RK (ix_pt h hS) ?_)
      rw [nt_hd hS h]
      exact ⟨fun q => absurd q (hd_lt e), fun _ => rr_x hS (ix_8 h) K⟩
  · have h0 : 0 ≤ nI t := Int32.not_lt.mp (nI_pos (by omega))
    obtain ⟨en, hen, een⟩ := ix_end h (by omega)
    have hx : ix_ (i2_u I (m + 1) (200 + 14 * t + 11) (I (m + 1) 0 + I (m + 1) 5)) m n T W P L := by
      refine ix_wl h (ivW_hd h.1.2.2.1 h4 (w := w) (w' := w) (e := en) t1 hw hw t3 t4 (Or.inl rfl) ?_ ?_ ?_ hen (fun t' f q1 q2 q3 => ?_) (fun x q => ?_)) (fun j q => ?_) (fun t' f q1 q2 => ?_) (fun a j q => i2_ua q)
      · unfold ra_T; rw [i2_uj (by omega)]; exact t4
      · unfold ra_T; rw [i2_uj (by omega)]
      · unfold ra_T; rw [i2_us, een]
      · unfold ra_T; rw [i2_uj (by omega)]
      · unfold ra_W
        rw [i2_uj (by omega)]
        by_cases z : x = w
        · rw [if_pos z, z]
          exact t2
        · rw [if_neg z, if_neg z]
      · exact i2_uj (by omega)
      · unfold ra_T; rw [i2_uj (by omega)]
    rw [show ap_beat I m x1 x2 = (I (m + 1) 0 + I (m + 1) 5, i2_u I (m + 1) (200 + 14 * t + 11) (I (m + 1) 0 + I (m + 1) 5)) by unfold ap_beat; rw [e, if_pos h0, nI_clamp (by omega)]]
    refine ⟨⟨n, ix_up hx (by omega) (by omega) (by omega) (by omega)⟩, fun M ta tm Q hr K => ?_, fun S E B Q hS RK K => ?_⟩
    · refine wc_X10_beat_0 (re_m5 hr) (ce_hd hr h (fun w' t' hw' e1' t1' t2' t3' t4' t5' => ?_) (fun z => absurd (e.symm.trans z) ?_) (fun z => absurd (e.symm.trans z) ?_))
      · have ew : w' = w := (nI_eq (by omega) (by omega)).mp (e1'.symm.trans e1)
        subst ew
        have et : t' = t := (nI_eq (by omega) (by omega)).mp (t2'.symm.trans t2)
        subst et
        obtain ⟨b1, b2⟩ := re_bk hr
        obtain ⟨r1, r2, r3⟩ := re_rules hr
        rw [b1, r1, hr.2.2.2.2.1.1, r3 1 (by decide)]
        refine ⟨b2, 6, r2, by decide, (re_ge hr t1).2, fun M1 e1 => ?_⟩
        have h1 := re_ti (x := I (m + 1) 0 + I (m + 1) 5) hr t1 (j := 12) (f := 11) (by omega)
        rw [← e1] at h1
        have v : mm_i M1 (ta t') 12 = I (m + 1) 0 + I (m + 1) 5 := by rw [e1, mi_pi, if_pos ⟨rfl, rfl⟩]
        rw [v]
        exact K _ _ _ _ h1
      · intro z; rw [z] at h0; exact absurd h0 (by decide)
      · intro z; rw [z] at h0; exact absurd h0 (by decide)
    · refine wq_X11_beat_0 RK (rc_hd RK (ix_pt h hS) ?_)
      rw [nt_hd hS h, e]
      refine ⟨fun _ => ⟨t, ⟨rfl, by omega⟩, fun I4 e4 => ?_⟩, fun q => absurd h0 q⟩
      rw [uf_at hS (by omega) (by omega), uf_at hS (by omega) (by omega), uf_u hS (by omega) (by omega)] at e4
      rw [e4, uf_at hS (by omega) (by omega), i2_us]
      exact K
/-! hand -/
def sp_hand (I : fI) (m t w w' : Nat) : fI := i2_u (i2_u (i2_u (i2_u I (m + 1) (60 + 4 * w) (-1)) (m + 1) (60 + 4 * w') (nI t)) (m + 1) (200 + 14 * t + 9) (nI w')) (m + 1) (200 + 14 * t + 11) (I (m + 1) 0 + I (m + 1) 5)
def ap_hand (I : fI) (m : Nat) (x1 x2 x3 : Int32) : Int32 × fI := if 0 ≤ x3 ∧ x3 ≤ 5 then (if 0 ≤ hd_ I m x1 x2 then (if ra_W I m x3.toNatClampNeg 0 = -1 then (hd_ I m x1 x2, sp_hand I m (hd_ I m x1 x2).toNatClampNeg x1.toNatClampNeg x3.toNatClampNeg) else (-3, sp_ref I m)) else (hd_ I m x1 x2, sp_ref I m)) else (-2, sp_ref I m)
theorem hand_o {t w w' a j : Nat} (q : a ≠ m + 1 ∨ (j ≠ 60 + 4 * w ∧ j ≠ 60 + 4 * w' ∧ j ≠ 200 + 14 * t + 9 ∧ j ≠ 200 + 14 * t + 11)) : sp_hand I m t w w' a j = I a j := by
  unfold sp_hand
  rw [i2_at, if_neg (by omega), i2_at, if_neg (by omega), i2_at, if_neg (by omega), i2_at, if_neg (by omega)]
theorem sm_hand (h : ix_ I m n T W P L) (hl : lim_ T W P L) {x1 x2 x3 : Int32} : sm_ I m n T W P L (ap_hand I m x1 x2 x3) (fun M Q => cs_i mt_X10_hand [pv_r 5, pv_i x1, pv_i x2, pv_i x3] M Q) (fun B J Q => rs_i mt_X11_hand [pv_r m, pv_i x1, pv_i x2, pv_i x3] B J Q) := by
  obtain ⟨l1, l2, l3, l4⟩ := hl
  have h4 := ix_4 h
  by_cases c3 : 0 ≤ x3 ∧ x3 ≤ 5
  · obtain ⟨w', hw', rfl⟩ := i32_in (N := 5) (by decide) c3
    have hw6 : w' < 6 := by omega
    have ee : ∀ y, y < 6 → nI w' = nI y → y = w' := fun y q z => ((nI_eq (by omega) (by omega)).mp z).symm
    rcases hd_3 h (x1 := x1) (x2 := x2) with e | ⟨w, t, hw, e1, t1, t2, t3, t4, t5, e⟩
    · rw [show ap_hand I m x1 x2 (nI w') = (hd_ I m x1 x2, sp_ref I m) by unfold ap_hand; rw [if_pos c3, if_neg (hd_lt e)]]
      refine ⟨ix_rx h, fun M ta tm Q hr K => ?_, fun S E B Q hS RK K => ?_⟩
      · have K : ∀ M' n' ta' tn, re_ M' (sp_ref I m) m n' ta' tn → Q (hd_ I m x1 x2) M' := K
        refine wc_X10_hand_0 (re_m5 hr) (ce_workerAt hr (fun w hw e1 => ce_workerAt hr (fun y hy ey => ⟨fun c => absurd c (by omega), fun _ => ⟨fun _ => ⟨(hr.1.1.2.2.1.2.1 w hw).2.1, ce_holding hr h hw e1 (fun z => ⟨fun _ => cr_x hr (by decide) (by rw [z] at K; exact K), fun q => absurd rfl q⟩) (fun t t1 t2 t3 t4 t5 => (hd_no h e hw e1 t1 t2 t5).elim)⟩, fun c => absurd c (by omega)⟩⟩) (fun q => absurd c3 q)) (fun q => ce_workerAt hr (fun y hy ey => ⟨fun _ => cr_x hr (by decide) (by rw [show hd_ I m x1 x2 = -2 from if_neg q] at K; exact K), fun q => absurd rfl q⟩) (fun q => absurd c3 q)))
      · refine wq_X11_hand_0 RK ⟨fun _ => rc_hd RK (ix_pt h hS) ?_, fun q => absurd c3 q⟩
        rw [nt_hd hS h]
        exact ⟨fun q => absurd q (hd_lt e), fun _ => rr_x hS (ix_8 h) K⟩
    · have h0 : 0 ≤ nI t := Int32.not_lt.mp (nI_pos (by omega))
      by_cases d : ra_W I m w' 0 = -1
      · have hne : w' ≠ w := fun z => by
          rw [z, t2] at d
          exact nI_nm (by omega) d
        obtain ⟨en, hen, een⟩ := ix_end h (by omega)
        have hx : ix_ (sp_hand I m t w w') m n T W P L := by
          refine ix_wl h (ivW_hd h.1.2.2.1 h4 (w := w) (w' := w') (e := en) t1 hw hw6 t3 t4 (Or.inr d) ?_ ?_ ?_ hen (fun t' f q1 q2 q3 => hand_o (by omega)) (fun x q => ?_)) (fun j q => hand_o (by omega)) (fun t' f q1 q2 => hand_o (by omega)) (fun a j q => hand_o (by omega))
          · unfold sp_hand ra_T; rw [i2_uj (by omega), i2_us]
          · exact hand_o (by omega)
          · unfold sp_hand ra_T; rw [i2_us, een]
          · unfold sp_hand ra_W
            rw [i2_uj (by omega), i2_uj (by omega), i2_at, i2_at]
            by_cases z : x = w'
            · rw [if_pos z, if_pos ⟨rfl, by omega⟩]
            · rw [if_neg z, if_neg (by omega)]
              by_cases z2 : x = w
              · rw [if_pos z2, if_pos ⟨rfl, by omega⟩]
              · rw [if_neg z2, if_neg (by omega)]
        rw [show ap_hand I m x1 x2 (nI w') = (nI t, sp_hand I m t w w') by unfold ap_hand; rw [if_pos c3, e, e1, if_pos h0, nI_clamp (by omega), nI_clamp (by omega), nI_clamp (by omega), if_pos d]]
        refine ⟨⟨n, ix_up hx (by omega) (by omega) (by omega) (by omega)⟩, fun M ta tm Q hr K => ?_, fun S E B Q hS RK K => ?_⟩
        · refine wc_X10_hand_0 (re_m5 hr) (ce_workerAt hr (fun w1 hw1 e1' => ce_workerAt hr (fun y hy ey => ⟨fun c => absurd c (by omega), fun _ => ⟨fun _ => ⟨(hr.1.1.2.2.1.2.1 w1 hw1).2.1, ce_holding hr h hw1 e1' (fun z => absurd (e.symm.trans z) ?_) (fun t' t1' t2' t3' t4' t5' => ⟨fun q => absurd q (by have := (re_ge hr t1').1; omega), fun _ => ?_⟩)⟩, fun c => absurd c (by omega)⟩⟩) (fun q => absurd c3 q)) (fun q => absurd (by rw [e1]; exact in_5 hw) q))
          · intro z; rw [z] at h0; exact absurd h0 (by decide)
          · have ew : w1 = w := (nI_eq (by omega) (by omega)).mp (e1'.symm.trans e1)
            subst ew
            have et : t' = t := (nI_eq (by omega) (by omega)).mp (t2'.symm.trans t2)
            subst et
            have ey' := ee y hy ey
            subst ey'
            have rw1 := (hr.2.1.2.2.1 y hy).1
            refine ⟨(hr.1.1.2.2.1.2.1 y hy).2.1, ?_⟩
            rw [rw1]
            refine ⟨fun _ => ⟨(re_ge hr t1).2, ce_letGo hr t1 hw t4 (fun M1 h1 => ?_)⟩, fun q => absurd (by unfold rft; rw [if_pos d]) q⟩
            have lo : ∀ a j, (a ≠ m + 1 ∨ (j ≠ 60 + 4 * w1 + 0 ∧ j ≠ 200 + 14 * t' + 9 ∧ j ≠ 200 + 14 * t' + 10 ∧ j ≠ 200 + 14 * t' + 11)) → sp_lw I m t' w1 a j = I a j := fun a j q => by
              unfold sp_lw
              rw [i2_at, if_neg (by omega), i2_at, if_neg (by omega), i2_at, if_neg (by omega), i2_at, if_neg (by omega)]
            obtain ⟨b1, b2⟩ := re_bk h1
            obtain ⟨r1, r2, r3⟩ := re_rules h1
            rw [b1, r1, h1.2.2.2.2.1.1, r3 1 (by decide), lo _ _ (by omega), lo _ _ (by omega)]
            refine ⟨b2, 6, r2, by decide, ce_giveTo h1 t1 hy (fun M2 h2 => ?_)⟩
            rw [(h2.1.2.2.1.1 t' t1).1.2.2.1]
            have eq : sp_gv (sp_lw I m t' w1) m t' y x2 (I (m + 1) 0 + I (m + 1) 5) = sp_hand I m t' w1 y := by
              funext a j
              unfold sp_gv sp_lw sp_hand
              simp only [i2_at]
              by_cases c : a = m + 1
              · subst c
                by_cases j11 : j = 200 + 14 * t' + 11
                · simp [j11]
                · by_cases j10 : j = 200 + 14 * t' + 10
                  · rw [if_neg (by omega), if_pos ⟨rfl, j10⟩, if_neg (by omega), if_neg (by omega), if_neg (by omega), if_neg (by omega), j10]
                    exact t5.symm
                  · by_cases j9 : j = 200 + 14 * t' + 9
                    · rw [if_neg (by omega), if_neg (by omega), if_pos ⟨rfl, j9⟩, if_neg (by omega), if_pos ⟨rfl, j9⟩]
                    · by_cases jy : j = 60 + 4 * y
                      · rw [if_neg (by omega), if_neg (by omega), if_neg (by omega), if_pos ⟨rfl, by omega⟩, if_neg (by omega), if_neg (by omega), if_pos ⟨rfl, jy⟩]
                      · by_cases jw : j = 60 + 4 * w1
                        · rw [if_neg (by omega), if_neg (by omega), if_neg (by omega), if_neg (by omega), if_neg (by omega), if_neg (by omega), if_neg (by omega), if_pos ⟨rfl, by omega⟩, if_neg (by omega), if_neg (by omega), if_neg (by omega), if_pos ⟨rfl, jw⟩]
                        · rw [if_neg (by omega), if_neg (by omega), if_neg (by omega), if_neg (by omega), if_neg (by omega), if_neg (by omega), if_neg (by omega), if_neg (by omega), if_neg (by omega), if_neg (by omega), if_neg (by omega), if_neg (by omega)]
              · simp [c]
            rw [eq] at h2
            exact K _ _ _ _ h2
        · refine wq_X11_hand_0 RK ⟨fun _ => rc_hd RK (ix_pt h hS) ?_, fun q => absurd c3 q⟩
          rw [nt_hd hS h, e]
          refine ⟨fun _ => ⟨w', ⟨rfl, hw6⟩, fun _ => ⟨w, ⟨e1, hw⟩, fun I5 e5 I6 e6 => ⟨t, ⟨rfl, by omega⟩, fun I8 e8 I9 e9 => ?_⟩⟩, fun q => absurd (show pt_ S E I (m + 1) (60 + 4 * w') = -1 from (uf_at hS (by omega) (by omega)).trans d) q⟩, fun q => absurd h0 q⟩
          have o8 : ∀ j, (j = 0 ∨ j = 5) → I8 (m + 1) j = I (m + 1) j := fun j q => by rw [e8, i2_uj (by omega), e6, i2_uj (by omega), e5, i2_uj (by omega), uf_at hS (by omega) (by omega)]
          rw [o8 0 (by omega), o8 5 (by omega), e8, e6, e5, uf_u hS (by omega) (by omega), uf_u hS (by omega) (by omega), uf_u hS (by omega) (by omega), uf_u hS (by omega) (by omega)] at e9
          rw [e9]
          exact K
      · rw [show ap_hand I m x1 x2 (nI w') = (-3, sp_ref I m) by unfold ap_hand; rw [if_pos c3, e, if_pos h0, nI_clamp (by omega), nI_clamp (by omega), if_neg d]]
        refine ⟨ix_rx h, fun M ta tm Q hr K => ?_, fun S E B Q hS RK K => ?_⟩
        · refine wc_X10_hand_0 (re_m5 hr) (ce_workerAt hr (fun w1 hw1 e1' => ce_workerAt hr (fun y hy ey => ⟨fun c => absurd c (by omega), fun _ => ⟨fun _ => ⟨(hr.1.1.2.2.1.2.1 w1 hw1).2.1, ce_holding hr h hw1 e1' (fun z => absurd (e.symm.trans z) ?_) (fun t' t1' t2' t3' t4' t5' => ⟨fun q => absurd q (by have := (re_ge hr t1').1; omega), fun _ => ⟨(hr.1.1.2.2.1.2.1 y hy).2.1, fun q => absurd q ?_, fun _ => cr_x hr (by decide) K⟩⟩)⟩, fun c => absurd c (by omega)⟩⟩) (fun q => absurd c3 q)) (fun q => absurd (by rw [e1]; exact in_5 hw) q))
          · intro z; rw [z] at h0; exact absurd h0 (by decide)
          · have ey' := ee y hy ey
            subst ey'
            rw [(hr.2.1.2.2.1 y hy).1]
            rcases ix_hW h y hy with z | ⟨t2', z1, z2⟩
            · exact absurd z d
            · unfold rft
              rw [z2, if_neg (nI_nm (by omega)), nI_clamp (by omega)]
              have := (re_ge hr z1).1
              omega
        · refine wq_X11_hand_0 RK ⟨fun _ => rc_hd RK (ix_pt h hS) ?_, fun q => absurd c3 q⟩
          rw [nt_hd hS h, e]
          exact ⟨fun _ => ⟨w', ⟨rfl, hw6⟩, fun q => absurd (show I (m + 1) (60 + 4 * w') = -1 from (uf_at hS (by omega) (by omega)).symm.trans q) d, fun _ => rr_x hS (ix_8 h) K⟩, fun q => absurd h0 q⟩
  · rw [show ap_hand I m x1 x2 x3 = (-2, sp_ref I m) from if_neg c3]
    refine ⟨ix_rx h, fun M ta tm Q hr K => ?_, fun S E B Q hS RK K => ?_⟩
    · refine wc_X10_hand_0 (re_m5 hr) (ce_workerAt hr (fun w hw e1 => ce_workerAt hr (fun y hy ey => absurd (by rw [ey]; exact in_5 hy) c3) (fun _ => ⟨fun c => absurd c (by omega), fun _ => ⟨fun q => absurd rfl q, fun _ => cr_x hr (by decide) K⟩⟩)) (fun q => ce_workerAt hr (fun y hy ey => absurd (by rw [ey]; exact in_5 hy) c3) (fun _ => ⟨fun _ => cr_x hr (by decide) K, fun q => absurd rfl q⟩)))
    · exact wq_X11_hand_0 RK ⟨fun q => absurd q c3, fun _ => rr_x hS (ix_8 h) K⟩
end Pub3
