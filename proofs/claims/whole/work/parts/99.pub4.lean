/-! pardon, stop, open, drain, tick -/
section Pub4
variable {B M M' : mm_T} {I J E : Nat → Nat → Int32} {m n T W P L : Nat} {ta tm : Nat → Nat} {S : Nat → Nat → Bool}
def ap_pardon (I : fI) (m : Nat) (x1 : Int32) : Int32 × fI := if 0 ≤ x1 ∧ x1 ≤ 9999 then (if I (m + 3) x1.toNatClampNeg = 0 then (-3, sp_ref I m) else (I (m + 3) x1.toNatClampNeg, i2_u I (m + 3) x1.toNatClampNeg 0)) else (-2, sp_ref I m)
theorem sm_pardon (h : ix_ I m n T W P L) {x1 : Int32} : sm_ I m n T W P L (ap_pardon I m x1) (fun M Q => cs_i mt_X10_pardon [pv_r 5, pv_i x1] M Q) (fun B J Q => rs_i mt_X11_pardon [pv_r m, pv_i x1] B J Q) := by
  have h4 := ix_4 h
  by_cases c : 0 ≤ x1 ∧ x1 ≤ 9999
  · obtain ⟨k, hk, rfl⟩ := i32_in (N := 9999) (by decide) c
    by_cases d : I (m + 3) k = 0
    · rw [show ap_pardon I m (nI k) = (-3, sp_ref I m) by unfold ap_pardon; rw [if_pos c, nI_clamp (by omega), if_pos d]]
      refine ⟨ix_rx h, fun M ta tm Q hr K => ?_, fun S E B Q hS RK K => ?_⟩
      · refine wc_X10_pardon_0 (re_m5 hr) (cc_isKey ?_)
        rw [if_pos c, hr.1.1.1.2.2.2.2.2.2.2.2.1]
        refine ⟨fun _ => ⟨hr.1.1.2.2.2.1.1, ce_count hr (by omega) ⟨fun q => absurd d q, fun _ => cr_x hr (by decide) K⟩⟩, fun q => absurd q (by decide)⟩
      · exact wq_X11_pardon_0 RK ⟨fun _ => ⟨k, ⟨rfl, by omega⟩, fun q => absurd ((uf_at hS (by omega) (by omega)).trans d) q, fun _ => rr_x hS (ix_8 h) K⟩, fun q => absurd c q⟩
    · rw [show ap_pardon I m (nI k) = (I (m + 3) k, i2_u I (m + 3) k 0) by unfold ap_pardon; rw [if_pos c, nI_clamp (by omega), if_neg d]]
      have hx : ix_ (i2_u I (m + 3) k 0) m n T W P L := ix_o h (fun a j _ _ q _ _ _ _ => i2_ua q) (by rw [i2_ua (by omega)]; exact ix_log h) (i2_ua (by omega))
      refine ⟨⟨n, ix_up hx (by omega) (by omega) (by omega) (by omega)⟩, fun M ta tm Q hr K => ?_, fun S E B Q hS RK K => ?_⟩
      · refine wc_X10_pardon_0 (re_m5 hr) (cc_isKey ?_)
        rw [if_pos c, hr.1.1.1.2.2.2.2.2.2.2.2.1]
        refine ⟨fun _ => ⟨hr.1.1.2.2.2.1.1, ce_count hr (by omega) ⟨fun _ => ?_, fun q => absurd q d⟩⟩, fun q => absurd q (by decide)⟩
        rw [hr.1.1.1.2.2.2.2.2.2.2.2.1]
        exact ⟨hr.1.1.2.2.2.1.1, ce_forget hr (by omega) (fun M' h' => K _ _ _ _ h')⟩
      · refine wq_X11_pardon_0 RK ⟨fun _ => ⟨k, ⟨rfl, by omega⟩, fun _ I2 e2 => ?_, fun q => absurd ((uf_at hS (by omega) (by omega)).symm.trans q) d⟩, fun q => absurd c q⟩
        rw [uf_u hS (by omega) (by omega)] at e2
        rw [e2, uf_at hS (by omega) (by omega)]
        exact K
  · rw [show ap_pardon I m x1 = (-2, sp_ref I m) from if_neg c]
    refine ⟨ix_rx h, fun M ta tm Q hr K => ?_, fun S E B Q hS RK K => ?_⟩
    · refine wc_X10_pardon_0 (re_m5 hr) (cc_isKey ?_)
      rw [if_neg c]
      exact ⟨fun q => absurd rfl q, fun _ => cr_x hr (by decide) K⟩
    · exact wq_X11_pardon_0 RK ⟨fun q => absurd q c, fun _ => rr_x hS (ix_8 h) K⟩
/-! stop -/
def tmk_ (I : fI) (m k : Nat) : Prop := k ≤ 12 ∧ I (m + 1) 84 = nI k
def ap_stop (I : fI) (m : Nat) (x1 : Int32) : Int32 × fI := if 0 ≤ x1 ∧ x1 ≤ I (m + 1) 84 - 1 then (if ra_C I m x1.toNatClampNeg 7 = -1 then (-3, sp_ref I m) else (ra_C I m x1.toNatClampNeg 5, i2_u I (m + 1) (85 + 8 * x1.toNatClampNeg + 7) (-1))) else (-2, sp_ref I m)
theorem sm_stop (h : ix_ I m n T W P L) {k : Nat} (hk : tmk_ I m k) {x1 : Int32} : sm_ I m n T W P L (ap_stop I m x1) (fun M Q => cs_i mt_X10_stop [pv_r 5, pv_i x1] M Q) (fun B J Q => rs_i mt_X11_stop [pv_r m, pv_i x1] B J Q) := by
  obtain ⟨hk12, hk⟩ := hk
  have hkJ : ∀ {S E}, uf_ S m → pt_ S E I (m + 1) 84 = nI k := fun hS => (uf_at hS (by omega) (by omega)).trans hk
  by_cases c : 0 ≤ x1 ∧ x1 ≤ nI k - 1
  · obtain ⟨t, ht, rfl⟩ := (i32_tk (n := k) (by omega)).mp c
    by_cases d : ra_C I m t 7 = -1
    · rw [show ap_stop I m (nI t) = (-3, sp_ref I m) by unfold ap_stop; rw [hk, if_pos c, nI_clamp (by omega), if_pos d]]
      refine ⟨ix_rx h, fun M ta tm Q hr K => ?_, fun S E B Q hS RK K => ?_⟩
      · refine wc_X10_stop_0 (re_m5 hr) (ce_timerAt hr hk hk12 (fun t' ht' e => ?_) (fun q => absurd c q))
        have : t = t' := (nI_eq (by omega) (by omega)).mp e
        subst this
        obtain ⟨k', a1, a2, a3, a4, -⟩ := id hr.2.1.2.2.2
        have : k' = k := (nI_eq (by omega) (by omega)).mp (a2.symm.trans hk)
        subst this
        obtain ⟨b1, b2, b3, b4, b7⟩ := a4 t ht
        rw [b7 7 (by decide) (by decide)]
        exact ⟨fun _ => ⟨b3, fun q => absurd d q, fun _ => cr_x hr (by decide) K⟩, fun q => absurd q (by omega)⟩
      · refine wq_X11_stop_0 RK ⟨fun _ => ⟨t, ⟨rfl, by omega⟩, fun q => absurd (show pt_ S E I (m + 1) (85 + 8 * t + 7) = -1 from (uf_at hS (by omega) (by omega)).trans d) q, fun _ => rr_x hS (ix_8 h) K⟩, fun q => absurd ?_ q⟩
        rw [hkJ hS]
        exact c
    · rw [show ap_stop I m (nI t) = (ra_C I m t 5, i2_u I (m + 1) (85 + 8 * t + 7) (-1)) by unfold ap_stop; rw [hk, if_pos c, nI_clamp (by omega), if_neg d]]
      refine ⟨⟨n, ix_up (ix_tmo h (by omega)) (by omega) (by omega) (by omega) (by omega)⟩, fun M ta tm Q hr K => ?_, fun S E B Q hS RK K => ?_⟩
      · refine wc_X10_stop_0 (re_m5 hr) (ce_timerAt hr hk hk12 (fun t' ht' e => ?_) (fun q => absurd c q))
        have : t = t' := (nI_eq (by omega) (by omega)).mp e
        subst this
        obtain ⟨k', a1, a2, a3, a4, -⟩ := id hr.2.1.2.2.2
        have : k' = k := (nI_eq (by omega) (by omega)).mp (a2.symm.trans hk)
        subst this
        obtain ⟨b1, b2, b3, b4, b7⟩ := a4 t ht
        rw [b7 7 (by decide) (by decide)]
        refine ⟨fun _ => ⟨b3, fun _ M5 e5 => ?_, fun q => absurd q d⟩, fun q => absurd q (by omega)⟩
        have h1 := re_tmi (f := 7) (x := -1) hr hk hk12 ht (by decide) (by decide)
        rw [← e5] at h1
        have v : mm_i M5 (tm t) 5 = ra_C I m t 5 := by rw [e5, mi_pi, if_neg (by omega)]; exact b7 5 (by decide) (by decide)
        rw [v]
        exact K _ _ _ _ h1
      · refine wq_X11_stop_0 RK ⟨fun _ => ⟨t, ⟨rfl, by omega⟩, fun _ I2 e2 => ?_, fun q => absurd (show I (m + 1) (85 + 8 * t + 7) = -1 from (uf_at hS (by omega) (by omega)).symm.trans q) d⟩, fun q => absurd ?_ q⟩
        · rw [uf_u hS (by omega) (by omega)] at e2
          rw [e2, uf_at hS (by omega) (by omega), i2_uj (by omega)]
          exact K
        · rw [hkJ hS]
          exact c
  · rw [show ap_stop I m x1 = (-2, sp_ref I m) by unfold ap_stop; rw [hk, if_neg c]]
    refine ⟨ix_rx h, fun M ta tm Q hr K => ?_, fun S E B Q hS RK K => ?_⟩
    · exact wc_X10_stop_0 (re_m5 hr) (ce_timerAt hr hk hk12 (fun t ht e => absurd ((i32_tk (n := k) (by omega)).mpr ⟨t, ht, e⟩) c) (fun _ => ⟨fun q => absurd rfl q, fun _ => cr_x hr (by decide) K⟩))
    · refine wq_X11_stop_0 RK ⟨fun q => absurd ?_ c, fun _ => rr_x hS (ix_8 h) K⟩
      rw [hkJ hS] at q
      exact q
theorem mm_pipi {a j : Nat} {x y : Int32} : mm_pi (mm_pi M a j x) a j y = mm_pi M a j y := by
  unfold mm_pi
  refine congrArg (fun f => ((M.1, M.2.1, f, M.2.2.2.1, M.2.2.2.2) : mm_T)) ?_
  funext b k
  by_cases q : b = a ∧ k = j
  · simp only [if_pos q]
  · simp only [if_neg q]
/-! open, drain -/
theorem in_4 {w : Nat} (h : w < 5) : 0 ≤ nI w ∧ nI w ≤ 4 := ⟨Int32.not_lt.mp (nI_pos (by omega)), show nI w ≤ nI 4 from nI_le (by omega) (by decide)⟩
theorem re_l4 (h : re_ M I m n ta tm) {l : Nat} {x y : Int32} (hl : l < 5) (hx : x = opn_ (i2_u I (m + 1) (10 + 10 * l + 3) y) m n l) : re_ (mm_pi M (12 + l) 4 x) (i2_u I (m + 1) (10 + 10 * l + 3) y) m n ta tm := by
  refine re_L h (fx_pi (by omega)) (fun a j q => by rw [i2_at, if_neg (by omega)]) (fun l' q => ⟨?_, fun f q2 => ?_⟩)
  · rw [mi_pi]
    by_cases z : l' = l
    · subst z
      rw [if_pos ⟨rfl, rfl⟩, hx]
    · rw [if_neg (by omega), (h.1.2.2.2 l' q).1]
      exact (opn_o (by unfold ra_L; rw [i2_uj (by omega)]) (fun t _ => ⟨by unfold ra_T; rw [i2_uj (by omega)], by unfold ra_T; rw [i2_uj (by omega)]⟩)).symm
  · rw [mi_pi, if_neg (by omega)]
    unfold ra_L
    rw [i2_uj (by omega)]
    exact (h.1.2.2.2 l' q).2 f q2
theorem ix_l3 (h : ix_ I m n T W P L) (hJ : ∀ a j, (a ≠ m + 1 ∨ j < 10 ∨ 60 ≤ j ∨ j % 10 ≠ 3) → J a j = I a j) (h3 : ∀ l, l < 5 → ∃ s, s < 3 ∧ ra_L J m l 3 = nI s) (hC : ivC J m n) : ix_ J m n T W P L := by
  have jT : ∀ t f, ra_T J m t f = ra_T I m t f := fun t f => hJ _ _ (by omega)
  refine ix_mt h (hJ _ _ (by omega)) (fun t f _ _ => jT t f) (fun t q z => by rw [jT] at z ⊢; exact ix_7 h q z) (fun t q => by rw [jT]; exact ix_s h q) (fun t q z => by rw [jT] at z; exact z) (fun l f q1 q2 => hJ _ _ (by omega)) h3 (fun j q1 q2 => hJ _ _ (by omega)) (ivW_o h.1.2.2.1 (fun t f _ _ _ _ => jT t f) (fun w q => hJ _ _ (by omega))) (ivH_o h.1.2.2.2 (fun t _ => jT t 4) (fun t _ z => by rw [jT] at z; exact z) (fun t q _ _ _ _ z => by rw [jT]; exact z)) hC (ivS_o h.2.1.2.1 (hJ _ _ (by omega)) (fun j q => hJ _ _ (by omega)) (fun t _ => by rw [jT])) (fun t _ => hJ _ _ (by omega)) ?_
  obtain ⟨⟨x, x1, x2⟩, c2, c3, c4, c5, c6, c7⟩ := h.2.2
  exact ⟨⟨x, by omega, by rw [hJ _ _ (by omega), x2]⟩, by rw [hJ _ _ (by omega)]; exact c2, fun l q => by rw [show ra_L J m l 4 = ra_L I m l 4 from hJ _ _ (by omega)]; exact c3 l q, by rw [hJ _ _ (by omega)]; exact c4, (hJ _ _ (by omega)).trans c5, fun j => ⟨(hJ _ _ (by omega)).trans (c6 j).1, (hJ _ _ (by omega)).trans (c6 j).2⟩, fun t q => by rw [hJ _ _ (by omega)]; exact c7 t q⟩
def ap_open (I : fI) (m : Nat) (x1 : Int32) : Int32 × fI := if 0 ≤ x1 ∧ x1 ≤ 4 then (if ra_L I m x1.toNatClampNeg 3 = 0 then (-3, sp_ref I m) else (0, i2_u I (m + 1) (10 + 10 * x1.toNatClampNeg + 3) 0)) else (-2, sp_ref I m)
theorem sm_open (h : ix_ I m n T W P L) {x1 : Int32} : sm_ I m n T W P L (ap_open I m x1) (fun M Q => cs_i mt_X10_open [pv_r 5, pv_i x1] M Q) (fun B J Q => rs_i mt_X11_open [pv_r m, pv_i x1] B J Q) := by
  by_cases c : 0 ≤ x1 ∧ x1 ≤ 4
  · obtain ⟨l, hl, rfl⟩ := i32_in (N := 4) (by decide) c
    have hl5 : l < 5 := by omega
    by_cases d : ra_L I m l 3 = 0
    · rw [show ap_open I m (nI l) = (-3, sp_ref I m) by unfold ap_open; rw [if_pos c, nI_clamp (by omega), if_pos d]]
      refine ⟨ix_rx h, fun M ta tm Q hr K => ?_, fun S E B Q hS RK K => ?_⟩
      · refine wc_X10_open_0 (re_m5 hr) ?_
        rw [(re_bk hr).1]
        refine ⟨(re_bk hr).2, cb_laneAt (br_S hr.1.2.1) (fun l' q e => ?_) (fun q => absurd c q)⟩
        rw [show l' = l from ((nI_eq (by omega) (by omega)).mp e).symm, show 6 + 6 + l = 12 + l from rfl, (hr.1.2.2.2 l hl5).1, cls_id h.2.1.1 l hl5]
        exact ⟨fun _ => ⟨(br_ln hr.1.2.1 hl5).1, fun q => absurd d q, fun _ => cr_x hr (by decide) K⟩, fun q => absurd q (by omega)⟩
      · exact wq_X11_open_0 RK ⟨fun _ => ⟨l, ⟨rfl, hl5⟩, fun q => absurd (show pt_ S E I (m + 1) (10 + 10 * l + 3) = 0 from (uf_at hS (by omega) (by omega)).trans d) q, fun _ => rr_x hS (ix_8 h) K⟩, fun q => absurd c q⟩
    · rw [show ap_open I m (nI l) = (0, i2_u I (m + 1) (10 + 10 * l + 3) 0) by unfold ap_open; rw [if_pos c, nI_clamp (by omega), if_neg d]]
      have hx : ix_ (i2_u I (m + 1) (10 + 10 * l + 3) 0) m n T W P L := by
        refine ix_l3 h (fun a j q => by rw [i2_at, if_neg (by omega)]) (fun l' q => ?_) (fun l' q z => ?_)
        · unfold ra_L
          rw [i2_at]
          by_cases y : l' = l
          · rw [if_pos ⟨rfl, by omega⟩]
            exact ⟨0, by decide, rfl⟩
          · rw [if_neg (by omega)]
            exact (h.1.2.1.1 l' q).2.2.2
        · unfold ra_L at z
          rw [i2_at] at z
          by_cases y : l' = l
          · rw [if_pos ⟨rfl, by omega⟩] at z
            exact absurd z (by decide)
          · rw [if_neg (by omega)] at z
            have := h.2.1.1 l' q z
            rwa [show ra_st (i2_u I (m + 1) (10 + 10 * l + 3) 0) m (nI l') = ra_st I m (nI l') by funext t; unfold ra_st ra_T; rw [i2_uj (by omega), i2_uj (by omega)]]
      refine ⟨⟨n, ix_up hx (by omega) (by omega) (by omega) (by omega)⟩, fun M ta tm Q hr K => ?_, fun S E B Q hS RK K => ?_⟩
      · refine wc_X10_open_0 (re_m5 hr) ?_
        rw [(re_bk hr).1]
        refine ⟨(re_bk hr).2, cb_laneAt (br_S hr.1.2.1) (fun l' q e => ?_) (fun q => absurd c q)⟩
        rw [show l' = l from ((nI_eq (by omega) (by omega)).mp e).symm, show 6 + 6 + l = 12 + l from rfl, (hr.1.2.2.2 l hl5).1, cls_id h.2.1.1 l hl5]
        refine ⟨fun _ => ⟨(br_ln hr.1.2.1 hl5).1, fun _ M7 e7 => ?_, fun q => absurd q d⟩, fun q => absurd q (by omega)⟩
        have h1 := re_l4 (x := 0) (y := 0) hr hl5 (by unfold opn_ ra_L; rw [i2_us, if_neg (fun z => absurd z.1 (by decide))])
        rw [← e7] at h1
        exact K _ _ _ _ h1
      · refine wq_X11_open_0 RK ⟨fun _ => ⟨l, ⟨rfl, hl5⟩, fun _ I2 e2 => ?_, fun q => absurd (show I (m + 1) (10 + 10 * l + 3) = 0 from (uf_at hS (by omega) (by omega)).symm.trans q) d⟩, fun q => absurd c q⟩
        rw [uf_u hS (by omega) (by omega)] at e2
        rw [e2]
        exact K
  · rw [show ap_open I m x1 = (-2, sp_ref I m) from if_neg c]
    refine ⟨ix_rx h, fun M ta tm Q hr K => ?_, fun S E B Q hS RK K => ?_⟩
    · refine wc_X10_open_0 (re_m5 hr) ?_
      rw [(re_bk hr).1]
      exact ⟨(re_bk hr).2, cb_laneAt (br_S hr.1.2.1) (fun l q e => absurd (by rw [e]; exact in_4 q) c) (fun _ => ⟨fun q => absurd rfl q, fun _ => cr_x hr (by decide) K⟩)⟩
    · exact wq_X11_open_0 RK ⟨fun q => absurd q c, fun _ => rr_x hS (ix_8 h) K⟩
def ap_drain (I : fI) (m n : Nat) (x1 : Int32) : Int32 × fI := if 0 ≤ x1 ∧ x1 ≤ 4 then (if ra_L I m x1.toNatClampNeg 3 = 0 then (nI (cn_ (ra_st I m x1) n), ra_cls (i2_u I (m + 1) (10 + 10 * x1.toNatClampNeg + 3) 1) m n 5) else (-3, sp_ref I m)) else (-2, sp_ref I m)
theorem sm_drain (h : ix_ I m n T W P L) {x1 : Int32} : sm_ I m n T W P L (ap_drain I m n x1) (fun M Q => cs_i mt_X10_drain [pv_r 5, pv_i x1] M Q) (fun B J Q => rs_i mt_X11_drain [pv_r m, pv_i x1] B J Q) := by
  have h4 := ix_4 h
  by_cases c : 0 ≤ x1 ∧ x1 ≤ 4
  · obtain ⟨l, hl, rfl⟩ := i32_in (N := 4) (by decide) c
    have hl5 : l < 5 := by omega
    by_cases d : ra_L I m l 3 = 0
    · rw [show ap_drain I m n (nI l) = (nI (cn_ (ra_st I m (nI l)) n), ra_cls (i2_u I (m + 1) (10 + 10 * l + 3) 1) m n 5) by unfold ap_drain; rw [if_pos c, nI_clamp (by omega), if_pos d]]
      have st : ∀ x, ra_st (i2_u I (m + 1) (10 + 10 * l + 3) 1) m x = ra_st I m x := fun x => by funext t; unfold ra_st ra_T; rw [i2_uj (by omega), i2_uj (by omega)]
      have r3 : ∀ l', l' < 5 → ∃ s, s < 3 ∧ ra_L (i2_u I (m + 1) (10 + 10 * l + 3) 1) m l' 3 = nI s := fun l' q => by
        unfold ra_L
        rw [i2_at]
        by_cases y : l' = l
        · rw [if_pos ⟨rfl, by omega⟩]
          exact ⟨1, by decide, rfl⟩
        · rw [if_neg (by omega)]
          exact (h.1.2.1.1 l' q).2.2.2
      have hx : ix_ (ra_cls (i2_u I (m + 1) (10 + 10 * l + 3) 1) m n 5) m n T W P L := ix_l3 h (fun a j q => by rw [cl_o (by omega), i2_at, if_neg (by omega)]) (cls_rng r3) ivC_cls
      refine ⟨⟨n, ix_up hx (by omega) (by omega) (by omega) (by omega)⟩, fun M ta tm Q hr K => ?_, fun S E B Q hS RK K => ?_⟩
      · refine wc_X10_drain_0 (re_m5 hr) ?_
        rw [(re_bk hr).1]
        refine ⟨(re_bk hr).2, cb_laneAt (br_S hr.1.2.1) (fun l' q e => ?_) (fun q => absurd c q)⟩
        have kl := br_ln hr.1.2.1 hl5
        have i7 : mm_i M (12 + l) 7 = nI (cn_ (ra_st I m (nI l)) n) := by
          have := (hr.1.2.1.1.2.2.1 l hl5).2.1
          rwa [lk7 (ix_tv h) hl5] at this
        rw [show l' = l from ((nI_eq (by omega) (by omega)).mp e).symm, show 6 + 6 + l = 12 + l from rfl, (hr.1.2.2.2 l hl5).1, cls_id h.2.1.1 l hl5]
        refine ⟨fun _ => ⟨kl.1, fun _ M7 e7 => ?_, fun q => absurd d q⟩, fun q => absurd q (by omega)⟩
        have v4 : mm_i M7 (12 + l) 4 = 1 := by rw [e7, mi_pi, if_pos ⟨rfl, rfl⟩]
        have v7 : mm_i M7 (12 + l) 7 = nI (cn_ (ra_st I m (nI l)) n) := by rw [e7, mi_pi, if_neg (by omega)]; exact i7
        have cl := cn_le (p := ra_st I m (nI l)) (n := n)
        refine wc_X3_closeIfDrained_0 (by rw [e7]; exact kl.1) ?_
        rw [v4, v7]
        refine ⟨fun q => absurd rfl q, fun _ => ⟨fun q => ?_, fun q M1 e1 => ?_⟩⟩
        · have h1 := re_l4 (x := 1) (y := 1) hr hl5 (by unfold opn_; rw [st, show ra_L (i2_u I (m + 1) (10 + 10 * l + 3) 1) m l 3 = 1 from i2_us, if_neg (fun z => q (by rw [z.2]; rfl))])
          rw [← e7] at h1
          exact K _ _ _ _ (re_cls h1)
        · have q0 : cn_ (ra_st I m (nI l)) n = 0 := (nI_eq (b := 0) (by omega) (by omega)).mp q
          have h1 := re_l4 (x := 2) (y := 1) hr hl5 (by unfold opn_; rw [st, show ra_L (i2_u I (m + 1) (10 + 10 * l + 3) 1) m l 3 = 1 from i2_us, if_pos ⟨rfl, q0⟩])
          have e2 : M1 = mm_pi M (12 + l) 4 2 := by rw [e1, e7, mm_pipi]
          rw [← e2] at h1
          have v7' : mm_i M1 (12 + l) 7 = nI (cn_ (ra_st I m (nI l)) n) := by rw [e2, mi_pi, if_neg (by omega)]; exact i7
          rw [v7']
          exact K _ _ _ _ (re_cls h1)
      · have hJ := ix_pt (E := E) h hS
        refine wq_X11_drain_0 RK ⟨fun _ => ⟨l, ⟨rfl, hl5⟩, fun _ I2 e2 => ?_, fun q => absurd (show pt_ S E I (m + 1) (10 + 10 * l + 3) = 0 from (uf_at hS (by omega) (by omega)).trans d) q⟩, fun q => absurd c q⟩
        rw [uf_u hS (by omega) (by omega)] at e2
        have n2 : I2 (m + 1) 1 = nI n := by rw [e2, uf_at hS (by omega) (by omega), i2_uj (by omega)]; exact ix_1 h
        refine rc_closes RK n2 h4 ?_
        rw [e2, nt_cls (uf_us hS) 5 (by omega)]
        refine rc_standing RK ((uf_at hS (by omega) (by omega)).trans ((cl_o (by omega)).trans ((i2_uj (by omega)).trans (ix_1 h)))) h4 ?_
        rw [nt_st (uf_us hS), show ra_st (ra_cls (i2_u I (m + 1) (10 + 10 * l + 3) 1) m n 5) m (nI l) = ra_st I m (nI l) by funext t; unfold ra_st ra_T; rw [cl_o (by omega), cl_o (by omega), i2_uj (by omega), i2_uj (by omega)]]
        exact K
    · rw [show ap_drain I m n (nI l) = (-3, sp_ref I m) by unfold ap_drain; rw [if_pos c, nI_clamp (by omega), if_neg d]]
      refine ⟨ix_rx h, fun M ta tm Q hr K => ?_, fun S E B Q hS RK K => ?_⟩
      · refine wc_X10_drain_0 (re_m5 hr) ?_
        rw [(re_bk hr).1]
        refine ⟨(re_bk hr).2, cb_laneAt (br_S hr.1.2.1) (fun l' q e => ?_) (fun q => absurd c q)⟩
        rw [show l' = l from ((nI_eq (by omega) (by omega)).mp e).symm, show 6 + 6 + l = 12 + l from rfl, (hr.1.2.2.2 l hl5).1, cls_id h.2.1.1 l hl5]
        exact ⟨fun _ => ⟨(br_ln hr.1.2.1 hl5).1, fun q => absurd q d, fun _ => cr_x hr (by decide) K⟩, fun q => absurd q (by omega)⟩
      · exact wq_X11_drain_0 RK ⟨fun _ => ⟨l, ⟨rfl, hl5⟩, fun q => absurd (show I (m + 1) (10 + 10 * l + 3) = 0 from (uf_at hS (by omega) (by omega)).symm.trans q) d, fun _ => rr_x hS (ix_8 h) K⟩, fun q => absurd c q⟩
  · rw [show ap_drain I m n x1 = (-2, sp_ref I m) from if_neg c]
    refine ⟨ix_rx h, fun M ta tm Q hr K => ?_, fun S E B Q hS RK K => ?_⟩
    · refine wc_X10_drain_0 (re_m5 hr) ?_
      rw [(re_bk hr).1]
      exact ⟨(re_bk hr).2, cb_laneAt (br_S hr.1.2.1) (fun l q e => absurd (by rw [e]; exact in_4 q) c) (fun _ => ⟨fun q => absurd rfl q, fun _ => cr_x hr (by decide) K⟩)⟩
    · exact wq_X11_drain_0 RK ⟨fun q => absurd q c, fun _ => rr_x hS (ix_8 h) K⟩
end Pub4
