/-! discard -/
section Pub17
variable {B M M' : mm_T} {I J E : Nat → Nat → Int32} {m n T W P L : Nat} {ta tm : Nat → Nat} {S : Nat → Nat → Bool}
def sp_dis (I : fI) (m t : Nat) : fI := sp_log (i2_u (sp_la I m t) (m + 1) (200 + 14 * t + 6) 6) m 6 t (-1) 0
theorem dis_o {t a j : Nat} (ht : t < 400) (q1 : a ≠ m + 1 ∨ (j ≠ 3 ∧ j < 5800 ∧ j ≠ 200 + 14 * t + 6)) (q2 : a ≠ m + 6) (q3 : a ≠ m ∨ j ≠ 6) : sp_dis I m t a j = I a j := by
  unfold sp_dis
  rw [sp_log_o q2 q3, i2_at, if_neg (by omega)]
  exact la_o _ _ _ (by omega)
theorem dis_6 {t x : Nat} (hx : x < 400) : ra_T (sp_dis I m t) m x 6 = if x = t then 6 else ra_T I m x 6 := by
  unfold ra_T sp_dis
  rw [sp_log_r, i2_at]
  by_cases z : x = t
  · rw [if_pos ⟨rfl, by omega⟩, if_pos z]
  · rw [if_neg (by omega), if_neg z]
    exact la_o _ _ _ (by omega)
theorem dis_a {t j : Nat} (ht : t < 400) (hj : j = 3 ∨ 5800 ≤ j) : sp_dis I m t (m + 1) j = sp_la I m t (m + 1) j := by
  unfold sp_dis
  rw [sp_log_r, i2_uj (by omega)]
theorem ix_dis (h : ix_ I m n T W P L) (hL : L < 1999999000) {t : Nat} (ht : t < n) (h5 : ra_T I m t 6 = 5) : ix_ (sp_dis I m t) m n T W P (L + 1) := by
  have h4 := ix_4 h
  obtain ⟨as, s0, s1, s2, s3, s4⟩ := as_l h
  have la := la_as (t := t) (by omega) s0 (fun x q => by have := ((s3 x).mp q).1; omega) s1 s4
  have D6 : ∀ x, x < n → ra_T (sp_dis I m t) m x 6 = if x = t then 6 else ra_T I m x 6 := fun x q => dis_6 (by omega)
  have DT : ∀ x f, x < n → f < 14 → f ≠ 6 → ra_T (sp_dis I m t) m x f = ra_T I m x f := fun x f _ _ _ => dis_o (by omega) (by omega) (by omega) (by omega)
  have st : ∀ x, x < n → (ra_T (sp_dis I m t) m x 6 ≤ 3 ↔ ra_T I m x 6 ≤ 3) := fun x q => by
    rw [D6 x q]
    by_cases z : x = t
    · rw [if_pos z, z, h5]
      exact ⟨fun y => absurd y (by decide), fun y => absurd y (by decide)⟩
    · rw [if_neg z]
  have eq6 : ∀ x (v : Int32), x < n → v ≠ 5 → v ≠ 6 → (ra_T (sp_dis I m t) m x 6 = v ↔ ra_T I m x 6 = v) := fun x v q v1 v2 => by
    rw [D6 x q]
    by_cases z : x = t
    · rw [if_pos z, z, h5]
      exact ⟨fun y => absurd y.symm v2, fun y => absurd y.symm v1⟩
    · rw [if_neg z]
  refine ix_mt h (dis_o (by omega) (by omega) (by omega) (by omega)) (fun x f q1 q2 => DT x f q1 (by omega) (by omega)) (fun x q z => by rw [DT x 7 q (by decide) (by decide)]; exact ix_7 h q ((st x q).mp z)) (fun x q => ?_) (fun x q => (st x q).mp) (fun l f _ _ => dis_o (by omega) (by omega) (by omega) (by omega)) (fun l q => by rw [show ra_L (sp_dis I m t) m l 3 = ra_L I m l 3 from dis_o (by omega) (by omega) (by omega) (by omega)]; exact (h.1.2.1.1 l q).2.2.2) (fun j q1 q2 => dis_o (by omega) (by omega) (by omega) (by omega)) ?_ (ivH_o h.1.2.2.2 (fun x q => DT x 4 q (by decide) (by decide)) (fun x q z => (eq6 x 1 q (by decide) (by decide)).mp z) (fun x q _ _ _ q2 z => (st q q2).mpr z)) (ivC_o h.2.1.1 (fun l q => dis_o (by omega) (by omega) (by omega) (by omega)) (fun x q => DT x 0 q (by decide) (by decide)) (fun x q z => (st x q).mpr z)) ⟨as.filter (fun x => decide (x ≠ t)), (dis_a (by omega) (Or.inl rfl)).trans la.1, List.Pairwise.filter _ s2, fun x => ?_, fun i x q => (dis_a (by omega) (Or.inr (by omega))).trans (la.2 i x q)⟩ (fun x _ => dis_o (by omega) (by omega) (by omega) (by omega)) (ivN_o h.2.2 (dis_o (by omega) (by omega) (by omega) (by omega)) (dis_o (by omega) (by omega) (by omega) (by omega)) (fun l q => by rw [show ra_L (sp_dis I m t) m l 4 = ra_L I m l 4 from dis_o (by omega) (by omega) (by omega) (by omega)]; exact h.2.2.2.2.1 l q) ?_ (dis_o (by omega) (by omega) (by omega) (by omega)) (fun j => ⟨dis_o (by omega) (by omega) (by omega) (by omega), dis_o (by omega) (by omega) (by omega) (by omega)⟩) (fun x q => by rw [dis_o (by omega) (by omega) (by omega) (by omega)]; exact h.2.2.2.2.2.2.2.2 x q))
  · rw [D6 x q]
    split
    · exact ⟨6, by decide, rfl⟩
    · exact ix_s h q
  · obtain ⟨w1, w2, w3⟩ := h.1.2.2.1
    have eW : ∀ w, w < 6 → ra_W (sp_dis I m t) m w 0 = ra_W I m w 0 := fun w q => dis_o (by omega) (by omega) (by omega) (by omega)
    refine ⟨fun x q => ?_, fun x q => ?_, fun w q => ?_⟩
    · rw [eq6 x 3 q (by decide) (by decide), DT x 9 q (by decide) (by decide), DT x 10 q (by decide) (by decide), DT x 11 q (by decide) (by decide)]
      rcases w1 x q with ⟨z, w, k, en, z1, z2, z3, z4⟩ | z
      · exact Or.inl ⟨z, w, k, en, z1, z2, (eW w z1).trans z3, z4⟩
      · exact Or.inr z
    · rw [eq6 x 2 q (by decide) (by decide), DT x 8 q (by decide) (by decide)]
      exact w2 x q
    · rw [eW w q]
      rcases w3 w q with z | ⟨x, z1, z2, z3, z4⟩
      · exact Or.inl z
      · exact Or.inr ⟨x, z1, z2, (eq6 x 3 z1 (by decide) (by decide)).mpr z3, (DT x 9 z1 (by decide) (by decide)).trans z4⟩
  · rw [List.mem_filter, s3 x]
    constructor
    · rintro ⟨⟨q1, q2⟩, q3⟩
      have q3 := of_decide_eq_true q3
      exact ⟨q1, by rw [D6 x q1, if_neg q3]; exact q2⟩
    · rintro ⟨q1, q2⟩
      rw [D6 x q1] at q2
      by_cases z : x = t
      · rw [if_pos z] at q2
        exact absurd q2 (by decide)
      · rw [if_neg z] at q2
        exact ⟨⟨q1, q2⟩, decide_eq_true z⟩
  · obtain ⟨x, y1, y2⟩ := ix_log h
    have e6 : i2_u (sp_la I m t) (m + 1) (200 + 14 * t + 6) 6 m 6 = nI x := by rw [i2_ua (by omega)]; exact (la_o _ _ _ (by omega)).trans y2
    have e8 : i2_u (sp_la I m t) (m + 1) (200 + 14 * t + 6) 6 m 8 = 0 := by rw [i2_ua (by omega)]; exact (la_o _ _ _ (by omega)).trans (ix_8 h)
    refine ⟨x + 1, by omega, ?_⟩
    unfold sp_dis sp_log
    rw [if_pos e8, e6, nI_clamp (by omega)]
    unfold ra_wr
    exact i2_us
def ap_dis (I : fI) (m n : Nat) (x1 : Int32) : Int32 × fI := if 0 ≤ x1 ∧ x1 ≤ nI n - 1 then (if ra_T I m x1.toNatClampNeg 6 = 5 then (sp_la I m x1.toNatClampNeg (m + 1) 3, sp_dis I m x1.toNatClampNeg) else (-3, sp_ref I m)) else (-2, sp_ref I m)
theorem sm_dis (h : ix_ I m n T W P L) (hl : lim_ T W P L) {x1 : Int32} : sm_ I m n T W P L (ap_dis I m n x1) (fun M Q => cs_i mt_X10_discard [pv_r 5, pv_i x1] M Q) (fun B J Q => rs_i mt_X11_discard [pv_r m, pv_i x1] B J Q) := by
  obtain ⟨l1, l2, l3, l4⟩ := hl
  have h4 := ix_4 h
  have nJ : ∀ {S E}, uf_ S m → pt_ S E I (m + 1) 1 = nI n := fun hS => (uf_at hS (by omega) (by omega)).trans (ix_1 h)
  by_cases c : 0 ≤ x1 ∧ x1 ≤ nI n - 1
  · obtain ⟨t, ht, rfl⟩ := (i32_tk h4).mp c
    by_cases d : ra_T I m t 6 = 5
    · rw [show ap_dis I m n (nI t) = (sp_la I m t (m + 1) 3, sp_dis I m t) by unfold ap_dis; rw [if_pos c, nI_clamp (by omega), if_pos d]]
      refine ⟨⟨n, ix_up (ix_dis h (by omega) ht d) (by omega) (by omega) (by omega) (by omega)⟩, fun M ta tm Q hr K => ?_, fun S E B Q hS RK K => ?_⟩
      · obtain ⟨x, y1, y2⟩ := ix_log h
        refine wc_X10_discard_0 (re_m5 hr) (ce_taskAt hr (fun t' ht' e => ?_) (fun q => absurd c q))
        have : t = t' := (nI_eq (by omega) (by omega)).mp e
        subst this
        have g := re_ge hr ht
        refine ⟨fun _ => ⟨g.2, ?_⟩, fun q => absurd q (by omega)⟩
        rw [(hr.1.2.2.1.1 t ht).2.1.2.2.2.2.1, hr.1.1.1.2.2.2.2.1]
        obtain ⟨as, a1, a2, a3, a4⟩ := hr.2.1.2.1
        refine ⟨fun _ => ⟨a4.1, ce_drop hr ht (fun M1 h1 => ?_)⟩, fun q => absurd d q⟩
        rw [(re_bk h1).1]
        refine ⟨(re_bk h1).2, ce_change h1 (s := 6) (v := 6) ht rfl (by decide) (fun _ z => absurd z (by decide)) (fun M2 h2 => ?_)⟩
        refine ce_note h2 (by rw [i2_ua (by omega)]; exact (la_o _ _ _ (by omega)).trans (ix_8 h)) (by rw [i2_ua (by omega)]; exact (la_o _ _ _ (by omega)).trans y2) (by omega) ht (x3 := -1) (Or.inl ⟨rfl, rfl⟩) (fun M3 h3 => ?_)
        have h3 : re_ M3 (sp_dis I m t) m n ta tm := h3
        obtain ⟨as', a1', a2', a3', a4'⟩ := h3.2.1.2.1
        rw [h3.1.1.1.2.2.2.2.1]
        refine ⟨a4'.1, ?_⟩
        have v : mm_i M3 81 1 = sp_la I m t (m + 1) 3 := by
          rw [a4'.2.2.2.2.2.1, List.length_map, ← a1']
          exact dis_a (by omega) (Or.inl rfl)
        rw [v]
        exact K _ _ _ _ h3
      · obtain ⟨as, s0, s1, s2, s3, s4⟩ := as_l h
        have hJ := ix_pt (E := E) h hS
        have s1' : pt_ S E I (m + 1) 3 = nI as.length := (uf_at hS (by omega) (by omega)).trans s1
        refine wq_X11_discard_0 RK ⟨fun _ => ⟨t, ⟨rfl, by omega⟩, fun _ => wq_X11_leavesAside_0 RK (rc_la RK as.length 0 0 (by rw [s1', Nat.zero_add]) (by omega) (by omega) ?_), fun q => absurd (show pt_ S E I (m + 1) (200 + 14 * t + 6) = 5 from (uf_at hS (by omega) (by omega)).trans d) q⟩, fun q => absurd (by rw [nJ hS]; exact c) q⟩
        intro I3 e3
        have ela : la_ m t as.length 0 0 (pt_ S E I) = pt_ S E (sp_la I m t) := by
          rw [nt_la hS]
          unfold sp_la
          rw [s1, nI_clamp (by omega)]
        rw [ela, uf_u hS (by omega) (by omega)] at e3
        refine rc_log RK (b := L) ?_ (by omega) rfl (by omega) ?_
        · rw [e3]
          exact lb_o (ix_lb h) ((uf_at hS (by omega) (by omega)).trans ((i2_ua (by omega)).trans (la_o _ _ _ (by omega)))) ((uf_at hS (by omega) (by omega)).trans ((i2_ua (by omega)).trans (la_o _ _ _ (by omega)))) (Nat.le_refl _)
        · rw [e3, nt_log (uf_us hS), uf_at hS (by omega) (by omega)]
          have v : sp_dis I m t (m + 1) 3 = sp_la I m t (m + 1) 3 := dis_a (by omega) (Or.inl rfl)
          have K : Q (sp_la I m t (m + 1) 3) (pt_ S E (sp_dis I m t)) := K
          rw [← v] at K
          exact K
    · rw [show ap_dis I m n (nI t) = (-3, sp_ref I m) by unfold ap_dis; rw [if_pos c, nI_clamp (by omega), if_neg d]]
      refine ⟨ix_rx h, fun M ta tm Q hr K => ?_, fun S E B Q hS RK K => ?_⟩
      · refine wc_X10_discard_0 (re_m5 hr) (ce_taskAt hr (fun t' ht' e => ?_) (fun q => absurd c q))
        have : t = t' := (nI_eq (by omega) (by omega)).mp e
        subst this
        have g := re_ge hr ht
        refine ⟨fun _ => ⟨g.2, ?_⟩, fun q => absurd q (by omega)⟩
        rw [(hr.1.2.2.1.1 t ht).2.1.2.2.2.2.1]
        exact ⟨fun q => absurd q d, fun _ => cr_x hr (by decide) K⟩
      · exact wq_X11_discard_0 RK ⟨fun _ => ⟨t, ⟨rfl, by omega⟩, fun q => absurd (show I (m + 1) (200 + 14 * t + 6) = 5 from (uf_at hS (by omega) (by omega)).symm.trans q) d, fun _ => rr_x hS (ix_8 h) K⟩, fun q => absurd (by rw [nJ hS]; exact c) q⟩
  · rw [show ap_dis I m n x1 = (-2, sp_ref I m) from if_neg c]
    refine ⟨ix_rx h, fun M ta tm Q hr K => ?_, fun S E B Q hS RK K => ?_⟩
    · exact wc_X10_discard_0 (re_m5 hr) (ce_taskAt hr (fun t ht e => absurd ((i32_tk h4).mpr ⟨t, ht, e⟩) c) (fun _ => ⟨fun q => absurd rfl q, fun _ => cr_x hr (by decide) K⟩))
    · exact wq_X11_discard_0 RK ⟨fun q => absurd (by rw [nJ hS] at q; exact q) c, fun _ => rr_x hS (ix_8 h) K⟩
end Pub17
