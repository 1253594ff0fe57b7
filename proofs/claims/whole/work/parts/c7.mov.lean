/-! move -/
section Mov
variable {B M M' : mm_T} {I J E Y : Nat → Nat → Int32} {m n T W P L : Nat} {ta tm : Nat → Nat} {S : Nat → Nat → Bool}
theorem rT_mv (h : rT_ M I m n ta) {t l : Nat} (ht : t < n) (hl : l < 5) (hk : kd_ M M') (hi : ∀ a j, 112 ≤ a → mm_i M' a j = mm_i M a j) (hr : ∀ a j, 112 ≤ a → (a ≠ ta t ∨ j ≠ 2) → mm_r M' a j = mm_r M a j) (h2 : mm_r M' (ta t) 2 = 12 + l) (hT : ∀ x f, x < n → f < 14 → ra_T J m x f = if x = t ∧ f = 0 then nI l else ra_T I m x f) (h4 : ∀ j, J (m + 4) j = I (m + 4) j) (h5 : ∀ j, J (m + 5) j = I (m + 5) j) : rT_ M' J m n ta := by
  have i1 : ∀ x j, x < n → mm_i M' (ta x) j = mm_i M (ta x) j := fun x j q => hi _ j (h.1 x q).1.2.1
  have r1 : ∀ x j, x < n → j ≠ 2 → mm_r M' (ta x) j = mm_r M (ta x) j := fun x j q z => hr _ j (h.1 x q).1.2.1 (Or.inr z)
  have T1 : ∀ x f, x < n → f < 14 → f ≠ 0 → ra_T J m x f = ra_T I m x f := fun x f q1 q2 q3 => by rw [hT x f q1 q2, if_neg (fun z => q3 z.2)]
  refine ⟨fun x q => ?_, h.2.1, fun x x' q1 q2 => ?_⟩
  · obtain ⟨⟨a1, a2, a3, a4, a5, a6⟩, ⟨b1, b2, b3, b4, b5, b6, b7, b8⟩, ⟨c1, c2, c3⟩, d1, d2⟩ := h.1 x q
    refine ⟨⟨kd_at hk a1 (by omega), a2, (i1 x _ q).trans a3, ?_, ?_, ?_⟩, ⟨?_, ?_, ?_, ?_, ?_, ?_, ?_, ?_⟩, ⟨?_, ?_, ?_⟩, ?_, ?_⟩
    · rw [r1 x _ q (by decide), T1 x 4 q (by decide) (by decide)]; exact a4
    · by_cases z : x = t
      · have e : lmI J m x = l := by
          unfold lmI
          rw [hT x 0 q (by decide), if_pos ⟨z, rfl⟩, nI_clamp (by omega)]
        rw [e, z]; exact h2
      · have e : lmI J m x = lmI I m x := by
          unfold lmI
          rw [hT x 0 q (by decide), if_neg (fun y => z y.1)]
        rw [e, hr _ _ a2 (Or.inl (fun y => z (h.2.1 x t q ht y)))]; exact a5
    · rw [r1 x _ q (by decide), T1 x 9 q (by decide) (by decide)]; exact a6
    · rw [i1 x _ q, T1 x 1 q (by decide) (by decide)]; exact b1
    · rw [i1 x _ q, T1 x 2 q (by decide) (by decide)]; exact b2
    · rw [i1 x _ q, T1 x 3 q (by decide) (by decide)]; exact b3
    · rw [i1 x _ q, T1 x 5 q (by decide) (by decide)]; exact b4
    · rw [i1 x _ q, T1 x 6 q (by decide) (by decide)]; exact b5
    · rw [i1 x _ q, T1 x 7 q (by decide) (by decide)]; exact b6
    · rw [i1 x _ q, T1 x 12 q (by decide) (by decide)]; exact b7
    · rw [i1 x _ q, T1 x 13 q (by decide) (by decide)]; exact b8
    · rw [i1 x _ q, T1 x 8 q (by decide) (by decide)]; exact c1
    · rw [i1 x _ q, T1 x 10 q (by decide) (by decide)]; exact c2
    · rw [i1 x _ q, T1 x 11 q (by decide) (by decide)]; exact c3
    · rw [i1 x _ q, h4]; exact d1
    · unfold rcs
      rw [r1 x _ q (by decide), h4]
      rcases d2 with d2 | ⟨d2, d3, d4⟩
      · exact Or.inl d2
      · refine Or.inr ⟨d2, kd_ak hk d3, fun k q1 q2 => ?_⟩
        rw [hi _ _ d2, h5]
        exact d4 k q1 q2
  · rw [r1 x _ q1 (by decide), r1 x' _ q2 (by decide)]
    exact h.2.2 x x' q1 q2
theorem ce_transfer (h : re_ M I m n ta tm) (hC : ivC I m n) {t l : Nat} (ht : t < n) (hst : sd_ (sgI I m t) = true) (hl : l < 5) (hne : l ≠ lmI I m t) {Q : mm_T → Prop} (K : ∀ M', re_ M' (sp_mv I m n t l) m n ta tm → Q M') : cs_v mt_X0_transfer [pv_r 6, pv_r (ta t), pv_r (12 + l)] M Q := by
  have h4 := re_4 h
  have g := re_ge h ht
  obtain ⟨l1, l2⟩ := lm_of h.1.2.1.2.1 ht
  refine cb_transfer h.1.2.1 ht hst hl hne (fun M' hB hO hr F => K M' (re_B h (fx_up F (fun a j q => ?_) (fun a j q => Or.inr ⟨by omega, by rw [q.1]; exact g.2, q.2⟩)) (fun a j q => mv_o hl (by omega)) hB (rT_mv h.1.2.2.1 ht hl (kd_fx F) (fun a j q => F.2.2.1 _ _ (by unfold tfI; omega)) (fun a j q z => F.2.2.2.1 _ _ (by omega)) hr (fun x f _ q => mv_T hl q) (fun j => mv_o hl (by omega)) (fun j => mv_o hl (by omega))) (fun l' q => ⟨?_, fun f q2 => ?_⟩)))
  · unfold tfI at q
    exact Or.inl (by omega)
  · have e3 : ra_L (sp_mv I m n t l) m l' 3 = ra_L I m l' 3 := mv_o hl (by omega)
    have hO := hO l' q
    rw [re_open h q, cls_id hC l' q] at hO
    rw [show 12 + l' = 6 + 6 + l' by omega, hO]
    unfold opn_
    rw [e3]
    by_cases z : l' = lmI I m t
    · by_cases y : ra_L I m l' 3 = 1 ∧ cn_ (ra_st (sp_mv I m n t l) m (nI l')) n = 0
      · rw [if_pos y, if_pos ⟨z, y⟩]
      · rw [if_neg y, if_neg (fun w => y w.2)]
    · rw [if_neg (fun w => z w.1), if_neg]
      rintro ⟨y1, y2⟩
      refine hC l' q y1 ?_
      have : cn_ (ra_st I m (nI l')) n ≤ cn_ (ra_st (sp_mv I m n t l) m (nI l')) n := cn_sub (fun x q1 y => by
        unfold ra_st at y ⊢
        have y := of_decide_eq_true y
        refine decide_eq_true ?_
        rw [mv_T hl (by decide), mv_T hl (by decide), if_neg (show ¬ (x = t ∧ (6 : Nat) = 0) by omega)]
        refine ⟨Or.inr ?_, y.2⟩
        have y1 : ra_T I m x 0 = nI l' := y.1.resolve_left (nI_nm (by omega))
        by_cases w : x = t
        · rw [w, l2] at y1
          exact absurd ((nI_eq (by omega) (by omega)).mp y1).symm z
        · rw [if_neg (fun v => w v.1)]
          exact y1)
      omega
  · have e : ra_L (sp_mv I m n t l) m l' (5 + f) = ra_L I m l' (5 + f) := mv_o hl (by omega)
    rw [e, F.2.2.1 _ _ (by unfold tfI; omega)]
    exact (h.1.2.2.2 l' q).2 f q2
/-! the invariant -/
def sp_mov (I : fI) (m n t l : Nat) : fI := ra_cls (sp_log (sp_mv I m n t l) m 7 t (-1) 0) m n 5
theorem mov_o {t l a j : Nat} (hl : l < 5) (h : a ≠ m + 1 ∨ (j ≠ 200 + 14 * t + 0 ∧ j ≠ 200 + 14 * t + 6 ∧ j ≠ 10 + 10 * l + 4 ∧ (j < 10 ∨ 60 ≤ j ∨ j % 10 ≠ 3))) (h6 : a ≠ m + 6) (h0 : a ≠ m ∨ j ≠ 6) : sp_mov I m n t l a j = I a j := by
  unfold sp_mov
  rw [ra_cls_o 5 (by
    rcases h with h | h
    · exact Or.inl h
    · exact Or.inr (fun l q => by omega)), sp_log_o h6 h0]
  exact mv_o hl (by omega)
theorem mov_T {t l x f : Nat} (hl : l < 5) (hf : f < 14) : ra_T (sp_mov I m n t l) m x f = if x = t ∧ f = 0 then nI l else ra_T I m x f := by
  unfold sp_mov
  rw [ra_cls_T (by omega)]
  exact sp_log_r.trans (mv_T hl hf)
theorem mv_p (h : ix_ I m n T W P L) (hP : P < 2147483648) {t l : Nat} (ht : t < n) (hl : l < 5) : ∀ l', l' < 5 → ∃ p, p ≤ P ∧ ra_L (sp_mv I m n t l) m l' 4 = nI p := fun l' hl' => by
  have h4 := ix_4 h
  have hp : ∀ l', l' < 5 → 0 ≤ ra_L (sp_mu I m t l) m l' 4 ∧ ra_L (sp_mu I m t l) m l' 4 ≤ nI P := fun l' q => by
    rw [show ra_L (sp_mu I m t l) m l' 4 = ra_L I m l' 4 from mu_o (by omega)]
    exact (ix_rb h hP).2.2.2 l' q
  by_cases z : l' = l
  · subst z
    refine i32_in (nI_toInt (by omega)) ?_
    rw [mv_4 hl (by omega)]
    split
    · split
      · exact hp l' hl
      · rw [up0_eq]
        exact ra_up_b hp hl
    · exact (ix_rb h hP).2.2.2 l' hl
  · rw [show ra_L (sp_mv I m n t l) m l' 4 = ra_L I m l' 4 from mv_o hl (by omega)]
    exact h.2.2.2.2.1 l' hl'
theorem ix_mov (h : ix_ I m n T W P L) (hP : P < 2147483648) (hL : L < 1999999000) {t l : Nat} (ht : t < n) (hl : l < 5) : ix_ (sp_mov I m n t l) m n T W P (L + 1) := by
  have h4 := ix_4 h
  have DT : ∀ x f, f < 14 → f ≠ 0 → ra_T (sp_mov I m n t l) m x f = ra_T I m x f := fun x f q1 q2 => by rw [mov_T hl q1, if_neg (fun z => q2 z.2)]
  have D0 : ∀ x, x < n → ∃ l, l < 5 ∧ ra_T (sp_mov I m n t l) m x 0 = ra_T (sp_mov I m n t l) m x 0 := fun x _ => ⟨0, by omega, rfl⟩
  refine ⟨⟨⟨⟨(mov_o hl (by omega) (by omega) (by omega)).trans (ix_1 h), h4, fun x q => ⟨?_, by rw [DT x 6 (by decide) (by decide)]; exact ix_s h q⟩⟩, fun x q => by rw [DT x 4 (by decide) (by decide)]; exact ix_bl h x q, fun x q => ?_⟩, ?_, ivW_o h.1.2.2.1 (fun x f q1 q2 q3 q4 => DT x f (by omega) (by omega)) (fun w q => mov_o hl (by omega) (by omega) (by omega)), ivH_o h.1.2.2.2 (fun x q => DT x 4 (by decide) (by decide)) (fun x q z => by rw [DT x 6 (by decide) (by decide)] at z; exact z) (fun x q' q z1 z2 z3 z4 => by rw [DT q' 6 (by decide) (by decide)]; exact z4)⟩, ⟨ivC_cls, ivS_o h.2.1.2.1 (mov_o hl (by omega) (by omega) (by omega)) (fun j q => mov_o hl (by omega) (by omega) (by omega)) (fun x q => by rw [DT x 6 (by decide) (by decide)]), ivR_o h.2.1.2.2.1 (fun x q z => by rw [DT x 6 (by decide) (by decide)] at z; exact z), fun x q1 q2 => (mov_o hl (by omega) (by omega) (by omega)).trans (h.2.1.2.2.2 x q1 q2)⟩, ivN_o h.2.2 (mov_o hl (by omega) (by omega) (by omega)) (mov_o hl (by omega) (by omega) (by omega)) (fun l' q => ?_) ?_ (mov_o hl (by omega) (by omega) (by omega)) (fun j => ⟨mov_o hl (by omega) (by omega) (by omega), mov_o hl (by omega) (by omega) (by omega)⟩) (fun x q => by rw [mov_o hl (by omega) (by omega) (by omega)]; exact h.2.2.2.2.2.2.2.2 x q)⟩
  · rw [mov_T hl (by decide)]
    by_cases z : x = t
    · rw [if_pos ⟨z, rfl⟩]; exact ⟨l, hl, rfl⟩
    · rw [if_neg (fun y => z y.1)]; exact ((ix_tv h).2.2 x q).1
  · rw [DT x 1 (by decide) (by decide), DT x 2 (by decide) (by decide), DT x 3 (by decide) (by decide), DT x 5 (by decide) (by decide), DT x 6 (by decide) (by decide), DT x 7 (by decide) (by decide)]
    exact h.1.1.2.2 x q
  · obtain ⟨a, b1, b2, b3, b4, b5, b6⟩ := h.1.2.1
    have hr : ∀ j, 4 ≤ j → j < 10 → sp_mov I m n t l (m + 1) j = I (m + 1) j := fun j q1 q2 => mov_o hl (by omega) (by omega) (by omega)
    have h3 : ∀ l', l' < 5 → ∃ s, s < 3 ∧ ra_L (sp_mov I m n t l) m l' 3 = nI s := cls_rng (fun l' q => by
      rw [show ra_L (sp_log (sp_mv I m n t l) m 7 t (-1) 0) m l' 3 = ra_L I m l' 3 from sp_log_r.trans (mv_o hl (by omega))]
      exact (a l' q).2.2.2)
    refine ⟨fun l' q => ?_, by rw [hr 4 (by omega) (by omega)]; exact b1, by rw [hr 5 (by omega) (by omega)]; exact b2, by rw [hr 6 (by omega) (by omega)]; exact b3, by rw [hr 7 (by omega) (by omega)]; exact b4, by rw [hr 8 (by omega) (by omega)]; exact b5, by rw [hr 9 (by omega) (by omega)]; exact b6⟩
    rw [show ra_L (sp_mov I m n t l) m l' 0 = ra_L I m l' 0 from mov_o hl (by omega) (by omega) (by omega), show ra_L (sp_mov I m n t l) m l' 1 = ra_L I m l' 1 from mov_o hl (by omega) (by omega) (by omega), show ra_L (sp_mov I m n t l) m l' 2 = ra_L I m l' 2 from mov_o hl (by omega) (by omega) (by omega)]
    exact ⟨(a l' q).1, (a l' q).2.1, (a l' q).2.2.1, h3 l' q⟩
  · have e : ra_L (sp_mov I m n t l) m l' 4 = ra_L (sp_mv I m n t l) m l' 4 := by
      unfold sp_mov ra_L
      rw [ra_cls_o 5 (Or.inr (fun l q => by omega)), sp_log_r]
    rw [e]
    exact mv_p h hP ht hl l' q
  · obtain ⟨x, y1, y2⟩ := ix_log h
    have e6 : sp_mv I m n t l m 6 = nI x := (mv_o hl (by omega)).trans y2
    have e8 : sp_mv I m n t l m 8 = 0 := (mv_o hl (by omega)).trans (ix_8 h)
    refine ⟨x + 1, by omega, ?_⟩
    unfold sp_mov
    rw [ra_cls_o 5 (by omega)]
    unfold sp_log
    rw [if_pos e8, e6, nI_clamp (by omega)]
    unfold ra_wr
    exact i2_us
theorem nt_mv (hS : uf_ S m) {t l : Nat} (hl : l < 5) : sp_mv (pt_ S E I) m n t l = pt_ S E (sp_mv I m n t l) := by
  unfold sp_mv
  rw [show ra_T (pt_ S E I) m t 6 = ra_T I m t 6 from uf_at hS (by omega) (by omega)]
  split
  · have e : sp_mu (pt_ S E I) m t l = pt_ S E (sp_mu I m t l) := by
      unfold sp_mu
      rw [uf_u hS (by omega) (by omega), uf_u hS (by omega) (by omega)]
    rw [e]
    exact nt_wt (uf_us hS) ⟨l, hl, by rw [mu_T (by decide), if_pos ⟨rfl, rfl⟩]⟩
  · exact uf_u hS (by omega) (by omega)
theorem rc_moves (RK : rf_ok B m) (h : ix_ I m n T W P L) (hP : P < 2147483648) {t l : Nat} (ht : t < n) (hl : l < 5) {Q : fI → Prop} (K : Q (sp_mv I m n t l)) : rs_v mt_X11_movesTo [pv_r m, pv_i (nI t), pv_i (nI l)] B I Q := by
  have h4 := ix_4 h
  unfold sp_mv at K
  refine wq_X11_movesTo_0 RK ⟨t, ⟨rfl, by omega⟩, fun c I2 e => ?_, fun c I3 e3 I4 e4 => ?_⟩
  · rw [if_neg (show ¬ ra_T I m t 6 = 0 from c)] at K
    rw [e]
    exact K
  · rw [if_pos (show ra_T I m t 6 = 0 from c)] at K
    rw [e3] at e4
    have e4 : I4 = sp_mu I m t l := e4
    rw [e4]
    have hb : rb_ (sp_mu I m t l) m n (nI P) := by
      have r := ix_rb h hP
      refine ⟨(mu_o (by omega)).trans r.1, r.2.1, fun x q => ?_, fun l' q => ?_⟩
      · rw [mu_T (by decide)]
        by_cases z : x = t
        · rw [if_pos ⟨z, rfl⟩]; exact ⟨l, hl, rfl⟩
        · rw [if_neg (fun y => z y.1), if_neg (fun y => z y.1)]
          exact r.2.2.1 x q
      · rw [show ra_L (sp_mu I m t l) m l' 4 = ra_L I m l' 4 from mu_o (by omega)]
        exact r.2.2.2 l' q
    exact rc_wt RK hb rfl ht K
def ap_mov (I : fI) (m n : Nat) (x1 x2 : Int32) : Int32 × fI := if (0 ≤ x1 ∧ x1 ≤ nI n - 1) ∧ (0 ≤ x2 ∧ x2 ≤ 4) then (if ra_T I m x1.toNatClampNeg 6 ≤ 2 ∧ ¬ ra_T I m x1.toNatClampNeg 0 = x2 ∧ ra_L I m x2.toNatClampNeg 3 = 0 then (if ra_L I m x2.toNatClampNeg 1 ≤ nI (cn_ (ra_st I m x2) n) then (-4, sp_ref I m) else (0, sp_mov I m n x1.toNatClampNeg x2.toNatClampNeg)) else (-3, sp_ref I m)) else (-2, sp_ref I m)
theorem in_4' {l : Nat} (h : l < 5) : 0 ≤ nI l ∧ nI l ≤ 4 := ⟨nI_pos' (by omega), show nI l ≤ nI 4 from nI_le (by omega) (by decide)⟩
theorem sm_move (h : ix_ I m n T W P L) (hl : lim_ T W P L) {x1 x2 : Int32} : sm_ I m n T W P L (ap_mov I m n x1 x2) (fun M Q => cs_i mt_X10_move [pv_r 5, pv_i x1, pv_i x2] M Q) (fun B J Q => rs_i mt_X11_move [pv_r m, pv_i x1, pv_i x2] B J Q) := by
  obtain ⟨L1, L2, L3, L4⟩ := hl
  have h4 := ix_4 h
  have nJ : ∀ {S E}, uf_ S m → pt_ S E I (m + 1) 1 = nI n := fun hS => (uf_at hS (by omega) (by omega)).trans (ix_1 h)
  have pT : ∀ {S E} x f, uf_ S m → ra_T (pt_ S E I) m x f = ra_T I m x f := fun x f hS => uf_at hS (by omega) (by omega)
  have pL : ∀ {S E} x f, uf_ S m → ra_L (pt_ S E I) m x f = ra_L I m x f := fun x f hS => uf_at hS (by omega) (by omega)
  by_cases c : (0 ≤ x1 ∧ x1 ≤ nI n - 1) ∧ (0 ≤ x2 ∧ x2 ≤ 4)
  · obtain ⟨t, ht, rfl⟩ := (i32_tk h4).mp c.1
    obtain ⟨l, hl, rfl⟩ := i32_in (N := 4) (by decide) c.2
    have hl : l < 5 := by omega
    obtain ⟨k1, k2⟩ := lm_of (ix_tv h) ht
    -- the class up to the refusals
    have cls : ∀ {M ta tm} {Q : Int32 → mm_T → Prop}, re_ M I m n ta tm → (¬ (ra_T I m t 6 ≤ 2 ∧ ¬ ra_T I m t 0 = nI l ∧ ra_L I m l 3 = 0) → cs_i mt_X10_counted [pv_r 5, pv_i (-3)] M Q) → ((ra_T I m t 6 ≤ 2 ∧ ¬ ra_T I m t 0 = nI l ∧ ra_L I m l 3 = 0) → ra_L I m l 1 ≤ nI (cn_ (ra_st I m (nI l)) n) → cs_i mt_X10_counted [pv_r 5, pv_i (-4)] M Q) → ((ra_T I m t 6 ≤ 2 ∧ ¬ ra_T I m t 0 = nI l ∧ ra_L I m l 3 = 0) → ¬ ra_L I m l 1 ≤ nI (cn_ (ra_st I m (nI l)) n) → cs_v mt_X0_transfer [pv_r 6, pv_r (ta t), pv_r (12 + l)] M (fun M39 => cs_v mt_X10_note [pv_r 5, pv_i 7, pv_r (ta t), pv_r 0, pv_i 0] M39 (fun M45 => Q 0 M45))) → cs_i mt_X10_move [pv_r 5, pv_i (nI t), pv_i (nI l)] M Q := fun {M ta tm Q} hr z1 z2 z3 => by
      refine wc_X10_move_0 (re_m5 hr) (ce_taskAt hr (fun t' ht' e => ?_) (fun q => absurd c.1 q))
      have : t = t' := (nI_eq (by omega) (by omega)).mp e
      subst this
      have g := re_ge hr ht
      rw [(re_bk hr).1]
      refine ⟨(re_bk hr).2, cb_laneAt (br_S hr.1.2.1) (fun l' hl' e => ?_) (fun q => absurd c.2 q)⟩
      have : l = l' := (nI_eq (by omega) (by omega)).mp e
      subst this
      refine ⟨fun q => absurd q (by omega), fun _ => ⟨fun _ => ⟨g.2, ce_loose hr h ht ?_⟩, fun q => absurd q (by omega)⟩⟩
      have a5 : mm_r M (ta t) 2 = 12 + lmI I m t := (hr.1.2.2.1.1 t ht).1.2.2.2.2.1
      have kl := br_ln hr.1.2.1 hl
      have ol : mm_i M (6 + 6 + l) 4 = ra_L I m l 3 := (re_open hr hl).trans (cls_id h.2.1.1 l hl)
      by_cases d1 : ra_T I m t 6 ≤ 2
      · rw [if_pos d1]
        refine ⟨fun q => absurd q (by decide), fun _ => ⟨Or.inr ⟨3, by decide, ?_⟩, Or.inr ⟨3, by decide, kl.1⟩, ?_⟩⟩
        · rw [a5]
          exact (br_ln hr.1.2.1 k1).1
        · rw [a5, ol]
          refine ⟨fun q => z1 (fun y => y.2.1 ?_), fun q => ⟨kl.1, fun q2 => cb_room hr.1.2.1 hl ?_, fun q2 => z1 (fun y => q2 y.2.2)⟩⟩
          · rw [k2]
            congr 1
            omega
          · have dd : ra_T I m t 6 ≤ 2 ∧ ¬ ra_T I m t 0 = nI l ∧ ra_L I m l 3 = 0 := ⟨d1, fun y => q (by rw [k2] at y; have := (nI_eq (by omega) (by omega)).mp y; omega), q2⟩
            by_cases d3 : ra_L I m l 1 ≤ nI (cn_ (ra_st I m (nI l)) n)
            · rw [if_pos d3]
              exact ⟨fun y => absurd rfl y, fun _ => z2 dd d3⟩
            · rw [if_neg d3, (re_bk hr).1]
              exact ⟨fun _ => ⟨(re_bk hr).2, z3 dd d3⟩, fun y => absurd y (by decide)⟩
      · rw [if_neg d1]
        exact ⟨fun _ => z1 (fun y => d1 y.1), fun q => absurd rfl q⟩
    have ref : ∀ {S E B} {Q : Int32 → fI → Prop}, uf_ S m → rf_ok B m → (¬ (ra_T I m t 6 ≤ 2 ∧ ¬ ra_T I m t 0 = nI l ∧ ra_L I m l 3 = 0) → Q (-3) (pt_ S E (sp_ref I m))) → ((ra_T I m t 6 ≤ 2 ∧ ¬ ra_T I m t 0 = nI l ∧ ra_L I m l 3 = 0) → ra_L I m l 1 ≤ nI (cn_ (ra_st I m (nI l)) n) → Q (-4) (pt_ S E (sp_ref I m))) → ((ra_T I m t 6 ≤ 2 ∧ ¬ ra_T I m t 0 = nI l ∧ ra_L I m l 3 = 0) → ¬ ra_L I m l 1 ≤ nI (cn_ (ra_st I m (nI l)) n) → rs_v mt_X11_movesTo [pv_r m, pv_i (nI t), pv_i (nI l)] B (pt_ S E I) (fun I6 => rs_v mt_X11_writes [pv_r m, pv_i 7, pv_i (nI t), pv_i (-1), pv_i 0] B I6 (fun I7 => rs_v mt_X11_closes [pv_r m] B I7 (fun I8 => Q 0 I8)))) → rs_i mt_X11_move [pv_r m, pv_i (nI t), pv_i (nI l)] B (pt_ S E I) Q := fun {S E B Q} hS RK z1 z2 z3 => by
      have no : ¬ (ra_T I m t 6 ≤ 2 ∧ ¬ ra_T I m t 0 = nI l ∧ ra_L I m l 3 = 0) → pt_ S E I m 8 = 0 ∧ ∀ I3, I3 = i2_u (pt_ S E I) m 7 (pt_ S E I m 7 + 1) → Q (-3) I3 := fun q => rr_x hS (ix_8 h) (z1 q)
      refine wq_X11_move_0 RK ⟨fun _ => ⟨fun _ => ⟨t, ⟨rfl, by omega⟩, fun q6 => ⟨fun q0 => no (fun y => y.2.1 ((pT t 0 hS).symm.trans q0)), fun q0 => ⟨l, ⟨rfl, hl⟩, fun q3 => ?_, fun q3 => no (fun y => q3 ((pL l 3 hS).trans y.2.2))⟩⟩, fun q6 => no (fun y => q6 (by have := y.1; rw [← pT t 6 hS (E := E)] at this; exact this))⟩, fun q => absurd c.2 q⟩, fun q => absurd (by rw [nJ hS]; exact c.1) q⟩
      have dd : ra_T I m t 6 ≤ 2 ∧ ¬ ra_T I m t 0 = nI l ∧ ra_L I m l 3 = 0 := ⟨by rw [← pT t 6 hS (E := E)]; exact q6, fun y => q0 ((pT t 0 hS).trans y), (pL l 3 hS).symm.trans q3⟩
      refine rc_hasRoom RK (nJ hS) h4 rfl hl ?_
      rw [pL l 1 hS, nt_st (uf_us hS)]
      by_cases d3 : ra_L I m l 1 ≤ nI (cn_ (ra_st I m (nI l)) n)
      · rw [if_pos d3]
        exact ⟨fun y => absurd rfl y, fun _ => rr_x hS (ix_8 h) (z2 dd d3)⟩
      · rw [if_neg d3]
        exact ⟨fun _ => z3 dd d3, fun y => absurd y (by decide)⟩
    by_cases d : ra_T I m t 6 ≤ 2 ∧ ¬ ra_T I m t 0 = nI l ∧ ra_L I m l 3 = 0
    · by_cases d3 : ra_L I m l 1 ≤ nI (cn_ (ra_st I m (nI l)) n)
      · rw [show ap_mov I m n (nI t) (nI l) = (-4, sp_ref I m) by unfold ap_mov; rw [if_pos c, nI_clamp (by omega), nI_clamp (by omega), if_pos d, if_pos d3]]
        refine ⟨ix_rx h, fun M ta tm Q hr K => cls hr (fun y => absurd d y) (fun _ _ => cr_x hr (by decide) K) (fun _ y => absurd d3 y), fun S E B Q hS RK K => ref hS RK (fun y => absurd d y) (fun _ _ => K) (fun _ y => absurd d3 y)⟩
      · rw [show ap_mov I m n (nI t) (nI l) = (0, sp_mov I m n t l) by unfold ap_mov; rw [if_pos c, nI_clamp (by omega), nI_clamp (by omega), if_pos d, if_neg d3]]
        refine ⟨⟨n, ix_up (ix_mov h (by omega) (by omega) ht hl) (by omega) (by omega) (by omega) (by omega)⟩, fun M ta tm Q hr K => cls hr (fun y => absurd d y) (fun _ y => absurd y d3) (fun _ _ => ?_), fun S E B Q hS RK K => ref hS RK (fun y => absurd d y) (fun _ y => absurd y d3) (fun _ _ => ?_)⟩
        · obtain ⟨x, y1, y2⟩ := ix_log h
          have hst : sd_ (sgI I m t) = true := (sd_of (ix_tv h) ht).mpr (le2_3 d.1)
          refine ce_transfer hr h.2.1.1 ht hst hl (fun y => d.2.1 (by rw [k2, y])) (fun M1 h1 => ?_)
          refine ce_note h1 ((mv_o hl (by omega)).trans (ix_8 h)) ((mv_o hl (by omega)).trans y2) (by omega) ht (x3 := -1) (Or.inl ⟨rfl, rfl⟩) (fun M2 h2 => ?_)
          exact K _ _ _ _ (re_cls h2)
        · have hJ := ix_pt (E := E) h hS
          refine rc_moves RK hJ (by omega) ht hl ?_
          rw [nt_mv hS hl]
          refine rc_log RK (b := L) (lb_o (ix_lb h) ((uf_at hS (by omega) (by omega)).trans (mv_o hl (by omega))) ((uf_at hS (by omega) (by omega)).trans (mv_o hl (by omega))) (Nat.le_refl _)) (by omega) rfl (by omega) ?_
          rw [nt_log (uf_us hS)]
          refine rc_closes RK (n := n) ((uf_at hS (by omega) (by omega)).trans (sp_log_r.trans ((mv_o hl (by omega)).trans (ix_1 h)))) h4 ?_
          rw [nt_cls (uf_us hS) 5 (by omega)]
          exact K
    · rw [show ap_mov I m n (nI t) (nI l) = (-3, sp_ref I m) by unfold ap_mov; rw [if_pos c, nI_clamp (by omega), nI_clamp (by omega), if_neg d]]
      refine ⟨ix_rx h, fun M ta tm Q hr K => cls hr (fun _ => cr_x hr (by decide) K) (fun y => absurd y d) (fun y => absurd y d), fun S E B Q hS RK K => ref hS RK (fun _ => K) (fun y => absurd y d) (fun y => absurd y d)⟩
  · rw [show ap_mov I m n x1 x2 = (-2, sp_ref I m) from if_neg c]
    refine ⟨ix_rx h, fun M ta tm Q hr K => ?_, fun S E B Q hS RK K => ?_⟩
    · refine wc_X10_move_0 (re_m5 hr) (ce_taskAt hr (fun t ht e => ?_) (fun q => ?_))
      · rw [(re_bk hr).1]
        have g := re_ge hr ht
        refine ⟨(re_bk hr).2, cb_laneAt (br_S hr.1.2.1) (fun l' hl' e2 => absurd ⟨(i32_tk h4).mpr ⟨t, ht, e⟩, by rw [e2]; exact in_4' hl'⟩ c) (fun q => ⟨fun y => absurd y (by omega), fun _ => ⟨fun y => absurd rfl y, fun _ => cr_x hr (by decide) K⟩⟩)⟩
      · rw [(re_bk hr).1]
        exact ⟨(re_bk hr).2, cb_laneAt (br_S hr.1.2.1) (fun _ _ _ => ⟨fun _ => cr_x hr (by decide) K, fun y => absurd rfl y⟩) (fun _ => ⟨fun _ => cr_x hr (by decide) K, fun y => absurd rfl y⟩)⟩
    · exact wq_X11_move_0 RK ⟨fun q => ⟨fun q2 => absurd ⟨by rw [nJ hS] at q; exact q, q2⟩ c, fun _ => rr_x hS (ix_8 h) K⟩, fun _ => rr_x hS (ix_8 h) K⟩
end Mov
