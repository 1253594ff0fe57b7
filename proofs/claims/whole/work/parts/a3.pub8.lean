/-! raise, cancel -/
section Pub8
variable {B M M' : mm_T} {I J E : Nat → Nat → Int32} {m n T W P L : Nat} {ta tm : Nat → Nat} {S : Nat → Nat → Bool}
theorem ce_loose (h : re_ M I m n ta tm) (hi : ix_ I m n T W P L) {t : Nat} (ht : t < n) {Q : Int32 → mm_T → Prop} (K : Q (if ra_T I m t 6 ≤ 2 then 1 else 0) M) : cs_i mt_X6_isLoose [pv_r (ta t)] M Q := by
  obtain ⟨s, hs, es⟩ := ix_s hi ht
  refine wc_X6_isLoose_0 (re_ge h ht).2 ?_
  rw [(h.1.2.2.1.1 t ht).2.1.2.2.2.2.1]
  refine ⟨fun q => absurd q (by rw [es]; exact nI_pos (by omega)), fun _ => ⟨fun q => ?_, fun q => ?_⟩⟩
  · rw [if_neg (Int32.not_le.mpr q)] at K; exact K
  · rw [if_pos (Int32.not_lt.mp q)] at K; exact K
/-! raise -/
theorem ix_ri (h : ix_ I m n T W P L) {t0 p : Nat} (ht0 : t0 < n) (hp : p < 10) : ix_ (i2_u I (m + 1) (200 + 14 * t0 + 1) (nI p)) m n T W P L := by
  have eT : ∀ t f, f < 14 → f ≠ 1 → ra_T (i2_u I (m + 1) (200 + 14 * t0 + 1) (nI p)) m t f = ra_T I m t f := fun t f _ _ => i2_uj (by omega)
  obtain ⟨a1, a2, a3⟩ := h.1.1
  have h4 := ix_4 h
  refine ix_fr h ⟨tv_o a1 (i2_uj (by omega)) (fun t _ => ⟨eT t 0 (by decide) (by decide), eT t 6 (by decide) (by decide)⟩), fun t q => by rw [eT t 4 (by decide) (by decide)]; exact a2 t q, fun t q => ?_⟩ (ivL_o h.1.2.1 (fun l f _ _ => i2_uj (by omega)) (fun j _ _ => i2_uj (by omega))) (fun j q => i2_uj (by omega)) (fun l f _ _ => i2_uj (by omega)) (fun t f _ q1 q2 => eT t f (by omega) q2) (fun a j q => i2_ua q)
  obtain ⟨d1, d2⟩ := a3 t q
  rw [eT t 2 (by decide) (by decide), eT t 3 (by decide) (by decide), eT t 5 (by decide) (by decide), eT t 6 (by decide) (by decide), eT t 7 (by decide) (by decide)]
  refine ⟨?_, d2⟩
  unfold ra_T
  rw [i2_at]
  by_cases z : t = t0
  · rw [if_pos ⟨rfl, by omega⟩]
    exact ⟨p, hp, rfl⟩
  · rw [if_neg (by omega)]
    exact d1
def ap_raise (I : fI) (m n : Nat) (x1 x2 : Int32) : Int64 × fI := if (0 ≤ x1 ∧ x1 ≤ nI n - 1) ∧ (0 ≤ x2 ∧ x2 ≤ 9) then (if ra_T I m x1.toNatClampNeg 6 ≤ 2 ∧ ¬ ra_T I m x1.toNatClampNeg 1 = x2 then ((ra_rank (i2_u I (m + 1) (200 + 14 * x1.toNatClampNeg + 1) x2) m x1.toNatClampNeg).toInt64, i2_u I (m + 1) (200 + 14 * x1.toNatClampNeg + 1) x2) else ((-3 : Int32).toInt64, sp_ref I m)) else ((-2 : Int32).toInt64, sp_ref I m)
theorem ce_rank (h : re_ M I m n ta tm) {t : Nat} (ht : t < n) {Q : Int32 → mm_T → Prop} (K : Q (ra_rank I m t) M) : cs_i mt_X10_rank [pv_r 5, pv_i (nI t)] M Q := by
  have h4 := re_4 h
  obtain ⟨b1, b2⟩ := re_bk h
  obtain ⟨r1, r2, r3⟩ := re_rules h
  refine wc_X10_rank_0 (re_m5 h) (ce_taskAt h (fun t' ht' e => ?_) (fun q => absurd ((i32_tk h4).mpr ⟨t, ht, rfl⟩) q))
  have : t = t' := (nI_eq (by omega) (by omega)).mp e
  subst this
  have g := re_ge h ht
  refine ⟨fun _ => ?_, fun q => absurd q (by omega)⟩
  rw [b1, r1]
  refine ⟨b2, 6, r2, by decide, g.2, wc_X6_rankBy_0 g.2 ?_⟩
  rw [(h.1.2.2.1.1 t ht).2.1.1, (h.1.2.2.1.1 t ht).2.1.2.2.2.1, r3 0 (by decide)]
  exact K
theorem cr_l {v : Int32} {Q : Int64 → mm_T → Prop} (h : re_ M I m n ta tm) (hv : ¬ -1 ≤ v) (K : ∀ M' n' ta' tn, re_ M' (sp_ref I m) m n' ta' tn → Q v.toInt64 M') : cs_i mt_X10_counted [pv_r 5, pv_i v] M (fun v8 M7 => Q v8.toInt64 M7) := cr_x (Q := fun v8 M7 => Q v8.toInt64 M7) h hv K
theorem sm_raise (h : ix_ I m n T W P L) {x1 x2 : Int32} : sm_ I m n T W P L (ap_raise I m n x1 x2) (fun M Q => cs_l mt_X10_raise [pv_r 5, pv_i x1, pv_i x2] M Q) (fun B J Q => rs_l mt_X11_raise [pv_r m, pv_i x1, pv_i x2] B J Q) := by
  have h4 := ix_4 h
  have nJ : ∀ {S E}, uf_ S m → pt_ S E I (m + 1) 1 = nI n := fun hS => (uf_at hS (by omega) (by omega)).trans (ix_1 h)
  by_cases c : (0 ≤ x1 ∧ x1 ≤ nI n - 1) ∧ (0 ≤ x2 ∧ x2 ≤ 9)
  · obtain ⟨c1, c2⟩ := id c
    obtain ⟨t, ht, rfl⟩ := (i32_tk h4).mp c1
    obtain ⟨p, hp, rfl⟩ := i32_in (N := 9) (by decide) c2
    have n0 : ¬ nI p < 0 := nI_pos (by omega)
    have vT : ∀ {M : mm_T} {ta tm : Nat → Nat}, re_ M I m n ta tm → mm_i M (ta t) 3 = ra_T I m t 1 := fun hr => (hr.1.2.2.1.1 t ht).2.1.1
    by_cases d : ra_T I m t 6 ≤ 2 ∧ ¬ ra_T I m t 1 = nI p
    · rw [show ap_raise I m n (nI t) (nI p) = ((ra_rank (i2_u I (m + 1) (200 + 14 * t + 1) (nI p)) m t).toInt64, i2_u I (m + 1) (200 + 14 * t + 1) (nI p)) by unfold ap_raise; rw [if_pos c, nI_clamp (by omega), if_pos d]]
      refine ⟨⟨n, ix_up (ix_ri h ht (by omega)) (by omega) (by omega) (by omega) (by omega)⟩, fun M ta tm Q hr K => ?_, fun S E B Q hS RK K => ?_⟩
      · refine wc_X10_raise_0 (re_m5 hr) (wc_X10_raiseIfCan_0 (re_m5 hr) (ce_taskAt hr (fun t' ht' e => ?_) (fun q => absurd c1 q)))
        have : t = t' := (nI_eq (by omega) (by omega)).mp e
        subst this
        have g := re_ge hr ht
        refine ⟨fun q => absurd q (by omega), fun _ => ⟨fun q => absurd q n0, fun _ => ⟨fun _ => ⟨g.2, ce_loose hr h ht ?_⟩, fun q => absurd c2.2 q⟩⟩⟩
        rw [if_pos d.1, vT hr]
        refine ⟨fun q => absurd q (by decide), fun _ => ⟨fun _ M9 e9 => ⟨fun _ => ?_, fun q => absurd (by decide) q⟩, fun q => absurd q d.2⟩⟩
        have h1 := re_ri (x := nI p) hr ht
        rw [← e9] at h1
        exact ce_rank h1 ht (K _ _ _ _ h1)
      · refine wq_X11_raise_0 RK ⟨fun _ => ⟨fun _ => ⟨t, ⟨rfl, by omega⟩, ?_⟩, fun q => absurd c2 q⟩, fun q => absurd (by rw [nJ hS]; exact c1) q⟩
        rw [uf_at hS (by omega) (by omega), uf_at hS (by omega) (by omega)]
        refine ⟨fun _ => ⟨fun _ I2 e2 => ?_, fun q => absurd q d.2⟩, fun q => absurd d.1 q⟩
        rw [uf_u hS (by omega) (by omega)] at e2
        rw [e2, nt_rank (uf_us hS)]
        exact K
    · rw [show ap_raise I m n (nI t) (nI p) = ((-3 : Int32).toInt64, sp_ref I m) by unfold ap_raise; rw [if_pos c, nI_clamp (by omega), if_neg d]]
      refine ⟨ix_rx h, fun M ta tm Q hr K => ?_, fun S E B Q hS RK K => ?_⟩
      · refine wc_X10_raise_0 (re_m5 hr) (wc_X10_raiseIfCan_0 (re_m5 hr) (ce_taskAt hr (fun t' ht' e => ?_) (fun q => absurd c1 q)))
        have : t = t' := (nI_eq (by omega) (by omega)).mp e
        subst this
        have g := re_ge hr ht
        have fin : (-1 ≤ (-3 : Int32) → cs_i mt_X10_rank [pv_r 5, pv_i (nI t)] M (fun v5 M4 => Q v5.toInt64 M4)) ∧ (¬ -1 ≤ (-3 : Int32) → cs_i mt_X10_counted [pv_r 5, pv_i (-3)] M (fun v8 M7 => Q v8.toInt64 M7)) := ⟨fun q => absurd q (by decide), fun _ => cr_l hr (by decide) K⟩
        refine ⟨fun q => absurd q (by omega), fun _ => ⟨fun q => absurd q n0, fun _ => ⟨fun _ => ⟨g.2, ce_loose hr h ht ?_⟩, fun q => absurd c2.2 q⟩⟩⟩
        rw [vT hr]
        by_cases d1 : ra_T I m t 6 ≤ 2
        · rw [if_pos d1]
          exact ⟨fun q => absurd q (by decide), fun _ => ⟨fun q => absurd ⟨d1, q⟩ d, fun _ => fin⟩⟩
        · rw [if_neg d1]
          exact ⟨fun _ => fin, fun q => absurd rfl q⟩
      · refine wq_X11_raise_0 RK ⟨fun _ => ⟨fun _ => ⟨t, ⟨rfl, by omega⟩, ?_⟩, fun q => absurd c2 q⟩, fun q => absurd (by rw [nJ hS]; exact c1) q⟩
        rw [uf_at hS (by omega) (by omega), uf_at hS (by omega) (by omega)]
        exact ⟨fun d1 => ⟨fun d2 => absurd ⟨d1, d2⟩ d, fun _ => rr_x hS (ix_8 h) K⟩, fun _ => rr_x hS (ix_8 h) K⟩
  · rw [show ap_raise I m n x1 x2 = ((-2 : Int32).toInt64, sp_ref I m) from if_neg c]
    refine ⟨ix_rx h, fun M ta tm Q hr K => ?_, fun S E B Q hS RK K => ?_⟩
    · have fin : (-1 ≤ (-2 : Int32) → cs_i mt_X10_rank [pv_r 5, pv_i x1] M (fun v5 M4 => Q v5.toInt64 M4)) ∧ (¬ -1 ≤ (-2 : Int32) → cs_i mt_X10_counted [pv_r 5, pv_i (-2)] M (fun v8 M7 => Q v8.toInt64 M7)) := ⟨fun q => absurd q (by decide), fun _ => cr_l hr (by decide) K⟩
      refine wc_X10_raise_0 (re_m5 hr) (wc_X10_raiseIfCan_0 (re_m5 hr) (ce_taskAt hr (fun t ht e => ?_) (fun _ => ⟨fun _ => fin, fun q => absurd rfl q⟩)))
      have g := re_ge hr ht
      refine ⟨fun q => absurd q (by omega), fun _ => ⟨fun _ => fin, fun q1 => ⟨fun q2 => absurd ⟨(i32_tk h4).mpr ⟨t, ht, e⟩, Int32.not_lt.mp q1, q2⟩ c, fun _ => fin⟩⟩⟩
    · refine wq_X11_raise_0 RK ⟨fun q1 => ⟨fun q2 => absurd ⟨by rw [nJ hS] at q1; exact q1, q2⟩ c, fun _ => rr_x hS (ix_8 h) K⟩, fun _ => rr_x hS (ix_8 h) K⟩
end Pub8
