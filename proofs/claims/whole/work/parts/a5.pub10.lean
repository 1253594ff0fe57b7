/-! every -/
section Pub10
variable {B M M' : mm_T} {I J E : Nat → Nat → Int32} {m n T W P L : Nat} {ta tm : Nat → Nat} {S : Nat → Nat → Bool}
def ev_ (x1 x2 x3 x4 x5 y : Int32) (f : Nat) : Int32 := if f = 0 then x1 else if f = 1 then x2 else if f = 2 then x3 else if f = 3 then x4 else if f = 4 then x5 else if f = 7 then y else 0
def sp_ev (I : fI) (m k : Nat) (x1 x2 x3 x4 x5 : Int32) : fI := i2_u (i2_u (i2_u (i2_u (i2_u (i2_u (i2_u (i2_u (i2_u I (m + 1) (85 + 8 * k + 0) x1) (m + 1) (85 + 8 * k + 1) x2) (m + 1) (85 + 8 * k + 2) x3) (m + 1) (85 + 8 * k + 3) x4) (m + 1) (85 + 8 * k + 4) x5) (m + 1) (85 + 8 * k + 5) 0) (m + 1) (85 + 8 * k + 6) 0) (m + 1) (85 + 8 * k + 7) (I (m + 1) 0 + x5)) (m + 1) 84 (I (m + 1) 84 + 1)
theorem ev_o {k a j : Nat} {x1 x2 x3 x4 x5 : Int32} (q : a ≠ m + 1 ∨ (j ≠ 84 ∧ (j < 85 + 8 * k ∨ 85 + 8 * k + 8 ≤ j))) : sp_ev I m k x1 x2 x3 x4 x5 a j = I a j := by
  unfold sp_ev
  rw [i2_at, if_neg (by omega), i2_at, if_neg (by omega), i2_at, if_neg (by omega), i2_at, if_neg (by omega), i2_at, if_neg (by omega), i2_at, if_neg (by omega), i2_at, if_neg (by omega), i2_at, if_neg (by omega), i2_at, if_neg (by omega)]
theorem ev_84 {k : Nat} {x1 x2 x3 x4 x5 : Int32} : sp_ev I m k x1 x2 x3 x4 x5 (m + 1) 84 = I (m + 1) 84 + 1 := i2_us
theorem ev_f {k f : Nat} {x1 x2 x3 x4 x5 : Int32} (hf : f < 8) : sp_ev I m k x1 x2 x3 x4 x5 (m + 1) (85 + 8 * k + f) = ev_ x1 x2 x3 x4 x5 (I (m + 1) 0 + x5) f := by
  unfold sp_ev
  have : f = 0 ∨ f = 1 ∨ f = 2 ∨ f = 3 ∨ f = 4 ∨ f = 5 ∨ f = 6 ∨ f = 7 := by omega
  rcases this with rfl | rfl | rfl | rfl | rfl | rfl | rfl | rfl <;> simp [i2_at, ev_] <;> omega
theorem re_ev (h : re_ M I m n ta tm) {k l : Nat} (hk : tmk_ I m k) (hk12 : k < 12) (hl : l < 5) {x2 x3 x4 x5 : Int32} (hM : M' = mm_pi (mm_pr (mm_pi (mm_pi (mm_pi (mm_pi (mm_pi (mm_pr (mm_w M 7 8) (mm_n M) 0 (12 + l)) (mm_n M) 1 x2) (mm_n M) 2 x3) (mm_n M) 3 x4) (mm_n M) 4 x5) (mm_n M) 7 (I (m + 1) 0 + x5)) 92 k (mm_n M)) 5 10 (nI (k + 1))) : ∃ tn, re_ M' (sp_ev I m k (nI l) x2 x3 x4 x5) m n ta tn := by
  obtain ⟨m1, k', m2, m3, m4, m5⟩ := h.2.2.2.2.2
  obtain ⟨hk1, hk2⟩ := hk
  have ek : k' = k := (nI_eq (by omega) (by omega)).mp (m3.symm.trans hk2)
  subst ek
  obtain ⟨k2, c1, c2, c3, c4, c5, c6, c7⟩ := h.2.1.2.2.2
  have ek : k2 = k' := (nI_eq (by omega) (by omega)).mp (c2.symm.trans hk2)
  subst ek
  have h4 := re_4 h
  have hge : ∀ t, t < n → 112 ≤ ta t := fun t q => (re_ge h q).1
  have hlt : ∀ t, t < n → ta t < mm_n M := fun t q => mm_k_lt (by rw [(re_ge h q).2]; decide)
  have tlt : ∀ c, c < k2 → tm c < mm_n M := fun c q => mm_k_lt (by rw [(c4 c q).2.2.1]; decide)
  have hn' : mm_n M' = mm_n M + 1 := by rw [hM]; rfl
  have hk' : ∀ a, mm_k M' a = mm_k (mm_w M 7 8) a := fun a => by rw [hM]; rfl
  have kd : kd_ M M' := fun a q => (hk' a).trans (kd_w a q)
  have kn : mm_k M' (mm_n M) = (7, 8) := (hk' _).trans mm_k_w
  have fi : ∀ a j, a ≠ mm_n M → ¬ (a = 5 ∧ j = 10) → mm_i M' a j = mm_i M a j := fun a j q1 q2 => by
    rw [hM, mi_pi, if_neg q2, mi_pr, mi_pia q1, mi_pia q1, mi_pia q1, mi_pia q1, mi_pia q1, mi_pr, mi_w q1]
  have fr : ∀ a j, a ≠ mm_n M → ¬ (a = 92 ∧ j = k2) → mm_r M' a j = mm_r M a j := fun a j q1 q2 => by
    rw [hM, mr_pi, mr_pr, if_neg q2, mr_pi, mr_pi, mr_pi, mr_pi, mr_pi, mr_pra q1, mr_w q1]
  have f5 : mm_i M' 5 10 = nI (k2 + 1) := by rw [hM, mi_pi, if_pos ⟨rfl, rfl⟩]
  have r92 : mm_r M' 92 k2 = mm_n M := by rw [hM, mr_pi, mr_pr, if_pos ⟨rfl, rfl⟩]
  have rn0 : mm_r M' (mm_n M) 0 = 12 + l := by rw [hM, mr_pi, mr_pra (by omega), mr_pi, mr_pi, mr_pi, mr_pi, mr_pi, mr_prs]
  have inf : ∀ f, 1 ≤ f → f < 8 → mm_i M' (mm_n M) f = ev_ (nI l) x2 x3 x4 x5 (I (m + 1) 0 + x5) f := fun f q1 q2 => by
    have n5 : ¬ mm_n M = 5 := by omega
    rw [hM, mi_pia n5, mi_pr]
    have : f = 1 ∨ f = 2 ∨ f = 3 ∨ f = 4 ∨ f = 5 ∨ f = 6 ∨ f = 7 := by omega
    rcases this with rfl | rfl | rfl | rfl | rfl | rfl | rfl <;> simp [mi_pi, mi_pr, mi_wn, ev_]
  have e84 : sp_ev I m k2 (nI l) x2 x3 x4 x5 (m + 1) 84 = nI (k2 + 1) := by rw [ev_84, hk2, nI_1]
  obtain ⟨tn, htn⟩ : ∃ tn : Nat → Nat, tn = fun c => if c = k2 then mm_n M else tm c := ⟨_, rfl⟩
  have tk : tn k2 = mm_n M := by rw [htn]; exact if_pos rfl
  have tc : ∀ c, c ≠ k2 → tn c = tm c := fun c q => by rw [htn]; exact if_neg q
  have h' : re_ M I m n ta tn := by
    refine ⟨h.1, ⟨h.2.1.1, h.2.1.2.1, h.2.1.2.2.1, k2, c1, c2, c3, fun c q => ?_, fun c d q1 q2 => ?_, ?_, fun i q => ?_⟩, h.2.2⟩
    · rw [tc c (by omega)]; exact c4 c q
    · rw [tc c (by omega), tc d (by omega)]; exact c5 c d q1 q2
    · rw [tc 1000 (by omega)]; exact c6
    · rw [tc _ (by omega)]; exact c7 i q
  refine ⟨tn, re_Nt h' kd (fun a j q1 q2 => fi a j (by omega) q2) (fun a j q1 q2 => fr a j (by omega) (by omega)) (fun a j q => ev_o (by omega)) ⟨k2 + 1, by omega, e84, f5, fun c q => ?_, fun c d q1 q2 e => ?_, ?_, fun i q => ?_⟩ ⟨by omega, k2 + 1, by omega, e84, ?_, ?_⟩⟩
  · by_cases z : c = k2
    · subst z
      rw [tk]
      refine ⟨r92, m1, kn, ⟨l, hl, ?_, rn0⟩, fun f q1 q2 => (inf f q1 q2).trans (ev_f q2).symm⟩
      unfold ra_C
      rw [ev_f (by decide)]
      rfl
    · rw [tc c z]
      obtain ⟨d1, d2, d3, ⟨l', d4, d5, d6⟩, d7⟩ := c4 c (by omega)
      have := tlt c (by omega)
      have eC : ∀ f, f < 8 → ra_C (sp_ev I m k2 (nI l) x2 x3 x4 x5) m c f = ra_C I m c f := fun f _ => ev_o (by omega)
      refine ⟨(fr _ _ (by omega) (by omega)).trans d1, d2, kd_at kd d3 (by omega), ⟨l', d4, (eC 0 (by decide)).trans d5, (fr _ _ (by omega) (by omega)).trans d6⟩, fun f q1 q2 => ?_⟩
      rw [eC f q2, fi _ _ (by omega) (by omega)]
      exact d7 f q1 q2
  · by_cases z : c = k2
    · by_cases y : d = k2
      · omega
      · rw [z, tk, tc d y] at e
        have := tlt d (by omega)
        omega
    · by_cases y : d = k2
      · rw [y, tk, tc c z] at e
        have := tlt c (by omega)
        omega
      · rw [tc c z, tc d y] at e
        exact c5 c d (by omega) (by omega) e
  · rw [tc 1000 (by omega), fi _ _ (by omega) (by omega)]; exact c6
  · rw [tc _ (by omega), fr _ _ (by omega) (by omega)]; exact c7 i q
  · have e : cn_ (fun t => decide (mm_r M' (ta t) 14 ≠ 0)) n = cn_ (fun t => decide (mm_r M (ta t) 14 ≠ 0)) n := cn_eq (fun t q => by rw [fr _ _ (by have := hlt t q; omega) (by have := hge t q; omega)])
    rw [e, hn']
    omega
  · have e : cn_ (fun t => decide (mm_r M' (ta t) 14 ≠ 0)) n = cn_ (fun t => decide (mm_r M (ta t) 14 ≠ 0)) n := cn_eq (fun t q => by rw [fr _ _ (by have := hlt t q; omega) (by have := hge t q; omega)])
    have et : mm_t M' (mm_n M') = mm_t M (mm_n M) + 8 := by
      rw [hn', mm_t_eq (fun a _ => hk' a), show mm_n M + 1 = mm_n (mm_w M 7 8) from rfl, mm_t_w (by omega)]
    rw [e, et]
    omega
def ap_every (I : fI) (m : Nat) (x1 x2 x3 x4 x5 : Int32) : Int32 × fI := if (0 ≤ x1 ∧ x1 ≤ 4) ∧ ((0 ≤ x2 ∧ x2 ≤ 9) ∧ (1 ≤ x3 ∧ x3 ≤ 20) ∧ (0 ≤ x4 ∧ x4 ≤ 9999)) ∧ (1 ≤ x5 ∧ x5 ≤ 99) then (if I (m + 1) 84 = 12 then (-6, sp_ref I m) else (I (m + 1) 84, sp_ev I m (I (m + 1) 84).toNatClampNeg x1 x2 x3 x4 x5)) else (-2, sp_ref I m)
theorem sm_every (h : ix_ I m n T W P L) {k : Nat} (hk : tmk_ I m k) {x1 x2 x3 x4 x5 : Int32} : sm_ I m n T W P L (ap_every I m x1 x2 x3 x4 x5) (fun M Q => cs_i mt_X10_every [pv_r 5, pv_i x1, pv_i x2, pv_i x3, pv_i x4, pv_i x5] M Q) (fun B J Q => rs_i mt_X11_every [pv_r m, pv_i x1, pv_i x2, pv_i x3, pv_i x4, pv_i x5] B J Q) := by
  have hk12 := hk.1
  have kJ : ∀ {S E}, uf_ S m → pt_ S E I (m + 1) 84 = nI k := fun hS => (uf_at hS (by omega) (by omega)).trans hk.2
  by_cases c : (0 ≤ x1 ∧ x1 ≤ 4) ∧ ((0 ≤ x2 ∧ x2 ≤ 9) ∧ (1 ≤ x3 ∧ x3 ≤ 20) ∧ (0 ≤ x4 ∧ x4 ≤ 9999)) ∧ (1 ≤ x5 ∧ x5 ≤ 99)
  · obtain ⟨c1, c2, c3⟩ := id c
    obtain ⟨l, hl, rfl⟩ := i32_in (N := 4) (by decide) c1
    have hl5 : l < 5 := by omega
    have v10 : ∀ {M : mm_T} {ta tm : Nat → Nat}, re_ M I m n ta tm → mm_i M 5 10 = nI k := fun hr => by
      obtain ⟨k2, d1, d2, d3, -⟩ := hr.2.1.2.2.2
      rw [d3, ← d2, hk.2]
    by_cases d : k = 12
    · subst d
      rw [show ap_every I m (nI l) x2 x3 x4 x5 = (-6, sp_ref I m) by unfold ap_every; rw [if_pos c, if_pos (show I (m + 1) 84 = 12 from hk.2)]]
      refine ⟨ix_rx h, fun M ta tm Q hr K => ?_, fun S E B Q hS RK K => ?_⟩
      · refine wc_X10_every_0 (re_m5 hr) ?_
        rw [(re_bk hr).1]
        refine ⟨(re_bk hr).2, cb_laneAt (br_S hr.1.2.1) (fun l' q e => ⟨fun q => absurd q (by omega), fun _ => cc_isWork ?_⟩) (fun q => absurd c1 q)⟩
        rw [if_pos c2, v10 hr]
        exact ⟨fun q => absurd q (by decide), fun _ => ⟨fun q => absurd c3.1 (Int32.not_le.mpr q), fun _ => ⟨fun _ => ⟨fun q => absurd q (by decide), fun _ => cr_x hr (by decide) K⟩, fun q => absurd c3.2 q⟩⟩⟩
      · exact wq_X11_every_0 RK ⟨fun _ => ⟨fun _ => ⟨fun _ => ⟨fun _ => ⟨fun _ => ⟨fun q => absurd (kJ hS) q, fun _ => rr_x hS (ix_8 h) K⟩, fun q => absurd c3 q⟩, fun q => absurd c2.2.2 q⟩, fun q => absurd c2.2.1 q⟩, fun q => absurd c2.1 q⟩, fun q => absurd c1 q⟩
    · have n12 : ¬ nI k = (12 : Int32) := fun z => d ((nI_eq (b := 12) (by omega) (by decide)).mp z)
      rw [show ap_every I m (nI l) x2 x3 x4 x5 = (nI k, sp_ev I m k (nI l) x2 x3 x4 x5) by unfold ap_every; rw [if_pos c, hk.2, if_neg n12, nI_clamp (by omega)]]
      have hx : ix_ (sp_ev I m k (nI l) x2 x3 x4 x5) m n T W P L := ix_o h (fun a j _ _ _ _ _ _ q => ev_o (by omega)) (by rw [ev_o (by omega)]; exact ix_log h) (ev_o (by omega))
      refine ⟨⟨n, ix_up hx (by omega) (by omega) (by omega) (by omega)⟩, fun M ta tm Q hr K => ?_, fun S E B Q hS RK K => ?_⟩
      · obtain ⟨m1, k', m2, m3, m4, m5⟩ := hr.2.2.2.2.2
        have ek : k' = k := (nI_eq (by omega) (by omega)).mp (m3.symm.trans hk.2)
        subst ek
        refine wc_X10_every_0 (re_m5 hr) ?_
        rw [(re_bk hr).1]
        refine ⟨(re_bk hr).2, cb_laneAt (br_S hr.1.2.1) (fun l' q e => ⟨fun q => absurd q (by omega), fun _ => cc_isWork ?_⟩) (fun q => absurd c1 q)⟩
        rw [if_pos c2, v10 hr, show l' = l from ((nI_eq (by omega) (by omega)).mp e).symm, show 6 + 6 + l = 12 + l from rfl, hr.1.1.1.2.2.2.2.2.2.2.1]
        refine ⟨fun q => absurd q (by decide), fun _ => ⟨fun q => absurd c3.1 (Int32.not_le.mpr q), fun _ => ⟨fun _ => ⟨fun _ => ⟨⟨by unfold nb_; omega, by unfold sb_; omega⟩, fun M22 e22 => ?_⟩, fun q => absurd (show nI k' < nI 12 from nI_lt (by omega) (by decide)) q⟩, fun q => absurd c3.2 q⟩⟩⟩
        have k22 : mm_k M22 (mm_n M) = (7, 8) := by rw [e22]; exact mm_k_w
        have i22 : mm_i M22 5 11 = I (m + 1) 0 := by rw [e22, mi_w (by omega)]; exact hr.2.2.2.2.1.1
        rw [i22]
        refine wc_X7_init_0 k22 (fun A1 g1 A2 g2 A3 g3 A4 g4 A5 g5 A6 g6 => ?_)
        have kA : ∀ a, mm_k A6 a = mm_k M22 a := fun a => by rw [g6, g5, g4, g3, g2, g1]; rfl
        have ak : ak_ A6 92 4 12 := kd_ak (M := M) (fun a q => by rw [kA, e22]; exact kd_w a q) hr.1.1.2.2.1.2.2
        refine ⟨12, ak, k', ⟨rfl, by omega⟩, fun M34 e34 M39 e39 => ?_⟩
        have i34 : mm_i M34 5 10 = nI k' := by
          rw [e34, mi_pr, g6, g5, g4, g3, g2, g1, mi_pia (by omega), mi_pia (by omega), mi_pia (by omega), mi_pia (by omega), mi_pia (by omega), mi_pr, e22, mi_w (by omega)]
          exact v10 hr
        rw [i34, nI_1] at e39
        obtain ⟨tn, h1⟩ := re_ev (M' := M39) (x2 := x2) (x3 := x3) (x4 := x4) (x5 := x5) hr hk (by omega) hl5 (by rw [e39, e34, g6, g5, g4, g3, g2, g1, e22])
        have v : mm_i M39 5 10 - 1 = nI k' := by
          rw [e39, mi_pi, if_pos ⟨rfl, rfl⟩, ← nI_1]
          exact Int32.add_sub_cancel _ _
        rw [v]
        exact K _ _ _ _ h1
      · refine wq_X11_every_0 RK ⟨fun _ => ⟨fun _ => ⟨fun _ => ⟨fun _ => ⟨fun _ => ⟨fun _ => ⟨k, ⟨kJ hS, by omega⟩, fun I2 e2 I3 e3 I4 e4 I5 e5 I6 e6 I7 e7 I8 e8 I9 e9 I10 e10 => ?_⟩, fun q => absurd ((kJ hS).symm.trans q) n12⟩, fun q => absurd c3 q⟩, fun q => absurd c2.2.2 q⟩, fun q => absurd c2.2.1 q⟩, fun q => absurd c2.1 q⟩, fun q => absurd c1 q⟩
        have o8 : I8 (m + 1) 0 = I (m + 1) 0 := by rw [e8, i2_uj (by omega), e7, i2_uj (by omega), e6, i2_uj (by omega), e5, i2_uj (by omega), e4, i2_uj (by omega), e3, i2_uj (by omega), e2, i2_uj (by omega), uf_at hS (by omega) (by omega)]
        have o9 : I9 (m + 1) 84 = I (m + 1) 84 := by rw [e9, i2_uj (by omega), e8, i2_uj (by omega), e7, i2_uj (by omega), e6, i2_uj (by omega), e5, i2_uj (by omega), e4, i2_uj (by omega), e3, i2_uj (by omega), e2, i2_uj (by omega), uf_at hS (by omega) (by omega)]
        rw [o9, e9, o8, e8, e7, e6, e5, e4, e3, e2, uf_u hS (by omega) (by omega), uf_u hS (by omega) (by omega), uf_u hS (by omega) (by omega), uf_u hS (by omega) (by omega), uf_u hS (by omega) (by omega), uf_u hS (by omega) (by omega), uf_u hS (by omega) (by omega), uf_u hS (by omega) (by omega), uf_u hS (by omega) (by omega)] at e10
        rw [kJ hS, e10]
        exact K
  · rw [show ap_every I m x1 x2 x3 x4 x5 = (-2, sp_ref I m) from if_neg c]
    refine ⟨ix_rx h, fun M ta tm Q hr K => ?_, fun S E B Q hS RK K => ?_⟩
    · refine wc_X10_every_0 (re_m5 hr) ?_
      rw [(re_bk hr).1]
      refine ⟨(re_bk hr).2, cb_laneAt (br_S hr.1.2.1) (fun l q e => ⟨fun q => absurd q (by omega), fun _ => cc_isWork ?_⟩) (fun q => ⟨fun _ => cr_x hr (by decide) K, fun q => absurd rfl q⟩)⟩
      by_cases c2 : (0 ≤ x2 ∧ x2 ≤ 9) ∧ (1 ≤ x3 ∧ x3 ≤ 20) ∧ (0 ≤ x4 ∧ x4 ≤ 9999)
      · rw [if_pos c2]
        exact ⟨fun q => absurd q (by decide), fun _ => ⟨fun _ => cr_x hr (by decide) K, fun q1 => ⟨fun q2 => absurd ⟨by rw [e]; exact in_4 q, c2, Int32.not_lt.mp q1, q2⟩ c, fun _ => cr_x hr (by decide) K⟩⟩⟩
      · rw [if_neg c2]
        exact ⟨fun _ => cr_x hr (by decide) K, fun q => absurd rfl q⟩
    · exact wq_X11_every_0 RK ⟨fun q1 => ⟨fun q2 => ⟨fun q3 => ⟨fun q4 => ⟨fun q5 => absurd ⟨q1, ⟨q2, q3, q4⟩, q5⟩ c, fun _ => rr_x hS (ix_8 h) K⟩, fun _ => rr_x hS (ix_8 h) K⟩, fun _ => rr_x hS (ix_8 h) K⟩, fun _ => rr_x hS (ix_8 h) K⟩, fun _ => rr_x hS (ix_8 h) K⟩
end Pub10
