/-! THE CLASS: one comes, or why not -/
section Com2
variable {M M' : mm_T} {I J : Nat → Nat → Int32} {m n : Nat} {ta tm : Nat → Nat}
theorem new_nz {x1 x2 x3 x4 x5 : Int32} (hn : n < 400) : nz_ (sp_new I m n x1 x2 x3 x4 x5) I I m n x1 x2 x3 x4 x5 1 := by
  obtain ⟨a0, a1, a2, a3, a4, a5, a6, a7, a8⟩ := sp_new_n (I := I) (m := m) (n := n) (x1 := x1) (x2 := x2) (x3 := x3) (x4 := x4) (x5 := x5)
  exact ⟨fun t f q1 q2 => sp_new_o (by omega), ⟨a0, a1, a2, a3, a4, a5, a6, a7, a8⟩, fun l f q1 q2 => sp_new_o (by omega), sp_new_1, fun j q1 q2 => sp_new_o (by omega), fun a j q => sp_new_o (Or.inl q)⟩
theorem nz_live {N : Nat → Nat → Int32} {x1 x2 x3 x4 x5 : Int32} (z : nz_ N I I m n x1 x2 x3 x4 x5 1) (x : Int32) : ra_live N m (n + 1) x = ra_live I m n x := by
  unfold ra_live
  rw [cn_f (p := ra_wt N m x) (by
    unfold ra_wt
    refine decide_eq_false (fun q => ?_)
    rw [z.2.1.2.2.2.2.2.2.1] at q
    exact absurd q.2 (by decide)), cn_eq (p := ra_wt N m x) (q := ra_wt I m x) (fun t q => by unfold ra_wt; rw [z.1 t 0 q (by decide), z.1 t 6 q (by decide)])]
theorem nz_up {N : Nat → Nat → Int32} {x1 x2 x3 x4 x5 : Int32} (z : nz_ N I I m n x1 x2 x3 x4 x5 1) {l : Nat} (hl : l < 5) : ra_up N m (n + 1) l = ra_up I m n l := by
  have e : ra_lane N m (n + 1) 0 = ra_lane I m n 0 := by
    unfold ra_lane
    refine bs_eq (fun l' q => ?_) (fun a c q1 q2 => ?_)
    · unfold ra_may
      rw [nz_live z]
      simp
    · unfold ra_ps
      rw [z.2.2.1 a 4 (by omega) (by decide), z.2.2.1 c 4 (by omega) (by decide)]
  unfold ra_up
  rw [e, z.2.2.1 l 4 hl (by decide)]
  cases hq : ra_lane I m n 0 with
  | none => rfl
  | some q => simp only [z.2.2.1 q 4 (ra_lane_5 hq) (by decide)]
theorem new_wt {x2 x3 x4 x5 : Int32} {l : Nat} (hl : l < 5) (hn : n < 400) : nz_ (sp_wt (sp_new I m n (nI l) x2 x3 x4 x5) m (n + 1) n) I (lft_ I m n l) m n (nI l) x2 x3 x4 x5 0 := by
  have z := new_nz (I := I) (m := m) (n := n) (x1 := nI l) (x2 := x2) (x3 := x3) (x4 := x4) (x5 := x5) hn
  obtain ⟨N, hN⟩ : ∃ N, N = sp_new I m n (nI l) x2 x3 x4 x5 := ⟨_, rfl⟩
  rw [← hN] at z ⊢
  obtain ⟨z1, ⟨a0, a1, a2, a3, a4, a5, a6, a7, a8⟩, z3, z4, z5, z6⟩ := id z
  have eW : sp_wt N m (n + 1) n = i2_u (if ra_live I m n (nI l) = true then N else i2_u N (m + 1) (10 + 10 * l + 4) (ra_up I m n l)) (m + 1) (200 + 14 * n + 6) 0 := by
    unfold sp_wt
    rw [a0, nI_clamp (by omega)]
    unfold ra_wait
    rw [nz_live z, nz_up z hl]
  have wo : ∀ a j, (a ≠ m + 1 ∨ (j ≠ 200 + 14 * n + 6 ∧ j ≠ 10 + 10 * l + 4)) → sp_wt N m (n + 1) n a j = N a j := fun a j q => by
    rw [eW, i2_at, if_neg (by omega)]
    split
    · rfl
    · rw [i2_at, if_neg (by omega)]
  have wn : ∀ f, f < 14 → f ≠ 6 → ra_T (sp_wt N m (n + 1) n) m n f = ra_T N m n f := fun f _ _ => wo _ _ (by omega)
  refine ⟨fun t f q1 q2 => (wo _ _ (by omega)).trans (z1 t f q1 q2), ⟨(wn 0 (by decide) (by decide)).trans a0, (wn 1 (by decide) (by decide)).trans a1, (wn 2 (by decide) (by decide)).trans a2, (wn 3 (by decide) (by decide)).trans a3, (wn 4 (by decide) (by decide)).trans a4, (wn 5 (by decide) (by decide)).trans a5, ?_, (wn 7 (by decide) (by decide)).trans a7, fun f q1 q2 => (wn f q2 (by omega)).trans (a8 f q1 q2)⟩, fun l' f q1 q2 => ?_, (wo _ _ (by omega)).trans z4, fun j q1 q2 => (wo _ _ (by omega)).trans (z5 j q1 q2), fun a j q => (wo _ _ (Or.inl q)).trans (z6 a j q)⟩
  · rw [eW]
    exact i2_us
  · by_cases e : f = 4
    · rw [e, lft_4]
      unfold ra_L
      rw [eW, i2_uj (by omega)]
      cases hv : ra_live I m n (nI l) with
      | true =>
        rw [if_pos rfl, if_neg (fun q => absurd q.2 (by decide))]
        exact z3 l' 4 q1 (by decide)
      | false =>
        rw [if_neg (by decide), i2_at]
        by_cases e2 : l' = l
        · rw [if_pos ⟨rfl, by omega⟩, if_pos ⟨e2, rfl⟩]
        · rw [if_neg (by omega), if_neg (fun q => e2 q.1)]
          exact z3 l' 4 q1 (by decide)
    · unfold ra_L
      rw [wo _ _ (by omega), lft_o (by omega)]
      exact z3 l' f q1 q2
theorem ce_new2 (h : re_ M I m n ta tm) (h8 : I m 8 = 0) {L : Nat} (hL : I m 6 = nI L) (hL2 : L < 2000000000) (hbl : bl_ I m n) (hW : ∀ w, w < 6 → ra_W I m w 0 = -1 ∨ ∃ t, t < n ∧ ra_W I m w 0 = nI t) (hn : n < 400) (hst : cn_ (ra_st I m (-1)) n < 48) (hcb : I (m + 4) n = 0) {l a3 : Nat} (hl : l < 5) (hop : ra_L I m l 3 = 0) {x2 x3 x4 x5 : Int32} (h3 : (x5 = -1 ∧ a3 = 0) ∨ ∃ q, q < n ∧ x5 = nI q ∧ a3 = ta q) {P : Int32 → mm_T → Prop} (K : ∀ M' ta', re_ M' (sp_com I m n (nI l) x2 x3 x4 x5) m (n + 1) ta' tm → P (nI n) M') :
    (mm_n M + 1 ≤ nb_ ∧ mm_t M (mm_n M) + 17 ≤ sb_) ∧ (∀ M18, M18 = mm_w M 6 17 → mm_k M18 (mm_r M18 5 2) = (4, 2) ∧ (cs_v mt_X6_init [pv_r (mm_n M), pv_i (mm_i M18 (mm_r M18 5 2) 1), pv_r (12 + l), pv_r a3] M18 (fun M23 => ∀ M28, M28 = mm_pi M23 (mm_n M) 3 x2 → ∀ M33, M33 = mm_pi M28 (mm_n M) 4 x3 → ∀ M38, M38 = mm_pi M33 (mm_n M) 5 x4 → ∀ M43, M43 = mm_pi M38 (mm_n M) 6 (mm_i M38 5 11) → mm_k M43 (mm_r M43 5 2) = (4, 2) ∧ (cs_v mt_X4_append [pv_r (mm_r M43 5 2), pv_r (mm_n M)] M43 (fun M49 => cs_v mt_X10_note [pv_r 5, pv_i 0, pv_r (mm_n M), pv_r 0, pv_i 0] M49 (fun M55 => mm_k M55 (mm_r M55 5 0) = (0, 4) ∧ (cs_v mt_X0_settle [pv_r (mm_r M55 5 0), pv_r (mm_n M)] M55 (fun M62 => P (mm_i M62 (mm_n M) 0) M62)))))))) := by
  obtain ⟨o1, o2, o3⟩ := re_rowO h
  obtain ⟨m1, k, m2, m3, m4, m5⟩ := h.2.2.2.2.2
  have hle := cn_le (fun t => decide (mm_r M (ta t) 14 ≠ 0)) n
  refine ⟨⟨by unfold nb_; omega, by unfold sb_; omega⟩, fun M18 h18 => ?_⟩
  have kw : kd_ M M18 := by rw [h18]; exact kd_w
  have lt5 : ∀ a, a < 112 → a ≠ mm_n M := fun a q => by omega
  have r18 : ∀ a j, a ≠ mm_n M → mm_r M18 a j = mm_r M a j := fun a j q => by rw [h18]; exact mr_w q
  have i18 : ∀ a j, a ≠ mm_n M → mm_i M18 a j = mm_i M a j := fun a j q => by rw [h18]; exact mi_w q
  have kr18 : mm_k M18 (mm_n M) = (6, 17) := by rw [h18]; exact mm_k_w
  rw [r18 5 2 (lt5 5 (by decide)), o1, i18 79 1 (lt5 79 (by decide)), o3]
  refine ⟨kd_at kw o2 (by omega), wc_X6_init_0 kr18 (fun A1 g1 A2 g2 A3 g3 A4 g4 A5 g5 A6 g6 M28 h28 M33 h33 M38 h38 M43 h43 => ?_)⟩
  have i38 : mm_i M38 5 11 = I (m + 1) 0 := by
    rw [h38, h33, h28, g6, g5, g4, g3, g2, g1, mi_pia (lt5 5 (by decide)), mi_pia (lt5 5 (by decide)), mi_pia (lt5 5 (by decide)), mi_pr, mi_pr, mi_pia (lt5 5 (by decide)), mi_pia (lt5 5 (by decide)), mi_pia (lt5 5 (by decide)), mi_pia (lt5 5 (by decide)), i18 _ _ (lt5 5 (by decide))]
    exact h.2.2.2.2.1.1
  rw [i38] at h43
  have k43 : ∀ a, mm_k M43 a = mm_k M18 a := fun a => by rw [h43, h38, h33, h28, g6, g5, g4, g3, g2, g1]; rfl
  have i43 : ∀ a j, a ≠ mm_n M → mm_i M43 a j = mm_i M a j := fun a j q => by
    rw [h43, h38, h33, h28, g6, g5, g4, g3, g2, g1, mi_pia q, mi_pia q, mi_pia q, mi_pia q, mi_pr, mi_pr, mi_pia q, mi_pia q, mi_pia q, mi_pia q, i18 _ _ q]
  have r43 : ∀ a j, a ≠ mm_n M → mm_r M43 a j = mm_r M a j := fun a j q => by
    rw [h43, h38, h33, h28, g6, g5, g4, g3, g2, g1, mr_pi, mr_pi, mr_pi, mr_pi, mr_pra q, mr_pra q, mr_pi, mr_pi, mr_pi, mr_pi, r18 _ _ q]
  have ir43 : ∀ j, mm_i M43 (mm_n M) j = if j = 6 then I (m + 1) 0 else if j = 5 then x4 else if j = 4 then x3 else if j = 3 then x2 else if j = 0 then nI n else if j = 16 then -1 else if j = 13 then -1 else if j = 7 then -1 else 0 := fun j => by
    rw [h43, h38, h33, h28, g6, g5, g4, g3, g2, g1, h18]
    simp only [mi_pi, mi_pr, true_and, mi_wn]
  have rr43 : ∀ j, mm_r M43 (mm_n M) j = if j = 1 then a3 else if j = 2 then 12 + l else 0 := fun j => by
    rw [h43, h38, h33, h28, g6, g5, g4, g3, g2, g1, h18]
    simp only [mr_pi, mr_pr, true_and, mr_wn]
  have kd43 : kd_ M M43 := fun a q => (k43 a).trans (kw a q)
  rw [r43 5 2 (lt5 5 (by decide)), o1]
  have hO : ro_ M43 79 80 400 ((List.range n).map ta) := ro_kd h.2.1.1 kd43 (r43 _ _ (lt5 _ (by decide))) (i43 _ _ (lt5 _ (by decide))) (fun i => r43 _ _ (lt5 _ (by decide)))
  refine ⟨kd_at kd43 o2 (by omega), cc_append hO (by simpa using hn) ((k43 _).trans kr18) (fun M49 hO49 f49 => ?_)⟩
  -- the log
  have kd49 : kd_ M M49 := fun a q => (f49.2.1 a).trans (kd43 a q)
  have i49 : ∀ a j, a ≠ mm_n M → (a ≠ 79 ∨ j ≠ 1) → mm_i M49 a j = mm_i M a j := fun a j q1 q2 => (f49.2.2.1 _ _ (by omega)).trans (i43 a j q1)
  have r49 : ∀ a j, a ≠ mm_n M → a ≠ 80 → mm_r M49 a j = mm_r M a j := fun a j q1 q2 => (f49.2.2.2.1 _ _ q2).trans (r43 a j q1)
  have ir49 : ∀ j, mm_i M49 (mm_n M) j = mm_i M43 (mm_n M) j := fun j => f49.2.2.1 _ _ (by omega)
  have rr49 : ∀ j, mm_r M49 (mm_n M) j = mm_r M43 (mm_n M) j := fun j => f49.2.2.2.1 _ _ (by omega)
  have z := new_nz (I := I) (m := m) (n := n) (x1 := nI l) (x2 := x2) (x3 := x3) (x4 := x4) (x5 := x5) hn
  obtain ⟨N, hN⟩ : ∃ N, N = sp_new I m n (nI l) x2 x3 x4 x5 := ⟨_, rfl⟩
  rw [← hN] at z
  obtain ⟨⟨s1, s2, s3, s4, s5, s6, s7, s8, s9, s10, s11⟩, -, -, -, ⟨d1, d2, d3, d4⟩, -⟩ := h.1.1
  have kl := br_ln h.1.2.1 hl
  refine wc_X10_note_0 (kd_at kd49 s1 (by omega)) ⟨fun c => absurd rfl c, fun _ => ?_⟩
  rw [r49 5 8 (lt5 5 (by decide)) (by decide), s10]
  refine ⟨kd_at kd49 d1 (by omega), cc_write (I := N) (L := L) (t := n) (bl := 12 + l) (kd_at kd49 d1 (by omega)) ((r49 _ _ (lt5 _ (by decide)) (by decide)).trans d2) (kd_ak kd49 d3) ⟨?_, fun j q => ?_⟩ ((z.2.2.2.2.2 _ _ (by omega)).trans h8) ((z.2.2.2.2.2 _ _ (by omega)).trans hL) hL2 ((f49.2.1 _).trans ((k43 _).trans kr18)) ?_ ?_ (kd_at kd49 kl.1 (by omega)) ?_ ?_ (fun M55 f55 hD55 => ?_)⟩
  · rw [z.2.2.2.2.2 _ _ (by omega)]
    exact dc_o h.2.2.2.1.1 (fun j => i49 _ _ (lt5 _ (by decide)) (Or.inl (by decide)))
  · rw [i49 _ _ (lt5 _ (by decide)) (by omega), z.2.2.2.2.2 _ _ (by omega)]
    exact h.2.2.2.1.2 j q
  · rw [ir49, ir43]; simp
  · rw [rr49, rr43]; simp
  · rw [i49 _ _ (lt5 _ (by omega)) (by omega), z.2.1.1]
    exact kl.2.2
  · rw [i49 _ _ (lt5 _ (by decide)) (by omega), z.2.2.2.2.1 _ (by omega) (by omega)]
    exact h.2.2.2.2.1.1
  · have kd55 : kd_ M M55 := fun a q => (f55.2.1 a).trans (kd49 a q)
    have i55 : ∀ a j, a ≠ mm_n M → a ≠ 97 → a ≠ 96 → (a ≠ 79 ∨ j ≠ 1) → mm_i M55 a j = mm_i M a j := fun a j q1 q2 q3 q4 => (f55.2.2.1 _ _ (by omega)).trans (i49 a j q1 q4)
    have r55 : ∀ a j, a ≠ mm_n M → a ≠ 80 → mm_r M55 a j = mm_r M a j := fun a j q1 q2 => (f55.2.2.2.1 _ _ (fun z => z)).trans (r49 a j q1 q2)
    have ir55 : ∀ j, mm_i M55 (mm_n M) j = mm_i M43 (mm_n M) j := fun j => (f55.2.2.1 _ _ (by omega)).trans (ir49 j)
    have rr55 : ∀ j, mm_r M55 (mm_n M) j = mm_r M43 (mm_n M) j := fun j => (f55.2.2.2.1 _ _ (fun z => z)).trans (rr49 j)
    have w5 : nw_ M M55 I m n ta l a3 x2 x3 x4 := by
      refine ⟨kd55, ?_, ?_, ?_, i55, r55, fun j => (ir55 j).trans (ir43 j), fun j => (rr55 j).trans (rr43 j), ?_⟩
      · rw [f55.1, f49.1, h43, h38, h33, h28, g6, g5, g4, g3, g2, g1, h18]
        rfl
      · rw [mm_t_eq (M := M18) (M' := M55) (fun a _ => (f55.2.1 a).trans ((f49.2.1 a).trans (k43 a))), h18]
        exact (mt_w (M := M) (tg := 6) (k := 17)).2 (by omega)
      · exact (f55.2.1 _).trans ((f49.2.1 _).trans ((k43 _).trans kr18))
      · exact ro_o hO49 f55.2.1 (f55.2.2.2.1 _ _ (fun z => z)) (f55.2.2.1 _ _ (by decide)) (fun i => f55.2.2.2.1 _ _ (fun z => z))
    have hB55 : br_ M55 6 ta I m n := by
      have hge : ∀ t, t < n → 112 ≤ ta t ∧ ta t ≠ mm_n M := fun t q => ⟨(re_ge h q).1, Nat.ne_of_lt (mm_k_lt (by rw [(re_ge h q).2]; decide))⟩
      exact br_o h.1.2.1 kd55 (fun a j q => r55 a j (lt5 a (by omega)) (by omega)) (fun l' j q1 q2 q3 => i55 _ _ (lt5 _ (by omega)) (by omega) (by omega) (by omega)) (fun j => i55 _ _ (lt5 _ (by omega)) (by omega) (by omega) (by omega)) (fun j q => i55 _ _ (lt5 _ (by omega)) (by omega) (by omega) (by omega)) (i55 _ _ (lt5 _ (by omega)) (by omega) (by omega) (by omega)) (fun t j q1 q2 => by have := hge t q1; exact i55 _ _ this.2 (by omega) (by omega) (by omega)) (fun t q1 => by have := hge t q1; exact r55 _ _ this.2 (by omega)) (fun _ _ => rfl) (fun _ _ _ _ => rfl) (fun _ _ _ _ => rfl)
    have e0 : mm_r M55 5 0 = 6 := (r55 _ _ (lt5 _ (by decide)) (by decide)).trans s2
    have k6 : mm_k M55 6 = (0, 4) := (br_S hB55).1
    have e1 : mm_r M55 (mm_n M) 1 = a3 := by rw [rr55, rr43]; simp
    have e2 : mm_r M55 (mm_n M) 2 = 12 + l := by rw [rr55, rr43]; simp
    rw [e0]
    refine ⟨k6, wc_X0_settle_0 k6 ⟨(f55.2.1 _).trans ((f49.2.1 _).trans ((k43 _).trans kr18)), ?_⟩⟩
    rw [e1, e2]
    -- those that are not held wait
    have goW : ra_held N m n = false → cs_v mt_X0_liftPass [pv_r 6, pv_r (12 + l)] M55 (fun M2 => cs_v mt_X0_change [pv_r 6, pv_r (mm_n M), pv_i 0] M2 (fun M5 => P (mm_i M5 (mm_n M) 0) M5)) := fun hh => by
      refine cb_liftPass hB55 hl (fun M6 hB6 f6 => ?_)
      have zw := new_wt (I := I) (m := m) (n := n) (x2 := x2) (x3 := x3) (x4 := x4) (x5 := x5) hl hn
      rw [← hN] at zw
      refine ce_new1 (s := 0) h h8 hbl hW hn hst hcb hl hop h3 rfl (Or.inl rfl) w5 hD55 z f6 hB6 (fun a j q => lft_o q) zw (fun M' ta' h' hi => ?_)
      rw [hi]
      refine K M' ta' ?_
      unfold sp_com
      rw [← hN, if_neg (by rw [hh]; decide)]
      exact h'
    have goH : ra_held N m n = true → cs_v mt_X0_change [pv_r 6, pv_r (mm_n M), pv_i 1] M55 (fun M5 => P (mm_i M5 (mm_n M) 0) M5) := fun hh => by
      refine ce_new1 (s := 1) h h8 hbl hW hn hst hcb hl hop h3 rfl (Or.inr rfl) w5 hD55 z fx_rf hB55 (fun a j q => rfl) z (fun M' ta' h' hi => ?_)
      rw [hi]
      refine K M' ta' ?_
      unfold sp_com
      rw [← hN, if_pos hh]
      exact h'
    rcases h3 with ⟨p1, p2⟩ | ⟨q, hq, p1, p2⟩
    · refine ⟨fun _ => goW (decide_eq_false (fun y => y.1 ?_)), fun c => absurd p2 c⟩
      rw [z.2.1.2.2.2.2.1, p1]
    · have gq := re_ge h hq
      have ltq : ta q ≠ mm_n M := Nat.ne_of_lt (mm_k_lt (by rw [gq.2]; decide))
      rw [p2]
      have e7 : mm_i M55 (ta q) 7 = ra_T I m q 6 := (i55 _ _ ltq (by omega) (by omega) (by omega)).trans (re_7 h hq)
      rw [e7]
      have b4 : ra_T N m n 4 = nI q := z.2.1.2.2.2.2.1.trans p1
      refine ⟨fun c => absurd c (by omega), fun _ => ⟨kd_at kd55 gq.2 (by omega), fun c => goW (decide_eq_false (fun y => y.2 ?_)), fun c => goH (decide_eq_true ⟨?_, ?_⟩)⟩⟩
      · rw [b4, nI_clamp (by omega), z.1 q 6 hq (by decide)]
        exact c
      · rw [b4]
        exact nI_nm (by omega)
      · rw [b4, nI_clamp (by omega), z.1 q 6 hq (by decide)]
        exact c
theorem why4_neg {l k : Nat} : sp_why4 I m n l k = 0 ∨ ¬ (-1 : Int32) ≤ sp_why4 I m n l k := by
  unfold sp_why4
  split
  · exact Or.inr (by decide)
  · split
    · exact Or.inr (by decide)
    · split
      · exact Or.inr (by decide)
      · split
        · exact Or.inl rfl
        · exact Or.inr (by decide)
/-- one comes, or why not -/
theorem ce_come (h : re_ M I m n ta tm) (h8 : I m 8 = 0) {L : Nat} (hL : I m 6 = nI L) (hL2 : L < 2000000000) (hbl : bl_ I m n) (hW : ∀ w, w < 6 → ra_W I m w 0 = -1 ∨ ∃ t, t < n ∧ ra_W I m w 0 = nI t) (hC : ivC I m n) (hcb : n < 400 → I (m + 4) n = 0) {rm : Nat} (hrm : I (m + 1) 8 = nI rm) (hrm2 : rm ≤ 48) {x1 x2 x3 x4 x5 : Int32} {P : Int32 → mm_T → Prop} (K0 : ¬ sp_why I m n x1 x2 x3 x4 x5 = 0 → P (sp_why I m n x1 x2 x3 x4 x5) M) (K1 : sp_why I m n x1 x2 x3 x4 x5 = 0 → ∀ M' ta', re_ M' (sp_com I m n x1 x2 x3 x4 x5) m (n + 1) ta' tm → P (nI n) M') : cs_i mt_X10_comeIfCan [pv_r 5, pv_i x1, pv_i x2, pv_i x3, pv_i x4, pv_i x5] M P := by
  have h4 := re_4 h
  obtain ⟨b1, b2⟩ := re_bk h
  have no2 : ¬ ((0 ≤ x1 ∧ x1 ≤ 4) ∧ (0 ≤ x2 ∧ x2 ≤ 9) ∧ (1 ≤ x3 ∧ x3 ≤ 20) ∧ (0 ≤ x4 ∧ x4 ≤ 9999)) → P (-2) M := fun q => by
    have e : sp_why I m n x1 x2 x3 x4 x5 = -2 := by unfold sp_why; rw [if_pos q]
    rw [e] at K0
    exact K0 (by decide)
  refine wc_X10_comeIfCan_0 (re_m5 h) ?_
  rw [b1]
  refine ⟨b2, cb_laneAt (br_S h.1.2.1) (fun l hl hx1 => ⟨fun c => absurd c (by omega), fun _ => cc_isWork ?_⟩) (fun q => ⟨fun _ => no2 (fun z => q z.1), fun c => absurd rfl c⟩)⟩
  by_cases hw : (0 ≤ x2 ∧ x2 ≤ 9) ∧ (1 ≤ x3 ∧ x3 ≤ 20) ∧ (0 ≤ x4 ∧ x4 ≤ 9999)
  · rw [if_pos hw]
    refine ⟨fun _ => ?_, fun c => absurd c (by decide)⟩
    obtain ⟨k, hk, hx4⟩ := i32_in (N := 9999) (by decide) hw.2.2
    have r1 : 0 ≤ x1 ∧ x1 ≤ 4 := by rw [hx1]; exact ⟨nI_pos' (by omega), show nI l ≤ nI 4 from nI_le (by omega) (by decide)⟩
    have cl : x1.toNatClampNeg = l := by rw [hx1]; exact nI_clamp (by omega)
    have ck : x4.toNatClampNeg = k := by rw [hx4]; exact nI_clamp (by omega)
    have eo : opn_ I m n l = ra_L I m l 3 := cls_id hC l hl
    -- the choice behind the check of the one behind
    have go : ∀ (a3 : Nat) (bad : Prop) (_ : Decidable bad), ((a3 = 0 ∧ ¬ bad) ∨ ∃ q, q < n ∧ a3 = ta q ∧ (bad ↔ ra_T I m q 6 = 5)) → ((x5 = -1 ∧ a3 = 0) ∨ ∃ q, q < n ∧ x5 = nI q ∧ a3 = ta q) → sp_why I m n x1 x2 x3 x4 x5 = (if ¬ ra_L I m l 3 = 0 ∨ bad then -3 else sp_why4 I m n l k) → cs_i mt_X10_whyNotCome [pv_r 5, pv_r (12 + l), pv_i x4, pv_r a3] M (fun v15 M14 => ((((-1 : Int32) ≤ v15) → (mm_n M14 + 1 ≤ nb_ ∧ mm_t M14 (mm_n M14) + 17 ≤ sb_) ∧ (∀ M18, M18 = mm_w M14 6 17 → mm_k M18 (mm_r M18 5 2) = (4, 2) ∧ (cs_v mt_X6_init [pv_r (mm_n M14), pv_i (mm_i M18 (mm_r M18 5 2) 1), pv_r (12 + l), pv_r a3] M18 (fun M23 => ∀ M28, M28 = mm_pi M23 (mm_n M14) 3 x2 → ∀ M33, M33 = mm_pi M28 (mm_n M14) 4 x3 → ∀ M38, M38 = mm_pi M33 (mm_n M14) 5 x4 → ∀ M43, M43 = mm_pi M38 (mm_n M14) 6 (mm_i M38 5 11) → mm_k M43 (mm_r M43 5 2) = (4, 2) ∧ (cs_v mt_X4_append [pv_r (mm_r M43 5 2), pv_r (mm_n M14)] M43 (fun M49 => cs_v mt_X10_note [pv_r 5, pv_i 0, pv_r (mm_n M14), pv_r 0, pv_i 0] M49 (fun M55 => mm_k M55 (mm_r M55 5 0) = (0, 4) ∧ (cs_v mt_X0_settle [pv_r (mm_r M55 5 0), pv_r (mm_n M14)] M55 (fun M62 => P (mm_i M62 (mm_n M14) 0) M62))))))))) ∧ ((¬ (-1 : Int32) ≤ v15) → P v15 M14))) := by
      intro a3 bad _ g1 g2 g3
      rw [hx4]
      refine ce_why h hl (by omega) g1 ?_
      rw [eo, ← g3]
      by_cases z : sp_why I m n x1 x2 x3 x4 x5 = 0
      · rw [z]
        refine ⟨fun _ => ?_, fun c => absurd (by decide) c⟩
        obtain ⟨l', p, s, k', q1, q2, -, -, -, -, -, -, -, -, q3, q4, q5, -, -⟩ := why_0 h4 z
        have : l' = l := (nI_eq (by omega) (by omega)).mp (q2.symm.trans hx1)
        subst this
        have K1 := K1 z
        have hcn := cn_le (ra_st I m (-1)) n
        rw [hrm, nI_ltI (by omega) (by omega)] at q5
        rw [hx1] at K1
        rw [← hx4]
        exact ce_new2 h h8 hL hL2 hbl hW q4 (by omega) (hcb q4) hl q3 g2 K1
      · have z' := z
        rw [g3] at z'
        have hneg : ¬ (-1 : Int32) ≤ sp_why I m n x1 x2 x3 x4 x5 := by
          rw [g3]
          by_cases y : ¬ ra_L I m l 3 = 0 ∨ bad
          · rw [if_pos y]
            decide
          · rw [if_neg y] at z' ⊢
            exact (why4_neg (I := I) (m := m) (n := n) (l := l) (k := k)).resolve_left z'
        exact ⟨fun c => absurd c hneg, fun _ => K0 z⟩
    have base : ∀ (c5 : ¬ (¬ x5 = -1 ∧ (¬ (0 ≤ x5 ∧ x5 ≤ nI n - 1) ∨ ra_T I m x5.toNatClampNeg 6 = 6))), sp_why I m n x1 x2 x3 x4 x5 = if ¬ ra_L I m l 3 = 0 ∨ (¬ x5 = -1 ∧ ra_T I m x5.toNatClampNeg 6 = 5) then -3 else sp_why4 I m n l k := fun c5 => by
      unfold sp_why
      rw [if_neg (fun q => q ⟨r1, hw⟩), if_neg c5, cl, ck]
    refine ce_taskAt h (fun t ht hx5 => ?_) (fun q => ?_)
    · have ct : x5.toNatClampNeg = t := by rw [hx5]; exact nI_clamp (by omega)
      have n5 : ¬ x5 = -1 := by rw [hx5]; exact nI_nm (by omega)
      have r5 : 0 ≤ x5 ∧ x5 ≤ nI n - 1 := (i32_tk h4).mpr ⟨t, ht, hx5⟩
      have gt := re_ge h ht
      refine ⟨fun c => absurd c n5, fun _ => ⟨fun c => absurd c (by omega), fun _ => ⟨gt.2, ?_⟩⟩⟩
      rw [re_7 h ht]
      refine ⟨fun c => ?_, fun c => ?_⟩
      · have b := base (fun y => y.2.elim (fun y => y r5) (fun y => c (by rw [ct] at y; exact y)))
        rw [ct] at b
        refine go (ta t) (¬ x5 = -1 ∧ ra_T I m t 6 = 5) inferInstance (Or.inr ⟨t, ht, rfl, ?_⟩) (Or.inr ⟨t, ht, hx5, rfl⟩) b
        exact ⟨fun y => y.2, fun y => ⟨n5, y⟩⟩
      · have e : sp_why I m n x1 x2 x3 x4 x5 = -2 := by
          unfold sp_why
          rw [if_neg (fun q => q ⟨r1, hw⟩), if_pos ⟨n5, Or.inr (by rw [ct]; exact c)⟩]
        rw [e] at K0
        exact K0 (by decide)
    · refine ⟨fun c => ?_, fun c => ⟨fun _ => ?_, fun c2 => absurd rfl c2⟩⟩
      · have b := base (fun y => y.1 c)
        refine go 0 (¬ x5 = -1 ∧ ra_T I m x5.toNatClampNeg 6 = 5) inferInstance (Or.inl ⟨rfl, fun y => y.1 c⟩) (Or.inl ⟨c, rfl⟩) b
      · have e : sp_why I m n x1 x2 x3 x4 x5 = -2 := by
          unfold sp_why
          rw [if_neg (fun q => q ⟨r1, hw⟩), if_pos ⟨c, Or.inl q⟩]
        rw [e] at K0
        exact K0 (by decide)
  · rw [if_neg hw]
    exact ⟨fun c => absurd rfl c, fun _ => no2 (fun z => hw z.2)⟩
end Com2
