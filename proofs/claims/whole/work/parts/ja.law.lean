/-! the law from its entry -/
section LEnter
variable {M0 : mm_T} {N : Nat} {nm : String} {Q : Option pv_T → mm_T → Prop}
theorem law_S (hn : mm_n M0 = 5) (hN : N ≤ 3072) (k1 : mm_k M0 1 = (15, N)) (k2 : mm_k M0 2 = (15, 6)) (f2 : ∀ k, k < 6 → mm_i M0 2 k = inb_ (4 + k)) (h3 : mm_k M0 3 = (15, 6) ∧ ∀ k, k < 6 → mm_i M0 3 k = nI ((fun k => if k < 2 then 99 else if k = 2 then 20 else if k = 4 then 48 else 9) k)) (h4 : mm_k M0 4 = (15, 3) ∧ ∀ k, k < 3 → mm_i M0 4 k = nI ((fun k => if k = 0 then 9 else if k = 1 then 32 else 6) k)) (hQ : ∀ M, Q (some (pv_i 1)) M) : go_S (mt_Ln nm) fr_A [pv_r 1] M0 Q := by
  have rm : ∀ {N : mm_T} (n : Nat), mm_n N ≤ 1000 → tt_ N ≤ 100000 → n ≤ 1000 → mm_n N + 1 ≤ nb_ ∧ mm_t N (mm_n N) + n ≤ sb_ := fun {N} n q1 q2 q3 => ⟨by unfold nb_; omega, by have : tt_ N = mm_t N (mm_n N) := rfl; unfold sb_; omega⟩
  have t0 : tt_ M0 = 0 := by
    unfold tt_
    rw [hn]
    rfl
  show go_W (mt_Ln nm) fr_A 0 [some (pv_r 1), none, none, none] [] M0 Q
  refine go_new (ci := 10) (N := 14) (by decide) rfl kl_L_7 nw_X10 ni_X10 (rm 14 (by omega) (by omega) (by decide)).1 (rm 14 (by omega) (by omega) (by decide)).2 dL_law_0 ?_
  refine go_dup pv_1r dL_law_3 ?_
  rw [hn]
  obtain ⟨M1, e1⟩ : ∃ M', M' = mm_w M0 10 14 := ⟨_, rfl⟩
  rw [← e1]
  have n1 : mm_n M1 = 6 := by rw [e1, nn_w, hn]
  have t1 : tt_ M1 = 14 := by rw [e1, tt_w (by omega), t0]
  have g1 : gr_ M0 M1 5 := by rw [e1]; exact gr_w gr_rf
  have k5 : mm_k M1 5 = (10, 14) := by rw [e1, ← hn]; exact mm_k_w
  have z5 : ∀ j, mm_i M1 5 j = 0 := fun j => by rw [e1, ← hn]; exact mi_wn
  refine go_InK (av := []) (st := [pv_r 5]) (Q' := qv_ (fun M' => gr_ M1 M' 5 ∧ mm_n M' = 99 ∧ tt_ M' ≤ 10000 ∧ cS_ M' (mm_i M1 2))) (by decide) k5 ok_X10_init ⟨Nat.le_of_ble_eq_true rfl, Nat.le_of_ble_eq_true rfl⟩ ml_L_9 rfl (by decide) (fun v hv => absurd hv List.not_mem_nil) (Nat.le_of_ble_eq_true rfl) (fr' := fr_C) (fun _ _ => rfl) dL_law_4 (cs_store k5 n1 z5 (by omega) (gr_k g1 k2 (by decide)) (fun M' q1 q2 q3 q4 => ⟨q1, q2, q3, q4⟩)) (fun r M4 hq hS => ?_)
  obtain ⟨rfl, g4, n4, t4, c4⟩ := hq
  show go_W (mt_Ln nm) fr_A 7 [some (pv_r 1), none, none, none] [pv_r 5] M4 Q
  refine go_astore_n (Nat.le_of_ble_eq_true rfl) dL_law_7 ?_
  show go_W (mt_Ln nm) fr_A 8 [some (pv_r 1), some (pv_r 5), none, none] [] M4 Q
  refine go_new (ci := 11) (N := 22) (by decide) rfl kl_L_10 nw_X11 ni_X11 (rm 22 (by omega) (by omega) (by decide)).1 (rm 22 (by omega) (by omega) (by decide)).2 dL_law_8 ?_
  refine go_dup pv_1r dL_law_11 ?_
  rw [n4]
  obtain ⟨M5, e5⟩ : ∃ M', M' = mm_w M4 11 22 := ⟨_, rfl⟩
  rw [← e5]
  have n5 : mm_n M5 = 100 := by rw [e5, nn_w, n4]
  have t5 : tt_ M5 ≤ 10022 := by rw [e5, tt_w (by omega)]; omega
  have k9 : mm_k M5 99 = (11, 22) := by rw [e5, ← n4]; exact mm_k_w
  have z9 : ∀ j, mm_i M5 99 j = 0 := fun j => by rw [e5, ← n4]; exact mi_wn
  have g5 : gr_ M4 M5 200 := by rw [e5]; exact gr_w gr_rf
  have t5' : mm_t M5 100 ≤ 10022 := by
    have : tt_ M5 = mm_t M5 (mm_n M5) := rfl
    rw [n5] at this
    omega
  have fin : go_S mt_X11_init fr_R [pv_r 99] M5 (qv_ (fun M' => lh_ M' N 0)) := by
    refine go_init11 k9 n5 (by decide) (by decide) (by show mm_t M5 100 + 40000 ≤ _; unfold sb_; omega) z9 (fun B I nB rk same l14 tB ix xi i3 i7 i1 i6 i96 => ?_)
    have G : gr_ M4 (mm_si B I) 200 := ⟨by show mm_n M4 ≤ mm_n B; omega, fun b hb => by
      have q := same b (by omega)
      have q5 := g5.2 b hb
      have q6 := q5.2 (by omega)
      exact ⟨q.1.trans q5.1, fun _ => ⟨fun j => (q.2.1 j).trans (q6.1 j), fun j => (q.2.2.1 j).trans (q6.2.1 j), fun j => (q.2.2.2 j).trans (q6.2.2 j)⟩⟩⟩
    have G0 : gr_ M1 (mm_si B I) 5 := gr_cl g4 G (Or.inr (by omega))
    have GG : gr_ M0 (mm_si B I) 5 := gr_tr g1 G0
    have tB' : tt_ (mm_si B I) ≤ 60000 := by
      have e : tt_ (mm_si B I) = mm_t B (mm_n B) := mm_t_eq (fun _ _ => rfl)
      rw [e, tB]
      show mm_t M5 100 + 32796 ≤ 60000
      omega
    obtain ⟨tm, hre⟩ := re_00 (I := I) (cS_gr c4 G (by decide) (by omega)) (fun k q => (gr_i g1 (by omega) (by decide) k).trans (f2 k q)) (by show 99 ≤ mm_n B; omega) nB tB' ⟨gr_k GG h3.1 (by decide), fun k q => (gr_i GG (by omega) (by decide) k).trans (h3.2 k q)⟩ ⟨gr_k GG h4.1 (by decide), fun k q => (gr_i GG (by omega) (by decide) k).trans (h4.2 k q)⟩ i1 i3 i6 i96 i7
    exact ⟨⟨gr_k GG k1 (Or.inl (by decide)), rf_fr rk (fun _ _ _ => rfl) (fun _ => rfl)⟩, 0, _, tm, hre, ix, xi⟩
  refine go_InK (av := []) (st := [pv_r 99]) (by decide) k9 ok_X11_init ⟨Nat.le_of_ble_eq_true rfl, Nat.le_of_ble_eq_true rfl⟩ ml_L_12 rfl (by decide) (fun v hv => absurd hv List.not_mem_nil) (Nat.le_of_ble_eq_true rfl) (fun _ _ => rfl) dL_law_12 fin (fun r M6 hq hS6 => ?_)
  obtain ⟨rfl, hl⟩ := hq
  show go_W (mt_Ln nm) fr_A 15 [some (pv_r 1), some (pv_r 5), none, none] [pv_r 99] M6 Q
  refine go_astore_n (Nat.le_of_ble_eq_true rfl) dL_law_15 ?_
  refine go_iconst (v := nI 0) rfl dL_law_16 ?_
  refine go_istore_n (Nat.le_of_ble_eq_true rfl) dL_law_17 ?_
  show go_W (mt_Ln nm) fr_A 18 (l4_ (6 * 0)) [] M6 Q
  exact lw_loop hN hQ 600 0 M6 (by omega) (by decide) hl
end LEnter
