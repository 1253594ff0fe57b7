/-! the walk of the board's constructor, by program (wip/whole/walk3x.py) -/
set_option maxRecDepth 20000 in
theorem wc_X0_init_0 {M : mm_T} {a0 : Nat} {P : mm_T → Prop} (K0 : mm_k M a0 = (0, 4)) (H : (mm_n M + 1 ≤ nb_ ∧ mm_t M (mm_n M) + 5 ≤ sb_) ∧ (∀ M1, M1 = mm_w M 60 5 → ∀ M4, M4 = mm_pr M1 a0 0 (mm_n M) → (mm_n M4 + 1 ≤ nb_ ∧ mm_t M4 (mm_n M4) + 2 ≤ sb_) ∧ (∀ M7, M7 = mm_w M4 4 2 → cs_v mt_X4_init [pv_r (mm_n M4), pv_i (48 : Int32)] M7 (fun M11 => ∀ M15, M15 = mm_pr M11 a0 1 (mm_n M4) → (mm_n M15 + 1 ≤ nb_ ∧ mm_t M15 (mm_n M15) + 7 ≤ sb_) ∧ (∀ M19, M19 = mm_w M15 20 7 → ∀ M24, M24 = mm_pr M19 a0 2 (mm_n M15) → mm_k M24 2 = (15, 6) ∧ ((mm_n M24 + 1 ≤ nb_ ∧ mm_t M24 (mm_n M24) + 6 ≤ sb_) ∧ (∀ M30, M30 = mm_ws (mm_w M24 20 6) (mm_n M24) (mm_i M24 2) → ∀ M36, M36 = mm_pr M30 a0 3 (mm_n M24) → cw_v mt_X0_init 48 [some (pv_r a0), some (pv_i (0 : Int32))] [] M36 P))))))) : cw_v mt_X0_init 0 [some (pv_r a0), none] [] M P := by
  refine go_aload_n dX0_init_0 rfl ?_
  refine go_objInitK (by decide) K0 (Nat.le_of_ble_eq_true rfl) ⟨by decide, by decide⟩ ml_X0_3 im_J_Object_init cd_J_Object_init dX0_init_1 ?_
  refine go_aload_n dX0_init_4 rfl ?_
  refine go_iconst (v := (5 : Int32)) rfl dX0_init_5 ?_
  obtain ⟨hr, H⟩ := H
  refine go_anewA 60 2 ⟨by decide, by decide⟩ (by decide) (by decide) rfl (by decide) kl_X0_9 hr.1 hr.2 dX0_init_6 ?_
  show go_W mt_X0_init fr_C 9 [some (pv_r a0), none] [pv_r (mm_n M), pv_r a0] (mm_w M 60 5) (qv_ P)
  obtain ⟨M1, hM1⟩ : ∃ M', M' = mm_w M 60 5 := ⟨_, rfl⟩
  have k2 : mm_k M1 a0 = (0, 4) := (by rw [hM1]; exact ks_S K0 (by decide) (mm_S_w (fr := fr_C)))
  have k3 : ak_ M1 (mm_n M) 2 5 := by rw [hM1]; exact ⟨_, mm_k_w, by decide, by decide, by omega, rfl⟩
  rw [← hM1]
  replace H := H M1 hM1
  refine go_putR (k := 0) ⟨by decide, rfl, by decide, Or.inr ⟨_, rfl⟩⟩ k2 rfl (Or.inr ⟨rfl, rfl⟩) fl_X0_11 dX0_init_9 ?_
  show go_W mt_X0_init fr_C 12 [some (pv_r a0), none] [] (mm_pr M1 a0 0 (mm_n M)) (qv_ P)
  obtain ⟨M4, hM4⟩ : ∃ M', M' = mm_pr M1 a0 0 (mm_n M) := ⟨_, rfl⟩
  have k5 : mm_k M4 a0 = (0, 4) := (by rw [hM4]; exact k2)
  have k6 : ak_ M4 (mm_n M) 2 5 := (by rw [hM4]; exact k3)
  rw [← hM4]
  replace H := H M4 hM4
  refine go_aload_n dX0_init_12 rfl ?_
  obtain ⟨hr, H⟩ := H
  refine go_new (ci := 4) (N := 2) (by decide) rfl kl_X0_17 nw_X4 ni_X4 hr.1 hr.2 dX0_init_13 ?_
  show go_W mt_X0_init fr_C 16 [some (pv_r a0), none] [pv_r (mm_n M4), pv_r a0] (mm_w M4 4 2) (qv_ P)
  obtain ⟨M7, hM7⟩ : ∃ M', M' = mm_w M4 4 2 := ⟨_, rfl⟩
  have k8 : mm_k M7 a0 = (0, 4) := (by rw [hM7]; exact ks_S k5 (by decide) (mm_S_w (fr := fr_C)))
  have k9 : ak_ M7 (mm_n M) 2 5 := (by rw [hM7]; exact ak_S k6 (mm_S_w (fr := fr_C)))
  have k10 : mm_k M7 (mm_n M4) = (4, 2) := by rw [hM7]; exact mm_k_w
  rw [← hM7]
  replace H := H M7 hM7
  refine go_dup pv_1r dX0_init_16 ?_
  refine go_bipush (v := (48 : Int32)) rfl dX0_init_17 ?_
  refine go_InK (av := [pv_i (48 : Int32)]) (st := [pv_r (mm_n M4), pv_r a0]) (by decide) k10 ok_X4_init ⟨by decide, by decide⟩ ml_X0_19 rfl (by decide) (fun v hv => by simp only [List.mem_cons, List.not_mem_nil, or_false] at hv; rcases hv with rfl <;> first | exact pv_1i | exact pv_1r) (Nat.le_of_ble_eq_true rfl) (fun _ h => h) dX0_init_19 H (fun r M11 hq hS => ?_)
  obtain ⟨rfl, H⟩ := hq
  have k12 : mm_k M11 a0 = (0, 4) := ks_S k8 (by decide) hS
  have k13 : mm_k M11 (mm_n M4) = (4, 2) := ks_S k10 (by decide) hS
  have k14 : ak_ M11 (mm_n M) 2 5 := ak_S k9 hS
  show go_W mt_X0_init fr_C 22 [some (pv_r a0), none] [pv_r (mm_n M4), pv_r a0] M11 (qv_ P)
  refine go_putR (k := 1) ⟨by decide, rfl, by decide, Or.inl ⟨_, rfl⟩⟩ k12 rfl (Or.inr ⟨rfl, rfl⟩) fl_X0_22 dX0_init_22 ?_
  show go_W mt_X0_init fr_C 25 [some (pv_r a0), none] [] (mm_pr M11 a0 1 (mm_n M4)) (qv_ P)
  obtain ⟨M15, hM15⟩ : ∃ M', M' = mm_pr M11 a0 1 (mm_n M4) := ⟨_, rfl⟩
  have k16 : mm_k M15 a0 = (0, 4) := (by rw [hM15]; exact k12)
  have k17 : mm_k M15 (mm_n M4) = (4, 2) := (by rw [hM15]; exact k13)
  have k18 : ak_ M15 (mm_n M) 2 5 := (by rw [hM15]; exact k14)
  rw [← hM15]
  replace H := H M15 hM15
  refine go_aload_n dX0_init_25 rfl ?_
  refine go_bipush (v := (7 : Int32)) rfl dX0_init_26 ?_
  obtain ⟨hr, H⟩ := H
  refine go_newIA 20 ⟨by decide, by decide⟩ rfl (by decide) ac_int hr.1 hr.2 dX0_init_28 ?_
  show go_W mt_X0_init fr_C 30 [some (pv_r a0), none] [pv_r (mm_n M15), pv_r a0] (mm_w M15 20 7) (qv_ P)
  obtain ⟨M19, hM19⟩ : ∃ M', M' = mm_w M15 20 7 := ⟨_, rfl⟩
  have k20 : mm_k M19 a0 = (0, 4) := (by rw [hM19]; exact ks_S k16 (by decide) (mm_S_w (fr := fr_C)))
  have k21 : mm_k M19 (mm_n M4) = (4, 2) := (by rw [hM19]; exact ks_S k17 (by decide) (mm_S_w (fr := fr_C)))
  have k22 : ak_ M19 (mm_n M) 2 5 := (by rw [hM19]; exact ak_S k18 (mm_S_w (fr := fr_C)))
  have k23 : ak_ M19 (mm_n M15) 0 7 := by rw [hM19]; exact ⟨_, mm_k_w, by decide, by decide, by omega, rfl⟩
  rw [← hM19]
  replace H := H M19 hM19
  refine go_putR (k := 2) ⟨by decide, rfl, by decide, Or.inr ⟨_, rfl⟩⟩ k20 rfl (Or.inr ⟨rfl, rfl⟩) fl_X0_26 dX0_init_30 ?_
  show go_W mt_X0_init fr_C 33 [some (pv_r a0), none] [] (mm_pr M19 a0 2 (mm_n M15)) (qv_ P)
  obtain ⟨M24, hM24⟩ : ∃ M', M' = mm_pr M19 a0 2 (mm_n M15) := ⟨_, rfl⟩
  have k25 : mm_k M24 a0 = (0, 4) := (by rw [hM24]; exact k20)
  have k26 : mm_k M24 (mm_n M4) = (4, 2) := (by rw [hM24]; exact k21)
  have k27 : ak_ M24 (mm_n M) 2 5 := (by rw [hM24]; exact k22)
  have k28 : ak_ M24 (mm_n M15) 0 7 := (by rw [hM24]; exact k23)
  rw [← hM24]
  replace H := H M24 hM24
  refine go_aload_n dX0_init_33 rfl ?_
  refine go_gets_FIRST rfl dX0_init_34 ?_
  obtain ⟨k29, H⟩ := H
  obtain ⟨hr, H⟩ := H
  refine go_clone 20 ⟨by decide, by decide⟩ k29 (by decide) (Nat.le_of_ble_eq_true rfl) ⟨by decide, by decide⟩ ml_X0_33 sa_clone nv_J_Object_clone im_J_Object_clone se_clone hr.1 hr.2 dX0_init_37 ?_
  show go_W mt_X0_init fr_C 40 [some (pv_r a0), none] [pv_r (mm_n M24), pv_r a0] (mm_ws (mm_w M24 20 6) (mm_n M24) (mm_i M24 2)) (qv_ P)
  obtain ⟨M30, hM30⟩ : ∃ M', M' = mm_ws (mm_w M24 20 6) (mm_n M24) (mm_i M24 2) := ⟨_, rfl⟩
  have k31 : mm_k M30 a0 = (0, 4) := (by rw [hM30]; exact ks_S k25 (by decide) (mm_S_wws (fr := fr_C)))
  have k32 : mm_k M30 (mm_n M4) = (4, 2) := (by rw [hM30]; exact ks_S k26 (by decide) (mm_S_wws (fr := fr_C)))
  have k33 : ak_ M30 (mm_n M) 2 5 := (by rw [hM30]; exact ak_S k27 (mm_S_wws (fr := fr_C)))
  have k34 : ak_ M30 (mm_n M15) 0 7 := (by rw [hM30]; exact ak_S k28 (mm_S_wws (fr := fr_C)))
  have k35 : ak_ M30 (mm_n M24) 0 6 := by rw [hM30]; exact ⟨_, mm_k_w, by decide, by decide, by omega, rfl⟩
  rw [← hM30]
  replace H := H M30 hM30
  obtain ⟨tc, kc, tc1, tc2, -⟩ := id k35
  refine go_cast ⟨tc1, tc2⟩ kc kl_X0_34 dX0_init_40 ?_
  refine go_putR (k := 3) ⟨by decide, rfl, by decide, Or.inr ⟨_, rfl⟩⟩ k31 rfl (Or.inr ⟨rfl, rfl⟩) fl_X0_38 dX0_init_43 ?_
  show go_W mt_X0_init fr_C 46 [some (pv_r a0), none] [] (mm_pr M30 a0 3 (mm_n M24)) (qv_ P)
  obtain ⟨M36, hM36⟩ : ∃ M', M' = mm_pr M30 a0 3 (mm_n M24) := ⟨_, rfl⟩
  have k37 : mm_k M36 a0 = (0, 4) := (by rw [hM36]; exact k31)
  have k38 : mm_k M36 (mm_n M4) = (4, 2) := (by rw [hM36]; exact k32)
  have k39 : ak_ M36 (mm_n M) 2 5 := (by rw [hM36]; exact k33)
  have k40 : ak_ M36 (mm_n M15) 0 7 := (by rw [hM36]; exact k34)
  have k41 : ak_ M36 (mm_n M24) 0 6 := (by rw [hM36]; exact k35)
  rw [← hM36]
  replace H := H M36 hM36
  refine go_iconst (v := (0 : Int32)) rfl dX0_init_46 ?_
  refine go_istore_n (by decide) dX0_init_47 ?_
  show go_W mt_X0_init fr_C 48 [some (pv_r a0), some (pv_i (0 : Int32))] [] M36 (qv_ P)
  exact H
set_option maxRecDepth 20000 in
theorem wc_X0_init_48 {M : mm_T} {a0 : Nat} {x1 : Int32} {P : mm_T → Prop} (K0 : mm_k M a0 = (0, 4)) (H : ((((5 : Int32) ≤ x1) → P M) ∧ ((¬ (5 : Int32) ≤ x1) → (mm_n M + 1 ≤ nb_ ∧ mm_t M (mm_n M) + 14 ≤ sb_) ∧ (∀ M1, M1 = mm_w M 3 14 → cs_v mt_X3_init [pv_r (mm_n M), pv_i x1] M1 (fun M4 => ∃ l7, ak_ M4 (mm_r M a0 0) 2 l7 ∧ (∃ n10, (x1 = nI n10 ∧ n10 < l7) ∧ (∀ M11, M11 = mm_pr M4 (mm_r M a0 0) n10 (mm_n M) → cw_v mt_X0_init 48 [some (pv_r a0), some (pv_i (nI (n10 + 1)))] [] M11 P))))))) : cw_v mt_X0_init 48 [some (pv_r a0), some (pv_i x1)] [] M P := by
  refine go_iload_n dX0_init_48 rfl ?_
  refine go_iconst (v := (5 : Int32)) rfl dX0_init_49 ?_
  refine go_icmp_ge (tgt := 73) dX0_init_50 (by decide) (fun hc => ?_) (fun hc => ?_)
  · replace H := H.1 hc
    exact go_vret rfl dX0_init_73 ⟨rfl, H⟩
  · replace H := H.2 hc
    refine go_aload_n dX0_init_53 rfl ?_
    refine go_getR (k := 0) ⟨by decide, rfl, by decide, Or.inr ⟨_, rfl⟩⟩ K0 fl_X0_11 dX0_init_54 ?_
    refine go_iload_n dX0_init_57 rfl ?_
    obtain ⟨hr, H⟩ := H
    refine go_new (ci := 3) (N := 14) (by decide) rfl kl_X0_9 nw_X3 ni_X3 hr.1 hr.2 dX0_init_58 ?_
    show go_W mt_X0_init fr_C 61 [some (pv_r a0), some (pv_i x1)] [pv_r (mm_n M), pv_i x1, pv_r (mm_r M a0 0)] (mm_w M 3 14) (qv_ P)
    obtain ⟨M1, hM1⟩ : ∃ M', M' = mm_w M 3 14 := ⟨_, rfl⟩
    have k2 : mm_k M1 a0 = (0, 4) := (by rw [hM1]; exact ks_S K0 (by decide) (mm_S_w (fr := fr_C)))
    have k3 : mm_k M1 (mm_n M) = (3, 14) := by rw [hM1]; exact mm_k_w
    rw [← hM1]
    replace H := H M1 hM1
    refine go_dup pv_1r dX0_init_61 ?_
    refine go_iload_n dX0_init_62 rfl ?_
    refine go_InK (av := [pv_i x1]) (st := [pv_r (mm_n M), pv_i x1, pv_r (mm_r M a0 0)]) (by decide) k3 ok_X3_init ⟨by decide, by decide⟩ ml_X0_41 rfl (by decide) (fun v hv => by simp only [List.mem_cons, List.not_mem_nil, or_false] at hv; rcases hv with rfl <;> first | exact pv_1i | exact pv_1r) (Nat.le_of_ble_eq_true rfl) (fun _ h => h) dX0_init_63 H (fun r M4 hq hS => ?_)
    obtain ⟨rfl, H⟩ := hq
    have k5 : mm_k M4 a0 = (0, 4) := ks_S k2 (by decide) hS
    have k6 : mm_k M4 (mm_n M) = (3, 14) := ks_S k3 (by decide) hS
    show go_W mt_X0_init fr_C 66 [some (pv_r a0), some (pv_i x1)] [pv_r (mm_n M), pv_i x1, pv_r (mm_r M a0 0)] M4 (qv_ P)
    obtain ⟨l7, k8, H⟩ := H
    obtain ⟨n10, ⟨hn10, hn10b⟩, H⟩ := H
    refine go_aastA (j := n10) k8 (by decide) (Or.inr k6) hn10 hn10b dX0_init_66 ?_
    show go_W mt_X0_init fr_C 67 [some (pv_r a0), some (pv_i x1)] [] (mm_pr M4 (mm_r M a0 0) n10 (mm_n M)) (qv_ P)
    obtain ⟨M11, hM11⟩ : ∃ M', M' = mm_pr M4 (mm_r M a0 0) n10 (mm_n M) := ⟨_, rfl⟩
    have k12 : mm_k M11 a0 = (0, 4) := (by rw [hM11]; exact k5)
    have k13 : mm_k M11 (mm_n M) = (3, 14) := (by rw [hM11]; exact k6)
    have k14 : ak_ M11 (mm_r M a0 0) 2 l7 := (by rw [hM11]; exact k8)
    rw [← hM11]
    replace H := H M11 hM11
    refine go_iincN (n := n10) (k := 1) hn10 (by decide) rfl rfl dX0_init_67 ?_
    show go_W mt_X0_init fr_C 70 [some (pv_r a0), some (pv_i (nI (n10 + 1)))] [] M11 (qv_ P)
    refine go_goto (tgt := 48) dX0_init_70 (by decide) ?_
    exact H
