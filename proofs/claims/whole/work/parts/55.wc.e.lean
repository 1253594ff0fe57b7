/-! the walks of the class, by program (wip/whole/walk3.py) -/
set_option maxRecDepth 20000 in
theorem wc_X10_enough_0 {M : mm_T} {a0 : Nat} {x1 : Int32} {P : Int32 → mm_T → Prop} (K0 : mm_k M a0 = (10, 14)) (H : (((0 ≤ x1) → cw_i mt_X10_enough 8 [some (pv_r a0), some (pv_i x1), some (pv_i (1 : Int32))] [] M P) ∧ ((¬ 0 ≤ x1) → P (-1 : Int32) M))) : cw_i mt_X10_enough 0 [some (pv_r a0), some (pv_i x1), none] [] M P := by
  refine go_iload_n dX10_enough_0 rfl ?_
  refine go_if_ge (tgt := 6) dX10_enough_1 (by decide) (fun hc => ?_) (fun hc => ?_)
  · replace H := H.1 hc
    refine go_iconst (v := (1 : Int32)) rfl dX10_enough_6 ?_
    refine go_istore_n (by decide) dX10_enough_7 ?_
    show go_W mt_X10_enough fr_C 8 [some (pv_r a0), some (pv_i x1), some (pv_i (1 : Int32))] [] M (qi_ P)
    exact H
  · replace H := H.2 hc
    refine go_iconst (v := (-1 : Int32)) rfl dX10_enough_4 ?_
    exact go_iret rfl rfl dX10_enough_5 ⟨_, rfl, H⟩
set_option maxRecDepth 20000 in
theorem wc_X10_enough_8 {M : mm_T} {a0 : Nat} {x1 x2 : Int32} {P : Int32 → mm_T → Prop} (K0 : mm_k M a0 = (10, 14)) (H : ((((6 : Int32) < x2) → P (-1 : Int32) M) ∧ ((¬ (6 : Int32) < x2) → mm_k M (mm_r M a0 1) = (8, 8) ∧ (cs_v mt_X8_run [pv_r (mm_r M a0 1), pv_r (mm_r M a0 0), pv_i x2, pv_i (mm_i M a0 11)] M (fun M2 => mm_k M2 (mm_r M2 a0 1) = (8, 8) ∧ ((((x1 < mm_i M2 (mm_r M2 a0 1) 4) → cw_i mt_X10_enough 8 [some (pv_r a0), some (pv_i x1), some (pv_i (x2 + (1 : Int32)))] [] M2 P) ∧ ((¬ x1 < mm_i M2 (mm_r M2 a0 1) 4) → P x2 M2)))))))) : cw_i mt_X10_enough 8 [some (pv_r a0), some (pv_i x1), some (pv_i x2)] [] M P := by
  refine go_iload_n dX10_enough_8 rfl ?_
  refine go_bipush (v := (6 : Int32)) rfl dX10_enough_9 ?_
  refine go_icmp_gt (tgt := 49) dX10_enough_11 (by decide) (fun hc => ?_) (fun hc => ?_)
  · replace H := H.1 hc
    refine go_iconst (v := (-1 : Int32)) rfl dX10_enough_49 ?_
    exact go_iret rfl rfl dX10_enough_50 ⟨_, rfl, H⟩
  · replace H := H.2 hc
    refine go_aload_n dX10_enough_14 rfl ?_
    refine go_getR (k := 1) ⟨by decide, rfl, by decide, Or.inl ⟨_, rfl⟩⟩ K0 fl_X10_19 dX10_enough_15 ?_
    refine go_aload_n dX10_enough_18 rfl ?_
    refine go_getR (k := 0) ⟨by decide, rfl, by decide, Or.inl ⟨_, rfl⟩⟩ K0 fl_X10_10 dX10_enough_19 ?_
    refine go_iload_n dX10_enough_22 rfl ?_
    refine go_aload_n dX10_enough_23 rfl ?_
    refine go_getI (k := 11) ⟨by decide, rfl, by decide, rfl⟩ K0 fl_X10_108 dX10_enough_24 ?_
    obtain ⟨k1, H⟩ := H
    refine go_V (av := [pv_r (mm_r M a0 0), pv_i x2, pv_i (mm_i M a0 11)]) (st := []) (ci := 8) ok_X8_run ⟨by decide, by decide⟩ ml_X10_364 rfl (by decide) (fun v hv => by simp only [List.mem_cons, List.not_mem_nil, or_false] at hv; rcases hv with rfl | rfl | rfl <;> first | exact pv_1i | exact pv_1r) (Nat.le_of_ble_eq_true rfl) (fun _ h => h) (by decide) rfl k1 dX10_enough_27 H (fun r M2 hq hS => ?_)
    obtain ⟨rfl, H⟩ := hq
    have k3 : mm_k M2 a0 = (10, 14) := ks_S K0 (by decide) hS
    have k4 : mm_k M2 (mm_r M a0 1) = (8, 8) := ks_S k1 (by decide) hS
    show go_W mt_X10_enough fr_C 30 [some (pv_r a0), some (pv_i x1), some (pv_i x2)] [] M2 (qi_ P)
    refine go_aload_n dX10_enough_30 rfl ?_
    refine go_getR (k := 1) ⟨by decide, rfl, by decide, Or.inl ⟨_, rfl⟩⟩ k3 fl_X10_19 dX10_enough_31 ?_
    obtain ⟨k5, H⟩ := H
    refine go_getI (k := 4) ⟨by decide, rfl, by decide, rfl⟩ k5 fl_X10_368 dX10_enough_34 ?_
    refine go_iload_n dX10_enough_37 rfl ?_
    refine go_icmp_gt (tgt := 43) dX10_enough_38 (by decide) (fun hc => ?_) (fun hc => ?_)
    · replace H := H.1 hc
      refine go_iinc (v := (1 : Int32)) (by decide) rfl rfl dX10_enough_43 ?_
      show go_W mt_X10_enough fr_C 46 [some (pv_r a0), some (pv_i x1), some (pv_i (x2 + (1 : Int32)))] [] M2 (qi_ P)
      refine go_goto (tgt := 8) dX10_enough_46 (by decide) ?_
      exact H
    · replace H := H.2 hc
      refine go_iload_n dX10_enough_41 rfl ?_
      exact go_iret rfl rfl dX10_enough_42 ⟨_, rfl, H⟩
set_option maxRecDepth 20000 in
theorem wc_X10_hangs_0 {M : mm_T} {a0 : Nat} {x1 : Int32} {P : Int32 → mm_T → Prop} (K0 : mm_k M a0 = (10, 14)) (H : cs_r mt_X10_taskAt [pv_r a0, pv_i x1] M (fun v2 M1 => (((¬ v2 = 0) → mm_k M1 v2 = (6, 17) ∧ (cw_i mt_X10_hangs 22 [some (pv_r a0), some (pv_i x1), some (pv_r v2), some (pv_i (0 : Int32)), some (pv_i (mm_i M1 v2 0 + (1 : Int32)))] [] M1 P)) ∧ ((v2 = 0) → P (-1 : Int32) M1)))) : cw_i mt_X10_hangs 0 [some (pv_r a0), some (pv_i x1), none, none, none] [] M P := by
  refine go_aload_n dX10_hangs_0 rfl ?_
  refine go_iload_n dX10_hangs_1 rfl ?_
  refine go_V (av := [pv_i x1]) (st := []) (ci := 10) ok_X10_taskAt ⟨by decide, by decide⟩ ml_X10_171 rfl (by decide) (fun v hv => by simp only [List.mem_cons, List.not_mem_nil, or_false] at hv; rcases hv with rfl <;> first | exact pv_1i | exact pv_1r) (Nat.le_of_ble_eq_true rfl) (fun _ h => h) (by decide) rfl K0 dX10_hangs_2 H (fun r M1 hq hS => ?_)
  obtain ⟨v2, rfl, H⟩ := hq
  have k3 : mm_k M1 a0 = (10, 14) := ks_S K0 (by decide) hS
  show go_W mt_X10_hangs fr_C 5 [some (pv_r a0), some (pv_i x1), none, none, none] [pv_r v2] M1 (qi_ P)
  refine go_astore_n (by decide) dX10_hangs_5 ?_
  show go_W mt_X10_hangs fr_C 6 [some (pv_r a0), some (pv_i x1), some (pv_r v2), none, none] [] M1 (qi_ P)
  refine go_aload_n dX10_hangs_6 rfl ?_
  refine go_ifnonnull (tgt := 12) dX10_hangs_7 (by decide) (fun hc => ?_) (fun hc => ?_)
  · replace H := H.1 hc
    refine go_iconst (v := (0 : Int32)) rfl dX10_hangs_12 ?_
    refine go_istore_n (by decide) dX10_hangs_13 ?_
    show go_W mt_X10_hangs fr_C 14 [some (pv_r a0), some (pv_i x1), some (pv_r v2), some (pv_i (0 : Int32)), none] [] M1 (qi_ P)
    refine go_aload_n dX10_hangs_14 rfl ?_
    obtain ⟨k4, H⟩ := H
    refine go_getI (k := 0) ⟨by decide, rfl, by decide, rfl⟩ k4 fl_X10_95 dX10_hangs_15 ?_
    refine go_iconst (v := (1 : Int32)) rfl dX10_hangs_18 ?_
    refine go_iadd dX10_hangs_19 ?_
    refine go_istore (by decide) dX10_hangs_20 ?_
    show go_W mt_X10_hangs fr_C 22 [some (pv_r a0), some (pv_i x1), some (pv_r v2), some (pv_i (0 : Int32)), some (pv_i (mm_i M1 v2 0 + (1 : Int32)))] [] M1 (qi_ P)
    exact H
  · replace H := H.2 hc
    refine go_iconst (v := (-1 : Int32)) rfl dX10_hangs_10 ?_
    exact go_iret rfl rfl dX10_hangs_11 ⟨_, rfl, H⟩
set_option maxRecDepth 20000 in
theorem wc_X10_hangs_22 {M : mm_T} {a0 a2 : Nat} {x1 x3 x4 : Int32} {P : Int32 → mm_T → Prop} (K0 : mm_k M a0 = (10, 14)) (H : mm_k M (mm_r M a0 2) = (4, 2) ∧ ((((mm_i M (mm_r M a0 2) 1 ≤ x4) → P x3 M) ∧ ((¬ mm_i M (mm_r M a0 2) 1 ≤ x4) → ∃ l2, ak_ M (mm_r M (mm_r M a0 2) 0) 3 l2 ∧ (∃ n5, (x4 = nI n5 ∧ n5 < l2) ∧ (cs_i mt_X10_hangsOn [pv_r (mm_r M (mm_r M (mm_r M a0 2) 0) n5), pv_r a2] M (fun v7 M6 => (((v7 = 0) → cw_i mt_X10_hangs 22 [some (pv_r a0), some (pv_i x1), some (pv_r a2), some (pv_i x3), some (pv_i (nI (n5 + 1)))] [] M6 P) ∧ ((¬ v7 = 0) → cw_i mt_X10_hangs 22 [some (pv_r a0), some (pv_i x1), some (pv_r a2), some (pv_i (x3 + (1 : Int32))), some (pv_i (nI (n5 + 1)))] [] M6 P))))))))) : cw_i mt_X10_hangs 22 [some (pv_r a0), some (pv_i x1), some (pv_r a2), some (pv_i x3), some (pv_i x4)] [] M P := by
  refine go_iload dX10_hangs_22 rfl ?_
  refine go_aload_n dX10_hangs_24 rfl ?_
  refine go_getR (k := 2) ⟨by decide, rfl, by decide, Or.inl ⟨_, rfl⟩⟩ K0 fl_X10_28 dX10_hangs_25 ?_
  obtain ⟨k1, H⟩ := H
  refine go_getI (k := 1) ⟨by decide, rfl, by decide, rfl⟩ k1 fl_X10_222 dX10_hangs_28 ?_
  refine go_icmp_ge (tgt := 60) dX10_hangs_31 (by decide) (fun hc => ?_) (fun hc => ?_)
  · replace H := H.1 hc
    refine go_iload_n dX10_hangs_60 rfl ?_
    exact go_iret rfl rfl dX10_hangs_61 ⟨_, rfl, H⟩
  · replace H := H.2 hc
    refine go_aload_n dX10_hangs_34 rfl ?_
    refine go_getR (k := 2) ⟨by decide, rfl, by decide, Or.inl ⟨_, rfl⟩⟩ K0 fl_X10_28 dX10_hangs_35 ?_
    refine go_getR (k := 0) ⟨by decide, rfl, by decide, Or.inr ⟨_, rfl⟩⟩ k1 fl_X10_380 dX10_hangs_38 ?_
    refine go_iload dX10_hangs_41 rfl ?_
    obtain ⟨l2, k3, H⟩ := H
    obtain ⟨n5, ⟨hn5, hn5b⟩, H⟩ := H
    refine go_aaldA (j := n5) k3 (by decide) hn5 hn5b dX10_hangs_43 ?_
    refine go_aload_n dX10_hangs_44 rfl ?_
    refine go_St (av := [pv_r (mm_r M (mm_r M (mm_r M a0 2) 0) n5), pv_r a2]) (st := []) ok_X10_hangsOn ⟨by decide, by decide⟩ ml_X10_384 rfl (by decide) (fun v hv => by simp only [List.mem_cons, List.not_mem_nil, or_false] at hv; rcases hv with rfl | rfl <;> first | exact pv_1i | exact pv_1r) (Nat.le_of_ble_eq_true rfl) (fun _ h => h) dX10_hangs_45 H (fun r M6 hq hS => ?_)
    obtain ⟨v7, rfl, H⟩ := hq
    have k8 : mm_k M6 a0 = (10, 14) := ks_S K0 (by decide) hS
    have k9 : mm_k M6 (mm_r M a0 2) = (4, 2) := ks_S k1 (by decide) hS
    have k10 : ak_ M6 (mm_r M (mm_r M a0 2) 0) 3 l2 := ak_S k3 hS
    show go_W mt_X10_hangs fr_C 48 [some (pv_r a0), some (pv_i x1), some (pv_r a2), some (pv_i x3), some (pv_i x4)] [pv_i v7] M6 (qi_ P)
    refine go_if_eq (tgt := 54) dX10_hangs_48 (by decide) (fun hc => ?_) (fun hc => ?_)
    · replace H := H.1 hc
      refine go_iincN (n := n5) (k := 1) hn5 (by decide) rfl rfl dX10_hangs_54 ?_
      show go_W mt_X10_hangs fr_C 57 [some (pv_r a0), some (pv_i x1), some (pv_r a2), some (pv_i x3), some (pv_i (nI (n5 + 1)))] [] M6 (qi_ P)
      refine go_goto (tgt := 22) dX10_hangs_57 (by decide) ?_
      exact H
    · replace H := H.2 hc
      refine go_iinc (v := (1 : Int32)) (by decide) rfl rfl dX10_hangs_51 ?_
      show go_W mt_X10_hangs fr_C 54 [some (pv_r a0), some (pv_i x1), some (pv_r a2), some (pv_i (x3 + (1 : Int32))), some (pv_i x4)] [] M6 (qi_ P)
      refine go_iincN (n := n5) (k := 1) hn5 (by decide) rfl rfl dX10_hangs_54 ?_
      show go_W mt_X10_hangs fr_C 57 [some (pv_r a0), some (pv_i x1), some (pv_r a2), some (pv_i (x3 + (1 : Int32))), some (pv_i (nI (n5 + 1)))] [] M6 (qi_ P)
      refine go_goto (tgt := 22) dX10_hangs_57 (by decide) ?_
      exact H
set_option maxRecDepth 20000 in
theorem wc_X10_spread_0 {M : mm_T} {a0 : Nat} {x1 : Int32} {P : Int32 → mm_T → Prop} (K0 : mm_k M a0 = (10, 14)) (H : mm_k M (mm_r M a0 0) = (0, 4) ∧ (cs_r mt_X0_theLane [pv_r (mm_r M a0 0), pv_i (0 : Int32)] M (fun v3 M2 => mm_k M2 (mm_r M2 a0 0) = (0, 4) ∧ (cs_r mt_X0_greatestPass [pv_r (mm_r M2 a0 0)] M2 (fun v8 M7 => (((v3 = 0) → P (-1 : Int32) M7) ∧ ((¬ v3 = 0) → (((¬ v8 = 0) → ((x1 = (0 : Int32)) → mm_k M7 v8 = (3, 14) ∧ (mm_k M7 v3 = (3, 14) ∧ (P (mm_i M7 v8 5 - mm_i M7 v3 5) M7))) ∧ ((x1 = (1 : Int32)) → mm_k M7 v8 = (3, 14) ∧ (P (mm_i M7 v8 0) M7)) ∧ ((x1 = (2 : Int32)) → mm_k M7 v3 = (3, 14) ∧ (P (mm_i M7 v3 0) M7)) ∧ ((¬ x1 = (0 : Int32) ∧ ¬ x1 = (1 : Int32) ∧ ¬ x1 = (2 : Int32)) → P (-1 : Int32) M7)) ∧ ((v8 = 0) → P (-1 : Int32) M7))))))))) : cw_i mt_X10_spread 0 [some (pv_r a0), some (pv_i x1), none, none] [] M P := by
  refine go_aload_n dX10_spread_0 rfl ?_
  refine go_getR (k := 0) ⟨by decide, rfl, by decide, Or.inl ⟨_, rfl⟩⟩ K0 fl_X10_10 dX10_spread_1 ?_
  refine go_iconst (v := (0 : Int32)) rfl dX10_spread_4 ?_
  obtain ⟨k1, H⟩ := H
  refine go_V (av := [pv_i (0 : Int32)]) (st := []) (ci := 0) ok_X0_theLane ⟨by decide, by decide⟩ ml_X10_388 rfl (by decide) (fun v hv => by simp only [List.mem_cons, List.not_mem_nil, or_false] at hv; rcases hv with rfl <;> first | exact pv_1i | exact pv_1r) (Nat.le_of_ble_eq_true rfl) (fun _ h => h) (by decide) rfl k1 dX10_spread_5 H (fun r M2 hq hS => ?_)
  obtain ⟨v3, rfl, H⟩ := hq
  have k4 : mm_k M2 a0 = (10, 14) := ks_S K0 (by decide) hS
  have k5 : mm_k M2 (mm_r M a0 0) = (0, 4) := ks_S k1 (by decide) hS
  show go_W mt_X10_spread fr_C 8 [some (pv_r a0), some (pv_i x1), none, none] [pv_r v3] M2 (qi_ P)
  refine go_astore_n (by decide) dX10_spread_8 ?_
  show go_W mt_X10_spread fr_C 9 [some (pv_r a0), some (pv_i x1), some (pv_r v3), none] [] M2 (qi_ P)
  refine go_aload_n dX10_spread_9 rfl ?_
  refine go_getR (k := 0) ⟨by decide, rfl, by decide, Or.inl ⟨_, rfl⟩⟩ k4 fl_X10_10 dX10_spread_10 ?_
  obtain ⟨k6, H⟩ := H
  refine go_V (av := []) (st := []) (ci := 0) ok_X0_greatestPass ⟨by decide, by decide⟩ ml_X10_392 rfl (by decide) (fun v hv => absurd hv List.not_mem_nil) (Nat.le_of_ble_eq_true rfl) (fun _ h => h) (by decide) rfl k6 dX10_spread_13 H (fun r M7 hq hS => ?_)
  obtain ⟨v8, rfl, H⟩ := hq
  have k9 : mm_k M7 a0 = (10, 14) := ks_S k4 (by decide) hS
  have k10 : mm_k M7 (mm_r M a0 0) = (0, 4) := ks_S k5 (by decide) hS
  have k11 : mm_k M7 (mm_r M2 a0 0) = (0, 4) := ks_S k6 (by decide) hS
  show go_W mt_X10_spread fr_C 16 [some (pv_r a0), some (pv_i x1), some (pv_r v3), none] [pv_r v8] M7 (qi_ P)
  refine go_astore_n (by decide) dX10_spread_16 ?_
  show go_W mt_X10_spread fr_C 17 [some (pv_r a0), some (pv_i x1), some (pv_r v3), some (pv_r v8)] [] M7 (qi_ P)
  refine go_aload_n dX10_spread_17 rfl ?_
  refine go_ifnull (tgt := 25) dX10_spread_18 (by decide) (fun hc => ?_) (fun hc => ?_)
  · replace H := H.1 hc
    refine go_iconst (v := (-1 : Int32)) rfl dX10_spread_25 ?_
    exact go_iret rfl rfl dX10_spread_26 ⟨_, rfl, H⟩
  · replace H := H.2 hc
    refine go_aload_n dX10_spread_21 rfl ?_
    refine go_ifnonnull (tgt := 27) dX10_spread_22 (by decide) (fun hc => ?_) (fun hc => ?_)
    · replace H := H.1 hc
      refine go_iload_n dX10_spread_27 rfl ?_
      by_cases hc0 : x1 = (0 : Int32)
      · replace H := H.1 hc0
        refine go_tabIn (v := (0 : Int32)) (tgt := 56) hc0 (by decide) (by decide) rfl (by decide) dX10_spread_28 ?_
        refine go_aload_n dX10_spread_56 rfl ?_
        obtain ⟨k12, H⟩ := H
        refine go_getI (k := 5) ⟨by decide, rfl, by decide, rfl⟩ k12 fl_X10_396 dX10_spread_57 ?_
        refine go_aload_n dX10_spread_60 rfl ?_
        obtain ⟨k13, H⟩ := H
        refine go_getI (k := 5) ⟨by decide, rfl, by decide, rfl⟩ k13 fl_X10_396 dX10_spread_61 ?_
        refine go_isub dX10_spread_64 ?_
        exact go_iret rfl rfl dX10_spread_65 ⟨_, rfl, H⟩
      replace H := H.2
      by_cases hc1 : x1 = (1 : Int32)
      · replace H := H.1 hc1
        refine go_tabIn (v := (1 : Int32)) (tgt := 66) hc1 (by decide) (by decide) rfl (by decide) dX10_spread_28 ?_
        refine go_aload_n dX10_spread_66 rfl ?_
        obtain ⟨k14, H⟩ := H
        refine go_getI (k := 0) ⟨by decide, rfl, by decide, rfl⟩ k14 fl_X10_345 dX10_spread_67 ?_
        exact go_iret rfl rfl dX10_spread_70 ⟨_, rfl, H⟩
      replace H := H.2
      by_cases hc2 : x1 = (2 : Int32)
      · replace H := H.1 hc2
        refine go_tabIn (v := (2 : Int32)) (tgt := 71) hc2 (by decide) (by decide) rfl (by decide) dX10_spread_28 ?_
        refine go_aload_n dX10_spread_71 rfl ?_
        obtain ⟨k15, H⟩ := H
        refine go_getI (k := 0) ⟨by decide, rfl, by decide, rfl⟩ k15 fl_X10_345 dX10_spread_72 ?_
        exact go_iret rfl rfl dX10_spread_75 ⟨_, rfl, H⟩
      replace H := H.2
      replace H := H ⟨hc0, hc1, hc2⟩
      have he0 : (x1).toInt ≠ 0 := fun h => hc0 (Int32.toInt_inj.mp (h.trans (by decide)))
      have he1 : (x1).toInt ≠ 1 := fun h => hc1 (Int32.toInt_inj.mp (h.trans (by decide)))
      have he2 : (x1).toInt ≠ 2 := fun h => hc2 (Int32.toInt_inj.mp (h.trans (by decide)))
      refine go_tabOut (tgt := 76) (by omega) (by decide) dX10_spread_28 ?_
      refine go_iconst (v := (-1 : Int32)) rfl dX10_spread_76 ?_
      exact go_iret rfl rfl dX10_spread_77 ⟨_, rfl, H⟩
    · replace H := H.2 hc
      refine go_iconst (v := (-1 : Int32)) rfl dX10_spread_25 ?_
      exact go_iret rfl rfl dX10_spread_26 ⟨_, rfl, H⟩
set_option maxRecDepth 20000 in
theorem wc_X10_blamed_0 {M : mm_T} {a0 : Nat} {x1 : Int32} {P : Int32 → mm_T → Prop} (K0 : mm_k M a0 = (10, 14)) (H : (((x1 < 0) → P (-1 : Int32) M) ∧ ((¬ x1 < 0) → (((x1 ≤ (101 : Int32)) → cs_i mt_X10_asideBy [pv_r a0, pv_i x1] M (fun v2 M1 => P v2 M1)) ∧ ((¬ x1 ≤ (101 : Int32)) → P (-1 : Int32) M))))) : cw_i mt_X10_blamed 0 [some (pv_r a0), some (pv_i x1)] [] M P := by
  refine go_iload_n dX10_blamed_0 rfl ?_
  refine go_if_lt (tgt := 10) dX10_blamed_1 (by decide) (fun hc => ?_) (fun hc => ?_)
  · replace H := H.1 hc
    refine go_iconst (v := (-1 : Int32)) rfl dX10_blamed_10 ?_
    refine go_goto (tgt := 19) dX10_blamed_11 (by decide) ?_
    exact go_iret rfl rfl dX10_blamed_19 ⟨_, rfl, H⟩
  · replace H := H.2 hc
    refine go_iload_n dX10_blamed_4 rfl ?_
    refine go_bipush (v := (101 : Int32)) rfl dX10_blamed_5 ?_
    refine go_icmp_le (tgt := 14) dX10_blamed_7 (by decide) (fun hc => ?_) (fun hc => ?_)
    · replace H := H.1 hc
      refine go_aload_n dX10_blamed_14 rfl ?_
      refine go_iload_n dX10_blamed_15 rfl ?_
      refine go_V (av := [pv_i x1]) (st := []) (ci := 10) ok_X10_asideBy ⟨by decide, by decide⟩ ml_X10_399 rfl (by decide) (fun v hv => by simp only [List.mem_cons, List.not_mem_nil, or_false] at hv; rcases hv with rfl <;> first | exact pv_1i | exact pv_1r) (Nat.le_of_ble_eq_true rfl) (fun _ h => h) (by decide) rfl K0 dX10_blamed_16 H (fun r M1 hq hS => ?_)
      obtain ⟨v2, rfl, H⟩ := hq
      have k3 : mm_k M1 a0 = (10, 14) := ks_S K0 (by decide) hS
      show go_W mt_X10_blamed fr_C 19 [some (pv_r a0), some (pv_i x1)] [pv_i v2] M1 (qi_ P)
      exact go_iret rfl rfl dX10_blamed_19 ⟨_, rfl, H⟩
    · replace H := H.2 hc
      refine go_iconst (v := (-1 : Int32)) rfl dX10_blamed_10 ?_
      refine go_goto (tgt := 19) dX10_blamed_11 (by decide) ?_
      exact go_iret rfl rfl dX10_blamed_19 ⟨_, rfl, H⟩
set_option maxRecDepth 20000 in
theorem wc_X10_worst_0 {M : mm_T} {a0 : Nat} {P : Int32 → mm_T → Prop} (K0 : mm_k M a0 = (10, 14)) (H : cw_i mt_X10_worst 6 [some (pv_r a0), some (pv_i (-1 : Int32)), some (pv_i (0 : Int32)), some (pv_i (0 : Int32)), none] [] M P) : cw_i mt_X10_worst 0 [some (pv_r a0), none, none, none, none] [] M P := by
  refine go_iconst (v := (-1 : Int32)) rfl dX10_worst_0 ?_
  refine go_istore_n (by decide) dX10_worst_1 ?_
  show go_W mt_X10_worst fr_C 2 [some (pv_r a0), some (pv_i (-1 : Int32)), none, none, none] [] M (qi_ P)
  refine go_iconst (v := (0 : Int32)) rfl dX10_worst_2 ?_
  refine go_istore_n (by decide) dX10_worst_3 ?_
  show go_W mt_X10_worst fr_C 4 [some (pv_r a0), some (pv_i (-1 : Int32)), some (pv_i (0 : Int32)), none, none] [] M (qi_ P)
  refine go_iconst (v := (0 : Int32)) rfl dX10_worst_4 ?_
  refine go_istore_n (by decide) dX10_worst_5 ?_
  show go_W mt_X10_worst fr_C 6 [some (pv_r a0), some (pv_i (-1 : Int32)), some (pv_i (0 : Int32)), some (pv_i (0 : Int32)), none] [] M (qi_ P)
  exact H
set_option maxRecDepth 20000 in
theorem wc_X10_worst_6 {M : mm_T} {a0 : Nat} {x1 x2 x3 : Int32} {P : Int32 → mm_T → Prop} (K0 : mm_k M a0 = (10, 14)) (H : ((((101 : Int32) < x3) → P x1 M) ∧ ((¬ (101 : Int32) < x3) → mm_k M (mm_r M a0 3) = (4, 2) ∧ ((((mm_i M (mm_r M a0 3) 1 ≤ 0) → P x1 M) ∧ ((¬ mm_i M (mm_r M a0 3) 1 ≤ 0) → cs_i mt_X10_asideBy [pv_r a0, pv_i x3] M (fun v3 M2 => (((v3 ≤ x2) → cw_i mt_X10_worst 6 [some (pv_r a0), some (pv_i x1), some (pv_i x2), some (pv_i (x3 + (1 : Int32))), none] [] M2 P) ∧ ((¬ v3 ≤ x2) → cw_i mt_X10_worst 6 [some (pv_r a0), some (pv_i x3), some (pv_i v3), some (pv_i (x3 + (1 : Int32))), none] [] M2 P))))))))) : cw_i mt_X10_worst 6 [some (pv_r a0), some (pv_i x1), some (pv_i x2), some (pv_i x3), none] [] M P := by
  refine go_iload_n dX10_worst_6 rfl ?_
  refine go_bipush (v := (101 : Int32)) rfl dX10_worst_7 ?_
  refine go_icmp_gt (tgt := 46) dX10_worst_9 (by decide) (fun hc => ?_) (fun hc => ?_)
  · replace H := H.1 hc
    refine go_iload_n dX10_worst_46 rfl ?_
    exact go_iret rfl rfl dX10_worst_47 ⟨_, rfl, H⟩
  · replace H := H.2 hc
    refine go_aload_n dX10_worst_12 rfl ?_
    refine go_getR (k := 3) ⟨by decide, rfl, by decide, Or.inl ⟨_, rfl⟩⟩ K0 fl_X10_32 dX10_worst_13 ?_
    obtain ⟨k1, H⟩ := H
    refine go_getI (k := 1) ⟨by decide, rfl, by decide, rfl⟩ k1 fl_X10_222 dX10_worst_16 ?_
    refine go_if_le (tgt := 46) dX10_worst_19 (by decide) (fun hc => ?_) (fun hc => ?_)
    · replace H := H.1 hc
      refine go_iload_n dX10_worst_46 rfl ?_
      exact go_iret rfl rfl dX10_worst_47 ⟨_, rfl, H⟩
    · replace H := H.2 hc
      refine go_aload_n dX10_worst_22 rfl ?_
      refine go_iload_n dX10_worst_23 rfl ?_
      refine go_V (av := [pv_i x3]) (st := []) (ci := 10) ok_X10_asideBy ⟨by decide, by decide⟩ ml_X10_399 rfl (by decide) (fun v hv => by simp only [List.mem_cons, List.not_mem_nil, or_false] at hv; rcases hv with rfl <;> first | exact pv_1i | exact pv_1r) (Nat.le_of_ble_eq_true rfl) (fun _ h => h) (by decide) rfl K0 dX10_worst_24 H (fun r M2 hq hS => ?_)
      obtain ⟨v3, rfl, H⟩ := hq
      have k4 : mm_k M2 a0 = (10, 14) := ks_S K0 (by decide) hS
      have k5 : mm_k M2 (mm_r M a0 3) = (4, 2) := ks_S k1 (by decide) hS
      show go_W mt_X10_worst fr_C 27 [some (pv_r a0), some (pv_i x1), some (pv_i x2), some (pv_i x3), none] [pv_i v3] M2 (qi_ P)
      refine go_istore (by decide) dX10_worst_27 ?_
      show go_W mt_X10_worst fr_C 29 [some (pv_r a0), some (pv_i x1), some (pv_i x2), some (pv_i x3), some (pv_i v3)] [] M2 (qi_ P)
      refine go_iload dX10_worst_29 rfl ?_
      refine go_iload_n dX10_worst_31 rfl ?_
      refine go_icmp_le (tgt := 40) dX10_worst_32 (by decide) (fun hc => ?_) (fun hc => ?_)
      · replace H := H.1 hc
        refine go_iinc (v := (1 : Int32)) (by decide) rfl rfl dX10_worst_40 ?_
        show go_W mt_X10_worst fr_C 43 [some (pv_r a0), some (pv_i x1), some (pv_i x2), some (pv_i (x3 + (1 : Int32))), some (pv_i v3)] [] M2 (qi_ P)
        refine go_goto (tgt := 6) dX10_worst_43 (by decide) ?_
        exact go_fg (ls' := [some (pv_r a0), some (pv_i x1), some (pv_i x2), some (pv_i (x3 + (1 : Int32))), none]) ⟨rfl, ⟨rfl, ⟨rfl, ⟨rfl, trivial⟩⟩⟩⟩ H
      · replace H := H.2 hc
        refine go_iload_n dX10_worst_35 rfl ?_
        refine go_istore_n (by decide) dX10_worst_36 ?_
        show go_W mt_X10_worst fr_C 37 [some (pv_r a0), some (pv_i x3), some (pv_i x2), some (pv_i x3), some (pv_i v3)] [] M2 (qi_ P)
        refine go_iload dX10_worst_37 rfl ?_
        refine go_istore_n (by decide) dX10_worst_39 ?_
        show go_W mt_X10_worst fr_C 40 [some (pv_r a0), some (pv_i x3), some (pv_i v3), some (pv_i x3), some (pv_i v3)] [] M2 (qi_ P)
        refine go_iinc (v := (1 : Int32)) (by decide) rfl rfl dX10_worst_40 ?_
        show go_W mt_X10_worst fr_C 43 [some (pv_r a0), some (pv_i x3), some (pv_i v3), some (pv_i (x3 + (1 : Int32))), some (pv_i v3)] [] M2 (qi_ P)
        refine go_goto (tgt := 6) dX10_worst_43 (by decide) ?_
        exact go_fg (ls' := [some (pv_r a0), some (pv_i x3), some (pv_i v3), some (pv_i (x3 + (1 : Int32))), none]) ⟨rfl, ⟨rfl, ⟨rfl, ⟨rfl, trivial⟩⟩⟩⟩ H
set_option maxRecDepth 20000 in
theorem wc_X10_log_0 {M : mm_T} {a0 : Nat} {x1 x2 : Int32} {P : Int32 → mm_T → Prop} (K0 : mm_k M a0 = (10, 14)) (H : mm_k M (mm_r M a0 8) = (1, 3) ∧ (cs_i mt_X1_read [pv_r (mm_r M a0 8), pv_i x1, pv_i x2] M (fun v3 M2 => P v3 M2))) : cw_i mt_X10_log 0 [some (pv_r a0), some (pv_i x1), some (pv_i x2)] [] M P := by
  refine go_aload_n dX10_log_0 rfl ?_
  refine go_getR (k := 8) ⟨by decide, rfl, by decide, Or.inl ⟨_, rfl⟩⟩ K0 fl_X10_61 dX10_log_1 ?_
  refine go_iload_n dX10_log_4 rfl ?_
  refine go_iload_n dX10_log_5 rfl ?_
  obtain ⟨k1, H⟩ := H
  refine go_V (av := [pv_i x1, pv_i x2]) (st := []) (ci := 1) ok_X1_read ⟨by decide, by decide⟩ ml_X10_402 rfl (by decide) (fun v hv => by simp only [List.mem_cons, List.not_mem_nil, or_false] at hv; rcases hv with rfl | rfl <;> first | exact pv_1i | exact pv_1r) (Nat.le_of_ble_eq_true rfl) (fun _ h => h) (by decide) rfl k1 dX10_log_6 H (fun r M2 hq hS => ?_)
  obtain ⟨v3, rfl, H⟩ := hq
  have k4 : mm_k M2 a0 = (10, 14) := ks_S K0 (by decide) hS
  have k5 : mm_k M2 (mm_r M a0 8) = (1, 3) := ks_S k1 (by decide) hS
  show go_W mt_X10_log fr_C 9 [some (pv_r a0), some (pv_i x1), some (pv_i x2)] [pv_i v3] M2 (qi_ P)
  exact go_iret rfl rfl dX10_log_9 ⟨_, rfl, H⟩
set_option maxRecDepth 20000 in
theorem wc_X10_counted_0 {M : mm_T} {a0 : Nat} {x1 : Int32} {P : Int32 → mm_T → Prop} (K0 : mm_k M a0 = (10, 14)) (H : ((((-1 : Int32) ≤ x1) → P x1 M) ∧ ((¬ (-1 : Int32) ≤ x1) → ∀ M1, M1 = mm_pi M a0 13 (mm_i M a0 13 + (1 : Int32)) → P x1 M1))) : cw_i mt_X10_counted 0 [some (pv_r a0), some (pv_i x1)] [] M P := by
  refine go_iload_n dX10_counted_0 rfl ?_
  refine go_iconst (v := (-1 : Int32)) rfl dX10_counted_1 ?_
  refine go_icmp_ge (tgt := 15) dX10_counted_2 (by decide) (fun hc => ?_) (fun hc => ?_)
  · replace H := H.1 hc
    refine go_iload_n dX10_counted_15 rfl ?_
    exact go_iret rfl rfl dX10_counted_16 ⟨_, rfl, H⟩
  · replace H := H.2 hc
    refine go_aload_n dX10_counted_5 rfl ?_
    refine go_dup pv_1r dX10_counted_6 ?_
    refine go_getI (k := 13) ⟨by decide, rfl, by decide, rfl⟩ K0 fl_X10_256 dX10_counted_7 ?_
    refine go_iconst (v := (1 : Int32)) rfl dX10_counted_10 ?_
    refine go_iadd dX10_counted_11 ?_
    refine go_putI (k := 13) ⟨by decide, rfl, by decide, rfl⟩ K0 rfl (Or.inl rfl) fl_X10_256 dX10_counted_12 ?_
    show go_W mt_X10_counted fr_C 15 [some (pv_r a0), some (pv_i x1)] [] (mm_pi M a0 13 (mm_i M a0 13 + (1 : Int32))) (qi_ P)
    obtain ⟨M1, hM1⟩ : ∃ M', M' = mm_pi M a0 13 (mm_i M a0 13 + (1 : Int32)) := ⟨_, rfl⟩
    have k2 : mm_k M1 a0 = (10, 14) := (by rw [hM1]; exact K0)
    rw [← hM1]
    replace H := H M1 hM1
    refine go_iload_n dX10_counted_15 rfl ?_
    exact go_iret rfl rfl dX10_counted_16 ⟨_, rfl, H⟩
set_option maxRecDepth 20000 in
theorem wc_X10_comeIfCan_0 {M : mm_T} {a0 : Nat} {x1 x2 x3 x4 x5 : Int32} {P : Int32 → mm_T → Prop} (K0 : mm_k M a0 = (10, 14)) (H : mm_k M (mm_r M a0 0) = (0, 4) ∧ (cs_r mt_X0_laneAt [pv_r (mm_r M a0 0), pv_i x1] M (fun v3 M2 => (((v3 = 0) → P (-2 : Int32) M2) ∧ ((¬ v3 = 0) → cs_i mt_X10_isWork [pv_i x2, pv_i x3, pv_i x4] M2 (fun v7 M6 => (((¬ v7 = 0) → cs_r mt_X10_taskAt [pv_r a0, pv_i x5] M6 (fun v11 M10 => (((x5 = (-1 : Int32)) → cs_i mt_X10_whyNotCome [pv_r a0, pv_r v3, pv_i x4, pv_r v11] M10 (fun v15 M14 => ((((-1 : Int32) ≤ v15) → (mm_n M14 + 1 ≤ nb_ ∧ mm_t M14 (mm_n M14) + 17 ≤ sb_) ∧ (∀ M18, M18 = mm_w M14 6 17 → mm_k M18 (mm_r M18 a0 2) = (4, 2) ∧ (cs_v mt_X6_init [pv_r (mm_n M14), pv_i (mm_i M18 (mm_r M18 a0 2) 1), pv_r v3, pv_r v11] M18 (fun M23 => ∀ M28, M28 = mm_pi M23 (mm_n M14) 3 x2 → ∀ M33, M33 = mm_pi M28 (mm_n M14) 4 x3 → ∀ M38, M38 = mm_pi M33 (mm_n M14) 5 x4 → ∀ M43, M43 = mm_pi M38 (mm_n M14) 6 (mm_i M38 a0 11) → mm_k M43 (mm_r M43 a0 2) = (4, 2) ∧ (cs_v mt_X4_append [pv_r (mm_r M43 a0 2), pv_r (mm_n M14)] M43 (fun M49 => cs_v mt_X10_note [pv_r a0, pv_i (0 : Int32), pv_r (mm_n M14), pv_r 0, pv_i (0 : Int32)] M49 (fun M55 => mm_k M55 (mm_r M55 a0 0) = (0, 4) ∧ (cs_v mt_X0_settle [pv_r (mm_r M55 a0 0), pv_r (mm_n M14)] M55 (fun M62 => P (mm_i M62 (mm_n M14) 0) M62))))))))) ∧ ((¬ (-1 : Int32) ≤ v15) → P v15 M14)))) ∧ ((¬ x5 = (-1 : Int32)) → (((v11 = 0) → P (-2 : Int32) M10) ∧ ((¬ v11 = 0) → mm_k M10 v11 = (6, 17) ∧ ((((¬ mm_i M10 v11 7 = (6 : Int32)) → cs_i mt_X10_whyNotCome [pv_r a0, pv_r v3, pv_i x4, pv_r v11] M10 (fun v71 M70 => ((((-1 : Int32) ≤ v71) → (mm_n M70 + 1 ≤ nb_ ∧ mm_t M70 (mm_n M70) + 17 ≤ sb_) ∧ (∀ M75, M75 = mm_w M70 6 17 → mm_k M75 (mm_r M75 a0 2) = (4, 2) ∧ (cs_v mt_X6_init [pv_r (mm_n M70), pv_i (mm_i M75 (mm_r M75 a0 2) 1), pv_r v3, pv_r v11] M75 (fun M81 => ∀ M87, M87 = mm_pi M81 (mm_n M70) 3 x2 → ∀ M93, M93 = mm_pi M87 (mm_n M70) 4 x3 → ∀ M99, M99 = mm_pi M93 (mm_n M70) 5 x4 → ∀ M105, M105 = mm_pi M99 (mm_n M70) 6 (mm_i M99 a0 11) → mm_k M105 (mm_r M105 a0 2) = (4, 2) ∧ (cs_v mt_X4_append [pv_r (mm_r M105 a0 2), pv_r (mm_n M70)] M105 (fun M112 => cs_v mt_X10_note [pv_r a0, pv_i (0 : Int32), pv_r (mm_n M70), pv_r 0, pv_i (0 : Int32)] M112 (fun M119 => mm_k M119 (mm_r M119 a0 0) = (0, 4) ∧ (cs_v mt_X0_settle [pv_r (mm_r M119 a0 0), pv_r (mm_n M70)] M119 (fun M127 => P (mm_i M127 (mm_n M70) 0) M127))))))))) ∧ ((¬ (-1 : Int32) ≤ v71) → P v71 M70)))) ∧ ((mm_i M10 v11 7 = (6 : Int32)) → P (-2 : Int32) M10))))))))) ∧ ((v7 = 0) → P (-2 : Int32) M6)))))))) : cw_i mt_X10_comeIfCan 0 [some (pv_r a0), some (pv_i x1), some (pv_i x2), some (pv_i x3), some (pv_i x4), some (pv_i x5), none, none, none, none] [] M P := by
  refine go_aload_n dX10_comeIfCan_0 rfl ?_
  refine go_getR (k := 0) ⟨by decide, rfl, by decide, Or.inl ⟨_, rfl⟩⟩ K0 fl_X10_10 dX10_comeIfCan_1 ?_
  refine go_iload_n dX10_comeIfCan_4 rfl ?_
  obtain ⟨k1, H⟩ := H
  refine go_V (av := [pv_i x1]) (st := []) (ci := 0) ok_X0_laneAt ⟨by decide, by decide⟩ ml_X10_133 rfl (by decide) (fun v hv => by simp only [List.mem_cons, List.not_mem_nil, or_false] at hv; rcases hv with rfl <;> first | exact pv_1i | exact pv_1r) (Nat.le_of_ble_eq_true rfl) (fun _ h => h) (by decide) rfl k1 dX10_comeIfCan_5 H (fun r M2 hq hS => ?_)
  obtain ⟨v3, rfl, H⟩ := hq
  have k4 : mm_k M2 a0 = (10, 14) := ks_S K0 (by decide) hS
  have k5 : mm_k M2 (mm_r M a0 0) = (0, 4) := ks_S k1 (by decide) hS
  show go_W mt_X10_comeIfCan fr_C 8 [some (pv_r a0), some (pv_i x1), some (pv_i x2), some (pv_i x3), some (pv_i x4), some (pv_i x5), none, none, none, none] [pv_r v3] M2 (qi_ P)
  refine go_astore (by decide) dX10_comeIfCan_8 ?_
  show go_W mt_X10_comeIfCan fr_C 10 [some (pv_r a0), some (pv_i x1), some (pv_i x2), some (pv_i x3), some (pv_i x4), some (pv_i x5), some (pv_r v3), none, none, none] [] M2 (qi_ P)
  refine go_aload dX10_comeIfCan_10 rfl ?_
  refine go_ifnull (tgt := 25) dX10_comeIfCan_12 (by decide) (fun hc => ?_) (fun hc => ?_)
  · replace H := H.1 hc
    refine go_bipush (v := (-2 : Int32)) rfl dX10_comeIfCan_25 ?_
    exact go_iret rfl rfl dX10_comeIfCan_27 ⟨_, rfl, H⟩
  · replace H := H.2 hc
    refine go_iload_n dX10_comeIfCan_15 rfl ?_
    refine go_iload_n dX10_comeIfCan_16 rfl ?_
    refine go_iload dX10_comeIfCan_17 rfl ?_
    refine go_St (av := [pv_i x2, pv_i x3, pv_i x4]) (st := []) ok_X10_isWork ⟨by decide, by decide⟩ ml_X10_137 rfl (by decide) (fun v hv => by simp only [List.mem_cons, List.not_mem_nil, or_false] at hv; rcases hv with rfl | rfl | rfl <;> first | exact pv_1i | exact pv_1r) (Nat.le_of_ble_eq_true rfl) (fun _ h => h) dX10_comeIfCan_19 H (fun r M6 hq hS => ?_)
    obtain ⟨v7, rfl, H⟩ := hq
    have k8 : mm_k M6 a0 = (10, 14) := ks_S k4 (by decide) hS
    have k9 : mm_k M6 (mm_r M a0 0) = (0, 4) := ks_S k5 (by decide) hS
    show go_W mt_X10_comeIfCan fr_C 22 [some (pv_r a0), some (pv_i x1), some (pv_i x2), some (pv_i x3), some (pv_i x4), some (pv_i x5), some (pv_r v3), none, none, none] [pv_i v7] M6 (qi_ P)
    refine go_if_ne (tgt := 28) dX10_comeIfCan_22 (by decide) (fun hc => ?_) (fun hc => ?_)
    · replace H := H.1 hc
      refine go_aload_n dX10_comeIfCan_28 rfl ?_
      refine go_iload dX10_comeIfCan_29 rfl ?_
      refine go_V (av := [pv_i x5]) (st := []) (ci := 10) ok_X10_taskAt ⟨by decide, by decide⟩ ml_X10_171 rfl (by decide) (fun v hv => by simp only [List.mem_cons, List.not_mem_nil, or_false] at hv; rcases hv with rfl <;> first | exact pv_1i | exact pv_1r) (Nat.le_of_ble_eq_true rfl) (fun _ h => h) (by decide) rfl k8 dX10_comeIfCan_31 H (fun r M10 hq hS => ?_)
      obtain ⟨v11, rfl, H⟩ := hq
      have k12 : mm_k M10 a0 = (10, 14) := ks_S k8 (by decide) hS
      have k13 : mm_k M10 (mm_r M a0 0) = (0, 4) := ks_S k9 (by decide) hS
      show go_W mt_X10_comeIfCan fr_C 34 [some (pv_r a0), some (pv_i x1), some (pv_i x2), some (pv_i x3), some (pv_i x4), some (pv_i x5), some (pv_r v3), none, none, none] [pv_r v11] M10 (qi_ P)
      refine go_astore (by decide) dX10_comeIfCan_34 ?_
      show go_W mt_X10_comeIfCan fr_C 36 [some (pv_r a0), some (pv_i x1), some (pv_i x2), some (pv_i x3), some (pv_i x4), some (pv_i x5), some (pv_r v3), some (pv_r v11), none, none] [] M10 (qi_ P)
      refine go_iload dX10_comeIfCan_36 rfl ?_
      refine go_iconst (v := (-1 : Int32)) rfl dX10_comeIfCan_38 ?_
      refine go_icmp_eq (tgt := 60) dX10_comeIfCan_39 (by decide) (fun hc => ?_) (fun hc => ?_)
      · replace H := H.1 hc
        refine go_aload_n dX10_comeIfCan_60 rfl ?_
        refine go_aload dX10_comeIfCan_61 rfl ?_
        refine go_iload dX10_comeIfCan_63 rfl ?_
        refine go_aload dX10_comeIfCan_65 rfl ?_
        refine go_V (av := [pv_r v3, pv_i x4, pv_r v11]) (st := []) (ci := 10) ok_X10_whyNotCome ⟨by decide, by decide⟩ ml_X10_405 rfl (by decide) (fun v hv => by simp only [List.mem_cons, List.not_mem_nil, or_false] at hv; rcases hv with rfl | rfl | rfl <;> first | exact pv_1i | exact pv_1r) (Nat.le_of_ble_eq_true rfl) (fun _ h => h) (by decide) rfl k12 dX10_comeIfCan_67 H (fun r M14 hq hS => ?_)
        obtain ⟨v15, rfl, H⟩ := hq
        have k16 : mm_k M14 a0 = (10, 14) := ks_S k12 (by decide) hS
        have k17 : mm_k M14 (mm_r M a0 0) = (0, 4) := ks_S k13 (by decide) hS
        show go_W mt_X10_comeIfCan fr_C 70 [some (pv_r a0), some (pv_i x1), some (pv_i x2), some (pv_i x3), some (pv_i x4), some (pv_i x5), some (pv_r v3), some (pv_r v11), none, none] [pv_i v15] M14 (qi_ P)
        refine go_istore (by decide) dX10_comeIfCan_70 ?_
        show go_W mt_X10_comeIfCan fr_C 72 [some (pv_r a0), some (pv_i x1), some (pv_i x2), some (pv_i x3), some (pv_i x4), some (pv_i x5), some (pv_r v3), some (pv_r v11), some (pv_i v15), none] [] M14 (qi_ P)
        refine go_iload dX10_comeIfCan_72 rfl ?_
        refine go_iconst (v := (-1 : Int32)) rfl dX10_comeIfCan_74 ?_
        refine go_icmp_ge (tgt := 81) dX10_comeIfCan_75 (by decide) (fun hc => ?_) (fun hc => ?_)
        · replace H := H.1 hc
          obtain ⟨hr, H⟩ := H
          refine go_new (ci := 6) (N := 17) (by decide) rfl kl_X10_96 nw_X6 ni_X6 hr.1 hr.2 dX10_comeIfCan_81 ?_
          show go_W mt_X10_comeIfCan fr_C 84 [some (pv_r a0), some (pv_i x1), some (pv_i x2), some (pv_i x3), some (pv_i x4), some (pv_i x5), some (pv_r v3), some (pv_r v11), some (pv_i v15), none] [pv_r (mm_n M14)] (mm_w M14 6 17) (qi_ P)
          obtain ⟨M18, hM18⟩ : ∃ M', M' = mm_w M14 6 17 := ⟨_, rfl⟩
          have k19 : mm_k M18 a0 = (10, 14) := (by rw [hM18]; exact ks_S k16 (by decide) (mm_S_w (fr := fr_C)))
          have k20 : mm_k M18 (mm_r M a0 0) = (0, 4) := (by rw [hM18]; exact ks_S k17 (by decide) (mm_S_w (fr := fr_C)))
          have k21 : mm_k M18 (mm_n M14) = (6, 17) := by rw [hM18]; exact mm_k_w
          rw [← hM18]
          replace H := H M18 hM18
          refine go_dup pv_1r dX10_comeIfCan_84 ?_
          refine go_aload_n dX10_comeIfCan_85 rfl ?_
          refine go_getR (k := 2) ⟨by decide, rfl, by decide, Or.inl ⟨_, rfl⟩⟩ k19 fl_X10_28 dX10_comeIfCan_86 ?_
          obtain ⟨k22, H⟩ := H
          refine go_getI (k := 1) ⟨by decide, rfl, by decide, rfl⟩ k22 fl_X10_222 dX10_comeIfCan_89 ?_
          refine go_aload dX10_comeIfCan_92 rfl ?_
          refine go_aload dX10_comeIfCan_94 rfl ?_
          refine go_InK (av := [pv_i (mm_i M18 (mm_r M18 a0 2) 1), pv_r v3, pv_r v11]) (st := [pv_r (mm_n M14)]) (by decide) k21 ok_X6_init ⟨by decide, by decide⟩ ml_X10_409 rfl (by decide) (fun v hv => by simp only [List.mem_cons, List.not_mem_nil, or_false] at hv; rcases hv with rfl | rfl | rfl <;> first | exact pv_1i | exact pv_1r) (Nat.le_of_ble_eq_true rfl) (fun _ h => h) dX10_comeIfCan_96 H (fun r M23 hq hS => ?_)
          obtain ⟨rfl, H⟩ := hq
          have k24 : mm_k M23 a0 = (10, 14) := ks_S k19 (by decide) hS
          have k25 : mm_k M23 (mm_r M a0 0) = (0, 4) := ks_S k20 (by decide) hS
          have k26 : mm_k M23 (mm_n M14) = (6, 17) := ks_S k21 (by decide) hS
          have k27 : mm_k M23 (mm_r M18 a0 2) = (4, 2) := ks_S k22 (by decide) hS
          show go_W mt_X10_comeIfCan fr_C 99 [some (pv_r a0), some (pv_i x1), some (pv_i x2), some (pv_i x3), some (pv_i x4), some (pv_i x5), some (pv_r v3), some (pv_r v11), some (pv_i v15), none] [pv_r (mm_n M14)] M23 (qi_ P)
          refine go_astore (by decide) dX10_comeIfCan_99 ?_
          show go_W mt_X10_comeIfCan fr_C 101 [some (pv_r a0), some (pv_i x1), some (pv_i x2), some (pv_i x3), some (pv_i x4), some (pv_i x5), some (pv_r v3), some (pv_r v11), some (pv_i v15), some (pv_r (mm_n M14))] [] M23 (qi_ P)
          refine go_aload dX10_comeIfCan_101 rfl ?_
          refine go_iload_n dX10_comeIfCan_103 rfl ?_
          refine go_putI (k := 3) ⟨by decide, rfl, by decide, rfl⟩ k26 rfl (Or.inl rfl) fl_X10_412 dX10_comeIfCan_104 ?_
          show go_W mt_X10_comeIfCan fr_C 107 [some (pv_r a0), some (pv_i x1), some (pv_i x2), some (pv_i x3), some (pv_i x4), some (pv_i x5), some (pv_r v3), some (pv_r v11), some (pv_i v15), some (pv_r (mm_n M14))] [] (mm_pi M23 (mm_n M14) 3 x2) (qi_ P)
          obtain ⟨M28, hM28⟩ : ∃ M', M' = mm_pi M23 (mm_n M14) 3 x2 := ⟨_, rfl⟩
          have k29 : mm_k M28 a0 = (10, 14) := (by rw [hM28]; exact k24)
          have k30 : mm_k M28 (mm_r M a0 0) = (0, 4) := (by rw [hM28]; exact k25)
          have k31 : mm_k M28 (mm_n M14) = (6, 17) := (by rw [hM28]; exact k26)
          have k32 : mm_k M28 (mm_r M18 a0 2) = (4, 2) := (by rw [hM28]; exact k27)
          rw [← hM28]
          replace H := H M28 hM28
          refine go_aload dX10_comeIfCan_107 rfl ?_
          refine go_iload_n dX10_comeIfCan_109 rfl ?_
          refine go_putI (k := 4) ⟨by decide, rfl, by decide, rfl⟩ k31 rfl (Or.inl rfl) fl_X10_346 dX10_comeIfCan_110 ?_
          show go_W mt_X10_comeIfCan fr_C 113 [some (pv_r a0), some (pv_i x1), some (pv_i x2), some (pv_i x3), some (pv_i x4), some (pv_i x5), some (pv_r v3), some (pv_r v11), some (pv_i v15), some (pv_r (mm_n M14))] [] (mm_pi M28 (mm_n M14) 4 x3) (qi_ P)
          obtain ⟨M33, hM33⟩ : ∃ M', M' = mm_pi M28 (mm_n M14) 4 x3 := ⟨_, rfl⟩
          have k34 : mm_k M33 a0 = (10, 14) := (by rw [hM33]; exact k29)
          have k35 : mm_k M33 (mm_r M a0 0) = (0, 4) := (by rw [hM33]; exact k30)
          have k36 : mm_k M33 (mm_n M14) = (6, 17) := (by rw [hM33]; exact k31)
          have k37 : mm_k M33 (mm_r M18 a0 2) = (4, 2) := (by rw [hM33]; exact k32)
          rw [← hM33]
          replace H := H M33 hM33
          refine go_aload dX10_comeIfCan_113 rfl ?_
          refine go_iload dX10_comeIfCan_115 rfl ?_
          refine go_putI (k := 5) ⟨by decide, rfl, by decide, rfl⟩ k36 rfl (Or.inl rfl) fl_X10_415 dX10_comeIfCan_117 ?_
          show go_W mt_X10_comeIfCan fr_C 120 [some (pv_r a0), some (pv_i x1), some (pv_i x2), some (pv_i x3), some (pv_i x4), some (pv_i x5), some (pv_r v3), some (pv_r v11), some (pv_i v15), some (pv_r (mm_n M14))] [] (mm_pi M33 (mm_n M14) 5 x4) (qi_ P)
          obtain ⟨M38, hM38⟩ : ∃ M', M' = mm_pi M33 (mm_n M14) 5 x4 := ⟨_, rfl⟩
          have k39 : mm_k M38 a0 = (10, 14) := (by rw [hM38]; exact k34)
          have k40 : mm_k M38 (mm_r M a0 0) = (0, 4) := (by rw [hM38]; exact k35)
          have k41 : mm_k M38 (mm_n M14) = (6, 17) := (by rw [hM38]; exact k36)
          have k42 : mm_k M38 (mm_r M18 a0 2) = (4, 2) := (by rw [hM38]; exact k37)
          rw [← hM38]
          replace H := H M38 hM38
          refine go_aload dX10_comeIfCan_120 rfl ?_
          refine go_aload_n dX10_comeIfCan_122 rfl ?_
          refine go_getI (k := 11) ⟨by decide, rfl, by decide, rfl⟩ k39 fl_X10_108 dX10_comeIfCan_123 ?_
          refine go_putI (k := 6) ⟨by decide, rfl, by decide, rfl⟩ k41 rfl (Or.inl rfl) fl_X10_418 dX10_comeIfCan_126 ?_
          show go_W mt_X10_comeIfCan fr_C 129 [some (pv_r a0), some (pv_i x1), some (pv_i x2), some (pv_i x3), some (pv_i x4), some (pv_i x5), some (pv_r v3), some (pv_r v11), some (pv_i v15), some (pv_r (mm_n M14))] [] (mm_pi M38 (mm_n M14) 6 (mm_i M38 a0 11)) (qi_ P)
          obtain ⟨M43, hM43⟩ : ∃ M', M' = mm_pi M38 (mm_n M14) 6 (mm_i M38 a0 11) := ⟨_, rfl⟩
          have k44 : mm_k M43 a0 = (10, 14) := (by rw [hM43]; exact k39)
          have k45 : mm_k M43 (mm_r M a0 0) = (0, 4) := (by rw [hM43]; exact k40)
          have k46 : mm_k M43 (mm_n M14) = (6, 17) := (by rw [hM43]; exact k41)
          have k47 : mm_k M43 (mm_r M18 a0 2) = (4, 2) := (by rw [hM43]; exact k42)
          rw [← hM43]
          replace H := H M43 hM43
          refine go_aload_n dX10_comeIfCan_129 rfl ?_
          refine go_getR (k := 2) ⟨by decide, rfl, by decide, Or.inl ⟨_, rfl⟩⟩ k44 fl_X10_28 dX10_comeIfCan_130 ?_
          refine go_aload dX10_comeIfCan_133 rfl ?_
          obtain ⟨k48, H⟩ := H
          refine go_V (av := [pv_r (mm_n M14)]) (st := []) (ci := 4) ok_X4_append ⟨by decide, by decide⟩ ml_X10_419 rfl (by decide) (fun v hv => by simp only [List.mem_cons, List.not_mem_nil, or_false] at hv; rcases hv with rfl <;> first | exact pv_1i | exact pv_1r) (Nat.le_of_ble_eq_true rfl) (fun _ h => h) (by decide) rfl k48 dX10_comeIfCan_135 H (fun r M49 hq hS => ?_)
          obtain ⟨rfl, H⟩ := hq
          have k50 : mm_k M49 a0 = (10, 14) := ks_S k44 (by decide) hS
          have k51 : mm_k M49 (mm_r M a0 0) = (0, 4) := ks_S k45 (by decide) hS
          have k52 : mm_k M49 (mm_n M14) = (6, 17) := ks_S k46 (by decide) hS
          have k53 : mm_k M49 (mm_r M18 a0 2) = (4, 2) := ks_S k47 (by decide) hS
          have k54 : mm_k M49 (mm_r M43 a0 2) = (4, 2) := ks_S k48 (by decide) hS
          show go_W mt_X10_comeIfCan fr_C 138 [some (pv_r a0), some (pv_i x1), some (pv_i x2), some (pv_i x3), some (pv_i x4), some (pv_i x5), some (pv_r v3), some (pv_r v11), some (pv_i v15), some (pv_r (mm_n M14))] [] M49 (qi_ P)
          refine go_aload_n dX10_comeIfCan_138 rfl ?_
          refine go_iconst (v := (0 : Int32)) rfl dX10_comeIfCan_139 ?_
          refine go_aload dX10_comeIfCan_140 rfl ?_
          refine go_null dX10_comeIfCan_142 ?_
          refine go_iconst (v := (0 : Int32)) rfl dX10_comeIfCan_143 ?_
          refine go_V (av := [pv_i (0 : Int32), pv_r (mm_n M14), pv_r 0, pv_i (0 : Int32)]) (st := []) (ci := 10) ok_X10_note ⟨by decide, by decide⟩ ml_X10_181 rfl (by decide) (fun v hv => by simp only [List.mem_cons, List.not_mem_nil, or_false] at hv; rcases hv with rfl | rfl | rfl | rfl <;> first | exact pv_1i | exact pv_1r) (Nat.le_of_ble_eq_true rfl) (fun _ h => h) (by decide) rfl k50 dX10_comeIfCan_144 H (fun r M55 hq hS => ?_)
          obtain ⟨rfl, H⟩ := hq
          have k56 : mm_k M55 a0 = (10, 14) := ks_S k50 (by decide) hS
          have k57 : mm_k M55 (mm_r M a0 0) = (0, 4) := ks_S k51 (by decide) hS
          have k58 : mm_k M55 (mm_n M14) = (6, 17) := ks_S k52 (by decide) hS
          have k59 : mm_k M55 (mm_r M18 a0 2) = (4, 2) := ks_S k53 (by decide) hS
          have k60 : mm_k M55 (mm_r M43 a0 2) = (4, 2) := ks_S k54 (by decide) hS
          show go_W mt_X10_comeIfCan fr_C 147 [some (pv_r a0), some (pv_i x1), some (pv_i x2), some (pv_i x3), some (pv_i x4), some (pv_i x5), some (pv_r v3), some (pv_r v11), some (pv_i v15), some (pv_r (mm_n M14))] [] M55 (qi_ P)
          refine go_aload_n dX10_comeIfCan_147 rfl ?_
          refine go_getR (k := 0) ⟨by decide, rfl, by decide, Or.inl ⟨_, rfl⟩⟩ k56 fl_X10_10 dX10_comeIfCan_148 ?_
          refine go_aload dX10_comeIfCan_151 rfl ?_
          obtain ⟨k61, H⟩ := H
          refine go_V (av := [pv_r (mm_n M14)]) (st := []) (ci := 0) ok_X0_settle ⟨by decide, by decide⟩ ml_X10_219 rfl (by decide) (fun v hv => by simp only [List.mem_cons, List.not_mem_nil, or_false] at hv; rcases hv with rfl <;> first | exact pv_1i | exact pv_1r) (Nat.le_of_ble_eq_true rfl) (fun _ h => h) (by decide) rfl k61 dX10_comeIfCan_153 H (fun r M62 hq hS => ?_)
          obtain ⟨rfl, H⟩ := hq
          have k63 : mm_k M62 a0 = (10, 14) := ks_S k56 (by decide) hS
          have k64 : mm_k M62 (mm_r M a0 0) = (0, 4) := ks_S k57 (by decide) hS
          have k65 : mm_k M62 (mm_n M14) = (6, 17) := ks_S k58 (by decide) hS
          have k66 : mm_k M62 (mm_r M18 a0 2) = (4, 2) := ks_S k59 (by decide) hS
          have k67 : mm_k M62 (mm_r M43 a0 2) = (4, 2) := ks_S k60 (by decide) hS
          have k68 : mm_k M62 (mm_r M55 a0 0) = (0, 4) := ks_S k61 (by decide) hS
          show go_W mt_X10_comeIfCan fr_C 156 [some (pv_r a0), some (pv_i x1), some (pv_i x2), some (pv_i x3), some (pv_i x4), some (pv_i x5), some (pv_r v3), some (pv_r v11), some (pv_i v15), some (pv_r (mm_n M14))] [] M62 (qi_ P)
          refine go_aload dX10_comeIfCan_156 rfl ?_
          refine go_getI (k := 0) ⟨by decide, rfl, by decide, rfl⟩ k65 fl_X10_95 dX10_comeIfCan_158 ?_
          exact go_iret rfl rfl dX10_comeIfCan_161 ⟨_, rfl, H⟩
        · replace H := H.2 hc
          refine go_iload dX10_comeIfCan_78 rfl ?_
          exact go_iret rfl rfl dX10_comeIfCan_80 ⟨_, rfl, H⟩
      · replace H := H.2 hc
        refine go_aload dX10_comeIfCan_42 rfl ?_
        refine go_ifnull (tgt := 57) dX10_comeIfCan_44 (by decide) (fun hc => ?_) (fun hc => ?_)
        · replace H := H.1 hc
          refine go_bipush (v := (-2 : Int32)) rfl dX10_comeIfCan_57 ?_
          exact go_iret rfl rfl dX10_comeIfCan_59 ⟨_, rfl, H⟩
        · replace H := H.2 hc
          refine go_aload dX10_comeIfCan_47 rfl ?_
          obtain ⟨k69, H⟩ := H
          refine go_getI (k := 7) ⟨by decide, rfl, by decide, rfl⟩ k69 fl_X10_105 dX10_comeIfCan_49 ?_
          refine go_bipush (v := (6 : Int32)) rfl dX10_comeIfCan_52 ?_
          refine go_icmp_ne (tgt := 60) dX10_comeIfCan_54 (by decide) (fun hc => ?_) (fun hc => ?_)
          · replace H := H.1 hc
            refine go_aload_n dX10_comeIfCan_60 rfl ?_
            refine go_aload dX10_comeIfCan_61 rfl ?_
            refine go_iload dX10_comeIfCan_63 rfl ?_
            refine go_aload dX10_comeIfCan_65 rfl ?_
            refine go_V (av := [pv_r v3, pv_i x4, pv_r v11]) (st := []) (ci := 10) ok_X10_whyNotCome ⟨by decide, by decide⟩ ml_X10_405 rfl (by decide) (fun v hv => by simp only [List.mem_cons, List.not_mem_nil, or_false] at hv; rcases hv with rfl | rfl | rfl <;> first | exact pv_1i | exact pv_1r) (Nat.le_of_ble_eq_true rfl) (fun _ h => h) (by decide) rfl k12 dX10_comeIfCan_67 H (fun r M70 hq hS => ?_)
            obtain ⟨v71, rfl, H⟩ := hq
            have k72 : mm_k M70 a0 = (10, 14) := ks_S k12 (by decide) hS
            have k73 : mm_k M70 (mm_r M a0 0) = (0, 4) := ks_S k13 (by decide) hS
            have k74 : mm_k M70 v11 = (6, 17) := ks_S k69 (by decide) hS
            show go_W mt_X10_comeIfCan fr_C 70 [some (pv_r a0), some (pv_i x1), some (pv_i x2), some (pv_i x3), some (pv_i x4), some (pv_i x5), some (pv_r v3), some (pv_r v11), none, none] [pv_i v71] M70 (qi_ P)
            refine go_istore (by decide) dX10_comeIfCan_70 ?_
            show go_W mt_X10_comeIfCan fr_C 72 [some (pv_r a0), some (pv_i x1), some (pv_i x2), some (pv_i x3), some (pv_i x4), some (pv_i x5), some (pv_r v3), some (pv_r v11), some (pv_i v71), none] [] M70 (qi_ P)
            refine go_iload dX10_comeIfCan_72 rfl ?_
            refine go_iconst (v := (-1 : Int32)) rfl dX10_comeIfCan_74 ?_
            refine go_icmp_ge (tgt := 81) dX10_comeIfCan_75 (by decide) (fun hc => ?_) (fun hc => ?_)
            · replace H := H.1 hc
              obtain ⟨hr, H⟩ := H
              refine go_new (ci := 6) (N := 17) (by decide) rfl kl_X10_96 nw_X6 ni_X6 hr.1 hr.2 dX10_comeIfCan_81 ?_
              show go_W mt_X10_comeIfCan fr_C 84 [some (pv_r a0), some (pv_i x1), some (pv_i x2), some (pv_i x3), some (pv_i x4), some (pv_i x5), some (pv_r v3), some (pv_r v11), some (pv_i v71), none] [pv_r (mm_n M70)] (mm_w M70 6 17) (qi_ P)
              obtain ⟨M75, hM75⟩ : ∃ M', M' = mm_w M70 6 17 := ⟨_, rfl⟩
              have k76 : mm_k M75 a0 = (10, 14) := (by rw [hM75]; exact ks_S k72 (by decide) (mm_S_w (fr := fr_C)))
              have k77 : mm_k M75 (mm_r M a0 0) = (0, 4) := (by rw [hM75]; exact ks_S k73 (by decide) (mm_S_w (fr := fr_C)))
              have k78 : mm_k M75 v11 = (6, 17) := (by rw [hM75]; exact ks_S k74 (by decide) (mm_S_w (fr := fr_C)))
              have k79 : mm_k M75 (mm_n M70) = (6, 17) := by rw [hM75]; exact mm_k_w
              rw [← hM75]
              replace H := H M75 hM75
              refine go_dup pv_1r dX10_comeIfCan_84 ?_
              refine go_aload_n dX10_comeIfCan_85 rfl ?_
              refine go_getR (k := 2) ⟨by decide, rfl, by decide, Or.inl ⟨_, rfl⟩⟩ k76 fl_X10_28 dX10_comeIfCan_86 ?_
              obtain ⟨k80, H⟩ := H
              refine go_getI (k := 1) ⟨by decide, rfl, by decide, rfl⟩ k80 fl_X10_222 dX10_comeIfCan_89 ?_
              refine go_aload dX10_comeIfCan_92 rfl ?_
              refine go_aload dX10_comeIfCan_94 rfl ?_
              refine go_InK (av := [pv_i (mm_i M75 (mm_r M75 a0 2) 1), pv_r v3, pv_r v11]) (st := [pv_r (mm_n M70)]) (by decide) k79 ok_X6_init ⟨by decide, by decide⟩ ml_X10_409 rfl (by decide) (fun v hv => by simp only [List.mem_cons, List.not_mem_nil, or_false] at hv; rcases hv with rfl | rfl | rfl <;> first | exact pv_1i | exact pv_1r) (Nat.le_of_ble_eq_true rfl) (fun _ h => h) dX10_comeIfCan_96 H (fun r M81 hq hS => ?_)
              obtain ⟨rfl, H⟩ := hq
              have k82 : mm_k M81 a0 = (10, 14) := ks_S k76 (by decide) hS
              have k83 : mm_k M81 (mm_r M a0 0) = (0, 4) := ks_S k77 (by decide) hS
              have k84 : mm_k M81 v11 = (6, 17) := ks_S k78 (by decide) hS
              have k85 : mm_k M81 (mm_n M70) = (6, 17) := ks_S k79 (by decide) hS
              have k86 : mm_k M81 (mm_r M75 a0 2) = (4, 2) := ks_S k80 (by decide) hS
              show go_W mt_X10_comeIfCan fr_C 99 [some (pv_r a0), some (pv_i x1), some (pv_i x2), some (pv_i x3), some (pv_i x4), some (pv_i x5), some (pv_r v3), some (pv_r v11), some (pv_i v71), none] [pv_r (mm_n M70)] M81 (qi_ P)
              refine go_astore (by decide) dX10_comeIfCan_99 ?_
              show go_W mt_X10_comeIfCan fr_C 101 [some (pv_r a0), some (pv_i x1), some (pv_i x2), some (pv_i x3), some (pv_i x4), some (pv_i x5), some (pv_r v3), some (pv_r v11), some (pv_i v71), some (pv_r (mm_n M70))] [] M81 (qi_ P)
              refine go_aload dX10_comeIfCan_101 rfl ?_
              refine go_iload_n dX10_comeIfCan_103 rfl ?_
              refine go_putI (k := 3) ⟨by decide, rfl, by decide, rfl⟩ k85 rfl (Or.inl rfl) fl_X10_412 dX10_comeIfCan_104 ?_
              show go_W mt_X10_comeIfCan fr_C 107 [some (pv_r a0), some (pv_i x1), some (pv_i x2), some (pv_i x3), some (pv_i x4), some (pv_i x5), some (pv_r v3), some (pv_r v11), some (pv_i v71), some (pv_r (mm_n M70))] [] (mm_pi M81 (mm_n M70) 3 x2) (qi_ P)
              obtain ⟨M87, hM87⟩ : ∃ M', M' = mm_pi M81 (mm_n M70) 3 x2 := ⟨_, rfl⟩
              have k88 : mm_k M87 a0 = (10, 14) := (by rw [hM87]; exact k82)
              have k89 : mm_k M87 (mm_r M a0 0) = (0, 4) := (by rw [hM87]; exact k83)
              have k90 : mm_k M87 v11 = (6, 17) := (by rw [hM87]; exact k84)
              have k91 : mm_k M87 (mm_n M70) = (6, 17) := (by rw [hM87]; exact k85)
              have k92 : mm_k M87 (mm_r M75 a0 2) = (4, 2) := (by rw [hM87]; exact k86)
              rw [← hM87]
              replace H := H M87 hM87
              refine go_aload dX10_comeIfCan_107 rfl ?_
              refine go_iload_n dX10_comeIfCan_109 rfl ?_
              refine go_putI (k := 4) ⟨by decide, rfl, by decide, rfl⟩ k91 rfl (Or.inl rfl) fl_X10_346 dX10_comeIfCan_110 ?_
              show go_W mt_X10_comeIfCan fr_C 113 [some (pv_r a0), some (pv_i x1), some (pv_i x2), some (pv_i x3), some (pv_i x4), some (pv_i x5), some (pv_r v3), some (pv_r v11), some (pv_i v71), some (pv_r (mm_n M70))] [] (mm_pi M87 (mm_n M70) 4 x3) (qi_ P)
              obtain ⟨M93, hM93⟩ : ∃ M', M' = mm_pi M87 (mm_n M70) 4 x3 := ⟨_, rfl⟩
              have k94 : mm_k M93 a0 = (10, 14) := (by rw [hM93]; exact k88)
              have k95 : mm_k M93 (mm_r M a0 0) = (0, 4) := (by rw [hM93]; exact k89)
              have k96 : mm_k M93 v11 = (6, 17) := (by rw [hM93]; exact k90)
              have k97 : mm_k M93 (mm_n M70) = (6, 17) := (by rw [hM93]; exact k91)
              have k98 : mm_k M93 (mm_r M75 a0 2) = (4, 2) := (by rw [hM93]; exact k92)
              rw [← hM93]
              replace H := H M93 hM93
              refine go_aload dX10_comeIfCan_113 rfl ?_
              refine go_iload dX10_comeIfCan_115 rfl ?_
              refine go_putI (k := 5) ⟨by decide, rfl, by decide, rfl⟩ k97 rfl (Or.inl rfl) fl_X10_415 dX10_comeIfCan_117 ?_
              show go_W mt_X10_comeIfCan fr_C 120 [some (pv_r a0), some (pv_i x1), some (pv_i x2), some (pv_i x3), some (pv_i x4), some (pv_i x5), some (pv_r v3), some (pv_r v11), some (pv_i v71), some (pv_r (mm_n M70))] [] (mm_pi M93 (mm_n M70) 5 x4) (qi_ P)
              obtain ⟨M99, hM99⟩ : ∃ M', M' = mm_pi M93 (mm_n M70) 5 x4 := ⟨_, rfl⟩
              have k100 : mm_k M99 a0 = (10, 14) := (by rw [hM99]; exact k94)
              have k101 : mm_k M99 (mm_r M a0 0) = (0, 4) := (by rw [hM99]; exact k95)
              have k102 : mm_k M99 v11 = (6, 17) := (by rw [hM99]; exact k96)
              have k103 : mm_k M99 (mm_n M70) = (6, 17) := (by rw [hM99]; exact k97)
              have k104 : mm_k M99 (mm_r M75 a0 2) = (4, 2) := (by rw [hM99]; exact k98)
              rw [← hM99]
              replace H := H M99 hM99
              refine go_aload dX10_comeIfCan_120 rfl ?_
              refine go_aload_n dX10_comeIfCan_122 rfl ?_
              refine go_getI (k := 11) ⟨by decide, rfl, by decide, rfl⟩ k100 fl_X10_108 dX10_comeIfCan_123 ?_
              refine go_putI (k := 6) ⟨by decide, rfl, by decide, rfl⟩ k103 rfl (Or.inl rfl) fl_X10_418 dX10_comeIfCan_126 ?_
              show go_W mt_X10_comeIfCan fr_C 129 [some (pv_r a0), some (pv_i x1), some (pv_i x2), some (pv_i x3), some (pv_i x4), some (pv_i x5), some (pv_r v3), some (pv_r v11), some (pv_i v71), some (pv_r (mm_n M70))] [] (mm_pi M99 (mm_n M70) 6 (mm_i M99 a0 11)) (qi_ P)
              obtain ⟨M105, hM105⟩ : ∃ M', M' = mm_pi M99 (mm_n M70) 6 (mm_i M99 a0 11) := ⟨_, rfl⟩
              have k106 : mm_k M105 a0 = (10, 14) := (by rw [hM105]; exact k100)
              have k107 : mm_k M105 (mm_r M a0 0) = (0, 4) := (by rw [hM105]; exact k101)
              have k108 : mm_k M105 v11 = (6, 17) := (by rw [hM105]; exact k102)
              have k109 : mm_k M105 (mm_n M70) = (6, 17) := (by rw [hM105]; exact k103)
              have k110 : mm_k M105 (mm_r M75 a0 2) = (4, 2) := (by rw [hM105]; exact k104)
              rw [← hM105]
              replace H := H M105 hM105
              refine go_aload_n dX10_comeIfCan_129 rfl ?_
              refine go_getR (k := 2) ⟨by decide, rfl, by decide, Or.inl ⟨_, rfl⟩⟩ k106 fl_X10_28 dX10_comeIfCan_130 ?_
              refine go_aload dX10_comeIfCan_133 rfl ?_
              obtain ⟨k111, H⟩ := H
              refine go_V (av := [pv_r (mm_n M70)]) (st := []) (ci := 4) ok_X4_append ⟨by decide, by decide⟩ ml_X10_419 rfl (by decide) (fun v hv => by simp only [List.mem_cons, List.not_mem_nil, or_false] at hv; rcases hv with rfl <;> first | exact pv_1i | exact pv_1r) (Nat.le_of_ble_eq_true rfl) (fun _ h => h) (by decide) rfl k111 dX10_comeIfCan_135 H (fun r M112 hq hS => ?_)
              obtain ⟨rfl, H⟩ := hq
              have k113 : mm_k M112 a0 = (10, 14) := ks_S k106 (by decide) hS
              have k114 : mm_k M112 (mm_r M a0 0) = (0, 4) := ks_S k107 (by decide) hS
              have k115 : mm_k M112 v11 = (6, 17) := ks_S k108 (by decide) hS
              have k116 : mm_k M112 (mm_n M70) = (6, 17) := ks_S k109 (by decide) hS
              have k117 : mm_k M112 (mm_r M75 a0 2) = (4, 2) := ks_S k110 (by decide) hS
              have k118 : mm_k M112 (mm_r M105 a0 2) = (4, 2) := ks_S k111 (by decide) hS
              show go_W mt_X10_comeIfCan fr_C 138 [some (pv_r a0), some (pv_i x1), some (pv_i x2), some (pv_i x3), some (pv_i x4), some (pv_i x5), some (pv_r v3), some (pv_r v11), some (pv_i v71), some (pv_r (mm_n M70))] [] M112 (qi_ P)
              refine go_aload_n dX10_comeIfCan_138 rfl ?_
              refine go_iconst (v := (0 : Int32)) rfl dX10_comeIfCan_139 ?_
              refine go_aload dX10_comeIfCan_140 rfl ?_
              refine go_null dX10_comeIfCan_142 ?_
              refine go_iconst (v := (0 : Int32)) rfl dX10_comeIfCan_143 ?_
              refine go_V (av := [pv_i (0 : Int32), pv_r (mm_n M70), pv_r 0, pv_i (0 : Int32)]) (st := []) (ci := 10) ok_X10_note ⟨by decide, by decide⟩ ml_X10_181 rfl (by decide) (fun v hv => by simp only [List.mem_cons, List.not_mem_nil, or_false] at hv; rcases hv with rfl | rfl | rfl | rfl <;> first | exact pv_1i | exact pv_1r) (Nat.le_of_ble_eq_true rfl) (fun _ h => h) (by decide) rfl k113 dX10_comeIfCan_144 H (fun r M119 hq hS => ?_)
              obtain ⟨rfl, H⟩ := hq
              have k120 : mm_k M119 a0 = (10, 14) := ks_S k113 (by decide) hS
              have k121 : mm_k M119 (mm_r M a0 0) = (0, 4) := ks_S k114 (by decide) hS
              have k122 : mm_k M119 v11 = (6, 17) := ks_S k115 (by decide) hS
              have k123 : mm_k M119 (mm_n M70) = (6, 17) := ks_S k116 (by decide) hS
              have k124 : mm_k M119 (mm_r M75 a0 2) = (4, 2) := ks_S k117 (by decide) hS
              have k125 : mm_k M119 (mm_r M105 a0 2) = (4, 2) := ks_S k118 (by decide) hS
              show go_W mt_X10_comeIfCan fr_C 147 [some (pv_r a0), some (pv_i x1), some (pv_i x2), some (pv_i x3), some (pv_i x4), some (pv_i x5), some (pv_r v3), some (pv_r v11), some (pv_i v71), some (pv_r (mm_n M70))] [] M119 (qi_ P)
              refine go_aload_n dX10_comeIfCan_147 rfl ?_
              refine go_getR (k := 0) ⟨by decide, rfl, by decide, Or.inl ⟨_, rfl⟩⟩ k120 fl_X10_10 dX10_comeIfCan_148 ?_
              refine go_aload dX10_comeIfCan_151 rfl ?_
              obtain ⟨k126, H⟩ := H
              refine go_V (av := [pv_r (mm_n M70)]) (st := []) (ci := 0) ok_X0_settle ⟨by decide, by decide⟩ ml_X10_219 rfl (by decide) (fun v hv => by simp only [List.mem_cons, List.not_mem_nil, or_false] at hv; rcases hv with rfl <;> first | exact pv_1i | exact pv_1r) (Nat.le_of_ble_eq_true rfl) (fun _ h => h) (by decide) rfl k126 dX10_comeIfCan_153 H (fun r M127 hq hS => ?_)
              obtain ⟨rfl, H⟩ := hq
              have k128 : mm_k M127 a0 = (10, 14) := ks_S k120 (by decide) hS
              have k129 : mm_k M127 (mm_r M a0 0) = (0, 4) := ks_S k121 (by decide) hS
              have k130 : mm_k M127 v11 = (6, 17) := ks_S k122 (by decide) hS
              have k131 : mm_k M127 (mm_n M70) = (6, 17) := ks_S k123 (by decide) hS
              have k132 : mm_k M127 (mm_r M75 a0 2) = (4, 2) := ks_S k124 (by decide) hS
              have k133 : mm_k M127 (mm_r M105 a0 2) = (4, 2) := ks_S k125 (by decide) hS
              have k134 : mm_k M127 (mm_r M119 a0 0) = (0, 4) := ks_S k126 (by decide) hS
              show go_W mt_X10_comeIfCan fr_C 156 [some (pv_r a0), some (pv_i x1), some (pv_i x2), some (pv_i x3), some (pv_i x4), some (pv_i x5), some (pv_r v3), some (pv_r v11), some (pv_i v71), some (pv_r (mm_n M70))] [] M127 (qi_ P)
              refine go_aload dX10_comeIfCan_156 rfl ?_
              refine go_getI (k := 0) ⟨by decide, rfl, by decide, rfl⟩ k131 fl_X10_95 dX10_comeIfCan_158 ?_
              exact go_iret rfl rfl dX10_comeIfCan_161 ⟨_, rfl, H⟩
            · replace H := H.2 hc
              refine go_iload dX10_comeIfCan_78 rfl ?_
              exact go_iret rfl rfl dX10_comeIfCan_80 ⟨_, rfl, H⟩
          · replace H := H.2 hc
            refine go_bipush (v := (-2 : Int32)) rfl dX10_comeIfCan_57 ?_
            exact go_iret rfl rfl dX10_comeIfCan_59 ⟨_, rfl, H⟩
    · replace H := H.2 hc
      refine go_bipush (v := (-2 : Int32)) rfl dX10_comeIfCan_25 ?_
      exact go_iret rfl rfl dX10_comeIfCan_27 ⟨_, rfl, H⟩
set_option maxRecDepth 20000 in
theorem wc_X10_whyNotCome_0 {M : mm_T} {a0 a1 a3 : Nat} {x2 : Int32} {P : Int32 → mm_T → Prop} (K0 : mm_k M a0 = (10, 14)) (H : mm_k M a1 = (3, 14) ∧ ((((¬ mm_i M a1 4 = 0) → P (-3 : Int32) M) ∧ ((mm_i M a1 4 = 0) → (((a3 = 0) → mm_k M (mm_r M a0 0) = (0, 4) ∧ (cs_i mt_X0_hasRoomIn [pv_r (mm_r M a0 0), pv_r a1] M (fun v4 M3 => (((¬ v4 = 0) → mm_k M3 (mm_r M3 a0 0) = (0, 4) ∧ (cs_r mt_X0_withKey [pv_r (mm_r M3 a0 0), pv_i x2] M3 (fun v10 M9 => (((v10 = 0) → mm_k M9 (mm_r M9 a0 2) = (4, 2) ∧ ((((mm_i M9 (mm_r M9 a0 2) 1 < (400 : Int32)) → mm_k M9 (mm_r M9 a0 7) = (5, 3) ∧ (cs_i mt_X5_count [pv_r (mm_r M9 a0 7), pv_i x2] M9 (fun v18 M17 => mm_k M17 (mm_r M17 a0 0) = (0, 4) ∧ (∃ l26, ak_ M17 (mm_r M17 (mm_r M17 a0 0) 3) 0 l26 ∧ (5 < l26 ∧ ((((v18 < mm_i M17 (mm_r M17 (mm_r M17 a0 0) 3) 5) → P (0 : Int32) M17) ∧ ((¬ v18 < mm_i M17 (mm_r M17 (mm_r M17 a0 0) 3) 5) → P (-7 : Int32) M17)))))))) ∧ ((¬ mm_i M9 (mm_r M9 a0 2) 1 < (400 : Int32)) → P (-6 : Int32) M9)))) ∧ ((¬ v10 = 0) → P (-5 : Int32) M9))))) ∧ ((v4 = 0) → P (-4 : Int32) M3))))) ∧ ((¬ a3 = 0) → mm_k M a3 = (6, 17) ∧ ((((¬ mm_i M a3 7 = (5 : Int32)) → mm_k M (mm_r M a0 0) = (0, 4) ∧ (cs_i mt_X0_hasRoomIn [pv_r (mm_r M a0 0), pv_r a1] M (fun v32 M31 => (((¬ v32 = 0) → mm_k M31 (mm_r M31 a0 0) = (0, 4) ∧ (cs_r mt_X0_withKey [pv_r (mm_r M31 a0 0), pv_i x2] M31 (fun v39 M38 => (((v39 = 0) → mm_k M38 (mm_r M38 a0 2) = (4, 2) ∧ ((((mm_i M38 (mm_r M38 a0 2) 1 < (400 : Int32)) → mm_k M38 (mm_r M38 a0 7) = (5, 3) ∧ (cs_i mt_X5_count [pv_r (mm_r M38 a0 7), pv_i x2] M38 (fun v48 M47 => mm_k M47 (mm_r M47 a0 0) = (0, 4) ∧ (∃ l57, ak_ M47 (mm_r M47 (mm_r M47 a0 0) 3) 0 l57 ∧ (5 < l57 ∧ ((((v48 < mm_i M47 (mm_r M47 (mm_r M47 a0 0) 3) 5) → P (0 : Int32) M47) ∧ ((¬ v48 < mm_i M47 (mm_r M47 (mm_r M47 a0 0) 3) 5) → P (-7 : Int32) M47)))))))) ∧ ((¬ mm_i M38 (mm_r M38 a0 2) 1 < (400 : Int32)) → P (-6 : Int32) M38)))) ∧ ((¬ v39 = 0) → P (-5 : Int32) M38))))) ∧ ((v32 = 0) → P (-4 : Int32) M31))))) ∧ ((mm_i M a3 7 = (5 : Int32)) → P (-3 : Int32) M))))))))) : cw_i mt_X10_whyNotCome 0 [some (pv_r a0), some (pv_r a1), some (pv_i x2), some (pv_r a3)] [] M P := by
  refine go_aload_n dX10_whyNotCome_0 rfl ?_
  obtain ⟨k1, H⟩ := H
  refine go_getI (k := 4) ⟨by decide, rfl, by decide, rfl⟩ k1 fl_X10_160 dX10_whyNotCome_1 ?_
  refine go_if_ne (tgt := 19) dX10_whyNotCome_4 (by decide) (fun hc => ?_) (fun hc => ?_)
  · replace H := H.1 hc
    refine go_bipush (v := (-3 : Int32)) rfl dX10_whyNotCome_19 ?_
    exact go_iret rfl rfl dX10_whyNotCome_21 ⟨_, rfl, H⟩
  · replace H := H.2 hc
    refine go_aload_n dX10_whyNotCome_7 rfl ?_
    refine go_ifnull (tgt := 22) dX10_whyNotCome_8 (by decide) (fun hc => ?_) (fun hc => ?_)
    · replace H := H.1 hc
      refine go_aload_n dX10_whyNotCome_22 rfl ?_
      refine go_getR (k := 0) ⟨by decide, rfl, by decide, Or.inl ⟨_, rfl⟩⟩ K0 fl_X10_10 dX10_whyNotCome_23 ?_
      refine go_aload_n dX10_whyNotCome_26 rfl ?_
      obtain ⟨k2, H⟩ := H
      refine go_V (av := [pv_r a1]) (st := []) (ci := 0) ok_X0_hasRoomIn ⟨by decide, by decide⟩ ml_X10_422 rfl (by decide) (fun v hv => by simp only [List.mem_cons, List.not_mem_nil, or_false] at hv; rcases hv with rfl <;> first | exact pv_1i | exact pv_1r) (Nat.le_of_ble_eq_true rfl) (fun _ h => h) (by decide) rfl k2 dX10_whyNotCome_27 H (fun r M3 hq hS => ?_)
      obtain ⟨v4, rfl, H⟩ := hq
      have k5 : mm_k M3 a0 = (10, 14) := ks_S K0 (by decide) hS
      have k6 : mm_k M3 a1 = (3, 14) := ks_S k1 (by decide) hS
      have k7 : mm_k M3 (mm_r M a0 0) = (0, 4) := ks_S k2 (by decide) hS
      show go_W mt_X10_whyNotCome fr_C 30 [some (pv_r a0), some (pv_r a1), some (pv_i x2), some (pv_r a3)] [pv_i v4] M3 (qi_ P)
      refine go_if_ne (tgt := 36) dX10_whyNotCome_30 (by decide) (fun hc => ?_) (fun hc => ?_)
      · replace H := H.1 hc
        refine go_aload_n dX10_whyNotCome_36 rfl ?_
        refine go_getR (k := 0) ⟨by decide, rfl, by decide, Or.inl ⟨_, rfl⟩⟩ k5 fl_X10_10 dX10_whyNotCome_37 ?_
        refine go_iload_n dX10_whyNotCome_40 rfl ?_
        obtain ⟨k8, H⟩ := H
        refine go_V (av := [pv_i x2]) (st := []) (ci := 0) ok_X0_withKey ⟨by decide, by decide⟩ ml_X10_286 rfl (by decide) (fun v hv => by simp only [List.mem_cons, List.not_mem_nil, or_false] at hv; rcases hv with rfl <;> first | exact pv_1i | exact pv_1r) (Nat.le_of_ble_eq_true rfl) (fun _ h => h) (by decide) rfl k8 dX10_whyNotCome_41 H (fun r M9 hq hS => ?_)
        obtain ⟨v10, rfl, H⟩ := hq
        have k11 : mm_k M9 a0 = (10, 14) := ks_S k5 (by decide) hS
        have k12 : mm_k M9 a1 = (3, 14) := ks_S k6 (by decide) hS
        have k13 : mm_k M9 (mm_r M a0 0) = (0, 4) := ks_S k7 (by decide) hS
        have k14 : mm_k M9 (mm_r M3 a0 0) = (0, 4) := ks_S k8 (by decide) hS
        show go_W mt_X10_whyNotCome fr_C 44 [some (pv_r a0), some (pv_r a1), some (pv_i x2), some (pv_r a3)] [pv_r v10] M9 (qi_ P)
        refine go_ifnull (tgt := 50) dX10_whyNotCome_44 (by decide) (fun hc => ?_) (fun hc => ?_)
        · replace H := H.1 hc
          refine go_aload_n dX10_whyNotCome_50 rfl ?_
          refine go_getR (k := 2) ⟨by decide, rfl, by decide, Or.inl ⟨_, rfl⟩⟩ k11 fl_X10_28 dX10_whyNotCome_51 ?_
          obtain ⟨k15, H⟩ := H
          refine go_getI (k := 1) ⟨by decide, rfl, by decide, rfl⟩ k15 fl_X10_222 dX10_whyNotCome_54 ?_
          refine go_sipush (v := (400 : Int32)) rfl dX10_whyNotCome_57 ?_
          refine go_icmp_lt (tgt := 66) dX10_whyNotCome_60 (by decide) (fun hc => ?_) (fun hc => ?_)
          · replace H := H.1 hc
            refine go_aload_n dX10_whyNotCome_66 rfl ?_
            refine go_getR (k := 7) ⟨by decide, rfl, by decide, Or.inl ⟨_, rfl⟩⟩ k11 fl_X10_54 dX10_whyNotCome_67 ?_
            refine go_iload_n dX10_whyNotCome_70 rfl ?_
            obtain ⟨k16, H⟩ := H
            refine go_V (av := [pv_i x2]) (st := []) (ci := 5) ok_X5_count ⟨by decide, by decide⟩ ml_X10_238 rfl (by decide) (fun v hv => by simp only [List.mem_cons, List.not_mem_nil, or_false] at hv; rcases hv with rfl <;> first | exact pv_1i | exact pv_1r) (Nat.le_of_ble_eq_true rfl) (fun _ h => h) (by decide) rfl k16 dX10_whyNotCome_71 H (fun r M17 hq hS => ?_)
            obtain ⟨v18, rfl, H⟩ := hq
            have k19 : mm_k M17 a0 = (10, 14) := ks_S k11 (by decide) hS
            have k20 : mm_k M17 a1 = (3, 14) := ks_S k12 (by decide) hS
            have k21 : mm_k M17 (mm_r M a0 0) = (0, 4) := ks_S k13 (by decide) hS
            have k22 : mm_k M17 (mm_r M3 a0 0) = (0, 4) := ks_S k14 (by decide) hS
            have k23 : mm_k M17 (mm_r M9 a0 2) = (4, 2) := ks_S k15 (by decide) hS
            have k24 : mm_k M17 (mm_r M9 a0 7) = (5, 3) := ks_S k16 (by decide) hS
            show go_W mt_X10_whyNotCome fr_C 74 [some (pv_r a0), some (pv_r a1), some (pv_i x2), some (pv_r a3)] [pv_i v18] M17 (qi_ P)
            refine go_aload_n dX10_whyNotCome_74 rfl ?_
            refine go_getR (k := 0) ⟨by decide, rfl, by decide, Or.inl ⟨_, rfl⟩⟩ k19 fl_X10_10 dX10_whyNotCome_75 ?_
            obtain ⟨k25, H⟩ := H
            refine go_getR (k := 3) ⟨by decide, rfl, by decide, Or.inr ⟨_, rfl⟩⟩ k25 fl_X10_111 dX10_whyNotCome_78 ?_
            refine go_iconst (v := (5 : Int32)) rfl dX10_whyNotCome_81 ?_
            obtain ⟨l26, k27, H⟩ := H
            obtain ⟨hb28, H⟩ := H
            refine go_ialdA (j := 5) k27 rfl hb28 dX10_whyNotCome_82 ?_
            refine go_icmp_lt (tgt := 91) dX10_whyNotCome_83 (by decide) (fun hc => ?_) (fun hc => ?_)
            · replace H := H.1 hc
              refine go_iconst (v := (0 : Int32)) rfl dX10_whyNotCome_91 ?_
              exact go_iret rfl rfl dX10_whyNotCome_92 ⟨_, rfl, H⟩
            · replace H := H.2 hc
              refine go_bipush (v := (-7 : Int32)) rfl dX10_whyNotCome_86 ?_
              refine go_goto (tgt := 92) dX10_whyNotCome_88 (by decide) ?_
              exact go_iret rfl rfl dX10_whyNotCome_92 ⟨_, rfl, H⟩
          · replace H := H.2 hc
            refine go_bipush (v := (-6 : Int32)) rfl dX10_whyNotCome_63 ?_
            exact go_iret rfl rfl dX10_whyNotCome_65 ⟨_, rfl, H⟩
        · replace H := H.2 hc
          refine go_bipush (v := (-5 : Int32)) rfl dX10_whyNotCome_47 ?_
          exact go_iret rfl rfl dX10_whyNotCome_49 ⟨_, rfl, H⟩
      · replace H := H.2 hc
        refine go_bipush (v := (-4 : Int32)) rfl dX10_whyNotCome_33 ?_
        exact go_iret rfl rfl dX10_whyNotCome_35 ⟨_, rfl, H⟩
    · replace H := H.2 hc
      refine go_aload_n dX10_whyNotCome_11 rfl ?_
      obtain ⟨k29, H⟩ := H
      refine go_getI (k := 7) ⟨by decide, rfl, by decide, rfl⟩ k29 fl_X10_105 dX10_whyNotCome_12 ?_
      refine go_iconst (v := (5 : Int32)) rfl dX10_whyNotCome_15 ?_
      refine go_icmp_ne (tgt := 22) dX10_whyNotCome_16 (by decide) (fun hc => ?_) (fun hc => ?_)
      · replace H := H.1 hc
        refine go_aload_n dX10_whyNotCome_22 rfl ?_
        refine go_getR (k := 0) ⟨by decide, rfl, by decide, Or.inl ⟨_, rfl⟩⟩ K0 fl_X10_10 dX10_whyNotCome_23 ?_
        refine go_aload_n dX10_whyNotCome_26 rfl ?_
        obtain ⟨k30, H⟩ := H
        refine go_V (av := [pv_r a1]) (st := []) (ci := 0) ok_X0_hasRoomIn ⟨by decide, by decide⟩ ml_X10_422 rfl (by decide) (fun v hv => by simp only [List.mem_cons, List.not_mem_nil, or_false] at hv; rcases hv with rfl <;> first | exact pv_1i | exact pv_1r) (Nat.le_of_ble_eq_true rfl) (fun _ h => h) (by decide) rfl k30 dX10_whyNotCome_27 H (fun r M31 hq hS => ?_)
        obtain ⟨v32, rfl, H⟩ := hq
        have k33 : mm_k M31 a0 = (10, 14) := ks_S K0 (by decide) hS
        have k34 : mm_k M31 a1 = (3, 14) := ks_S k1 (by decide) hS
        have k35 : mm_k M31 a3 = (6, 17) := ks_S k29 (by decide) hS
        have k36 : mm_k M31 (mm_r M a0 0) = (0, 4) := ks_S k30 (by decide) hS
        show go_W mt_X10_whyNotCome fr_C 30 [some (pv_r a0), some (pv_r a1), some (pv_i x2), some (pv_r a3)] [pv_i v32] M31 (qi_ P)
        refine go_if_ne (tgt := 36) dX10_whyNotCome_30 (by decide) (fun hc => ?_) (fun hc => ?_)
        · replace H := H.1 hc
          refine go_aload_n dX10_whyNotCome_36 rfl ?_
          refine go_getR (k := 0) ⟨by decide, rfl, by decide, Or.inl ⟨_, rfl⟩⟩ k33 fl_X10_10 dX10_whyNotCome_37 ?_
          refine go_iload_n dX10_whyNotCome_40 rfl ?_
          obtain ⟨k37, H⟩ := H
          refine go_V (av := [pv_i x2]) (st := []) (ci := 0) ok_X0_withKey ⟨by decide, by decide⟩ ml_X10_286 rfl (by decide) (fun v hv => by simp only [List.mem_cons, List.not_mem_nil, or_false] at hv; rcases hv with rfl <;> first | exact pv_1i | exact pv_1r) (Nat.le_of_ble_eq_true rfl) (fun _ h => h) (by decide) rfl k37 dX10_whyNotCome_41 H (fun r M38 hq hS => ?_)
          obtain ⟨v39, rfl, H⟩ := hq
          have k40 : mm_k M38 a0 = (10, 14) := ks_S k33 (by decide) hS
          have k41 : mm_k M38 a1 = (3, 14) := ks_S k34 (by decide) hS
          have k42 : mm_k M38 a3 = (6, 17) := ks_S k35 (by decide) hS
          have k43 : mm_k M38 (mm_r M a0 0) = (0, 4) := ks_S k36 (by decide) hS
          have k44 : mm_k M38 (mm_r M31 a0 0) = (0, 4) := ks_S k37 (by decide) hS
          show go_W mt_X10_whyNotCome fr_C 44 [some (pv_r a0), some (pv_r a1), some (pv_i x2), some (pv_r a3)] [pv_r v39] M38 (qi_ P)
          refine go_ifnull (tgt := 50) dX10_whyNotCome_44 (by decide) (fun hc => ?_) (fun hc => ?_)
          · replace H := H.1 hc
            refine go_aload_n dX10_whyNotCome_50 rfl ?_
            refine go_getR (k := 2) ⟨by decide, rfl, by decide, Or.inl ⟨_, rfl⟩⟩ k40 fl_X10_28 dX10_whyNotCome_51 ?_
            obtain ⟨k45, H⟩ := H
            refine go_getI (k := 1) ⟨by decide, rfl, by decide, rfl⟩ k45 fl_X10_222 dX10_whyNotCome_54 ?_
            refine go_sipush (v := (400 : Int32)) rfl dX10_whyNotCome_57 ?_
            refine go_icmp_lt (tgt := 66) dX10_whyNotCome_60 (by decide) (fun hc => ?_) (fun hc => ?_)
            · replace H := H.1 hc
              refine go_aload_n dX10_whyNotCome_66 rfl ?_
              refine go_getR (k := 7) ⟨by decide, rfl, by decide, Or.inl ⟨_, rfl⟩⟩ k40 fl_X10_54 dX10_whyNotCome_67 ?_
              refine go_iload_n dX10_whyNotCome_70 rfl ?_
              obtain ⟨k46, H⟩ := H
              refine go_V (av := [pv_i x2]) (st := []) (ci := 5) ok_X5_count ⟨by decide, by decide⟩ ml_X10_238 rfl (by decide) (fun v hv => by simp only [List.mem_cons, List.not_mem_nil, or_false] at hv; rcases hv with rfl <;> first | exact pv_1i | exact pv_1r) (Nat.le_of_ble_eq_true rfl) (fun _ h => h) (by decide) rfl k46 dX10_whyNotCome_71 H (fun r M47 hq hS => ?_)
              obtain ⟨v48, rfl, H⟩ := hq
              have k49 : mm_k M47 a0 = (10, 14) := ks_S k40 (by decide) hS
              have k50 : mm_k M47 a1 = (3, 14) := ks_S k41 (by decide) hS
              have k51 : mm_k M47 a3 = (6, 17) := ks_S k42 (by decide) hS
              have k52 : mm_k M47 (mm_r M a0 0) = (0, 4) := ks_S k43 (by decide) hS
              have k53 : mm_k M47 (mm_r M31 a0 0) = (0, 4) := ks_S k44 (by decide) hS
              have k54 : mm_k M47 (mm_r M38 a0 2) = (4, 2) := ks_S k45 (by decide) hS
              have k55 : mm_k M47 (mm_r M38 a0 7) = (5, 3) := ks_S k46 (by decide) hS
              show go_W mt_X10_whyNotCome fr_C 74 [some (pv_r a0), some (pv_r a1), some (pv_i x2), some (pv_r a3)] [pv_i v48] M47 (qi_ P)
              refine go_aload_n dX10_whyNotCome_74 rfl ?_
              refine go_getR (k := 0) ⟨by decide, rfl, by decide, Or.inl ⟨_, rfl⟩⟩ k49 fl_X10_10 dX10_whyNotCome_75 ?_
              obtain ⟨k56, H⟩ := H
              refine go_getR (k := 3) ⟨by decide, rfl, by decide, Or.inr ⟨_, rfl⟩⟩ k56 fl_X10_111 dX10_whyNotCome_78 ?_
              refine go_iconst (v := (5 : Int32)) rfl dX10_whyNotCome_81 ?_
              obtain ⟨l57, k58, H⟩ := H
              obtain ⟨hb59, H⟩ := H
              refine go_ialdA (j := 5) k58 rfl hb59 dX10_whyNotCome_82 ?_
              refine go_icmp_lt (tgt := 91) dX10_whyNotCome_83 (by decide) (fun hc => ?_) (fun hc => ?_)
              · replace H := H.1 hc
                refine go_iconst (v := (0 : Int32)) rfl dX10_whyNotCome_91 ?_
                exact go_iret rfl rfl dX10_whyNotCome_92 ⟨_, rfl, H⟩
              · replace H := H.2 hc
                refine go_bipush (v := (-7 : Int32)) rfl dX10_whyNotCome_86 ?_
                refine go_goto (tgt := 92) dX10_whyNotCome_88 (by decide) ?_
                exact go_iret rfl rfl dX10_whyNotCome_92 ⟨_, rfl, H⟩
            · replace H := H.2 hc
              refine go_bipush (v := (-6 : Int32)) rfl dX10_whyNotCome_63 ?_
              exact go_iret rfl rfl dX10_whyNotCome_65 ⟨_, rfl, H⟩
          · replace H := H.2 hc
            refine go_bipush (v := (-5 : Int32)) rfl dX10_whyNotCome_47 ?_
            exact go_iret rfl rfl dX10_whyNotCome_49 ⟨_, rfl, H⟩
        · replace H := H.2 hc
          refine go_bipush (v := (-4 : Int32)) rfl dX10_whyNotCome_33 ?_
          exact go_iret rfl rfl dX10_whyNotCome_35 ⟨_, rfl, H⟩
      · replace H := H.2 hc
        refine go_bipush (v := (-3 : Int32)) rfl dX10_whyNotCome_19 ?_
        exact go_iret rfl rfl dX10_whyNotCome_21 ⟨_, rfl, H⟩
set_option maxRecDepth 20000 in
theorem wc_X10_whyNotAgain_0 {M : mm_T} {a0 a1 : Nat} {P : Int32 → mm_T → Prop} (K0 : mm_k M a0 = (10, 14)) (H : mm_k M a1 = (6, 17) ∧ ((((¬ mm_i M a1 7 = (5 : Int32)) → P (-3 : Int32) M) ∧ ((mm_i M a1 7 = (5 : Int32)) → mm_k M (mm_r M a1 2) = (3, 14) ∧ ((((¬ mm_i M (mm_r M a1 2) 4 = 0) → P (-3 : Int32) M) ∧ ((mm_i M (mm_r M a1 2) 4 = 0) → cs_i mt_X6_isBehindLost [pv_r a1] M (fun v4 M3 => (((v4 = 0) → mm_k M3 (mm_r M3 a0 0) = (0, 4) ∧ (cs_i mt_X0_hasRoomIn [pv_r (mm_r M3 a0 0), pv_r (mm_r M3 a1 2)] M3 (fun v10 M9 => (((¬ v10 = 0) → mm_k M9 (mm_r M9 a0 0) = (0, 4) ∧ (cs_r mt_X0_withKey [pv_r (mm_r M9 a0 0), pv_i (mm_i M9 a1 5)] M9 (fun v17 M16 => (((v17 = 0) → mm_k M16 (mm_r M16 a0 7) = (5, 3) ∧ (cs_i mt_X5_count [pv_r (mm_r M16 a0 7), pv_i (mm_i M16 a1 5)] M16 (fun v25 M24 => mm_k M24 (mm_r M24 a0 0) = (0, 4) ∧ (∃ l33, ak_ M24 (mm_r M24 (mm_r M24 a0 0) 3) 0 l33 ∧ (5 < l33 ∧ ((((v25 < mm_i M24 (mm_r M24 (mm_r M24 a0 0) 3) 5) → P (0 : Int32) M24) ∧ ((¬ v25 < mm_i M24 (mm_r M24 (mm_r M24 a0 0) 3) 5) → P (-7 : Int32) M24)))))))) ∧ ((¬ v17 = 0) → P (-5 : Int32) M16))))) ∧ ((v10 = 0) → P (-4 : Int32) M9))))) ∧ ((¬ v4 = 0) → P (-3 : Int32) M3)))))))))) : cw_i mt_X10_whyNotAgain 0 [some (pv_r a0), some (pv_r a1)] [] M P := by
  refine go_aload_n dX10_whyNotAgain_0 rfl ?_
  obtain ⟨k1, H⟩ := H
  refine go_getI (k := 7) ⟨by decide, rfl, by decide, rfl⟩ k1 fl_X10_105 dX10_whyNotAgain_1 ?_
  refine go_iconst (v := (5 : Int32)) rfl dX10_whyNotAgain_4 ?_
  refine go_icmp_ne (tgt := 25) dX10_whyNotAgain_5 (by decide) (fun hc => ?_) (fun hc => ?_)
  · replace H := H.1 hc
    refine go_bipush (v := (-3 : Int32)) rfl dX10_whyNotAgain_25 ?_
    exact go_iret rfl rfl dX10_whyNotAgain_27 ⟨_, rfl, H⟩
  · replace H := H.2 hc
    refine go_aload_n dX10_whyNotAgain_8 rfl ?_
    refine go_getR (k := 2) ⟨by decide, rfl, by decide, Or.inl ⟨_, rfl⟩⟩ k1 fl_X10_191 dX10_whyNotAgain_9 ?_
    obtain ⟨k2, H⟩ := H
    refine go_getI (k := 4) ⟨by decide, rfl, by decide, rfl⟩ k2 fl_X10_160 dX10_whyNotAgain_12 ?_
    refine go_if_ne (tgt := 25) dX10_whyNotAgain_15 (by decide) (fun hc => ?_) (fun hc => ?_)
    · replace H := H.1 hc
      refine go_bipush (v := (-3 : Int32)) rfl dX10_whyNotAgain_25 ?_
      exact go_iret rfl rfl dX10_whyNotAgain_27 ⟨_, rfl, H⟩
    · replace H := H.2 hc
      refine go_aload_n dX10_whyNotAgain_18 rfl ?_
      refine go_V (av := []) (st := []) (ci := 6) ok_X6_isBehindLost ⟨by decide, by decide⟩ ml_X10_426 rfl (by decide) (fun v hv => absurd hv List.not_mem_nil) (Nat.le_of_ble_eq_true rfl) (fun _ h => h) (by decide) rfl k1 dX10_whyNotAgain_19 H (fun r M3 hq hS => ?_)
      obtain ⟨v4, rfl, H⟩ := hq
      have k5 : mm_k M3 a0 = (10, 14) := ks_S K0 (by decide) hS
      have k6 : mm_k M3 a1 = (6, 17) := ks_S k1 (by decide) hS
      have k7 : mm_k M3 (mm_r M a1 2) = (3, 14) := ks_S k2 (by decide) hS
      show go_W mt_X10_whyNotAgain fr_C 22 [some (pv_r a0), some (pv_r a1)] [pv_i v4] M3 (qi_ P)
      refine go_if_eq (tgt := 28) dX10_whyNotAgain_22 (by decide) (fun hc => ?_) (fun hc => ?_)
      · replace H := H.1 hc
        refine go_aload_n dX10_whyNotAgain_28 rfl ?_
        refine go_getR (k := 0) ⟨by decide, rfl, by decide, Or.inl ⟨_, rfl⟩⟩ k5 fl_X10_10 dX10_whyNotAgain_29 ?_
        refine go_aload_n dX10_whyNotAgain_32 rfl ?_
        refine go_getR (k := 2) ⟨by decide, rfl, by decide, Or.inl ⟨_, rfl⟩⟩ k6 fl_X10_191 dX10_whyNotAgain_33 ?_
        obtain ⟨k8, H⟩ := H
        refine go_V (av := [pv_r (mm_r M3 a1 2)]) (st := []) (ci := 0) ok_X0_hasRoomIn ⟨by decide, by decide⟩ ml_X10_422 rfl (by decide) (fun v hv => by simp only [List.mem_cons, List.not_mem_nil, or_false] at hv; rcases hv with rfl <;> first | exact pv_1i | exact pv_1r) (Nat.le_of_ble_eq_true rfl) (fun _ h => h) (by decide) rfl k8 dX10_whyNotAgain_36 H (fun r M9 hq hS => ?_)
        obtain ⟨v10, rfl, H⟩ := hq
        have k11 : mm_k M9 a0 = (10, 14) := ks_S k5 (by decide) hS
        have k12 : mm_k M9 a1 = (6, 17) := ks_S k6 (by decide) hS
        have k13 : mm_k M9 (mm_r M a1 2) = (3, 14) := ks_S k7 (by decide) hS
        have k14 : mm_k M9 (mm_r M3 a0 0) = (0, 4) := ks_S k8 (by decide) hS
        show go_W mt_X10_whyNotAgain fr_C 39 [some (pv_r a0), some (pv_r a1)] [pv_i v10] M9 (qi_ P)
        refine go_if_ne (tgt := 45) dX10_whyNotAgain_39 (by decide) (fun hc => ?_) (fun hc => ?_)
        · replace H := H.1 hc
          refine go_aload_n dX10_whyNotAgain_45 rfl ?_
          refine go_getR (k := 0) ⟨by decide, rfl, by decide, Or.inl ⟨_, rfl⟩⟩ k11 fl_X10_10 dX10_whyNotAgain_46 ?_
          refine go_aload_n dX10_whyNotAgain_49 rfl ?_
          refine go_getI (k := 5) ⟨by decide, rfl, by decide, rfl⟩ k12 fl_X10_415 dX10_whyNotAgain_50 ?_
          obtain ⟨k15, H⟩ := H
          refine go_V (av := [pv_i (mm_i M9 a1 5)]) (st := []) (ci := 0) ok_X0_withKey ⟨by decide, by decide⟩ ml_X10_286 rfl (by decide) (fun v hv => by simp only [List.mem_cons, List.not_mem_nil, or_false] at hv; rcases hv with rfl <;> first | exact pv_1i | exact pv_1r) (Nat.le_of_ble_eq_true rfl) (fun _ h => h) (by decide) rfl k15 dX10_whyNotAgain_53 H (fun r M16 hq hS => ?_)
          obtain ⟨v17, rfl, H⟩ := hq
          have k18 : mm_k M16 a0 = (10, 14) := ks_S k11 (by decide) hS
          have k19 : mm_k M16 a1 = (6, 17) := ks_S k12 (by decide) hS
          have k20 : mm_k M16 (mm_r M a1 2) = (3, 14) := ks_S k13 (by decide) hS
          have k21 : mm_k M16 (mm_r M3 a0 0) = (0, 4) := ks_S k14 (by decide) hS
          have k22 : mm_k M16 (mm_r M9 a0 0) = (0, 4) := ks_S k15 (by decide) hS
          show go_W mt_X10_whyNotAgain fr_C 56 [some (pv_r a0), some (pv_r a1)] [pv_r v17] M16 (qi_ P)
          refine go_ifnull (tgt := 62) dX10_whyNotAgain_56 (by decide) (fun hc => ?_) (fun hc => ?_)
          · replace H := H.1 hc
            refine go_aload_n dX10_whyNotAgain_62 rfl ?_
            refine go_getR (k := 7) ⟨by decide, rfl, by decide, Or.inl ⟨_, rfl⟩⟩ k18 fl_X10_54 dX10_whyNotAgain_63 ?_
            refine go_aload_n dX10_whyNotAgain_66 rfl ?_
            refine go_getI (k := 5) ⟨by decide, rfl, by decide, rfl⟩ k19 fl_X10_415 dX10_whyNotAgain_67 ?_
            obtain ⟨k23, H⟩ := H
            refine go_V (av := [pv_i (mm_i M16 a1 5)]) (st := []) (ci := 5) ok_X5_count ⟨by decide, by decide⟩ ml_X10_238 rfl (by decide) (fun v hv => by simp only [List.mem_cons, List.not_mem_nil, or_false] at hv; rcases hv with rfl <;> first | exact pv_1i | exact pv_1r) (Nat.le_of_ble_eq_true rfl) (fun _ h => h) (by decide) rfl k23 dX10_whyNotAgain_70 H (fun r M24 hq hS => ?_)
            obtain ⟨v25, rfl, H⟩ := hq
            have k26 : mm_k M24 a0 = (10, 14) := ks_S k18 (by decide) hS
            have k27 : mm_k M24 a1 = (6, 17) := ks_S k19 (by decide) hS
            have k28 : mm_k M24 (mm_r M a1 2) = (3, 14) := ks_S k20 (by decide) hS
            have k29 : mm_k M24 (mm_r M3 a0 0) = (0, 4) := ks_S k21 (by decide) hS
            have k30 : mm_k M24 (mm_r M9 a0 0) = (0, 4) := ks_S k22 (by decide) hS
            have k31 : mm_k M24 (mm_r M16 a0 7) = (5, 3) := ks_S k23 (by decide) hS
            show go_W mt_X10_whyNotAgain fr_C 73 [some (pv_r a0), some (pv_r a1)] [pv_i v25] M24 (qi_ P)
            refine go_aload_n dX10_whyNotAgain_73 rfl ?_
            refine go_getR (k := 0) ⟨by decide, rfl, by decide, Or.inl ⟨_, rfl⟩⟩ k26 fl_X10_10 dX10_whyNotAgain_74 ?_
            obtain ⟨k32, H⟩ := H
            refine go_getR (k := 3) ⟨by decide, rfl, by decide, Or.inr ⟨_, rfl⟩⟩ k32 fl_X10_111 dX10_whyNotAgain_77 ?_
            refine go_iconst (v := (5 : Int32)) rfl dX10_whyNotAgain_80 ?_
            obtain ⟨l33, k34, H⟩ := H
            obtain ⟨hb35, H⟩ := H
            refine go_ialdA (j := 5) k34 rfl hb35 dX10_whyNotAgain_81 ?_
            refine go_icmp_lt (tgt := 90) dX10_whyNotAgain_82 (by decide) (fun hc => ?_) (fun hc => ?_)
            · replace H := H.1 hc
              refine go_iconst (v := (0 : Int32)) rfl dX10_whyNotAgain_90 ?_
              exact go_iret rfl rfl dX10_whyNotAgain_91 ⟨_, rfl, H⟩
            · replace H := H.2 hc
              refine go_bipush (v := (-7 : Int32)) rfl dX10_whyNotAgain_85 ?_
              refine go_goto (tgt := 91) dX10_whyNotAgain_87 (by decide) ?_
              exact go_iret rfl rfl dX10_whyNotAgain_91 ⟨_, rfl, H⟩
          · replace H := H.2 hc
            refine go_bipush (v := (-5 : Int32)) rfl dX10_whyNotAgain_59 ?_
            exact go_iret rfl rfl dX10_whyNotAgain_61 ⟨_, rfl, H⟩
        · replace H := H.2 hc
          refine go_bipush (v := (-4 : Int32)) rfl dX10_whyNotAgain_42 ?_
          exact go_iret rfl rfl dX10_whyNotAgain_44 ⟨_, rfl, H⟩
      · replace H := H.2 hc
        refine go_bipush (v := (-3 : Int32)) rfl dX10_whyNotAgain_25 ?_
        exact go_iret rfl rfl dX10_whyNotAgain_27 ⟨_, rfl, H⟩
set_option maxRecDepth 20000 in
theorem wc_X10_takeIfCan_0 {M : mm_T} {a0 : Nat} {x1 : Int32} {P : Int32 → mm_T → Prop} (K0 : mm_k M a0 = (10, 14)) (H : cs_r mt_X10_workerAt [pv_r a0, pv_i x1] M (fun v2 M1 => (((¬ v2 = 0) → mm_k M1 v2 = (9, 5) ∧ ((((mm_r M1 v2 1 = 0) → mm_k M1 (mm_r M1 a0 0) = (0, 4) ∧ (cs_r mt_X0_serve [pv_r (mm_r M1 a0 0), pv_i (1 : Int32)] M1 (fun v7 M6 => (((¬ v7 = 0) → ∀ M11, M11 = mm_pi M6 a0 12 (mm_i M6 a0 12 + (1 : Int32)) → mm_k M11 (mm_r M11 a0 0) = (0, 4) ∧ (∃ l16, ak_ M11 (mm_r M11 (mm_r M11 a0 0) 3) 0 l16 ∧ (1 < l16 ∧ (mm_k M11 v7 = (6, 17) ∧ (cs_v mt_X6_giveTo [pv_r v7, pv_r v2, pv_i (mm_i M11 a0 12), pv_i (mm_i M11 a0 11 + mm_i M11 (mm_r M11 (mm_r M11 a0 0) 3) 1)] M11 (fun M20 => ∀ M27, M27 = mm_pi M20 v2 2 (mm_i M20 v2 2 + (1 : Int32)) → mm_k M27 (mm_r M27 v7 2) = (3, 14) ∧ (cs_v mt_X3_recordTaken [pv_r (mm_r M27 v7 2), pv_r v7, pv_i (mm_i M27 a0 11 - mm_i M27 v7 6)] M27 (fun M35 => cs_v mt_X10_note [pv_r a0, pv_i (1 : Int32), pv_r v7, pv_r v2, pv_i (0 : Int32)] M35 (fun M43 => P (mm_i M43 v7 0) M43))))))))) ∧ ((v7 = 0) → P (-1 : Int32) M6))))) ∧ ((¬ mm_r M1 v2 1 = 0) → P (-3 : Int32) M1)))) ∧ ((v2 = 0) → P (-2 : Int32) M1)))) : cw_i mt_X10_takeIfCan 0 [some (pv_r a0), some (pv_i x1), none, none] [] M P := by
  refine go_aload_n dX10_takeIfCan_0 rfl ?_
  refine go_iload_n dX10_takeIfCan_1 rfl ?_
  refine go_V (av := [pv_i x1]) (st := []) (ci := 10) ok_X10_workerAt ⟨by decide, by decide⟩ ml_X10_83 rfl (by decide) (fun v hv => by simp only [List.mem_cons, List.not_mem_nil, or_false] at hv; rcases hv with rfl <;> first | exact pv_1i | exact pv_1r) (Nat.le_of_ble_eq_true rfl) (fun _ h => h) (by decide) rfl K0 dX10_takeIfCan_2 H (fun r M1 hq hS => ?_)
  obtain ⟨v2, rfl, H⟩ := hq
  have k3 : mm_k M1 a0 = (10, 14) := ks_S K0 (by decide) hS
  show go_W mt_X10_takeIfCan fr_C 5 [some (pv_r a0), some (pv_i x1), none, none] [pv_r v2] M1 (qi_ P)
  refine go_astore_n (by decide) dX10_takeIfCan_5 ?_
  show go_W mt_X10_takeIfCan fr_C 6 [some (pv_r a0), some (pv_i x1), some (pv_r v2), none] [] M1 (qi_ P)
  refine go_aload_n dX10_takeIfCan_6 rfl ?_
  refine go_ifnonnull (tgt := 13) dX10_takeIfCan_7 (by decide) (fun hc => ?_) (fun hc => ?_)
  · replace H := H.1 hc
    refine go_aload_n dX10_takeIfCan_13 rfl ?_
    obtain ⟨k4, H⟩ := H
    refine go_getR (k := 1) ⟨by decide, rfl, by decide, Or.inl ⟨_, rfl⟩⟩ k4 fl_X10_125 dX10_takeIfCan_14 ?_
    refine go_ifnull (tgt := 23) dX10_takeIfCan_17 (by decide) (fun hc => ?_) (fun hc => ?_)
    · replace H := H.1 hc
      refine go_aload_n dX10_takeIfCan_23 rfl ?_
      refine go_getR (k := 0) ⟨by decide, rfl, by decide, Or.inl ⟨_, rfl⟩⟩ k3 fl_X10_10 dX10_takeIfCan_24 ?_
      refine go_iconst (v := (1 : Int32)) rfl dX10_takeIfCan_27 ?_
      obtain ⟨k5, H⟩ := H
      refine go_V (av := [pv_i (1 : Int32)]) (st := []) (ci := 0) ok_X0_serve ⟨by decide, by decide⟩ ml_X10_429 rfl (by decide) (fun v hv => by simp only [List.mem_cons, List.not_mem_nil, or_false] at hv; rcases hv with rfl <;> first | exact pv_1i | exact pv_1r) (Nat.le_of_ble_eq_true rfl) (fun _ h => h) (by decide) rfl k5 dX10_takeIfCan_28 H (fun r M6 hq hS => ?_)
      obtain ⟨v7, rfl, H⟩ := hq
      have k8 : mm_k M6 a0 = (10, 14) := ks_S k3 (by decide) hS
      have k9 : mm_k M6 v2 = (9, 5) := ks_S k4 (by decide) hS
      have k10 : mm_k M6 (mm_r M1 a0 0) = (0, 4) := ks_S k5 (by decide) hS
      show go_W mt_X10_takeIfCan fr_C 31 [some (pv_r a0), some (pv_i x1), some (pv_r v2), none] [pv_r v7] M6 (qi_ P)
      refine go_astore_n (by decide) dX10_takeIfCan_31 ?_
      show go_W mt_X10_takeIfCan fr_C 32 [some (pv_r a0), some (pv_i x1), some (pv_r v2), some (pv_r v7)] [] M6 (qi_ P)
      refine go_aload_n dX10_takeIfCan_32 rfl ?_
      refine go_ifnonnull (tgt := 38) dX10_takeIfCan_33 (by decide) (fun hc => ?_) (fun hc => ?_)
      · replace H := H.1 hc
        refine go_aload_n dX10_takeIfCan_38 rfl ?_
        refine go_dup pv_1r dX10_takeIfCan_39 ?_
        refine go_getI (k := 12) ⟨by decide, rfl, by decide, rfl⟩ k8 fl_X10_259 dX10_takeIfCan_40 ?_
        refine go_iconst (v := (1 : Int32)) rfl dX10_takeIfCan_43 ?_
        refine go_iadd dX10_takeIfCan_44 ?_
        refine go_putI (k := 12) ⟨by decide, rfl, by decide, rfl⟩ k8 rfl (Or.inl rfl) fl_X10_259 dX10_takeIfCan_45 ?_
        show go_W mt_X10_takeIfCan fr_C 48 [some (pv_r a0), some (pv_i x1), some (pv_r v2), some (pv_r v7)] [] (mm_pi M6 a0 12 (mm_i M6 a0 12 + (1 : Int32))) (qi_ P)
        obtain ⟨M11, hM11⟩ : ∃ M', M' = mm_pi M6 a0 12 (mm_i M6 a0 12 + (1 : Int32)) := ⟨_, rfl⟩
        have k12 : mm_k M11 a0 = (10, 14) := (by rw [hM11]; exact k8)
        have k13 : mm_k M11 v2 = (9, 5) := (by rw [hM11]; exact k9)
        have k14 : mm_k M11 (mm_r M1 a0 0) = (0, 4) := (by rw [hM11]; exact k10)
        rw [← hM11]
        replace H := H M11 hM11
        refine go_aload_n dX10_takeIfCan_48 rfl ?_
        refine go_aload_n dX10_takeIfCan_49 rfl ?_
        refine go_aload_n dX10_takeIfCan_50 rfl ?_
        refine go_getI (k := 12) ⟨by decide, rfl, by decide, rfl⟩ k12 fl_X10_259 dX10_takeIfCan_51 ?_
        refine go_aload_n dX10_takeIfCan_54 rfl ?_
        refine go_getI (k := 11) ⟨by decide, rfl, by decide, rfl⟩ k12 fl_X10_108 dX10_takeIfCan_55 ?_
        refine go_aload_n dX10_takeIfCan_58 rfl ?_
        refine go_getR (k := 0) ⟨by decide, rfl, by decide, Or.inl ⟨_, rfl⟩⟩ k12 fl_X10_10 dX10_takeIfCan_59 ?_
        obtain ⟨k15, H⟩ := H
        refine go_getR (k := 3) ⟨by decide, rfl, by decide, Or.inr ⟨_, rfl⟩⟩ k15 fl_X10_111 dX10_takeIfCan_62 ?_
        refine go_iconst (v := (1 : Int32)) rfl dX10_takeIfCan_65 ?_
        obtain ⟨l16, k17, H⟩ := H
        obtain ⟨hb18, H⟩ := H
        refine go_ialdA (j := 1) k17 rfl hb18 dX10_takeIfCan_66 ?_
        refine go_iadd dX10_takeIfCan_67 ?_
        obtain ⟨k19, H⟩ := H
        refine go_V (av := [pv_r v2, pv_i (mm_i M11 a0 12), pv_i (mm_i M11 a0 11 + mm_i M11 (mm_r M11 (mm_r M11 a0 0) 3) 1)]) (st := []) (ci := 6) ok_X6_giveTo ⟨by decide, by decide⟩ ml_X10_129 rfl (by decide) (fun v hv => by simp only [List.mem_cons, List.not_mem_nil, or_false] at hv; rcases hv with rfl | rfl | rfl <;> first | exact pv_1i | exact pv_1r) (Nat.le_of_ble_eq_true rfl) (fun _ h => h) (by decide) rfl k19 dX10_takeIfCan_68 H (fun r M20 hq hS => ?_)
        obtain ⟨rfl, H⟩ := hq
        have k21 : mm_k M20 a0 = (10, 14) := ks_S k12 (by decide) hS
        have k22 : mm_k M20 v2 = (9, 5) := ks_S k13 (by decide) hS
        have k23 : mm_k M20 (mm_r M1 a0 0) = (0, 4) := ks_S k14 (by decide) hS
        have k24 : mm_k M20 (mm_r M11 a0 0) = (0, 4) := ks_S k15 (by decide) hS
        have k25 : mm_k M20 v7 = (6, 17) := ks_S k19 (by decide) hS
        have k26 : ak_ M20 (mm_r M11 (mm_r M11 a0 0) 3) 0 l16 := ak_S k17 hS
        show go_W mt_X10_takeIfCan fr_C 71 [some (pv_r a0), some (pv_i x1), some (pv_r v2), some (pv_r v7)] [] M20 (qi_ P)
        refine go_aload_n dX10_takeIfCan_71 rfl ?_
        refine go_dup pv_1r dX10_takeIfCan_72 ?_
        refine go_getI (k := 2) ⟨by decide, rfl, by decide, rfl⟩ k22 fl_X10_433 dX10_takeIfCan_73 ?_
        refine go_iconst (v := (1 : Int32)) rfl dX10_takeIfCan_76 ?_
        refine go_iadd dX10_takeIfCan_77 ?_
        refine go_putI (k := 2) ⟨by decide, rfl, by decide, rfl⟩ k22 rfl (Or.inl rfl) fl_X10_433 dX10_takeIfCan_78 ?_
        show go_W mt_X10_takeIfCan fr_C 81 [some (pv_r a0), some (pv_i x1), some (pv_r v2), some (pv_r v7)] [] (mm_pi M20 v2 2 (mm_i M20 v2 2 + (1 : Int32))) (qi_ P)
        obtain ⟨M27, hM27⟩ : ∃ M', M' = mm_pi M20 v2 2 (mm_i M20 v2 2 + (1 : Int32)) := ⟨_, rfl⟩
        have k28 : mm_k M27 a0 = (10, 14) := (by rw [hM27]; exact k21)
        have k29 : mm_k M27 v2 = (9, 5) := (by rw [hM27]; exact k22)
        have k30 : mm_k M27 (mm_r M1 a0 0) = (0, 4) := (by rw [hM27]; exact k23)
        have k31 : mm_k M27 (mm_r M11 a0 0) = (0, 4) := (by rw [hM27]; exact k24)
        have k32 : mm_k M27 v7 = (6, 17) := (by rw [hM27]; exact k25)
        have k33 : ak_ M27 (mm_r M11 (mm_r M11 a0 0) 3) 0 l16 := (by rw [hM27]; exact k26)
        rw [← hM27]
        replace H := H M27 hM27
        refine go_aload_n dX10_takeIfCan_81 rfl ?_
        refine go_getR (k := 2) ⟨by decide, rfl, by decide, Or.inl ⟨_, rfl⟩⟩ k32 fl_X10_191 dX10_takeIfCan_82 ?_
        refine go_aload_n dX10_takeIfCan_85 rfl ?_
        refine go_aload_n dX10_takeIfCan_86 rfl ?_
        refine go_getI (k := 11) ⟨by decide, rfl, by decide, rfl⟩ k28 fl_X10_108 dX10_takeIfCan_87 ?_
        refine go_aload_n dX10_takeIfCan_90 rfl ?_
        refine go_getI (k := 6) ⟨by decide, rfl, by decide, rfl⟩ k32 fl_X10_418 dX10_takeIfCan_91 ?_
        refine go_isub dX10_takeIfCan_94 ?_
        obtain ⟨k34, H⟩ := H
        refine go_V (av := [pv_r v7, pv_i (mm_i M27 a0 11 - mm_i M27 v7 6)]) (st := []) (ci := 3) ok_X3_recordTaken ⟨by decide, by decide⟩ ml_X10_436 rfl (by decide) (fun v hv => by simp only [List.mem_cons, List.not_mem_nil, or_false] at hv; rcases hv with rfl | rfl <;> first | exact pv_1i | exact pv_1r) (Nat.le_of_ble_eq_true rfl) (fun _ h => h) (by decide) rfl k34 dX10_takeIfCan_95 H (fun r M35 hq hS => ?_)
        obtain ⟨rfl, H⟩ := hq
        have k36 : mm_k M35 a0 = (10, 14) := ks_S k28 (by decide) hS
        have k37 : mm_k M35 v2 = (9, 5) := ks_S k29 (by decide) hS
        have k38 : mm_k M35 (mm_r M1 a0 0) = (0, 4) := ks_S k30 (by decide) hS
        have k39 : mm_k M35 (mm_r M11 a0 0) = (0, 4) := ks_S k31 (by decide) hS
        have k40 : mm_k M35 v7 = (6, 17) := ks_S k32 (by decide) hS
        have k41 : mm_k M35 (mm_r M27 v7 2) = (3, 14) := ks_S k34 (by decide) hS
        have k42 : ak_ M35 (mm_r M11 (mm_r M11 a0 0) 3) 0 l16 := ak_S k33 hS
        show go_W mt_X10_takeIfCan fr_C 98 [some (pv_r a0), some (pv_i x1), some (pv_r v2), some (pv_r v7)] [] M35 (qi_ P)
        refine go_aload_n dX10_takeIfCan_98 rfl ?_
        refine go_iconst (v := (1 : Int32)) rfl dX10_takeIfCan_99 ?_
        refine go_aload_n dX10_takeIfCan_100 rfl ?_
        refine go_aload_n dX10_takeIfCan_101 rfl ?_
        refine go_iconst (v := (0 : Int32)) rfl dX10_takeIfCan_102 ?_
        refine go_V (av := [pv_i (1 : Int32), pv_r v7, pv_r v2, pv_i (0 : Int32)]) (st := []) (ci := 10) ok_X10_note ⟨by decide, by decide⟩ ml_X10_181 rfl (by decide) (fun v hv => by simp only [List.mem_cons, List.not_mem_nil, or_false] at hv; rcases hv with rfl | rfl | rfl | rfl <;> first | exact pv_1i | exact pv_1r) (Nat.le_of_ble_eq_true rfl) (fun _ h => h) (by decide) rfl k36 dX10_takeIfCan_103 H (fun r M43 hq hS => ?_)
        obtain ⟨rfl, H⟩ := hq
        have k44 : mm_k M43 a0 = (10, 14) := ks_S k36 (by decide) hS
        have k45 : mm_k M43 v2 = (9, 5) := ks_S k37 (by decide) hS
        have k46 : mm_k M43 (mm_r M1 a0 0) = (0, 4) := ks_S k38 (by decide) hS
        have k47 : mm_k M43 (mm_r M11 a0 0) = (0, 4) := ks_S k39 (by decide) hS
        have k48 : mm_k M43 v7 = (6, 17) := ks_S k40 (by decide) hS
        have k49 : mm_k M43 (mm_r M27 v7 2) = (3, 14) := ks_S k41 (by decide) hS
        have k50 : ak_ M43 (mm_r M11 (mm_r M11 a0 0) 3) 0 l16 := ak_S k42 hS
        show go_W mt_X10_takeIfCan fr_C 106 [some (pv_r a0), some (pv_i x1), some (pv_r v2), some (pv_r v7)] [] M43 (qi_ P)
        refine go_aload_n dX10_takeIfCan_106 rfl ?_
        refine go_getI (k := 0) ⟨by decide, rfl, by decide, rfl⟩ k48 fl_X10_95 dX10_takeIfCan_107 ?_
        exact go_iret rfl rfl dX10_takeIfCan_110 ⟨_, rfl, H⟩
      · replace H := H.2 hc
        refine go_iconst (v := (-1 : Int32)) rfl dX10_takeIfCan_36 ?_
        exact go_iret rfl rfl dX10_takeIfCan_37 ⟨_, rfl, H⟩
    · replace H := H.2 hc
      refine go_bipush (v := (-3 : Int32)) rfl dX10_takeIfCan_20 ?_
      exact go_iret rfl rfl dX10_takeIfCan_22 ⟨_, rfl, H⟩
  · replace H := H.2 hc
    refine go_bipush (v := (-2 : Int32)) rfl dX10_takeIfCan_10 ?_
    exact go_iret rfl rfl dX10_takeIfCan_12 ⟨_, rfl, H⟩
set_option maxRecDepth 20000 in
theorem wc_X10_completeTask_0 {M : mm_T} {a0 a1 : Nat} {P : mm_T → Prop} (K0 : mm_k M a0 = (10, 14)) (H : mm_k M a1 = (6, 17) ∧ (cs_r mt_X6_letGo [pv_r a1] M (fun v3 M2 => (((v3 = 0) → ∀ M6, M6 = mm_pi M2 a1 13 (mm_i M2 a0 11) → mm_k M6 (mm_r M6 a0 0) = (0, 4) ∧ (cs_v mt_X0_change [pv_r (mm_r M6 a0 0), pv_r a1, pv_i (4 : Int32)] M6 (fun M10 => cs_v mt_X10_note [pv_r a0, pv_i (2 : Int32), pv_r a1, pv_r v3, pv_i (0 : Int32)] M10 (fun M14 => cw_v mt_X10_completeTask 46 [some (pv_r a0), some (pv_r a1), some (pv_r v3), some (pv_i (0 : Int32)), none] [] M14 P)))) ∧ ((¬ v3 = 0) → mm_k M2 v3 = (9, 5) ∧ (∀ M19, M19 = mm_pi M2 v3 3 (mm_i M2 v3 3 + (1 : Int32)) → ∀ M23, M23 = mm_pi M19 a1 13 (mm_i M19 a0 11) → mm_k M23 (mm_r M23 a0 0) = (0, 4) ∧ (cs_v mt_X0_change [pv_r (mm_r M23 a0 0), pv_r a1, pv_i (4 : Int32)] M23 (fun M28 => cs_v mt_X10_note [pv_r a0, pv_i (2 : Int32), pv_r a1, pv_r v3, pv_i (0 : Int32)] M28 (fun M33 => cw_v mt_X10_completeTask 46 [some (pv_r a0), some (pv_r a1), some (pv_r v3), some (pv_i (0 : Int32)), none] [] M33 P))))))))) : cw_v mt_X10_completeTask 0 [some (pv_r a0), some (pv_r a1), none, none, none] [] M P := by
  refine go_aload_n dX10_completeTask_0 rfl ?_
  obtain ⟨k1, H⟩ := H
  refine go_V (av := []) (st := []) (ci := 6) ok_X6_letGo ⟨by decide, by decide⟩ ml_X10_118 rfl (by decide) (fun v hv => absurd hv List.not_mem_nil) (Nat.le_of_ble_eq_true rfl) (fun _ h => h) (by decide) rfl k1 dX10_completeTask_1 H (fun r M2 hq hS => ?_)
  obtain ⟨v3, rfl, H⟩ := hq
  have k4 : mm_k M2 a0 = (10, 14) := ks_S K0 (by decide) hS
  have k5 : mm_k M2 a1 = (6, 17) := ks_S k1 (by decide) hS
  show go_W mt_X10_completeTask fr_C 4 [some (pv_r a0), some (pv_r a1), none, none, none] [pv_r v3] M2 (qv_ P)
  refine go_astore_n (by decide) dX10_completeTask_4 ?_
  show go_W mt_X10_completeTask fr_C 5 [some (pv_r a0), some (pv_r a1), some (pv_r v3), none, none] [] M2 (qv_ P)
  refine go_aload_n dX10_completeTask_5 rfl ?_
  refine go_ifnull (tgt := 19) dX10_completeTask_6 (by decide) (fun hc => ?_) (fun hc => ?_)
  · replace H := H.1 hc
    refine go_aload_n dX10_completeTask_19 rfl ?_
    refine go_aload_n dX10_completeTask_20 rfl ?_
    refine go_getI (k := 11) ⟨by decide, rfl, by decide, rfl⟩ k4 fl_X10_108 dX10_completeTask_21 ?_
    refine go_putI (k := 13) ⟨by decide, rfl, by decide, rfl⟩ k5 rfl (Or.inl rfl) fl_X10_442 dX10_completeTask_24 ?_
    show go_W mt_X10_completeTask fr_C 27 [some (pv_r a0), some (pv_r a1), some (pv_r v3), none, none] [] (mm_pi M2 a1 13 (mm_i M2 a0 11)) (qv_ P)
    obtain ⟨M6, hM6⟩ : ∃ M', M' = mm_pi M2 a1 13 (mm_i M2 a0 11) := ⟨_, rfl⟩
    have k7 : mm_k M6 a0 = (10, 14) := (by rw [hM6]; exact k4)
    have k8 : mm_k M6 a1 = (6, 17) := (by rw [hM6]; exact k5)
    rw [← hM6]
    replace H := H M6 hM6
    refine go_aload_n dX10_completeTask_27 rfl ?_
    refine go_getR (k := 0) ⟨by decide, rfl, by decide, Or.inl ⟨_, rfl⟩⟩ k7 fl_X10_10 dX10_completeTask_28 ?_
    refine go_aload_n dX10_completeTask_31 rfl ?_
    refine go_iconst (v := (4 : Int32)) rfl dX10_completeTask_32 ?_
    obtain ⟨k9, H⟩ := H
    refine go_V (av := [pv_r a1, pv_i (4 : Int32)]) (st := []) (ci := 0) ok_X0_change ⟨by decide, by decide⟩ ml_X10_178 rfl (by decide) (fun v hv => by simp only [List.mem_cons, List.not_mem_nil, or_false] at hv; rcases hv with rfl | rfl <;> first | exact pv_1i | exact pv_1r) (Nat.le_of_ble_eq_true rfl) (fun _ h => h) (by decide) rfl k9 dX10_completeTask_33 H (fun r M10 hq hS => ?_)
    obtain ⟨rfl, H⟩ := hq
    have k11 : mm_k M10 a0 = (10, 14) := ks_S k7 (by decide) hS
    have k12 : mm_k M10 a1 = (6, 17) := ks_S k8 (by decide) hS
    have k13 : mm_k M10 (mm_r M6 a0 0) = (0, 4) := ks_S k9 (by decide) hS
    show go_W mt_X10_completeTask fr_C 36 [some (pv_r a0), some (pv_r a1), some (pv_r v3), none, none] [] M10 (qv_ P)
    refine go_aload_n dX10_completeTask_36 rfl ?_
    refine go_iconst (v := (2 : Int32)) rfl dX10_completeTask_37 ?_
    refine go_aload_n dX10_completeTask_38 rfl ?_
    refine go_aload_n dX10_completeTask_39 rfl ?_
    refine go_iconst (v := (0 : Int32)) rfl dX10_completeTask_40 ?_
    refine go_V (av := [pv_i (2 : Int32), pv_r a1, pv_r v3, pv_i (0 : Int32)]) (st := []) (ci := 10) ok_X10_note ⟨by decide, by decide⟩ ml_X10_181 rfl (by decide) (fun v hv => by simp only [List.mem_cons, List.not_mem_nil, or_false] at hv; rcases hv with rfl | rfl | rfl | rfl <;> first | exact pv_1i | exact pv_1r) (Nat.le_of_ble_eq_true rfl) (fun _ h => h) (by decide) rfl k11 dX10_completeTask_41 H (fun r M14 hq hS => ?_)
    obtain ⟨rfl, H⟩ := hq
    have k15 : mm_k M14 a0 = (10, 14) := ks_S k11 (by decide) hS
    have k16 : mm_k M14 a1 = (6, 17) := ks_S k12 (by decide) hS
    have k17 : mm_k M14 (mm_r M6 a0 0) = (0, 4) := ks_S k13 (by decide) hS
    show go_W mt_X10_completeTask fr_C 44 [some (pv_r a0), some (pv_r a1), some (pv_r v3), none, none] [] M14 (qv_ P)
    refine go_iconst (v := (0 : Int32)) rfl dX10_completeTask_44 ?_
    refine go_istore_n (by decide) dX10_completeTask_45 ?_
    show go_W mt_X10_completeTask fr_C 46 [some (pv_r a0), some (pv_r a1), some (pv_r v3), some (pv_i (0 : Int32)), none] [] M14 (qv_ P)
    exact H
  · replace H := H.2 hc
    refine go_aload_n dX10_completeTask_9 rfl ?_
    refine go_dup pv_1r dX10_completeTask_10 ?_
    obtain ⟨k18, H⟩ := H
    refine go_getI (k := 3) ⟨by decide, rfl, by decide, rfl⟩ k18 fl_X10_439 dX10_completeTask_11 ?_
    refine go_iconst (v := (1 : Int32)) rfl dX10_completeTask_14 ?_
    refine go_iadd dX10_completeTask_15 ?_
    refine go_putI (k := 3) ⟨by decide, rfl, by decide, rfl⟩ k18 rfl (Or.inl rfl) fl_X10_439 dX10_completeTask_16 ?_
    show go_W mt_X10_completeTask fr_C 19 [some (pv_r a0), some (pv_r a1), some (pv_r v3), none, none] [] (mm_pi M2 v3 3 (mm_i M2 v3 3 + (1 : Int32))) (qv_ P)
    obtain ⟨M19, hM19⟩ : ∃ M', M' = mm_pi M2 v3 3 (mm_i M2 v3 3 + (1 : Int32)) := ⟨_, rfl⟩
    have k20 : mm_k M19 a0 = (10, 14) := (by rw [hM19]; exact k4)
    have k21 : mm_k M19 a1 = (6, 17) := (by rw [hM19]; exact k5)
    have k22 : mm_k M19 v3 = (9, 5) := (by rw [hM19]; exact k18)
    rw [← hM19]
    replace H := H M19 hM19
    refine go_aload_n dX10_completeTask_19 rfl ?_
    refine go_aload_n dX10_completeTask_20 rfl ?_
    refine go_getI (k := 11) ⟨by decide, rfl, by decide, rfl⟩ k20 fl_X10_108 dX10_completeTask_21 ?_
    refine go_putI (k := 13) ⟨by decide, rfl, by decide, rfl⟩ k21 rfl (Or.inl rfl) fl_X10_442 dX10_completeTask_24 ?_
    show go_W mt_X10_completeTask fr_C 27 [some (pv_r a0), some (pv_r a1), some (pv_r v3), none, none] [] (mm_pi M19 a1 13 (mm_i M19 a0 11)) (qv_ P)
    obtain ⟨M23, hM23⟩ : ∃ M', M' = mm_pi M19 a1 13 (mm_i M19 a0 11) := ⟨_, rfl⟩
    have k24 : mm_k M23 a0 = (10, 14) := (by rw [hM23]; exact k20)
    have k25 : mm_k M23 a1 = (6, 17) := (by rw [hM23]; exact k21)
    have k26 : mm_k M23 v3 = (9, 5) := (by rw [hM23]; exact k22)
    rw [← hM23]
    replace H := H M23 hM23
    refine go_aload_n dX10_completeTask_27 rfl ?_
    refine go_getR (k := 0) ⟨by decide, rfl, by decide, Or.inl ⟨_, rfl⟩⟩ k24 fl_X10_10 dX10_completeTask_28 ?_
    refine go_aload_n dX10_completeTask_31 rfl ?_
    refine go_iconst (v := (4 : Int32)) rfl dX10_completeTask_32 ?_
    obtain ⟨k27, H⟩ := H
    refine go_V (av := [pv_r a1, pv_i (4 : Int32)]) (st := []) (ci := 0) ok_X0_change ⟨by decide, by decide⟩ ml_X10_178 rfl (by decide) (fun v hv => by simp only [List.mem_cons, List.not_mem_nil, or_false] at hv; rcases hv with rfl | rfl <;> first | exact pv_1i | exact pv_1r) (Nat.le_of_ble_eq_true rfl) (fun _ h => h) (by decide) rfl k27 dX10_completeTask_33 H (fun r M28 hq hS => ?_)
    obtain ⟨rfl, H⟩ := hq
    have k29 : mm_k M28 a0 = (10, 14) := ks_S k24 (by decide) hS
    have k30 : mm_k M28 a1 = (6, 17) := ks_S k25 (by decide) hS
    have k31 : mm_k M28 v3 = (9, 5) := ks_S k26 (by decide) hS
    have k32 : mm_k M28 (mm_r M23 a0 0) = (0, 4) := ks_S k27 (by decide) hS
    show go_W mt_X10_completeTask fr_C 36 [some (pv_r a0), some (pv_r a1), some (pv_r v3), none, none] [] M28 (qv_ P)
    refine go_aload_n dX10_completeTask_36 rfl ?_
    refine go_iconst (v := (2 : Int32)) rfl dX10_completeTask_37 ?_
    refine go_aload_n dX10_completeTask_38 rfl ?_
    refine go_aload_n dX10_completeTask_39 rfl ?_
    refine go_iconst (v := (0 : Int32)) rfl dX10_completeTask_40 ?_
    refine go_V (av := [pv_i (2 : Int32), pv_r a1, pv_r v3, pv_i (0 : Int32)]) (st := []) (ci := 10) ok_X10_note ⟨by decide, by decide⟩ ml_X10_181 rfl (by decide) (fun v hv => by simp only [List.mem_cons, List.not_mem_nil, or_false] at hv; rcases hv with rfl | rfl | rfl | rfl <;> first | exact pv_1i | exact pv_1r) (Nat.le_of_ble_eq_true rfl) (fun _ h => h) (by decide) rfl k29 dX10_completeTask_41 H (fun r M33 hq hS => ?_)
    obtain ⟨rfl, H⟩ := hq
    have k34 : mm_k M33 a0 = (10, 14) := ks_S k29 (by decide) hS
    have k35 : mm_k M33 a1 = (6, 17) := ks_S k30 (by decide) hS
    have k36 : mm_k M33 v3 = (9, 5) := ks_S k31 (by decide) hS
    have k37 : mm_k M33 (mm_r M23 a0 0) = (0, 4) := ks_S k32 (by decide) hS
    show go_W mt_X10_completeTask fr_C 44 [some (pv_r a0), some (pv_r a1), some (pv_r v3), none, none] [] M33 (qv_ P)
    refine go_iconst (v := (0 : Int32)) rfl dX10_completeTask_44 ?_
    refine go_istore_n (by decide) dX10_completeTask_45 ?_
    show go_W mt_X10_completeTask fr_C 46 [some (pv_r a0), some (pv_r a1), some (pv_r v3), some (pv_i (0 : Int32)), none] [] M33 (qv_ P)
    exact H
set_option maxRecDepth 20000 in
theorem wc_X10_completeTask_46 {M : mm_T} {a0 a1 a2 : Nat} {x3 : Int32} {P : mm_T → Prop} (K0 : mm_k M a0 = (10, 14)) (H : ((((48 : Int32) ≤ x3) → P M) ∧ ((¬ (48 : Int32) ≤ x3) → mm_k M (mm_r M a0 0) = (0, 4) ∧ (cs_r mt_X0_heldBehind [pv_r (mm_r M a0 0), pv_r a1] M (fun v3 M2 => (((¬ v3 = 0) → cs_v mt_X10_waitAgain [pv_r a0, pv_r v3] M2 (fun M6 => cw_v mt_X10_completeTask 46 [some (pv_r a0), some (pv_r a1), some (pv_r a2), some (pv_i (x3 + (1 : Int32))), none] [] M6 P)) ∧ ((v3 = 0) → P M2))))))) : cw_v mt_X10_completeTask 46 [some (pv_r a0), some (pv_r a1), some (pv_r a2), some (pv_i x3), none] [] M P := by
  refine go_iload_n dX10_completeTask_46 rfl ?_
  refine go_bipush (v := (48 : Int32)) rfl dX10_completeTask_47 ?_
  refine go_icmp_ge (tgt := 82) dX10_completeTask_49 (by decide) (fun hc => ?_) (fun hc => ?_)
  · replace H := H.1 hc
    exact go_vret rfl dX10_completeTask_82 ⟨rfl, H⟩
  · replace H := H.2 hc
    refine go_aload_n dX10_completeTask_52 rfl ?_
    refine go_getR (k := 0) ⟨by decide, rfl, by decide, Or.inl ⟨_, rfl⟩⟩ K0 fl_X10_10 dX10_completeTask_53 ?_
    refine go_aload_n dX10_completeTask_56 rfl ?_
    obtain ⟨k1, H⟩ := H
    refine go_V (av := [pv_r a1]) (st := []) (ci := 0) ok_X0_heldBehind ⟨by decide, by decide⟩ ml_X10_445 rfl (by decide) (fun v hv => by simp only [List.mem_cons, List.not_mem_nil, or_false] at hv; rcases hv with rfl <;> first | exact pv_1i | exact pv_1r) (Nat.le_of_ble_eq_true rfl) (fun _ h => h) (by decide) rfl k1 dX10_completeTask_57 H (fun r M2 hq hS => ?_)
    obtain ⟨v3, rfl, H⟩ := hq
    have k4 : mm_k M2 a0 = (10, 14) := ks_S K0 (by decide) hS
    have k5 : mm_k M2 (mm_r M a0 0) = (0, 4) := ks_S k1 (by decide) hS
    show go_W mt_X10_completeTask fr_C 60 [some (pv_r a0), some (pv_r a1), some (pv_r a2), some (pv_i x3), none] [pv_r v3] M2 (qv_ P)
    refine go_astore (by decide) dX10_completeTask_60 ?_
    show go_W mt_X10_completeTask fr_C 62 [some (pv_r a0), some (pv_r a1), some (pv_r a2), some (pv_i x3), some (pv_r v3)] [] M2 (qv_ P)
    refine go_aload dX10_completeTask_62 rfl ?_
    refine go_ifnonnull (tgt := 70) dX10_completeTask_64 (by decide) (fun hc => ?_) (fun hc => ?_)
    · replace H := H.1 hc
      refine go_aload_n dX10_completeTask_70 rfl ?_
      refine go_aload dX10_completeTask_71 rfl ?_
      refine go_V (av := [pv_r v3]) (st := []) (ci := 10) ok_X10_waitAgain ⟨by decide, by decide⟩ ml_X10_122 rfl (by decide) (fun v hv => by simp only [List.mem_cons, List.not_mem_nil, or_false] at hv; rcases hv with rfl <;> first | exact pv_1i | exact pv_1r) (Nat.le_of_ble_eq_true rfl) (fun _ h => h) (by decide) rfl k4 dX10_completeTask_73 H (fun r M6 hq hS => ?_)
      obtain ⟨rfl, H⟩ := hq
      have k7 : mm_k M6 a0 = (10, 14) := ks_S k4 (by decide) hS
      have k8 : mm_k M6 (mm_r M a0 0) = (0, 4) := ks_S k5 (by decide) hS
      show go_W mt_X10_completeTask fr_C 76 [some (pv_r a0), some (pv_r a1), some (pv_r a2), some (pv_i x3), some (pv_r v3)] [] M6 (qv_ P)
      refine go_iinc (v := (1 : Int32)) (by decide) rfl rfl dX10_completeTask_76 ?_
      show go_W mt_X10_completeTask fr_C 79 [some (pv_r a0), some (pv_r a1), some (pv_r a2), some (pv_i (x3 + (1 : Int32))), some (pv_r v3)] [] M6 (qv_ P)
      refine go_goto (tgt := 46) dX10_completeTask_79 (by decide) ?_
      exact go_fg (ls' := [some (pv_r a0), some (pv_r a1), some (pv_r a2), some (pv_i (x3 + (1 : Int32))), none]) ⟨rfl, ⟨rfl, ⟨rfl, ⟨rfl, trivial⟩⟩⟩⟩ H
    · replace H := H.2 hc
      refine go_goto (tgt := 82) dX10_completeTask_67 (by decide) ?_
      exact go_vret rfl dX10_completeTask_82 ⟨rfl, H⟩
set_option maxRecDepth 20000 in
theorem wc_X10_failTask_0 {M : mm_T} {a0 a1 : Nat} {x2 : Int32} {P : mm_T → Prop} (K0 : mm_k M a0 = (10, 14)) (H : mm_k M a1 = (6, 17) ∧ (cs_r mt_X6_letGo [pv_r a1] M (fun v3 M2 => (((v3 = 0) → ∀ M6, M6 = mm_pi M2 a1 8 (mm_i M2 a1 8 + (1 : Int32)) → cs_v mt_X6_addCause [pv_r a1, pv_i x2] M6 (fun M9 => cs_v mt_X10_note [pv_r a0, pv_i (3 : Int32), pv_r a1, pv_r v3, pv_i x2] M9 (fun M12 => mm_k M12 (mm_r M12 a0 0) = (0, 4) ∧ (∃ l16, ak_ M12 (mm_r M12 (mm_r M12 a0 0) 3) 0 l16 ∧ (3 < l16 ∧ ((((mm_i M12 a1 8 < mm_i M12 (mm_r M12 (mm_r M12 a0 0) 3) 3) → cs_i mt_X10_restOf [pv_r a0, pv_i (mm_i M12 a1 8)] M12 (fun v20 M19 => ∀ M25, M25 = mm_pi M19 a1 9 (mm_i M12 a0 11 + v20) → mm_k M25 (mm_r M25 a0 0) = (0, 4) ∧ (cs_v mt_X0_change [pv_r (mm_r M25 a0 0), pv_r a1, pv_i (2 : Int32)] M25 (fun M31 => P M31)))) ∧ ((¬ mm_i M12 a1 8 < mm_i M12 (mm_r M12 (mm_r M12 a0 0) 3) 3) → mm_k M12 (mm_r M12 a0 7) = (5, 3) ∧ (cs_v mt_X5_add [pv_r (mm_r M12 a0 7), pv_i (mm_i M12 a1 5)] M12 (fun M38 => mm_k M38 (mm_r M38 a0 4) = (4, 2) ∧ (cs_v mt_X4_clear [pv_r (mm_r M38 a0 4)] M38 (fun M45 => mm_k M45 (mm_r M45 a0 4) = (4, 2) ∧ (cs_v mt_X4_append [pv_r (mm_r M45 a0 4), pv_r a1] M45 (fun M53 => cs_i mt_X10_setAside [pv_r a0, pv_i x2] M53 (fun v62 M61 => P M61))))))))))))))) ∧ ((¬ v3 = 0) → mm_k M2 v3 = (9, 5) ∧ (∀ M71, M71 = mm_pi M2 v3 4 (mm_i M2 v3 4 + (1 : Int32)) → ∀ M75, M75 = mm_pi M71 a1 8 (mm_i M71 a1 8 + (1 : Int32)) → cs_v mt_X6_addCause [pv_r a1, pv_i x2] M75 (fun M79 => cs_v mt_X10_note [pv_r a0, pv_i (3 : Int32), pv_r a1, pv_r v3, pv_i x2] M79 (fun M83 => mm_k M83 (mm_r M83 a0 0) = (0, 4) ∧ (∃ l88, ak_ M83 (mm_r M83 (mm_r M83 a0 0) 3) 0 l88 ∧ (3 < l88 ∧ ((((mm_i M83 a1 8 < mm_i M83 (mm_r M83 (mm_r M83 a0 0) 3) 3) → cs_i mt_X10_restOf [pv_r a0, pv_i (mm_i M83 a1 8)] M83 (fun v92 M91 => ∀ M98, M98 = mm_pi M91 a1 9 (mm_i M83 a0 11 + v92) → mm_k M98 (mm_r M98 a0 0) = (0, 4) ∧ (cs_v mt_X0_change [pv_r (mm_r M98 a0 0), pv_r a1, pv_i (2 : Int32)] M98 (fun M105 => P M105)))) ∧ ((¬ mm_i M83 a1 8 < mm_i M83 (mm_r M83 (mm_r M83 a0 0) 3) 3) → mm_k M83 (mm_r M83 a0 7) = (5, 3) ∧ (cs_v mt_X5_add [pv_r (mm_r M83 a0 7), pv_i (mm_i M83 a1 5)] M83 (fun M113 => mm_k M113 (mm_r M113 a0 4) = (4, 2) ∧ (cs_v mt_X4_clear [pv_r (mm_r M113 a0 4)] M113 (fun M121 => mm_k M121 (mm_r M121 a0 4) = (4, 2) ∧ (cs_v mt_X4_append [pv_r (mm_r M121 a0 4), pv_r a1] M121 (fun M130 => cs_i mt_X10_setAside [pv_r a0, pv_i x2] M130 (fun v140 M139 => P M139)))))))))))))))))))) : cw_v mt_X10_failTask 0 [some (pv_r a0), some (pv_r a1), some (pv_i x2), none] [] M P := by
  refine go_aload_n dX10_failTask_0 rfl ?_
  obtain ⟨k1, H⟩ := H
  refine go_V (av := []) (st := []) (ci := 6) ok_X6_letGo ⟨by decide, by decide⟩ ml_X10_118 rfl (by decide) (fun v hv => absurd hv List.not_mem_nil) (Nat.le_of_ble_eq_true rfl) (fun _ h => h) (by decide) rfl k1 dX10_failTask_1 H (fun r M2 hq hS => ?_)
  obtain ⟨v3, rfl, H⟩ := hq
  have k4 : mm_k M2 a0 = (10, 14) := ks_S K0 (by decide) hS
  have k5 : mm_k M2 a1 = (6, 17) := ks_S k1 (by decide) hS
  show go_W mt_X10_failTask fr_C 4 [some (pv_r a0), some (pv_r a1), some (pv_i x2), none] [pv_r v3] M2 (qv_ P)
  refine go_astore_n (by decide) dX10_failTask_4 ?_
  show go_W mt_X10_failTask fr_C 5 [some (pv_r a0), some (pv_r a1), some (pv_i x2), some (pv_r v3)] [] M2 (qv_ P)
  refine go_aload_n dX10_failTask_5 rfl ?_
  refine go_ifnull (tgt := 19) dX10_failTask_6 (by decide) (fun hc => ?_) (fun hc => ?_)
  · replace H := H.1 hc
    refine go_aload_n dX10_failTask_19 rfl ?_
    refine go_dup pv_1r dX10_failTask_20 ?_
    refine go_getI (k := 8) ⟨by decide, rfl, by decide, rfl⟩ k5 fl_X10_216 dX10_failTask_21 ?_
    refine go_iconst (v := (1 : Int32)) rfl dX10_failTask_24 ?_
    refine go_iadd dX10_failTask_25 ?_
    refine go_putI (k := 8) ⟨by decide, rfl, by decide, rfl⟩ k5 rfl (Or.inl rfl) fl_X10_216 dX10_failTask_26 ?_
    show go_W mt_X10_failTask fr_C 29 [some (pv_r a0), some (pv_r a1), some (pv_i x2), some (pv_r v3)] [] (mm_pi M2 a1 8 (mm_i M2 a1 8 + (1 : Int32))) (qv_ P)
    obtain ⟨M6, hM6⟩ : ∃ M', M' = mm_pi M2 a1 8 (mm_i M2 a1 8 + (1 : Int32)) := ⟨_, rfl⟩
    have k7 : mm_k M6 a0 = (10, 14) := (by rw [hM6]; exact k4)
    have k8 : mm_k M6 a1 = (6, 17) := (by rw [hM6]; exact k5)
    rw [← hM6]
    replace H := H M6 hM6
    refine go_aload_n dX10_failTask_29 rfl ?_
    refine go_iload_n dX10_failTask_30 rfl ?_
    refine go_V (av := [pv_i x2]) (st := []) (ci := 6) ok_X6_addCause ⟨by decide, by decide⟩ ml_X10_452 rfl (by decide) (fun v hv => by simp only [List.mem_cons, List.not_mem_nil, or_false] at hv; rcases hv with rfl <;> first | exact pv_1i | exact pv_1r) (Nat.le_of_ble_eq_true rfl) (fun _ h => h) (by decide) rfl k8 dX10_failTask_31 H (fun r M9 hq hS => ?_)
    obtain ⟨rfl, H⟩ := hq
    have k10 : mm_k M9 a0 = (10, 14) := ks_S k7 (by decide) hS
    have k11 : mm_k M9 a1 = (6, 17) := ks_S k8 (by decide) hS
    show go_W mt_X10_failTask fr_C 34 [some (pv_r a0), some (pv_r a1), some (pv_i x2), some (pv_r v3)] [] M9 (qv_ P)
    refine go_aload_n dX10_failTask_34 rfl ?_
    refine go_iconst (v := (3 : Int32)) rfl dX10_failTask_35 ?_
    refine go_aload_n dX10_failTask_36 rfl ?_
    refine go_aload_n dX10_failTask_37 rfl ?_
    refine go_iload_n dX10_failTask_38 rfl ?_
    refine go_V (av := [pv_i (3 : Int32), pv_r a1, pv_r v3, pv_i x2]) (st := []) (ci := 10) ok_X10_note ⟨by decide, by decide⟩ ml_X10_181 rfl (by decide) (fun v hv => by simp only [List.mem_cons, List.not_mem_nil, or_false] at hv; rcases hv with rfl | rfl | rfl | rfl <;> first | exact pv_1i | exact pv_1r) (Nat.le_of_ble_eq_true rfl) (fun _ h => h) (by decide) rfl k10 dX10_failTask_39 H (fun r M12 hq hS => ?_)
    obtain ⟨rfl, H⟩ := hq
    have k13 : mm_k M12 a0 = (10, 14) := ks_S k10 (by decide) hS
    have k14 : mm_k M12 a1 = (6, 17) := ks_S k11 (by decide) hS
    show go_W mt_X10_failTask fr_C 42 [some (pv_r a0), some (pv_r a1), some (pv_i x2), some (pv_r v3)] [] M12 (qv_ P)
    refine go_aload_n dX10_failTask_42 rfl ?_
    refine go_getI (k := 8) ⟨by decide, rfl, by decide, rfl⟩ k14 fl_X10_216 dX10_failTask_43 ?_
    refine go_aload_n dX10_failTask_46 rfl ?_
    refine go_getR (k := 0) ⟨by decide, rfl, by decide, Or.inl ⟨_, rfl⟩⟩ k13 fl_X10_10 dX10_failTask_47 ?_
    obtain ⟨k15, H⟩ := H
    refine go_getR (k := 3) ⟨by decide, rfl, by decide, Or.inr ⟨_, rfl⟩⟩ k15 fl_X10_111 dX10_failTask_50 ?_
    refine go_iconst (v := (3 : Int32)) rfl dX10_failTask_53 ?_
    obtain ⟨l16, k17, H⟩ := H
    obtain ⟨hb18, H⟩ := H
    refine go_ialdA (j := 3) k17 rfl hb18 dX10_failTask_54 ?_
    refine go_icmp_lt (tgt := 93) dX10_failTask_55 (by decide) (fun hc => ?_) (fun hc => ?_)
    · replace H := H.1 hc
      refine go_aload_n dX10_failTask_93 rfl ?_
      refine go_aload_n dX10_failTask_94 rfl ?_
      refine go_getI (k := 11) ⟨by decide, rfl, by decide, rfl⟩ k13 fl_X10_108 dX10_failTask_95 ?_
      refine go_aload_n dX10_failTask_98 rfl ?_
      refine go_aload_n dX10_failTask_99 rfl ?_
      refine go_getI (k := 8) ⟨by decide, rfl, by decide, rfl⟩ k14 fl_X10_216 dX10_failTask_100 ?_
      refine go_V (av := [pv_i (mm_i M12 a1 8)]) (st := [pv_i (mm_i M12 a0 11), pv_r a1]) (ci := 10) ok_X10_restOf ⟨by decide, by decide⟩ ml_X10_461 rfl (by decide) (fun v hv => by simp only [List.mem_cons, List.not_mem_nil, or_false] at hv; rcases hv with rfl <;> first | exact pv_1i | exact pv_1r) (Nat.le_of_ble_eq_true rfl) (fun _ h => h) (by decide) rfl k13 dX10_failTask_103 H (fun r M19 hq hS => ?_)
      obtain ⟨v20, rfl, H⟩ := hq
      have k21 : mm_k M19 a0 = (10, 14) := ks_S k13 (by decide) hS
      have k22 : mm_k M19 a1 = (6, 17) := ks_S k14 (by decide) hS
      have k23 : mm_k M19 (mm_r M12 a0 0) = (0, 4) := ks_S k15 (by decide) hS
      have k24 : ak_ M19 (mm_r M12 (mm_r M12 a0 0) 3) 0 l16 := ak_S k17 hS
      show go_W mt_X10_failTask fr_C 106 [some (pv_r a0), some (pv_r a1), some (pv_i x2), some (pv_r v3)] [pv_i v20, pv_i (mm_i M12 a0 11), pv_r a1] M19 (qv_ P)
      refine go_iadd dX10_failTask_106 ?_
      refine go_putI (k := 9) ⟨by decide, rfl, by decide, rfl⟩ k22 rfl (Or.inl rfl) fl_X10_464 dX10_failTask_107 ?_
      show go_W mt_X10_failTask fr_C 110 [some (pv_r a0), some (pv_r a1), some (pv_i x2), some (pv_r v3)] [] (mm_pi M19 a1 9 (mm_i M12 a0 11 + v20)) (qv_ P)
      obtain ⟨M25, hM25⟩ : ∃ M', M' = mm_pi M19 a1 9 (mm_i M12 a0 11 + v20) := ⟨_, rfl⟩
      have k26 : mm_k M25 a0 = (10, 14) := (by rw [hM25]; exact k21)
      have k27 : mm_k M25 a1 = (6, 17) := (by rw [hM25]; exact k22)
      have k28 : mm_k M25 (mm_r M12 a0 0) = (0, 4) := (by rw [hM25]; exact k23)
      have k29 : ak_ M25 (mm_r M12 (mm_r M12 a0 0) 3) 0 l16 := (by rw [hM25]; exact k24)
      rw [← hM25]
      replace H := H M25 hM25
      refine go_aload_n dX10_failTask_110 rfl ?_
      refine go_getR (k := 0) ⟨by decide, rfl, by decide, Or.inl ⟨_, rfl⟩⟩ k26 fl_X10_10 dX10_failTask_111 ?_
      refine go_aload_n dX10_failTask_114 rfl ?_
      refine go_iconst (v := (2 : Int32)) rfl dX10_failTask_115 ?_
      obtain ⟨k30, H⟩ := H
      refine go_V (av := [pv_r a1, pv_i (2 : Int32)]) (st := []) (ci := 0) ok_X0_change ⟨by decide, by decide⟩ ml_X10_178 rfl (by decide) (fun v hv => by simp only [List.mem_cons, List.not_mem_nil, or_false] at hv; rcases hv with rfl | rfl <;> first | exact pv_1i | exact pv_1r) (Nat.le_of_ble_eq_true rfl) (fun _ h => h) (by decide) rfl k30 dX10_failTask_116 H (fun r M31 hq hS => ?_)
      obtain ⟨rfl, H⟩ := hq
      have k32 : mm_k M31 a0 = (10, 14) := ks_S k26 (by decide) hS
      have k33 : mm_k M31 a1 = (6, 17) := ks_S k27 (by decide) hS
      have k34 : mm_k M31 (mm_r M12 a0 0) = (0, 4) := ks_S k28 (by decide) hS
      have k35 : mm_k M31 (mm_r M25 a0 0) = (0, 4) := ks_S k30 (by decide) hS
      have k36 : ak_ M31 (mm_r M12 (mm_r M12 a0 0) 3) 0 l16 := ak_S k29 hS
      show go_W mt_X10_failTask fr_C 119 [some (pv_r a0), some (pv_r a1), some (pv_i x2), some (pv_r v3)] [] M31 (qv_ P)
      exact go_vret rfl dX10_failTask_119 ⟨rfl, H⟩
    · replace H := H.2 hc
      refine go_aload_n dX10_failTask_58 rfl ?_
      refine go_getR (k := 7) ⟨by decide, rfl, by decide, Or.inl ⟨_, rfl⟩⟩ k13 fl_X10_54 dX10_failTask_59 ?_
      refine go_aload_n dX10_failTask_62 rfl ?_
      refine go_getI (k := 5) ⟨by decide, rfl, by decide, rfl⟩ k14 fl_X10_415 dX10_failTask_63 ?_
      obtain ⟨k37, H⟩ := H
      refine go_V (av := [pv_i (mm_i M12 a1 5)]) (st := []) (ci := 5) ok_X5_add ⟨by decide, by decide⟩ ml_X10_455 rfl (by decide) (fun v hv => by simp only [List.mem_cons, List.not_mem_nil, or_false] at hv; rcases hv with rfl <;> first | exact pv_1i | exact pv_1r) (Nat.le_of_ble_eq_true rfl) (fun _ h => h) (by decide) rfl k37 dX10_failTask_66 H (fun r M38 hq hS => ?_)
      obtain ⟨rfl, H⟩ := hq
      have k39 : mm_k M38 a0 = (10, 14) := ks_S k13 (by decide) hS
      have k40 : mm_k M38 a1 = (6, 17) := ks_S k14 (by decide) hS
      have k41 : mm_k M38 (mm_r M12 a0 0) = (0, 4) := ks_S k15 (by decide) hS
      have k42 : mm_k M38 (mm_r M12 a0 7) = (5, 3) := ks_S k37 (by decide) hS
      have k43 : ak_ M38 (mm_r M12 (mm_r M12 a0 0) 3) 0 l16 := ak_S k17 hS
      show go_W mt_X10_failTask fr_C 69 [some (pv_r a0), some (pv_r a1), some (pv_i x2), some (pv_r v3)] [] M38 (qv_ P)
      refine go_aload_n dX10_failTask_69 rfl ?_
      refine go_getR (k := 4) ⟨by decide, rfl, by decide, Or.inl ⟨_, rfl⟩⟩ k39 fl_X10_35 dX10_failTask_70 ?_
      obtain ⟨k44, H⟩ := H
      refine go_V (av := []) (st := []) (ci := 4) ok_X4_clear ⟨by decide, by decide⟩ ml_X10_458 rfl (by decide) (fun v hv => absurd hv List.not_mem_nil) (Nat.le_of_ble_eq_true rfl) (fun _ h => h) (by decide) rfl k44 dX10_failTask_73 H (fun r M45 hq hS => ?_)
      obtain ⟨rfl, H⟩ := hq
      have k46 : mm_k M45 a0 = (10, 14) := ks_S k39 (by decide) hS
      have k47 : mm_k M45 a1 = (6, 17) := ks_S k40 (by decide) hS
      have k48 : mm_k M45 (mm_r M12 a0 0) = (0, 4) := ks_S k41 (by decide) hS
      have k49 : mm_k M45 (mm_r M12 a0 7) = (5, 3) := ks_S k42 (by decide) hS
      have k50 : mm_k M45 (mm_r M38 a0 4) = (4, 2) := ks_S k44 (by decide) hS
      have k51 : ak_ M45 (mm_r M12 (mm_r M12 a0 0) 3) 0 l16 := ak_S k43 hS
      show go_W mt_X10_failTask fr_C 76 [some (pv_r a0), some (pv_r a1), some (pv_i x2), some (pv_r v3)] [] M45 (qv_ P)
      refine go_aload_n dX10_failTask_76 rfl ?_
      refine go_getR (k := 4) ⟨by decide, rfl, by decide, Or.inl ⟨_, rfl⟩⟩ k46 fl_X10_35 dX10_failTask_77 ?_
      refine go_aload_n dX10_failTask_80 rfl ?_
      obtain ⟨k52, H⟩ := H
      refine go_V (av := [pv_r a1]) (st := []) (ci := 4) ok_X4_append ⟨by decide, by decide⟩ ml_X10_419 rfl (by decide) (fun v hv => by simp only [List.mem_cons, List.not_mem_nil, or_false] at hv; rcases hv with rfl <;> first | exact pv_1i | exact pv_1r) (Nat.le_of_ble_eq_true rfl) (fun _ h => h) (by decide) rfl k52 dX10_failTask_81 H (fun r M53 hq hS => ?_)
      obtain ⟨rfl, H⟩ := hq
      have k54 : mm_k M53 a0 = (10, 14) := ks_S k46 (by decide) hS
      have k55 : mm_k M53 a1 = (6, 17) := ks_S k47 (by decide) hS
      have k56 : mm_k M53 (mm_r M12 a0 0) = (0, 4) := ks_S k48 (by decide) hS
      have k57 : mm_k M53 (mm_r M12 a0 7) = (5, 3) := ks_S k49 (by decide) hS
      have k58 : mm_k M53 (mm_r M38 a0 4) = (4, 2) := ks_S k50 (by decide) hS
      have k59 : mm_k M53 (mm_r M45 a0 4) = (4, 2) := ks_S k52 (by decide) hS
      have k60 : ak_ M53 (mm_r M12 (mm_r M12 a0 0) 3) 0 l16 := ak_S k51 hS
      show go_W mt_X10_failTask fr_C 84 [some (pv_r a0), some (pv_r a1), some (pv_i x2), some (pv_r v3)] [] M53 (qv_ P)
      refine go_aload_n dX10_failTask_84 rfl ?_
      refine go_iload_n dX10_failTask_85 rfl ?_
      refine go_V (av := [pv_i x2]) (st := []) (ci := 10) ok_X10_setAside ⟨by decide, by decide⟩ ml_X10_188 rfl (by decide) (fun v hv => by simp only [List.mem_cons, List.not_mem_nil, or_false] at hv; rcases hv with rfl <;> first | exact pv_1i | exact pv_1r) (Nat.le_of_ble_eq_true rfl) (fun _ h => h) (by decide) rfl k54 dX10_failTask_86 H (fun r M61 hq hS => ?_)
      obtain ⟨v62, rfl, H⟩ := hq
      have k63 : mm_k M61 a0 = (10, 14) := ks_S k54 (by decide) hS
      have k64 : mm_k M61 a1 = (6, 17) := ks_S k55 (by decide) hS
      have k65 : mm_k M61 (mm_r M12 a0 0) = (0, 4) := ks_S k56 (by decide) hS
      have k66 : mm_k M61 (mm_r M12 a0 7) = (5, 3) := ks_S k57 (by decide) hS
      have k67 : mm_k M61 (mm_r M38 a0 4) = (4, 2) := ks_S k58 (by decide) hS
      have k68 : mm_k M61 (mm_r M45 a0 4) = (4, 2) := ks_S k59 (by decide) hS
      have k69 : ak_ M61 (mm_r M12 (mm_r M12 a0 0) 3) 0 l16 := ak_S k60 hS
      show go_W mt_X10_failTask fr_C 89 [some (pv_r a0), some (pv_r a1), some (pv_i x2), some (pv_r v3)] [pv_i v62] M61 (qv_ P)
      refine go_pop pv_1i dX10_failTask_89 ?_
      refine go_goto (tgt := 119) dX10_failTask_90 (by decide) ?_
      exact go_vret rfl dX10_failTask_119 ⟨rfl, H⟩
  · replace H := H.2 hc
    refine go_aload_n dX10_failTask_9 rfl ?_
    refine go_dup pv_1r dX10_failTask_10 ?_
    obtain ⟨k70, H⟩ := H
    refine go_getI (k := 4) ⟨by decide, rfl, by decide, rfl⟩ k70 fl_X10_449 dX10_failTask_11 ?_
    refine go_iconst (v := (1 : Int32)) rfl dX10_failTask_14 ?_
    refine go_iadd dX10_failTask_15 ?_
    refine go_putI (k := 4) ⟨by decide, rfl, by decide, rfl⟩ k70 rfl (Or.inl rfl) fl_X10_449 dX10_failTask_16 ?_
    show go_W mt_X10_failTask fr_C 19 [some (pv_r a0), some (pv_r a1), some (pv_i x2), some (pv_r v3)] [] (mm_pi M2 v3 4 (mm_i M2 v3 4 + (1 : Int32))) (qv_ P)
    obtain ⟨M71, hM71⟩ : ∃ M', M' = mm_pi M2 v3 4 (mm_i M2 v3 4 + (1 : Int32)) := ⟨_, rfl⟩
    have k72 : mm_k M71 a0 = (10, 14) := (by rw [hM71]; exact k4)
    have k73 : mm_k M71 a1 = (6, 17) := (by rw [hM71]; exact k5)
    have k74 : mm_k M71 v3 = (9, 5) := (by rw [hM71]; exact k70)
    rw [← hM71]
    replace H := H M71 hM71
    refine go_aload_n dX10_failTask_19 rfl ?_
    refine go_dup pv_1r dX10_failTask_20 ?_
    refine go_getI (k := 8) ⟨by decide, rfl, by decide, rfl⟩ k73 fl_X10_216 dX10_failTask_21 ?_
    refine go_iconst (v := (1 : Int32)) rfl dX10_failTask_24 ?_
    refine go_iadd dX10_failTask_25 ?_
    refine go_putI (k := 8) ⟨by decide, rfl, by decide, rfl⟩ k73 rfl (Or.inl rfl) fl_X10_216 dX10_failTask_26 ?_
    show go_W mt_X10_failTask fr_C 29 [some (pv_r a0), some (pv_r a1), some (pv_i x2), some (pv_r v3)] [] (mm_pi M71 a1 8 (mm_i M71 a1 8 + (1 : Int32))) (qv_ P)
    obtain ⟨M75, hM75⟩ : ∃ M', M' = mm_pi M71 a1 8 (mm_i M71 a1 8 + (1 : Int32)) := ⟨_, rfl⟩
    have k76 : mm_k M75 a0 = (10, 14) := (by rw [hM75]; exact k72)
    have k77 : mm_k M75 a1 = (6, 17) := (by rw [hM75]; exact k73)
    have k78 : mm_k M75 v3 = (9, 5) := (by rw [hM75]; exact k74)
    rw [← hM75]
    replace H := H M75 hM75
    refine go_aload_n dX10_failTask_29 rfl ?_
    refine go_iload_n dX10_failTask_30 rfl ?_
    refine go_V (av := [pv_i x2]) (st := []) (ci := 6) ok_X6_addCause ⟨by decide, by decide⟩ ml_X10_452 rfl (by decide) (fun v hv => by simp only [List.mem_cons, List.not_mem_nil, or_false] at hv; rcases hv with rfl <;> first | exact pv_1i | exact pv_1r) (Nat.le_of_ble_eq_true rfl) (fun _ h => h) (by decide) rfl k77 dX10_failTask_31 H (fun r M79 hq hS => ?_)
    obtain ⟨rfl, H⟩ := hq
    have k80 : mm_k M79 a0 = (10, 14) := ks_S k76 (by decide) hS
    have k81 : mm_k M79 a1 = (6, 17) := ks_S k77 (by decide) hS
    have k82 : mm_k M79 v3 = (9, 5) := ks_S k78 (by decide) hS
    show go_W mt_X10_failTask fr_C 34 [some (pv_r a0), some (pv_r a1), some (pv_i x2), some (pv_r v3)] [] M79 (qv_ P)
    refine go_aload_n dX10_failTask_34 rfl ?_
    refine go_iconst (v := (3 : Int32)) rfl dX10_failTask_35 ?_
    refine go_aload_n dX10_failTask_36 rfl ?_
    refine go_aload_n dX10_failTask_37 rfl ?_
    refine go_iload_n dX10_failTask_38 rfl ?_
    refine go_V (av := [pv_i (3 : Int32), pv_r a1, pv_r v3, pv_i x2]) (st := []) (ci := 10) ok_X10_note ⟨by decide, by decide⟩ ml_X10_181 rfl (by decide) (fun v hv => by simp only [List.mem_cons, List.not_mem_nil, or_false] at hv; rcases hv with rfl | rfl | rfl | rfl <;> first | exact pv_1i | exact pv_1r) (Nat.le_of_ble_eq_true rfl) (fun _ h => h) (by decide) rfl k80 dX10_failTask_39 H (fun r M83 hq hS => ?_)
    obtain ⟨rfl, H⟩ := hq
    have k84 : mm_k M83 a0 = (10, 14) := ks_S k80 (by decide) hS
    have k85 : mm_k M83 a1 = (6, 17) := ks_S k81 (by decide) hS
    have k86 : mm_k M83 v3 = (9, 5) := ks_S k82 (by decide) hS
    show go_W mt_X10_failTask fr_C 42 [some (pv_r a0), some (pv_r a1), some (pv_i x2), some (pv_r v3)] [] M83 (qv_ P)
    refine go_aload_n dX10_failTask_42 rfl ?_
    refine go_getI (k := 8) ⟨by decide, rfl, by decide, rfl⟩ k85 fl_X10_216 dX10_failTask_43 ?_
    refine go_aload_n dX10_failTask_46 rfl ?_
    refine go_getR (k := 0) ⟨by decide, rfl, by decide, Or.inl ⟨_, rfl⟩⟩ k84 fl_X10_10 dX10_failTask_47 ?_
    obtain ⟨k87, H⟩ := H
    refine go_getR (k := 3) ⟨by decide, rfl, by decide, Or.inr ⟨_, rfl⟩⟩ k87 fl_X10_111 dX10_failTask_50 ?_
    refine go_iconst (v := (3 : Int32)) rfl dX10_failTask_53 ?_
    obtain ⟨l88, k89, H⟩ := H
    obtain ⟨hb90, H⟩ := H
    refine go_ialdA (j := 3) k89 rfl hb90 dX10_failTask_54 ?_
    refine go_icmp_lt (tgt := 93) dX10_failTask_55 (by decide) (fun hc => ?_) (fun hc => ?_)
    · replace H := H.1 hc
      refine go_aload_n dX10_failTask_93 rfl ?_
      refine go_aload_n dX10_failTask_94 rfl ?_
      refine go_getI (k := 11) ⟨by decide, rfl, by decide, rfl⟩ k84 fl_X10_108 dX10_failTask_95 ?_
      refine go_aload_n dX10_failTask_98 rfl ?_
      refine go_aload_n dX10_failTask_99 rfl ?_
      refine go_getI (k := 8) ⟨by decide, rfl, by decide, rfl⟩ k85 fl_X10_216 dX10_failTask_100 ?_
      refine go_V (av := [pv_i (mm_i M83 a1 8)]) (st := [pv_i (mm_i M83 a0 11), pv_r a1]) (ci := 10) ok_X10_restOf ⟨by decide, by decide⟩ ml_X10_461 rfl (by decide) (fun v hv => by simp only [List.mem_cons, List.not_mem_nil, or_false] at hv; rcases hv with rfl <;> first | exact pv_1i | exact pv_1r) (Nat.le_of_ble_eq_true rfl) (fun _ h => h) (by decide) rfl k84 dX10_failTask_103 H (fun r M91 hq hS => ?_)
      obtain ⟨v92, rfl, H⟩ := hq
      have k93 : mm_k M91 a0 = (10, 14) := ks_S k84 (by decide) hS
      have k94 : mm_k M91 a1 = (6, 17) := ks_S k85 (by decide) hS
      have k95 : mm_k M91 v3 = (9, 5) := ks_S k86 (by decide) hS
      have k96 : mm_k M91 (mm_r M83 a0 0) = (0, 4) := ks_S k87 (by decide) hS
      have k97 : ak_ M91 (mm_r M83 (mm_r M83 a0 0) 3) 0 l88 := ak_S k89 hS
      show go_W mt_X10_failTask fr_C 106 [some (pv_r a0), some (pv_r a1), some (pv_i x2), some (pv_r v3)] [pv_i v92, pv_i (mm_i M83 a0 11), pv_r a1] M91 (qv_ P)
      refine go_iadd dX10_failTask_106 ?_
      refine go_putI (k := 9) ⟨by decide, rfl, by decide, rfl⟩ k94 rfl (Or.inl rfl) fl_X10_464 dX10_failTask_107 ?_
      show go_W mt_X10_failTask fr_C 110 [some (pv_r a0), some (pv_r a1), some (pv_i x2), some (pv_r v3)] [] (mm_pi M91 a1 9 (mm_i M83 a0 11 + v92)) (qv_ P)
      obtain ⟨M98, hM98⟩ : ∃ M', M' = mm_pi M91 a1 9 (mm_i M83 a0 11 + v92) := ⟨_, rfl⟩
      have k99 : mm_k M98 a0 = (10, 14) := (by rw [hM98]; exact k93)
      have k100 : mm_k M98 a1 = (6, 17) := (by rw [hM98]; exact k94)
      have k101 : mm_k M98 v3 = (9, 5) := (by rw [hM98]; exact k95)
      have k102 : mm_k M98 (mm_r M83 a0 0) = (0, 4) := (by rw [hM98]; exact k96)
      have k103 : ak_ M98 (mm_r M83 (mm_r M83 a0 0) 3) 0 l88 := (by rw [hM98]; exact k97)
      rw [← hM98]
      replace H := H M98 hM98
      refine go_aload_n dX10_failTask_110 rfl ?_
      refine go_getR (k := 0) ⟨by decide, rfl, by decide, Or.inl ⟨_, rfl⟩⟩ k99 fl_X10_10 dX10_failTask_111 ?_
      refine go_aload_n dX10_failTask_114 rfl ?_
      refine go_iconst (v := (2 : Int32)) rfl dX10_failTask_115 ?_
      obtain ⟨k104, H⟩ := H
      refine go_V (av := [pv_r a1, pv_i (2 : Int32)]) (st := []) (ci := 0) ok_X0_change ⟨by decide, by decide⟩ ml_X10_178 rfl (by decide) (fun v hv => by simp only [List.mem_cons, List.not_mem_nil, or_false] at hv; rcases hv with rfl | rfl <;> first | exact pv_1i | exact pv_1r) (Nat.le_of_ble_eq_true rfl) (fun _ h => h) (by decide) rfl k104 dX10_failTask_116 H (fun r M105 hq hS => ?_)
      obtain ⟨rfl, H⟩ := hq
      have k106 : mm_k M105 a0 = (10, 14) := ks_S k99 (by decide) hS
      have k107 : mm_k M105 a1 = (6, 17) := ks_S k100 (by decide) hS
      have k108 : mm_k M105 v3 = (9, 5) := ks_S k101 (by decide) hS
      have k109 : mm_k M105 (mm_r M83 a0 0) = (0, 4) := ks_S k102 (by decide) hS
      have k110 : mm_k M105 (mm_r M98 a0 0) = (0, 4) := ks_S k104 (by decide) hS
      have k111 : ak_ M105 (mm_r M83 (mm_r M83 a0 0) 3) 0 l88 := ak_S k103 hS
      show go_W mt_X10_failTask fr_C 119 [some (pv_r a0), some (pv_r a1), some (pv_i x2), some (pv_r v3)] [] M105 (qv_ P)
      exact go_vret rfl dX10_failTask_119 ⟨rfl, H⟩
    · replace H := H.2 hc
      refine go_aload_n dX10_failTask_58 rfl ?_
      refine go_getR (k := 7) ⟨by decide, rfl, by decide, Or.inl ⟨_, rfl⟩⟩ k84 fl_X10_54 dX10_failTask_59 ?_
      refine go_aload_n dX10_failTask_62 rfl ?_
      refine go_getI (k := 5) ⟨by decide, rfl, by decide, rfl⟩ k85 fl_X10_415 dX10_failTask_63 ?_
      obtain ⟨k112, H⟩ := H
      refine go_V (av := [pv_i (mm_i M83 a1 5)]) (st := []) (ci := 5) ok_X5_add ⟨by decide, by decide⟩ ml_X10_455 rfl (by decide) (fun v hv => by simp only [List.mem_cons, List.not_mem_nil, or_false] at hv; rcases hv with rfl <;> first | exact pv_1i | exact pv_1r) (Nat.le_of_ble_eq_true rfl) (fun _ h => h) (by decide) rfl k112 dX10_failTask_66 H (fun r M113 hq hS => ?_)
      obtain ⟨rfl, H⟩ := hq
      have k114 : mm_k M113 a0 = (10, 14) := ks_S k84 (by decide) hS
      have k115 : mm_k M113 a1 = (6, 17) := ks_S k85 (by decide) hS
      have k116 : mm_k M113 v3 = (9, 5) := ks_S k86 (by decide) hS
      have k117 : mm_k M113 (mm_r M83 a0 0) = (0, 4) := ks_S k87 (by decide) hS
      have k118 : mm_k M113 (mm_r M83 a0 7) = (5, 3) := ks_S k112 (by decide) hS
      have k119 : ak_ M113 (mm_r M83 (mm_r M83 a0 0) 3) 0 l88 := ak_S k89 hS
      show go_W mt_X10_failTask fr_C 69 [some (pv_r a0), some (pv_r a1), some (pv_i x2), some (pv_r v3)] [] M113 (qv_ P)
      refine go_aload_n dX10_failTask_69 rfl ?_
      refine go_getR (k := 4) ⟨by decide, rfl, by decide, Or.inl ⟨_, rfl⟩⟩ k114 fl_X10_35 dX10_failTask_70 ?_
      obtain ⟨k120, H⟩ := H
      refine go_V (av := []) (st := []) (ci := 4) ok_X4_clear ⟨by decide, by decide⟩ ml_X10_458 rfl (by decide) (fun v hv => absurd hv List.not_mem_nil) (Nat.le_of_ble_eq_true rfl) (fun _ h => h) (by decide) rfl k120 dX10_failTask_73 H (fun r M121 hq hS => ?_)
      obtain ⟨rfl, H⟩ := hq
      have k122 : mm_k M121 a0 = (10, 14) := ks_S k114 (by decide) hS
      have k123 : mm_k M121 a1 = (6, 17) := ks_S k115 (by decide) hS
      have k124 : mm_k M121 v3 = (9, 5) := ks_S k116 (by decide) hS
      have k125 : mm_k M121 (mm_r M83 a0 0) = (0, 4) := ks_S k117 (by decide) hS
      have k126 : mm_k M121 (mm_r M83 a0 7) = (5, 3) := ks_S k118 (by decide) hS
      have k127 : mm_k M121 (mm_r M113 a0 4) = (4, 2) := ks_S k120 (by decide) hS
      have k128 : ak_ M121 (mm_r M83 (mm_r M83 a0 0) 3) 0 l88 := ak_S k119 hS
      show go_W mt_X10_failTask fr_C 76 [some (pv_r a0), some (pv_r a1), some (pv_i x2), some (pv_r v3)] [] M121 (qv_ P)
      refine go_aload_n dX10_failTask_76 rfl ?_
      refine go_getR (k := 4) ⟨by decide, rfl, by decide, Or.inl ⟨_, rfl⟩⟩ k122 fl_X10_35 dX10_failTask_77 ?_
      refine go_aload_n dX10_failTask_80 rfl ?_
      obtain ⟨k129, H⟩ := H
      refine go_V (av := [pv_r a1]) (st := []) (ci := 4) ok_X4_append ⟨by decide, by decide⟩ ml_X10_419 rfl (by decide) (fun v hv => by simp only [List.mem_cons, List.not_mem_nil, or_false] at hv; rcases hv with rfl <;> first | exact pv_1i | exact pv_1r) (Nat.le_of_ble_eq_true rfl) (fun _ h => h) (by decide) rfl k129 dX10_failTask_81 H (fun r M130 hq hS => ?_)
      obtain ⟨rfl, H⟩ := hq
      have k131 : mm_k M130 a0 = (10, 14) := ks_S k122 (by decide) hS
      have k132 : mm_k M130 a1 = (6, 17) := ks_S k123 (by decide) hS
      have k133 : mm_k M130 v3 = (9, 5) := ks_S k124 (by decide) hS
      have k134 : mm_k M130 (mm_r M83 a0 0) = (0, 4) := ks_S k125 (by decide) hS
      have k135 : mm_k M130 (mm_r M83 a0 7) = (5, 3) := ks_S k126 (by decide) hS
      have k136 : mm_k M130 (mm_r M113 a0 4) = (4, 2) := ks_S k127 (by decide) hS
      have k137 : mm_k M130 (mm_r M121 a0 4) = (4, 2) := ks_S k129 (by decide) hS
      have k138 : ak_ M130 (mm_r M83 (mm_r M83 a0 0) 3) 0 l88 := ak_S k128 hS
      show go_W mt_X10_failTask fr_C 84 [some (pv_r a0), some (pv_r a1), some (pv_i x2), some (pv_r v3)] [] M130 (qv_ P)
      refine go_aload_n dX10_failTask_84 rfl ?_
      refine go_iload_n dX10_failTask_85 rfl ?_
      refine go_V (av := [pv_i x2]) (st := []) (ci := 10) ok_X10_setAside ⟨by decide, by decide⟩ ml_X10_188 rfl (by decide) (fun v hv => by simp only [List.mem_cons, List.not_mem_nil, or_false] at hv; rcases hv with rfl <;> first | exact pv_1i | exact pv_1r) (Nat.le_of_ble_eq_true rfl) (fun _ h => h) (by decide) rfl k131 dX10_failTask_86 H (fun r M139 hq hS => ?_)
      obtain ⟨v140, rfl, H⟩ := hq
      have k141 : mm_k M139 a0 = (10, 14) := ks_S k131 (by decide) hS
      have k142 : mm_k M139 a1 = (6, 17) := ks_S k132 (by decide) hS
      have k143 : mm_k M139 v3 = (9, 5) := ks_S k133 (by decide) hS
      have k144 : mm_k M139 (mm_r M83 a0 0) = (0, 4) := ks_S k134 (by decide) hS
      have k145 : mm_k M139 (mm_r M83 a0 7) = (5, 3) := ks_S k135 (by decide) hS
      have k146 : mm_k M139 (mm_r M113 a0 4) = (4, 2) := ks_S k136 (by decide) hS
      have k147 : mm_k M139 (mm_r M121 a0 4) = (4, 2) := ks_S k137 (by decide) hS
      have k148 : ak_ M139 (mm_r M83 (mm_r M83 a0 0) 3) 0 l88 := ak_S k138 hS
      show go_W mt_X10_failTask fr_C 89 [some (pv_r a0), some (pv_r a1), some (pv_i x2), some (pv_r v3)] [pv_i v140] M139 (qv_ P)
      refine go_pop pv_1i dX10_failTask_89 ?_
      refine go_goto (tgt := 119) dX10_failTask_90 (by decide) ?_
      exact go_vret rfl dX10_failTask_119 ⟨rfl, H⟩
set_option maxRecDepth 20000 in
theorem wc_X10_setAside_0 {M : mm_T} {a0 : Nat} {x1 : Int32} {P : Int32 → mm_T → Prop} (K0 : mm_k M a0 = (10, 14)) (H : cw_i mt_X10_setAside 7 [some (pv_r a0), some (pv_i x1), some (pv_i x1), some (pv_i (0 : Int32)), some (pv_i (0 : Int32)), none, none] [] M P) : cw_i mt_X10_setAside 0 [some (pv_r a0), some (pv_i x1), none, none, none, none, none] [] M P := by
  refine go_iload_n dX10_setAside_0 rfl ?_
  refine go_istore_n (by decide) dX10_setAside_1 ?_
  show go_W mt_X10_setAside fr_C 2 [some (pv_r a0), some (pv_i x1), some (pv_i x1), none, none, none, none] [] M (qi_ P)
  refine go_iconst (v := (0 : Int32)) rfl dX10_setAside_2 ?_
  refine go_istore_n (by decide) dX10_setAside_3 ?_
  show go_W mt_X10_setAside fr_C 4 [some (pv_r a0), some (pv_i x1), some (pv_i x1), some (pv_i (0 : Int32)), none, none, none] [] M (qi_ P)
  refine go_iconst (v := (0 : Int32)) rfl dX10_setAside_4 ?_
  refine go_istore (by decide) dX10_setAside_5 ?_
  show go_W mt_X10_setAside fr_C 7 [some (pv_r a0), some (pv_i x1), some (pv_i x1), some (pv_i (0 : Int32)), some (pv_i (0 : Int32)), none, none] [] M (qi_ P)
  exact H
set_option maxRecDepth 20000 in
theorem wc_X10_setAside_7 {M : mm_T} {a0 : Nat} {x1 x2 x3 x4 : Int32} {P : Int32 → mm_T → Prop} (K0 : mm_k M a0 = (10, 14)) (H : ((((48 : Int32) < x4) → P x3 M) ∧ ((¬ (48 : Int32) < x4) → mm_k M (mm_r M a0 4) = (4, 2) ∧ ((((mm_i M (mm_r M a0 4) 1 ≤ 0) → P x3 M) ∧ ((¬ mm_i M (mm_r M a0 4) 1 ≤ 0) → cw_i mt_X10_setAside 27 [some (pv_r a0), some (pv_i x1), some (pv_i x2), some (pv_i x3), some (pv_i x4), some (pv_i (0 : Int32)), none] [] M P)))))) : cw_i mt_X10_setAside 7 [some (pv_r a0), some (pv_i x1), some (pv_i x2), some (pv_i x3), some (pv_i x4), none, none] [] M P := by
  refine go_iload dX10_setAside_7 rfl ?_
  refine go_bipush (v := (48 : Int32)) rfl dX10_setAside_9 ?_
  refine go_icmp_gt (tgt := 120) dX10_setAside_11 (by decide) (fun hc => ?_) (fun hc => ?_)
  · replace H := H.1 hc
    refine go_iload_n dX10_setAside_120 rfl ?_
    exact go_iret rfl rfl dX10_setAside_121 ⟨_, rfl, H⟩
  · replace H := H.2 hc
    refine go_aload_n dX10_setAside_14 rfl ?_
    refine go_getR (k := 4) ⟨by decide, rfl, by decide, Or.inl ⟨_, rfl⟩⟩ K0 fl_X10_35 dX10_setAside_15 ?_
    obtain ⟨k1, H⟩ := H
    refine go_getI (k := 1) ⟨by decide, rfl, by decide, rfl⟩ k1 fl_X10_222 dX10_setAside_18 ?_
    refine go_if_le (tgt := 120) dX10_setAside_21 (by decide) (fun hc => ?_) (fun hc => ?_)
    · replace H := H.1 hc
      refine go_iload_n dX10_setAside_120 rfl ?_
      exact go_iret rfl rfl dX10_setAside_121 ⟨_, rfl, H⟩
    · replace H := H.2 hc
      refine go_iconst (v := (0 : Int32)) rfl dX10_setAside_24 ?_
      refine go_istore (by decide) dX10_setAside_25 ?_
      show go_W mt_X10_setAside fr_C 27 [some (pv_r a0), some (pv_i x1), some (pv_i x2), some (pv_i x3), some (pv_i x4), some (pv_i (0 : Int32)), none] [] M (qi_ P)
      exact H
set_option maxRecDepth 20000 in
theorem wc_X10_setAside_27 {M : mm_T} {a0 : Nat} {x1 x2 x3 x4 x5 : Int32} {P : Int32 → mm_T → Prop} (K0 : mm_k M a0 = (10, 14)) (H : mm_k M (mm_r M a0 4) = (4, 2) ∧ ((((mm_i M (mm_r M a0 4) 1 ≤ x5) → cs_v mt_X10_gatherFalling [pv_r a0] M (fun M2 => cw_i mt_X10_setAside 7 [some (pv_r a0), some (pv_i x1), some (pv_i (100 : Int32)), some (pv_i (x3 + mm_i M (mm_r M a0 4) 1)), some (pv_i (x4 + (1 : Int32))), none, none] [] M2 P)) ∧ ((¬ mm_i M (mm_r M a0 4) 1 ≤ x5) → ∃ l5, ak_ M (mm_r M (mm_r M a0 4) 0) 3 l5 ∧ (∃ n8, (x5 = nI n8 ∧ n8 < l5) ∧ (mm_k M (mm_r M a0 0) = (0, 4) ∧ (cs_v mt_X0_change [pv_r (mm_r M a0 0), pv_r (mm_r M (mm_r M (mm_r M a0 4) 0) n8), pv_i (5 : Int32)] M (fun M10 => (((x2 < (100 : Int32)) → mm_k M10 (mm_r M10 a0 3) = (4, 2) ∧ (cs_v mt_X4_append [pv_r (mm_r M10 a0 3), pv_r (mm_r M (mm_r M (mm_r M a0 4) 0) n8)] M10 (fun M16 => cs_v mt_X10_note [pv_r a0, pv_i (4 : Int32), pv_r (mm_r M (mm_r M (mm_r M a0 4) 0) n8), pv_r 0, pv_i x2] M16 (fun M22 => cw_i mt_X10_setAside 27 [some (pv_r a0), some (pv_i x1), some (pv_i x2), some (pv_i x3), some (pv_i x4), some (pv_i (nI (n8 + 1))), none] [] M22 P)))) ∧ ((¬ x2 < (100 : Int32)) → mm_k M10 (mm_r M (mm_r M (mm_r M a0 4) 0) n8) = (6, 17) ∧ (cs_v mt_X6_addCause [pv_r (mm_r M (mm_r M (mm_r M a0 4) 0) n8), pv_i x2] M10 (fun M29 => mm_k M29 (mm_r M29 a0 3) = (4, 2) ∧ (cs_v mt_X4_append [pv_r (mm_r M29 a0 3), pv_r (mm_r M (mm_r M (mm_r M a0 4) 0) n8)] M29 (fun M36 => cs_v mt_X10_note [pv_r a0, pv_i (4 : Int32), pv_r (mm_r M (mm_r M (mm_r M a0 4) 0) n8), pv_r 0, pv_i x2] M36 (fun M43 => cw_i mt_X10_setAside 27 [some (pv_r a0), some (pv_i x1), some (pv_i x2), some (pv_i x3), some (pv_i x4), some (pv_i (nI (n8 + 1))), none] [] M43 P))))))))))))))) : cw_i mt_X10_setAside 27 [some (pv_r a0), some (pv_i x1), some (pv_i x2), some (pv_i x3), some (pv_i x4), some (pv_i x5), none] [] M P := by
  refine go_iload dX10_setAside_27 rfl ?_
  refine go_aload_n dX10_setAside_29 rfl ?_
  refine go_getR (k := 4) ⟨by decide, rfl, by decide, Or.inl ⟨_, rfl⟩⟩ K0 fl_X10_35 dX10_setAside_30 ?_
  obtain ⟨k1, H⟩ := H
  refine go_getI (k := 1) ⟨by decide, rfl, by decide, rfl⟩ k1 fl_X10_222 dX10_setAside_33 ?_
  refine go_icmp_ge (tgt := 97) dX10_setAside_36 (by decide) (fun hc => ?_) (fun hc => ?_)
  · replace H := H.1 hc
    refine go_iload_n dX10_setAside_97 rfl ?_
    refine go_aload_n dX10_setAside_98 rfl ?_
    refine go_getR (k := 4) ⟨by decide, rfl, by decide, Or.inl ⟨_, rfl⟩⟩ K0 fl_X10_35 dX10_setAside_99 ?_
    refine go_getI (k := 1) ⟨by decide, rfl, by decide, rfl⟩ k1 fl_X10_222 dX10_setAside_102 ?_
    refine go_iadd dX10_setAside_105 ?_
    refine go_istore_n (by decide) dX10_setAside_106 ?_
    show go_W mt_X10_setAside fr_C 107 [some (pv_r a0), some (pv_i x1), some (pv_i x2), some (pv_i (x3 + mm_i M (mm_r M a0 4) 1)), some (pv_i x4), some (pv_i x5), none] [] M (qi_ P)
    refine go_bipush (v := (100 : Int32)) rfl dX10_setAside_107 ?_
    refine go_istore_n (by decide) dX10_setAside_109 ?_
    show go_W mt_X10_setAside fr_C 110 [some (pv_r a0), some (pv_i x1), some (pv_i (100 : Int32)), some (pv_i (x3 + mm_i M (mm_r M a0 4) 1)), some (pv_i x4), some (pv_i x5), none] [] M (qi_ P)
    refine go_aload_n dX10_setAside_110 rfl ?_
    refine go_V (av := []) (st := []) (ci := 10) ok_X10_gatherFalling ⟨by decide, by decide⟩ ml_X10_185 rfl (by decide) (fun v hv => absurd hv List.not_mem_nil) (Nat.le_of_ble_eq_true rfl) (fun _ h => h) (by decide) rfl K0 dX10_setAside_111 H (fun r M2 hq hS => ?_)
    obtain ⟨rfl, H⟩ := hq
    have k3 : mm_k M2 a0 = (10, 14) := ks_S K0 (by decide) hS
    have k4 : mm_k M2 (mm_r M a0 4) = (4, 2) := ks_S k1 (by decide) hS
    show go_W mt_X10_setAside fr_C 114 [some (pv_r a0), some (pv_i x1), some (pv_i (100 : Int32)), some (pv_i (x3 + mm_i M (mm_r M a0 4) 1)), some (pv_i x4), some (pv_i x5), none] [] M2 (qi_ P)
    refine go_iinc (v := (1 : Int32)) (by decide) rfl rfl dX10_setAside_114 ?_
    show go_W mt_X10_setAside fr_C 117 [some (pv_r a0), some (pv_i x1), some (pv_i (100 : Int32)), some (pv_i (x3 + mm_i M (mm_r M a0 4) 1)), some (pv_i (x4 + (1 : Int32))), some (pv_i x5), none] [] M2 (qi_ P)
    refine go_goto (tgt := 7) dX10_setAside_117 (by decide) ?_
    exact go_fg (ls' := [some (pv_r a0), some (pv_i x1), some (pv_i (100 : Int32)), some (pv_i (x3 + mm_i M (mm_r M a0 4) 1)), some (pv_i (x4 + (1 : Int32))), none, none]) ⟨rfl, ⟨rfl, ⟨rfl, ⟨rfl, ⟨rfl, trivial⟩⟩⟩⟩⟩ H
  · replace H := H.2 hc
    refine go_aload_n dX10_setAside_39 rfl ?_
    refine go_getR (k := 4) ⟨by decide, rfl, by decide, Or.inl ⟨_, rfl⟩⟩ K0 fl_X10_35 dX10_setAside_40 ?_
    refine go_getR (k := 0) ⟨by decide, rfl, by decide, Or.inr ⟨_, rfl⟩⟩ k1 fl_X10_380 dX10_setAside_43 ?_
    refine go_iload dX10_setAside_46 rfl ?_
    obtain ⟨l5, k6, H⟩ := H
    obtain ⟨n8, ⟨hn8, hn8b⟩, H⟩ := H
    refine go_aaldA (j := n8) k6 (by decide) hn8 hn8b dX10_setAside_48 ?_
    refine go_astore (by decide) dX10_setAside_49 ?_
    show go_W mt_X10_setAside fr_C 51 [some (pv_r a0), some (pv_i x1), some (pv_i x2), some (pv_i x3), some (pv_i x4), some (pv_i x5), some (pv_r (mm_r M (mm_r M (mm_r M a0 4) 0) n8))] [] M (qi_ P)
    refine go_aload_n dX10_setAside_51 rfl ?_
    refine go_getR (k := 0) ⟨by decide, rfl, by decide, Or.inl ⟨_, rfl⟩⟩ K0 fl_X10_10 dX10_setAside_52 ?_
    refine go_aload dX10_setAside_55 rfl ?_
    refine go_iconst (v := (5 : Int32)) rfl dX10_setAside_57 ?_
    obtain ⟨k9, H⟩ := H
    refine go_V (av := [pv_r (mm_r M (mm_r M (mm_r M a0 4) 0) n8), pv_i (5 : Int32)]) (st := []) (ci := 0) ok_X0_change ⟨by decide, by decide⟩ ml_X10_178 rfl (by decide) (fun v hv => by simp only [List.mem_cons, List.not_mem_nil, or_false] at hv; rcases hv with rfl | rfl <;> first | exact pv_1i | exact pv_1r) (Nat.le_of_ble_eq_true rfl) (fun _ h => h) (by decide) rfl k9 dX10_setAside_58 H (fun r M10 hq hS => ?_)
    obtain ⟨rfl, H⟩ := hq
    have k11 : mm_k M10 a0 = (10, 14) := ks_S K0 (by decide) hS
    have k12 : mm_k M10 (mm_r M a0 4) = (4, 2) := ks_S k1 (by decide) hS
    have k13 : mm_k M10 (mm_r M a0 0) = (0, 4) := ks_S k9 (by decide) hS
    have k14 : ak_ M10 (mm_r M (mm_r M a0 4) 0) 3 l5 := ak_S k6 hS
    show go_W mt_X10_setAside fr_C 61 [some (pv_r a0), some (pv_i x1), some (pv_i x2), some (pv_i x3), some (pv_i x4), some (pv_i x5), some (pv_r (mm_r M (mm_r M (mm_r M a0 4) 0) n8))] [] M10 (qi_ P)
    refine go_iload_n dX10_setAside_61 rfl ?_
    refine go_bipush (v := (100 : Int32)) rfl dX10_setAside_62 ?_
    refine go_icmp_lt (tgt := 73) dX10_setAside_64 (by decide) (fun hc => ?_) (fun hc => ?_)
    · replace H := H.1 hc
      refine go_aload_n dX10_setAside_73 rfl ?_
      refine go_getR (k := 3) ⟨by decide, rfl, by decide, Or.inl ⟨_, rfl⟩⟩ k11 fl_X10_32 dX10_setAside_74 ?_
      refine go_aload dX10_setAside_77 rfl ?_
      obtain ⟨k15, H⟩ := H
      refine go_V (av := [pv_r (mm_r M (mm_r M (mm_r M a0 4) 0) n8)]) (st := []) (ci := 4) ok_X4_append ⟨by decide, by decide⟩ ml_X10_419 rfl (by decide) (fun v hv => by simp only [List.mem_cons, List.not_mem_nil, or_false] at hv; rcases hv with rfl <;> first | exact pv_1i | exact pv_1r) (Nat.le_of_ble_eq_true rfl) (fun _ h => h) (by decide) rfl k15 dX10_setAside_79 H (fun r M16 hq hS => ?_)
      obtain ⟨rfl, H⟩ := hq
      have k17 : mm_k M16 a0 = (10, 14) := ks_S k11 (by decide) hS
      have k18 : mm_k M16 (mm_r M a0 4) = (4, 2) := ks_S k12 (by decide) hS
      have k19 : mm_k M16 (mm_r M a0 0) = (0, 4) := ks_S k13 (by decide) hS
      have k20 : mm_k M16 (mm_r M10 a0 3) = (4, 2) := ks_S k15 (by decide) hS
      have k21 : ak_ M16 (mm_r M (mm_r M a0 4) 0) 3 l5 := ak_S k14 hS
      show go_W mt_X10_setAside fr_C 82 [some (pv_r a0), some (pv_i x1), some (pv_i x2), some (pv_i x3), some (pv_i x4), some (pv_i x5), some (pv_r (mm_r M (mm_r M (mm_r M a0 4) 0) n8))] [] M16 (qi_ P)
      refine go_aload_n dX10_setAside_82 rfl ?_
      refine go_iconst (v := (4 : Int32)) rfl dX10_setAside_83 ?_
      refine go_aload dX10_setAside_84 rfl ?_
      refine go_null dX10_setAside_86 ?_
      refine go_iload_n dX10_setAside_87 rfl ?_
      refine go_V (av := [pv_i (4 : Int32), pv_r (mm_r M (mm_r M (mm_r M a0 4) 0) n8), pv_r 0, pv_i x2]) (st := []) (ci := 10) ok_X10_note ⟨by decide, by decide⟩ ml_X10_181 rfl (by decide) (fun v hv => by simp only [List.mem_cons, List.not_mem_nil, or_false] at hv; rcases hv with rfl | rfl | rfl | rfl <;> first | exact pv_1i | exact pv_1r) (Nat.le_of_ble_eq_true rfl) (fun _ h => h) (by decide) rfl k17 dX10_setAside_88 H (fun r M22 hq hS => ?_)
      obtain ⟨rfl, H⟩ := hq
      have k23 : mm_k M22 a0 = (10, 14) := ks_S k17 (by decide) hS
      have k24 : mm_k M22 (mm_r M a0 4) = (4, 2) := ks_S k18 (by decide) hS
      have k25 : mm_k M22 (mm_r M a0 0) = (0, 4) := ks_S k19 (by decide) hS
      have k26 : mm_k M22 (mm_r M10 a0 3) = (4, 2) := ks_S k20 (by decide) hS
      have k27 : ak_ M22 (mm_r M (mm_r M a0 4) 0) 3 l5 := ak_S k21 hS
      show go_W mt_X10_setAside fr_C 91 [some (pv_r a0), some (pv_i x1), some (pv_i x2), some (pv_i x3), some (pv_i x4), some (pv_i x5), some (pv_r (mm_r M (mm_r M (mm_r M a0 4) 0) n8))] [] M22 (qi_ P)
      refine go_iincN (n := n8) (k := 1) hn8 (by decide) rfl rfl dX10_setAside_91 ?_
      show go_W mt_X10_setAside fr_C 94 [some (pv_r a0), some (pv_i x1), some (pv_i x2), some (pv_i x3), some (pv_i x4), some (pv_i (nI (n8 + 1))), some (pv_r (mm_r M (mm_r M (mm_r M a0 4) 0) n8))] [] M22 (qi_ P)
      refine go_goto (tgt := 27) dX10_setAside_94 (by decide) ?_
      exact go_fg (ls' := [some (pv_r a0), some (pv_i x1), some (pv_i x2), some (pv_i x3), some (pv_i x4), some (pv_i (nI (n8 + 1))), none]) ⟨rfl, ⟨rfl, ⟨rfl, ⟨rfl, ⟨rfl, ⟨rfl, trivial⟩⟩⟩⟩⟩⟩ H
    · replace H := H.2 hc
      refine go_aload dX10_setAside_67 rfl ?_
      refine go_iload_n dX10_setAside_69 rfl ?_
      obtain ⟨k28, H⟩ := H
      refine go_V (av := [pv_i x2]) (st := []) (ci := 6) ok_X6_addCause ⟨by decide, by decide⟩ ml_X10_452 rfl (by decide) (fun v hv => by simp only [List.mem_cons, List.not_mem_nil, or_false] at hv; rcases hv with rfl <;> first | exact pv_1i | exact pv_1r) (Nat.le_of_ble_eq_true rfl) (fun _ h => h) (by decide) rfl k28 dX10_setAside_70 H (fun r M29 hq hS => ?_)
      obtain ⟨rfl, H⟩ := hq
      have k30 : mm_k M29 a0 = (10, 14) := ks_S k11 (by decide) hS
      have k31 : mm_k M29 (mm_r M a0 4) = (4, 2) := ks_S k12 (by decide) hS
      have k32 : mm_k M29 (mm_r M a0 0) = (0, 4) := ks_S k13 (by decide) hS
      have k33 : mm_k M29 (mm_r M (mm_r M (mm_r M a0 4) 0) n8) = (6, 17) := ks_S k28 (by decide) hS
      have k34 : ak_ M29 (mm_r M (mm_r M a0 4) 0) 3 l5 := ak_S k14 hS
      show go_W mt_X10_setAside fr_C 73 [some (pv_r a0), some (pv_i x1), some (pv_i x2), some (pv_i x3), some (pv_i x4), some (pv_i x5), some (pv_r (mm_r M (mm_r M (mm_r M a0 4) 0) n8))] [] M29 (qi_ P)
      refine go_aload_n dX10_setAside_73 rfl ?_
      refine go_getR (k := 3) ⟨by decide, rfl, by decide, Or.inl ⟨_, rfl⟩⟩ k30 fl_X10_32 dX10_setAside_74 ?_
      refine go_aload dX10_setAside_77 rfl ?_
      obtain ⟨k35, H⟩ := H
      refine go_V (av := [pv_r (mm_r M (mm_r M (mm_r M a0 4) 0) n8)]) (st := []) (ci := 4) ok_X4_append ⟨by decide, by decide⟩ ml_X10_419 rfl (by decide) (fun v hv => by simp only [List.mem_cons, List.not_mem_nil, or_false] at hv; rcases hv with rfl <;> first | exact pv_1i | exact pv_1r) (Nat.le_of_ble_eq_true rfl) (fun _ h => h) (by decide) rfl k35 dX10_setAside_79 H (fun r M36 hq hS => ?_)
      obtain ⟨rfl, H⟩ := hq
      have k37 : mm_k M36 a0 = (10, 14) := ks_S k30 (by decide) hS
      have k38 : mm_k M36 (mm_r M a0 4) = (4, 2) := ks_S k31 (by decide) hS
      have k39 : mm_k M36 (mm_r M a0 0) = (0, 4) := ks_S k32 (by decide) hS
      have k40 : mm_k M36 (mm_r M (mm_r M (mm_r M a0 4) 0) n8) = (6, 17) := ks_S k33 (by decide) hS
      have k41 : mm_k M36 (mm_r M29 a0 3) = (4, 2) := ks_S k35 (by decide) hS
      have k42 : ak_ M36 (mm_r M (mm_r M a0 4) 0) 3 l5 := ak_S k34 hS
      show go_W mt_X10_setAside fr_C 82 [some (pv_r a0), some (pv_i x1), some (pv_i x2), some (pv_i x3), some (pv_i x4), some (pv_i x5), some (pv_r (mm_r M (mm_r M (mm_r M a0 4) 0) n8))] [] M36 (qi_ P)
      refine go_aload_n dX10_setAside_82 rfl ?_
      refine go_iconst (v := (4 : Int32)) rfl dX10_setAside_83 ?_
      refine go_aload dX10_setAside_84 rfl ?_
      refine go_null dX10_setAside_86 ?_
      refine go_iload_n dX10_setAside_87 rfl ?_
      refine go_V (av := [pv_i (4 : Int32), pv_r (mm_r M (mm_r M (mm_r M a0 4) 0) n8), pv_r 0, pv_i x2]) (st := []) (ci := 10) ok_X10_note ⟨by decide, by decide⟩ ml_X10_181 rfl (by decide) (fun v hv => by simp only [List.mem_cons, List.not_mem_nil, or_false] at hv; rcases hv with rfl | rfl | rfl | rfl <;> first | exact pv_1i | exact pv_1r) (Nat.le_of_ble_eq_true rfl) (fun _ h => h) (by decide) rfl k37 dX10_setAside_88 H (fun r M43 hq hS => ?_)
      obtain ⟨rfl, H⟩ := hq
      have k44 : mm_k M43 a0 = (10, 14) := ks_S k37 (by decide) hS
      have k45 : mm_k M43 (mm_r M a0 4) = (4, 2) := ks_S k38 (by decide) hS
      have k46 : mm_k M43 (mm_r M a0 0) = (0, 4) := ks_S k39 (by decide) hS
      have k47 : mm_k M43 (mm_r M (mm_r M (mm_r M a0 4) 0) n8) = (6, 17) := ks_S k40 (by decide) hS
      have k48 : mm_k M43 (mm_r M29 a0 3) = (4, 2) := ks_S k41 (by decide) hS
      have k49 : ak_ M43 (mm_r M (mm_r M a0 4) 0) 3 l5 := ak_S k42 hS
      show go_W mt_X10_setAside fr_C 91 [some (pv_r a0), some (pv_i x1), some (pv_i x2), some (pv_i x3), some (pv_i x4), some (pv_i x5), some (pv_r (mm_r M (mm_r M (mm_r M a0 4) 0) n8))] [] M43 (qi_ P)
      refine go_iincN (n := n8) (k := 1) hn8 (by decide) rfl rfl dX10_setAside_91 ?_
      show go_W mt_X10_setAside fr_C 94 [some (pv_r a0), some (pv_i x1), some (pv_i x2), some (pv_i x3), some (pv_i x4), some (pv_i (nI (n8 + 1))), some (pv_r (mm_r M (mm_r M (mm_r M a0 4) 0) n8))] [] M43 (qi_ P)
      refine go_goto (tgt := 27) dX10_setAside_94 (by decide) ?_
      exact go_fg (ls' := [some (pv_r a0), some (pv_i x1), some (pv_i x2), some (pv_i x3), some (pv_i x4), some (pv_i (nI (n8 + 1))), none]) ⟨rfl, ⟨rfl, ⟨rfl, ⟨rfl, ⟨rfl, ⟨rfl, trivial⟩⟩⟩⟩⟩⟩ H
set_option maxRecDepth 20000 in
theorem wc_X10_gatherFalling_0 {M : mm_T} {a0 : Nat} {P : mm_T → Prop} (K0 : mm_k M a0 = (10, 14)) (H : mm_k M (mm_r M a0 4) = (4, 2) ∧ (cs_v mt_X4_clear [pv_r (mm_r M a0 4)] M (fun M2 => cw_v mt_X10_gatherFalling 9 [some (pv_r a0), some (pv_i (0 : Int32)), none] [] M2 P))) : cw_v mt_X10_gatherFalling 0 [some (pv_r a0), none, none] [] M P := by
  refine go_aload_n dX10_gatherFalling_0 rfl ?_
  refine go_getR (k := 4) ⟨by decide, rfl, by decide, Or.inl ⟨_, rfl⟩⟩ K0 fl_X10_35 dX10_gatherFalling_1 ?_
  obtain ⟨k1, H⟩ := H
  refine go_V (av := []) (st := []) (ci := 4) ok_X4_clear ⟨by decide, by decide⟩ ml_X10_458 rfl (by decide) (fun v hv => absurd hv List.not_mem_nil) (Nat.le_of_ble_eq_true rfl) (fun _ h => h) (by decide) rfl k1 dX10_gatherFalling_4 H (fun r M2 hq hS => ?_)
  obtain ⟨rfl, H⟩ := hq
  have k3 : mm_k M2 a0 = (10, 14) := ks_S K0 (by decide) hS
  have k4 : mm_k M2 (mm_r M a0 4) = (4, 2) := ks_S k1 (by decide) hS
  show go_W mt_X10_gatherFalling fr_C 7 [some (pv_r a0), none, none] [] M2 (qv_ P)
  refine go_iconst (v := (0 : Int32)) rfl dX10_gatherFalling_7 ?_
  refine go_istore_n (by decide) dX10_gatherFalling_8 ?_
  show go_W mt_X10_gatherFalling fr_C 9 [some (pv_r a0), some (pv_i (0 : Int32)), none] [] M2 (qv_ P)
  exact H
set_option maxRecDepth 20000 in
theorem wc_X10_gatherFalling_9 {M : mm_T} {a0 : Nat} {x1 : Int32} {P : mm_T → Prop} (K0 : mm_k M a0 = (10, 14)) (H : mm_k M (mm_r M a0 0) = (0, 4) ∧ (mm_k M (mm_r M (mm_r M a0 0) 1) = (4, 2) ∧ ((((mm_i M (mm_r M (mm_r M a0 0) 1) 1 ≤ x1) → P M) ∧ ((¬ mm_i M (mm_r M (mm_r M a0 0) 1) 1 ≤ x1) → ∃ l3, ak_ M (mm_r M (mm_r M (mm_r M a0 0) 1) 0) 3 l3 ∧ (∃ n6, (x1 = nI n6 ∧ n6 < l3) ∧ (mm_k M (mm_r M (mm_r M (mm_r M (mm_r M a0 0) 1) 0) n6) = (6, 17) ∧ ((((¬ mm_i M (mm_r M (mm_r M (mm_r M (mm_r M a0 0) 1) 0) n6) 7 = (1 : Int32)) → cw_v mt_X10_gatherFalling 9 [some (pv_r a0), some (pv_i (nI (n6 + 1))), none] [] M P) ∧ ((mm_i M (mm_r M (mm_r M (mm_r M (mm_r M a0 0) 1) 0) n6) 7 = (1 : Int32)) → cs_i mt_X6_isBehindLost [pv_r (mm_r M (mm_r M (mm_r M (mm_r M a0 0) 1) 0) n6)] M (fun v9 M8 => (((v9 = 0) → cw_v mt_X10_gatherFalling 9 [some (pv_r a0), some (pv_i (nI (n6 + 1))), none] [] M8 P) ∧ ((¬ v9 = 0) → mm_k M8 (mm_r M8 a0 4) = (4, 2) ∧ (cs_v mt_X4_append [pv_r (mm_r M8 a0 4), pv_r (mm_r M (mm_r M (mm_r M (mm_r M a0 0) 1) 0) n6)] M8 (fun M16 => cw_v mt_X10_gatherFalling 9 [some (pv_r a0), some (pv_i (nI (n6 + 1))), none] [] M16 P))))))))))))))) : cw_v mt_X10_gatherFalling 9 [some (pv_r a0), some (pv_i x1), none] [] M P := by
  refine go_iload_n dX10_gatherFalling_9 rfl ?_
  refine go_aload_n dX10_gatherFalling_10 rfl ?_
  refine go_getR (k := 0) ⟨by decide, rfl, by decide, Or.inl ⟨_, rfl⟩⟩ K0 fl_X10_10 dX10_gatherFalling_11 ?_
  obtain ⟨k1, H⟩ := H
  refine go_getR (k := 1) ⟨by decide, rfl, by decide, Or.inl ⟨_, rfl⟩⟩ k1 fl_X10_254 dX10_gatherFalling_14 ?_
  obtain ⟨k2, H⟩ := H
  refine go_getI (k := 1) ⟨by decide, rfl, by decide, rfl⟩ k2 fl_X10_222 dX10_gatherFalling_17 ?_
  refine go_icmp_ge (tgt := 65) dX10_gatherFalling_20 (by decide) (fun hc => ?_) (fun hc => ?_)
  · replace H := H.1 hc
    exact go_vret rfl dX10_gatherFalling_65 ⟨rfl, H⟩
  · replace H := H.2 hc
    refine go_aload_n dX10_gatherFalling_23 rfl ?_
    refine go_getR (k := 0) ⟨by decide, rfl, by decide, Or.inl ⟨_, rfl⟩⟩ K0 fl_X10_10 dX10_gatherFalling_24 ?_
    refine go_getR (k := 1) ⟨by decide, rfl, by decide, Or.inl ⟨_, rfl⟩⟩ k1 fl_X10_254 dX10_gatherFalling_27 ?_
    refine go_getR (k := 0) ⟨by decide, rfl, by decide, Or.inr ⟨_, rfl⟩⟩ k2 fl_X10_380 dX10_gatherFalling_30 ?_
    refine go_iload_n dX10_gatherFalling_33 rfl ?_
    obtain ⟨l3, k4, H⟩ := H
    obtain ⟨n6, ⟨hn6, hn6b⟩, H⟩ := H
    refine go_aaldA (j := n6) k4 (by decide) hn6 hn6b dX10_gatherFalling_34 ?_
    refine go_astore_n (by decide) dX10_gatherFalling_35 ?_
    show go_W mt_X10_gatherFalling fr_C 36 [some (pv_r a0), some (pv_i x1), some (pv_r (mm_r M (mm_r M (mm_r M (mm_r M a0 0) 1) 0) n6))] [] M (qv_ P)
    refine go_aload_n dX10_gatherFalling_36 rfl ?_
    obtain ⟨k7, H⟩ := H
    refine go_getI (k := 7) ⟨by decide, rfl, by decide, rfl⟩ k7 fl_X10_105 dX10_gatherFalling_37 ?_
    refine go_iconst (v := (1 : Int32)) rfl dX10_gatherFalling_40 ?_
    refine go_icmp_ne (tgt := 59) dX10_gatherFalling_41 (by decide) (fun hc => ?_) (fun hc => ?_)
    · replace H := H.1 hc
      refine go_iincN (n := n6) (k := 1) hn6 (by decide) rfl rfl dX10_gatherFalling_59 ?_
      show go_W mt_X10_gatherFalling fr_C 62 [some (pv_r a0), some (pv_i (nI (n6 + 1))), some (pv_r (mm_r M (mm_r M (mm_r M (mm_r M a0 0) 1) 0) n6))] [] M (qv_ P)
      refine go_goto (tgt := 9) dX10_gatherFalling_62 (by decide) ?_
      exact go_fg (ls' := [some (pv_r a0), some (pv_i (nI (n6 + 1))), none]) ⟨rfl, ⟨rfl, trivial⟩⟩ H
    · replace H := H.2 hc
      refine go_aload_n dX10_gatherFalling_44 rfl ?_
      refine go_V (av := []) (st := []) (ci := 6) ok_X6_isBehindLost ⟨by decide, by decide⟩ ml_X10_426 rfl (by decide) (fun v hv => absurd hv List.not_mem_nil) (Nat.le_of_ble_eq_true rfl) (fun _ h => h) (by decide) rfl k7 dX10_gatherFalling_45 H (fun r M8 hq hS => ?_)
      obtain ⟨v9, rfl, H⟩ := hq
      have k10 : mm_k M8 a0 = (10, 14) := ks_S K0 (by decide) hS
      have k11 : mm_k M8 (mm_r M a0 0) = (0, 4) := ks_S k1 (by decide) hS
      have k12 : mm_k M8 (mm_r M (mm_r M a0 0) 1) = (4, 2) := ks_S k2 (by decide) hS
      have k13 : mm_k M8 (mm_r M (mm_r M (mm_r M (mm_r M a0 0) 1) 0) n6) = (6, 17) := ks_S k7 (by decide) hS
      have k14 : ak_ M8 (mm_r M (mm_r M (mm_r M a0 0) 1) 0) 3 l3 := ak_S k4 hS
      show go_W mt_X10_gatherFalling fr_C 48 [some (pv_r a0), some (pv_i x1), some (pv_r (mm_r M (mm_r M (mm_r M (mm_r M a0 0) 1) 0) n6))] [pv_i v9] M8 (qv_ P)
      refine go_if_eq (tgt := 59) dX10_gatherFalling_48 (by decide) (fun hc => ?_) (fun hc => ?_)
      · replace H := H.1 hc
        refine go_iincN (n := n6) (k := 1) hn6 (by decide) rfl rfl dX10_gatherFalling_59 ?_
        show go_W mt_X10_gatherFalling fr_C 62 [some (pv_r a0), some (pv_i (nI (n6 + 1))), some (pv_r (mm_r M (mm_r M (mm_r M (mm_r M a0 0) 1) 0) n6))] [] M8 (qv_ P)
        refine go_goto (tgt := 9) dX10_gatherFalling_62 (by decide) ?_
        exact go_fg (ls' := [some (pv_r a0), some (pv_i (nI (n6 + 1))), none]) ⟨rfl, ⟨rfl, trivial⟩⟩ H
      · replace H := H.2 hc
        refine go_aload_n dX10_gatherFalling_51 rfl ?_
        refine go_getR (k := 4) ⟨by decide, rfl, by decide, Or.inl ⟨_, rfl⟩⟩ k10 fl_X10_35 dX10_gatherFalling_52 ?_
        refine go_aload_n dX10_gatherFalling_55 rfl ?_
        obtain ⟨k15, H⟩ := H
        refine go_V (av := [pv_r (mm_r M (mm_r M (mm_r M (mm_r M a0 0) 1) 0) n6)]) (st := []) (ci := 4) ok_X4_append ⟨by decide, by decide⟩ ml_X10_419 rfl (by decide) (fun v hv => by simp only [List.mem_cons, List.not_mem_nil, or_false] at hv; rcases hv with rfl <;> first | exact pv_1i | exact pv_1r) (Nat.le_of_ble_eq_true rfl) (fun _ h => h) (by decide) rfl k15 dX10_gatherFalling_56 H (fun r M16 hq hS => ?_)
        obtain ⟨rfl, H⟩ := hq
        have k17 : mm_k M16 a0 = (10, 14) := ks_S k10 (by decide) hS
        have k18 : mm_k M16 (mm_r M a0 0) = (0, 4) := ks_S k11 (by decide) hS
        have k19 : mm_k M16 (mm_r M (mm_r M a0 0) 1) = (4, 2) := ks_S k12 (by decide) hS
        have k20 : mm_k M16 (mm_r M (mm_r M (mm_r M (mm_r M a0 0) 1) 0) n6) = (6, 17) := ks_S k13 (by decide) hS
        have k21 : mm_k M16 (mm_r M8 a0 4) = (4, 2) := ks_S k15 (by decide) hS
        have k22 : ak_ M16 (mm_r M (mm_r M (mm_r M a0 0) 1) 0) 3 l3 := ak_S k14 hS
        show go_W mt_X10_gatherFalling fr_C 59 [some (pv_r a0), some (pv_i x1), some (pv_r (mm_r M (mm_r M (mm_r M (mm_r M a0 0) 1) 0) n6))] [] M16 (qv_ P)
        refine go_iincN (n := n6) (k := 1) hn6 (by decide) rfl rfl dX10_gatherFalling_59 ?_
        show go_W mt_X10_gatherFalling fr_C 62 [some (pv_r a0), some (pv_i (nI (n6 + 1))), some (pv_r (mm_r M (mm_r M (mm_r M (mm_r M a0 0) 1) 0) n6))] [] M16 (qv_ P)
        refine go_goto (tgt := 9) dX10_gatherFalling_62 (by decide) ?_
        exact go_fg (ls' := [some (pv_r a0), some (pv_i (nI (n6 + 1))), none]) ⟨rfl, ⟨rfl, trivial⟩⟩ H
set_option maxRecDepth 20000 in
theorem wc_X10_waitAgain_0 {M : mm_T} {a0 a1 : Nat} {P : mm_T → Prop} (K0 : mm_k M a0 = (10, 14)) (H : mm_k M (mm_r M a0 0) = (0, 4) ∧ (cs_v mt_X0_awaitTurn [pv_r (mm_r M a0 0), pv_r a1] M (fun M2 => cs_v mt_X10_note [pv_r a0, pv_i (5 : Int32), pv_r a1, pv_r 0, pv_i (0 : Int32)] M2 (fun M5 => P M5)))) : cw_v mt_X10_waitAgain 0 [some (pv_r a0), some (pv_r a1)] [] M P := by
  refine go_aload_n dX10_waitAgain_0 rfl ?_
  refine go_getR (k := 0) ⟨by decide, rfl, by decide, Or.inl ⟨_, rfl⟩⟩ K0 fl_X10_10 dX10_waitAgain_1 ?_
  refine go_aload_n dX10_waitAgain_4 rfl ?_
  obtain ⟨k1, H⟩ := H
  refine go_V (av := [pv_r a1]) (st := []) (ci := 0) ok_X0_awaitTurn ⟨by decide, by decide⟩ ml_X10_467 rfl (by decide) (fun v hv => by simp only [List.mem_cons, List.not_mem_nil, or_false] at hv; rcases hv with rfl <;> first | exact pv_1i | exact pv_1r) (Nat.le_of_ble_eq_true rfl) (fun _ h => h) (by decide) rfl k1 dX10_waitAgain_5 H (fun r M2 hq hS => ?_)
  obtain ⟨rfl, H⟩ := hq
  have k3 : mm_k M2 a0 = (10, 14) := ks_S K0 (by decide) hS
  have k4 : mm_k M2 (mm_r M a0 0) = (0, 4) := ks_S k1 (by decide) hS
  show go_W mt_X10_waitAgain fr_C 8 [some (pv_r a0), some (pv_r a1)] [] M2 (qv_ P)
  refine go_aload_n dX10_waitAgain_8 rfl ?_
  refine go_iconst (v := (5 : Int32)) rfl dX10_waitAgain_9 ?_
  refine go_aload_n dX10_waitAgain_10 rfl ?_
  refine go_null dX10_waitAgain_11 ?_
  refine go_iconst (v := (0 : Int32)) rfl dX10_waitAgain_12 ?_
  refine go_V (av := [pv_i (5 : Int32), pv_r a1, pv_r 0, pv_i (0 : Int32)]) (st := []) (ci := 10) ok_X10_note ⟨by decide, by decide⟩ ml_X10_181 rfl (by decide) (fun v hv => by simp only [List.mem_cons, List.not_mem_nil, or_false] at hv; rcases hv with rfl | rfl | rfl | rfl <;> first | exact pv_1i | exact pv_1r) (Nat.le_of_ble_eq_true rfl) (fun _ h => h) (by decide) rfl k3 dX10_waitAgain_13 H (fun r M5 hq hS => ?_)
  obtain ⟨rfl, H⟩ := hq
  have k6 : mm_k M5 a0 = (10, 14) := ks_S k3 (by decide) hS
  have k7 : mm_k M5 (mm_r M a0 0) = (0, 4) := ks_S k4 (by decide) hS
  show go_W mt_X10_waitAgain fr_C 16 [some (pv_r a0), some (pv_r a1)] [] M5 (qv_ P)
  exact go_vret rfl dX10_waitAgain_16 ⟨rfl, H⟩
set_option maxRecDepth 20000 in
theorem wc_X10_raiseIfCan_0 {M : mm_T} {a0 : Nat} {x1 x2 : Int32} {P : Int32 → mm_T → Prop} (K0 : mm_k M a0 = (10, 14)) (H : cs_r mt_X10_taskAt [pv_r a0, pv_i x1] M (fun v2 M1 => (((v2 = 0) → P (-2 : Int32) M1) ∧ ((¬ v2 = 0) → (((x2 < 0) → P (-2 : Int32) M1) ∧ ((¬ x2 < 0) → (((x2 ≤ (9 : Int32)) → mm_k M1 v2 = (6, 17) ∧ (cs_i mt_X6_isLoose [pv_r v2] M1 (fun v6 M5 => (((v6 = 0) → P (-3 : Int32) M5) ∧ ((¬ v6 = 0) → (((¬ mm_i M5 v2 3 = x2) → ∀ M9, M9 = mm_pi M5 v2 3 x2 → P (0 : Int32) M9) ∧ ((mm_i M5 v2 3 = x2) → P (-3 : Int32) M5))))))) ∧ ((¬ x2 ≤ (9 : Int32)) → P (-2 : Int32) M1)))))))) : cw_i mt_X10_raiseIfCan 0 [some (pv_r a0), some (pv_i x1), some (pv_i x2), none] [] M P := by
  refine go_aload_n dX10_raiseIfCan_0 rfl ?_
  refine go_iload_n dX10_raiseIfCan_1 rfl ?_
  refine go_V (av := [pv_i x1]) (st := []) (ci := 10) ok_X10_taskAt ⟨by decide, by decide⟩ ml_X10_171 rfl (by decide) (fun v hv => by simp only [List.mem_cons, List.not_mem_nil, or_false] at hv; rcases hv with rfl <;> first | exact pv_1i | exact pv_1r) (Nat.le_of_ble_eq_true rfl) (fun _ h => h) (by decide) rfl K0 dX10_raiseIfCan_2 H (fun r M1 hq hS => ?_)
  obtain ⟨v2, rfl, H⟩ := hq
  have k3 : mm_k M1 a0 = (10, 14) := ks_S K0 (by decide) hS
  show go_W mt_X10_raiseIfCan fr_C 5 [some (pv_r a0), some (pv_i x1), some (pv_i x2), none] [pv_r v2] M1 (qi_ P)
  refine go_astore_n (by decide) dX10_raiseIfCan_5 ?_
  show go_W mt_X10_raiseIfCan fr_C 6 [some (pv_r a0), some (pv_i x1), some (pv_i x2), some (pv_r v2)] [] M1 (qi_ P)
  refine go_aload_n dX10_raiseIfCan_6 rfl ?_
  refine go_ifnull (tgt := 20) dX10_raiseIfCan_7 (by decide) (fun hc => ?_) (fun hc => ?_)
  · replace H := H.1 hc
    refine go_bipush (v := (-2 : Int32)) rfl dX10_raiseIfCan_20 ?_
    exact go_iret rfl rfl dX10_raiseIfCan_22 ⟨_, rfl, H⟩
  · replace H := H.2 hc
    refine go_iload_n dX10_raiseIfCan_10 rfl ?_
    refine go_if_lt (tgt := 20) dX10_raiseIfCan_11 (by decide) (fun hc => ?_) (fun hc => ?_)
    · replace H := H.1 hc
      refine go_bipush (v := (-2 : Int32)) rfl dX10_raiseIfCan_20 ?_
      exact go_iret rfl rfl dX10_raiseIfCan_22 ⟨_, rfl, H⟩
    · replace H := H.2 hc
      refine go_iload_n dX10_raiseIfCan_14 rfl ?_
      refine go_bipush (v := (9 : Int32)) rfl dX10_raiseIfCan_15 ?_
      refine go_icmp_le (tgt := 23) dX10_raiseIfCan_17 (by decide) (fun hc => ?_) (fun hc => ?_)
      · replace H := H.1 hc
        refine go_aload_n dX10_raiseIfCan_23 rfl ?_
        obtain ⟨k4, H⟩ := H
        refine go_V (av := []) (st := []) (ci := 6) ok_X6_isLoose ⟨by decide, by decide⟩ ml_X10_174 rfl (by decide) (fun v hv => absurd hv List.not_mem_nil) (Nat.le_of_ble_eq_true rfl) (fun _ h => h) (by decide) rfl k4 dX10_raiseIfCan_24 H (fun r M5 hq hS => ?_)
        obtain ⟨v6, rfl, H⟩ := hq
        have k7 : mm_k M5 a0 = (10, 14) := ks_S k3 (by decide) hS
        have k8 : mm_k M5 v2 = (6, 17) := ks_S k4 (by decide) hS
        show go_W mt_X10_raiseIfCan fr_C 27 [some (pv_r a0), some (pv_i x1), some (pv_i x2), some (pv_r v2)] [pv_i v6] M5 (qi_ P)
        refine go_if_eq (tgt := 38) dX10_raiseIfCan_27 (by decide) (fun hc => ?_) (fun hc => ?_)
        · replace H := H.1 hc
          refine go_bipush (v := (-3 : Int32)) rfl dX10_raiseIfCan_38 ?_
          exact go_iret rfl rfl dX10_raiseIfCan_40 ⟨_, rfl, H⟩
        · replace H := H.2 hc
          refine go_aload_n dX10_raiseIfCan_30 rfl ?_
          refine go_getI (k := 3) ⟨by decide, rfl, by decide, rfl⟩ k8 fl_X10_412 dX10_raiseIfCan_31 ?_
          refine go_iload_n dX10_raiseIfCan_34 rfl ?_
          refine go_icmp_ne (tgt := 41) dX10_raiseIfCan_35 (by decide) (fun hc => ?_) (fun hc => ?_)
          · replace H := H.1 hc
            refine go_aload_n dX10_raiseIfCan_41 rfl ?_
            refine go_iload_n dX10_raiseIfCan_42 rfl ?_
            refine go_putI (k := 3) ⟨by decide, rfl, by decide, rfl⟩ k8 rfl (Or.inl rfl) fl_X10_412 dX10_raiseIfCan_43 ?_
            show go_W mt_X10_raiseIfCan fr_C 46 [some (pv_r a0), some (pv_i x1), some (pv_i x2), some (pv_r v2)] [] (mm_pi M5 v2 3 x2) (qi_ P)
            obtain ⟨M9, hM9⟩ : ∃ M', M' = mm_pi M5 v2 3 x2 := ⟨_, rfl⟩
            have k10 : mm_k M9 a0 = (10, 14) := (by rw [hM9]; exact k7)
            have k11 : mm_k M9 v2 = (6, 17) := (by rw [hM9]; exact k8)
            rw [← hM9]
            replace H := H M9 hM9
            refine go_iconst (v := (0 : Int32)) rfl dX10_raiseIfCan_46 ?_
            exact go_iret rfl rfl dX10_raiseIfCan_47 ⟨_, rfl, H⟩
          · replace H := H.2 hc
            refine go_bipush (v := (-3 : Int32)) rfl dX10_raiseIfCan_38 ?_
            exact go_iret rfl rfl dX10_raiseIfCan_40 ⟨_, rfl, H⟩
      · replace H := H.2 hc
        refine go_bipush (v := (-2 : Int32)) rfl dX10_raiseIfCan_20 ?_
        exact go_iret rfl rfl dX10_raiseIfCan_22 ⟨_, rfl, H⟩
