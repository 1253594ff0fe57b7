/-! the walks of the class, by program (wip/whole/walk3.py) -/
set_option maxRecDepth 20000 in
theorem wc_X10_discard_0 {M : mm_T} {a0 : Nat} {x1 : Int32} {P : Int32 → mm_T → Prop} (K0 : mm_k M a0 = (10, 14)) (H : cs_r mt_X10_taskAt [pv_r a0, pv_i x1] M (fun v2 M1 => (((¬ v2 = 0) → mm_k M1 v2 = (6, 17) ∧ ((((mm_i M1 v2 7 = (5 : Int32)) → mm_k M1 (mm_r M1 a0 3) = (4, 2) ∧ (cs_v mt_X4_drop [pv_r (mm_r M1 a0 3), pv_r v2] M1 (fun M6 => mm_k M6 (mm_r M6 a0 0) = (0, 4) ∧ (cs_v mt_X0_change [pv_r (mm_r M6 a0 0), pv_r v2, pv_i (6 : Int32)] M6 (fun M11 => cs_v mt_X10_note [pv_r a0, pv_i (6 : Int32), pv_r v2, pv_r 0, pv_i (0 : Int32)] M11 (fun M16 => mm_k M16 (mm_r M16 a0 3) = (4, 2) ∧ (P (mm_i M16 (mm_r M16 a0 3) 1) M16))))))) ∧ ((¬ mm_i M1 v2 7 = (5 : Int32)) → cs_i mt_X10_counted [pv_r a0, pv_i (-3 : Int32)] M1 (fun v23 M22 => P v23 M22))))) ∧ ((v2 = 0) → cs_i mt_X10_counted [pv_r a0, pv_i (-2 : Int32)] M1 (fun v27 M26 => P v27 M26))))) : cw_i mt_X10_discard 0 [some (pv_r a0), some (pv_i x1), none] [] M P := by
  refine go_aload_n dX10_discard_0 rfl ?_
  refine go_iload_n dX10_discard_1 rfl ?_
  refine go_V (av := [pv_i x1]) (st := []) (ci := 10) ok_X10_taskAt ⟨by decide, by decide⟩ ml_X10_171 rfl (by decide) (fun v hv => by simp only [List.mem_cons, List.not_mem_nil, or_false] at hv; rcases hv with rfl <;> first | exact pv_1i | exact pv_1r) (Nat.le_of_ble_eq_true rfl) (fun _ h => h) (by decide) rfl K0 dX10_discard_2 H (fun r M1 hq hS => ?_)
  obtain ⟨v2, rfl, H⟩ := hq
  have k3 : mm_k M1 a0 = (10, 14) := ks_S K0 (by decide) hS
  show go_W mt_X10_discard fr_C 5 [some (pv_r a0), some (pv_i x1), none] [pv_r v2] M1 (qi_ P)
  refine go_astore_n (by decide) dX10_discard_5 ?_
  show go_W mt_X10_discard fr_C 6 [some (pv_r a0), some (pv_i x1), some (pv_r v2)] [] M1 (qi_ P)
  refine go_aload_n dX10_discard_6 rfl ?_
  refine go_ifnonnull (tgt := 17) dX10_discard_7 (by decide) (fun hc => ?_) (fun hc => ?_)
  · replace H := H.1 hc
    refine go_aload_n dX10_discard_17 rfl ?_
    obtain ⟨k4, H⟩ := H
    refine go_getI (k := 7) ⟨by decide, rfl, by decide, rfl⟩ k4 fl_X10_105 dX10_discard_18 ?_
    refine go_iconst (v := (5 : Int32)) rfl dX10_discard_21 ?_
    refine go_icmp_eq (tgt := 32) dX10_discard_22 (by decide) (fun hc => ?_) (fun hc => ?_)
    · replace H := H.1 hc
      refine go_aload_n dX10_discard_32 rfl ?_
      refine go_getR (k := 3) ⟨by decide, rfl, by decide, Or.inl ⟨_, rfl⟩⟩ k3 fl_X10_32 dX10_discard_33 ?_
      refine go_aload_n dX10_discard_36 rfl ?_
      obtain ⟨k5, H⟩ := H
      refine go_V (av := [pv_r v2]) (st := []) (ci := 4) ok_X4_drop ⟨by decide, by decide⟩ ml_X10_213 rfl (by decide) (fun v hv => by simp only [List.mem_cons, List.not_mem_nil, or_false] at hv; rcases hv with rfl <;> first | exact pv_1i | exact pv_1r) (Nat.le_of_ble_eq_true rfl) (fun _ h => h) (by decide) rfl k5 dX10_discard_37 H (fun r M6 hq hS => ?_)
      obtain ⟨rfl, H⟩ := hq
      have k7 : mm_k M6 a0 = (10, 14) := ks_S k3 (by decide) hS
      have k8 : mm_k M6 v2 = (6, 17) := ks_S k4 (by decide) hS
      have k9 : mm_k M6 (mm_r M1 a0 3) = (4, 2) := ks_S k5 (by decide) hS
      show go_W mt_X10_discard fr_C 40 [some (pv_r a0), some (pv_i x1), some (pv_r v2)] [] M6 (qi_ P)
      refine go_aload_n dX10_discard_40 rfl ?_
      refine go_getR (k := 0) ⟨by decide, rfl, by decide, Or.inl ⟨_, rfl⟩⟩ k7 fl_X10_10 dX10_discard_41 ?_
      refine go_aload_n dX10_discard_44 rfl ?_
      refine go_bipush (v := (6 : Int32)) rfl dX10_discard_45 ?_
      obtain ⟨k10, H⟩ := H
      refine go_V (av := [pv_r v2, pv_i (6 : Int32)]) (st := []) (ci := 0) ok_X0_change ⟨by decide, by decide⟩ ml_X10_178 rfl (by decide) (fun v hv => by simp only [List.mem_cons, List.not_mem_nil, or_false] at hv; rcases hv with rfl | rfl <;> first | exact pv_1i | exact pv_1r) (Nat.le_of_ble_eq_true rfl) (fun _ h => h) (by decide) rfl k10 dX10_discard_47 H (fun r M11 hq hS => ?_)
      obtain ⟨rfl, H⟩ := hq
      have k12 : mm_k M11 a0 = (10, 14) := ks_S k7 (by decide) hS
      have k13 : mm_k M11 v2 = (6, 17) := ks_S k8 (by decide) hS
      have k14 : mm_k M11 (mm_r M1 a0 3) = (4, 2) := ks_S k9 (by decide) hS
      have k15 : mm_k M11 (mm_r M6 a0 0) = (0, 4) := ks_S k10 (by decide) hS
      show go_W mt_X10_discard fr_C 50 [some (pv_r a0), some (pv_i x1), some (pv_r v2)] [] M11 (qi_ P)
      refine go_aload_n dX10_discard_50 rfl ?_
      refine go_bipush (v := (6 : Int32)) rfl dX10_discard_51 ?_
      refine go_aload_n dX10_discard_53 rfl ?_
      refine go_null dX10_discard_54 ?_
      refine go_iconst (v := (0 : Int32)) rfl dX10_discard_55 ?_
      refine go_V (av := [pv_i (6 : Int32), pv_r v2, pv_r 0, pv_i (0 : Int32)]) (st := []) (ci := 10) ok_X10_note ⟨by decide, by decide⟩ ml_X10_181 rfl (by decide) (fun v hv => by simp only [List.mem_cons, List.not_mem_nil, or_false] at hv; rcases hv with rfl | rfl | rfl | rfl <;> first | exact pv_1i | exact pv_1r) (Nat.le_of_ble_eq_true rfl) (fun _ h => h) (by decide) rfl k12 dX10_discard_56 H (fun r M16 hq hS => ?_)
      obtain ⟨rfl, H⟩ := hq
      have k17 : mm_k M16 a0 = (10, 14) := ks_S k12 (by decide) hS
      have k18 : mm_k M16 v2 = (6, 17) := ks_S k13 (by decide) hS
      have k19 : mm_k M16 (mm_r M1 a0 3) = (4, 2) := ks_S k14 (by decide) hS
      have k20 : mm_k M16 (mm_r M6 a0 0) = (0, 4) := ks_S k15 (by decide) hS
      show go_W mt_X10_discard fr_C 59 [some (pv_r a0), some (pv_i x1), some (pv_r v2)] [] M16 (qi_ P)
      refine go_aload_n dX10_discard_59 rfl ?_
      refine go_getR (k := 3) ⟨by decide, rfl, by decide, Or.inl ⟨_, rfl⟩⟩ k17 fl_X10_32 dX10_discard_60 ?_
      obtain ⟨k21, H⟩ := H
      refine go_getI (k := 1) ⟨by decide, rfl, by decide, rfl⟩ k21 fl_X10_222 dX10_discard_63 ?_
      exact go_iret rfl rfl dX10_discard_66 ⟨_, rfl, H⟩
    · replace H := H.2 hc
      refine go_aload_n dX10_discard_25 rfl ?_
      refine go_bipush (v := (-3 : Int32)) rfl dX10_discard_26 ?_
      refine go_V (av := [pv_i (-3 : Int32)]) (st := []) (ci := 10) ok_X10_counted ⟨by decide, by decide⟩ ml_X10_76 rfl (by decide) (fun v hv => by simp only [List.mem_cons, List.not_mem_nil, or_false] at hv; rcases hv with rfl <;> first | exact pv_1i | exact pv_1r) (Nat.le_of_ble_eq_true rfl) (fun _ h => h) (by decide) rfl k3 dX10_discard_28 H (fun r M22 hq hS => ?_)
      obtain ⟨v23, rfl, H⟩ := hq
      have k24 : mm_k M22 a0 = (10, 14) := ks_S k3 (by decide) hS
      have k25 : mm_k M22 v2 = (6, 17) := ks_S k4 (by decide) hS
      show go_W mt_X10_discard fr_C 31 [some (pv_r a0), some (pv_i x1), some (pv_r v2)] [pv_i v23] M22 (qi_ P)
      exact go_iret rfl rfl dX10_discard_31 ⟨_, rfl, H⟩
  · replace H := H.2 hc
    refine go_aload_n dX10_discard_10 rfl ?_
    refine go_bipush (v := (-2 : Int32)) rfl dX10_discard_11 ?_
    refine go_V (av := [pv_i (-2 : Int32)]) (st := []) (ci := 10) ok_X10_counted ⟨by decide, by decide⟩ ml_X10_76 rfl (by decide) (fun v hv => by simp only [List.mem_cons, List.not_mem_nil, or_false] at hv; rcases hv with rfl <;> first | exact pv_1i | exact pv_1r) (Nat.le_of_ble_eq_true rfl) (fun _ h => h) (by decide) rfl k3 dX10_discard_13 H (fun r M26 hq hS => ?_)
    obtain ⟨v27, rfl, H⟩ := hq
    have k28 : mm_k M26 a0 = (10, 14) := ks_S k3 (by decide) hS
    show go_W mt_X10_discard fr_C 16 [some (pv_r a0), some (pv_i x1), some (pv_r v2)] [pv_i v27] M26 (qi_ P)
    exact go_iret rfl rfl dX10_discard_16 ⟨_, rfl, H⟩
set_option maxRecDepth 20000 in
theorem wc_X10_arrange_0 {M : mm_T} {a0 : Nat} {x1 x2 x3 : Int32} {P : Int32 → mm_T → Prop} (K0 : mm_k M a0 = (10, 14)) (H : mm_k M (mm_r M a0 0) = (0, 4) ∧ (cs_r mt_X0_laneAt [pv_r (mm_r M a0 0), pv_i x1] M (fun v3 M2 => (((v3 = 0) → cs_i mt_X10_counted [pv_r a0, pv_i (-2 : Int32)] M2 (fun v7 M6 => P v7 M6)) ∧ ((¬ v3 = 0) → (((x2 < 0) → cs_i mt_X10_counted [pv_r a0, pv_i (-2 : Int32)] M2 (fun v11 M10 => P v11 M10)) ∧ ((¬ x2 < 0) → mm_k M2 4 = (15, 3) ∧ (((((nI 3) ≤ x2) → cs_i mt_X10_counted [pv_r a0, pv_i (-2 : Int32)] M2 (fun v16 M15 => P v16 M15)) ∧ ((¬ (nI 3) ≤ x2) → (((x3 < (1 : Int32)) → cs_i mt_X10_counted [pv_r a0, pv_i (-2 : Int32)] M2 (fun v20 M19 => P v20 M19)) ∧ ((¬ x3 < (1 : Int32)) → mm_k M2 4 = (15, 3) ∧ (∃ n24, (x2 = nI n24 ∧ n24 < 3) ∧ ((((x3 ≤ mm_i M2 4 n24) → mm_k M2 v3 = (3, 14) ∧ (cs_i mt_X3_rearrange [pv_r v3, pv_i x2, pv_i x3] M2 (fun v27 M26 => P v27 M26))) ∧ ((¬ x3 ≤ mm_i M2 4 n24) → cs_i mt_X10_counted [pv_r a0, pv_i (-2 : Int32)] M2 (fun v32 M31 => P v32 M31))))))))))))))))) : cw_i mt_X10_arrange 0 [some (pv_r a0), some (pv_i x1), some (pv_i x2), some (pv_i x3), none] [] M P := by
  refine go_aload_n dX10_arrange_0 rfl ?_
  refine go_getR (k := 0) ⟨by decide, rfl, by decide, Or.inl ⟨_, rfl⟩⟩ K0 fl_X10_10 dX10_arrange_1 ?_
  refine go_iload_n dX10_arrange_4 rfl ?_
  obtain ⟨k1, H⟩ := H
  refine go_V (av := [pv_i x1]) (st := []) (ci := 0) ok_X0_laneAt ⟨by decide, by decide⟩ ml_X10_133 rfl (by decide) (fun v hv => by simp only [List.mem_cons, List.not_mem_nil, or_false] at hv; rcases hv with rfl <;> first | exact pv_1i | exact pv_1r) (Nat.le_of_ble_eq_true rfl) (fun _ h => h) (by decide) rfl k1 dX10_arrange_5 H (fun r M2 hq hS => ?_)
  obtain ⟨v3, rfl, H⟩ := hq
  have k4 : mm_k M2 a0 = (10, 14) := ks_S K0 (by decide) hS
  have k5 : mm_k M2 (mm_r M a0 0) = (0, 4) := ks_S k1 (by decide) hS
  show go_W mt_X10_arrange fr_C 8 [some (pv_r a0), some (pv_i x1), some (pv_i x2), some (pv_i x3), none] [pv_r v3] M2 (qi_ P)
  refine go_astore (by decide) dX10_arrange_8 ?_
  show go_W mt_X10_arrange fr_C 10 [some (pv_r a0), some (pv_i x1), some (pv_i x2), some (pv_i x3), some (pv_r v3)] [] M2 (qi_ P)
  refine go_aload dX10_arrange_10 rfl ?_
  refine go_ifnull (tgt := 41) dX10_arrange_12 (by decide) (fun hc => ?_) (fun hc => ?_)
  · replace H := H.1 hc
    refine go_aload_n dX10_arrange_41 rfl ?_
    refine go_bipush (v := (-2 : Int32)) rfl dX10_arrange_42 ?_
    refine go_V (av := [pv_i (-2 : Int32)]) (st := []) (ci := 10) ok_X10_counted ⟨by decide, by decide⟩ ml_X10_76 rfl (by decide) (fun v hv => by simp only [List.mem_cons, List.not_mem_nil, or_false] at hv; rcases hv with rfl <;> first | exact pv_1i | exact pv_1r) (Nat.le_of_ble_eq_true rfl) (fun _ h => h) (by decide) rfl k4 dX10_arrange_44 H (fun r M6 hq hS => ?_)
    obtain ⟨v7, rfl, H⟩ := hq
    have k8 : mm_k M6 a0 = (10, 14) := ks_S k4 (by decide) hS
    have k9 : mm_k M6 (mm_r M a0 0) = (0, 4) := ks_S k5 (by decide) hS
    show go_W mt_X10_arrange fr_C 47 [some (pv_r a0), some (pv_i x1), some (pv_i x2), some (pv_i x3), some (pv_r v3)] [pv_i v7] M6 (qi_ P)
    exact go_iret rfl rfl dX10_arrange_47 ⟨_, rfl, H⟩
  · replace H := H.2 hc
    refine go_iload_n dX10_arrange_15 rfl ?_
    refine go_if_lt (tgt := 41) dX10_arrange_16 (by decide) (fun hc => ?_) (fun hc => ?_)
    · replace H := H.1 hc
      refine go_aload_n dX10_arrange_41 rfl ?_
      refine go_bipush (v := (-2 : Int32)) rfl dX10_arrange_42 ?_
      refine go_V (av := [pv_i (-2 : Int32)]) (st := []) (ci := 10) ok_X10_counted ⟨by decide, by decide⟩ ml_X10_76 rfl (by decide) (fun v hv => by simp only [List.mem_cons, List.not_mem_nil, or_false] at hv; rcases hv with rfl <;> first | exact pv_1i | exact pv_1r) (Nat.le_of_ble_eq_true rfl) (fun _ h => h) (by decide) rfl k4 dX10_arrange_44 H (fun r M10 hq hS => ?_)
      obtain ⟨v11, rfl, H⟩ := hq
      have k12 : mm_k M10 a0 = (10, 14) := ks_S k4 (by decide) hS
      have k13 : mm_k M10 (mm_r M a0 0) = (0, 4) := ks_S k5 (by decide) hS
      show go_W mt_X10_arrange fr_C 47 [some (pv_r a0), some (pv_i x1), some (pv_i x2), some (pv_i x3), some (pv_r v3)] [pv_i v11] M10 (qi_ P)
      exact go_iret rfl rfl dX10_arrange_47 ⟨_, rfl, H⟩
    · replace H := H.2 hc
      refine go_iload_n dX10_arrange_19 rfl ?_
      refine go_gets_TOP_OF_LANE fl_X10_225 dX10_arrange_20 ?_
      obtain ⟨k14, H⟩ := H
      refine go_xlen k14 dX10_arrange_23 ?_
      refine go_icmp_ge (tgt := 41) dX10_arrange_24 (by decide) (fun hc => ?_) (fun hc => ?_)
      · replace H := H.1 hc
        refine go_aload_n dX10_arrange_41 rfl ?_
        refine go_bipush (v := (-2 : Int32)) rfl dX10_arrange_42 ?_
        refine go_V (av := [pv_i (-2 : Int32)]) (st := []) (ci := 10) ok_X10_counted ⟨by decide, by decide⟩ ml_X10_76 rfl (by decide) (fun v hv => by simp only [List.mem_cons, List.not_mem_nil, or_false] at hv; rcases hv with rfl <;> first | exact pv_1i | exact pv_1r) (Nat.le_of_ble_eq_true rfl) (fun _ h => h) (by decide) rfl k4 dX10_arrange_44 H (fun r M15 hq hS => ?_)
        obtain ⟨v16, rfl, H⟩ := hq
        have k17 : mm_k M15 a0 = (10, 14) := ks_S k4 (by decide) hS
        have k18 : mm_k M15 (mm_r M a0 0) = (0, 4) := ks_S k5 (by decide) hS
        show go_W mt_X10_arrange fr_C 47 [some (pv_r a0), some (pv_i x1), some (pv_i x2), some (pv_i x3), some (pv_r v3)] [pv_i v16] M15 (qi_ P)
        exact go_iret rfl rfl dX10_arrange_47 ⟨_, rfl, H⟩
      · replace H := H.2 hc
        refine go_iload_n dX10_arrange_27 rfl ?_
        refine go_iconst (v := (1 : Int32)) rfl dX10_arrange_28 ?_
        refine go_icmp_lt (tgt := 41) dX10_arrange_29 (by decide) (fun hc => ?_) (fun hc => ?_)
        · replace H := H.1 hc
          refine go_aload_n dX10_arrange_41 rfl ?_
          refine go_bipush (v := (-2 : Int32)) rfl dX10_arrange_42 ?_
          refine go_V (av := [pv_i (-2 : Int32)]) (st := []) (ci := 10) ok_X10_counted ⟨by decide, by decide⟩ ml_X10_76 rfl (by decide) (fun v hv => by simp only [List.mem_cons, List.not_mem_nil, or_false] at hv; rcases hv with rfl <;> first | exact pv_1i | exact pv_1r) (Nat.le_of_ble_eq_true rfl) (fun _ h => h) (by decide) rfl k4 dX10_arrange_44 H (fun r M19 hq hS => ?_)
          obtain ⟨v20, rfl, H⟩ := hq
          have k21 : mm_k M19 a0 = (10, 14) := ks_S k4 (by decide) hS
          have k22 : mm_k M19 (mm_r M a0 0) = (0, 4) := ks_S k5 (by decide) hS
          show go_W mt_X10_arrange fr_C 47 [some (pv_r a0), some (pv_i x1), some (pv_i x2), some (pv_i x3), some (pv_r v3)] [pv_i v20] M19 (qi_ P)
          exact go_iret rfl rfl dX10_arrange_47 ⟨_, rfl, H⟩
        · replace H := H.2 hc
          refine go_iload_n dX10_arrange_32 rfl ?_
          refine go_gets_TOP_OF_LANE fl_X10_225 dX10_arrange_33 ?_
          refine go_iload_n dX10_arrange_36 rfl ?_
          obtain ⟨k23, H⟩ := H
          obtain ⟨n24, ⟨hn24, hn24b⟩, H⟩ := H
          refine go_xaldN (j := n24) k23 (by decide) hn24 hn24b dX10_arrange_37 ?_
          refine go_icmp_le (tgt := 48) dX10_arrange_38 (by decide) (fun hc => ?_) (fun hc => ?_)
          · replace H := H.1 hc
            refine go_aload dX10_arrange_48 rfl ?_
            refine go_iload_n dX10_arrange_50 rfl ?_
            refine go_iload_n dX10_arrange_51 rfl ?_
            obtain ⟨k25, H⟩ := H
            refine go_V (av := [pv_i x2, pv_i x3]) (st := []) (ci := 3) ok_X3_rearrange ⟨by decide, by decide⟩ ml_X10_228 rfl (by decide) (fun v hv => by simp only [List.mem_cons, List.not_mem_nil, or_false] at hv; rcases hv with rfl | rfl <;> first | exact pv_1i | exact pv_1r) (Nat.le_of_ble_eq_true rfl) (fun _ h => h) (by decide) rfl k25 dX10_arrange_52 H (fun r M26 hq hS => ?_)
            obtain ⟨v27, rfl, H⟩ := hq
            have k28 : mm_k M26 a0 = (10, 14) := ks_S k4 (by decide) hS
            have k29 : mm_k M26 (mm_r M a0 0) = (0, 4) := ks_S k5 (by decide) hS
            have k30 : mm_k M26 v3 = (3, 14) := ks_S k25 (by decide) hS
            show go_W mt_X10_arrange fr_C 55 [some (pv_r a0), some (pv_i x1), some (pv_i x2), some (pv_i x3), some (pv_r v3)] [pv_i v27] M26 (qi_ P)
            exact go_iret rfl rfl dX10_arrange_55 ⟨_, rfl, H⟩
          · replace H := H.2 hc
            refine go_aload_n dX10_arrange_41 rfl ?_
            refine go_bipush (v := (-2 : Int32)) rfl dX10_arrange_42 ?_
            refine go_V (av := [pv_i (-2 : Int32)]) (st := []) (ci := 10) ok_X10_counted ⟨by decide, by decide⟩ ml_X10_76 rfl (by decide) (fun v hv => by simp only [List.mem_cons, List.not_mem_nil, or_false] at hv; rcases hv with rfl <;> first | exact pv_1i | exact pv_1r) (Nat.le_of_ble_eq_true rfl) (fun _ h => h) (by decide) rfl k4 dX10_arrange_44 H (fun r M31 hq hS => ?_)
            obtain ⟨v32, rfl, H⟩ := hq
            have k33 : mm_k M31 a0 = (10, 14) := ks_S k4 (by decide) hS
            have k34 : mm_k M31 (mm_r M a0 0) = (0, 4) := ks_S k5 (by decide) hS
            show go_W mt_X10_arrange fr_C 47 [some (pv_r a0), some (pv_i x1), some (pv_i x2), some (pv_i x3), some (pv_r v3)] [pv_i v32] M31 (qi_ P)
            exact go_iret rfl rfl dX10_arrange_47 ⟨_, rfl, H⟩
set_option maxRecDepth 20000 in
theorem wc_X10_rule_0 {M : mm_T} {a0 : Nat} {x1 x2 : Int32} {P : Int32 → mm_T → Prop} (K0 : mm_k M a0 = (10, 14)) (H : (((x1 < 0) → cs_i mt_X10_counted [pv_r a0, pv_i (-2 : Int32)] M (fun v2 M1 => P v2 M1)) ∧ ((¬ x1 < 0) → mm_k M 3 = (15, 6) ∧ (((((nI 6) ≤ x1) → cs_i mt_X10_counted [pv_r a0, pv_i (-2 : Int32)] M (fun v6 M5 => P v6 M5)) ∧ ((¬ (nI 6) ≤ x1) → (((x2 < (1 : Int32)) → cs_i mt_X10_counted [pv_r a0, pv_i (-2 : Int32)] M (fun v9 M8 => P v9 M8)) ∧ ((¬ x2 < (1 : Int32)) → mm_k M 3 = (15, 6) ∧ (∃ n12, (x1 = nI n12 ∧ n12 < 6) ∧ ((((x2 ≤ mm_i M 3 n12) → mm_k M (mm_r M a0 0) = (0, 4) ∧ (∃ l14, ak_ M (mm_r M (mm_r M a0 0) 3) 0 l14 ∧ (n12 < l14 ∧ (n12 < l14 ∧ (∀ M18, M18 = mm_pi M (mm_r M (mm_r M a0 0) 3) n12 x2 → P (mm_i M (mm_r M (mm_r M a0 0) 3) n12) M18))))) ∧ ((¬ x2 ≤ mm_i M 3 n12) → cs_i mt_X10_counted [pv_r a0, pv_i (-2 : Int32)] M (fun v23 M22 => P v23 M22))))))))))))) : cw_i mt_X10_rule 0 [some (pv_r a0), some (pv_i x1), some (pv_i x2), none] [] M P := by
  refine go_iload_n dX10_rule_0 rfl ?_
  refine go_if_lt (tgt := 26) dX10_rule_1 (by decide) (fun hc => ?_) (fun hc => ?_)
  · replace H := H.1 hc
    refine go_aload_n dX10_rule_26 rfl ?_
    refine go_bipush (v := (-2 : Int32)) rfl dX10_rule_27 ?_
    refine go_V (av := [pv_i (-2 : Int32)]) (st := []) (ci := 10) ok_X10_counted ⟨by decide, by decide⟩ ml_X10_76 rfl (by decide) (fun v hv => by simp only [List.mem_cons, List.not_mem_nil, or_false] at hv; rcases hv with rfl <;> first | exact pv_1i | exact pv_1r) (Nat.le_of_ble_eq_true rfl) (fun _ h => h) (by decide) rfl K0 dX10_rule_29 H (fun r M1 hq hS => ?_)
    obtain ⟨v2, rfl, H⟩ := hq
    have k3 : mm_k M1 a0 = (10, 14) := ks_S K0 (by decide) hS
    show go_W mt_X10_rule fr_C 32 [some (pv_r a0), some (pv_i x1), some (pv_i x2), none] [pv_i v2] M1 (qi_ P)
    exact go_iret rfl rfl dX10_rule_32 ⟨_, rfl, H⟩
  · replace H := H.2 hc
    refine go_iload_n dX10_rule_4 rfl ?_
    refine go_gets_TOP_RULES fl_X10_231 dX10_rule_5 ?_
    obtain ⟨k4, H⟩ := H
    refine go_xlen k4 dX10_rule_8 ?_
    refine go_icmp_ge (tgt := 26) dX10_rule_9 (by decide) (fun hc => ?_) (fun hc => ?_)
    · replace H := H.1 hc
      refine go_aload_n dX10_rule_26 rfl ?_
      refine go_bipush (v := (-2 : Int32)) rfl dX10_rule_27 ?_
      refine go_V (av := [pv_i (-2 : Int32)]) (st := []) (ci := 10) ok_X10_counted ⟨by decide, by decide⟩ ml_X10_76 rfl (by decide) (fun v hv => by simp only [List.mem_cons, List.not_mem_nil, or_false] at hv; rcases hv with rfl <;> first | exact pv_1i | exact pv_1r) (Nat.le_of_ble_eq_true rfl) (fun _ h => h) (by decide) rfl K0 dX10_rule_29 H (fun r M5 hq hS => ?_)
      obtain ⟨v6, rfl, H⟩ := hq
      have k7 : mm_k M5 a0 = (10, 14) := ks_S K0 (by decide) hS
      show go_W mt_X10_rule fr_C 32 [some (pv_r a0), some (pv_i x1), some (pv_i x2), none] [pv_i v6] M5 (qi_ P)
      exact go_iret rfl rfl dX10_rule_32 ⟨_, rfl, H⟩
    · replace H := H.2 hc
      refine go_iload_n dX10_rule_12 rfl ?_
      refine go_iconst (v := (1 : Int32)) rfl dX10_rule_13 ?_
      refine go_icmp_lt (tgt := 26) dX10_rule_14 (by decide) (fun hc => ?_) (fun hc => ?_)
      · replace H := H.1 hc
        refine go_aload_n dX10_rule_26 rfl ?_
        refine go_bipush (v := (-2 : Int32)) rfl dX10_rule_27 ?_
        refine go_V (av := [pv_i (-2 : Int32)]) (st := []) (ci := 10) ok_X10_counted ⟨by decide, by decide⟩ ml_X10_76 rfl (by decide) (fun v hv => by simp only [List.mem_cons, List.not_mem_nil, or_false] at hv; rcases hv with rfl <;> first | exact pv_1i | exact pv_1r) (Nat.le_of_ble_eq_true rfl) (fun _ h => h) (by decide) rfl K0 dX10_rule_29 H (fun r M8 hq hS => ?_)
        obtain ⟨v9, rfl, H⟩ := hq
        have k10 : mm_k M8 a0 = (10, 14) := ks_S K0 (by decide) hS
        show go_W mt_X10_rule fr_C 32 [some (pv_r a0), some (pv_i x1), some (pv_i x2), none] [pv_i v9] M8 (qi_ P)
        exact go_iret rfl rfl dX10_rule_32 ⟨_, rfl, H⟩
      · replace H := H.2 hc
        refine go_iload_n dX10_rule_17 rfl ?_
        refine go_gets_TOP_RULES fl_X10_231 dX10_rule_18 ?_
        refine go_iload_n dX10_rule_21 rfl ?_
        obtain ⟨k11, H⟩ := H
        obtain ⟨n12, ⟨hn12, hn12b⟩, H⟩ := H
        refine go_xaldN (j := n12) k11 (by decide) hn12 hn12b dX10_rule_22 ?_
        refine go_icmp_le (tgt := 33) dX10_rule_23 (by decide) (fun hc => ?_) (fun hc => ?_)
        · replace H := H.1 hc
          refine go_aload_n dX10_rule_33 rfl ?_
          refine go_getR (k := 0) ⟨by decide, rfl, by decide, Or.inl ⟨_, rfl⟩⟩ K0 fl_X10_10 dX10_rule_34 ?_
          obtain ⟨k13, H⟩ := H
          refine go_getR (k := 3) ⟨by decide, rfl, by decide, Or.inr ⟨_, rfl⟩⟩ k13 fl_X10_111 dX10_rule_37 ?_
          refine go_iload_n dX10_rule_40 rfl ?_
          obtain ⟨l14, k15, H⟩ := H
          obtain ⟨hb16, H⟩ := H
          refine go_ialdA (j := n12) k15 hn12 hb16 dX10_rule_41 ?_
          refine go_istore_n (by decide) dX10_rule_42 ?_
          show go_W mt_X10_rule fr_C 43 [some (pv_r a0), some (pv_i x1), some (pv_i x2), some (pv_i (mm_i M (mm_r M (mm_r M a0 0) 3) n12))] [] M (qi_ P)
          refine go_aload_n dX10_rule_43 rfl ?_
          refine go_getR (k := 0) ⟨by decide, rfl, by decide, Or.inl ⟨_, rfl⟩⟩ K0 fl_X10_10 dX10_rule_44 ?_
          refine go_getR (k := 3) ⟨by decide, rfl, by decide, Or.inr ⟨_, rfl⟩⟩ k13 fl_X10_111 dX10_rule_47 ?_
          refine go_iload_n dX10_rule_50 rfl ?_
          refine go_iload_n dX10_rule_51 rfl ?_
          obtain ⟨hb17, H⟩ := H
          refine go_iastA (j := n12) k15 hn12 hb17 dX10_rule_52 ?_
          show go_W mt_X10_rule fr_C 53 [some (pv_r a0), some (pv_i x1), some (pv_i x2), some (pv_i (mm_i M (mm_r M (mm_r M a0 0) 3) n12))] [] (mm_pi M (mm_r M (mm_r M a0 0) 3) n12 x2) (qi_ P)
          obtain ⟨M18, hM18⟩ : ∃ M', M' = mm_pi M (mm_r M (mm_r M a0 0) 3) n12 x2 := ⟨_, rfl⟩
          have k19 : mm_k M18 a0 = (10, 14) := (by rw [hM18]; exact K0)
          have k20 : mm_k M18 (mm_r M a0 0) = (0, 4) := (by rw [hM18]; exact k13)
          have k21 : ak_ M18 (mm_r M (mm_r M a0 0) 3) 0 l14 := (by rw [hM18]; exact k15)
          rw [← hM18]
          replace H := H M18 hM18
          refine go_iload_n dX10_rule_53 rfl ?_
          exact go_iret rfl rfl dX10_rule_54 ⟨_, rfl, H⟩
        · replace H := H.2 hc
          refine go_aload_n dX10_rule_26 rfl ?_
          refine go_bipush (v := (-2 : Int32)) rfl dX10_rule_27 ?_
          refine go_V (av := [pv_i (-2 : Int32)]) (st := []) (ci := 10) ok_X10_counted ⟨by decide, by decide⟩ ml_X10_76 rfl (by decide) (fun v hv => by simp only [List.mem_cons, List.not_mem_nil, or_false] at hv; rcases hv with rfl <;> first | exact pv_1i | exact pv_1r) (Nat.le_of_ble_eq_true rfl) (fun _ h => h) (by decide) rfl K0 dX10_rule_29 H (fun r M22 hq hS => ?_)
          obtain ⟨v23, rfl, H⟩ := hq
          have k24 : mm_k M22 a0 = (10, 14) := ks_S K0 (by decide) hS
          show go_W mt_X10_rule fr_C 32 [some (pv_r a0), some (pv_i x1), some (pv_i x2), none] [pv_i v23] M22 (qi_ P)
          exact go_iret rfl rfl dX10_rule_32 ⟨_, rfl, H⟩
set_option maxRecDepth 20000 in
theorem wc_X10_pardon_0 {M : mm_T} {a0 : Nat} {x1 : Int32} {P : Int32 → mm_T → Prop} (K0 : mm_k M a0 = (10, 14)) (H : cs_i mt_X10_isKey [pv_i x1] M (fun v2 M1 => (((¬ v2 = 0) → mm_k M1 (mm_r M1 a0 7) = (5, 3) ∧ (cs_i mt_X5_count [pv_r (mm_r M1 a0 7), pv_i x1] M1 (fun v6 M5 => (((¬ v6 = 0) → mm_k M5 (mm_r M5 a0 7) = (5, 3) ∧ (cs_v mt_X5_forget [pv_r (mm_r M5 a0 7), pv_i x1] M5 (fun M10 => P v6 M10))) ∧ ((v6 = 0) → cs_i mt_X10_counted [pv_r a0, pv_i (-3 : Int32)] M5 (fun v15 M14 => P v15 M14)))))) ∧ ((v2 = 0) → cs_i mt_X10_counted [pv_r a0, pv_i (-2 : Int32)] M1 (fun v19 M18 => P v19 M18))))) : cw_i mt_X10_pardon 0 [some (pv_r a0), some (pv_i x1), none] [] M P := by
  refine go_iload_n dX10_pardon_0 rfl ?_
  refine go_St (av := [pv_i x1]) (st := []) ok_X10_isKey ⟨by decide, by decide⟩ ml_X10_234 rfl (by decide) (fun v hv => by simp only [List.mem_cons, List.not_mem_nil, or_false] at hv; rcases hv with rfl <;> first | exact pv_1i | exact pv_1r) (Nat.le_of_ble_eq_true rfl) (fun _ h => h) dX10_pardon_1 H (fun r M1 hq hS => ?_)
  obtain ⟨v2, rfl, H⟩ := hq
  have k3 : mm_k M1 a0 = (10, 14) := ks_S K0 (by decide) hS
  show go_W mt_X10_pardon fr_C 4 [some (pv_r a0), some (pv_i x1), none] [pv_i v2] M1 (qi_ P)
  refine go_if_ne (tgt := 14) dX10_pardon_4 (by decide) (fun hc => ?_) (fun hc => ?_)
  · replace H := H.1 hc
    refine go_aload_n dX10_pardon_14 rfl ?_
    refine go_getR (k := 7) ⟨by decide, rfl, by decide, Or.inl ⟨_, rfl⟩⟩ k3 fl_X10_54 dX10_pardon_15 ?_
    refine go_iload_n dX10_pardon_18 rfl ?_
    obtain ⟨k4, H⟩ := H
    refine go_V (av := [pv_i x1]) (st := []) (ci := 5) ok_X5_count ⟨by decide, by decide⟩ ml_X10_238 rfl (by decide) (fun v hv => by simp only [List.mem_cons, List.not_mem_nil, or_false] at hv; rcases hv with rfl <;> first | exact pv_1i | exact pv_1r) (Nat.le_of_ble_eq_true rfl) (fun _ h => h) (by decide) rfl k4 dX10_pardon_19 H (fun r M5 hq hS => ?_)
    obtain ⟨v6, rfl, H⟩ := hq
    have k7 : mm_k M5 a0 = (10, 14) := ks_S k3 (by decide) hS
    have k8 : mm_k M5 (mm_r M1 a0 7) = (5, 3) := ks_S k4 (by decide) hS
    show go_W mt_X10_pardon fr_C 22 [some (pv_r a0), some (pv_i x1), none] [pv_i v6] M5 (qi_ P)
    refine go_istore_n (by decide) dX10_pardon_22 ?_
    show go_W mt_X10_pardon fr_C 23 [some (pv_r a0), some (pv_i x1), some (pv_i v6)] [] M5 (qi_ P)
    refine go_iload_n dX10_pardon_23 rfl ?_
    refine go_if_ne (tgt := 34) dX10_pardon_24 (by decide) (fun hc => ?_) (fun hc => ?_)
    · replace H := H.1 hc
      refine go_aload_n dX10_pardon_34 rfl ?_
      refine go_getR (k := 7) ⟨by decide, rfl, by decide, Or.inl ⟨_, rfl⟩⟩ k7 fl_X10_54 dX10_pardon_35 ?_
      refine go_iload_n dX10_pardon_38 rfl ?_
      obtain ⟨k9, H⟩ := H
      refine go_V (av := [pv_i x1]) (st := []) (ci := 5) ok_X5_forget ⟨by decide, by decide⟩ ml_X10_241 rfl (by decide) (fun v hv => by simp only [List.mem_cons, List.not_mem_nil, or_false] at hv; rcases hv with rfl <;> first | exact pv_1i | exact pv_1r) (Nat.le_of_ble_eq_true rfl) (fun _ h => h) (by decide) rfl k9 dX10_pardon_39 H (fun r M10 hq hS => ?_)
      obtain ⟨rfl, H⟩ := hq
      have k11 : mm_k M10 a0 = (10, 14) := ks_S k7 (by decide) hS
      have k12 : mm_k M10 (mm_r M1 a0 7) = (5, 3) := ks_S k8 (by decide) hS
      have k13 : mm_k M10 (mm_r M5 a0 7) = (5, 3) := ks_S k9 (by decide) hS
      show go_W mt_X10_pardon fr_C 42 [some (pv_r a0), some (pv_i x1), some (pv_i v6)] [] M10 (qi_ P)
      refine go_iload_n dX10_pardon_42 rfl ?_
      exact go_iret rfl rfl dX10_pardon_43 ⟨_, rfl, H⟩
    · replace H := H.2 hc
      refine go_aload_n dX10_pardon_27 rfl ?_
      refine go_bipush (v := (-3 : Int32)) rfl dX10_pardon_28 ?_
      refine go_V (av := [pv_i (-3 : Int32)]) (st := []) (ci := 10) ok_X10_counted ⟨by decide, by decide⟩ ml_X10_76 rfl (by decide) (fun v hv => by simp only [List.mem_cons, List.not_mem_nil, or_false] at hv; rcases hv with rfl <;> first | exact pv_1i | exact pv_1r) (Nat.le_of_ble_eq_true rfl) (fun _ h => h) (by decide) rfl k7 dX10_pardon_30 H (fun r M14 hq hS => ?_)
      obtain ⟨v15, rfl, H⟩ := hq
      have k16 : mm_k M14 a0 = (10, 14) := ks_S k7 (by decide) hS
      have k17 : mm_k M14 (mm_r M1 a0 7) = (5, 3) := ks_S k8 (by decide) hS
      show go_W mt_X10_pardon fr_C 33 [some (pv_r a0), some (pv_i x1), some (pv_i v6)] [pv_i v15] M14 (qi_ P)
      exact go_iret rfl rfl dX10_pardon_33 ⟨_, rfl, H⟩
  · replace H := H.2 hc
    refine go_aload_n dX10_pardon_7 rfl ?_
    refine go_bipush (v := (-2 : Int32)) rfl dX10_pardon_8 ?_
    refine go_V (av := [pv_i (-2 : Int32)]) (st := []) (ci := 10) ok_X10_counted ⟨by decide, by decide⟩ ml_X10_76 rfl (by decide) (fun v hv => by simp only [List.mem_cons, List.not_mem_nil, or_false] at hv; rcases hv with rfl <;> first | exact pv_1i | exact pv_1r) (Nat.le_of_ble_eq_true rfl) (fun _ h => h) (by decide) rfl k3 dX10_pardon_10 H (fun r M18 hq hS => ?_)
    obtain ⟨v19, rfl, H⟩ := hq
    have k20 : mm_k M18 a0 = (10, 14) := ks_S k3 (by decide) hS
    show go_W mt_X10_pardon fr_C 13 [some (pv_r a0), some (pv_i x1), none] [pv_i v19] M18 (qi_ P)
    exact go_iret rfl rfl dX10_pardon_13 ⟨_, rfl, H⟩
set_option maxRecDepth 20000 in
theorem wc_X10_store_0 {M : mm_T} {a0 : Nat} {x1 : Int32} {P : Int32 → mm_T → Prop} (K0 : mm_k M a0 = (10, 14)) (H : (((x1 < (1 : Int32)) → (((x1 < (13 : Int32)) → ((x1 = (0 : Int32)) → P (mm_i M a0 11) M) ∧ ((x1 = (8 : Int32)) → mm_k M (mm_r M a0 2) = (4, 2) ∧ (P (mm_i M (mm_r M a0 2) 1) M)) ∧ ((x1 = (9 : Int32)) → mm_k M (mm_r M a0 0) = (0, 4) ∧ (mm_k M (mm_r M (mm_r M a0 0) 1) = (4, 2) ∧ (P (mm_i M (mm_r M (mm_r M a0 0) 1) 1) M))) ∧ ((x1 = (10 : Int32)) → P (mm_i M a0 13) M) ∧ ((x1 = (11 : Int32)) → P (mm_i M a0 12) M) ∧ ((x1 = (12 : Int32)) → mm_k M (mm_r M a0 0) = (0, 4) ∧ (cs_i mt_X0_liveLanes [pv_r (mm_r M a0 0)] M (fun v6 M5 => P v6 M5))) ∧ ((¬ x1 = (0 : Int32) ∧ ¬ x1 = (8 : Int32) ∧ ¬ x1 = (9 : Int32) ∧ ¬ x1 = (10 : Int32) ∧ ¬ x1 = (11 : Int32) ∧ ¬ x1 = (12 : Int32)) → P (-1 : Int32) M)) ∧ ((¬ x1 < (13 : Int32)) → mm_k M 3 = (15, 6) ∧ ((((((13 : Int32) + (nI 6)) ≤ x1) → ((x1 = (0 : Int32)) → P (mm_i M a0 11) M) ∧ ((x1 = (8 : Int32)) → mm_k M (mm_r M a0 2) = (4, 2) ∧ (P (mm_i M (mm_r M a0 2) 1) M)) ∧ ((x1 = (9 : Int32)) → mm_k M (mm_r M a0 0) = (0, 4) ∧ (mm_k M (mm_r M (mm_r M a0 0) 1) = (4, 2) ∧ (P (mm_i M (mm_r M (mm_r M a0 0) 1) 1) M))) ∧ ((x1 = (10 : Int32)) → P (mm_i M a0 13) M) ∧ ((x1 = (11 : Int32)) → P (mm_i M a0 12) M) ∧ ((x1 = (12 : Int32)) → mm_k M (mm_r M a0 0) = (0, 4) ∧ (cs_i mt_X0_liveLanes [pv_r (mm_r M a0 0)] M (fun v15 M14 => P v15 M14))) ∧ ((¬ x1 = (0 : Int32) ∧ ¬ x1 = (8 : Int32) ∧ ¬ x1 = (9 : Int32) ∧ ¬ x1 = (10 : Int32) ∧ ¬ x1 = (11 : Int32) ∧ ¬ x1 = (12 : Int32)) → P (-1 : Int32) M)) ∧ ((¬ ((13 : Int32) + (nI 6)) ≤ x1) → mm_k M (mm_r M a0 0) = (0, 4) ∧ (∃ l19, ak_ M (mm_r M (mm_r M a0 0) 3) 0 l19 ∧ (∃ n22, ((x1 - (13 : Int32)) = nI n22 ∧ n22 < l19) ∧ (P (mm_i M (mm_r M (mm_r M a0 0) 3) n22) M))))))))) ∧ ((¬ x1 < (1 : Int32)) → ((((7 : Int32) < x1) → (((x1 < (13 : Int32)) → ((x1 = (0 : Int32)) → P (mm_i M a0 11) M) ∧ ((x1 = (8 : Int32)) → mm_k M (mm_r M a0 2) = (4, 2) ∧ (P (mm_i M (mm_r M a0 2) 1) M)) ∧ ((x1 = (9 : Int32)) → mm_k M (mm_r M a0 0) = (0, 4) ∧ (mm_k M (mm_r M (mm_r M a0 0) 1) = (4, 2) ∧ (P (mm_i M (mm_r M (mm_r M a0 0) 1) 1) M))) ∧ ((x1 = (10 : Int32)) → P (mm_i M a0 13) M) ∧ ((x1 = (11 : Int32)) → P (mm_i M a0 12) M) ∧ ((x1 = (12 : Int32)) → mm_k M (mm_r M a0 0) = (0, 4) ∧ (cs_i mt_X0_liveLanes [pv_r (mm_r M a0 0)] M (fun v28 M27 => P v28 M27))) ∧ ((¬ x1 = (0 : Int32) ∧ ¬ x1 = (8 : Int32) ∧ ¬ x1 = (9 : Int32) ∧ ¬ x1 = (10 : Int32) ∧ ¬ x1 = (11 : Int32) ∧ ¬ x1 = (12 : Int32)) → P (-1 : Int32) M)) ∧ ((¬ x1 < (13 : Int32)) → mm_k M 3 = (15, 6) ∧ ((((((13 : Int32) + (nI 6)) ≤ x1) → ((x1 = (0 : Int32)) → P (mm_i M a0 11) M) ∧ ((x1 = (8 : Int32)) → mm_k M (mm_r M a0 2) = (4, 2) ∧ (P (mm_i M (mm_r M a0 2) 1) M)) ∧ ((x1 = (9 : Int32)) → mm_k M (mm_r M a0 0) = (0, 4) ∧ (mm_k M (mm_r M (mm_r M a0 0) 1) = (4, 2) ∧ (P (mm_i M (mm_r M (mm_r M a0 0) 1) 1) M))) ∧ ((x1 = (10 : Int32)) → P (mm_i M a0 13) M) ∧ ((x1 = (11 : Int32)) → P (mm_i M a0 12) M) ∧ ((x1 = (12 : Int32)) → mm_k M (mm_r M a0 0) = (0, 4) ∧ (cs_i mt_X0_liveLanes [pv_r (mm_r M a0 0)] M (fun v37 M36 => P v37 M36))) ∧ ((¬ x1 = (0 : Int32) ∧ ¬ x1 = (8 : Int32) ∧ ¬ x1 = (9 : Int32) ∧ ¬ x1 = (10 : Int32) ∧ ¬ x1 = (11 : Int32) ∧ ¬ x1 = (12 : Int32)) → P (-1 : Int32) M)) ∧ ((¬ ((13 : Int32) + (nI 6)) ≤ x1) → mm_k M (mm_r M a0 0) = (0, 4) ∧ (∃ l41, ak_ M (mm_r M (mm_r M a0 0) 3) 0 l41 ∧ (∃ n44, ((x1 - (13 : Int32)) = nI n44 ∧ n44 < l41) ∧ (P (mm_i M (mm_r M (mm_r M a0 0) 3) n44) M))))))))) ∧ ((¬ (7 : Int32) < x1) → mm_k M (mm_r M a0 0) = (0, 4) ∧ (∃ l46, ak_ M (mm_r M (mm_r M a0 0) 2) 0 l46 ∧ (∃ n49, ((x1 - (1 : Int32)) = nI n49 ∧ n49 < l46) ∧ (P (mm_i M (mm_r M (mm_r M a0 0) 2) n49) M)))))))) : cw_i mt_X10_store 0 [some (pv_r a0), some (pv_i x1)] [] M P := by
  refine go_iload_n dX10_store_0 rfl ?_
  refine go_iconst (v := (1 : Int32)) rfl dX10_store_1 ?_
  refine go_icmp_lt (tgt := 23) dX10_store_2 (by decide) (fun hc => ?_) (fun hc => ?_)
  · replace H := H.1 hc
    refine go_iload_n dX10_store_23 rfl ?_
    refine go_bipush (v := (13 : Int32)) rfl dX10_store_24 ?_
    refine go_icmp_lt (tgt := 53) dX10_store_26 (by decide) (fun hc => ?_) (fun hc => ?_)
    · replace H := H.1 hc
      refine go_iload_n dX10_store_53 rfl ?_
      by_cases hc0 : x1 = (0 : Int32)
      · replace H := H.1 hc0
        refine go_tabIn (v := (0 : Int32)) (tgt := 120) hc0 (by decide) (by decide) rfl (by decide) dX10_store_54 ?_
        refine go_aload_n dX10_store_120 rfl ?_
        refine go_getI (k := 11) ⟨by decide, rfl, by decide, rfl⟩ K0 fl_X10_108 dX10_store_121 ?_
        exact go_iret rfl rfl dX10_store_124 ⟨_, rfl, H⟩
      replace H := H.2
      by_cases hc8 : x1 = (8 : Int32)
      · replace H := H.1 hc8
        refine go_tabIn (v := (8 : Int32)) (tgt := 125) hc8 (by decide) (by decide) rfl (by decide) dX10_store_54 ?_
        refine go_aload_n dX10_store_125 rfl ?_
        refine go_getR (k := 2) ⟨by decide, rfl, by decide, Or.inl ⟨_, rfl⟩⟩ K0 fl_X10_28 dX10_store_126 ?_
        obtain ⟨k1, H⟩ := H
        refine go_getI (k := 1) ⟨by decide, rfl, by decide, rfl⟩ k1 fl_X10_222 dX10_store_129 ?_
        exact go_iret rfl rfl dX10_store_132 ⟨_, rfl, H⟩
      replace H := H.2
      by_cases hc9 : x1 = (9 : Int32)
      · replace H := H.1 hc9
        refine go_tabIn (v := (9 : Int32)) (tgt := 133) hc9 (by decide) (by decide) rfl (by decide) dX10_store_54 ?_
        refine go_aload_n dX10_store_133 rfl ?_
        refine go_getR (k := 0) ⟨by decide, rfl, by decide, Or.inl ⟨_, rfl⟩⟩ K0 fl_X10_10 dX10_store_134 ?_
        obtain ⟨k2, H⟩ := H
        refine go_getR (k := 1) ⟨by decide, rfl, by decide, Or.inl ⟨_, rfl⟩⟩ k2 fl_X10_254 dX10_store_137 ?_
        obtain ⟨k3, H⟩ := H
        refine go_getI (k := 1) ⟨by decide, rfl, by decide, rfl⟩ k3 fl_X10_222 dX10_store_140 ?_
        exact go_iret rfl rfl dX10_store_143 ⟨_, rfl, H⟩
      replace H := H.2
      by_cases hc10 : x1 = (10 : Int32)
      · replace H := H.1 hc10
        refine go_tabIn (v := (10 : Int32)) (tgt := 144) hc10 (by decide) (by decide) rfl (by decide) dX10_store_54 ?_
        refine go_aload_n dX10_store_144 rfl ?_
        refine go_getI (k := 13) ⟨by decide, rfl, by decide, rfl⟩ K0 fl_X10_256 dX10_store_145 ?_
        exact go_iret rfl rfl dX10_store_148 ⟨_, rfl, H⟩
      replace H := H.2
      by_cases hc11 : x1 = (11 : Int32)
      · replace H := H.1 hc11
        refine go_tabIn (v := (11 : Int32)) (tgt := 149) hc11 (by decide) (by decide) rfl (by decide) dX10_store_54 ?_
        refine go_aload_n dX10_store_149 rfl ?_
        refine go_getI (k := 12) ⟨by decide, rfl, by decide, rfl⟩ K0 fl_X10_259 dX10_store_150 ?_
        exact go_iret rfl rfl dX10_store_153 ⟨_, rfl, H⟩
      replace H := H.2
      by_cases hc12 : x1 = (12 : Int32)
      · replace H := H.1 hc12
        refine go_tabIn (v := (12 : Int32)) (tgt := 154) hc12 (by decide) (by decide) rfl (by decide) dX10_store_54 ?_
        refine go_aload_n dX10_store_154 rfl ?_
        refine go_getR (k := 0) ⟨by decide, rfl, by decide, Or.inl ⟨_, rfl⟩⟩ K0 fl_X10_10 dX10_store_155 ?_
        obtain ⟨k4, H⟩ := H
        refine go_V (av := []) (st := []) (ci := 0) ok_X0_liveLanes ⟨by decide, by decide⟩ ml_X10_262 rfl (by decide) (fun v hv => absurd hv List.not_mem_nil) (Nat.le_of_ble_eq_true rfl) (fun _ h => h) (by decide) rfl k4 dX10_store_158 H (fun r M5 hq hS => ?_)
        obtain ⟨v6, rfl, H⟩ := hq
        have k7 : mm_k M5 a0 = (10, 14) := ks_S K0 (by decide) hS
        have k8 : mm_k M5 (mm_r M a0 0) = (0, 4) := ks_S k4 (by decide) hS
        show go_W mt_X10_store fr_C 161 [some (pv_r a0), some (pv_i x1)] [pv_i v6] M5 (qi_ P)
        exact go_iret rfl rfl dX10_store_161 ⟨_, rfl, H⟩
      replace H := H.2
      replace H := H ⟨hc0, hc8, hc9, hc10, hc11, hc12⟩
      by_cases hc1 : x1 = (1 : Int32)
      · refine go_tabIn (v := (1 : Int32)) (tgt := 162) hc1 (by decide) (by decide) rfl (by decide) dX10_store_54 ?_
        refine go_iconst (v := (-1 : Int32)) rfl dX10_store_162 ?_
        exact go_iret rfl rfl dX10_store_163 ⟨_, rfl, H⟩
      by_cases hc2 : x1 = (2 : Int32)
      · refine go_tabIn (v := (2 : Int32)) (tgt := 162) hc2 (by decide) (by decide) rfl (by decide) dX10_store_54 ?_
        refine go_iconst (v := (-1 : Int32)) rfl dX10_store_162 ?_
        exact go_iret rfl rfl dX10_store_163 ⟨_, rfl, H⟩
      by_cases hc3 : x1 = (3 : Int32)
      · refine go_tabIn (v := (3 : Int32)) (tgt := 162) hc3 (by decide) (by decide) rfl (by decide) dX10_store_54 ?_
        refine go_iconst (v := (-1 : Int32)) rfl dX10_store_162 ?_
        exact go_iret rfl rfl dX10_store_163 ⟨_, rfl, H⟩
      by_cases hc4 : x1 = (4 : Int32)
      · refine go_tabIn (v := (4 : Int32)) (tgt := 162) hc4 (by decide) (by decide) rfl (by decide) dX10_store_54 ?_
        refine go_iconst (v := (-1 : Int32)) rfl dX10_store_162 ?_
        exact go_iret rfl rfl dX10_store_163 ⟨_, rfl, H⟩
      by_cases hc5 : x1 = (5 : Int32)
      · refine go_tabIn (v := (5 : Int32)) (tgt := 162) hc5 (by decide) (by decide) rfl (by decide) dX10_store_54 ?_
        refine go_iconst (v := (-1 : Int32)) rfl dX10_store_162 ?_
        exact go_iret rfl rfl dX10_store_163 ⟨_, rfl, H⟩
      by_cases hc6 : x1 = (6 : Int32)
      · refine go_tabIn (v := (6 : Int32)) (tgt := 162) hc6 (by decide) (by decide) rfl (by decide) dX10_store_54 ?_
        refine go_iconst (v := (-1 : Int32)) rfl dX10_store_162 ?_
        exact go_iret rfl rfl dX10_store_163 ⟨_, rfl, H⟩
      by_cases hc7 : x1 = (7 : Int32)
      · refine go_tabIn (v := (7 : Int32)) (tgt := 162) hc7 (by decide) (by decide) rfl (by decide) dX10_store_54 ?_
        refine go_iconst (v := (-1 : Int32)) rfl dX10_store_162 ?_
        exact go_iret rfl rfl dX10_store_163 ⟨_, rfl, H⟩
      have he0 : (x1).toInt ≠ 0 := fun h => hc0 (Int32.toInt_inj.mp (h.trans (by decide)))
      have he1 : (x1).toInt ≠ 1 := fun h => hc1 (Int32.toInt_inj.mp (h.trans (by decide)))
      have he2 : (x1).toInt ≠ 2 := fun h => hc2 (Int32.toInt_inj.mp (h.trans (by decide)))
      have he3 : (x1).toInt ≠ 3 := fun h => hc3 (Int32.toInt_inj.mp (h.trans (by decide)))
      have he4 : (x1).toInt ≠ 4 := fun h => hc4 (Int32.toInt_inj.mp (h.trans (by decide)))
      have he5 : (x1).toInt ≠ 5 := fun h => hc5 (Int32.toInt_inj.mp (h.trans (by decide)))
      have he6 : (x1).toInt ≠ 6 := fun h => hc6 (Int32.toInt_inj.mp (h.trans (by decide)))
      have he7 : (x1).toInt ≠ 7 := fun h => hc7 (Int32.toInt_inj.mp (h.trans (by decide)))
      have he8 : (x1).toInt ≠ 8 := fun h => hc8 (Int32.toInt_inj.mp (h.trans (by decide)))
      have he9 : (x1).toInt ≠ 9 := fun h => hc9 (Int32.toInt_inj.mp (h.trans (by decide)))
      have he10 : (x1).toInt ≠ 10 := fun h => hc10 (Int32.toInt_inj.mp (h.trans (by decide)))
      have he11 : (x1).toInt ≠ 11 := fun h => hc11 (Int32.toInt_inj.mp (h.trans (by decide)))
      have he12 : (x1).toInt ≠ 12 := fun h => hc12 (Int32.toInt_inj.mp (h.trans (by decide)))
      refine go_tabOut (tgt := 162) (by omega) (by decide) dX10_store_54 ?_
      refine go_iconst (v := (-1 : Int32)) rfl dX10_store_162 ?_
      exact go_iret rfl rfl dX10_store_163 ⟨_, rfl, H⟩
    · replace H := H.2 hc
      refine go_iload_n dX10_store_29 rfl ?_
      refine go_bipush (v := (13 : Int32)) rfl dX10_store_30 ?_
      refine go_gets_TOP_RULES fl_X10_231 dX10_store_32 ?_
      obtain ⟨k9, H⟩ := H
      refine go_xlen k9 dX10_store_35 ?_
      refine go_iadd dX10_store_36 ?_
      refine go_icmp_ge (tgt := 53) dX10_store_37 (by decide) (fun hc => ?_) (fun hc => ?_)
      · replace H := H.1 hc
        refine go_iload_n dX10_store_53 rfl ?_
        by_cases hc0 : x1 = (0 : Int32)
        · replace H := H.1 hc0
          refine go_tabIn (v := (0 : Int32)) (tgt := 120) hc0 (by decide) (by decide) rfl (by decide) dX10_store_54 ?_
          refine go_aload_n dX10_store_120 rfl ?_
          refine go_getI (k := 11) ⟨by decide, rfl, by decide, rfl⟩ K0 fl_X10_108 dX10_store_121 ?_
          exact go_iret rfl rfl dX10_store_124 ⟨_, rfl, H⟩
        replace H := H.2
        by_cases hc8 : x1 = (8 : Int32)
        · replace H := H.1 hc8
          refine go_tabIn (v := (8 : Int32)) (tgt := 125) hc8 (by decide) (by decide) rfl (by decide) dX10_store_54 ?_
          refine go_aload_n dX10_store_125 rfl ?_
          refine go_getR (k := 2) ⟨by decide, rfl, by decide, Or.inl ⟨_, rfl⟩⟩ K0 fl_X10_28 dX10_store_126 ?_
          obtain ⟨k10, H⟩ := H
          refine go_getI (k := 1) ⟨by decide, rfl, by decide, rfl⟩ k10 fl_X10_222 dX10_store_129 ?_
          exact go_iret rfl rfl dX10_store_132 ⟨_, rfl, H⟩
        replace H := H.2
        by_cases hc9 : x1 = (9 : Int32)
        · replace H := H.1 hc9
          refine go_tabIn (v := (9 : Int32)) (tgt := 133) hc9 (by decide) (by decide) rfl (by decide) dX10_store_54 ?_
          refine go_aload_n dX10_store_133 rfl ?_
          refine go_getR (k := 0) ⟨by decide, rfl, by decide, Or.inl ⟨_, rfl⟩⟩ K0 fl_X10_10 dX10_store_134 ?_
          obtain ⟨k11, H⟩ := H
          refine go_getR (k := 1) ⟨by decide, rfl, by decide, Or.inl ⟨_, rfl⟩⟩ k11 fl_X10_254 dX10_store_137 ?_
          obtain ⟨k12, H⟩ := H
          refine go_getI (k := 1) ⟨by decide, rfl, by decide, rfl⟩ k12 fl_X10_222 dX10_store_140 ?_
          exact go_iret rfl rfl dX10_store_143 ⟨_, rfl, H⟩
        replace H := H.2
        by_cases hc10 : x1 = (10 : Int32)
        · replace H := H.1 hc10
          refine go_tabIn (v := (10 : Int32)) (tgt := 144) hc10 (by decide) (by decide) rfl (by decide) dX10_store_54 ?_
          refine go_aload_n dX10_store_144 rfl ?_
          refine go_getI (k := 13) ⟨by decide, rfl, by decide, rfl⟩ K0 fl_X10_256 dX10_store_145 ?_
          exact go_iret rfl rfl dX10_store_148 ⟨_, rfl, H⟩
        replace H := H.2
        by_cases hc11 : x1 = (11 : Int32)
        · replace H := H.1 hc11
          refine go_tabIn (v := (11 : Int32)) (tgt := 149) hc11 (by decide) (by decide) rfl (by decide) dX10_store_54 ?_
          refine go_aload_n dX10_store_149 rfl ?_
          refine go_getI (k := 12) ⟨by decide, rfl, by decide, rfl⟩ K0 fl_X10_259 dX10_store_150 ?_
          exact go_iret rfl rfl dX10_store_153 ⟨_, rfl, H⟩
        replace H := H.2
        by_cases hc12 : x1 = (12 : Int32)
        · replace H := H.1 hc12
          refine go_tabIn (v := (12 : Int32)) (tgt := 154) hc12 (by decide) (by decide) rfl (by decide) dX10_store_54 ?_
          refine go_aload_n dX10_store_154 rfl ?_
          refine go_getR (k := 0) ⟨by decide, rfl, by decide, Or.inl ⟨_, rfl⟩⟩ K0 fl_X10_10 dX10_store_155 ?_
          obtain ⟨k13, H⟩ := H
          refine go_V (av := []) (st := []) (ci := 0) ok_X0_liveLanes ⟨by decide, by decide⟩ ml_X10_262 rfl (by decide) (fun v hv => absurd hv List.not_mem_nil) (Nat.le_of_ble_eq_true rfl) (fun _ h => h) (by decide) rfl k13 dX10_store_158 H (fun r M14 hq hS => ?_)
          obtain ⟨v15, rfl, H⟩ := hq
          have k16 : mm_k M14 a0 = (10, 14) := ks_S K0 (by decide) hS
          have k17 : mm_k M14 (mm_r M a0 0) = (0, 4) := ks_S k13 (by decide) hS
          show go_W mt_X10_store fr_C 161 [some (pv_r a0), some (pv_i x1)] [pv_i v15] M14 (qi_ P)
          exact go_iret rfl rfl dX10_store_161 ⟨_, rfl, H⟩
        replace H := H.2
        replace H := H ⟨hc0, hc8, hc9, hc10, hc11, hc12⟩
        by_cases hc1 : x1 = (1 : Int32)
        · refine go_tabIn (v := (1 : Int32)) (tgt := 162) hc1 (by decide) (by decide) rfl (by decide) dX10_store_54 ?_
          refine go_iconst (v := (-1 : Int32)) rfl dX10_store_162 ?_
          exact go_iret rfl rfl dX10_store_163 ⟨_, rfl, H⟩
        by_cases hc2 : x1 = (2 : Int32)
        · refine go_tabIn (v := (2 : Int32)) (tgt := 162) hc2 (by decide) (by decide) rfl (by decide) dX10_store_54 ?_
          refine go_iconst (v := (-1 : Int32)) rfl dX10_store_162 ?_
          exact go_iret rfl rfl dX10_store_163 ⟨_, rfl, H⟩
        by_cases hc3 : x1 = (3 : Int32)
        · refine go_tabIn (v := (3 : Int32)) (tgt := 162) hc3 (by decide) (by decide) rfl (by decide) dX10_store_54 ?_
          refine go_iconst (v := (-1 : Int32)) rfl dX10_store_162 ?_
          exact go_iret rfl rfl dX10_store_163 ⟨_, rfl, H⟩
        by_cases hc4 : x1 = (4 : Int32)
        · refine go_tabIn (v := (4 : Int32)) (tgt := 162) hc4 (by decide) (by decide) rfl (by decide) dX10_store_54 ?_
          refine go_iconst (v := (-1 : Int32)) rfl dX10_store_162 ?_
          exact go_iret rfl rfl dX10_store_163 ⟨_, rfl, H⟩
        by_cases hc5 : x1 = (5 : Int32)
        · refine go_tabIn (v := (5 : Int32)) (tgt := 162) hc5 (by decide) (by decide) rfl (by decide) dX10_store_54 ?_
          refine go_iconst (v := (-1 : Int32)) rfl dX10_store_162 ?_
          exact go_iret rfl rfl dX10_store_163 ⟨_, rfl, H⟩
        by_cases hc6 : x1 = (6 : Int32)
        · refine go_tabIn (v := (6 : Int32)) (tgt := 162) hc6 (by decide) (by decide) rfl (by decide) dX10_store_54 ?_
          refine go_iconst (v := (-1 : Int32)) rfl dX10_store_162 ?_
          exact go_iret rfl rfl dX10_store_163 ⟨_, rfl, H⟩
        by_cases hc7 : x1 = (7 : Int32)
        · refine go_tabIn (v := (7 : Int32)) (tgt := 162) hc7 (by decide) (by decide) rfl (by decide) dX10_store_54 ?_
          refine go_iconst (v := (-1 : Int32)) rfl dX10_store_162 ?_
          exact go_iret rfl rfl dX10_store_163 ⟨_, rfl, H⟩
        have he0 : (x1).toInt ≠ 0 := fun h => hc0 (Int32.toInt_inj.mp (h.trans (by decide)))
        have he1 : (x1).toInt ≠ 1 := fun h => hc1 (Int32.toInt_inj.mp (h.trans (by decide)))
        have he2 : (x1).toInt ≠ 2 := fun h => hc2 (Int32.toInt_inj.mp (h.trans (by decide)))
        have he3 : (x1).toInt ≠ 3 := fun h => hc3 (Int32.toInt_inj.mp (h.trans (by decide)))
        have he4 : (x1).toInt ≠ 4 := fun h => hc4 (Int32.toInt_inj.mp (h.trans (by decide)))
        have he5 : (x1).toInt ≠ 5 := fun h => hc5 (Int32.toInt_inj.mp (h.trans (by decide)))
        have he6 : (x1).toInt ≠ 6 := fun h => hc6 (Int32.toInt_inj.mp (h.trans (by decide)))
        have he7 : (x1).toInt ≠ 7 := fun h => hc7 (Int32.toInt_inj.mp (h.trans (by decide)))
        have he8 : (x1).toInt ≠ 8 := fun h => hc8 (Int32.toInt_inj.mp (h.trans (by decide)))
        have he9 : (x1).toInt ≠ 9 := fun h => hc9 (Int32.toInt_inj.mp (h.trans (by decide)))
        have he10 : (x1).toInt ≠ 10 := fun h => hc10 (Int32.toInt_inj.mp (h.trans (by decide)))
        have he11 : (x1).toInt ≠ 11 := fun h => hc11 (Int32.toInt_inj.mp (h.trans (by decide)))
        have he12 : (x1).toInt ≠ 12 := fun h => hc12 (Int32.toInt_inj.mp (h.trans (by decide)))
        refine go_tabOut (tgt := 162) (by omega) (by decide) dX10_store_54 ?_
        refine go_iconst (v := (-1 : Int32)) rfl dX10_store_162 ?_
        exact go_iret rfl rfl dX10_store_163 ⟨_, rfl, H⟩
      · replace H := H.2 hc
        refine go_aload_n dX10_store_40 rfl ?_
        refine go_getR (k := 0) ⟨by decide, rfl, by decide, Or.inl ⟨_, rfl⟩⟩ K0 fl_X10_10 dX10_store_41 ?_
        obtain ⟨k18, H⟩ := H
        refine go_getR (k := 3) ⟨by decide, rfl, by decide, Or.inr ⟨_, rfl⟩⟩ k18 fl_X10_111 dX10_store_44 ?_
        refine go_iload_n dX10_store_47 rfl ?_
        refine go_bipush (v := (13 : Int32)) rfl dX10_store_48 ?_
        refine go_isub dX10_store_50 ?_
        obtain ⟨l19, k20, H⟩ := H
        obtain ⟨n22, ⟨hn22, hn22b⟩, H⟩ := H
        refine go_ialdA (j := n22) k20 hn22 hn22b dX10_store_51 ?_
        exact go_iret rfl rfl dX10_store_52 ⟨_, rfl, H⟩
  · replace H := H.2 hc
    refine go_iload_n dX10_store_5 rfl ?_
    refine go_bipush (v := (7 : Int32)) rfl dX10_store_6 ?_
    refine go_icmp_gt (tgt := 23) dX10_store_8 (by decide) (fun hc => ?_) (fun hc => ?_)
    · replace H := H.1 hc
      refine go_iload_n dX10_store_23 rfl ?_
      refine go_bipush (v := (13 : Int32)) rfl dX10_store_24 ?_
      refine go_icmp_lt (tgt := 53) dX10_store_26 (by decide) (fun hc => ?_) (fun hc => ?_)
      · replace H := H.1 hc
        refine go_iload_n dX10_store_53 rfl ?_
        by_cases hc0 : x1 = (0 : Int32)
        · replace H := H.1 hc0
          refine go_tabIn (v := (0 : Int32)) (tgt := 120) hc0 (by decide) (by decide) rfl (by decide) dX10_store_54 ?_
          refine go_aload_n dX10_store_120 rfl ?_
          refine go_getI (k := 11) ⟨by decide, rfl, by decide, rfl⟩ K0 fl_X10_108 dX10_store_121 ?_
          exact go_iret rfl rfl dX10_store_124 ⟨_, rfl, H⟩
        replace H := H.2
        by_cases hc8 : x1 = (8 : Int32)
        · replace H := H.1 hc8
          refine go_tabIn (v := (8 : Int32)) (tgt := 125) hc8 (by decide) (by decide) rfl (by decide) dX10_store_54 ?_
          refine go_aload_n dX10_store_125 rfl ?_
          refine go_getR (k := 2) ⟨by decide, rfl, by decide, Or.inl ⟨_, rfl⟩⟩ K0 fl_X10_28 dX10_store_126 ?_
          obtain ⟨k23, H⟩ := H
          refine go_getI (k := 1) ⟨by decide, rfl, by decide, rfl⟩ k23 fl_X10_222 dX10_store_129 ?_
          exact go_iret rfl rfl dX10_store_132 ⟨_, rfl, H⟩
        replace H := H.2
        by_cases hc9 : x1 = (9 : Int32)
        · replace H := H.1 hc9
          refine go_tabIn (v := (9 : Int32)) (tgt := 133) hc9 (by decide) (by decide) rfl (by decide) dX10_store_54 ?_
          refine go_aload_n dX10_store_133 rfl ?_
          refine go_getR (k := 0) ⟨by decide, rfl, by decide, Or.inl ⟨_, rfl⟩⟩ K0 fl_X10_10 dX10_store_134 ?_
          obtain ⟨k24, H⟩ := H
          refine go_getR (k := 1) ⟨by decide, rfl, by decide, Or.inl ⟨_, rfl⟩⟩ k24 fl_X10_254 dX10_store_137 ?_
          obtain ⟨k25, H⟩ := H
          refine go_getI (k := 1) ⟨by decide, rfl, by decide, rfl⟩ k25 fl_X10_222 dX10_store_140 ?_
          exact go_iret rfl rfl dX10_store_143 ⟨_, rfl, H⟩
        replace H := H.2
        by_cases hc10 : x1 = (10 : Int32)
        · replace H := H.1 hc10
          refine go_tabIn (v := (10 : Int32)) (tgt := 144) hc10 (by decide) (by decide) rfl (by decide) dX10_store_54 ?_
          refine go_aload_n dX10_store_144 rfl ?_
          refine go_getI (k := 13) ⟨by decide, rfl, by decide, rfl⟩ K0 fl_X10_256 dX10_store_145 ?_
          exact go_iret rfl rfl dX10_store_148 ⟨_, rfl, H⟩
        replace H := H.2
        by_cases hc11 : x1 = (11 : Int32)
        · replace H := H.1 hc11
          refine go_tabIn (v := (11 : Int32)) (tgt := 149) hc11 (by decide) (by decide) rfl (by decide) dX10_store_54 ?_
          refine go_aload_n dX10_store_149 rfl ?_
          refine go_getI (k := 12) ⟨by decide, rfl, by decide, rfl⟩ K0 fl_X10_259 dX10_store_150 ?_
          exact go_iret rfl rfl dX10_store_153 ⟨_, rfl, H⟩
        replace H := H.2
        by_cases hc12 : x1 = (12 : Int32)
        · replace H := H.1 hc12
          refine go_tabIn (v := (12 : Int32)) (tgt := 154) hc12 (by decide) (by decide) rfl (by decide) dX10_store_54 ?_
          refine go_aload_n dX10_store_154 rfl ?_
          refine go_getR (k := 0) ⟨by decide, rfl, by decide, Or.inl ⟨_, rfl⟩⟩ K0 fl_X10_10 dX10_store_155 ?_
          obtain ⟨k26, H⟩ := H
          refine go_V (av := []) (st := []) (ci := 0) ok_X0_liveLanes ⟨by decide, by decide⟩ ml_X10_262 rfl (by decide) (fun v hv => absurd hv List.not_mem_nil) (Nat.le_of_ble_eq_true rfl) (fun _ h => h) (by decide) rfl k26 dX10_store_158 H (fun r M27 hq hS => ?_)
          obtain ⟨v28, rfl, H⟩ := hq
          have k29 : mm_k M27 a0 = (10, 14) := ks_S K0 (by decide) hS
          have k30 : mm_k M27 (mm_r M a0 0) = (0, 4) := ks_S k26 (by decide) hS
          show go_W mt_X10_store fr_C 161 [some (pv_r a0), some (pv_i x1)] [pv_i v28] M27 (qi_ P)
          exact go_iret rfl rfl dX10_store_161 ⟨_, rfl, H⟩
        replace H := H.2
        replace H := H ⟨hc0, hc8, hc9, hc10, hc11, hc12⟩
        by_cases hc1 : x1 = (1 : Int32)
        · refine go_tabIn (v := (1 : Int32)) (tgt := 162) hc1 (by decide) (by decide) rfl (by decide) dX10_store_54 ?_
          refine go_iconst (v := (-1 : Int32)) rfl dX10_store_162 ?_
          exact go_iret rfl rfl dX10_store_163 ⟨_, rfl, H⟩
        by_cases hc2 : x1 = (2 : Int32)
        · refine go_tabIn (v := (2 : Int32)) (tgt := 162) hc2 (by decide) (by decide) rfl (by decide) dX10_store_54 ?_
          refine go_iconst (v := (-1 : Int32)) rfl dX10_store_162 ?_
          exact go_iret rfl rfl dX10_store_163 ⟨_, rfl, H⟩
        by_cases hc3 : x1 = (3 : Int32)
        · refine go_tabIn (v := (3 : Int32)) (tgt := 162) hc3 (by decide) (by decide) rfl (by decide) dX10_store_54 ?_
          refine go_iconst (v := (-1 : Int32)) rfl dX10_store_162 ?_
          exact go_iret rfl rfl dX10_store_163 ⟨_, rfl, H⟩
        by_cases hc4 : x1 = (4 : Int32)
        · refine go_tabIn (v := (4 : Int32)) (tgt := 162) hc4 (by decide) (by decide) rfl (by decide) dX10_store_54 ?_
          refine go_iconst (v := (-1 : Int32)) rfl dX10_store_162 ?_
          exact go_iret rfl rfl dX10_store_163 ⟨_, rfl, H⟩
        by_cases hc5 : x1 = (5 : Int32)
        · refine go_tabIn (v := (5 : Int32)) (tgt := 162) hc5 (by decide) (by decide) rfl (by decide) dX10_store_54 ?_
          refine go_iconst (v := (-1 : Int32)) rfl dX10_store_162 ?_
          exact go_iret rfl rfl dX10_store_163 ⟨_, rfl, H⟩
        by_cases hc6 : x1 = (6 : Int32)
        · refine go_tabIn (v := (6 : Int32)) (tgt := 162) hc6 (by decide) (by decide) rfl (by decide) dX10_store_54 ?_
          refine go_iconst (v := (-1 : Int32)) rfl dX10_store_162 ?_
          exact go_iret rfl rfl dX10_store_163 ⟨_, rfl, H⟩
        by_cases hc7 : x1 = (7 : Int32)
        · refine go_tabIn (v := (7 : Int32)) (tgt := 162) hc7 (by decide) (by decide) rfl (by decide) dX10_store_54 ?_
          refine go_iconst (v := (-1 : Int32)) rfl dX10_store_162 ?_
          exact go_iret rfl rfl dX10_store_163 ⟨_, rfl, H⟩
        have he0 : (x1).toInt ≠ 0 := fun h => hc0 (Int32.toInt_inj.mp (h.trans (by decide)))
        have he1 : (x1).toInt ≠ 1 := fun h => hc1 (Int32.toInt_inj.mp (h.trans (by decide)))
        have he2 : (x1).toInt ≠ 2 := fun h => hc2 (Int32.toInt_inj.mp (h.trans (by decide)))
        have he3 : (x1).toInt ≠ 3 := fun h => hc3 (Int32.toInt_inj.mp (h.trans (by decide)))
        have he4 : (x1).toInt ≠ 4 := fun h => hc4 (Int32.toInt_inj.mp (h.trans (by decide)))
        have he5 : (x1).toInt ≠ 5 := fun h => hc5 (Int32.toInt_inj.mp (h.trans (by decide)))
        have he6 : (x1).toInt ≠ 6 := fun h => hc6 (Int32.toInt_inj.mp (h.trans (by decide)))
        have he7 : (x1).toInt ≠ 7 := fun h => hc7 (Int32.toInt_inj.mp (h.trans (by decide)))
        have he8 : (x1).toInt ≠ 8 := fun h => hc8 (Int32.toInt_inj.mp (h.trans (by decide)))
        have he9 : (x1).toInt ≠ 9 := fun h => hc9 (Int32.toInt_inj.mp (h.trans (by decide)))
        have he10 : (x1).toInt ≠ 10 := fun h => hc10 (Int32.toInt_inj.mp (h.trans (by decide)))
        have he11 : (x1).toInt ≠ 11 := fun h => hc11 (Int32.toInt_inj.mp (h.trans (by decide)))
        have he12 : (x1).toInt ≠ 12 := fun h => hc12 (Int32.toInt_inj.mp (h.trans (by decide)))
        refine go_tabOut (tgt := 162) (by omega) (by decide) dX10_store_54 ?_
        refine go_iconst (v := (-1 : Int32)) rfl dX10_store_162 ?_
        exact go_iret rfl rfl dX10_store_163 ⟨_, rfl, H⟩
      · replace H := H.2 hc
        refine go_iload_n dX10_store_29 rfl ?_
        refine go_bipush (v := (13 : Int32)) rfl dX10_store_30 ?_
        refine go_gets_TOP_RULES fl_X10_231 dX10_store_32 ?_
        obtain ⟨k31, H⟩ := H
        refine go_xlen k31 dX10_store_35 ?_
        refine go_iadd dX10_store_36 ?_
        refine go_icmp_ge (tgt := 53) dX10_store_37 (by decide) (fun hc => ?_) (fun hc => ?_)
        · replace H := H.1 hc
          refine go_iload_n dX10_store_53 rfl ?_
          by_cases hc0 : x1 = (0 : Int32)
          · replace H := H.1 hc0
            refine go_tabIn (v := (0 : Int32)) (tgt := 120) hc0 (by decide) (by decide) rfl (by decide) dX10_store_54 ?_
            refine go_aload_n dX10_store_120 rfl ?_
            refine go_getI (k := 11) ⟨by decide, rfl, by decide, rfl⟩ K0 fl_X10_108 dX10_store_121 ?_
            exact go_iret rfl rfl dX10_store_124 ⟨_, rfl, H⟩
          replace H := H.2
          by_cases hc8 : x1 = (8 : Int32)
          · replace H := H.1 hc8
            refine go_tabIn (v := (8 : Int32)) (tgt := 125) hc8 (by decide) (by decide) rfl (by decide) dX10_store_54 ?_
            refine go_aload_n dX10_store_125 rfl ?_
            refine go_getR (k := 2) ⟨by decide, rfl, by decide, Or.inl ⟨_, rfl⟩⟩ K0 fl_X10_28 dX10_store_126 ?_
            obtain ⟨k32, H⟩ := H
            refine go_getI (k := 1) ⟨by decide, rfl, by decide, rfl⟩ k32 fl_X10_222 dX10_store_129 ?_
            exact go_iret rfl rfl dX10_store_132 ⟨_, rfl, H⟩
          replace H := H.2
          by_cases hc9 : x1 = (9 : Int32)
          · replace H := H.1 hc9
            refine go_tabIn (v := (9 : Int32)) (tgt := 133) hc9 (by decide) (by decide) rfl (by decide) dX10_store_54 ?_
            refine go_aload_n dX10_store_133 rfl ?_
            refine go_getR (k := 0) ⟨by decide, rfl, by decide, Or.inl ⟨_, rfl⟩⟩ K0 fl_X10_10 dX10_store_134 ?_
            obtain ⟨k33, H⟩ := H
            refine go_getR (k := 1) ⟨by decide, rfl, by decide, Or.inl ⟨_, rfl⟩⟩ k33 fl_X10_254 dX10_store_137 ?_
            obtain ⟨k34, H⟩ := H
            refine go_getI (k := 1) ⟨by decide, rfl, by decide, rfl⟩ k34 fl_X10_222 dX10_store_140 ?_
            exact go_iret rfl rfl dX10_store_143 ⟨_, rfl, H⟩
          replace H := H.2
          by_cases hc10 : x1 = (10 : Int32)
          · replace H := H.1 hc10
            refine go_tabIn (v := (10 : Int32)) (tgt := 144) hc10 (by decide) (by decide) rfl (by decide) dX10_store_54 ?_
            refine go_aload_n dX10_store_144 rfl ?_
            refine go_getI (k := 13) ⟨by decide, rfl, by decide, rfl⟩ K0 fl_X10_256 dX10_store_145 ?_
            exact go_iret rfl rfl dX10_store_148 ⟨_, rfl, H⟩
          replace H := H.2
          by_cases hc11 : x1 = (11 : Int32)
          · replace H := H.1 hc11
            refine go_tabIn (v := (11 : Int32)) (tgt := 149) hc11 (by decide) (by decide) rfl (by decide) dX10_store_54 ?_
            refine go_aload_n dX10_store_149 rfl ?_
            refine go_getI (k := 12) ⟨by decide, rfl, by decide, rfl⟩ K0 fl_X10_259 dX10_store_150 ?_
            exact go_iret rfl rfl dX10_store_153 ⟨_, rfl, H⟩
          replace H := H.2
          by_cases hc12 : x1 = (12 : Int32)
          · replace H := H.1 hc12
            refine go_tabIn (v := (12 : Int32)) (tgt := 154) hc12 (by decide) (by decide) rfl (by decide) dX10_store_54 ?_
            refine go_aload_n dX10_store_154 rfl ?_
            refine go_getR (k := 0) ⟨by decide, rfl, by decide, Or.inl ⟨_, rfl⟩⟩ K0 fl_X10_10 dX10_store_155 ?_
            obtain ⟨k35, H⟩ := H
            refine go_V (av := []) (st := []) (ci := 0) ok_X0_liveLanes ⟨by decide, by decide⟩ ml_X10_262 rfl (by decide) (fun v hv => absurd hv List.not_mem_nil) (Nat.le_of_ble_eq_true rfl) (fun _ h => h) (by decide) rfl k35 dX10_store_158 H (fun r M36 hq hS => ?_)
            obtain ⟨v37, rfl, H⟩ := hq
            have k38 : mm_k M36 a0 = (10, 14) := ks_S K0 (by decide) hS
            have k39 : mm_k M36 (mm_r M a0 0) = (0, 4) := ks_S k35 (by decide) hS
            show go_W mt_X10_store fr_C 161 [some (pv_r a0), some (pv_i x1)] [pv_i v37] M36 (qi_ P)
            exact go_iret rfl rfl dX10_store_161 ⟨_, rfl, H⟩
          replace H := H.2
          replace H := H ⟨hc0, hc8, hc9, hc10, hc11, hc12⟩
          by_cases hc1 : x1 = (1 : Int32)
          · refine go_tabIn (v := (1 : Int32)) (tgt := 162) hc1 (by decide) (by decide) rfl (by decide) dX10_store_54 ?_
            refine go_iconst (v := (-1 : Int32)) rfl dX10_store_162 ?_
            exact go_iret rfl rfl dX10_store_163 ⟨_, rfl, H⟩
          by_cases hc2 : x1 = (2 : Int32)
          · refine go_tabIn (v := (2 : Int32)) (tgt := 162) hc2 (by decide) (by decide) rfl (by decide) dX10_store_54 ?_
            refine go_iconst (v := (-1 : Int32)) rfl dX10_store_162 ?_
            exact go_iret rfl rfl dX10_store_163 ⟨_, rfl, H⟩
          by_cases hc3 : x1 = (3 : Int32)
          · refine go_tabIn (v := (3 : Int32)) (tgt := 162) hc3 (by decide) (by decide) rfl (by decide) dX10_store_54 ?_
            refine go_iconst (v := (-1 : Int32)) rfl dX10_store_162 ?_
            exact go_iret rfl rfl dX10_store_163 ⟨_, rfl, H⟩
          by_cases hc4 : x1 = (4 : Int32)
          · refine go_tabIn (v := (4 : Int32)) (tgt := 162) hc4 (by decide) (by decide) rfl (by decide) dX10_store_54 ?_
            refine go_iconst (v := (-1 : Int32)) rfl dX10_store_162 ?_
            exact go_iret rfl rfl dX10_store_163 ⟨_, rfl, H⟩
          by_cases hc5 : x1 = (5 : Int32)
          · refine go_tabIn (v := (5 : Int32)) (tgt := 162) hc5 (by decide) (by decide) rfl (by decide) dX10_store_54 ?_
            refine go_iconst (v := (-1 : Int32)) rfl dX10_store_162 ?_
            exact go_iret rfl rfl dX10_store_163 ⟨_, rfl, H⟩
          by_cases hc6 : x1 = (6 : Int32)
          · refine go_tabIn (v := (6 : Int32)) (tgt := 162) hc6 (by decide) (by decide) rfl (by decide) dX10_store_54 ?_
            refine go_iconst (v := (-1 : Int32)) rfl dX10_store_162 ?_
            exact go_iret rfl rfl dX10_store_163 ⟨_, rfl, H⟩
          by_cases hc7 : x1 = (7 : Int32)
          · refine go_tabIn (v := (7 : Int32)) (tgt := 162) hc7 (by decide) (by decide) rfl (by decide) dX10_store_54 ?_
            refine go_iconst (v := (-1 : Int32)) rfl dX10_store_162 ?_
            exact go_iret rfl rfl dX10_store_163 ⟨_, rfl, H⟩
          have he0 : (x1).toInt ≠ 0 := fun h => hc0 (Int32.toInt_inj.mp (h.trans (by decide)))
          have he1 : (x1).toInt ≠ 1 := fun h => hc1 (Int32.toInt_inj.mp (h.trans (by decide)))
          have he2 : (x1).toInt ≠ 2 := fun h => hc2 (Int32.toInt_inj.mp (h.trans (by decide)))
          have he3 : (x1).toInt ≠ 3 := fun h => hc3 (Int32.toInt_inj.mp (h.trans (by decide)))
          have he4 : (x1).toInt ≠ 4 := fun h => hc4 (Int32.toInt_inj.mp (h.trans (by decide)))
          have he5 : (x1).toInt ≠ 5 := fun h => hc5 (Int32.toInt_inj.mp (h.trans (by decide)))
          have he6 : (x1).toInt ≠ 6 := fun h => hc6 (Int32.toInt_inj.mp (h.trans (by decide)))
          have he7 : (x1).toInt ≠ 7 := fun h => hc7 (Int32.toInt_inj.mp (h.trans (by decide)))
          have he8 : (x1).toInt ≠ 8 := fun h => hc8 (Int32.toInt_inj.mp (h.trans (by decide)))
          have he9 : (x1).toInt ≠ 9 := fun h => hc9 (Int32.toInt_inj.mp (h.trans (by decide)))
          have he10 : (x1).toInt ≠ 10 := fun h => hc10 (Int32.toInt_inj.mp (h.trans (by decide)))
          have he11 : (x1).toInt ≠ 11 := fun h => hc11 (Int32.toInt_inj.mp (h.trans (by decide)))
          have he12 : (x1).toInt ≠ 12 := fun h => hc12 (Int32.toInt_inj.mp (h.trans (by decide)))
          refine go_tabOut (tgt := 162) (by omega) (by decide) dX10_store_54 ?_
          refine go_iconst (v := (-1 : Int32)) rfl dX10_store_162 ?_
          exact go_iret rfl rfl dX10_store_163 ⟨_, rfl, H⟩
        · replace H := H.2 hc
          refine go_aload_n dX10_store_40 rfl ?_
          refine go_getR (k := 0) ⟨by decide, rfl, by decide, Or.inl ⟨_, rfl⟩⟩ K0 fl_X10_10 dX10_store_41 ?_
          obtain ⟨k40, H⟩ := H
          refine go_getR (k := 3) ⟨by decide, rfl, by decide, Or.inr ⟨_, rfl⟩⟩ k40 fl_X10_111 dX10_store_44 ?_
          refine go_iload_n dX10_store_47 rfl ?_
          refine go_bipush (v := (13 : Int32)) rfl dX10_store_48 ?_
          refine go_isub dX10_store_50 ?_
          obtain ⟨l41, k42, H⟩ := H
          obtain ⟨n44, ⟨hn44, hn44b⟩, H⟩ := H
          refine go_ialdA (j := n44) k42 hn44 hn44b dX10_store_51 ?_
          exact go_iret rfl rfl dX10_store_52 ⟨_, rfl, H⟩
    · replace H := H.2 hc
      refine go_aload_n dX10_store_11 rfl ?_
      refine go_getR (k := 0) ⟨by decide, rfl, by decide, Or.inl ⟨_, rfl⟩⟩ K0 fl_X10_10 dX10_store_12 ?_
      obtain ⟨k45, H⟩ := H
      refine go_getR (k := 2) ⟨by decide, rfl, by decide, Or.inr ⟨_, rfl⟩⟩ k45 fl_X10_251 dX10_store_15 ?_
      refine go_iload_n dX10_store_18 rfl ?_
      refine go_iconst (v := (1 : Int32)) rfl dX10_store_19 ?_
      refine go_isub dX10_store_20 ?_
      obtain ⟨l46, k47, H⟩ := H
      obtain ⟨n49, ⟨hn49, hn49b⟩, H⟩ := H
      refine go_ialdA (j := n49) k47 hn49 hn49b dX10_store_21 ?_
      exact go_iret rfl rfl dX10_store_22 ⟨_, rfl, H⟩
set_option maxRecDepth 20000 in
theorem wc_X10_lane_0 {M : mm_T} {a0 : Nat} {x1 x2 : Int32} {P : Int32 → mm_T → Prop} (K0 : mm_k M a0 = (10, 14)) (H : mm_k M (mm_r M a0 0) = (0, 4) ∧ (cs_r mt_X0_laneAt [pv_r (mm_r M a0 0), pv_i x1] M (fun v3 M2 => (((¬ v3 = 0) → mm_k M2 v3 = (3, 14) ∧ (cs_i mt_X3_tell [pv_r v3, pv_i x2] M2 (fun v8 M7 => P v8 M7))) ∧ ((v3 = 0) → P (-1 : Int32) M2))))) : cw_i mt_X10_lane 0 [some (pv_r a0), some (pv_i x1), some (pv_i x2), none] [] M P := by
  refine go_aload_n dX10_lane_0 rfl ?_
  refine go_getR (k := 0) ⟨by decide, rfl, by decide, Or.inl ⟨_, rfl⟩⟩ K0 fl_X10_10 dX10_lane_1 ?_
  refine go_iload_n dX10_lane_4 rfl ?_
  obtain ⟨k1, H⟩ := H
  refine go_V (av := [pv_i x1]) (st := []) (ci := 0) ok_X0_laneAt ⟨by decide, by decide⟩ ml_X10_133 rfl (by decide) (fun v hv => by simp only [List.mem_cons, List.not_mem_nil, or_false] at hv; rcases hv with rfl <;> first | exact pv_1i | exact pv_1r) (Nat.le_of_ble_eq_true rfl) (fun _ h => h) (by decide) rfl k1 dX10_lane_5 H (fun r M2 hq hS => ?_)
  obtain ⟨v3, rfl, H⟩ := hq
  have k4 : mm_k M2 a0 = (10, 14) := ks_S K0 (by decide) hS
  have k5 : mm_k M2 (mm_r M a0 0) = (0, 4) := ks_S k1 (by decide) hS
  show go_W mt_X10_lane fr_C 8 [some (pv_r a0), some (pv_i x1), some (pv_i x2), none] [pv_r v3] M2 (qi_ P)
  refine go_astore_n (by decide) dX10_lane_8 ?_
  show go_W mt_X10_lane fr_C 9 [some (pv_r a0), some (pv_i x1), some (pv_i x2), some (pv_r v3)] [] M2 (qi_ P)
  refine go_aload_n dX10_lane_9 rfl ?_
  refine go_ifnonnull (tgt := 17) dX10_lane_10 (by decide) (fun hc => ?_) (fun hc => ?_)
  · replace H := H.1 hc
    refine go_aload_n dX10_lane_17 rfl ?_
    refine go_iload_n dX10_lane_18 rfl ?_
    obtain ⟨k6, H⟩ := H
    refine go_V (av := [pv_i x2]) (st := []) (ci := 3) ok_X3_tell ⟨by decide, by decide⟩ ml_X10_266 rfl (by decide) (fun v hv => by simp only [List.mem_cons, List.not_mem_nil, or_false] at hv; rcases hv with rfl <;> first | exact pv_1i | exact pv_1r) (Nat.le_of_ble_eq_true rfl) (fun _ h => h) (by decide) rfl k6 dX10_lane_19 H (fun r M7 hq hS => ?_)
    obtain ⟨v8, rfl, H⟩ := hq
    have k9 : mm_k M7 a0 = (10, 14) := ks_S k4 (by decide) hS
    have k10 : mm_k M7 (mm_r M a0 0) = (0, 4) := ks_S k5 (by decide) hS
    have k11 : mm_k M7 v3 = (3, 14) := ks_S k6 (by decide) hS
    show go_W mt_X10_lane fr_C 22 [some (pv_r a0), some (pv_i x1), some (pv_i x2), some (pv_r v3)] [pv_i v8] M7 (qi_ P)
    exact go_iret rfl rfl dX10_lane_22 ⟨_, rfl, H⟩
  · replace H := H.2 hc
    refine go_iconst (v := (-1 : Int32)) rfl dX10_lane_13 ?_
    refine go_goto (tgt := 22) dX10_lane_14 (by decide) ?_
    exact go_iret rfl rfl dX10_lane_22 ⟨_, rfl, H⟩
set_option maxRecDepth 20000 in
theorem wc_X10_task_0 {M : mm_T} {a0 : Nat} {x1 x2 : Int32} {P : Int32 → mm_T → Prop} (K0 : mm_k M a0 = (10, 14)) (H : cs_r mt_X10_taskAt [pv_r a0, pv_i x1] M (fun v2 M1 => (((¬ v2 = 0) → mm_k M1 v2 = (6, 17) ∧ (cs_i mt_X6_tell [pv_r v2, pv_i x2] M1 (fun v6 M5 => P v6 M5))) ∧ ((v2 = 0) → P (-1 : Int32) M1)))) : cw_i mt_X10_task 0 [some (pv_r a0), some (pv_i x1), some (pv_i x2), none] [] M P := by
  refine go_aload_n dX10_task_0 rfl ?_
  refine go_iload_n dX10_task_1 rfl ?_
  refine go_V (av := [pv_i x1]) (st := []) (ci := 10) ok_X10_taskAt ⟨by decide, by decide⟩ ml_X10_171 rfl (by decide) (fun v hv => by simp only [List.mem_cons, List.not_mem_nil, or_false] at hv; rcases hv with rfl <;> first | exact pv_1i | exact pv_1r) (Nat.le_of_ble_eq_true rfl) (fun _ h => h) (by decide) rfl K0 dX10_task_2 H (fun r M1 hq hS => ?_)
  obtain ⟨v2, rfl, H⟩ := hq
  have k3 : mm_k M1 a0 = (10, 14) := ks_S K0 (by decide) hS
  show go_W mt_X10_task fr_C 5 [some (pv_r a0), some (pv_i x1), some (pv_i x2), none] [pv_r v2] M1 (qi_ P)
  refine go_astore_n (by decide) dX10_task_5 ?_
  show go_W mt_X10_task fr_C 6 [some (pv_r a0), some (pv_i x1), some (pv_i x2), some (pv_r v2)] [] M1 (qi_ P)
  refine go_aload_n dX10_task_6 rfl ?_
  refine go_ifnonnull (tgt := 14) dX10_task_7 (by decide) (fun hc => ?_) (fun hc => ?_)
  · replace H := H.1 hc
    refine go_aload_n dX10_task_14 rfl ?_
    refine go_iload_n dX10_task_15 rfl ?_
    obtain ⟨k4, H⟩ := H
    refine go_V (av := [pv_i x2]) (st := []) (ci := 6) ok_X6_tell ⟨by decide, by decide⟩ ml_X10_269 rfl (by decide) (fun v hv => by simp only [List.mem_cons, List.not_mem_nil, or_false] at hv; rcases hv with rfl <;> first | exact pv_1i | exact pv_1r) (Nat.le_of_ble_eq_true rfl) (fun _ h => h) (by decide) rfl k4 dX10_task_16 H (fun r M5 hq hS => ?_)
    obtain ⟨v6, rfl, H⟩ := hq
    have k7 : mm_k M5 a0 = (10, 14) := ks_S k3 (by decide) hS
    have k8 : mm_k M5 v2 = (6, 17) := ks_S k4 (by decide) hS
    show go_W mt_X10_task fr_C 19 [some (pv_r a0), some (pv_i x1), some (pv_i x2), some (pv_r v2)] [pv_i v6] M5 (qi_ P)
    exact go_iret rfl rfl dX10_task_19 ⟨_, rfl, H⟩
  · replace H := H.2 hc
    refine go_iconst (v := (-1 : Int32)) rfl dX10_task_10 ?_
    refine go_goto (tgt := 19) dX10_task_11 (by decide) ?_
    exact go_iret rfl rfl dX10_task_19 ⟨_, rfl, H⟩
set_option maxRecDepth 20000 in
theorem wc_X10_rank_0 {M : mm_T} {a0 : Nat} {x1 : Int32} {P : Int32 → mm_T → Prop} (K0 : mm_k M a0 = (10, 14)) (H : cs_r mt_X10_taskAt [pv_r a0, pv_i x1] M (fun v2 M1 => (((¬ v2 = 0) → mm_k M1 (mm_r M1 a0 0) = (0, 4) ∧ (∃ l5, ak_ M1 (mm_r M1 (mm_r M1 a0 0) 3) 0 l5 ∧ (0 < l5 ∧ (mm_k M1 v2 = (6, 17) ∧ (cs_i mt_X6_rankBy [pv_r v2, pv_i (mm_i M1 (mm_r M1 (mm_r M1 a0 0) 3) 0)] M1 (fun v10 M9 => P v10 M9)))))) ∧ ((v2 = 0) → P (-1000000 : Int32) M1)))) : cw_i mt_X10_rank 0 [some (pv_r a0), some (pv_i x1), none] [] M P := by
  refine go_aload_n dX10_rank_0 rfl ?_
  refine go_iload_n dX10_rank_1 rfl ?_
  refine go_V (av := [pv_i x1]) (st := []) (ci := 10) ok_X10_taskAt ⟨by decide, by decide⟩ ml_X10_171 rfl (by decide) (fun v hv => by simp only [List.mem_cons, List.not_mem_nil, or_false] at hv; rcases hv with rfl <;> first | exact pv_1i | exact pv_1r) (Nat.le_of_ble_eq_true rfl) (fun _ h => h) (by decide) rfl K0 dX10_rank_2 H (fun r M1 hq hS => ?_)
  obtain ⟨v2, rfl, H⟩ := hq
  have k3 : mm_k M1 a0 = (10, 14) := ks_S K0 (by decide) hS
  show go_W mt_X10_rank fr_C 5 [some (pv_r a0), some (pv_i x1), none] [pv_r v2] M1 (qi_ P)
  refine go_astore_n (by decide) dX10_rank_5 ?_
  show go_W mt_X10_rank fr_C 6 [some (pv_r a0), some (pv_i x1), some (pv_r v2)] [] M1 (qi_ P)
  refine go_aload_n dX10_rank_6 rfl ?_
  refine go_ifnonnull (tgt := 16) dX10_rank_7 (by decide) (fun hc => ?_) (fun hc => ?_)
  · replace H := H.1 hc
    refine go_aload_n dX10_rank_16 rfl ?_
    refine go_aload_n dX10_rank_17 rfl ?_
    refine go_getR (k := 0) ⟨by decide, rfl, by decide, Or.inl ⟨_, rfl⟩⟩ k3 fl_X10_10 dX10_rank_18 ?_
    obtain ⟨k4, H⟩ := H
    refine go_getR (k := 3) ⟨by decide, rfl, by decide, Or.inr ⟨_, rfl⟩⟩ k4 fl_X10_111 dX10_rank_21 ?_
    refine go_iconst (v := (0 : Int32)) rfl dX10_rank_24 ?_
    obtain ⟨l5, k6, H⟩ := H
    obtain ⟨hb7, H⟩ := H
    refine go_ialdA (j := 0) k6 rfl hb7 dX10_rank_25 ?_
    obtain ⟨k8, H⟩ := H
    refine go_V (av := [pv_i (mm_i M1 (mm_r M1 (mm_r M1 a0 0) 3) 0)]) (st := []) (ci := 6) ok_X6_rankBy ⟨by decide, by decide⟩ ml_X10_271 rfl (by decide) (fun v hv => by simp only [List.mem_cons, List.not_mem_nil, or_false] at hv; rcases hv with rfl <;> first | exact pv_1i | exact pv_1r) (Nat.le_of_ble_eq_true rfl) (fun _ h => h) (by decide) rfl k8 dX10_rank_26 H (fun r M9 hq hS => ?_)
    obtain ⟨v10, rfl, H⟩ := hq
    have k11 : mm_k M9 a0 = (10, 14) := ks_S k3 (by decide) hS
    have k12 : mm_k M9 (mm_r M1 a0 0) = (0, 4) := ks_S k4 (by decide) hS
    have k13 : mm_k M9 v2 = (6, 17) := ks_S k8 (by decide) hS
    have k14 : ak_ M9 (mm_r M1 (mm_r M1 a0 0) 3) 0 l5 := ak_S k6 hS
    show go_W mt_X10_rank fr_C 29 [some (pv_r a0), some (pv_i x1), some (pv_r v2)] [pv_i v10] M9 (qi_ P)
    exact go_iret rfl rfl dX10_rank_29 ⟨_, rfl, H⟩
  · replace H := H.2 hc
    refine go_ldcw (v := (-1000000 : Int32)) kc_X10_270 dX10_rank_10 ?_
    refine go_goto (tgt := 29) dX10_rank_13 (by decide) ?_
    exact go_iret rfl rfl dX10_rank_29 ⟨_, rfl, H⟩
set_option maxRecDepth 20000 in
theorem wc_X10_cause_0 {M : mm_T} {a0 : Nat} {x1 x2 : Int32} {P : Int32 → mm_T → Prop} (K0 : mm_k M a0 = (10, 14)) (H : cs_r mt_X10_taskAt [pv_r a0, pv_i x1] M (fun v2 M1 => (((¬ v2 = 0) → mm_k M1 v2 = (6, 17) ∧ (cs_i mt_X6_causeAt [pv_r v2, pv_i x2] M1 (fun v6 M5 => P v6 M5))) ∧ ((v2 = 0) → P (-1 : Int32) M1)))) : cw_i mt_X10_cause 0 [some (pv_r a0), some (pv_i x1), some (pv_i x2), none] [] M P := by
  refine go_aload_n dX10_cause_0 rfl ?_
  refine go_iload_n dX10_cause_1 rfl ?_
  refine go_V (av := [pv_i x1]) (st := []) (ci := 10) ok_X10_taskAt ⟨by decide, by decide⟩ ml_X10_171 rfl (by decide) (fun v hv => by simp only [List.mem_cons, List.not_mem_nil, or_false] at hv; rcases hv with rfl <;> first | exact pv_1i | exact pv_1r) (Nat.le_of_ble_eq_true rfl) (fun _ h => h) (by decide) rfl K0 dX10_cause_2 H (fun r M1 hq hS => ?_)
  obtain ⟨v2, rfl, H⟩ := hq
  have k3 : mm_k M1 a0 = (10, 14) := ks_S K0 (by decide) hS
  show go_W mt_X10_cause fr_C 5 [some (pv_r a0), some (pv_i x1), some (pv_i x2), none] [pv_r v2] M1 (qi_ P)
  refine go_astore_n (by decide) dX10_cause_5 ?_
  show go_W mt_X10_cause fr_C 6 [some (pv_r a0), some (pv_i x1), some (pv_i x2), some (pv_r v2)] [] M1 (qi_ P)
  refine go_aload_n dX10_cause_6 rfl ?_
  refine go_ifnonnull (tgt := 14) dX10_cause_7 (by decide) (fun hc => ?_) (fun hc => ?_)
  · replace H := H.1 hc
    refine go_aload_n dX10_cause_14 rfl ?_
    refine go_iload_n dX10_cause_15 rfl ?_
    obtain ⟨k4, H⟩ := H
    refine go_V (av := [pv_i x2]) (st := []) (ci := 6) ok_X6_causeAt ⟨by decide, by decide⟩ ml_X10_274 rfl (by decide) (fun v hv => by simp only [List.mem_cons, List.not_mem_nil, or_false] at hv; rcases hv with rfl <;> first | exact pv_1i | exact pv_1r) (Nat.le_of_ble_eq_true rfl) (fun _ h => h) (by decide) rfl k4 dX10_cause_16 H (fun r M5 hq hS => ?_)
    obtain ⟨v6, rfl, H⟩ := hq
    have k7 : mm_k M5 a0 = (10, 14) := ks_S k3 (by decide) hS
    have k8 : mm_k M5 v2 = (6, 17) := ks_S k4 (by decide) hS
    show go_W mt_X10_cause fr_C 19 [some (pv_r a0), some (pv_i x1), some (pv_i x2), some (pv_r v2)] [pv_i v6] M5 (qi_ P)
    exact go_iret rfl rfl dX10_cause_19 ⟨_, rfl, H⟩
  · replace H := H.2 hc
    refine go_iconst (v := (-1 : Int32)) rfl dX10_cause_10 ?_
    refine go_goto (tgt := 19) dX10_cause_11 (by decide) ?_
    exact go_iret rfl rfl dX10_cause_19 ⟨_, rfl, H⟩
set_option maxRecDepth 20000 in
theorem wc_X10_worker_0 {M : mm_T} {a0 : Nat} {x1 x2 : Int32} {P : Int32 → mm_T → Prop} (K0 : mm_k M a0 = (10, 14)) (H : cs_r mt_X10_workerAt [pv_r a0, pv_i x1] M (fun v2 M1 => (((¬ v2 = 0) → mm_k M1 v2 = (9, 5) ∧ (cs_i mt_X9_tell [pv_r v2, pv_i x2] M1 (fun v6 M5 => P v6 M5))) ∧ ((v2 = 0) → P (-1 : Int32) M1)))) : cw_i mt_X10_worker 0 [some (pv_r a0), some (pv_i x1), some (pv_i x2), none] [] M P := by
  refine go_aload_n dX10_worker_0 rfl ?_
  refine go_iload_n dX10_worker_1 rfl ?_
  refine go_V (av := [pv_i x1]) (st := []) (ci := 10) ok_X10_workerAt ⟨by decide, by decide⟩ ml_X10_83 rfl (by decide) (fun v hv => by simp only [List.mem_cons, List.not_mem_nil, or_false] at hv; rcases hv with rfl <;> first | exact pv_1i | exact pv_1r) (Nat.le_of_ble_eq_true rfl) (fun _ h => h) (by decide) rfl K0 dX10_worker_2 H (fun r M1 hq hS => ?_)
  obtain ⟨v2, rfl, H⟩ := hq
  have k3 : mm_k M1 a0 = (10, 14) := ks_S K0 (by decide) hS
  show go_W mt_X10_worker fr_C 5 [some (pv_r a0), some (pv_i x1), some (pv_i x2), none] [pv_r v2] M1 (qi_ P)
  refine go_astore_n (by decide) dX10_worker_5 ?_
  show go_W mt_X10_worker fr_C 6 [some (pv_r a0), some (pv_i x1), some (pv_i x2), some (pv_r v2)] [] M1 (qi_ P)
  refine go_aload_n dX10_worker_6 rfl ?_
  refine go_ifnonnull (tgt := 14) dX10_worker_7 (by decide) (fun hc => ?_) (fun hc => ?_)
  · replace H := H.1 hc
    refine go_aload_n dX10_worker_14 rfl ?_
    refine go_iload_n dX10_worker_15 rfl ?_
    obtain ⟨k4, H⟩ := H
    refine go_V (av := [pv_i x2]) (st := []) (ci := 9) ok_X9_tell ⟨by decide, by decide⟩ ml_X10_277 rfl (by decide) (fun v hv => by simp only [List.mem_cons, List.not_mem_nil, or_false] at hv; rcases hv with rfl <;> first | exact pv_1i | exact pv_1r) (Nat.le_of_ble_eq_true rfl) (fun _ h => h) (by decide) rfl k4 dX10_worker_16 H (fun r M5 hq hS => ?_)
    obtain ⟨v6, rfl, H⟩ := hq
    have k7 : mm_k M5 a0 = (10, 14) := ks_S k3 (by decide) hS
    have k8 : mm_k M5 v2 = (9, 5) := ks_S k4 (by decide) hS
    show go_W mt_X10_worker fr_C 19 [some (pv_r a0), some (pv_i x1), some (pv_i x2), some (pv_r v2)] [pv_i v6] M5 (qi_ P)
    exact go_iret rfl rfl dX10_worker_19 ⟨_, rfl, H⟩
  · replace H := H.2 hc
    refine go_iconst (v := (-1 : Int32)) rfl dX10_worker_10 ?_
    refine go_goto (tgt := 19) dX10_worker_11 (by decide) ?_
    exact go_iret rfl rfl dX10_worker_19 ⟨_, rfl, H⟩
set_option maxRecDepth 20000 in
theorem wc_X10_timer_0 {M : mm_T} {a0 : Nat} {x1 x2 : Int32} {P : Int32 → mm_T → Prop} (K0 : mm_k M a0 = (10, 14)) (H : cs_r mt_X10_timerAt [pv_r a0, pv_i x1] M (fun v2 M1 => (((¬ v2 = 0) → mm_k M1 v2 = (7, 8) ∧ (cs_i mt_X7_tell [pv_r v2, pv_i x2] M1 (fun v6 M5 => P v6 M5))) ∧ ((v2 = 0) → P (-1 : Int32) M1)))) : cw_i mt_X10_timer 0 [some (pv_r a0), some (pv_i x1), some (pv_i x2), none] [] M P := by
  refine go_aload_n dX10_timer_0 rfl ?_
  refine go_iload_n dX10_timer_1 rfl ?_
  refine go_V (av := [pv_i x1]) (st := []) (ci := 10) ok_X10_timerAt ⟨by decide, by decide⟩ ml_X10_147 rfl (by decide) (fun v hv => by simp only [List.mem_cons, List.not_mem_nil, or_false] at hv; rcases hv with rfl <;> first | exact pv_1i | exact pv_1r) (Nat.le_of_ble_eq_true rfl) (fun _ h => h) (by decide) rfl K0 dX10_timer_2 H (fun r M1 hq hS => ?_)
  obtain ⟨v2, rfl, H⟩ := hq
  have k3 : mm_k M1 a0 = (10, 14) := ks_S K0 (by decide) hS
  show go_W mt_X10_timer fr_C 5 [some (pv_r a0), some (pv_i x1), some (pv_i x2), none] [pv_r v2] M1 (qi_ P)
  refine go_astore_n (by decide) dX10_timer_5 ?_
  show go_W mt_X10_timer fr_C 6 [some (pv_r a0), some (pv_i x1), some (pv_i x2), some (pv_r v2)] [] M1 (qi_ P)
  refine go_aload_n dX10_timer_6 rfl ?_
  refine go_ifnonnull (tgt := 14) dX10_timer_7 (by decide) (fun hc => ?_) (fun hc => ?_)
  · replace H := H.1 hc
    refine go_aload_n dX10_timer_14 rfl ?_
    refine go_iload_n dX10_timer_15 rfl ?_
    obtain ⟨k4, H⟩ := H
    refine go_V (av := [pv_i x2]) (st := []) (ci := 7) ok_X7_tell ⟨by decide, by decide⟩ ml_X10_278 rfl (by decide) (fun v hv => by simp only [List.mem_cons, List.not_mem_nil, or_false] at hv; rcases hv with rfl <;> first | exact pv_1i | exact pv_1r) (Nat.le_of_ble_eq_true rfl) (fun _ h => h) (by decide) rfl k4 dX10_timer_16 H (fun r M5 hq hS => ?_)
    obtain ⟨v6, rfl, H⟩ := hq
    have k7 : mm_k M5 a0 = (10, 14) := ks_S k3 (by decide) hS
    have k8 : mm_k M5 v2 = (7, 8) := ks_S k4 (by decide) hS
    show go_W mt_X10_timer fr_C 19 [some (pv_r a0), some (pv_i x1), some (pv_i x2), some (pv_r v2)] [pv_i v6] M5 (qi_ P)
    exact go_iret rfl rfl dX10_timer_19 ⟨_, rfl, H⟩
  · replace H := H.2 hc
    refine go_iconst (v := (-1 : Int32)) rfl dX10_timer_10 ?_
    refine go_goto (tgt := 19) dX10_timer_11 (by decide) ?_
    exact go_iret rfl rfl dX10_timer_19 ⟨_, rfl, H⟩
set_option maxRecDepth 20000 in
theorem wc_X10_waiting_0 {M : mm_T} {a0 : Nat} {x1 x2 : Int32} {P : Int32 → mm_T → Prop} (K0 : mm_k M a0 = (10, 14)) (H : mm_k M (mm_r M a0 0) = (0, 4) ∧ (cs_r mt_X0_laneAt [pv_r (mm_r M a0 0), pv_i x1] M (fun v3 M2 => (((¬ v3 = 0) → mm_k M2 (mm_r M2 a0 0) = (0, 4) ∧ (cs_r mt_X0_kth [pv_r (mm_r M2 a0 0), pv_i (0 : Int32), pv_r v3, pv_i x2] M2 (fun v8 M7 => cs_i mt_X10_numberOf [pv_r v8] M7 (fun v13 M12 => P v13 M12)))) ∧ ((v3 = 0) → P (-1 : Int32) M2))))) : cw_i mt_X10_waiting 0 [some (pv_r a0), some (pv_i x1), some (pv_i x2), none] [] M P := by
  refine go_aload_n dX10_waiting_0 rfl ?_
  refine go_getR (k := 0) ⟨by decide, rfl, by decide, Or.inl ⟨_, rfl⟩⟩ K0 fl_X10_10 dX10_waiting_1 ?_
  refine go_iload_n dX10_waiting_4 rfl ?_
  obtain ⟨k1, H⟩ := H
  refine go_V (av := [pv_i x1]) (st := []) (ci := 0) ok_X0_laneAt ⟨by decide, by decide⟩ ml_X10_133 rfl (by decide) (fun v hv => by simp only [List.mem_cons, List.not_mem_nil, or_false] at hv; rcases hv with rfl <;> first | exact pv_1i | exact pv_1r) (Nat.le_of_ble_eq_true rfl) (fun _ h => h) (by decide) rfl k1 dX10_waiting_5 H (fun r M2 hq hS => ?_)
  obtain ⟨v3, rfl, H⟩ := hq
  have k4 : mm_k M2 a0 = (10, 14) := ks_S K0 (by decide) hS
  have k5 : mm_k M2 (mm_r M a0 0) = (0, 4) := ks_S k1 (by decide) hS
  show go_W mt_X10_waiting fr_C 8 [some (pv_r a0), some (pv_i x1), some (pv_i x2), none] [pv_r v3] M2 (qi_ P)
  refine go_astore_n (by decide) dX10_waiting_8 ?_
  show go_W mt_X10_waiting fr_C 9 [some (pv_r a0), some (pv_i x1), some (pv_i x2), some (pv_r v3)] [] M2 (qi_ P)
  refine go_aload_n dX10_waiting_9 rfl ?_
  refine go_ifnonnull (tgt := 17) dX10_waiting_10 (by decide) (fun hc => ?_) (fun hc => ?_)
  · replace H := H.1 hc
    refine go_aload_n dX10_waiting_17 rfl ?_
    refine go_getR (k := 0) ⟨by decide, rfl, by decide, Or.inl ⟨_, rfl⟩⟩ k4 fl_X10_10 dX10_waiting_18 ?_
    refine go_iconst (v := (0 : Int32)) rfl dX10_waiting_21 ?_
    refine go_aload_n dX10_waiting_22 rfl ?_
    refine go_iload_n dX10_waiting_23 rfl ?_
    obtain ⟨k6, H⟩ := H
    refine go_V (av := [pv_i (0 : Int32), pv_r v3, pv_i x2]) (st := []) (ci := 0) ok_X0_kth ⟨by decide, by decide⟩ ml_X10_279 rfl (by decide) (fun v hv => by simp only [List.mem_cons, List.not_mem_nil, or_false] at hv; rcases hv with rfl | rfl | rfl <;> first | exact pv_1i | exact pv_1r) (Nat.le_of_ble_eq_true rfl) (fun _ h => h) (by decide) rfl k6 dX10_waiting_24 H (fun r M7 hq hS => ?_)
    obtain ⟨v8, rfl, H⟩ := hq
    have k9 : mm_k M7 a0 = (10, 14) := ks_S k4 (by decide) hS
    have k10 : mm_k M7 (mm_r M a0 0) = (0, 4) := ks_S k5 (by decide) hS
    have k11 : mm_k M7 (mm_r M2 a0 0) = (0, 4) := ks_S k6 (by decide) hS
    show go_W mt_X10_waiting fr_C 27 [some (pv_r a0), some (pv_i x1), some (pv_i x2), some (pv_r v3)] [pv_r v8] M7 (qi_ P)
    refine go_St (av := [pv_r v8]) (st := []) ok_X10_numberOf ⟨by decide, by decide⟩ ml_X10_283 rfl (by decide) (fun v hv => by simp only [List.mem_cons, List.not_mem_nil, or_false] at hv; rcases hv with rfl <;> first | exact pv_1i | exact pv_1r) (Nat.le_of_ble_eq_true rfl) (fun _ h => h) dX10_waiting_27 H (fun r M12 hq hS => ?_)
    obtain ⟨v13, rfl, H⟩ := hq
    have k14 : mm_k M12 a0 = (10, 14) := ks_S k9 (by decide) hS
    have k15 : mm_k M12 (mm_r M a0 0) = (0, 4) := ks_S k10 (by decide) hS
    have k16 : mm_k M12 (mm_r M2 a0 0) = (0, 4) := ks_S k11 (by decide) hS
    show go_W mt_X10_waiting fr_C 30 [some (pv_r a0), some (pv_i x1), some (pv_i x2), some (pv_r v3)] [pv_i v13] M12 (qi_ P)
    exact go_iret rfl rfl dX10_waiting_30 ⟨_, rfl, H⟩
  · replace H := H.2 hc
    refine go_iconst (v := (-1 : Int32)) rfl dX10_waiting_13 ?_
    refine go_goto (tgt := 30) dX10_waiting_14 (by decide) ?_
    exact go_iret rfl rfl dX10_waiting_30 ⟨_, rfl, H⟩
set_option maxRecDepth 20000 in
theorem wc_X10_keyed_0 {M : mm_T} {a0 : Nat} {x1 : Int32} {P : Int32 → mm_T → Prop} (K0 : mm_k M a0 = (10, 14)) (H : mm_k M (mm_r M a0 0) = (0, 4) ∧ (cs_r mt_X0_withKey [pv_r (mm_r M a0 0), pv_i x1] M (fun v3 M2 => cs_i mt_X10_numberOf [pv_r v3] M2 (fun v7 M6 => P v7 M6)))) : cw_i mt_X10_keyed 0 [some (pv_r a0), some (pv_i x1)] [] M P := by
  refine go_aload_n dX10_keyed_0 rfl ?_
  refine go_getR (k := 0) ⟨by decide, rfl, by decide, Or.inl ⟨_, rfl⟩⟩ K0 fl_X10_10 dX10_keyed_1 ?_
  refine go_iload_n dX10_keyed_4 rfl ?_
  obtain ⟨k1, H⟩ := H
  refine go_V (av := [pv_i x1]) (st := []) (ci := 0) ok_X0_withKey ⟨by decide, by decide⟩ ml_X10_286 rfl (by decide) (fun v hv => by simp only [List.mem_cons, List.not_mem_nil, or_false] at hv; rcases hv with rfl <;> first | exact pv_1i | exact pv_1r) (Nat.le_of_ble_eq_true rfl) (fun _ h => h) (by decide) rfl k1 dX10_keyed_5 H (fun r M2 hq hS => ?_)
  obtain ⟨v3, rfl, H⟩ := hq
  have k4 : mm_k M2 a0 = (10, 14) := ks_S K0 (by decide) hS
  have k5 : mm_k M2 (mm_r M a0 0) = (0, 4) := ks_S k1 (by decide) hS
  show go_W mt_X10_keyed fr_C 8 [some (pv_r a0), some (pv_i x1)] [pv_r v3] M2 (qi_ P)
  refine go_St (av := [pv_r v3]) (st := []) ok_X10_numberOf ⟨by decide, by decide⟩ ml_X10_283 rfl (by decide) (fun v hv => by simp only [List.mem_cons, List.not_mem_nil, or_false] at hv; rcases hv with rfl <;> first | exact pv_1i | exact pv_1r) (Nat.le_of_ble_eq_true rfl) (fun _ h => h) dX10_keyed_8 H (fun r M6 hq hS => ?_)
  obtain ⟨v7, rfl, H⟩ := hq
  have k8 : mm_k M6 a0 = (10, 14) := ks_S k4 (by decide) hS
  have k9 : mm_k M6 (mm_r M a0 0) = (0, 4) := ks_S k5 (by decide) hS
  show go_W mt_X10_keyed fr_C 11 [some (pv_r a0), some (pv_i x1)] [pv_i v7] M6 (qi_ P)
  exact go_iret rfl rfl dX10_keyed_11 ⟨_, rfl, H⟩
set_option maxRecDepth 20000 in
theorem wc_X10_resting_0 {M : mm_T} {a0 : Nat} {x1 : Int32} {P : Int32 → mm_T → Prop} (K0 : mm_k M a0 = (10, 14)) (H : mm_k M (mm_r M a0 0) = (0, 4) ∧ (cs_r mt_X0_kth [pv_r (mm_r M a0 0), pv_i (2 : Int32), pv_r 0, pv_i x1] M (fun v3 M2 => cs_i mt_X10_numberOf [pv_r v3] M2 (fun v7 M6 => P v7 M6)))) : cw_i mt_X10_resting 0 [some (pv_r a0), some (pv_i x1)] [] M P := by
  refine go_aload_n dX10_resting_0 rfl ?_
  refine go_getR (k := 0) ⟨by decide, rfl, by decide, Or.inl ⟨_, rfl⟩⟩ K0 fl_X10_10 dX10_resting_1 ?_
  refine go_iconst (v := (2 : Int32)) rfl dX10_resting_4 ?_
  refine go_null dX10_resting_5 ?_
  refine go_iload_n dX10_resting_6 rfl ?_
  obtain ⟨k1, H⟩ := H
  refine go_V (av := [pv_i (2 : Int32), pv_r 0, pv_i x1]) (st := []) (ci := 0) ok_X0_kth ⟨by decide, by decide⟩ ml_X10_279 rfl (by decide) (fun v hv => by simp only [List.mem_cons, List.not_mem_nil, or_false] at hv; rcases hv with rfl | rfl | rfl <;> first | exact pv_1i | exact pv_1r) (Nat.le_of_ble_eq_true rfl) (fun _ h => h) (by decide) rfl k1 dX10_resting_7 H (fun r M2 hq hS => ?_)
  obtain ⟨v3, rfl, H⟩ := hq
  have k4 : mm_k M2 a0 = (10, 14) := ks_S K0 (by decide) hS
  have k5 : mm_k M2 (mm_r M a0 0) = (0, 4) := ks_S k1 (by decide) hS
  show go_W mt_X10_resting fr_C 10 [some (pv_r a0), some (pv_i x1)] [pv_r v3] M2 (qi_ P)
  refine go_St (av := [pv_r v3]) (st := []) ok_X10_numberOf ⟨by decide, by decide⟩ ml_X10_283 rfl (by decide) (fun v hv => by simp only [List.mem_cons, List.not_mem_nil, or_false] at hv; rcases hv with rfl <;> first | exact pv_1i | exact pv_1r) (Nat.le_of_ble_eq_true rfl) (fun _ h => h) dX10_resting_10 H (fun r M6 hq hS => ?_)
  obtain ⟨v7, rfl, H⟩ := hq
  have k8 : mm_k M6 a0 = (10, 14) := ks_S k4 (by decide) hS
  have k9 : mm_k M6 (mm_r M a0 0) = (0, 4) := ks_S k5 (by decide) hS
  show go_W mt_X10_resting fr_C 13 [some (pv_r a0), some (pv_i x1)] [pv_i v7] M6 (qi_ P)
  exact go_iret rfl rfl dX10_resting_13 ⟨_, rfl, H⟩
set_option maxRecDepth 20000 in
theorem wc_X10_aside_0 {M : mm_T} {a0 : Nat} {x1 : Int32} {P : Int32 → mm_T → Prop} (K0 : mm_k M a0 = (10, 14)) (H : mm_k M (mm_r M a0 3) = (4, 2) ∧ (cs_r mt_X4_at [pv_r (mm_r M a0 3), pv_i x1] M (fun v3 M2 => cs_i mt_X10_numberOf [pv_r v3] M2 (fun v7 M6 => P v7 M6)))) : cw_i mt_X10_aside 0 [some (pv_r a0), some (pv_i x1)] [] M P := by
  refine go_aload_n dX10_aside_0 rfl ?_
  refine go_getR (k := 3) ⟨by decide, rfl, by decide, Or.inl ⟨_, rfl⟩⟩ K0 fl_X10_32 dX10_aside_1 ?_
  refine go_iload_n dX10_aside_4 rfl ?_
  obtain ⟨k1, H⟩ := H
  refine go_V (av := [pv_i x1]) (st := []) (ci := 4) ok_X4_at ⟨by decide, by decide⟩ ml_X10_289 rfl (by decide) (fun v hv => by simp only [List.mem_cons, List.not_mem_nil, or_false] at hv; rcases hv with rfl <;> first | exact pv_1i | exact pv_1r) (Nat.le_of_ble_eq_true rfl) (fun _ h => h) (by decide) rfl k1 dX10_aside_5 H (fun r M2 hq hS => ?_)
  obtain ⟨v3, rfl, H⟩ := hq
  have k4 : mm_k M2 a0 = (10, 14) := ks_S K0 (by decide) hS
  have k5 : mm_k M2 (mm_r M a0 3) = (4, 2) := ks_S k1 (by decide) hS
  show go_W mt_X10_aside fr_C 8 [some (pv_r a0), some (pv_i x1)] [pv_r v3] M2 (qi_ P)
  refine go_St (av := [pv_r v3]) (st := []) ok_X10_numberOf ⟨by decide, by decide⟩ ml_X10_283 rfl (by decide) (fun v hv => by simp only [List.mem_cons, List.not_mem_nil, or_false] at hv; rcases hv with rfl <;> first | exact pv_1i | exact pv_1r) (Nat.le_of_ble_eq_true rfl) (fun _ h => h) dX10_aside_8 H (fun r M6 hq hS => ?_)
  obtain ⟨v7, rfl, H⟩ := hq
  have k8 : mm_k M6 a0 = (10, 14) := ks_S k4 (by decide) hS
  have k9 : mm_k M6 (mm_r M a0 3) = (4, 2) := ks_S k5 (by decide) hS
  show go_W mt_X10_aside fr_C 11 [some (pv_r a0), some (pv_i x1)] [pv_i v7] M6 (qi_ P)
  exact go_iret rfl rfl dX10_aside_11 ⟨_, rfl, H⟩
set_option maxRecDepth 20000 in
theorem wc_X10_ending_0 {M : mm_T} {a0 : Nat} {x1 : Int32} {P : Int32 → mm_T → Prop} (K0 : mm_k M a0 = (10, 14)) (H : mm_k M (mm_r M a0 0) = (0, 4) ∧ (cs_r mt_X0_kth [pv_r (mm_r M a0 0), pv_i (3 : Int32), pv_r 0, pv_i x1] M (fun v3 M2 => cs_i mt_X10_numberOf [pv_r v3] M2 (fun v7 M6 => P v7 M6)))) : cw_i mt_X10_ending 0 [some (pv_r a0), some (pv_i x1)] [] M P := by
  refine go_aload_n dX10_ending_0 rfl ?_
  refine go_getR (k := 0) ⟨by decide, rfl, by decide, Or.inl ⟨_, rfl⟩⟩ K0 fl_X10_10 dX10_ending_1 ?_
  refine go_iconst (v := (3 : Int32)) rfl dX10_ending_4 ?_
  refine go_null dX10_ending_5 ?_
  refine go_iload_n dX10_ending_6 rfl ?_
  obtain ⟨k1, H⟩ := H
  refine go_V (av := [pv_i (3 : Int32), pv_r 0, pv_i x1]) (st := []) (ci := 0) ok_X0_kth ⟨by decide, by decide⟩ ml_X10_279 rfl (by decide) (fun v hv => by simp only [List.mem_cons, List.not_mem_nil, or_false] at hv; rcases hv with rfl | rfl | rfl <;> first | exact pv_1i | exact pv_1r) (Nat.le_of_ble_eq_true rfl) (fun _ h => h) (by decide) rfl k1 dX10_ending_7 H (fun r M2 hq hS => ?_)
  obtain ⟨v3, rfl, H⟩ := hq
  have k4 : mm_k M2 a0 = (10, 14) := ks_S K0 (by decide) hS
  have k5 : mm_k M2 (mm_r M a0 0) = (0, 4) := ks_S k1 (by decide) hS
  show go_W mt_X10_ending fr_C 10 [some (pv_r a0), some (pv_i x1)] [pv_r v3] M2 (qi_ P)
  refine go_St (av := [pv_r v3]) (st := []) ok_X10_numberOf ⟨by decide, by decide⟩ ml_X10_283 rfl (by decide) (fun v hv => by simp only [List.mem_cons, List.not_mem_nil, or_false] at hv; rcases hv with rfl <;> first | exact pv_1i | exact pv_1r) (Nat.le_of_ble_eq_true rfl) (fun _ h => h) dX10_ending_10 H (fun r M6 hq hS => ?_)
  obtain ⟨v7, rfl, H⟩ := hq
  have k8 : mm_k M6 a0 = (10, 14) := ks_S k4 (by decide) hS
  have k9 : mm_k M6 (mm_r M a0 0) = (0, 4) := ks_S k5 (by decide) hS
  show go_W mt_X10_ending fr_C 13 [some (pv_r a0), some (pv_i x1)] [pv_i v7] M6 (qi_ P)
  exact go_iret rfl rfl dX10_ending_13 ⟨_, rfl, H⟩
set_option maxRecDepth 20000 in
theorem wc_X10_strikes_0 {M : mm_T} {a0 : Nat} {x1 : Int32} {P : Int32 → mm_T → Prop} (K0 : mm_k M a0 = (10, 14)) (H : cs_i mt_X10_isKey [pv_i x1] M (fun v2 M1 => (((v2 = 0) → P (-1 : Int32) M1) ∧ ((¬ v2 = 0) → mm_k M1 (mm_r M1 a0 7) = (5, 3) ∧ (cs_i mt_X5_count [pv_r (mm_r M1 a0 7), pv_i x1] M1 (fun v6 M5 => P v6 M5)))))) : cw_i mt_X10_strikes 0 [some (pv_r a0), some (pv_i x1)] [] M P := by
  refine go_iload_n dX10_strikes_0 rfl ?_
  refine go_St (av := [pv_i x1]) (st := []) ok_X10_isKey ⟨by decide, by decide⟩ ml_X10_234 rfl (by decide) (fun v hv => by simp only [List.mem_cons, List.not_mem_nil, or_false] at hv; rcases hv with rfl <;> first | exact pv_1i | exact pv_1r) (Nat.le_of_ble_eq_true rfl) (fun _ h => h) dX10_strikes_1 H (fun r M1 hq hS => ?_)
  obtain ⟨v2, rfl, H⟩ := hq
  have k3 : mm_k M1 a0 = (10, 14) := ks_S K0 (by decide) hS
  show go_W mt_X10_strikes fr_C 4 [some (pv_r a0), some (pv_i x1)] [pv_i v2] M1 (qi_ P)
  refine go_if_eq (tgt := 18) dX10_strikes_4 (by decide) (fun hc => ?_) (fun hc => ?_)
  · replace H := H.1 hc
    refine go_iconst (v := (-1 : Int32)) rfl dX10_strikes_18 ?_
    exact go_iret rfl rfl dX10_strikes_19 ⟨_, rfl, H⟩
  · replace H := H.2 hc
    refine go_aload_n dX10_strikes_7 rfl ?_
    refine go_getR (k := 7) ⟨by decide, rfl, by decide, Or.inl ⟨_, rfl⟩⟩ k3 fl_X10_54 dX10_strikes_8 ?_
    refine go_iload_n dX10_strikes_11 rfl ?_
    obtain ⟨k4, H⟩ := H
    refine go_V (av := [pv_i x1]) (st := []) (ci := 5) ok_X5_count ⟨by decide, by decide⟩ ml_X10_238 rfl (by decide) (fun v hv => by simp only [List.mem_cons, List.not_mem_nil, or_false] at hv; rcases hv with rfl <;> first | exact pv_1i | exact pv_1r) (Nat.le_of_ble_eq_true rfl) (fun _ h => h) (by decide) rfl k4 dX10_strikes_12 H (fun r M5 hq hS => ?_)
    obtain ⟨v6, rfl, H⟩ := hq
    have k7 : mm_k M5 a0 = (10, 14) := ks_S k3 (by decide) hS
    have k8 : mm_k M5 (mm_r M1 a0 7) = (5, 3) := ks_S k4 (by decide) hS
    show go_W mt_X10_strikes fr_C 15 [some (pv_r a0), some (pv_i x1)] [pv_i v6] M5 (qi_ P)
    refine go_goto (tgt := 19) dX10_strikes_15 (by decide) ?_
    exact go_iret rfl rfl dX10_strikes_19 ⟨_, rfl, H⟩
set_option maxRecDepth 20000 in
theorem wc_X10_banned_0 {M : mm_T} {a0 : Nat} {x1 : Int32} {P : Int32 → mm_T → Prop} (K0 : mm_k M a0 = (10, 14)) (H : mm_k M (mm_r M a0 0) = (0, 4) ∧ (∃ l2, ak_ M (mm_r M (mm_r M a0 0) 3) 0 l2 ∧ (5 < l2 ∧ (mm_k M (mm_r M a0 7) = (5, 3) ∧ (cs_i mt_X5_kthWith [pv_r (mm_r M a0 7), pv_i (mm_i M (mm_r M (mm_r M a0 0) 3) 5), pv_i x1] M (fun v7 M6 => P v7 M6)))))) : cw_i mt_X10_banned 0 [some (pv_r a0), some (pv_i x1)] [] M P := by
  refine go_aload_n dX10_banned_0 rfl ?_
  refine go_getR (k := 7) ⟨by decide, rfl, by decide, Or.inl ⟨_, rfl⟩⟩ K0 fl_X10_54 dX10_banned_1 ?_
  refine go_aload_n dX10_banned_4 rfl ?_
  refine go_getR (k := 0) ⟨by decide, rfl, by decide, Or.inl ⟨_, rfl⟩⟩ K0 fl_X10_10 dX10_banned_5 ?_
  obtain ⟨k1, H⟩ := H
  refine go_getR (k := 3) ⟨by decide, rfl, by decide, Or.inr ⟨_, rfl⟩⟩ k1 fl_X10_111 dX10_banned_8 ?_
  refine go_iconst (v := (5 : Int32)) rfl dX10_banned_11 ?_
  obtain ⟨l2, k3, H⟩ := H
  obtain ⟨hb4, H⟩ := H
  refine go_ialdA (j := 5) k3 rfl hb4 dX10_banned_12 ?_
  refine go_iload_n dX10_banned_13 rfl ?_
  obtain ⟨k5, H⟩ := H
  refine go_V (av := [pv_i (mm_i M (mm_r M (mm_r M a0 0) 3) 5), pv_i x1]) (st := []) (ci := 5) ok_X5_kthWith ⟨by decide, by decide⟩ ml_X10_292 rfl (by decide) (fun v hv => by simp only [List.mem_cons, List.not_mem_nil, or_false] at hv; rcases hv with rfl | rfl <;> first | exact pv_1i | exact pv_1r) (Nat.le_of_ble_eq_true rfl) (fun _ h => h) (by decide) rfl k5 dX10_banned_14 H (fun r M6 hq hS => ?_)
  obtain ⟨v7, rfl, H⟩ := hq
  have k8 : mm_k M6 a0 = (10, 14) := ks_S K0 (by decide) hS
  have k9 : mm_k M6 (mm_r M a0 0) = (0, 4) := ks_S k1 (by decide) hS
  have k10 : mm_k M6 (mm_r M a0 7) = (5, 3) := ks_S k5 (by decide) hS
  have k11 : ak_ M6 (mm_r M (mm_r M a0 0) 3) 0 l2 := ak_S k3 hS
  show go_W mt_X10_banned fr_C 17 [some (pv_r a0), some (pv_i x1)] [pv_i v7] M6 (qi_ P)
  exact go_iret rfl rfl dX10_banned_17 ⟨_, rfl, H⟩
set_option maxRecDepth 20000 in
theorem wc_X10_waits_0 {M : mm_T} {a0 : Nat} {x1 x2 : Int32} {P : Int32 → mm_T → Prop} (K0 : mm_k M a0 = (10, 14)) (H : mm_k M (mm_r M a0 0) = (0, 4) ∧ (cs_r mt_X0_laneAt [pv_r (mm_r M a0 0), pv_i x1] M (fun v3 M2 => (((¬ v3 = 0) → ((x2 = (0 : Int32)) → mm_k M2 v3 = (3, 14) ∧ (P (mm_i M2 v3 11) M2)) ∧ ((x2 = (1 : Int32)) → mm_k M2 v3 = (3, 14) ∧ (P (mm_i M2 v3 12) M2)) ∧ ((x2 = (2 : Int32)) → mm_k M2 v3 = (3, 14) ∧ (P (mm_i M2 v3 13) M2)) ∧ ((¬ x2 = (0 : Int32) ∧ ¬ x2 = (1 : Int32) ∧ ¬ x2 = (2 : Int32)) → P (-1 : Int32) M2)) ∧ ((v3 = 0) → P (-1 : Int32) M2))))) : cw_i mt_X10_waits 0 [some (pv_r a0), some (pv_i x1), some (pv_i x2), none] [] M P := by
  refine go_aload_n dX10_waits_0 rfl ?_
  refine go_getR (k := 0) ⟨by decide, rfl, by decide, Or.inl ⟨_, rfl⟩⟩ K0 fl_X10_10 dX10_waits_1 ?_
  refine go_iload_n dX10_waits_4 rfl ?_
  obtain ⟨k1, H⟩ := H
  refine go_V (av := [pv_i x1]) (st := []) (ci := 0) ok_X0_laneAt ⟨by decide, by decide⟩ ml_X10_133 rfl (by decide) (fun v hv => by simp only [List.mem_cons, List.not_mem_nil, or_false] at hv; rcases hv with rfl <;> first | exact pv_1i | exact pv_1r) (Nat.le_of_ble_eq_true rfl) (fun _ h => h) (by decide) rfl k1 dX10_waits_5 H (fun r M2 hq hS => ?_)
  obtain ⟨v3, rfl, H⟩ := hq
  have k4 : mm_k M2 a0 = (10, 14) := ks_S K0 (by decide) hS
  have k5 : mm_k M2 (mm_r M a0 0) = (0, 4) := ks_S k1 (by decide) hS
  show go_W mt_X10_waits fr_C 8 [some (pv_r a0), some (pv_i x1), some (pv_i x2), none] [pv_r v3] M2 (qi_ P)
  refine go_astore_n (by decide) dX10_waits_8 ?_
  show go_W mt_X10_waits fr_C 9 [some (pv_r a0), some (pv_i x1), some (pv_i x2), some (pv_r v3)] [] M2 (qi_ P)
  refine go_aload_n dX10_waits_9 rfl ?_
  refine go_ifnonnull (tgt := 15) dX10_waits_10 (by decide) (fun hc => ?_) (fun hc => ?_)
  · replace H := H.1 hc
    refine go_iload_n dX10_waits_15 rfl ?_
    by_cases hc0 : x2 = (0 : Int32)
    · replace H := H.1 hc0
      refine go_tabIn (v := (0 : Int32)) (tgt := 44) hc0 (by decide) (by decide) rfl (by decide) dX10_waits_16 ?_
      refine go_aload_n dX10_waits_44 rfl ?_
      obtain ⟨k6, H⟩ := H
      refine go_getI (k := 11) ⟨by decide, rfl, by decide, rfl⟩ k6 fl_X10_295 dX10_waits_45 ?_
      exact go_iret rfl rfl dX10_waits_48 ⟨_, rfl, H⟩
    replace H := H.2
    by_cases hc1 : x2 = (1 : Int32)
    · replace H := H.1 hc1
      refine go_tabIn (v := (1 : Int32)) (tgt := 49) hc1 (by decide) (by decide) rfl (by decide) dX10_waits_16 ?_
      refine go_aload_n dX10_waits_49 rfl ?_
      obtain ⟨k7, H⟩ := H
      refine go_getI (k := 12) ⟨by decide, rfl, by decide, rfl⟩ k7 fl_X10_298 dX10_waits_50 ?_
      exact go_iret rfl rfl dX10_waits_53 ⟨_, rfl, H⟩
    replace H := H.2
    by_cases hc2 : x2 = (2 : Int32)
    · replace H := H.1 hc2
      refine go_tabIn (v := (2 : Int32)) (tgt := 54) hc2 (by decide) (by decide) rfl (by decide) dX10_waits_16 ?_
      refine go_aload_n dX10_waits_54 rfl ?_
      obtain ⟨k8, H⟩ := H
      refine go_getI (k := 13) ⟨by decide, rfl, by decide, rfl⟩ k8 fl_X10_301 dX10_waits_55 ?_
      exact go_iret rfl rfl dX10_waits_58 ⟨_, rfl, H⟩
    replace H := H.2
    replace H := H ⟨hc0, hc1, hc2⟩
    have he0 : (x2).toInt ≠ 0 := fun h => hc0 (Int32.toInt_inj.mp (h.trans (by decide)))
    have he1 : (x2).toInt ≠ 1 := fun h => hc1 (Int32.toInt_inj.mp (h.trans (by decide)))
    have he2 : (x2).toInt ≠ 2 := fun h => hc2 (Int32.toInt_inj.mp (h.trans (by decide)))
    refine go_tabOut (tgt := 59) (by omega) (by decide) dX10_waits_16 ?_
    refine go_iconst (v := (-1 : Int32)) rfl dX10_waits_59 ?_
    exact go_iret rfl rfl dX10_waits_60 ⟨_, rfl, H⟩
  · replace H := H.2 hc
    refine go_iconst (v := (-1 : Int32)) rfl dX10_waits_13 ?_
    exact go_iret rfl rfl dX10_waits_14 ⟨_, rfl, H⟩
set_option maxRecDepth 20000 in
theorem wc_X10_share_0 {M : mm_T} {a0 : Nat} {x1 x2 : Int32} {P : Int32 → mm_T → Prop} (K0 : mm_k M a0 = (10, 14)) (H : mm_k M (mm_r M a0 0) = (0, 4) ∧ (cs_r mt_X0_laneAt [pv_r (mm_r M a0 0), pv_i x1] M (fun v3 M2 => (((¬ v3 = 0) → ((x2 = (0 : Int32)) → mm_k M2 v3 = (3, 14) ∧ (mm_k M2 (mm_r M2 a0 0) = (0, 4) ∧ (cs_i mt_X0_takenSizes [pv_r (mm_r M2 a0 0)] M2 (fun v9 M8 => cs_i mt_X10_thousandths [pv_i (mm_i M2 v3 9), pv_i v9] M8 (fun v15 M14 => P v15 M14))))) ∧ ((x2 = (1 : Int32)) → mm_k M2 v3 = (3, 14) ∧ (mm_k M2 (mm_r M2 a0 0) = (0, 4) ∧ (cs_i mt_X0_weights [pv_r (mm_r M2 a0 0)] M2 (fun v23 M22 => cs_i mt_X10_thousandths [pv_i (mm_i M2 v3 1), pv_i v23] M22 (fun v29 M28 => P v29 M28))))) ∧ ((x2 = (2 : Int32)) → cs_i mt_X10_placesIn [pv_r a0, pv_r v3] M2 (fun v35 M34 => P v35 M34)) ∧ ((x2 = (3 : Int32)) → mm_k M2 (mm_r M2 a0 0) = (0, 4) ∧ (cs_r mt_X0_longestWaiting [pv_r (mm_r M2 a0 0), pv_r v3] M2 (fun v40 M39 => cs_i mt_X10_numberOf [pv_r v40] M39 (fun v45 M44 => P v45 M44)))) ∧ ((x2 = (4 : Int32)) → mm_k M2 (mm_r M2 a0 0) = (0, 4) ∧ (cs_i mt_X0_waitingSizes [pv_r (mm_r M2 a0 0), pv_r v3] M2 (fun v51 M50 => P v51 M50))) ∧ ((¬ x2 = (0 : Int32) ∧ ¬ x2 = (1 : Int32) ∧ ¬ x2 = (2 : Int32) ∧ ¬ x2 = (3 : Int32) ∧ ¬ x2 = (4 : Int32)) → P (-1 : Int32) M2)) ∧ ((v3 = 0) → P (-1 : Int32) M2))))) : cw_i mt_X10_share 0 [some (pv_r a0), some (pv_i x1), some (pv_i x2), none] [] M P := by
  refine go_aload_n dX10_share_0 rfl ?_
  refine go_getR (k := 0) ⟨by decide, rfl, by decide, Or.inl ⟨_, rfl⟩⟩ K0 fl_X10_10 dX10_share_1 ?_
  refine go_iload_n dX10_share_4 rfl ?_
  obtain ⟨k1, H⟩ := H
  refine go_V (av := [pv_i x1]) (st := []) (ci := 0) ok_X0_laneAt ⟨by decide, by decide⟩ ml_X10_133 rfl (by decide) (fun v hv => by simp only [List.mem_cons, List.not_mem_nil, or_false] at hv; rcases hv with rfl <;> first | exact pv_1i | exact pv_1r) (Nat.le_of_ble_eq_true rfl) (fun _ h => h) (by decide) rfl k1 dX10_share_5 H (fun r M2 hq hS => ?_)
  obtain ⟨v3, rfl, H⟩ := hq
  have k4 : mm_k M2 a0 = (10, 14) := ks_S K0 (by decide) hS
  have k5 : mm_k M2 (mm_r M a0 0) = (0, 4) := ks_S k1 (by decide) hS
  show go_W mt_X10_share fr_C 8 [some (pv_r a0), some (pv_i x1), some (pv_i x2), none] [pv_r v3] M2 (qi_ P)
  refine go_astore_n (by decide) dX10_share_8 ?_
  show go_W mt_X10_share fr_C 9 [some (pv_r a0), some (pv_i x1), some (pv_i x2), some (pv_r v3)] [] M2 (qi_ P)
  refine go_aload_n dX10_share_9 rfl ?_
  refine go_ifnonnull (tgt := 15) dX10_share_10 (by decide) (fun hc => ?_) (fun hc => ?_)
  · replace H := H.1 hc
    refine go_iload_n dX10_share_15 rfl ?_
    by_cases hc0 : x2 = (0 : Int32)
    · replace H := H.1 hc0
      refine go_tabIn (v := (0 : Int32)) (tgt := 52) hc0 (by decide) (by decide) rfl (by decide) dX10_share_16 ?_
      refine go_aload_n dX10_share_52 rfl ?_
      obtain ⟨k6, H⟩ := H
      refine go_getI (k := 9) ⟨by decide, rfl, by decide, rfl⟩ k6 fl_X10_304 dX10_share_53 ?_
      refine go_aload_n dX10_share_56 rfl ?_
      refine go_getR (k := 0) ⟨by decide, rfl, by decide, Or.inl ⟨_, rfl⟩⟩ k4 fl_X10_10 dX10_share_57 ?_
      obtain ⟨k7, H⟩ := H
      refine go_V (av := []) (st := [pv_i (mm_i M2 v3 9)]) (ci := 0) ok_X0_takenSizes ⟨by decide, by decide⟩ ml_X10_307 rfl (by decide) (fun v hv => absurd hv List.not_mem_nil) (Nat.le_of_ble_eq_true rfl) (fun _ h => h) (by decide) rfl k7 dX10_share_60 H (fun r M8 hq hS => ?_)
      obtain ⟨v9, rfl, H⟩ := hq
      have k10 : mm_k M8 a0 = (10, 14) := ks_S k4 (by decide) hS
      have k11 : mm_k M8 (mm_r M a0 0) = (0, 4) := ks_S k5 (by decide) hS
      have k12 : mm_k M8 v3 = (3, 14) := ks_S k6 (by decide) hS
      have k13 : mm_k M8 (mm_r M2 a0 0) = (0, 4) := ks_S k7 (by decide) hS
      show go_W mt_X10_share fr_C 63 [some (pv_r a0), some (pv_i x1), some (pv_i x2), some (pv_r v3)] [pv_i v9, pv_i (mm_i M2 v3 9)] M8 (qi_ P)
      refine go_St (av := [pv_i (mm_i M2 v3 9), pv_i v9]) (st := []) ok_X10_thousandths ⟨by decide, by decide⟩ ml_X10_310 rfl (by decide) (fun v hv => by simp only [List.mem_cons, List.not_mem_nil, or_false] at hv; rcases hv with rfl | rfl <;> first | exact pv_1i | exact pv_1r) (Nat.le_of_ble_eq_true rfl) (fun _ h => h) dX10_share_63 H (fun r M14 hq hS => ?_)
      obtain ⟨v15, rfl, H⟩ := hq
      have k16 : mm_k M14 a0 = (10, 14) := ks_S k10 (by decide) hS
      have k17 : mm_k M14 (mm_r M a0 0) = (0, 4) := ks_S k11 (by decide) hS
      have k18 : mm_k M14 v3 = (3, 14) := ks_S k12 (by decide) hS
      have k19 : mm_k M14 (mm_r M2 a0 0) = (0, 4) := ks_S k13 (by decide) hS
      show go_W mt_X10_share fr_C 66 [some (pv_r a0), some (pv_i x1), some (pv_i x2), some (pv_r v3)] [pv_i v15] M14 (qi_ P)
      exact go_iret rfl rfl dX10_share_66 ⟨_, rfl, H⟩
    replace H := H.2
    by_cases hc1 : x2 = (1 : Int32)
    · replace H := H.1 hc1
      refine go_tabIn (v := (1 : Int32)) (tgt := 67) hc1 (by decide) (by decide) rfl (by decide) dX10_share_16 ?_
      refine go_aload_n dX10_share_67 rfl ?_
      obtain ⟨k20, H⟩ := H
      refine go_getI (k := 1) ⟨by decide, rfl, by decide, rfl⟩ k20 fl_X10_313 dX10_share_68 ?_
      refine go_aload_n dX10_share_71 rfl ?_
      refine go_getR (k := 0) ⟨by decide, rfl, by decide, Or.inl ⟨_, rfl⟩⟩ k4 fl_X10_10 dX10_share_72 ?_
      obtain ⟨k21, H⟩ := H
      refine go_V (av := []) (st := [pv_i (mm_i M2 v3 1)]) (ci := 0) ok_X0_weights ⟨by decide, by decide⟩ ml_X10_316 rfl (by decide) (fun v hv => absurd hv List.not_mem_nil) (Nat.le_of_ble_eq_true rfl) (fun _ h => h) (by decide) rfl k21 dX10_share_75 H (fun r M22 hq hS => ?_)
      obtain ⟨v23, rfl, H⟩ := hq
      have k24 : mm_k M22 a0 = (10, 14) := ks_S k4 (by decide) hS
      have k25 : mm_k M22 (mm_r M a0 0) = (0, 4) := ks_S k5 (by decide) hS
      have k26 : mm_k M22 v3 = (3, 14) := ks_S k20 (by decide) hS
      have k27 : mm_k M22 (mm_r M2 a0 0) = (0, 4) := ks_S k21 (by decide) hS
      show go_W mt_X10_share fr_C 78 [some (pv_r a0), some (pv_i x1), some (pv_i x2), some (pv_r v3)] [pv_i v23, pv_i (mm_i M2 v3 1)] M22 (qi_ P)
      refine go_St (av := [pv_i (mm_i M2 v3 1), pv_i v23]) (st := []) ok_X10_thousandths ⟨by decide, by decide⟩ ml_X10_310 rfl (by decide) (fun v hv => by simp only [List.mem_cons, List.not_mem_nil, or_false] at hv; rcases hv with rfl | rfl <;> first | exact pv_1i | exact pv_1r) (Nat.le_of_ble_eq_true rfl) (fun _ h => h) dX10_share_78 H (fun r M28 hq hS => ?_)
      obtain ⟨v29, rfl, H⟩ := hq
      have k30 : mm_k M28 a0 = (10, 14) := ks_S k24 (by decide) hS
      have k31 : mm_k M28 (mm_r M a0 0) = (0, 4) := ks_S k25 (by decide) hS
      have k32 : mm_k M28 v3 = (3, 14) := ks_S k26 (by decide) hS
      have k33 : mm_k M28 (mm_r M2 a0 0) = (0, 4) := ks_S k27 (by decide) hS
      show go_W mt_X10_share fr_C 81 [some (pv_r a0), some (pv_i x1), some (pv_i x2), some (pv_r v3)] [pv_i v29] M28 (qi_ P)
      exact go_iret rfl rfl dX10_share_81 ⟨_, rfl, H⟩
    replace H := H.2
    by_cases hc2 : x2 = (2 : Int32)
    · replace H := H.1 hc2
      refine go_tabIn (v := (2 : Int32)) (tgt := 82) hc2 (by decide) (by decide) rfl (by decide) dX10_share_16 ?_
      refine go_aload_n dX10_share_82 rfl ?_
      refine go_aload_n dX10_share_83 rfl ?_
      refine go_V (av := [pv_r v3]) (st := []) (ci := 10) ok_X10_placesIn ⟨by decide, by decide⟩ ml_X10_319 rfl (by decide) (fun v hv => by simp only [List.mem_cons, List.not_mem_nil, or_false] at hv; rcases hv with rfl <;> first | exact pv_1i | exact pv_1r) (Nat.le_of_ble_eq_true rfl) (fun _ h => h) (by decide) rfl k4 dX10_share_84 H (fun r M34 hq hS => ?_)
      obtain ⟨v35, rfl, H⟩ := hq
      have k36 : mm_k M34 a0 = (10, 14) := ks_S k4 (by decide) hS
      have k37 : mm_k M34 (mm_r M a0 0) = (0, 4) := ks_S k5 (by decide) hS
      show go_W mt_X10_share fr_C 87 [some (pv_r a0), some (pv_i x1), some (pv_i x2), some (pv_r v3)] [pv_i v35] M34 (qi_ P)
      exact go_iret rfl rfl dX10_share_87 ⟨_, rfl, H⟩
    replace H := H.2
    by_cases hc3 : x2 = (3 : Int32)
    · replace H := H.1 hc3
      refine go_tabIn (v := (3 : Int32)) (tgt := 88) hc3 (by decide) (by decide) rfl (by decide) dX10_share_16 ?_
      refine go_aload_n dX10_share_88 rfl ?_
      refine go_getR (k := 0) ⟨by decide, rfl, by decide, Or.inl ⟨_, rfl⟩⟩ k4 fl_X10_10 dX10_share_89 ?_
      refine go_aload_n dX10_share_92 rfl ?_
      obtain ⟨k38, H⟩ := H
      refine go_V (av := [pv_r v3]) (st := []) (ci := 0) ok_X0_longestWaiting ⟨by decide, by decide⟩ ml_X10_323 rfl (by decide) (fun v hv => by simp only [List.mem_cons, List.not_mem_nil, or_false] at hv; rcases hv with rfl <;> first | exact pv_1i | exact pv_1r) (Nat.le_of_ble_eq_true rfl) (fun _ h => h) (by decide) rfl k38 dX10_share_93 H (fun r M39 hq hS => ?_)
      obtain ⟨v40, rfl, H⟩ := hq
      have k41 : mm_k M39 a0 = (10, 14) := ks_S k4 (by decide) hS
      have k42 : mm_k M39 (mm_r M a0 0) = (0, 4) := ks_S k5 (by decide) hS
      have k43 : mm_k M39 (mm_r M2 a0 0) = (0, 4) := ks_S k38 (by decide) hS
      show go_W mt_X10_share fr_C 96 [some (pv_r a0), some (pv_i x1), some (pv_i x2), some (pv_r v3)] [pv_r v40] M39 (qi_ P)
      refine go_St (av := [pv_r v40]) (st := []) ok_X10_numberOf ⟨by decide, by decide⟩ ml_X10_283 rfl (by decide) (fun v hv => by simp only [List.mem_cons, List.not_mem_nil, or_false] at hv; rcases hv with rfl <;> first | exact pv_1i | exact pv_1r) (Nat.le_of_ble_eq_true rfl) (fun _ h => h) dX10_share_96 H (fun r M44 hq hS => ?_)
      obtain ⟨v45, rfl, H⟩ := hq
      have k46 : mm_k M44 a0 = (10, 14) := ks_S k41 (by decide) hS
      have k47 : mm_k M44 (mm_r M a0 0) = (0, 4) := ks_S k42 (by decide) hS
      have k48 : mm_k M44 (mm_r M2 a0 0) = (0, 4) := ks_S k43 (by decide) hS
      show go_W mt_X10_share fr_C 99 [some (pv_r a0), some (pv_i x1), some (pv_i x2), some (pv_r v3)] [pv_i v45] M44 (qi_ P)
      exact go_iret rfl rfl dX10_share_99 ⟨_, rfl, H⟩
    replace H := H.2
    by_cases hc4 : x2 = (4 : Int32)
    · replace H := H.1 hc4
      refine go_tabIn (v := (4 : Int32)) (tgt := 100) hc4 (by decide) (by decide) rfl (by decide) dX10_share_16 ?_
      refine go_aload_n dX10_share_100 rfl ?_
      refine go_getR (k := 0) ⟨by decide, rfl, by decide, Or.inl ⟨_, rfl⟩⟩ k4 fl_X10_10 dX10_share_101 ?_
      refine go_aload_n dX10_share_104 rfl ?_
      obtain ⟨k49, H⟩ := H
      refine go_V (av := [pv_r v3]) (st := []) (ci := 0) ok_X0_waitingSizes ⟨by decide, by decide⟩ ml_X10_327 rfl (by decide) (fun v hv => by simp only [List.mem_cons, List.not_mem_nil, or_false] at hv; rcases hv with rfl <;> first | exact pv_1i | exact pv_1r) (Nat.le_of_ble_eq_true rfl) (fun _ h => h) (by decide) rfl k49 dX10_share_105 H (fun r M50 hq hS => ?_)
      obtain ⟨v51, rfl, H⟩ := hq
      have k52 : mm_k M50 a0 = (10, 14) := ks_S k4 (by decide) hS
      have k53 : mm_k M50 (mm_r M a0 0) = (0, 4) := ks_S k5 (by decide) hS
      have k54 : mm_k M50 (mm_r M2 a0 0) = (0, 4) := ks_S k49 (by decide) hS
      show go_W mt_X10_share fr_C 108 [some (pv_r a0), some (pv_i x1), some (pv_i x2), some (pv_r v3)] [pv_i v51] M50 (qi_ P)
      exact go_iret rfl rfl dX10_share_108 ⟨_, rfl, H⟩
    replace H := H.2
    replace H := H ⟨hc0, hc1, hc2, hc3, hc4⟩
    have he0 : (x2).toInt ≠ 0 := fun h => hc0 (Int32.toInt_inj.mp (h.trans (by decide)))
    have he1 : (x2).toInt ≠ 1 := fun h => hc1 (Int32.toInt_inj.mp (h.trans (by decide)))
    have he2 : (x2).toInt ≠ 2 := fun h => hc2 (Int32.toInt_inj.mp (h.trans (by decide)))
    have he3 : (x2).toInt ≠ 3 := fun h => hc3 (Int32.toInt_inj.mp (h.trans (by decide)))
    have he4 : (x2).toInt ≠ 4 := fun h => hc4 (Int32.toInt_inj.mp (h.trans (by decide)))
    refine go_tabOut (tgt := 109) (by omega) (by decide) dX10_share_16 ?_
    refine go_iconst (v := (-1 : Int32)) rfl dX10_share_109 ?_
    exact go_iret rfl rfl dX10_share_110 ⟨_, rfl, H⟩
  · replace H := H.2 hc
    refine go_iconst (v := (-1 : Int32)) rfl dX10_share_13 ?_
    exact go_iret rfl rfl dX10_share_14 ⟨_, rfl, H⟩
set_option maxRecDepth 20000 in
theorem wc_X10_path_0 {M : mm_T} {a0 : Nat} {x1 x2 : Int32} {P : Int32 → mm_T → Prop} (K0 : mm_k M a0 = (10, 14)) (H : (((0 ≤ x2) → cs_r mt_X10_taskAt [pv_r a0, pv_i x1] M (fun v2 M1 => cw_i mt_X10_path 15 [some (pv_r a0), some (pv_i x1), some (pv_i x2), some (pv_i (0 : Int32)), some (pv_r v2)] [] M1 P)) ∧ ((¬ 0 ≤ x2) → P (-1 : Int32) M))) : cw_i mt_X10_path 0 [some (pv_r a0), some (pv_i x1), some (pv_i x2), none, none] [] M P := by
  refine go_iload_n dX10_path_0 rfl ?_
  refine go_if_ge (tgt := 6) dX10_path_1 (by decide) (fun hc => ?_) (fun hc => ?_)
  · replace H := H.1 hc
    refine go_iconst (v := (0 : Int32)) rfl dX10_path_6 ?_
    refine go_istore_n (by decide) dX10_path_7 ?_
    show go_W mt_X10_path fr_C 8 [some (pv_r a0), some (pv_i x1), some (pv_i x2), some (pv_i (0 : Int32)), none] [] M (qi_ P)
    refine go_aload_n dX10_path_8 rfl ?_
    refine go_iload_n dX10_path_9 rfl ?_
    refine go_V (av := [pv_i x1]) (st := []) (ci := 10) ok_X10_taskAt ⟨by decide, by decide⟩ ml_X10_171 rfl (by decide) (fun v hv => by simp only [List.mem_cons, List.not_mem_nil, or_false] at hv; rcases hv with rfl <;> first | exact pv_1i | exact pv_1r) (Nat.le_of_ble_eq_true rfl) (fun _ h => h) (by decide) rfl K0 dX10_path_10 H (fun r M1 hq hS => ?_)
    obtain ⟨v2, rfl, H⟩ := hq
    have k3 : mm_k M1 a0 = (10, 14) := ks_S K0 (by decide) hS
    show go_W mt_X10_path fr_C 13 [some (pv_r a0), some (pv_i x1), some (pv_i x2), some (pv_i (0 : Int32)), none] [pv_r v2] M1 (qi_ P)
    refine go_astore (by decide) dX10_path_13 ?_
    show go_W mt_X10_path fr_C 15 [some (pv_r a0), some (pv_i x1), some (pv_i x2), some (pv_i (0 : Int32)), some (pv_r v2)] [] M1 (qi_ P)
    exact H
  · replace H := H.2 hc
    refine go_iconst (v := (-1 : Int32)) rfl dX10_path_4 ?_
    exact go_iret rfl rfl dX10_path_5 ⟨_, rfl, H⟩
set_option maxRecDepth 20000 in
theorem wc_X10_path_15 {M : mm_T} {a0 a4 : Nat} {x1 x2 x3 : Int32} {P : Int32 → mm_T → Prop} (K0 : mm_k M a0 = (10, 14)) (H : (((a4 = 0) → P (-1 : Int32) M) ∧ ((¬ a4 = 0) → (((¬ x3 = x2) → mm_k M a4 = (6, 17) ∧ (cw_i mt_X10_path 15 [some (pv_r a0), some (pv_i x1), some (pv_i x2), some (pv_i (x3 + (1 : Int32))), some (pv_r (mm_r M a4 1))] [] M P)) ∧ ((x3 = x2) → mm_k M a4 = (6, 17) ∧ (P (mm_i M a4 0) M)))))) : cw_i mt_X10_path 15 [some (pv_r a0), some (pv_i x1), some (pv_i x2), some (pv_i x3), some (pv_r a4)] [] M P := by
  refine go_aload dX10_path_15 rfl ?_
  refine go_ifnull (tgt := 44) dX10_path_17 (by decide) (fun hc => ?_) (fun hc => ?_)
  · replace H := H.1 hc
    refine go_iconst (v := (-1 : Int32)) rfl dX10_path_44 ?_
    exact go_iret rfl rfl dX10_path_45 ⟨_, rfl, H⟩
  · replace H := H.2 hc
    refine go_iload_n dX10_path_20 rfl ?_
    refine go_iload_n dX10_path_21 rfl ?_
    refine go_icmp_ne (tgt := 31) dX10_path_22 (by decide) (fun hc => ?_) (fun hc => ?_)
    · replace H := H.1 hc
      refine go_iinc (v := (1 : Int32)) (by decide) rfl rfl dX10_path_31 ?_
      show go_W mt_X10_path fr_C 34 [some (pv_r a0), some (pv_i x1), some (pv_i x2), some (pv_i (x3 + (1 : Int32))), some (pv_r a4)] [] M (qi_ P)
      refine go_aload dX10_path_34 rfl ?_
      obtain ⟨k1, H⟩ := H
      refine go_getR (k := 1) ⟨by decide, rfl, by decide, Or.inl ⟨_, rfl⟩⟩ k1 fl_X10_330 dX10_path_36 ?_
      refine go_astore (by decide) dX10_path_39 ?_
      show go_W mt_X10_path fr_C 41 [some (pv_r a0), some (pv_i x1), some (pv_i x2), some (pv_i (x3 + (1 : Int32))), some (pv_r (mm_r M a4 1))] [] M (qi_ P)
      refine go_goto (tgt := 15) dX10_path_41 (by decide) ?_
      exact H
    · replace H := H.2 hc
      refine go_aload dX10_path_25 rfl ?_
      obtain ⟨k2, H⟩ := H
      refine go_getI (k := 0) ⟨by decide, rfl, by decide, rfl⟩ k2 fl_X10_95 dX10_path_27 ?_
      exact go_iret rfl rfl dX10_path_30 ⟨_, rfl, H⟩
set_option maxRecDepth 20000 in
theorem wc_X10_ahead_0 {M : mm_T} {a0 : Nat} {x1 : Int32} {P : Int32 → mm_T → Prop} (K0 : mm_k M a0 = (10, 14)) (H : (((x1 < 0) → P (-1 : Int32) M) ∧ ((¬ x1 < 0) → mm_k M (mm_r M a0 0) = (0, 4) ∧ (∃ l2, ak_ M (mm_r M (mm_r M a0 0) 2) 0 l2 ∧ (0 < l2 ∧ ((((x1 < mm_i M (mm_r M (mm_r M a0 0) 2) 0) → mm_k M (mm_r M a0 1) = (8, 8) ∧ (cs_i mt_X8_takenAt [pv_r (mm_r M a0 1), pv_r (mm_r M a0 0), pv_i x1] M (fun v7 M6 => P v7 M6))) ∧ ((¬ x1 < mm_i M (mm_r M (mm_r M a0 0) 2) 0) → P (-1 : Int32) M)))))))) : cw_i mt_X10_ahead 0 [some (pv_r a0), some (pv_i x1)] [] M P := by
  refine go_iload_n dX10_ahead_0 rfl ?_
  refine go_if_lt (tgt := 17) dX10_ahead_1 (by decide) (fun hc => ?_) (fun hc => ?_)
  · replace H := H.1 hc
    refine go_iconst (v := (-1 : Int32)) rfl dX10_ahead_17 ?_
    exact go_iret rfl rfl dX10_ahead_18 ⟨_, rfl, H⟩
  · replace H := H.2 hc
    refine go_iload_n dX10_ahead_4 rfl ?_
    refine go_aload_n dX10_ahead_5 rfl ?_
    refine go_getR (k := 0) ⟨by decide, rfl, by decide, Or.inl ⟨_, rfl⟩⟩ K0 fl_X10_10 dX10_ahead_6 ?_
    obtain ⟨k1, H⟩ := H
    refine go_getR (k := 2) ⟨by decide, rfl, by decide, Or.inr ⟨_, rfl⟩⟩ k1 fl_X10_251 dX10_ahead_9 ?_
    refine go_iconst (v := (0 : Int32)) rfl dX10_ahead_12 ?_
    obtain ⟨l2, k3, H⟩ := H
    obtain ⟨hb4, H⟩ := H
    refine go_ialdA (j := 0) k3 rfl hb4 dX10_ahead_13 ?_
    refine go_icmp_lt (tgt := 19) dX10_ahead_14 (by decide) (fun hc => ?_) (fun hc => ?_)
    · replace H := H.1 hc
      refine go_aload_n dX10_ahead_19 rfl ?_
      refine go_getR (k := 1) ⟨by decide, rfl, by decide, Or.inl ⟨_, rfl⟩⟩ K0 fl_X10_19 dX10_ahead_20 ?_
      refine go_aload_n dX10_ahead_23 rfl ?_
      refine go_getR (k := 0) ⟨by decide, rfl, by decide, Or.inl ⟨_, rfl⟩⟩ K0 fl_X10_10 dX10_ahead_24 ?_
      refine go_iload_n dX10_ahead_27 rfl ?_
      obtain ⟨k5, H⟩ := H
      refine go_V (av := [pv_r (mm_r M a0 0), pv_i x1]) (st := []) (ci := 8) ok_X8_takenAt ⟨by decide, by decide⟩ ml_X10_333 rfl (by decide) (fun v hv => by simp only [List.mem_cons, List.not_mem_nil, or_false] at hv; rcases hv with rfl | rfl <;> first | exact pv_1i | exact pv_1r) (Nat.le_of_ble_eq_true rfl) (fun _ h => h) (by decide) rfl k5 dX10_ahead_28 H (fun r M6 hq hS => ?_)
      obtain ⟨v7, rfl, H⟩ := hq
      have k8 : mm_k M6 a0 = (10, 14) := ks_S K0 (by decide) hS
      have k9 : mm_k M6 (mm_r M a0 0) = (0, 4) := ks_S k1 (by decide) hS
      have k10 : mm_k M6 (mm_r M a0 1) = (8, 8) := ks_S k5 (by decide) hS
      have k11 : ak_ M6 (mm_r M (mm_r M a0 0) 2) 0 l2 := ak_S k3 hS
      show go_W mt_X10_ahead fr_C 31 [some (pv_r a0), some (pv_i x1)] [pv_i v7] M6 (qi_ P)
      exact go_iret rfl rfl dX10_ahead_31 ⟨_, rfl, H⟩
    · replace H := H.2 hc
      refine go_iconst (v := (-1 : Int32)) rfl dX10_ahead_17 ?_
      exact go_iret rfl rfl dX10_ahead_18 ⟨_, rfl, H⟩
set_option maxRecDepth 20000 in
theorem wc_X10_turnOf_0 {M : mm_T} {a0 : Nat} {x1 : Int32} {P : Int32 → mm_T → Prop} (K0 : mm_k M a0 = (10, 14)) (H : cs_r mt_X10_taskAt [pv_r a0, pv_i x1] M (fun v2 M1 => (((v2 = 0) → P (-1 : Int32) M1) ∧ ((¬ v2 = 0) → mm_k M1 v2 = (6, 17) ∧ ((((mm_i M1 v2 7 = 0) → mm_k M1 (mm_r M1 a0 1) = (8, 8) ∧ (cs_i mt_X8_turnIn [pv_r (mm_r M1 a0 1), pv_r (mm_r M1 a0 0), pv_r v2, pv_r (mm_r M1 v2 2)] M1 (fun v7 M6 => P v7 M6))) ∧ ((¬ mm_i M1 v2 7 = 0) → P (-1 : Int32) M1))))))) : cw_i mt_X10_turnOf 0 [some (pv_r a0), some (pv_i x1), none] [] M P := by
  refine go_aload_n dX10_turnOf_0 rfl ?_
  refine go_iload_n dX10_turnOf_1 rfl ?_
  refine go_V (av := [pv_i x1]) (st := []) (ci := 10) ok_X10_taskAt ⟨by decide, by decide⟩ ml_X10_171 rfl (by decide) (fun v hv => by simp only [List.mem_cons, List.not_mem_nil, or_false] at hv; rcases hv with rfl <;> first | exact pv_1i | exact pv_1r) (Nat.le_of_ble_eq_true rfl) (fun _ h => h) (by decide) rfl K0 dX10_turnOf_2 H (fun r M1 hq hS => ?_)
  obtain ⟨v2, rfl, H⟩ := hq
  have k3 : mm_k M1 a0 = (10, 14) := ks_S K0 (by decide) hS
  show go_W mt_X10_turnOf fr_C 5 [some (pv_r a0), some (pv_i x1), none] [pv_r v2] M1 (qi_ P)
  refine go_astore_n (by decide) dX10_turnOf_5 ?_
  show go_W mt_X10_turnOf fr_C 6 [some (pv_r a0), some (pv_i x1), some (pv_r v2)] [] M1 (qi_ P)
  refine go_aload_n dX10_turnOf_6 rfl ?_
  refine go_ifnull (tgt := 17) dX10_turnOf_7 (by decide) (fun hc => ?_) (fun hc => ?_)
  · replace H := H.1 hc
    refine go_iconst (v := (-1 : Int32)) rfl dX10_turnOf_17 ?_
    refine go_goto (tgt := 37) dX10_turnOf_18 (by decide) ?_
    exact go_iret rfl rfl dX10_turnOf_37 ⟨_, rfl, H⟩
  · replace H := H.2 hc
    refine go_aload_n dX10_turnOf_10 rfl ?_
    obtain ⟨k4, H⟩ := H
    refine go_getI (k := 7) ⟨by decide, rfl, by decide, rfl⟩ k4 fl_X10_105 dX10_turnOf_11 ?_
    refine go_if_eq (tgt := 21) dX10_turnOf_14 (by decide) (fun hc => ?_) (fun hc => ?_)
    · replace H := H.1 hc
      refine go_aload_n dX10_turnOf_21 rfl ?_
      refine go_getR (k := 1) ⟨by decide, rfl, by decide, Or.inl ⟨_, rfl⟩⟩ k3 fl_X10_19 dX10_turnOf_22 ?_
      refine go_aload_n dX10_turnOf_25 rfl ?_
      refine go_getR (k := 0) ⟨by decide, rfl, by decide, Or.inl ⟨_, rfl⟩⟩ k3 fl_X10_10 dX10_turnOf_26 ?_
      refine go_aload_n dX10_turnOf_29 rfl ?_
      refine go_aload_n dX10_turnOf_30 rfl ?_
      refine go_getR (k := 2) ⟨by decide, rfl, by decide, Or.inl ⟨_, rfl⟩⟩ k4 fl_X10_191 dX10_turnOf_31 ?_
      obtain ⟨k5, H⟩ := H
      refine go_V (av := [pv_r (mm_r M1 a0 0), pv_r v2, pv_r (mm_r M1 v2 2)]) (st := []) (ci := 8) ok_X8_turnIn ⟨by decide, by decide⟩ ml_X10_337 rfl (by decide) (fun v hv => by simp only [List.mem_cons, List.not_mem_nil, or_false] at hv; rcases hv with rfl | rfl | rfl <;> first | exact pv_1i | exact pv_1r) (Nat.le_of_ble_eq_true rfl) (fun _ h => h) (by decide) rfl k5 dX10_turnOf_34 H (fun r M6 hq hS => ?_)
      obtain ⟨v7, rfl, H⟩ := hq
      have k8 : mm_k M6 a0 = (10, 14) := ks_S k3 (by decide) hS
      have k9 : mm_k M6 v2 = (6, 17) := ks_S k4 (by decide) hS
      have k10 : mm_k M6 (mm_r M1 a0 1) = (8, 8) := ks_S k5 (by decide) hS
      show go_W mt_X10_turnOf fr_C 37 [some (pv_r a0), some (pv_i x1), some (pv_r v2)] [pv_i v7] M6 (qi_ P)
      exact go_iret rfl rfl dX10_turnOf_37 ⟨_, rfl, H⟩
    · replace H := H.2 hc
      refine go_iconst (v := (-1 : Int32)) rfl dX10_turnOf_17 ?_
      refine go_goto (tgt := 37) dX10_turnOf_18 (by decide) ?_
      exact go_iret rfl rfl dX10_turnOf_37 ⟨_, rfl, H⟩
set_option maxRecDepth 20000 in
theorem wc_X10_bestLane_0 {M : mm_T} {a0 : Nat} {x1 x2 : Int32} {P : Int32 → mm_T → Prop} (K0 : mm_k M a0 = (10, 14)) (H : cs_r mt_X10_taskAt [pv_r a0, pv_i x1] M (fun v2 M1 => (((v2 = 0) → P (-1 : Int32) M1) ∧ ((¬ v2 = 0) → mm_k M1 v2 = (6, 17) ∧ ((((¬ mm_i M1 v2 7 = 0) → P (-1 : Int32) M1) ∧ ((mm_i M1 v2 7 = 0) → (((x2 < 0) → P (-1 : Int32) M1) ∧ ((¬ x2 < 0) → (((x2 ≤ (1 : Int32)) → mm_k M1 (mm_r M1 a0 0) = (0, 4) ∧ (∃ l6, ak_ M1 (mm_r M1 (mm_r M1 a0 0) 0) 2 l6 ∧ (cw_i mt_X10_bestLane 51 [some (pv_r a0), some (pv_i x1), some (pv_i x2), some (pv_r v2), some (pv_i (-1 : Int32)), some (pv_i (0 : Int32)), some (pv_r (mm_r M1 (mm_r M1 a0 0) 0)), some (pv_i (nI l6)), some (pv_i (0 : Int32)), none, none] [] M1 P))) ∧ ((¬ x2 ≤ (1 : Int32)) → P (-1 : Int32) M1))))))))))) : cw_i mt_X10_bestLane 0 [some (pv_r a0), some (pv_i x1), some (pv_i x2), none, none, none, none, none, none, none, none] [] M P := by
  refine go_aload_n dX10_bestLane_0 rfl ?_
  refine go_iload_n dX10_bestLane_1 rfl ?_
  refine go_V (av := [pv_i x1]) (st := []) (ci := 10) ok_X10_taskAt ⟨by decide, by decide⟩ ml_X10_171 rfl (by decide) (fun v hv => by simp only [List.mem_cons, List.not_mem_nil, or_false] at hv; rcases hv with rfl <;> first | exact pv_1i | exact pv_1r) (Nat.le_of_ble_eq_true rfl) (fun _ h => h) (by decide) rfl K0 dX10_bestLane_2 H (fun r M1 hq hS => ?_)
  obtain ⟨v2, rfl, H⟩ := hq
  have k3 : mm_k M1 a0 = (10, 14) := ks_S K0 (by decide) hS
  show go_W mt_X10_bestLane fr_C 5 [some (pv_r a0), some (pv_i x1), some (pv_i x2), none, none, none, none, none, none, none, none] [pv_r v2] M1 (qi_ P)
  refine go_astore_n (by decide) dX10_bestLane_5 ?_
  show go_W mt_X10_bestLane fr_C 6 [some (pv_r a0), some (pv_i x1), some (pv_i x2), some (pv_r v2), none, none, none, none, none, none, none] [] M1 (qi_ P)
  refine go_aload_n dX10_bestLane_6 rfl ?_
  refine go_ifnull (tgt := 26) dX10_bestLane_7 (by decide) (fun hc => ?_) (fun hc => ?_)
  · replace H := H.1 hc
    refine go_iconst (v := (-1 : Int32)) rfl dX10_bestLane_26 ?_
    exact go_iret rfl rfl dX10_bestLane_27 ⟨_, rfl, H⟩
  · replace H := H.2 hc
    refine go_aload_n dX10_bestLane_10 rfl ?_
    obtain ⟨k4, H⟩ := H
    refine go_getI (k := 7) ⟨by decide, rfl, by decide, rfl⟩ k4 fl_X10_105 dX10_bestLane_11 ?_
    refine go_if_ne (tgt := 26) dX10_bestLane_14 (by decide) (fun hc => ?_) (fun hc => ?_)
    · replace H := H.1 hc
      refine go_iconst (v := (-1 : Int32)) rfl dX10_bestLane_26 ?_
      exact go_iret rfl rfl dX10_bestLane_27 ⟨_, rfl, H⟩
    · replace H := H.2 hc
      refine go_iload_n dX10_bestLane_17 rfl ?_
      refine go_if_lt (tgt := 26) dX10_bestLane_18 (by decide) (fun hc => ?_) (fun hc => ?_)
      · replace H := H.1 hc
        refine go_iconst (v := (-1 : Int32)) rfl dX10_bestLane_26 ?_
        exact go_iret rfl rfl dX10_bestLane_27 ⟨_, rfl, H⟩
      · replace H := H.2 hc
        refine go_iload_n dX10_bestLane_21 rfl ?_
        refine go_iconst (v := (1 : Int32)) rfl dX10_bestLane_22 ?_
        refine go_icmp_le (tgt := 28) dX10_bestLane_23 (by decide) (fun hc => ?_) (fun hc => ?_)
        · replace H := H.1 hc
          refine go_iconst (v := (-1 : Int32)) rfl dX10_bestLane_28 ?_
          refine go_istore (by decide) dX10_bestLane_29 ?_
          show go_W mt_X10_bestLane fr_C 31 [some (pv_r a0), some (pv_i x1), some (pv_i x2), some (pv_r v2), some (pv_i (-1 : Int32)), none, none, none, none, none, none] [] M1 (qi_ P)
          refine go_iconst (v := (0 : Int32)) rfl dX10_bestLane_31 ?_
          refine go_istore (by decide) dX10_bestLane_32 ?_
          show go_W mt_X10_bestLane fr_C 34 [some (pv_r a0), some (pv_i x1), some (pv_i x2), some (pv_r v2), some (pv_i (-1 : Int32)), some (pv_i (0 : Int32)), none, none, none, none, none] [] M1 (qi_ P)
          refine go_aload_n dX10_bestLane_34 rfl ?_
          refine go_getR (k := 0) ⟨by decide, rfl, by decide, Or.inl ⟨_, rfl⟩⟩ k3 fl_X10_10 dX10_bestLane_35 ?_
          obtain ⟨k5, H⟩ := H
          refine go_getR (k := 0) ⟨by decide, rfl, by decide, Or.inr ⟨_, rfl⟩⟩ k5 fl_X10_341 dX10_bestLane_38 ?_
          refine go_astore (by decide) dX10_bestLane_41 ?_
          show go_W mt_X10_bestLane fr_C 43 [some (pv_r a0), some (pv_i x1), some (pv_i x2), some (pv_r v2), some (pv_i (-1 : Int32)), some (pv_i (0 : Int32)), some (pv_r (mm_r M1 (mm_r M1 a0 0) 0)), none, none, none, none] [] M1 (qi_ P)
          refine go_aload dX10_bestLane_43 rfl ?_
          obtain ⟨l6, k7, H⟩ := H
          refine go_alenA k7 dX10_bestLane_45 ?_
          refine go_istore (by decide) dX10_bestLane_46 ?_
          show go_W mt_X10_bestLane fr_C 48 [some (pv_r a0), some (pv_i x1), some (pv_i x2), some (pv_r v2), some (pv_i (-1 : Int32)), some (pv_i (0 : Int32)), some (pv_r (mm_r M1 (mm_r M1 a0 0) 0)), some (pv_i (nI l6)), none, none, none] [] M1 (qi_ P)
          refine go_iconst (v := (0 : Int32)) rfl dX10_bestLane_48 ?_
          refine go_istore (by decide) dX10_bestLane_49 ?_
          show go_W mt_X10_bestLane fr_C 51 [some (pv_r a0), some (pv_i x1), some (pv_i x2), some (pv_r v2), some (pv_i (-1 : Int32)), some (pv_i (0 : Int32)), some (pv_r (mm_r M1 (mm_r M1 a0 0) 0)), some (pv_i (nI l6)), some (pv_i (0 : Int32)), none, none] [] M1 (qi_ P)
          exact H
        · replace H := H.2 hc
          refine go_iconst (v := (-1 : Int32)) rfl dX10_bestLane_26 ?_
          exact go_iret rfl rfl dX10_bestLane_27 ⟨_, rfl, H⟩
set_option maxRecDepth 20000 in
theorem wc_X10_bestLane_51 {M : mm_T} {a0 a3 a6 : Nat} {x1 x2 x4 x5 x7 x8 : Int32} {P : Int32 → mm_T → Prop} (K0 : mm_k M a0 = (10, 14)) (H : (((x7 ≤ x8) → (((¬ x2 = 0) → P x5 M) ∧ ((x2 = 0) → P x4 M))) ∧ ((¬ x7 ≤ x8) → ∃ l1, ak_ M a6 2 l1 ∧ (∃ n4, (x8 = nI n4 ∧ n4 < l1) ∧ (mm_k M a3 = (6, 17) ∧ ((mm_r M a6 n4 = 0 ∨ ob_ M (mm_r M a6 n4)) ∧ (mm_r M a3 2 = 0 ∨ ob_ M (mm_r M a3 2)) ∧ (((mm_r M a6 n4 = mm_r M a3 2) → mm_k M (mm_r M a0 1) = (8, 8) ∧ (cs_i mt_X8_turnIn [pv_r (mm_r M a0 1), pv_r (mm_r M a0 0), pv_r a3, pv_r (mm_r M a6 n4)] M (fun v10 M9 => (((x4 = (-1 : Int32)) → mm_k M9 (mm_r M a6 n4) = (3, 14) ∧ (cw_i mt_X10_bestLane 51 [some (pv_r a0), some (pv_i x1), some (pv_i x2), some (pv_r a3), some (pv_i (mm_i M9 (mm_r M a6 n4) 0)), some (pv_i v10), some (pv_r a6), some (pv_i x7), some (pv_i (nI (n4 + 1))), none, none] [] M9 P)) ∧ ((¬ x4 = (-1 : Int32)) → (((x5 ≤ v10) → cw_i mt_X10_bestLane 51 [some (pv_r a0), some (pv_i x1), some (pv_i x2), some (pv_r a3), some (pv_i x4), some (pv_i x5), some (pv_r a6), some (pv_i x7), some (pv_i (nI (n4 + 1))), none, none] [] M9 P) ∧ ((¬ x5 ≤ v10) → mm_k M9 (mm_r M a6 n4) = (3, 14) ∧ (cw_i mt_X10_bestLane 51 [some (pv_r a0), some (pv_i x1), some (pv_i x2), some (pv_r a3), some (pv_i (mm_i M9 (mm_r M a6 n4) 0)), some (pv_i v10), some (pv_r a6), some (pv_i x7), some (pv_i (nI (n4 + 1))), none, none] [] M9 P)))))))) ∧ ((¬ mm_r M a6 n4 = mm_r M a3 2) → mm_k M (mm_r M a6 n4) = (3, 14) ∧ ((((¬ mm_i M (mm_r M a6 n4) 4 = 0) → cw_i mt_X10_bestLane 51 [some (pv_r a0), some (pv_i x1), some (pv_i x2), some (pv_r a3), some (pv_i x4), some (pv_i x5), some (pv_r a6), some (pv_i x7), some (pv_i (nI (n4 + 1))), none, none] [] M P) ∧ ((mm_i M (mm_r M a6 n4) 4 = 0) → cs_i mt_X3_hasRoom [pv_r (mm_r M a6 n4)] M (fun v19 M18 => (((¬ v19 = 0) → mm_k M18 (mm_r M18 a0 1) = (8, 8) ∧ (cs_i mt_X8_turnIn [pv_r (mm_r M18 a0 1), pv_r (mm_r M18 a0 0), pv_r a3, pv_r (mm_r M a6 n4)] M18 (fun v26 M25 => (((x4 = (-1 : Int32)) → cw_i mt_X10_bestLane 51 [some (pv_r a0), some (pv_i x1), some (pv_i x2), some (pv_r a3), some (pv_i (mm_i M25 (mm_r M a6 n4) 0)), some (pv_i v26), some (pv_r a6), some (pv_i x7), some (pv_i (nI (n4 + 1))), none, none] [] M25 P) ∧ ((¬ x4 = (-1 : Int32)) → (((x5 ≤ v26) → cw_i mt_X10_bestLane 51 [some (pv_r a0), some (pv_i x1), some (pv_i x2), some (pv_r a3), some (pv_i x4), some (pv_i x5), some (pv_r a6), some (pv_i x7), some (pv_i (nI (n4 + 1))), none, none] [] M25 P) ∧ ((¬ x5 ≤ v26) → cw_i mt_X10_bestLane 51 [some (pv_r a0), some (pv_i x1), some (pv_i x2), some (pv_r a3), some (pv_i (mm_i M25 (mm_r M a6 n4) 0)), some (pv_i v26), some (pv_r a6), some (pv_i x7), some (pv_i (nI (n4 + 1))), none, none] [] M25 P))))))) ∧ ((v19 = 0) → cw_i mt_X10_bestLane 51 [some (pv_r a0), some (pv_i x1), some (pv_i x2), some (pv_r a3), some (pv_i x4), some (pv_i x5), some (pv_r a6), some (pv_i x7), some (pv_i (nI (n4 + 1))), none, none] [] M18 P)))))))))))))) : cw_i mt_X10_bestLane 51 [some (pv_r a0), some (pv_i x1), some (pv_i x2), some (pv_r a3), some (pv_i x4), some (pv_i x5), some (pv_r a6), some (pv_i x7), some (pv_i x8), none, none] [] M P := by
  refine go_iload dX10_bestLane_51 rfl ?_
  refine go_iload dX10_bestLane_53 rfl ?_
  refine go_icmp_ge (tgt := 139) dX10_bestLane_55 (by decide) (fun hc => ?_) (fun hc => ?_)
  · replace H := H.1 hc
    refine go_iload_n dX10_bestLane_139 rfl ?_
    refine go_if_ne (tgt := 148) dX10_bestLane_140 (by decide) (fun hc => ?_) (fun hc => ?_)
    · replace H := H.1 hc
      refine go_iload dX10_bestLane_148 rfl ?_
      exact go_iret rfl rfl dX10_bestLane_150 ⟨_, rfl, H⟩
    · replace H := H.2 hc
      refine go_iload dX10_bestLane_143 rfl ?_
      refine go_goto (tgt := 150) dX10_bestLane_145 (by decide) ?_
      exact go_iret rfl rfl dX10_bestLane_150 ⟨_, rfl, H⟩
  · replace H := H.2 hc
    refine go_aload dX10_bestLane_58 rfl ?_
    refine go_iload dX10_bestLane_60 rfl ?_
    obtain ⟨l1, k2, H⟩ := H
    obtain ⟨n4, ⟨hn4, hn4b⟩, H⟩ := H
    refine go_aaldA (j := n4) k2 (by decide) hn4 hn4b dX10_bestLane_62 ?_
    refine go_astore (by decide) dX10_bestLane_63 ?_
    show go_W mt_X10_bestLane fr_C 65 [some (pv_r a0), some (pv_i x1), some (pv_i x2), some (pv_r a3), some (pv_i x4), some (pv_i x5), some (pv_r a6), some (pv_i x7), some (pv_i x8), some (pv_r (mm_r M a6 n4)), none] [] M (qi_ P)
    refine go_aload dX10_bestLane_65 rfl ?_
    refine go_aload_n dX10_bestLane_67 rfl ?_
    obtain ⟨k5, H⟩ := H
    refine go_getR (k := 2) ⟨by decide, rfl, by decide, Or.inl ⟨_, rfl⟩⟩ k5 fl_X10_191 dX10_bestLane_68 ?_
    obtain ⟨ho6, H⟩ := H
    obtain ⟨ho7, H⟩ := H
    refine go_acmpO_eq (tgt := 93) ho6 ho7 dX10_bestLane_71 (by decide) (fun hc => ?_) (fun hc => ?_)
    · replace H := H.1 hc
      refine go_aload_n dX10_bestLane_93 rfl ?_
      refine go_getR (k := 1) ⟨by decide, rfl, by decide, Or.inl ⟨_, rfl⟩⟩ K0 fl_X10_19 dX10_bestLane_94 ?_
      refine go_aload_n dX10_bestLane_97 rfl ?_
      refine go_getR (k := 0) ⟨by decide, rfl, by decide, Or.inl ⟨_, rfl⟩⟩ K0 fl_X10_10 dX10_bestLane_98 ?_
      refine go_aload_n dX10_bestLane_101 rfl ?_
      refine go_aload dX10_bestLane_102 rfl ?_
      obtain ⟨k8, H⟩ := H
      refine go_V (av := [pv_r (mm_r M a0 0), pv_r a3, pv_r (mm_r M a6 n4)]) (st := []) (ci := 8) ok_X8_turnIn ⟨by decide, by decide⟩ ml_X10_337 rfl (by decide) (fun v hv => by simp only [List.mem_cons, List.not_mem_nil, or_false] at hv; rcases hv with rfl | rfl | rfl <;> first | exact pv_1i | exact pv_1r) (Nat.le_of_ble_eq_true rfl) (fun _ h => h) (by decide) rfl k8 dX10_bestLane_104 H (fun r M9 hq hS => ?_)
      obtain ⟨v10, rfl, H⟩ := hq
      have k11 : mm_k M9 a0 = (10, 14) := ks_S K0 (by decide) hS
      have k12 : mm_k M9 a3 = (6, 17) := ks_S k5 (by decide) hS
      have k13 : mm_k M9 (mm_r M a0 1) = (8, 8) := ks_S k8 (by decide) hS
      have k14 : ak_ M9 a6 2 l1 := ak_S k2 hS
      show go_W mt_X10_bestLane fr_C 107 [some (pv_r a0), some (pv_i x1), some (pv_i x2), some (pv_r a3), some (pv_i x4), some (pv_i x5), some (pv_r a6), some (pv_i x7), some (pv_i x8), some (pv_r (mm_r M a6 n4)), none] [pv_i v10] M9 (qi_ P)
      refine go_istore (by decide) dX10_bestLane_107 ?_
      show go_W mt_X10_bestLane fr_C 109 [some (pv_r a0), some (pv_i x1), some (pv_i x2), some (pv_r a3), some (pv_i x4), some (pv_i x5), some (pv_r a6), some (pv_i x7), some (pv_i x8), some (pv_r (mm_r M a6 n4)), some (pv_i v10)] [] M9 (qi_ P)
      refine go_iload dX10_bestLane_109 rfl ?_
      refine go_iconst (v := (-1 : Int32)) rfl dX10_bestLane_111 ?_
      refine go_icmp_eq (tgt := 122) dX10_bestLane_112 (by decide) (fun hc => ?_) (fun hc => ?_)
      · replace H := H.1 hc
        refine go_aload dX10_bestLane_122 rfl ?_
        obtain ⟨k15, H⟩ := H
        refine go_getI (k := 0) ⟨by decide, rfl, by decide, rfl⟩ k15 fl_X10_345 dX10_bestLane_124 ?_
        refine go_istore (by decide) dX10_bestLane_127 ?_
        show go_W mt_X10_bestLane fr_C 129 [some (pv_r a0), some (pv_i x1), some (pv_i x2), some (pv_r a3), some (pv_i (mm_i M9 (mm_r M a6 n4) 0)), some (pv_i x5), some (pv_r a6), some (pv_i x7), some (pv_i x8), some (pv_r (mm_r M a6 n4)), some (pv_i v10)] [] M9 (qi_ P)
        refine go_iload dX10_bestLane_129 rfl ?_
        refine go_istore (by decide) dX10_bestLane_131 ?_
        show go_W mt_X10_bestLane fr_C 133 [some (pv_r a0), some (pv_i x1), some (pv_i x2), some (pv_r a3), some (pv_i (mm_i M9 (mm_r M a6 n4) 0)), some (pv_i v10), some (pv_r a6), some (pv_i x7), some (pv_i x8), some (pv_r (mm_r M a6 n4)), some (pv_i v10)] [] M9 (qi_ P)
        refine go_iincN (n := n4) (k := 1) hn4 (by decide) rfl rfl dX10_bestLane_133 ?_
        show go_W mt_X10_bestLane fr_C 136 [some (pv_r a0), some (pv_i x1), some (pv_i x2), some (pv_r a3), some (pv_i (mm_i M9 (mm_r M a6 n4) 0)), some (pv_i v10), some (pv_r a6), some (pv_i x7), some (pv_i (nI (n4 + 1))), some (pv_r (mm_r M a6 n4)), some (pv_i v10)] [] M9 (qi_ P)
        refine go_goto (tgt := 51) dX10_bestLane_136 (by decide) ?_
        exact go_fg (ls' := [some (pv_r a0), some (pv_i x1), some (pv_i x2), some (pv_r a3), some (pv_i (mm_i M9 (mm_r M a6 n4) 0)), some (pv_i v10), some (pv_r a6), some (pv_i x7), some (pv_i (nI (n4 + 1))), none, none]) ⟨rfl, ⟨rfl, ⟨rfl, ⟨rfl, ⟨rfl, ⟨rfl, ⟨rfl, ⟨rfl, ⟨rfl, trivial⟩⟩⟩⟩⟩⟩⟩⟩⟩ H
      · replace H := H.2 hc
        refine go_iload dX10_bestLane_115 rfl ?_
        refine go_iload dX10_bestLane_117 rfl ?_
        refine go_icmp_ge (tgt := 133) dX10_bestLane_119 (by decide) (fun hc => ?_) (fun hc => ?_)
        · replace H := H.1 hc
          refine go_iincN (n := n4) (k := 1) hn4 (by decide) rfl rfl dX10_bestLane_133 ?_
          show go_W mt_X10_bestLane fr_C 136 [some (pv_r a0), some (pv_i x1), some (pv_i x2), some (pv_r a3), some (pv_i x4), some (pv_i x5), some (pv_r a6), some (pv_i x7), some (pv_i (nI (n4 + 1))), some (pv_r (mm_r M a6 n4)), some (pv_i v10)] [] M9 (qi_ P)
          refine go_goto (tgt := 51) dX10_bestLane_136 (by decide) ?_
          exact go_fg (ls' := [some (pv_r a0), some (pv_i x1), some (pv_i x2), some (pv_r a3), some (pv_i x4), some (pv_i x5), some (pv_r a6), some (pv_i x7), some (pv_i (nI (n4 + 1))), none, none]) ⟨rfl, ⟨rfl, ⟨rfl, ⟨rfl, ⟨rfl, ⟨rfl, ⟨rfl, ⟨rfl, ⟨rfl, trivial⟩⟩⟩⟩⟩⟩⟩⟩⟩ H
        · replace H := H.2 hc
          refine go_aload dX10_bestLane_122 rfl ?_
          obtain ⟨k16, H⟩ := H
          refine go_getI (k := 0) ⟨by decide, rfl, by decide, rfl⟩ k16 fl_X10_345 dX10_bestLane_124 ?_
          refine go_istore (by decide) dX10_bestLane_127 ?_
          show go_W mt_X10_bestLane fr_C 129 [some (pv_r a0), some (pv_i x1), some (pv_i x2), some (pv_r a3), some (pv_i (mm_i M9 (mm_r M a6 n4) 0)), some (pv_i x5), some (pv_r a6), some (pv_i x7), some (pv_i x8), some (pv_r (mm_r M a6 n4)), some (pv_i v10)] [] M9 (qi_ P)
          refine go_iload dX10_bestLane_129 rfl ?_
          refine go_istore (by decide) dX10_bestLane_131 ?_
          show go_W mt_X10_bestLane fr_C 133 [some (pv_r a0), some (pv_i x1), some (pv_i x2), some (pv_r a3), some (pv_i (mm_i M9 (mm_r M a6 n4) 0)), some (pv_i v10), some (pv_r a6), some (pv_i x7), some (pv_i x8), some (pv_r (mm_r M a6 n4)), some (pv_i v10)] [] M9 (qi_ P)
          refine go_iincN (n := n4) (k := 1) hn4 (by decide) rfl rfl dX10_bestLane_133 ?_
          show go_W mt_X10_bestLane fr_C 136 [some (pv_r a0), some (pv_i x1), some (pv_i x2), some (pv_r a3), some (pv_i (mm_i M9 (mm_r M a6 n4) 0)), some (pv_i v10), some (pv_r a6), some (pv_i x7), some (pv_i (nI (n4 + 1))), some (pv_r (mm_r M a6 n4)), some (pv_i v10)] [] M9 (qi_ P)
          refine go_goto (tgt := 51) dX10_bestLane_136 (by decide) ?_
          exact go_fg (ls' := [some (pv_r a0), some (pv_i x1), some (pv_i x2), some (pv_r a3), some (pv_i (mm_i M9 (mm_r M a6 n4) 0)), some (pv_i v10), some (pv_r a6), some (pv_i x7), some (pv_i (nI (n4 + 1))), none, none]) ⟨rfl, ⟨rfl, ⟨rfl, ⟨rfl, ⟨rfl, ⟨rfl, ⟨rfl, ⟨rfl, ⟨rfl, trivial⟩⟩⟩⟩⟩⟩⟩⟩⟩ H
    · replace H := H.2 hc
      refine go_aload dX10_bestLane_74 rfl ?_
      obtain ⟨k17, H⟩ := H
      refine go_getI (k := 4) ⟨by decide, rfl, by decide, rfl⟩ k17 fl_X10_160 dX10_bestLane_76 ?_
      refine go_if_ne (tgt := 133) dX10_bestLane_79 (by decide) (fun hc => ?_) (fun hc => ?_)
      · replace H := H.1 hc
        refine go_iincN (n := n4) (k := 1) hn4 (by decide) rfl rfl dX10_bestLane_133 ?_
        show go_W mt_X10_bestLane fr_C 136 [some (pv_r a0), some (pv_i x1), some (pv_i x2), some (pv_r a3), some (pv_i x4), some (pv_i x5), some (pv_r a6), some (pv_i x7), some (pv_i (nI (n4 + 1))), some (pv_r (mm_r M a6 n4)), none] [] M (qi_ P)
        refine go_goto (tgt := 51) dX10_bestLane_136 (by decide) ?_
        exact go_fg (ls' := [some (pv_r a0), some (pv_i x1), some (pv_i x2), some (pv_r a3), some (pv_i x4), some (pv_i x5), some (pv_r a6), some (pv_i x7), some (pv_i (nI (n4 + 1))), none, none]) ⟨rfl, ⟨rfl, ⟨rfl, ⟨rfl, ⟨rfl, ⟨rfl, ⟨rfl, ⟨rfl, ⟨rfl, trivial⟩⟩⟩⟩⟩⟩⟩⟩⟩ H
      · replace H := H.2 hc
        refine go_aload dX10_bestLane_82 rfl ?_
        refine go_V (av := []) (st := []) (ci := 3) ok_X3_hasRoom ⟨by decide, by decide⟩ ml_X10_195 rfl (by decide) (fun v hv => absurd hv List.not_mem_nil) (Nat.le_of_ble_eq_true rfl) (fun _ h => h) (by decide) rfl k17 dX10_bestLane_84 H (fun r M18 hq hS => ?_)
        obtain ⟨v19, rfl, H⟩ := hq
        have k20 : mm_k M18 a0 = (10, 14) := ks_S K0 (by decide) hS
        have k21 : mm_k M18 a3 = (6, 17) := ks_S k5 (by decide) hS
        have k22 : mm_k M18 (mm_r M a6 n4) = (3, 14) := ks_S k17 (by decide) hS
        have k23 : ak_ M18 a6 2 l1 := ak_S k2 hS
        show go_W mt_X10_bestLane fr_C 87 [some (pv_r a0), some (pv_i x1), some (pv_i x2), some (pv_r a3), some (pv_i x4), some (pv_i x5), some (pv_r a6), some (pv_i x7), some (pv_i x8), some (pv_r (mm_r M a6 n4)), none] [pv_i v19] M18 (qi_ P)
        refine go_if_ne (tgt := 93) dX10_bestLane_87 (by decide) (fun hc => ?_) (fun hc => ?_)
        · replace H := H.1 hc
          refine go_aload_n dX10_bestLane_93 rfl ?_
          refine go_getR (k := 1) ⟨by decide, rfl, by decide, Or.inl ⟨_, rfl⟩⟩ k20 fl_X10_19 dX10_bestLane_94 ?_
          refine go_aload_n dX10_bestLane_97 rfl ?_
          refine go_getR (k := 0) ⟨by decide, rfl, by decide, Or.inl ⟨_, rfl⟩⟩ k20 fl_X10_10 dX10_bestLane_98 ?_
          refine go_aload_n dX10_bestLane_101 rfl ?_
          refine go_aload dX10_bestLane_102 rfl ?_
          obtain ⟨k24, H⟩ := H
          refine go_V (av := [pv_r (mm_r M18 a0 0), pv_r a3, pv_r (mm_r M a6 n4)]) (st := []) (ci := 8) ok_X8_turnIn ⟨by decide, by decide⟩ ml_X10_337 rfl (by decide) (fun v hv => by simp only [List.mem_cons, List.not_mem_nil, or_false] at hv; rcases hv with rfl | rfl | rfl <;> first | exact pv_1i | exact pv_1r) (Nat.le_of_ble_eq_true rfl) (fun _ h => h) (by decide) rfl k24 dX10_bestLane_104 H (fun r M25 hq hS => ?_)
          obtain ⟨v26, rfl, H⟩ := hq
          have k27 : mm_k M25 a0 = (10, 14) := ks_S k20 (by decide) hS
          have k28 : mm_k M25 a3 = (6, 17) := ks_S k21 (by decide) hS
          have k29 : mm_k M25 (mm_r M a6 n4) = (3, 14) := ks_S k22 (by decide) hS
          have k30 : mm_k M25 (mm_r M18 a0 1) = (8, 8) := ks_S k24 (by decide) hS
          have k31 : ak_ M25 a6 2 l1 := ak_S k23 hS
          show go_W mt_X10_bestLane fr_C 107 [some (pv_r a0), some (pv_i x1), some (pv_i x2), some (pv_r a3), some (pv_i x4), some (pv_i x5), some (pv_r a6), some (pv_i x7), some (pv_i x8), some (pv_r (mm_r M a6 n4)), none] [pv_i v26] M25 (qi_ P)
          refine go_istore (by decide) dX10_bestLane_107 ?_
          show go_W mt_X10_bestLane fr_C 109 [some (pv_r a0), some (pv_i x1), some (pv_i x2), some (pv_r a3), some (pv_i x4), some (pv_i x5), some (pv_r a6), some (pv_i x7), some (pv_i x8), some (pv_r (mm_r M a6 n4)), some (pv_i v26)] [] M25 (qi_ P)
          refine go_iload dX10_bestLane_109 rfl ?_
          refine go_iconst (v := (-1 : Int32)) rfl dX10_bestLane_111 ?_
          refine go_icmp_eq (tgt := 122) dX10_bestLane_112 (by decide) (fun hc => ?_) (fun hc => ?_)
          · replace H := H.1 hc
            refine go_aload dX10_bestLane_122 rfl ?_
            refine go_getI (k := 0) ⟨by decide, rfl, by decide, rfl⟩ k29 fl_X10_345 dX10_bestLane_124 ?_
            refine go_istore (by decide) dX10_bestLane_127 ?_
            show go_W mt_X10_bestLane fr_C 129 [some (pv_r a0), some (pv_i x1), some (pv_i x2), some (pv_r a3), some (pv_i (mm_i M25 (mm_r M a6 n4) 0)), some (pv_i x5), some (pv_r a6), some (pv_i x7), some (pv_i x8), some (pv_r (mm_r M a6 n4)), some (pv_i v26)] [] M25 (qi_ P)
            refine go_iload dX10_bestLane_129 rfl ?_
            refine go_istore (by decide) dX10_bestLane_131 ?_
            show go_W mt_X10_bestLane fr_C 133 [some (pv_r a0), some (pv_i x1), some (pv_i x2), some (pv_r a3), some (pv_i (mm_i M25 (mm_r M a6 n4) 0)), some (pv_i v26), some (pv_r a6), some (pv_i x7), some (pv_i x8), some (pv_r (mm_r M a6 n4)), some (pv_i v26)] [] M25 (qi_ P)
            refine go_iincN (n := n4) (k := 1) hn4 (by decide) rfl rfl dX10_bestLane_133 ?_
            show go_W mt_X10_bestLane fr_C 136 [some (pv_r a0), some (pv_i x1), some (pv_i x2), some (pv_r a3), some (pv_i (mm_i M25 (mm_r M a6 n4) 0)), some (pv_i v26), some (pv_r a6), some (pv_i x7), some (pv_i (nI (n4 + 1))), some (pv_r (mm_r M a6 n4)), some (pv_i v26)] [] M25 (qi_ P)
            refine go_goto (tgt := 51) dX10_bestLane_136 (by decide) ?_
            exact go_fg (ls' := [some (pv_r a0), some (pv_i x1), some (pv_i x2), some (pv_r a3), some (pv_i (mm_i M25 (mm_r M a6 n4) 0)), some (pv_i v26), some (pv_r a6), some (pv_i x7), some (pv_i (nI (n4 + 1))), none, none]) ⟨rfl, ⟨rfl, ⟨rfl, ⟨rfl, ⟨rfl, ⟨rfl, ⟨rfl, ⟨rfl, ⟨rfl, trivial⟩⟩⟩⟩⟩⟩⟩⟩⟩ H
          · replace H := H.2 hc
            refine go_iload dX10_bestLane_115 rfl ?_
            refine go_iload dX10_bestLane_117 rfl ?_
            refine go_icmp_ge (tgt := 133) dX10_bestLane_119 (by decide) (fun hc => ?_) (fun hc => ?_)
            · replace H := H.1 hc
              refine go_iincN (n := n4) (k := 1) hn4 (by decide) rfl rfl dX10_bestLane_133 ?_
              show go_W mt_X10_bestLane fr_C 136 [some (pv_r a0), some (pv_i x1), some (pv_i x2), some (pv_r a3), some (pv_i x4), some (pv_i x5), some (pv_r a6), some (pv_i x7), some (pv_i (nI (n4 + 1))), some (pv_r (mm_r M a6 n4)), some (pv_i v26)] [] M25 (qi_ P)
              refine go_goto (tgt := 51) dX10_bestLane_136 (by decide) ?_
              exact go_fg (ls' := [some (pv_r a0), some (pv_i x1), some (pv_i x2), some (pv_r a3), some (pv_i x4), some (pv_i x5), some (pv_r a6), some (pv_i x7), some (pv_i (nI (n4 + 1))), none, none]) ⟨rfl, ⟨rfl, ⟨rfl, ⟨rfl, ⟨rfl, ⟨rfl, ⟨rfl, ⟨rfl, ⟨rfl, trivial⟩⟩⟩⟩⟩⟩⟩⟩⟩ H
            · replace H := H.2 hc
              refine go_aload dX10_bestLane_122 rfl ?_
              refine go_getI (k := 0) ⟨by decide, rfl, by decide, rfl⟩ k29 fl_X10_345 dX10_bestLane_124 ?_
              refine go_istore (by decide) dX10_bestLane_127 ?_
              show go_W mt_X10_bestLane fr_C 129 [some (pv_r a0), some (pv_i x1), some (pv_i x2), some (pv_r a3), some (pv_i (mm_i M25 (mm_r M a6 n4) 0)), some (pv_i x5), some (pv_r a6), some (pv_i x7), some (pv_i x8), some (pv_r (mm_r M a6 n4)), some (pv_i v26)] [] M25 (qi_ P)
              refine go_iload dX10_bestLane_129 rfl ?_
              refine go_istore (by decide) dX10_bestLane_131 ?_
              show go_W mt_X10_bestLane fr_C 133 [some (pv_r a0), some (pv_i x1), some (pv_i x2), some (pv_r a3), some (pv_i (mm_i M25 (mm_r M a6 n4) 0)), some (pv_i v26), some (pv_r a6), some (pv_i x7), some (pv_i x8), some (pv_r (mm_r M a6 n4)), some (pv_i v26)] [] M25 (qi_ P)
              refine go_iincN (n := n4) (k := 1) hn4 (by decide) rfl rfl dX10_bestLane_133 ?_
              show go_W mt_X10_bestLane fr_C 136 [some (pv_r a0), some (pv_i x1), some (pv_i x2), some (pv_r a3), some (pv_i (mm_i M25 (mm_r M a6 n4) 0)), some (pv_i v26), some (pv_r a6), some (pv_i x7), some (pv_i (nI (n4 + 1))), some (pv_r (mm_r M a6 n4)), some (pv_i v26)] [] M25 (qi_ P)
              refine go_goto (tgt := 51) dX10_bestLane_136 (by decide) ?_
              exact go_fg (ls' := [some (pv_r a0), some (pv_i x1), some (pv_i x2), some (pv_r a3), some (pv_i (mm_i M25 (mm_r M a6 n4) 0)), some (pv_i v26), some (pv_r a6), some (pv_i x7), some (pv_i (nI (n4 + 1))), none, none]) ⟨rfl, ⟨rfl, ⟨rfl, ⟨rfl, ⟨rfl, ⟨rfl, ⟨rfl, ⟨rfl, ⟨rfl, trivial⟩⟩⟩⟩⟩⟩⟩⟩⟩ H
        · replace H := H.2 hc
          refine go_goto (tgt := 133) dX10_bestLane_90 (by decide) ?_
          refine go_iincN (n := n4) (k := 1) hn4 (by decide) rfl rfl dX10_bestLane_133 ?_
          show go_W mt_X10_bestLane fr_C 136 [some (pv_r a0), some (pv_i x1), some (pv_i x2), some (pv_r a3), some (pv_i x4), some (pv_i x5), some (pv_r a6), some (pv_i x7), some (pv_i (nI (n4 + 1))), some (pv_r (mm_r M a6 n4)), none] [] M18 (qi_ P)
          refine go_goto (tgt := 51) dX10_bestLane_136 (by decide) ?_
          exact go_fg (ls' := [some (pv_r a0), some (pv_i x1), some (pv_i x2), some (pv_r a3), some (pv_i x4), some (pv_i x5), some (pv_r a6), some (pv_i x7), some (pv_i (nI (n4 + 1))), none, none]) ⟨rfl, ⟨rfl, ⟨rfl, ⟨rfl, ⟨rfl, ⟨rfl, ⟨rfl, ⟨rfl, ⟨rfl, trivial⟩⟩⟩⟩⟩⟩⟩⟩⟩ H
set_option maxRecDepth 20000 in
theorem wc_X10_chain_0 {M : mm_T} {a0 : Nat} {x1 x2 : Int32} {P : Int32 → mm_T → Prop} (K0 : mm_k M a0 = (10, 14)) (H : cs_r mt_X10_taskAt [pv_r a0, pv_i x1] M (fun v2 M1 => (((v2 = 0) → P (-1 : Int32) M1) ∧ ((¬ v2 = 0) → (((x2 < 0) → P (-1 : Int32) M1) ∧ ((¬ x2 < 0) → (((x2 ≤ (1 : Int32)) → mm_k M1 v2 = (6, 17) ∧ (cw_i mt_X10_chain 36 [some (pv_r a0), some (pv_i x1), some (pv_i x2), some (pv_r v2), some (pv_i (mm_i M1 v2 4)), some (pv_i (1 : Int32)), some (pv_r (mm_r M1 v2 1))] [] M1 P)) ∧ ((¬ x2 ≤ (1 : Int32)) → P (-1 : Int32) M1)))))))) : cw_i mt_X10_chain 0 [some (pv_r a0), some (pv_i x1), some (pv_i x2), none, none, none, none] [] M P := by
  refine go_aload_n dX10_chain_0 rfl ?_
  refine go_iload_n dX10_chain_1 rfl ?_
  refine go_V (av := [pv_i x1]) (st := []) (ci := 10) ok_X10_taskAt ⟨by decide, by decide⟩ ml_X10_171 rfl (by decide) (fun v hv => by simp only [List.mem_cons, List.not_mem_nil, or_false] at hv; rcases hv with rfl <;> first | exact pv_1i | exact pv_1r) (Nat.le_of_ble_eq_true rfl) (fun _ h => h) (by decide) rfl K0 dX10_chain_2 H (fun r M1 hq hS => ?_)
  obtain ⟨v2, rfl, H⟩ := hq
  have k3 : mm_k M1 a0 = (10, 14) := ks_S K0 (by decide) hS
  show go_W mt_X10_chain fr_C 5 [some (pv_r a0), some (pv_i x1), some (pv_i x2), none, none, none, none] [pv_r v2] M1 (qi_ P)
  refine go_astore_n (by decide) dX10_chain_5 ?_
  show go_W mt_X10_chain fr_C 6 [some (pv_r a0), some (pv_i x1), some (pv_i x2), some (pv_r v2), none, none, none] [] M1 (qi_ P)
  refine go_aload_n dX10_chain_6 rfl ?_
  refine go_ifnull (tgt := 19) dX10_chain_7 (by decide) (fun hc => ?_) (fun hc => ?_)
  · replace H := H.1 hc
    refine go_iconst (v := (-1 : Int32)) rfl dX10_chain_19 ?_
    exact go_iret rfl rfl dX10_chain_20 ⟨_, rfl, H⟩
  · replace H := H.2 hc
    refine go_iload_n dX10_chain_10 rfl ?_
    refine go_if_lt (tgt := 19) dX10_chain_11 (by decide) (fun hc => ?_) (fun hc => ?_)
    · replace H := H.1 hc
      refine go_iconst (v := (-1 : Int32)) rfl dX10_chain_19 ?_
      exact go_iret rfl rfl dX10_chain_20 ⟨_, rfl, H⟩
    · replace H := H.2 hc
      refine go_iload_n dX10_chain_14 rfl ?_
      refine go_iconst (v := (1 : Int32)) rfl dX10_chain_15 ?_
      refine go_icmp_le (tgt := 21) dX10_chain_16 (by decide) (fun hc => ?_) (fun hc => ?_)
      · replace H := H.1 hc
        refine go_aload_n dX10_chain_21 rfl ?_
        obtain ⟨k4, H⟩ := H
        refine go_getI (k := 4) ⟨by decide, rfl, by decide, rfl⟩ k4 fl_X10_346 dX10_chain_22 ?_
        refine go_istore (by decide) dX10_chain_25 ?_
        show go_W mt_X10_chain fr_C 27 [some (pv_r a0), some (pv_i x1), some (pv_i x2), some (pv_r v2), some (pv_i (mm_i M1 v2 4)), none, none] [] M1 (qi_ P)
        refine go_iconst (v := (1 : Int32)) rfl dX10_chain_27 ?_
        refine go_istore (by decide) dX10_chain_28 ?_
        show go_W mt_X10_chain fr_C 30 [some (pv_r a0), some (pv_i x1), some (pv_i x2), some (pv_r v2), some (pv_i (mm_i M1 v2 4)), some (pv_i (1 : Int32)), none] [] M1 (qi_ P)
        refine go_aload_n dX10_chain_30 rfl ?_
        refine go_getR (k := 1) ⟨by decide, rfl, by decide, Or.inl ⟨_, rfl⟩⟩ k4 fl_X10_330 dX10_chain_31 ?_
        refine go_astore (by decide) dX10_chain_34 ?_
        show go_W mt_X10_chain fr_C 36 [some (pv_r a0), some (pv_i x1), some (pv_i x2), some (pv_r v2), some (pv_i (mm_i M1 v2 4)), some (pv_i (1 : Int32)), some (pv_r (mm_r M1 v2 1))] [] M1 (qi_ P)
        exact H
      · replace H := H.2 hc
        refine go_iconst (v := (-1 : Int32)) rfl dX10_chain_19 ?_
        exact go_iret rfl rfl dX10_chain_20 ⟨_, rfl, H⟩
set_option maxRecDepth 20000 in
theorem wc_X10_chain_36 {M : mm_T} {a0 a3 a6 : Nat} {x1 x2 x4 x5 : Int32} {P : Int32 → mm_T → Prop} (K0 : mm_k M a0 = (10, 14)) (H : (((a6 = 0) → (((¬ x2 = 0) → P x5 M) ∧ ((x2 = 0) → P x4 M))) ∧ ((¬ a6 = 0) → mm_k M a6 = (6, 17) ∧ ((((mm_i M a6 7 = (4 : Int32)) → (((¬ x2 = 0) → P x5 M) ∧ ((x2 = 0) → P x4 M))) ∧ ((¬ mm_i M a6 7 = (4 : Int32)) → cw_i mt_X10_chain 36 [some (pv_r a0), some (pv_i x1), some (pv_i x2), some (pv_r a3), some (pv_i (x4 + mm_i M a6 4)), some (pv_i (x5 + (1 : Int32))), some (pv_r (mm_r M a6 1))] [] M P)))))) : cw_i mt_X10_chain 36 [some (pv_r a0), some (pv_i x1), some (pv_i x2), some (pv_r a3), some (pv_i x4), some (pv_i x5), some (pv_r a6)] [] M P := by
  refine go_aload dX10_chain_36 rfl ?_
  refine go_ifnull (tgt := 73) dX10_chain_38 (by decide) (fun hc => ?_) (fun hc => ?_)
  · replace H := H.1 hc
    refine go_iload_n dX10_chain_73 rfl ?_
    refine go_if_ne (tgt := 82) dX10_chain_74 (by decide) (fun hc => ?_) (fun hc => ?_)
    · replace H := H.1 hc
      refine go_iload dX10_chain_82 rfl ?_
      exact go_iret rfl rfl dX10_chain_84 ⟨_, rfl, H⟩
    · replace H := H.2 hc
      refine go_iload dX10_chain_77 rfl ?_
      refine go_goto (tgt := 84) dX10_chain_79 (by decide) ?_
      exact go_iret rfl rfl dX10_chain_84 ⟨_, rfl, H⟩
  · replace H := H.2 hc
    refine go_aload dX10_chain_41 rfl ?_
    obtain ⟨k1, H⟩ := H
    refine go_getI (k := 7) ⟨by decide, rfl, by decide, rfl⟩ k1 fl_X10_105 dX10_chain_43 ?_
    refine go_iconst (v := (4 : Int32)) rfl dX10_chain_46 ?_
    refine go_icmp_eq (tgt := 73) dX10_chain_47 (by decide) (fun hc => ?_) (fun hc => ?_)
    · replace H := H.1 hc
      refine go_iload_n dX10_chain_73 rfl ?_
      refine go_if_ne (tgt := 82) dX10_chain_74 (by decide) (fun hc => ?_) (fun hc => ?_)
      · replace H := H.1 hc
        refine go_iload dX10_chain_82 rfl ?_
        exact go_iret rfl rfl dX10_chain_84 ⟨_, rfl, H⟩
      · replace H := H.2 hc
        refine go_iload dX10_chain_77 rfl ?_
        refine go_goto (tgt := 84) dX10_chain_79 (by decide) ?_
        exact go_iret rfl rfl dX10_chain_84 ⟨_, rfl, H⟩
    · replace H := H.2 hc
      refine go_iload dX10_chain_50 rfl ?_
      refine go_aload dX10_chain_52 rfl ?_
      refine go_getI (k := 4) ⟨by decide, rfl, by decide, rfl⟩ k1 fl_X10_346 dX10_chain_54 ?_
      refine go_iadd dX10_chain_57 ?_
      refine go_istore (by decide) dX10_chain_58 ?_
      show go_W mt_X10_chain fr_C 60 [some (pv_r a0), some (pv_i x1), some (pv_i x2), some (pv_r a3), some (pv_i (x4 + mm_i M a6 4)), some (pv_i x5), some (pv_r a6)] [] M (qi_ P)
      refine go_iinc (v := (1 : Int32)) (by decide) rfl rfl dX10_chain_60 ?_
      show go_W mt_X10_chain fr_C 63 [some (pv_r a0), some (pv_i x1), some (pv_i x2), some (pv_r a3), some (pv_i (x4 + mm_i M a6 4)), some (pv_i (x5 + (1 : Int32))), some (pv_r a6)] [] M (qi_ P)
      refine go_aload dX10_chain_63 rfl ?_
      refine go_getR (k := 1) ⟨by decide, rfl, by decide, Or.inl ⟨_, rfl⟩⟩ k1 fl_X10_330 dX10_chain_65 ?_
      refine go_astore (by decide) dX10_chain_68 ?_
      show go_W mt_X10_chain fr_C 70 [some (pv_r a0), some (pv_i x1), some (pv_i x2), some (pv_r a3), some (pv_i (x4 + mm_i M a6 4)), some (pv_i (x5 + (1 : Int32))), some (pv_r (mm_r M a6 1))] [] M (qi_ P)
      refine go_goto (tgt := 36) dX10_chain_70 (by decide) ?_
      exact H
set_option maxRecDepth 20000 in
theorem wc_X10_lapse_0 {M : mm_T} {a0 : Nat} {x1 x2 : Int32} {P : Int32 → mm_T → Prop} (K0 : mm_k M a0 = (10, 14)) (H : (((x1 < (1 : Int32)) → P (-1 : Int32) M) ∧ ((¬ x1 < (1 : Int32)) → (((x1 ≤ (99 : Int32)) → ((x2 = (0 : Int32)) → cs_i mt_X10_failingBy [pv_r a0, pv_i (mm_i M a0 11 + x1)] M (fun v2 M1 => P v2 M1)) ∧ ((x2 = (1 : Int32)) → cs_i mt_X10_goingAsideBy [pv_r a0, pv_i (mm_i M a0 11 + x1)] M (fun v5 M4 => P v5 M4)) ∧ ((x2 = (2 : Int32)) → cs_i mt_X10_wakingBy [pv_r a0, pv_i (mm_i M a0 11 + x1)] M (fun v8 M7 => P v8 M7)) ∧ ((¬ x2 = (0 : Int32) ∧ ¬ x2 = (1 : Int32) ∧ ¬ x2 = (2 : Int32)) → P (-1 : Int32) M)) ∧ ((¬ x1 ≤ (99 : Int32)) → P (-1 : Int32) M))))) : cw_i mt_X10_lapse 0 [some (pv_r a0), some (pv_i x1), some (pv_i x2)] [] M P := by
  refine go_iload_n dX10_lapse_0 rfl ?_
  refine go_iconst (v := (1 : Int32)) rfl dX10_lapse_1 ?_
  refine go_icmp_lt (tgt := 11) dX10_lapse_2 (by decide) (fun hc => ?_) (fun hc => ?_)
  · replace H := H.1 hc
    refine go_iconst (v := (-1 : Int32)) rfl dX10_lapse_11 ?_
    exact go_iret rfl rfl dX10_lapse_12 ⟨_, rfl, H⟩
  · replace H := H.2 hc
    refine go_iload_n dX10_lapse_5 rfl ?_
    refine go_bipush (v := (99 : Int32)) rfl dX10_lapse_6 ?_
    refine go_icmp_le (tgt := 13) dX10_lapse_8 (by decide) (fun hc => ?_) (fun hc => ?_)
    · replace H := H.1 hc
      refine go_iload_n dX10_lapse_13 rfl ?_
      by_cases hc0 : x2 = (0 : Int32)
      · replace H := H.1 hc0
        refine go_tabIn (v := (0 : Int32)) (tgt := 40) hc0 (by decide) (by decide) rfl (by decide) dX10_lapse_14 ?_
        refine go_aload_n dX10_lapse_40 rfl ?_
        refine go_aload_n dX10_lapse_41 rfl ?_
        refine go_getI (k := 11) ⟨by decide, rfl, by decide, rfl⟩ K0 fl_X10_108 dX10_lapse_42 ?_
        refine go_iload_n dX10_lapse_45 rfl ?_
        refine go_iadd dX10_lapse_46 ?_
        refine go_V (av := [pv_i (mm_i M a0 11 + x1)]) (st := []) (ci := 10) ok_X10_failingBy ⟨by decide, by decide⟩ ml_X10_347 rfl (by decide) (fun v hv => by simp only [List.mem_cons, List.not_mem_nil, or_false] at hv; rcases hv with rfl <;> first | exact pv_1i | exact pv_1r) (Nat.le_of_ble_eq_true rfl) (fun _ h => h) (by decide) rfl K0 dX10_lapse_47 H (fun r M1 hq hS => ?_)
        obtain ⟨v2, rfl, H⟩ := hq
        have k3 : mm_k M1 a0 = (10, 14) := ks_S K0 (by decide) hS
        show go_W mt_X10_lapse fr_C 50 [some (pv_r a0), some (pv_i x1), some (pv_i x2)] [pv_i v2] M1 (qi_ P)
        exact go_iret rfl rfl dX10_lapse_50 ⟨_, rfl, H⟩
      replace H := H.2
      by_cases hc1 : x2 = (1 : Int32)
      · replace H := H.1 hc1
        refine go_tabIn (v := (1 : Int32)) (tgt := 51) hc1 (by decide) (by decide) rfl (by decide) dX10_lapse_14 ?_
        refine go_aload_n dX10_lapse_51 rfl ?_
        refine go_aload_n dX10_lapse_52 rfl ?_
        refine go_getI (k := 11) ⟨by decide, rfl, by decide, rfl⟩ K0 fl_X10_108 dX10_lapse_53 ?_
        refine go_iload_n dX10_lapse_56 rfl ?_
        refine go_iadd dX10_lapse_57 ?_
        refine go_V (av := [pv_i (mm_i M a0 11 + x1)]) (st := []) (ci := 10) ok_X10_goingAsideBy ⟨by decide, by decide⟩ ml_X10_350 rfl (by decide) (fun v hv => by simp only [List.mem_cons, List.not_mem_nil, or_false] at hv; rcases hv with rfl <;> first | exact pv_1i | exact pv_1r) (Nat.le_of_ble_eq_true rfl) (fun _ h => h) (by decide) rfl K0 dX10_lapse_58 H (fun r M4 hq hS => ?_)
        obtain ⟨v5, rfl, H⟩ := hq
        have k6 : mm_k M4 a0 = (10, 14) := ks_S K0 (by decide) hS
        show go_W mt_X10_lapse fr_C 61 [some (pv_r a0), some (pv_i x1), some (pv_i x2)] [pv_i v5] M4 (qi_ P)
        exact go_iret rfl rfl dX10_lapse_61 ⟨_, rfl, H⟩
      replace H := H.2
      by_cases hc2 : x2 = (2 : Int32)
      · replace H := H.1 hc2
        refine go_tabIn (v := (2 : Int32)) (tgt := 62) hc2 (by decide) (by decide) rfl (by decide) dX10_lapse_14 ?_
        refine go_aload_n dX10_lapse_62 rfl ?_
        refine go_aload_n dX10_lapse_63 rfl ?_
        refine go_getI (k := 11) ⟨by decide, rfl, by decide, rfl⟩ K0 fl_X10_108 dX10_lapse_64 ?_
        refine go_iload_n dX10_lapse_67 rfl ?_
        refine go_iadd dX10_lapse_68 ?_
        refine go_V (av := [pv_i (mm_i M a0 11 + x1)]) (st := []) (ci := 10) ok_X10_wakingBy ⟨by decide, by decide⟩ ml_X10_353 rfl (by decide) (fun v hv => by simp only [List.mem_cons, List.not_mem_nil, or_false] at hv; rcases hv with rfl <;> first | exact pv_1i | exact pv_1r) (Nat.le_of_ble_eq_true rfl) (fun _ h => h) (by decide) rfl K0 dX10_lapse_69 H (fun r M7 hq hS => ?_)
        obtain ⟨v8, rfl, H⟩ := hq
        have k9 : mm_k M7 a0 = (10, 14) := ks_S K0 (by decide) hS
        show go_W mt_X10_lapse fr_C 72 [some (pv_r a0), some (pv_i x1), some (pv_i x2)] [pv_i v8] M7 (qi_ P)
        exact go_iret rfl rfl dX10_lapse_72 ⟨_, rfl, H⟩
      replace H := H.2
      replace H := H ⟨hc0, hc1, hc2⟩
      have he0 : (x2).toInt ≠ 0 := fun h => hc0 (Int32.toInt_inj.mp (h.trans (by decide)))
      have he1 : (x2).toInt ≠ 1 := fun h => hc1 (Int32.toInt_inj.mp (h.trans (by decide)))
      have he2 : (x2).toInt ≠ 2 := fun h => hc2 (Int32.toInt_inj.mp (h.trans (by decide)))
      refine go_tabOut (tgt := 73) (by omega) (by decide) dX10_lapse_14 ?_
      refine go_iconst (v := (-1 : Int32)) rfl dX10_lapse_73 ?_
      exact go_iret rfl rfl dX10_lapse_74 ⟨_, rfl, H⟩
    · replace H := H.2 hc
      refine go_iconst (v := (-1 : Int32)) rfl dX10_lapse_11 ?_
      exact go_iret rfl rfl dX10_lapse_12 ⟨_, rfl, H⟩
set_option maxRecDepth 20000 in
theorem wc_X10_safe_0 {M : mm_T} {a0 : Nat} {x1 : Int32} {P : Int32 → mm_T → Prop} (K0 : mm_k M a0 = (10, 14)) (H : cs_r mt_X10_taskAt [pv_r a0, pv_i x1] M (fun v2 M1 => (((v2 = 0) → P (-1 : Int32) M1) ∧ ((¬ v2 = 0) → mm_k M1 v2 = (6, 17) ∧ ((((mm_i M1 v2 7 = 0) → mm_k M1 (mm_r M1 a0 0) = (0, 4) ∧ (∃ l6, ak_ M1 (mm_r M1 (mm_r M1 a0 0) 3) 0 l6 ∧ (0 < l6 ∧ (cs_i mt_X6_rankBy [pv_r v2, pv_i (mm_i M1 (mm_r M1 (mm_r M1 a0 0) 3) 0)] M1 (fun v10 M9 => P (if mm_i M1 a0 11 < (((9 : Int32) * mm_i M1 (mm_r M1 (mm_r M1 a0 0) 3) 0) - v10) then (((9 : Int32) * mm_i M1 (mm_r M1 (mm_r M1 a0 0) 3) 0) - v10) else mm_i M1 a0 11) M9))))) ∧ ((¬ mm_i M1 v2 7 = 0) → P (-1 : Int32) M1))))))) : cw_i mt_X10_safe 0 [some (pv_r a0), some (pv_i x1), none, none] [] M P := by
  refine go_aload_n dX10_safe_0 rfl ?_
  refine go_iload_n dX10_safe_1 rfl ?_
  refine go_V (av := [pv_i x1]) (st := []) (ci := 10) ok_X10_taskAt ⟨by decide, by decide⟩ ml_X10_171 rfl (by decide) (fun v hv => by simp only [List.mem_cons, List.not_mem_nil, or_false] at hv; rcases hv with rfl <;> first | exact pv_1i | exact pv_1r) (Nat.le_of_ble_eq_true rfl) (fun _ h => h) (by decide) rfl K0 dX10_safe_2 H (fun r M1 hq hS => ?_)
  obtain ⟨v2, rfl, H⟩ := hq
  have k3 : mm_k M1 a0 = (10, 14) := ks_S K0 (by decide) hS
  show go_W mt_X10_safe fr_C 5 [some (pv_r a0), some (pv_i x1), none, none] [pv_r v2] M1 (qi_ P)
  refine go_astore_n (by decide) dX10_safe_5 ?_
  show go_W mt_X10_safe fr_C 6 [some (pv_r a0), some (pv_i x1), some (pv_r v2), none] [] M1 (qi_ P)
  refine go_aload_n dX10_safe_6 rfl ?_
  refine go_ifnull (tgt := 17) dX10_safe_7 (by decide) (fun hc => ?_) (fun hc => ?_)
  · replace H := H.1 hc
    refine go_iconst (v := (-1 : Int32)) rfl dX10_safe_17 ?_
    exact go_iret rfl rfl dX10_safe_18 ⟨_, rfl, H⟩
  · replace H := H.2 hc
    refine go_aload_n dX10_safe_10 rfl ?_
    obtain ⟨k4, H⟩ := H
    refine go_getI (k := 7) ⟨by decide, rfl, by decide, rfl⟩ k4 fl_X10_105 dX10_safe_11 ?_
    refine go_if_eq (tgt := 19) dX10_safe_14 (by decide) (fun hc => ?_) (fun hc => ?_)
    · replace H := H.1 hc
      refine go_aload_n dX10_safe_19 rfl ?_
      refine go_getR (k := 0) ⟨by decide, rfl, by decide, Or.inl ⟨_, rfl⟩⟩ k3 fl_X10_10 dX10_safe_20 ?_
      obtain ⟨k5, H⟩ := H
      refine go_getR (k := 3) ⟨by decide, rfl, by decide, Or.inr ⟨_, rfl⟩⟩ k5 fl_X10_111 dX10_safe_23 ?_
      refine go_iconst (v := (0 : Int32)) rfl dX10_safe_26 ?_
      obtain ⟨l6, k7, H⟩ := H
      obtain ⟨hb8, H⟩ := H
      refine go_ialdA (j := 0) k7 rfl hb8 dX10_safe_27 ?_
      refine go_istore_n (by decide) dX10_safe_28 ?_
      show go_W mt_X10_safe fr_C 29 [some (pv_r a0), some (pv_i x1), some (pv_r v2), some (pv_i (mm_i M1 (mm_r M1 (mm_r M1 a0 0) 3) 0))] [] M1 (qi_ P)
      refine go_aload_n dX10_safe_29 rfl ?_
      refine go_getI (k := 11) ⟨by decide, rfl, by decide, rfl⟩ k3 fl_X10_108 dX10_safe_30 ?_
      refine go_bipush (v := (9 : Int32)) rfl dX10_safe_33 ?_
      refine go_iload_n dX10_safe_35 rfl ?_
      refine go_imul dX10_safe_36 ?_
      refine go_aload_n dX10_safe_37 rfl ?_
      refine go_iload_n dX10_safe_38 rfl ?_
      refine go_V (av := [pv_i (mm_i M1 (mm_r M1 (mm_r M1 a0 0) 3) 0)]) (st := [pv_i ((9 : Int32) * mm_i M1 (mm_r M1 (mm_r M1 a0 0) 3) 0), pv_i (mm_i M1 a0 11)]) (ci := 6) ok_X6_rankBy ⟨by decide, by decide⟩ ml_X10_271 rfl (by decide) (fun v hv => by simp only [List.mem_cons, List.not_mem_nil, or_false] at hv; rcases hv with rfl <;> first | exact pv_1i | exact pv_1r) (Nat.le_of_ble_eq_true rfl) (fun _ h => h) (by decide) rfl k4 dX10_safe_39 H (fun r M9 hq hS => ?_)
      obtain ⟨v10, rfl, H⟩ := hq
      have k11 : mm_k M9 a0 = (10, 14) := ks_S k3 (by decide) hS
      have k12 : mm_k M9 v2 = (6, 17) := ks_S k4 (by decide) hS
      have k13 : mm_k M9 (mm_r M1 a0 0) = (0, 4) := ks_S k5 (by decide) hS
      have k14 : ak_ M9 (mm_r M1 (mm_r M1 a0 0) 3) 0 l6 := ak_S k7 hS
      show go_W mt_X10_safe fr_C 42 [some (pv_r a0), some (pv_i x1), some (pv_r v2), some (pv_i (mm_i M1 (mm_r M1 (mm_r M1 a0 0) 3) 0))] [pv_i v10, pv_i ((9 : Int32) * mm_i M1 (mm_r M1 (mm_r M1 a0 0) 3) 0), pv_i (mm_i M1 a0 11)] M9 (qi_ P)
      refine go_isub dX10_safe_42 ?_
      refine go_mmax ml_X10_356 (Nat.le_of_ble_eq_true rfl) ⟨by decide, by decide⟩ dX10_safe_43 ?_
      exact go_iret rfl rfl dX10_safe_46 ⟨_, rfl, H⟩
    · replace H := H.2 hc
      refine go_iconst (v := (-1 : Int32)) rfl dX10_safe_17 ?_
      exact go_iret rfl rfl dX10_safe_18 ⟨_, rfl, H⟩
set_option maxRecDepth 20000 in
theorem wc_X10_empties_0 {M : mm_T} {a0 : Nat} {x1 x2 : Int32} {P : Int32 → mm_T → Prop} (K0 : mm_k M a0 = (10, 14)) (H : mm_k M (mm_r M a0 0) = (0, 4) ∧ (cs_r mt_X0_laneAt [pv_r (mm_r M a0 0), pv_i x1] M (fun v3 M2 => (((v3 = 0) → P (-1 : Int32) M2) ∧ ((¬ v3 = 0) → cs_i mt_X10_isCrew [pv_i x2] M2 (fun v7 M6 => (((¬ v7 = 0) → mm_k M6 (mm_r M6 a0 1) = (8, 8) ∧ (cs_v mt_X8_run [pv_r (mm_r M6 a0 1), pv_r (mm_r M6 a0 0), pv_i x2, pv_i (mm_i M6 a0 11)] M6 (fun M11 => mm_k M11 (mm_r M11 a0 1) = (8, 8) ∧ (mm_k M11 v3 = (3, 14) ∧ (∃ l17, ak_ M11 (mm_r M11 (mm_r M11 a0 1) 2) 0 l17 ∧ (∃ n20, (mm_i M11 v3 0 = nI n20 ∧ n20 < l17) ∧ (P (mm_i M11 (mm_r M11 (mm_r M11 a0 1) 2) n20) M11))))))) ∧ ((v7 = 0) → P (-1 : Int32) M6)))))))) : cw_i mt_X10_empties 0 [some (pv_r a0), some (pv_i x1), some (pv_i x2), none] [] M P := by
  refine go_aload_n dX10_empties_0 rfl ?_
  refine go_getR (k := 0) ⟨by decide, rfl, by decide, Or.inl ⟨_, rfl⟩⟩ K0 fl_X10_10 dX10_empties_1 ?_
  refine go_iload_n dX10_empties_4 rfl ?_
  obtain ⟨k1, H⟩ := H
  refine go_V (av := [pv_i x1]) (st := []) (ci := 0) ok_X0_laneAt ⟨by decide, by decide⟩ ml_X10_133 rfl (by decide) (fun v hv => by simp only [List.mem_cons, List.not_mem_nil, or_false] at hv; rcases hv with rfl <;> first | exact pv_1i | exact pv_1r) (Nat.le_of_ble_eq_true rfl) (fun _ h => h) (by decide) rfl k1 dX10_empties_5 H (fun r M2 hq hS => ?_)
  obtain ⟨v3, rfl, H⟩ := hq
  have k4 : mm_k M2 a0 = (10, 14) := ks_S K0 (by decide) hS
  have k5 : mm_k M2 (mm_r M a0 0) = (0, 4) := ks_S k1 (by decide) hS
  show go_W mt_X10_empties fr_C 8 [some (pv_r a0), some (pv_i x1), some (pv_i x2), none] [pv_r v3] M2 (qi_ P)
  refine go_astore_n (by decide) dX10_empties_8 ?_
  show go_W mt_X10_empties fr_C 9 [some (pv_r a0), some (pv_i x1), some (pv_i x2), some (pv_r v3)] [] M2 (qi_ P)
  refine go_aload_n dX10_empties_9 rfl ?_
  refine go_ifnull (tgt := 20) dX10_empties_10 (by decide) (fun hc => ?_) (fun hc => ?_)
  · replace H := H.1 hc
    refine go_iconst (v := (-1 : Int32)) rfl dX10_empties_20 ?_
    exact go_iret rfl rfl dX10_empties_21 ⟨_, rfl, H⟩
  · replace H := H.2 hc
    refine go_iload_n dX10_empties_13 rfl ?_
    refine go_St (av := [pv_i x2]) (st := []) ok_X10_isCrew ⟨by decide, by decide⟩ ml_X10_361 rfl (by decide) (fun v hv => by simp only [List.mem_cons, List.not_mem_nil, or_false] at hv; rcases hv with rfl <;> first | exact pv_1i | exact pv_1r) (Nat.le_of_ble_eq_true rfl) (fun _ h => h) dX10_empties_14 H (fun r M6 hq hS => ?_)
    obtain ⟨v7, rfl, H⟩ := hq
    have k8 : mm_k M6 a0 = (10, 14) := ks_S k4 (by decide) hS
    have k9 : mm_k M6 (mm_r M a0 0) = (0, 4) := ks_S k5 (by decide) hS
    show go_W mt_X10_empties fr_C 17 [some (pv_r a0), some (pv_i x1), some (pv_i x2), some (pv_r v3)] [pv_i v7] M6 (qi_ P)
    refine go_if_ne (tgt := 22) dX10_empties_17 (by decide) (fun hc => ?_) (fun hc => ?_)
    · replace H := H.1 hc
      refine go_aload_n dX10_empties_22 rfl ?_
      refine go_getR (k := 1) ⟨by decide, rfl, by decide, Or.inl ⟨_, rfl⟩⟩ k8 fl_X10_19 dX10_empties_23 ?_
      refine go_aload_n dX10_empties_26 rfl ?_
      refine go_getR (k := 0) ⟨by decide, rfl, by decide, Or.inl ⟨_, rfl⟩⟩ k8 fl_X10_10 dX10_empties_27 ?_
      refine go_iload_n dX10_empties_30 rfl ?_
      refine go_aload_n dX10_empties_31 rfl ?_
      refine go_getI (k := 11) ⟨by decide, rfl, by decide, rfl⟩ k8 fl_X10_108 dX10_empties_32 ?_
      obtain ⟨k10, H⟩ := H
      refine go_V (av := [pv_r (mm_r M6 a0 0), pv_i x2, pv_i (mm_i M6 a0 11)]) (st := []) (ci := 8) ok_X8_run ⟨by decide, by decide⟩ ml_X10_364 rfl (by decide) (fun v hv => by simp only [List.mem_cons, List.not_mem_nil, or_false] at hv; rcases hv with rfl | rfl | rfl <;> first | exact pv_1i | exact pv_1r) (Nat.le_of_ble_eq_true rfl) (fun _ h => h) (by decide) rfl k10 dX10_empties_35 H (fun r M11 hq hS => ?_)
      obtain ⟨rfl, H⟩ := hq
      have k12 : mm_k M11 a0 = (10, 14) := ks_S k8 (by decide) hS
      have k13 : mm_k M11 (mm_r M a0 0) = (0, 4) := ks_S k9 (by decide) hS
      have k14 : mm_k M11 (mm_r M6 a0 1) = (8, 8) := ks_S k10 (by decide) hS
      show go_W mt_X10_empties fr_C 38 [some (pv_r a0), some (pv_i x1), some (pv_i x2), some (pv_r v3)] [] M11 (qi_ P)
      refine go_aload_n dX10_empties_38 rfl ?_
      refine go_getR (k := 1) ⟨by decide, rfl, by decide, Or.inl ⟨_, rfl⟩⟩ k12 fl_X10_19 dX10_empties_39 ?_
      obtain ⟨k15, H⟩ := H
      refine go_getR (k := 2) ⟨by decide, rfl, by decide, Or.inr ⟨_, rfl⟩⟩ k15 fl_X10_377 dX10_empties_42 ?_
      refine go_aload_n dX10_empties_45 rfl ?_
      obtain ⟨k16, H⟩ := H
      refine go_getI (k := 0) ⟨by decide, rfl, by decide, rfl⟩ k16 fl_X10_345 dX10_empties_46 ?_
      obtain ⟨l17, k18, H⟩ := H
      obtain ⟨n20, ⟨hn20, hn20b⟩, H⟩ := H
      refine go_ialdA (j := n20) k18 hn20 hn20b dX10_empties_49 ?_
      exact go_iret rfl rfl dX10_empties_50 ⟨_, rfl, H⟩
    · replace H := H.2 hc
      refine go_iconst (v := (-1 : Int32)) rfl dX10_empties_20 ?_
      exact go_iret rfl rfl dX10_empties_21 ⟨_, rfl, H⟩
