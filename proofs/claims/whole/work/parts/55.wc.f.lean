/-! the walks of the class, by program (wip/whole/walk3.py) -/
set_option maxRecDepth 20000 in
theorem wc_X10_oneTick_0 {M : mm_T} {a0 : Nat} {P : mm_T → Prop} (K0 : mm_k M a0 = (10, 14)) (H : ∀ M1, M1 = mm_pi M a0 11 (mm_i M a0 11 + (1 : Int32)) → cw_v mt_X10_oneTick 12 [some (pv_r a0), some (pv_i (0 : Int32)), none] [] M1 P) : cw_v mt_X10_oneTick 0 [some (pv_r a0), none, none] [] M P := by
  refine go_aload_n dX10_oneTick_0 rfl ?_
  refine go_dup pv_1r dX10_oneTick_1 ?_
  refine go_getI (k := 11) ⟨by decide, rfl, by decide, rfl⟩ K0 fl_X10_108 dX10_oneTick_2 ?_
  refine go_iconst (v := (1 : Int32)) rfl dX10_oneTick_5 ?_
  refine go_iadd dX10_oneTick_6 ?_
  refine go_putI (k := 11) ⟨by decide, rfl, by decide, rfl⟩ K0 rfl (Or.inl rfl) fl_X10_108 dX10_oneTick_7 ?_
  show go_W mt_X10_oneTick fr_C 10 [some (pv_r a0), none, none] [] (mm_pi M a0 11 (mm_i M a0 11 + (1 : Int32))) (qv_ P)
  obtain ⟨M1, hM1⟩ : ∃ M', M' = mm_pi M a0 11 (mm_i M a0 11 + (1 : Int32)) := ⟨_, rfl⟩
  have k2 : mm_k M1 a0 = (10, 14) := (by rw [hM1]; exact K0)
  rw [← hM1]
  replace H := H M1 hM1
  refine go_iconst (v := (0 : Int32)) rfl dX10_oneTick_10 ?_
  refine go_istore_n (by decide) dX10_oneTick_11 ?_
  show go_W mt_X10_oneTick fr_C 12 [some (pv_r a0), some (pv_i (0 : Int32)), none] [] M1 (qv_ P)
  exact H
set_option maxRecDepth 20000 in
theorem wc_X10_oneTick_12 {M : mm_T} {a0 : Nat} {x1 : Int32} {P : mm_T → Prop} (K0 : mm_k M a0 = (10, 14)) (H : ((((48 : Int32) ≤ x1) → cw_v mt_X10_oneTick 51 [some (pv_r a0), some (pv_i (0 : Int32)), none] [] M P) ∧ ((¬ (48 : Int32) ≤ x1) → mm_k M (mm_r M a0 0) = (0, 4) ∧ (cs_r mt_X0_firstEnding [pv_r (mm_r M a0 0), pv_i (mm_i M a0 11)] M (fun v3 M2 => (((¬ v3 = 0) → cs_v mt_X10_failTask [pv_r a0, pv_r v3, pv_i (0 : Int32)] M2 (fun M6 => cw_v mt_X10_oneTick 12 [some (pv_r a0), some (pv_i (x1 + (1 : Int32))), none] [] M6 P)) ∧ ((v3 = 0) → cw_v mt_X10_oneTick 51 [some (pv_r a0), some (pv_i (0 : Int32)), none] [] M2 P))))))) : cw_v mt_X10_oneTick 12 [some (pv_r a0), some (pv_i x1), none] [] M P := by
  refine go_iload_n dX10_oneTick_12 rfl ?_
  refine go_bipush (v := (48 : Int32)) rfl dX10_oneTick_13 ?_
  refine go_icmp_ge (tgt := 49) dX10_oneTick_15 (by decide) (fun hc => ?_) (fun hc => ?_)
  · replace H := H.1 hc
    refine go_iconst (v := (0 : Int32)) rfl dX10_oneTick_49 ?_
    refine go_istore_n (by decide) dX10_oneTick_50 ?_
    show go_W mt_X10_oneTick fr_C 51 [some (pv_r a0), some (pv_i (0 : Int32)), none] [] M (qv_ P)
    exact H
  · replace H := H.2 hc
    refine go_aload_n dX10_oneTick_18 rfl ?_
    refine go_getR (k := 0) ⟨by decide, rfl, by decide, Or.inl ⟨_, rfl⟩⟩ K0 fl_X10_10 dX10_oneTick_19 ?_
    refine go_aload_n dX10_oneTick_22 rfl ?_
    refine go_getI (k := 11) ⟨by decide, rfl, by decide, rfl⟩ K0 fl_X10_108 dX10_oneTick_23 ?_
    obtain ⟨k1, H⟩ := H
    refine go_V (av := [pv_i (mm_i M a0 11)]) (st := []) (ci := 0) ok_X0_firstEnding ⟨by decide, by decide⟩ ml_X10_470 rfl (by decide) (fun v hv => by simp only [List.mem_cons, List.not_mem_nil, or_false] at hv; rcases hv with rfl <;> first | exact pv_1i | exact pv_1r) (Nat.le_of_ble_eq_true rfl) (fun _ h => h) (by decide) rfl k1 dX10_oneTick_26 H (fun r M2 hq hS => ?_)
    obtain ⟨v3, rfl, H⟩ := hq
    have k4 : mm_k M2 a0 = (10, 14) := ks_S K0 (by decide) hS
    have k5 : mm_k M2 (mm_r M a0 0) = (0, 4) := ks_S k1 (by decide) hS
    show go_W mt_X10_oneTick fr_C 29 [some (pv_r a0), some (pv_i x1), none] [pv_r v3] M2 (qv_ P)
    refine go_astore_n (by decide) dX10_oneTick_29 ?_
    show go_W mt_X10_oneTick fr_C 30 [some (pv_r a0), some (pv_i x1), some (pv_r v3)] [] M2 (qv_ P)
    refine go_aload_n dX10_oneTick_30 rfl ?_
    refine go_ifnonnull (tgt := 37) dX10_oneTick_31 (by decide) (fun hc => ?_) (fun hc => ?_)
    · replace H := H.1 hc
      refine go_aload_n dX10_oneTick_37 rfl ?_
      refine go_aload_n dX10_oneTick_38 rfl ?_
      refine go_iconst (v := (0 : Int32)) rfl dX10_oneTick_39 ?_
      refine go_V (av := [pv_r v3, pv_i (0 : Int32)]) (st := []) (ci := 10) ok_X10_failTask ⟨by decide, by decide⟩ ml_X10_101 rfl (by decide) (fun v hv => by simp only [List.mem_cons, List.not_mem_nil, or_false] at hv; rcases hv with rfl | rfl <;> first | exact pv_1i | exact pv_1r) (Nat.le_of_ble_eq_true rfl) (fun _ h => h) (by decide) rfl k4 dX10_oneTick_40 H (fun r M6 hq hS => ?_)
      obtain ⟨rfl, H⟩ := hq
      have k7 : mm_k M6 a0 = (10, 14) := ks_S k4 (by decide) hS
      have k8 : mm_k M6 (mm_r M a0 0) = (0, 4) := ks_S k5 (by decide) hS
      show go_W mt_X10_oneTick fr_C 43 [some (pv_r a0), some (pv_i x1), some (pv_r v3)] [] M6 (qv_ P)
      refine go_iinc (v := (1 : Int32)) (by decide) rfl rfl dX10_oneTick_43 ?_
      show go_W mt_X10_oneTick fr_C 46 [some (pv_r a0), some (pv_i (x1 + (1 : Int32))), some (pv_r v3)] [] M6 (qv_ P)
      refine go_goto (tgt := 12) dX10_oneTick_46 (by decide) ?_
      exact go_fg (ls' := [some (pv_r a0), some (pv_i (x1 + (1 : Int32))), none]) ⟨rfl, ⟨rfl, trivial⟩⟩ H
    · replace H := H.2 hc
      refine go_goto (tgt := 49) dX10_oneTick_34 (by decide) ?_
      refine go_iconst (v := (0 : Int32)) rfl dX10_oneTick_49 ?_
      refine go_istore_n (by decide) dX10_oneTick_50 ?_
      show go_W mt_X10_oneTick fr_C 51 [some (pv_r a0), some (pv_i (0 : Int32)), some (pv_r v3)] [] M2 (qv_ P)
      exact go_fg (ls' := [some (pv_r a0), some (pv_i (0 : Int32)), none]) ⟨rfl, ⟨rfl, trivial⟩⟩ H
set_option maxRecDepth 20000 in
theorem wc_X10_oneTick_51 {M : mm_T} {a0 : Nat} {x1 : Int32} {P : mm_T → Prop} (K0 : mm_k M a0 = (10, 14)) (H : ((((48 : Int32) ≤ x1) → cw_v mt_X10_oneTick 89 [some (pv_r a0), some (pv_i (0 : Int32)), none] [] M P) ∧ ((¬ (48 : Int32) ≤ x1) → mm_k M (mm_r M a0 0) = (0, 4) ∧ (cs_r mt_X0_firstDue [pv_r (mm_r M a0 0), pv_i (mm_i M a0 11)] M (fun v3 M2 => (((¬ v3 = 0) → cs_v mt_X10_waitAgain [pv_r a0, pv_r v3] M2 (fun M6 => cw_v mt_X10_oneTick 51 [some (pv_r a0), some (pv_i (x1 + (1 : Int32))), none] [] M6 P)) ∧ ((v3 = 0) → cw_v mt_X10_oneTick 89 [some (pv_r a0), some (pv_i (0 : Int32)), none] [] M2 P))))))) : cw_v mt_X10_oneTick 51 [some (pv_r a0), some (pv_i x1), none] [] M P := by
  refine go_iload_n dX10_oneTick_51 rfl ?_
  refine go_bipush (v := (48 : Int32)) rfl dX10_oneTick_52 ?_
  refine go_icmp_ge (tgt := 87) dX10_oneTick_54 (by decide) (fun hc => ?_) (fun hc => ?_)
  · replace H := H.1 hc
    refine go_iconst (v := (0 : Int32)) rfl dX10_oneTick_87 ?_
    refine go_istore_n (by decide) dX10_oneTick_88 ?_
    show go_W mt_X10_oneTick fr_C 89 [some (pv_r a0), some (pv_i (0 : Int32)), none] [] M (qv_ P)
    exact H
  · replace H := H.2 hc
    refine go_aload_n dX10_oneTick_57 rfl ?_
    refine go_getR (k := 0) ⟨by decide, rfl, by decide, Or.inl ⟨_, rfl⟩⟩ K0 fl_X10_10 dX10_oneTick_58 ?_
    refine go_aload_n dX10_oneTick_61 rfl ?_
    refine go_getI (k := 11) ⟨by decide, rfl, by decide, rfl⟩ K0 fl_X10_108 dX10_oneTick_62 ?_
    obtain ⟨k1, H⟩ := H
    refine go_V (av := [pv_i (mm_i M a0 11)]) (st := []) (ci := 0) ok_X0_firstDue ⟨by decide, by decide⟩ ml_X10_473 rfl (by decide) (fun v hv => by simp only [List.mem_cons, List.not_mem_nil, or_false] at hv; rcases hv with rfl <;> first | exact pv_1i | exact pv_1r) (Nat.le_of_ble_eq_true rfl) (fun _ h => h) (by decide) rfl k1 dX10_oneTick_65 H (fun r M2 hq hS => ?_)
    obtain ⟨v3, rfl, H⟩ := hq
    have k4 : mm_k M2 a0 = (10, 14) := ks_S K0 (by decide) hS
    have k5 : mm_k M2 (mm_r M a0 0) = (0, 4) := ks_S k1 (by decide) hS
    show go_W mt_X10_oneTick fr_C 68 [some (pv_r a0), some (pv_i x1), none] [pv_r v3] M2 (qv_ P)
    refine go_astore_n (by decide) dX10_oneTick_68 ?_
    show go_W mt_X10_oneTick fr_C 69 [some (pv_r a0), some (pv_i x1), some (pv_r v3)] [] M2 (qv_ P)
    refine go_aload_n dX10_oneTick_69 rfl ?_
    refine go_ifnonnull (tgt := 76) dX10_oneTick_70 (by decide) (fun hc => ?_) (fun hc => ?_)
    · replace H := H.1 hc
      refine go_aload_n dX10_oneTick_76 rfl ?_
      refine go_aload_n dX10_oneTick_77 rfl ?_
      refine go_V (av := [pv_r v3]) (st := []) (ci := 10) ok_X10_waitAgain ⟨by decide, by decide⟩ ml_X10_122 rfl (by decide) (fun v hv => by simp only [List.mem_cons, List.not_mem_nil, or_false] at hv; rcases hv with rfl <;> first | exact pv_1i | exact pv_1r) (Nat.le_of_ble_eq_true rfl) (fun _ h => h) (by decide) rfl k4 dX10_oneTick_78 H (fun r M6 hq hS => ?_)
      obtain ⟨rfl, H⟩ := hq
      have k7 : mm_k M6 a0 = (10, 14) := ks_S k4 (by decide) hS
      have k8 : mm_k M6 (mm_r M a0 0) = (0, 4) := ks_S k5 (by decide) hS
      show go_W mt_X10_oneTick fr_C 81 [some (pv_r a0), some (pv_i x1), some (pv_r v3)] [] M6 (qv_ P)
      refine go_iinc (v := (1 : Int32)) (by decide) rfl rfl dX10_oneTick_81 ?_
      show go_W mt_X10_oneTick fr_C 84 [some (pv_r a0), some (pv_i (x1 + (1 : Int32))), some (pv_r v3)] [] M6 (qv_ P)
      refine go_goto (tgt := 51) dX10_oneTick_84 (by decide) ?_
      exact go_fg (ls' := [some (pv_r a0), some (pv_i (x1 + (1 : Int32))), none]) ⟨rfl, ⟨rfl, trivial⟩⟩ H
    · replace H := H.2 hc
      refine go_goto (tgt := 87) dX10_oneTick_73 (by decide) ?_
      refine go_iconst (v := (0 : Int32)) rfl dX10_oneTick_87 ?_
      refine go_istore_n (by decide) dX10_oneTick_88 ?_
      show go_W mt_X10_oneTick fr_C 89 [some (pv_r a0), some (pv_i (0 : Int32)), some (pv_r v3)] [] M2 (qv_ P)
      exact go_fg (ls' := [some (pv_r a0), some (pv_i (0 : Int32)), none]) ⟨rfl, ⟨rfl, trivial⟩⟩ H
set_option maxRecDepth 20000 in
theorem wc_X10_oneTick_89 {M : mm_T} {a0 : Nat} {x1 : Int32} {P : mm_T → Prop} (K0 : mm_k M a0 = (10, 14)) (H : (((mm_i M a0 10 ≤ x1) → P M) ∧ ((¬ mm_i M a0 10 ≤ x1) → ∃ l1, ak_ M (mm_r M a0 6) 4 l1 ∧ (∃ n4, (x1 = nI n4 ∧ n4 < l1) ∧ (mm_k M (mm_r M (mm_r M a0 6) n4) = (7, 8) ∧ ((((¬ mm_i M (mm_r M (mm_r M a0 6) n4) 7 = mm_i M a0 11) → cw_v mt_X10_oneTick 89 [some (pv_r a0), some (pv_i (nI (n4 + 1))), none] [] M P) ∧ ((mm_i M (mm_r M (mm_r M a0 6) n4) 7 = mm_i M a0 11) → mm_k M (mm_r M (mm_r M (mm_r M a0 6) n4) 0) = (3, 14) ∧ (cs_i mt_X10_comeIfCan [pv_r a0, pv_i (mm_i M (mm_r M (mm_r M (mm_r M a0 6) n4) 0) 0), pv_i (mm_i M (mm_r M (mm_r M a0 6) n4) 1), pv_i (mm_i M (mm_r M (mm_r M a0 6) n4) 2), pv_i (mm_i M (mm_r M (mm_r M a0 6) n4) 3), pv_i (-1 : Int32)] M (fun v8 M7 => (((v8 < 0) → cs_v mt_X7_ring [pv_r (mm_r M (mm_r M a0 6) n4), pv_i (0 : Int32)] M7 (fun M13 => cw_v mt_X10_oneTick 89 [some (pv_r a0), some (pv_i (nI (n4 + 1))), none] [] M13 P)) ∧ ((¬ v8 < 0) → cs_v mt_X7_ring [pv_r (mm_r M (mm_r M a0 6) n4), pv_i (1 : Int32)] M7 (fun M18 => cw_v mt_X10_oneTick 89 [some (pv_r a0), some (pv_i (nI (n4 + 1))), none] [] M18 P))))))))))))) : cw_v mt_X10_oneTick 89 [some (pv_r a0), some (pv_i x1), none] [] M P := by
  refine go_iload_n dX10_oneTick_89 rfl ?_
  refine go_aload_n dX10_oneTick_90 rfl ?_
  refine go_getI (k := 10) ⟨by decide, rfl, by decide, rfl⟩ K0 fl_X10_141 dX10_oneTick_91 ?_
  refine go_icmp_ge (tgt := 157) dX10_oneTick_94 (by decide) (fun hc => ?_) (fun hc => ?_)
  · replace H := H.1 hc
    exact go_vret rfl dX10_oneTick_157 ⟨rfl, H⟩
  · replace H := H.2 hc
    refine go_aload_n dX10_oneTick_97 rfl ?_
    refine go_getR (k := 6) ⟨by decide, rfl, by decide, Or.inr ⟨_, rfl⟩⟩ K0 fl_X10_47 dX10_oneTick_98 ?_
    refine go_iload_n dX10_oneTick_101 rfl ?_
    obtain ⟨l1, k2, H⟩ := H
    obtain ⟨n4, ⟨hn4, hn4b⟩, H⟩ := H
    refine go_aaldA (j := n4) k2 (by decide) hn4 hn4b dX10_oneTick_102 ?_
    refine go_astore_n (by decide) dX10_oneTick_103 ?_
    show go_W mt_X10_oneTick fr_C 104 [some (pv_r a0), some (pv_i x1), some (pv_r (mm_r M (mm_r M a0 6) n4))] [] M (qv_ P)
    refine go_aload_n dX10_oneTick_104 rfl ?_
    obtain ⟨k5, H⟩ := H
    refine go_getI (k := 7) ⟨by decide, rfl, by decide, rfl⟩ k5 fl_X10_151 dX10_oneTick_105 ?_
    refine go_aload_n dX10_oneTick_108 rfl ?_
    refine go_getI (k := 11) ⟨by decide, rfl, by decide, rfl⟩ K0 fl_X10_108 dX10_oneTick_109 ?_
    refine go_icmp_ne (tgt := 151) dX10_oneTick_112 (by decide) (fun hc => ?_) (fun hc => ?_)
    · replace H := H.1 hc
      refine go_iincN (n := n4) (k := 1) hn4 (by decide) rfl rfl dX10_oneTick_151 ?_
      show go_W mt_X10_oneTick fr_C 154 [some (pv_r a0), some (pv_i (nI (n4 + 1))), some (pv_r (mm_r M (mm_r M a0 6) n4))] [] M (qv_ P)
      refine go_goto (tgt := 89) dX10_oneTick_154 (by decide) ?_
      exact go_fg (ls' := [some (pv_r a0), some (pv_i (nI (n4 + 1))), none]) ⟨rfl, ⟨rfl, trivial⟩⟩ H
    · replace H := H.2 hc
      refine go_aload_n dX10_oneTick_115 rfl ?_
      refine go_aload_n dX10_oneTick_116 rfl ?_
      refine go_aload_n dX10_oneTick_117 rfl ?_
      refine go_getR (k := 0) ⟨by decide, rfl, by decide, Or.inl ⟨_, rfl⟩⟩ k5 fl_X10_476 dX10_oneTick_118 ?_
      obtain ⟨k6, H⟩ := H
      refine go_getI (k := 0) ⟨by decide, rfl, by decide, rfl⟩ k6 fl_X10_345 dX10_oneTick_121 ?_
      refine go_aload_n dX10_oneTick_124 rfl ?_
      refine go_getI (k := 1) ⟨by decide, rfl, by decide, rfl⟩ k5 fl_X10_477 dX10_oneTick_125 ?_
      refine go_aload_n dX10_oneTick_128 rfl ?_
      refine go_getI (k := 2) ⟨by decide, rfl, by decide, rfl⟩ k5 fl_X10_478 dX10_oneTick_129 ?_
      refine go_aload_n dX10_oneTick_132 rfl ?_
      refine go_getI (k := 3) ⟨by decide, rfl, by decide, rfl⟩ k5 fl_X10_479 dX10_oneTick_133 ?_
      refine go_iconst (v := (-1 : Int32)) rfl dX10_oneTick_136 ?_
      refine go_V (av := [pv_i (mm_i M (mm_r M (mm_r M (mm_r M a0 6) n4) 0) 0), pv_i (mm_i M (mm_r M (mm_r M a0 6) n4) 1), pv_i (mm_i M (mm_r M (mm_r M a0 6) n4) 2), pv_i (mm_i M (mm_r M (mm_r M a0 6) n4) 3), pv_i (-1 : Int32)]) (st := [pv_r (mm_r M (mm_r M a0 6) n4)]) (ci := 10) ok_X10_comeIfCan ⟨by decide, by decide⟩ ml_X10_72 rfl (by decide) (fun v hv => by simp only [List.mem_cons, List.not_mem_nil, or_false] at hv; rcases hv with rfl | rfl | rfl | rfl | rfl <;> first | exact pv_1i | exact pv_1r) (Nat.le_of_ble_eq_true rfl) (fun _ h => h) (by decide) rfl K0 dX10_oneTick_137 H (fun r M7 hq hS => ?_)
      obtain ⟨v8, rfl, H⟩ := hq
      have k9 : mm_k M7 a0 = (10, 14) := ks_S K0 (by decide) hS
      have k10 : mm_k M7 (mm_r M (mm_r M a0 6) n4) = (7, 8) := ks_S k5 (by decide) hS
      have k11 : mm_k M7 (mm_r M (mm_r M (mm_r M a0 6) n4) 0) = (3, 14) := ks_S k6 (by decide) hS
      have k12 : ak_ M7 (mm_r M a0 6) 4 l1 := ak_S k2 hS
      show go_W mt_X10_oneTick fr_C 140 [some (pv_r a0), some (pv_i x1), some (pv_r (mm_r M (mm_r M a0 6) n4))] [pv_i v8, pv_r (mm_r M (mm_r M a0 6) n4)] M7 (qv_ P)
      refine go_if_lt (tgt := 147) dX10_oneTick_140 (by decide) (fun hc => ?_) (fun hc => ?_)
      · replace H := H.1 hc
        refine go_iconst (v := (0 : Int32)) rfl dX10_oneTick_147 ?_
        refine go_V (av := [pv_i (0 : Int32)]) (st := []) (ci := 7) ok_X7_ring ⟨by decide, by decide⟩ ml_X10_480 rfl (by decide) (fun v hv => by simp only [List.mem_cons, List.not_mem_nil, or_false] at hv; rcases hv with rfl <;> first | exact pv_1i | exact pv_1r) (Nat.le_of_ble_eq_true rfl) (fun _ h => h) (by decide) rfl k10 dX10_oneTick_148 H (fun r M13 hq hS => ?_)
        obtain ⟨rfl, H⟩ := hq
        have k14 : mm_k M13 a0 = (10, 14) := ks_S k9 (by decide) hS
        have k15 : mm_k M13 (mm_r M (mm_r M a0 6) n4) = (7, 8) := ks_S k10 (by decide) hS
        have k16 : mm_k M13 (mm_r M (mm_r M (mm_r M a0 6) n4) 0) = (3, 14) := ks_S k11 (by decide) hS
        have k17 : ak_ M13 (mm_r M a0 6) 4 l1 := ak_S k12 hS
        show go_W mt_X10_oneTick fr_C 151 [some (pv_r a0), some (pv_i x1), some (pv_r (mm_r M (mm_r M a0 6) n4))] [] M13 (qv_ P)
        refine go_iincN (n := n4) (k := 1) hn4 (by decide) rfl rfl dX10_oneTick_151 ?_
        show go_W mt_X10_oneTick fr_C 154 [some (pv_r a0), some (pv_i (nI (n4 + 1))), some (pv_r (mm_r M (mm_r M a0 6) n4))] [] M13 (qv_ P)
        refine go_goto (tgt := 89) dX10_oneTick_154 (by decide) ?_
        exact go_fg (ls' := [some (pv_r a0), some (pv_i (nI (n4 + 1))), none]) ⟨rfl, ⟨rfl, trivial⟩⟩ H
      · replace H := H.2 hc
        refine go_iconst (v := (1 : Int32)) rfl dX10_oneTick_143 ?_
        refine go_goto (tgt := 148) dX10_oneTick_144 (by decide) ?_
        refine go_V (av := [pv_i (1 : Int32)]) (st := []) (ci := 7) ok_X7_ring ⟨by decide, by decide⟩ ml_X10_480 rfl (by decide) (fun v hv => by simp only [List.mem_cons, List.not_mem_nil, or_false] at hv; rcases hv with rfl <;> first | exact pv_1i | exact pv_1r) (Nat.le_of_ble_eq_true rfl) (fun _ h => h) (by decide) rfl k10 dX10_oneTick_148 H (fun r M18 hq hS => ?_)
        obtain ⟨rfl, H⟩ := hq
        have k19 : mm_k M18 a0 = (10, 14) := ks_S k9 (by decide) hS
        have k20 : mm_k M18 (mm_r M (mm_r M a0 6) n4) = (7, 8) := ks_S k10 (by decide) hS
        have k21 : mm_k M18 (mm_r M (mm_r M (mm_r M a0 6) n4) 0) = (3, 14) := ks_S k11 (by decide) hS
        have k22 : ak_ M18 (mm_r M a0 6) 4 l1 := ak_S k12 hS
        show go_W mt_X10_oneTick fr_C 151 [some (pv_r a0), some (pv_i x1), some (pv_r (mm_r M (mm_r M a0 6) n4))] [] M18 (qv_ P)
        refine go_iincN (n := n4) (k := 1) hn4 (by decide) rfl rfl dX10_oneTick_151 ?_
        show go_W mt_X10_oneTick fr_C 154 [some (pv_r a0), some (pv_i (nI (n4 + 1))), some (pv_r (mm_r M (mm_r M a0 6) n4))] [] M18 (qv_ P)
        refine go_goto (tgt := 89) dX10_oneTick_154 (by decide) ?_
        exact go_fg (ls' := [some (pv_r a0), some (pv_i (nI (n4 + 1))), none]) ⟨rfl, ⟨rfl, trivial⟩⟩ H
set_option maxRecDepth 20000 in
theorem wc_X10_note_0 {M : mm_T} {a0 a2 a3 : Nat} {x1 x4 : Int32} {P : mm_T → Prop} (K0 : mm_k M a0 = (10, 14)) (H : (((¬ a3 = 0) → mm_k M a3 = (9, 5) ∧ (mm_k M (mm_r M a0 8) = (1, 3) ∧ (cs_v mt_X1_write [pv_r (mm_r M a0 8), pv_i (mm_i M a0 11), pv_i x1, pv_r a2, pv_i (mm_i M a3 0), pv_i x4] M (fun M3 => P M3)))) ∧ ((a3 = 0) → mm_k M (mm_r M a0 8) = (1, 3) ∧ (cs_v mt_X1_write [pv_r (mm_r M a0 8), pv_i (mm_i M a0 11), pv_i x1, pv_r a2, pv_i (-1 : Int32), pv_i x4] M (fun M8 => P M8))))) : cw_v mt_X10_note 0 [some (pv_r a0), some (pv_i x1), some (pv_r a2), some (pv_r a3), some (pv_i x4)] [] M P := by
  refine go_aload_n dX10_note_0 rfl ?_
  refine go_getR (k := 8) ⟨by decide, rfl, by decide, Or.inl ⟨_, rfl⟩⟩ K0 fl_X10_61 dX10_note_1 ?_
  refine go_aload_n dX10_note_4 rfl ?_
  refine go_getI (k := 11) ⟨by decide, rfl, by decide, rfl⟩ K0 fl_X10_108 dX10_note_5 ?_
  refine go_iload_n dX10_note_8 rfl ?_
  refine go_aload_n dX10_note_9 rfl ?_
  refine go_aload_n dX10_note_10 rfl ?_
  refine go_ifnonnull (tgt := 18) dX10_note_11 (by decide) (fun hc => ?_) (fun hc => ?_)
  · replace H := H.1 hc
    refine go_aload_n dX10_note_18 rfl ?_
    obtain ⟨k1, H⟩ := H
    refine go_getI (k := 0) ⟨by decide, rfl, by decide, rfl⟩ k1 fl_X10_486 dX10_note_19 ?_
    refine go_iload dX10_note_22 rfl ?_
    obtain ⟨k2, H⟩ := H
    refine go_V (av := [pv_i (mm_i M a0 11), pv_i x1, pv_r a2, pv_i (mm_i M a3 0), pv_i x4]) (st := []) (ci := 1) ok_X1_write ⟨by decide, by decide⟩ ml_X10_487 rfl (by decide) (fun v hv => by simp only [List.mem_cons, List.not_mem_nil, or_false] at hv; rcases hv with rfl | rfl | rfl | rfl | rfl <;> first | exact pv_1i | exact pv_1r) (Nat.le_of_ble_eq_true rfl) (fun _ h => h) (by decide) rfl k2 dX10_note_24 H (fun r M3 hq hS => ?_)
    obtain ⟨rfl, H⟩ := hq
    have k4 : mm_k M3 a0 = (10, 14) := ks_S K0 (by decide) hS
    have k5 : mm_k M3 a3 = (9, 5) := ks_S k1 (by decide) hS
    have k6 : mm_k M3 (mm_r M a0 8) = (1, 3) := ks_S k2 (by decide) hS
    show go_W mt_X10_note fr_C 27 [some (pv_r a0), some (pv_i x1), some (pv_r a2), some (pv_r a3), some (pv_i x4)] [] M3 (qv_ P)
    exact go_vret rfl dX10_note_27 ⟨rfl, H⟩
  · replace H := H.2 hc
    refine go_iconst (v := (-1 : Int32)) rfl dX10_note_14 ?_
    refine go_goto (tgt := 22) dX10_note_15 (by decide) ?_
    refine go_iload dX10_note_22 rfl ?_
    obtain ⟨k7, H⟩ := H
    refine go_V (av := [pv_i (mm_i M a0 11), pv_i x1, pv_r a2, pv_i (-1 : Int32), pv_i x4]) (st := []) (ci := 1) ok_X1_write ⟨by decide, by decide⟩ ml_X10_487 rfl (by decide) (fun v hv => by simp only [List.mem_cons, List.not_mem_nil, or_false] at hv; rcases hv with rfl | rfl | rfl | rfl | rfl <;> first | exact pv_1i | exact pv_1r) (Nat.le_of_ble_eq_true rfl) (fun _ h => h) (by decide) rfl k7 dX10_note_24 H (fun r M8 hq hS => ?_)
    obtain ⟨rfl, H⟩ := hq
    have k9 : mm_k M8 a0 = (10, 14) := ks_S K0 (by decide) hS
    have k10 : mm_k M8 (mm_r M a0 8) = (1, 3) := ks_S k7 (by decide) hS
    show go_W mt_X10_note fr_C 27 [some (pv_r a0), some (pv_i x1), some (pv_r a2), some (pv_r a3), some (pv_i x4)] [] M8 (qv_ P)
    exact go_vret rfl dX10_note_27 ⟨rfl, H⟩
set_option maxRecDepth 20000 in
theorem wc_X10_taskAt_0 {M : mm_T} {a0 : Nat} {x1 : Int32} {P : Nat → mm_T → Prop} (K0 : mm_k M a0 = (10, 14)) (H : mm_k M (mm_r M a0 2) = (4, 2) ∧ (cs_r mt_X4_at [pv_r (mm_r M a0 2), pv_i x1] M (fun v3 M2 => P v3 M2))) : cw_r mt_X10_taskAt 0 [some (pv_r a0), some (pv_i x1)] [] M P := by
  refine go_aload_n dX10_taskAt_0 rfl ?_
  refine go_getR (k := 2) ⟨by decide, rfl, by decide, Or.inl ⟨_, rfl⟩⟩ K0 fl_X10_28 dX10_taskAt_1 ?_
  refine go_iload_n dX10_taskAt_4 rfl ?_
  obtain ⟨k1, H⟩ := H
  refine go_V (av := [pv_i x1]) (st := []) (ci := 4) ok_X4_at ⟨by decide, by decide⟩ ml_X10_289 rfl (by decide) (fun v hv => by simp only [List.mem_cons, List.not_mem_nil, or_false] at hv; rcases hv with rfl <;> first | exact pv_1i | exact pv_1r) (Nat.le_of_ble_eq_true rfl) (fun _ h => h) (by decide) rfl k1 dX10_taskAt_5 H (fun r M2 hq hS => ?_)
  obtain ⟨v3, rfl, H⟩ := hq
  have k4 : mm_k M2 a0 = (10, 14) := ks_S K0 (by decide) hS
  have k5 : mm_k M2 (mm_r M a0 2) = (4, 2) := ks_S k1 (by decide) hS
  show go_W mt_X10_taskAt fr_C 8 [some (pv_r a0), some (pv_i x1)] [pv_r v3] M2 (qr_ P)
  exact go_aret rfl (Or.inl ⟨_, rfl⟩) dX10_taskAt_8 ⟨_, rfl, H⟩
set_option maxRecDepth 20000 in
theorem wc_X10_workerAt_0 {M : mm_T} {a0 : Nat} {x1 : Int32} {P : Nat → mm_T → Prop} (K0 : mm_k M a0 = (10, 14)) (H : (((x1 < 0) → P 0 M) ∧ ((¬ x1 < 0) → (((x1 < (6 : Int32)) → ∃ l1, ak_ M (mm_r M a0 5) 5 l1 ∧ (∃ n4, (x1 = nI n4 ∧ n4 < l1) ∧ (P (mm_r M (mm_r M a0 5) n4) M))) ∧ ((¬ x1 < (6 : Int32)) → P 0 M))))) : cw_r mt_X10_workerAt 0 [some (pv_r a0), some (pv_i x1)] [] M P := by
  refine go_iload_n dX10_workerAt_0 rfl ?_
  refine go_if_lt (tgt := 10) dX10_workerAt_1 (by decide) (fun hc => ?_) (fun hc => ?_)
  · replace H := H.1 hc
    refine go_null dX10_workerAt_10 ?_
    refine go_goto (tgt := 20) dX10_workerAt_11 (by decide) ?_
    exact go_aret rfl (Or.inl ⟨_, rfl⟩) dX10_workerAt_20 ⟨_, rfl, H⟩
  · replace H := H.2 hc
    refine go_iload_n dX10_workerAt_4 rfl ?_
    refine go_bipush (v := (6 : Int32)) rfl dX10_workerAt_5 ?_
    refine go_icmp_lt (tgt := 14) dX10_workerAt_7 (by decide) (fun hc => ?_) (fun hc => ?_)
    · replace H := H.1 hc
      refine go_aload_n dX10_workerAt_14 rfl ?_
      refine go_getR (k := 5) ⟨by decide, rfl, by decide, Or.inr ⟨_, rfl⟩⟩ K0 fl_X10_40 dX10_workerAt_15 ?_
      refine go_iload_n dX10_workerAt_18 rfl ?_
      obtain ⟨l1, k2, H⟩ := H
      obtain ⟨n4, ⟨hn4, hn4b⟩, H⟩ := H
      refine go_aaldA (j := n4) k2 (by decide) hn4 hn4b dX10_workerAt_19 ?_
      exact go_aret rfl (Or.inl ⟨_, rfl⟩) dX10_workerAt_20 ⟨_, rfl, H⟩
    · replace H := H.2 hc
      refine go_null dX10_workerAt_10 ?_
      refine go_goto (tgt := 20) dX10_workerAt_11 (by decide) ?_
      exact go_aret rfl (Or.inl ⟨_, rfl⟩) dX10_workerAt_20 ⟨_, rfl, H⟩
set_option maxRecDepth 20000 in
theorem wc_X10_timerAt_0 {M : mm_T} {a0 : Nat} {x1 : Int32} {P : Nat → mm_T → Prop} (K0 : mm_k M a0 = (10, 14)) (H : (((x1 < 0) → P 0 M) ∧ ((¬ x1 < 0) → (((x1 < mm_i M a0 10) → ∃ l1, ak_ M (mm_r M a0 6) 4 l1 ∧ (∃ n4, (x1 = nI n4 ∧ n4 < l1) ∧ (P (mm_r M (mm_r M a0 6) n4) M))) ∧ ((¬ x1 < mm_i M a0 10) → P 0 M))))) : cw_r mt_X10_timerAt 0 [some (pv_r a0), some (pv_i x1)] [] M P := by
  refine go_iload_n dX10_timerAt_0 rfl ?_
  refine go_if_lt (tgt := 12) dX10_timerAt_1 (by decide) (fun hc => ?_) (fun hc => ?_)
  · replace H := H.1 hc
    refine go_null dX10_timerAt_12 ?_
    refine go_goto (tgt := 22) dX10_timerAt_13 (by decide) ?_
    exact go_aret rfl (Or.inl ⟨_, rfl⟩) dX10_timerAt_22 ⟨_, rfl, H⟩
  · replace H := H.2 hc
    refine go_iload_n dX10_timerAt_4 rfl ?_
    refine go_aload_n dX10_timerAt_5 rfl ?_
    refine go_getI (k := 10) ⟨by decide, rfl, by decide, rfl⟩ K0 fl_X10_141 dX10_timerAt_6 ?_
    refine go_icmp_lt (tgt := 16) dX10_timerAt_9 (by decide) (fun hc => ?_) (fun hc => ?_)
    · replace H := H.1 hc
      refine go_aload_n dX10_timerAt_16 rfl ?_
      refine go_getR (k := 6) ⟨by decide, rfl, by decide, Or.inr ⟨_, rfl⟩⟩ K0 fl_X10_47 dX10_timerAt_17 ?_
      refine go_iload_n dX10_timerAt_20 rfl ?_
      obtain ⟨l1, k2, H⟩ := H
      obtain ⟨n4, ⟨hn4, hn4b⟩, H⟩ := H
      refine go_aaldA (j := n4) k2 (by decide) hn4 hn4b dX10_timerAt_21 ?_
      exact go_aret rfl (Or.inl ⟨_, rfl⟩) dX10_timerAt_22 ⟨_, rfl, H⟩
    · replace H := H.2 hc
      refine go_null dX10_timerAt_12 ?_
      refine go_goto (tgt := 22) dX10_timerAt_13 (by decide) ?_
      exact go_aret rfl (Or.inl ⟨_, rfl⟩) dX10_timerAt_22 ⟨_, rfl, H⟩
set_option maxRecDepth 20000 in
theorem wc_X10_numberOf_0 {M : mm_T} {a0 : Nat} {P : Int32 → mm_T → Prop} (H : (((¬ a0 = 0) → mm_k M a0 = (6, 17) ∧ (P (mm_i M a0 0) M)) ∧ ((a0 = 0) → P (-1 : Int32) M))) : cw_i mt_X10_numberOf 0 [some (pv_r a0)] [] M P := by
  refine go_aload_n dX10_numberOf_0 rfl ?_
  refine go_ifnonnull (tgt := 8) dX10_numberOf_1 (by decide) (fun hc => ?_) (fun hc => ?_)
  · replace H := H.1 hc
    refine go_aload_n dX10_numberOf_8 rfl ?_
    obtain ⟨k1, H⟩ := H
    refine go_getI (k := 0) ⟨by decide, rfl, by decide, rfl⟩ k1 fl_X10_95 dX10_numberOf_9 ?_
    exact go_iret rfl rfl dX10_numberOf_12 ⟨_, rfl, H⟩
  · replace H := H.2 hc
    refine go_iconst (v := (-1 : Int32)) rfl dX10_numberOf_4 ?_
    refine go_goto (tgt := 12) dX10_numberOf_5 (by decide) ?_
    exact go_iret rfl rfl dX10_numberOf_12 ⟨_, rfl, H⟩
set_option maxRecDepth 20000 in
theorem wc_X10_isKey_0 {M : mm_T} {x0 : Int32} {P : Int32 → mm_T → Prop} (H : (((x0 < 0) → P (0 : Int32) M) ∧ ((¬ x0 < 0) → ((((9999 : Int32) < x0) → P (0 : Int32) M) ∧ ((¬ (9999 : Int32) < x0) → P (1 : Int32) M))))) : cw_i mt_X10_isKey 0 [some (pv_i x0)] [] M P := by
  refine go_iload_n dX10_isKey_0 rfl ?_
  refine go_if_lt (tgt := 15) dX10_isKey_1 (by decide) (fun hc => ?_) (fun hc => ?_)
  · replace H := H.1 hc
    refine go_iconst (v := (0 : Int32)) rfl dX10_isKey_15 ?_
    exact go_iret rfl rfl dX10_isKey_16 ⟨_, rfl, H⟩
  · replace H := H.2 hc
    refine go_iload_n dX10_isKey_4 rfl ?_
    refine go_sipush (v := (9999 : Int32)) rfl dX10_isKey_5 ?_
    refine go_icmp_gt (tgt := 15) dX10_isKey_8 (by decide) (fun hc => ?_) (fun hc => ?_)
    · replace H := H.1 hc
      refine go_iconst (v := (0 : Int32)) rfl dX10_isKey_15 ?_
      exact go_iret rfl rfl dX10_isKey_16 ⟨_, rfl, H⟩
    · replace H := H.2 hc
      refine go_iconst (v := (1 : Int32)) rfl dX10_isKey_11 ?_
      refine go_goto (tgt := 16) dX10_isKey_12 (by decide) ?_
      exact go_iret rfl rfl dX10_isKey_16 ⟨_, rfl, H⟩
set_option maxRecDepth 20000 in
theorem wc_X10_isWork_0 {M : mm_T} {x0 x1 x2 : Int32} {P : Int32 → mm_T → Prop} (H : (((x0 < 0) → P (0 : Int32) M) ∧ ((¬ x0 < 0) → ((((9 : Int32) < x0) → P (0 : Int32) M) ∧ ((¬ (9 : Int32) < x0) → (((x1 < (1 : Int32)) → P (0 : Int32) M) ∧ ((¬ x1 < (1 : Int32)) → ((((20 : Int32) < x1) → P (0 : Int32) M) ∧ ((¬ (20 : Int32) < x1) → cs_i mt_X10_isKey [pv_i x2] M (fun v2 M1 => (((v2 = 0) → P (0 : Int32) M1) ∧ ((¬ v2 = 0) → P (1 : Int32) M1)))))))))))) : cw_i mt_X10_isWork 0 [some (pv_i x0), some (pv_i x1), some (pv_i x2)] [] M P := by
  refine go_iload_n dX10_isWork_0 rfl ?_
  refine go_if_lt (tgt := 32) dX10_isWork_1 (by decide) (fun hc => ?_) (fun hc => ?_)
  · replace H := H.1 hc
    refine go_iconst (v := (0 : Int32)) rfl dX10_isWork_32 ?_
    exact go_iret rfl rfl dX10_isWork_33 ⟨_, rfl, H⟩
  · replace H := H.2 hc
    refine go_iload_n dX10_isWork_4 rfl ?_
    refine go_bipush (v := (9 : Int32)) rfl dX10_isWork_5 ?_
    refine go_icmp_gt (tgt := 32) dX10_isWork_7 (by decide) (fun hc => ?_) (fun hc => ?_)
    · replace H := H.1 hc
      refine go_iconst (v := (0 : Int32)) rfl dX10_isWork_32 ?_
      exact go_iret rfl rfl dX10_isWork_33 ⟨_, rfl, H⟩
    · replace H := H.2 hc
      refine go_iload_n dX10_isWork_10 rfl ?_
      refine go_iconst (v := (1 : Int32)) rfl dX10_isWork_11 ?_
      refine go_icmp_lt (tgt := 32) dX10_isWork_12 (by decide) (fun hc => ?_) (fun hc => ?_)
      · replace H := H.1 hc
        refine go_iconst (v := (0 : Int32)) rfl dX10_isWork_32 ?_
        exact go_iret rfl rfl dX10_isWork_33 ⟨_, rfl, H⟩
      · replace H := H.2 hc
        refine go_iload_n dX10_isWork_15 rfl ?_
        refine go_bipush (v := (20 : Int32)) rfl dX10_isWork_16 ?_
        refine go_icmp_gt (tgt := 32) dX10_isWork_18 (by decide) (fun hc => ?_) (fun hc => ?_)
        · replace H := H.1 hc
          refine go_iconst (v := (0 : Int32)) rfl dX10_isWork_32 ?_
          exact go_iret rfl rfl dX10_isWork_33 ⟨_, rfl, H⟩
        · replace H := H.2 hc
          refine go_iload_n dX10_isWork_21 rfl ?_
          refine go_St (av := [pv_i x2]) (st := []) ok_X10_isKey ⟨by decide, by decide⟩ ml_X10_234 rfl (by decide) (fun v hv => by simp only [List.mem_cons, List.not_mem_nil, or_false] at hv; rcases hv with rfl <;> first | exact pv_1i | exact pv_1r) (Nat.le_of_ble_eq_true rfl) (fun _ h => h) dX10_isWork_22 H (fun r M1 hq hS => ?_)
          obtain ⟨v2, rfl, H⟩ := hq
          show go_W mt_X10_isWork fr_C 25 [some (pv_i x0), some (pv_i x1), some (pv_i x2)] [pv_i v2] M1 (qi_ P)
          refine go_if_eq (tgt := 32) dX10_isWork_25 (by decide) (fun hc => ?_) (fun hc => ?_)
          · replace H := H.1 hc
            refine go_iconst (v := (0 : Int32)) rfl dX10_isWork_32 ?_
            exact go_iret rfl rfl dX10_isWork_33 ⟨_, rfl, H⟩
          · replace H := H.2 hc
            refine go_iconst (v := (1 : Int32)) rfl dX10_isWork_28 ?_
            refine go_goto (tgt := 33) dX10_isWork_29 (by decide) ?_
            exact go_iret rfl rfl dX10_isWork_33 ⟨_, rfl, H⟩
set_option maxRecDepth 20000 in
theorem wc_X10_isCrew_0 {M : mm_T} {x0 : Int32} {P : Int32 → mm_T → Prop} (H : (((x0 < (1 : Int32)) → P (0 : Int32) M) ∧ ((¬ x0 < (1 : Int32)) → ((((6 : Int32) < x0) → P (0 : Int32) M) ∧ ((¬ (6 : Int32) < x0) → P (1 : Int32) M))))) : cw_i mt_X10_isCrew 0 [some (pv_i x0)] [] M P := by
  refine go_iload_n dX10_isCrew_0 rfl ?_
  refine go_iconst (v := (1 : Int32)) rfl dX10_isCrew_1 ?_
  refine go_icmp_lt (tgt := 15) dX10_isCrew_2 (by decide) (fun hc => ?_) (fun hc => ?_)
  · replace H := H.1 hc
    refine go_iconst (v := (0 : Int32)) rfl dX10_isCrew_15 ?_
    exact go_iret rfl rfl dX10_isCrew_16 ⟨_, rfl, H⟩
  · replace H := H.2 hc
    refine go_iload_n dX10_isCrew_5 rfl ?_
    refine go_bipush (v := (6 : Int32)) rfl dX10_isCrew_6 ?_
    refine go_icmp_gt (tgt := 15) dX10_isCrew_8 (by decide) (fun hc => ?_) (fun hc => ?_)
    · replace H := H.1 hc
      refine go_iconst (v := (0 : Int32)) rfl dX10_isCrew_15 ?_
      exact go_iret rfl rfl dX10_isCrew_16 ⟨_, rfl, H⟩
    · replace H := H.2 hc
      refine go_iconst (v := (1 : Int32)) rfl dX10_isCrew_11 ?_
      refine go_goto (tgt := 16) dX10_isCrew_12 (by decide) ?_
      exact go_iret rfl rfl dX10_isCrew_16 ⟨_, rfl, H⟩
set_option maxRecDepth 20000 in
theorem wc_X10_thousandths_0 {M : mm_T} {x0 x1 : Int32} {P : Int32 → mm_T → Prop} (H : (((0 < x1) → ¬ x1.toInt64 = 0 ∧ (P ((((1000 : Int64) * x0.toInt64) / x1.toInt64).toInt32) M)) ∧ ((¬ 0 < x1) → P (0 : Int32) M))) : cw_i mt_X10_thousandths 0 [some (pv_i x0), some (pv_i x1)] [] M P := by
  refine go_iload_n dX10_thousandths_0 rfl ?_
  refine go_if_gt (tgt := 8) dX10_thousandths_1 (by decide) (fun hc => ?_) (fun hc => ?_)
  · replace H := H.1 hc
    refine go_ldc2 (v := (1000 : Int64)) kc_X10_491 dX10_thousandths_8 ?_
    refine go_iload_n dX10_thousandths_11 rfl ?_
    refine go_i2l dX10_thousandths_12 ?_
    refine go_lmul dX10_thousandths_13 ?_
    refine go_iload_n dX10_thousandths_14 rfl ?_
    refine go_i2l dX10_thousandths_15 ?_
    refine go_ldiv H.1 dX10_thousandths_16 ?_
    replace H := H.2
    refine go_l2i dX10_thousandths_17 ?_
    exact go_iret rfl rfl dX10_thousandths_18 ⟨_, rfl, H⟩
  · replace H := H.2 hc
    refine go_iconst (v := (0 : Int32)) rfl dX10_thousandths_4 ?_
    refine go_goto (tgt := 18) dX10_thousandths_5 (by decide) ?_
    exact go_iret rfl rfl dX10_thousandths_18 ⟨_, rfl, H⟩
set_option maxRecDepth 20000 in
theorem wc_X10_placesIn_0 {M : mm_T} {a0 a1 : Nat} {P : Int32 → mm_T → Prop} (K0 : mm_k M a0 = (10, 14)) (H : mm_k M a1 = (3, 14) ∧ ((((mm_i M a1 4 = 0) → mm_k M (mm_r M a0 0) = (0, 4) ∧ (∃ l3, ak_ M (mm_r M (mm_r M a0 0) 3) 0 l3 ∧ (4 < l3 ∧ (mm_k M (mm_r M (mm_r M a0 0) 1) = (4, 2) ∧ (mm_k M (mm_r M a0 2) = (4, 2) ∧ (P (if (0 : Int32) < (if (if ((400 : Int32) - mm_i M (mm_r M a0 2) 1) < (mm_i M (mm_r M (mm_r M a0 0) 3) 4 - mm_i M (mm_r M (mm_r M a0 0) 1) 1) then ((400 : Int32) - mm_i M (mm_r M a0 2) 1) else (mm_i M (mm_r M (mm_r M a0 0) 3) 4 - mm_i M (mm_r M (mm_r M a0 0) 1) 1)) < (mm_i M a1 2 - mm_i M a1 7) then (if ((400 : Int32) - mm_i M (mm_r M a0 2) 1) < (mm_i M (mm_r M (mm_r M a0 0) 3) 4 - mm_i M (mm_r M (mm_r M a0 0) 1) 1) then ((400 : Int32) - mm_i M (mm_r M a0 2) 1) else (mm_i M (mm_r M (mm_r M a0 0) 3) 4 - mm_i M (mm_r M (mm_r M a0 0) 1) 1)) else (mm_i M a1 2 - mm_i M a1 7)) then (if (if ((400 : Int32) - mm_i M (mm_r M a0 2) 1) < (mm_i M (mm_r M (mm_r M a0 0) 3) 4 - mm_i M (mm_r M (mm_r M a0 0) 1) 1) then ((400 : Int32) - mm_i M (mm_r M a0 2) 1) else (mm_i M (mm_r M (mm_r M a0 0) 3) 4 - mm_i M (mm_r M (mm_r M a0 0) 1) 1)) < (mm_i M a1 2 - mm_i M a1 7) then (if ((400 : Int32) - mm_i M (mm_r M a0 2) 1) < (mm_i M (mm_r M (mm_r M a0 0) 3) 4 - mm_i M (mm_r M (mm_r M a0 0) 1) 1) then ((400 : Int32) - mm_i M (mm_r M a0 2) 1) else (mm_i M (mm_r M (mm_r M a0 0) 3) 4 - mm_i M (mm_r M (mm_r M a0 0) 1) 1)) else (mm_i M a1 2 - mm_i M a1 7)) else (0 : Int32)) M)))))) ∧ ((¬ mm_i M a1 4 = 0) → P (0 : Int32) M)))) : cw_i mt_X10_placesIn 0 [some (pv_r a0), some (pv_r a1), none] [] M P := by
  refine go_aload_n dX10_placesIn_0 rfl ?_
  obtain ⟨k1, H⟩ := H
  refine go_getI (k := 4) ⟨by decide, rfl, by decide, rfl⟩ k1 fl_X10_160 dX10_placesIn_1 ?_
  refine go_if_eq (tgt := 9) dX10_placesIn_4 (by decide) (fun hc => ?_) (fun hc => ?_)
  · replace H := H.1 hc
    refine go_aload_n dX10_placesIn_9 rfl ?_
    refine go_getR (k := 0) ⟨by decide, rfl, by decide, Or.inl ⟨_, rfl⟩⟩ K0 fl_X10_10 dX10_placesIn_10 ?_
    obtain ⟨k2, H⟩ := H
    refine go_getR (k := 3) ⟨by decide, rfl, by decide, Or.inr ⟨_, rfl⟩⟩ k2 fl_X10_111 dX10_placesIn_13 ?_
    refine go_iconst (v := (4 : Int32)) rfl dX10_placesIn_16 ?_
    obtain ⟨l3, k4, H⟩ := H
    obtain ⟨hb5, H⟩ := H
    refine go_ialdA (j := 4) k4 rfl hb5 dX10_placesIn_17 ?_
    refine go_aload_n dX10_placesIn_18 rfl ?_
    refine go_getR (k := 0) ⟨by decide, rfl, by decide, Or.inl ⟨_, rfl⟩⟩ K0 fl_X10_10 dX10_placesIn_19 ?_
    refine go_getR (k := 1) ⟨by decide, rfl, by decide, Or.inl ⟨_, rfl⟩⟩ k2 fl_X10_254 dX10_placesIn_22 ?_
    obtain ⟨k6, H⟩ := H
    refine go_getI (k := 1) ⟨by decide, rfl, by decide, rfl⟩ k6 fl_X10_222 dX10_placesIn_25 ?_
    refine go_isub dX10_placesIn_28 ?_
    refine go_sipush (v := (400 : Int32)) rfl dX10_placesIn_29 ?_
    refine go_aload_n dX10_placesIn_32 rfl ?_
    refine go_getR (k := 2) ⟨by decide, rfl, by decide, Or.inl ⟨_, rfl⟩⟩ K0 fl_X10_28 dX10_placesIn_33 ?_
    obtain ⟨k7, H⟩ := H
    refine go_getI (k := 1) ⟨by decide, rfl, by decide, rfl⟩ k7 fl_X10_222 dX10_placesIn_36 ?_
    refine go_isub dX10_placesIn_39 ?_
    refine go_mmin ml_X10_493 (Nat.le_of_ble_eq_true rfl) ⟨by decide, by decide⟩ dX10_placesIn_40 ?_
    refine go_istore_n (by decide) dX10_placesIn_43 ?_
    show go_W mt_X10_placesIn fr_C 44 [some (pv_r a0), some (pv_r a1), some (pv_i (if ((400 : Int32) - mm_i M (mm_r M a0 2) 1) < (mm_i M (mm_r M (mm_r M a0 0) 3) 4 - mm_i M (mm_r M (mm_r M a0 0) 1) 1) then ((400 : Int32) - mm_i M (mm_r M a0 2) 1) else (mm_i M (mm_r M (mm_r M a0 0) 3) 4 - mm_i M (mm_r M (mm_r M a0 0) 1) 1)))] [] M (qi_ P)
    refine go_iconst (v := (0 : Int32)) rfl dX10_placesIn_44 ?_
    refine go_aload_n dX10_placesIn_45 rfl ?_
    refine go_getI (k := 2) ⟨by decide, rfl, by decide, rfl⟩ k1 fl_X10_496 dX10_placesIn_46 ?_
    refine go_aload_n dX10_placesIn_49 rfl ?_
    refine go_getI (k := 7) ⟨by decide, rfl, by decide, rfl⟩ k1 fl_X10_168 dX10_placesIn_50 ?_
    refine go_isub dX10_placesIn_53 ?_
    refine go_iload_n dX10_placesIn_54 rfl ?_
    refine go_mmin ml_X10_493 (Nat.le_of_ble_eq_true rfl) ⟨by decide, by decide⟩ dX10_placesIn_55 ?_
    refine go_mmax ml_X10_356 (Nat.le_of_ble_eq_true rfl) ⟨by decide, by decide⟩ dX10_placesIn_58 ?_
    exact go_iret rfl rfl dX10_placesIn_61 ⟨_, rfl, H⟩
  · replace H := H.2 hc
    refine go_iconst (v := (0 : Int32)) rfl dX10_placesIn_7 ?_
    exact go_iret rfl rfl dX10_placesIn_8 ⟨_, rfl, H⟩
set_option maxRecDepth 20000 in
theorem wc_X10_restOf_0 {M : mm_T} {a0 : Nat} {x1 : Int32} {P : Int32 → mm_T → Prop} (K0 : mm_k M a0 = (10, 14)) (H : mm_k M (mm_r M a0 0) = (0, 4) ∧ (∃ l2, ak_ M (mm_r M (mm_r M a0 0) 3) 0 l2 ∧ (2 < l2 ∧ (P (mm_i M (mm_r M (mm_r M a0 0) 3) 2 <<< ((if (0 : Int32) < (if (8 : Int32) < (x1 - (1 : Int32)) then (8 : Int32) else (x1 - (1 : Int32))) then (if (8 : Int32) < (x1 - (1 : Int32)) then (8 : Int32) else (x1 - (1 : Int32))) else (0 : Int32)) &&& 31)) M)))) : cw_i mt_X10_restOf 0 [some (pv_r a0), some (pv_i x1)] [] M P := by
  refine go_aload_n dX10_restOf_0 rfl ?_
  refine go_getR (k := 0) ⟨by decide, rfl, by decide, Or.inl ⟨_, rfl⟩⟩ K0 fl_X10_10 dX10_restOf_1 ?_
  obtain ⟨k1, H⟩ := H
  refine go_getR (k := 3) ⟨by decide, rfl, by decide, Or.inr ⟨_, rfl⟩⟩ k1 fl_X10_111 dX10_restOf_4 ?_
  refine go_iconst (v := (2 : Int32)) rfl dX10_restOf_7 ?_
  obtain ⟨l2, k3, H⟩ := H
  obtain ⟨hb4, H⟩ := H
  refine go_ialdA (j := 2) k3 rfl hb4 dX10_restOf_8 ?_
  refine go_iconst (v := (0 : Int32)) rfl dX10_restOf_9 ?_
  refine go_iload_n dX10_restOf_10 rfl ?_
  refine go_iconst (v := (1 : Int32)) rfl dX10_restOf_11 ?_
  refine go_isub dX10_restOf_12 ?_
  refine go_bipush (v := (8 : Int32)) rfl dX10_restOf_13 ?_
  refine go_mmin ml_X10_493 (Nat.le_of_ble_eq_true rfl) ⟨by decide, by decide⟩ dX10_restOf_15 ?_
  refine go_mmax ml_X10_356 (Nat.le_of_ble_eq_true rfl) ⟨by decide, by decide⟩ dX10_restOf_18 ?_
  refine go_ishl dX10_restOf_21 ?_
  exact go_iret rfl rfl dX10_restOf_22 ⟨_, rfl, H⟩
set_option maxRecDepth 20000 in
theorem wc_X10_failingBy_0 {M : mm_T} {a0 : Nat} {x1 : Int32} {P : Int32 → mm_T → Prop} (K0 : mm_k M a0 = (10, 14)) (H : cw_i mt_X10_failingBy 4 [some (pv_r a0), some (pv_i x1), some (pv_i (0 : Int32)), some (pv_i (0 : Int32))] [] M P) : cw_i mt_X10_failingBy 0 [some (pv_r a0), some (pv_i x1), none, none] [] M P := by
  refine go_iconst (v := (0 : Int32)) rfl dX10_failingBy_0 ?_
  refine go_istore_n (by decide) dX10_failingBy_1 ?_
  show go_W mt_X10_failingBy fr_C 2 [some (pv_r a0), some (pv_i x1), some (pv_i (0 : Int32)), none] [] M (qi_ P)
  refine go_iconst (v := (0 : Int32)) rfl dX10_failingBy_2 ?_
  refine go_istore_n (by decide) dX10_failingBy_3 ?_
  show go_W mt_X10_failingBy fr_C 4 [some (pv_r a0), some (pv_i x1), some (pv_i (0 : Int32)), some (pv_i (0 : Int32))] [] M (qi_ P)
  exact H
set_option maxRecDepth 20000 in
theorem wc_X10_failingBy_4 {M : mm_T} {a0 : Nat} {x1 x2 x3 : Int32} {P : Int32 → mm_T → Prop} (K0 : mm_k M a0 = (10, 14)) (H : mm_k M (mm_r M a0 0) = (0, 4) ∧ (mm_k M (mm_r M (mm_r M a0 0) 1) = (4, 2) ∧ ((((mm_i M (mm_r M (mm_r M a0 0) 1) 1 ≤ x3) → P x2 M) ∧ ((¬ mm_i M (mm_r M (mm_r M a0 0) 1) 1 ≤ x3) → ∃ l3, ak_ M (mm_r M (mm_r M (mm_r M a0 0) 1) 0) 3 l3 ∧ (∃ n6, (x3 = nI n6 ∧ n6 < l3) ∧ (mm_k M (mm_r M (mm_r M (mm_r M (mm_r M a0 0) 1) 0) n6) = (6, 17) ∧ (cs_i mt_X6_endsBy [pv_r (mm_r M (mm_r M (mm_r M (mm_r M a0 0) 1) 0) n6), pv_i x1] M (fun v9 M8 => (((v9 = 0) → cw_i mt_X10_failingBy 4 [some (pv_r a0), some (pv_i x1), some (pv_i x2), some (pv_i (nI (n6 + 1)))] [] M8 P) ∧ ((¬ v9 = 0) → cw_i mt_X10_failingBy 4 [some (pv_r a0), some (pv_i x1), some (pv_i (x2 + (1 : Int32))), some (pv_i (nI (n6 + 1)))] [] M8 P))))))))))) : cw_i mt_X10_failingBy 4 [some (pv_r a0), some (pv_i x1), some (pv_i x2), some (pv_i x3)] [] M P := by
  refine go_iload_n dX10_failingBy_4 rfl ?_
  refine go_aload_n dX10_failingBy_5 rfl ?_
  refine go_getR (k := 0) ⟨by decide, rfl, by decide, Or.inl ⟨_, rfl⟩⟩ K0 fl_X10_10 dX10_failingBy_6 ?_
  obtain ⟨k1, H⟩ := H
  refine go_getR (k := 1) ⟨by decide, rfl, by decide, Or.inl ⟨_, rfl⟩⟩ k1 fl_X10_254 dX10_failingBy_9 ?_
  obtain ⟨k2, H⟩ := H
  refine go_getI (k := 1) ⟨by decide, rfl, by decide, rfl⟩ k2 fl_X10_222 dX10_failingBy_12 ?_
  refine go_icmp_ge (tgt := 46) dX10_failingBy_15 (by decide) (fun hc => ?_) (fun hc => ?_)
  · replace H := H.1 hc
    refine go_iload_n dX10_failingBy_46 rfl ?_
    exact go_iret rfl rfl dX10_failingBy_47 ⟨_, rfl, H⟩
  · replace H := H.2 hc
    refine go_aload_n dX10_failingBy_18 rfl ?_
    refine go_getR (k := 0) ⟨by decide, rfl, by decide, Or.inl ⟨_, rfl⟩⟩ K0 fl_X10_10 dX10_failingBy_19 ?_
    refine go_getR (k := 1) ⟨by decide, rfl, by decide, Or.inl ⟨_, rfl⟩⟩ k1 fl_X10_254 dX10_failingBy_22 ?_
    refine go_getR (k := 0) ⟨by decide, rfl, by decide, Or.inr ⟨_, rfl⟩⟩ k2 fl_X10_380 dX10_failingBy_25 ?_
    refine go_iload_n dX10_failingBy_28 rfl ?_
    obtain ⟨l3, k4, H⟩ := H
    obtain ⟨n6, ⟨hn6, hn6b⟩, H⟩ := H
    refine go_aaldA (j := n6) k4 (by decide) hn6 hn6b dX10_failingBy_29 ?_
    refine go_iload_n dX10_failingBy_30 rfl ?_
    obtain ⟨k7, H⟩ := H
    refine go_V (av := [pv_i x1]) (st := []) (ci := 6) ok_X6_endsBy ⟨by decide, by decide⟩ ml_X10_499 rfl (by decide) (fun v hv => by simp only [List.mem_cons, List.not_mem_nil, or_false] at hv; rcases hv with rfl <;> first | exact pv_1i | exact pv_1r) (Nat.le_of_ble_eq_true rfl) (fun _ h => h) (by decide) rfl k7 dX10_failingBy_31 H (fun r M8 hq hS => ?_)
    obtain ⟨v9, rfl, H⟩ := hq
    have k10 : mm_k M8 a0 = (10, 14) := ks_S K0 (by decide) hS
    have k11 : mm_k M8 (mm_r M a0 0) = (0, 4) := ks_S k1 (by decide) hS
    have k12 : mm_k M8 (mm_r M (mm_r M a0 0) 1) = (4, 2) := ks_S k2 (by decide) hS
    have k13 : mm_k M8 (mm_r M (mm_r M (mm_r M (mm_r M a0 0) 1) 0) n6) = (6, 17) := ks_S k7 (by decide) hS
    have k14 : ak_ M8 (mm_r M (mm_r M (mm_r M a0 0) 1) 0) 3 l3 := ak_S k4 hS
    show go_W mt_X10_failingBy fr_C 34 [some (pv_r a0), some (pv_i x1), some (pv_i x2), some (pv_i x3)] [pv_i v9] M8 (qi_ P)
    refine go_if_eq (tgt := 40) dX10_failingBy_34 (by decide) (fun hc => ?_) (fun hc => ?_)
    · replace H := H.1 hc
      refine go_iincN (n := n6) (k := 1) hn6 (by decide) rfl rfl dX10_failingBy_40 ?_
      show go_W mt_X10_failingBy fr_C 43 [some (pv_r a0), some (pv_i x1), some (pv_i x2), some (pv_i (nI (n6 + 1)))] [] M8 (qi_ P)
      refine go_goto (tgt := 4) dX10_failingBy_43 (by decide) ?_
      exact H
    · replace H := H.2 hc
      refine go_iinc (v := (1 : Int32)) (by decide) rfl rfl dX10_failingBy_37 ?_
      show go_W mt_X10_failingBy fr_C 40 [some (pv_r a0), some (pv_i x1), some (pv_i (x2 + (1 : Int32))), some (pv_i x3)] [] M8 (qi_ P)
      refine go_iincN (n := n6) (k := 1) hn6 (by decide) rfl rfl dX10_failingBy_40 ?_
      show go_W mt_X10_failingBy fr_C 43 [some (pv_r a0), some (pv_i x1), some (pv_i (x2 + (1 : Int32))), some (pv_i (nI (n6 + 1)))] [] M8 (qi_ P)
      refine go_goto (tgt := 4) dX10_failingBy_43 (by decide) ?_
      exact H
set_option maxRecDepth 20000 in
theorem wc_X10_goingAsideBy_0 {M : mm_T} {a0 : Nat} {x1 : Int32} {P : Int32 → mm_T → Prop} (K0 : mm_k M a0 = (10, 14)) (H : cw_i mt_X10_goingAsideBy 4 [some (pv_r a0), some (pv_i x1), some (pv_i (0 : Int32)), some (pv_i (0 : Int32)), none] [] M P) : cw_i mt_X10_goingAsideBy 0 [some (pv_r a0), some (pv_i x1), none, none, none] [] M P := by
  refine go_iconst (v := (0 : Int32)) rfl dX10_goingAsideBy_0 ?_
  refine go_istore_n (by decide) dX10_goingAsideBy_1 ?_
  show go_W mt_X10_goingAsideBy fr_C 2 [some (pv_r a0), some (pv_i x1), some (pv_i (0 : Int32)), none, none] [] M (qi_ P)
  refine go_iconst (v := (0 : Int32)) rfl dX10_goingAsideBy_2 ?_
  refine go_istore_n (by decide) dX10_goingAsideBy_3 ?_
  show go_W mt_X10_goingAsideBy fr_C 4 [some (pv_r a0), some (pv_i x1), some (pv_i (0 : Int32)), some (pv_i (0 : Int32)), none] [] M (qi_ P)
  exact H
set_option maxRecDepth 20000 in
theorem wc_X10_goingAsideBy_4 {M : mm_T} {a0 : Nat} {x1 x2 x3 : Int32} {P : Int32 → mm_T → Prop} (K0 : mm_k M a0 = (10, 14)) (H : mm_k M (mm_r M a0 0) = (0, 4) ∧ (mm_k M (mm_r M (mm_r M a0 0) 1) = (4, 2) ∧ ((((mm_i M (mm_r M (mm_r M a0 0) 1) 1 ≤ x3) → P x2 M) ∧ ((¬ mm_i M (mm_r M (mm_r M a0 0) 1) 1 ≤ x3) → ∃ l3, ak_ M (mm_r M (mm_r M (mm_r M a0 0) 1) 0) 3 l3 ∧ (∃ n6, (x3 = nI n6 ∧ n6 < l3) ∧ (mm_k M (mm_r M (mm_r M (mm_r M (mm_r M a0 0) 1) 0) n6) = (6, 17) ∧ (cs_i mt_X6_endsBy [pv_r (mm_r M (mm_r M (mm_r M (mm_r M a0 0) 1) 0) n6), pv_i x1] M (fun v9 M8 => (((v9 = 0) → cw_i mt_X10_goingAsideBy 4 [some (pv_r a0), some (pv_i x1), some (pv_i x2), some (pv_i (nI (n6 + 1))), none] [] M8 P) ∧ ((¬ v9 = 0) → mm_k M8 (mm_r M8 a0 0) = (0, 4) ∧ (∃ l16, ak_ M8 (mm_r M8 (mm_r M8 a0 0) 3) 0 l16 ∧ (3 < l16 ∧ (((((mm_i M8 (mm_r M (mm_r M (mm_r M (mm_r M a0 0) 1) 0) n6) 8 + (1 : Int32)) < mm_i M8 (mm_r M8 (mm_r M8 a0 0) 3) 3) → cw_i mt_X10_goingAsideBy 4 [some (pv_r a0), some (pv_i x1), some (pv_i x2), some (pv_i (nI (n6 + 1))), none] [] M8 P) ∧ ((¬ (mm_i M8 (mm_r M (mm_r M (mm_r M (mm_r M a0 0) 1) 0) n6) 8 + (1 : Int32)) < mm_i M8 (mm_r M8 (mm_r M8 a0 0) 3) 3) → cs_i mt_X10_heldBehindAll [pv_r a0, pv_r (mm_r M (mm_r M (mm_r M (mm_r M a0 0) 1) 0) n6)] M8 (fun v20 M19 => cw_i mt_X10_goingAsideBy 4 [some (pv_r a0), some (pv_i x1), some (pv_i (x2 + ((1 : Int32) + v20))), some (pv_i (nI (n6 + 1))), none] [] M19 P))))))))))))))))) : cw_i mt_X10_goingAsideBy 4 [some (pv_r a0), some (pv_i x1), some (pv_i x2), some (pv_i x3), none] [] M P := by
  refine go_iload_n dX10_goingAsideBy_4 rfl ?_
  refine go_aload_n dX10_goingAsideBy_5 rfl ?_
  refine go_getR (k := 0) ⟨by decide, rfl, by decide, Or.inl ⟨_, rfl⟩⟩ K0 fl_X10_10 dX10_goingAsideBy_6 ?_
  obtain ⟨k1, H⟩ := H
  refine go_getR (k := 1) ⟨by decide, rfl, by decide, Or.inl ⟨_, rfl⟩⟩ k1 fl_X10_254 dX10_goingAsideBy_9 ?_
  obtain ⟨k2, H⟩ := H
  refine go_getI (k := 1) ⟨by decide, rfl, by decide, rfl⟩ k2 fl_X10_222 dX10_goingAsideBy_12 ?_
  refine go_icmp_ge (tgt := 77) dX10_goingAsideBy_15 (by decide) (fun hc => ?_) (fun hc => ?_)
  · replace H := H.1 hc
    refine go_iload_n dX10_goingAsideBy_77 rfl ?_
    exact go_iret rfl rfl dX10_goingAsideBy_78 ⟨_, rfl, H⟩
  · replace H := H.2 hc
    refine go_aload_n dX10_goingAsideBy_18 rfl ?_
    refine go_getR (k := 0) ⟨by decide, rfl, by decide, Or.inl ⟨_, rfl⟩⟩ K0 fl_X10_10 dX10_goingAsideBy_19 ?_
    refine go_getR (k := 1) ⟨by decide, rfl, by decide, Or.inl ⟨_, rfl⟩⟩ k1 fl_X10_254 dX10_goingAsideBy_22 ?_
    refine go_getR (k := 0) ⟨by decide, rfl, by decide, Or.inr ⟨_, rfl⟩⟩ k2 fl_X10_380 dX10_goingAsideBy_25 ?_
    refine go_iload_n dX10_goingAsideBy_28 rfl ?_
    obtain ⟨l3, k4, H⟩ := H
    obtain ⟨n6, ⟨hn6, hn6b⟩, H⟩ := H
    refine go_aaldA (j := n6) k4 (by decide) hn6 hn6b dX10_goingAsideBy_29 ?_
    refine go_astore (by decide) dX10_goingAsideBy_30 ?_
    show go_W mt_X10_goingAsideBy fr_C 32 [some (pv_r a0), some (pv_i x1), some (pv_i x2), some (pv_i x3), some (pv_r (mm_r M (mm_r M (mm_r M (mm_r M a0 0) 1) 0) n6))] [] M (qi_ P)
    refine go_aload dX10_goingAsideBy_32 rfl ?_
    refine go_iload_n dX10_goingAsideBy_34 rfl ?_
    obtain ⟨k7, H⟩ := H
    refine go_V (av := [pv_i x1]) (st := []) (ci := 6) ok_X6_endsBy ⟨by decide, by decide⟩ ml_X10_499 rfl (by decide) (fun v hv => by simp only [List.mem_cons, List.not_mem_nil, or_false] at hv; rcases hv with rfl <;> first | exact pv_1i | exact pv_1r) (Nat.le_of_ble_eq_true rfl) (fun _ h => h) (by decide) rfl k7 dX10_goingAsideBy_35 H (fun r M8 hq hS => ?_)
    obtain ⟨v9, rfl, H⟩ := hq
    have k10 : mm_k M8 a0 = (10, 14) := ks_S K0 (by decide) hS
    have k11 : mm_k M8 (mm_r M a0 0) = (0, 4) := ks_S k1 (by decide) hS
    have k12 : mm_k M8 (mm_r M (mm_r M a0 0) 1) = (4, 2) := ks_S k2 (by decide) hS
    have k13 : mm_k M8 (mm_r M (mm_r M (mm_r M (mm_r M a0 0) 1) 0) n6) = (6, 17) := ks_S k7 (by decide) hS
    have k14 : ak_ M8 (mm_r M (mm_r M (mm_r M a0 0) 1) 0) 3 l3 := ak_S k4 hS
    show go_W mt_X10_goingAsideBy fr_C 38 [some (pv_r a0), some (pv_i x1), some (pv_i x2), some (pv_i x3), some (pv_r (mm_r M (mm_r M (mm_r M (mm_r M a0 0) 1) 0) n6))] [pv_i v9] M8 (qi_ P)
    refine go_if_eq (tgt := 71) dX10_goingAsideBy_38 (by decide) (fun hc => ?_) (fun hc => ?_)
    · replace H := H.1 hc
      refine go_iincN (n := n6) (k := 1) hn6 (by decide) rfl rfl dX10_goingAsideBy_71 ?_
      show go_W mt_X10_goingAsideBy fr_C 74 [some (pv_r a0), some (pv_i x1), some (pv_i x2), some (pv_i (nI (n6 + 1))), some (pv_r (mm_r M (mm_r M (mm_r M (mm_r M a0 0) 1) 0) n6))] [] M8 (qi_ P)
      refine go_goto (tgt := 4) dX10_goingAsideBy_74 (by decide) ?_
      exact go_fg (ls' := [some (pv_r a0), some (pv_i x1), some (pv_i x2), some (pv_i (nI (n6 + 1))), none]) ⟨rfl, ⟨rfl, ⟨rfl, ⟨rfl, trivial⟩⟩⟩⟩ H
    · replace H := H.2 hc
      refine go_aload dX10_goingAsideBy_41 rfl ?_
      refine go_getI (k := 8) ⟨by decide, rfl, by decide, rfl⟩ k13 fl_X10_216 dX10_goingAsideBy_43 ?_
      refine go_iconst (v := (1 : Int32)) rfl dX10_goingAsideBy_46 ?_
      refine go_iadd dX10_goingAsideBy_47 ?_
      refine go_aload_n dX10_goingAsideBy_48 rfl ?_
      refine go_getR (k := 0) ⟨by decide, rfl, by decide, Or.inl ⟨_, rfl⟩⟩ k10 fl_X10_10 dX10_goingAsideBy_49 ?_
      obtain ⟨k15, H⟩ := H
      refine go_getR (k := 3) ⟨by decide, rfl, by decide, Or.inr ⟨_, rfl⟩⟩ k15 fl_X10_111 dX10_goingAsideBy_52 ?_
      refine go_iconst (v := (3 : Int32)) rfl dX10_goingAsideBy_55 ?_
      obtain ⟨l16, k17, H⟩ := H
      obtain ⟨hb18, H⟩ := H
      refine go_ialdA (j := 3) k17 rfl hb18 dX10_goingAsideBy_56 ?_
      refine go_icmp_lt (tgt := 71) dX10_goingAsideBy_57 (by decide) (fun hc => ?_) (fun hc => ?_)
      · replace H := H.1 hc
        refine go_iincN (n := n6) (k := 1) hn6 (by decide) rfl rfl dX10_goingAsideBy_71 ?_
        show go_W mt_X10_goingAsideBy fr_C 74 [some (pv_r a0), some (pv_i x1), some (pv_i x2), some (pv_i (nI (n6 + 1))), some (pv_r (mm_r M (mm_r M (mm_r M (mm_r M a0 0) 1) 0) n6))] [] M8 (qi_ P)
        refine go_goto (tgt := 4) dX10_goingAsideBy_74 (by decide) ?_
        exact go_fg (ls' := [some (pv_r a0), some (pv_i x1), some (pv_i x2), some (pv_i (nI (n6 + 1))), none]) ⟨rfl, ⟨rfl, ⟨rfl, ⟨rfl, trivial⟩⟩⟩⟩ H
      · replace H := H.2 hc
        refine go_iload_n dX10_goingAsideBy_60 rfl ?_
        refine go_iconst (v := (1 : Int32)) rfl dX10_goingAsideBy_61 ?_
        refine go_aload_n dX10_goingAsideBy_62 rfl ?_
        refine go_aload dX10_goingAsideBy_63 rfl ?_
        refine go_V (av := [pv_r (mm_r M (mm_r M (mm_r M (mm_r M a0 0) 1) 0) n6)]) (st := [pv_i (1 : Int32), pv_i x2]) (ci := 10) ok_X10_heldBehindAll ⟨by decide, by decide⟩ ml_X10_502 rfl (by decide) (fun v hv => by simp only [List.mem_cons, List.not_mem_nil, or_false] at hv; rcases hv with rfl <;> first | exact pv_1i | exact pv_1r) (Nat.le_of_ble_eq_true rfl) (fun _ h => h) (by decide) rfl k10 dX10_goingAsideBy_65 H (fun r M19 hq hS => ?_)
        obtain ⟨v20, rfl, H⟩ := hq
        have k21 : mm_k M19 a0 = (10, 14) := ks_S k10 (by decide) hS
        have k22 : mm_k M19 (mm_r M a0 0) = (0, 4) := ks_S k11 (by decide) hS
        have k23 : mm_k M19 (mm_r M (mm_r M a0 0) 1) = (4, 2) := ks_S k12 (by decide) hS
        have k24 : mm_k M19 (mm_r M (mm_r M (mm_r M (mm_r M a0 0) 1) 0) n6) = (6, 17) := ks_S k13 (by decide) hS
        have k25 : mm_k M19 (mm_r M8 a0 0) = (0, 4) := ks_S k15 (by decide) hS
        have k26 : ak_ M19 (mm_r M (mm_r M (mm_r M a0 0) 1) 0) 3 l3 := ak_S k14 hS
        have k27 : ak_ M19 (mm_r M8 (mm_r M8 a0 0) 3) 0 l16 := ak_S k17 hS
        show go_W mt_X10_goingAsideBy fr_C 68 [some (pv_r a0), some (pv_i x1), some (pv_i x2), some (pv_i x3), some (pv_r (mm_r M (mm_r M (mm_r M (mm_r M a0 0) 1) 0) n6))] [pv_i v20, pv_i (1 : Int32), pv_i x2] M19 (qi_ P)
        refine go_iadd dX10_goingAsideBy_68 ?_
        refine go_iadd dX10_goingAsideBy_69 ?_
        refine go_istore_n (by decide) dX10_goingAsideBy_70 ?_
        show go_W mt_X10_goingAsideBy fr_C 71 [some (pv_r a0), some (pv_i x1), some (pv_i (x2 + ((1 : Int32) + v20))), some (pv_i x3), some (pv_r (mm_r M (mm_r M (mm_r M (mm_r M a0 0) 1) 0) n6))] [] M19 (qi_ P)
        refine go_iincN (n := n6) (k := 1) hn6 (by decide) rfl rfl dX10_goingAsideBy_71 ?_
        show go_W mt_X10_goingAsideBy fr_C 74 [some (pv_r a0), some (pv_i x1), some (pv_i (x2 + ((1 : Int32) + v20))), some (pv_i (nI (n6 + 1))), some (pv_r (mm_r M (mm_r M (mm_r M (mm_r M a0 0) 1) 0) n6))] [] M19 (qi_ P)
        refine go_goto (tgt := 4) dX10_goingAsideBy_74 (by decide) ?_
        exact go_fg (ls' := [some (pv_r a0), some (pv_i x1), some (pv_i (x2 + ((1 : Int32) + v20))), some (pv_i (nI (n6 + 1))), none]) ⟨rfl, ⟨rfl, ⟨rfl, ⟨rfl, trivial⟩⟩⟩⟩ H
set_option maxRecDepth 20000 in
theorem wc_X10_wakingBy_0 {M : mm_T} {a0 : Nat} {x1 : Int32} {P : Int32 → mm_T → Prop} (K0 : mm_k M a0 = (10, 14)) (H : cw_i mt_X10_wakingBy 4 [some (pv_r a0), some (pv_i x1), some (pv_i (0 : Int32)), some (pv_i (0 : Int32)), none, none] [] M P) : cw_i mt_X10_wakingBy 0 [some (pv_r a0), some (pv_i x1), none, none, none, none] [] M P := by
  refine go_iconst (v := (0 : Int32)) rfl dX10_wakingBy_0 ?_
  refine go_istore_n (by decide) dX10_wakingBy_1 ?_
  show go_W mt_X10_wakingBy fr_C 2 [some (pv_r a0), some (pv_i x1), some (pv_i (0 : Int32)), none, none, none] [] M (qi_ P)
  refine go_iconst (v := (0 : Int32)) rfl dX10_wakingBy_2 ?_
  refine go_istore_n (by decide) dX10_wakingBy_3 ?_
  show go_W mt_X10_wakingBy fr_C 4 [some (pv_r a0), some (pv_i x1), some (pv_i (0 : Int32)), some (pv_i (0 : Int32)), none, none] [] M (qi_ P)
  exact H
set_option maxRecDepth 20000 in
theorem wc_X10_wakingBy_4 {M : mm_T} {a0 : Nat} {x1 x2 x3 : Int32} {P : Int32 → mm_T → Prop} (K0 : mm_k M a0 = (10, 14)) (H : mm_k M (mm_r M a0 0) = (0, 4) ∧ (mm_k M (mm_r M (mm_r M a0 0) 1) = (4, 2) ∧ ((((mm_i M (mm_r M (mm_r M a0 0) 1) 1 ≤ x3) → P x2 M) ∧ ((¬ mm_i M (mm_r M (mm_r M a0 0) 1) 1 ≤ x3) → ∃ l3, ak_ M (mm_r M (mm_r M (mm_r M a0 0) 1) 0) 3 l3 ∧ (∃ n6, (x3 = nI n6 ∧ n6 < l3) ∧ (mm_k M (mm_r M (mm_r M (mm_r M (mm_r M a0 0) 1) 0) n6) = (6, 17) ∧ (cs_i mt_X6_endsBy [pv_r (mm_r M (mm_r M (mm_r M (mm_r M a0 0) 1) 0) n6), pv_i x1] M (fun v9 M8 => (((v9 = 0) → cs_i mt_X6_dueBy [pv_r (mm_r M (mm_r M (mm_r M (mm_r M a0 0) 1) 0) n6), pv_i x1] M8 (fun v16 M15 => (((¬ v16 = 0) → cw_i mt_X10_wakingBy 4 [some (pv_r a0), some (pv_i x1), some (pv_i (x2 + (1 : Int32))), some (pv_i (nI (n6 + 1))), none, none] [] M15 P) ∧ ((v16 = 0) → cw_i mt_X10_wakingBy 4 [some (pv_r a0), some (pv_i x1), some (pv_i x2), some (pv_i (nI (n6 + 1))), none, none] [] M15 P)))) ∧ ((¬ v9 = 0) → mm_k M8 (mm_r M8 a0 0) = (0, 4) ∧ (∃ l23, ak_ M8 (mm_r M8 (mm_r M8 a0 0) 3) 0 l23 ∧ (3 < l23 ∧ ((((mm_i M8 (mm_r M8 (mm_r M8 a0 0) 3) 3 ≤ (mm_i M8 (mm_r M (mm_r M (mm_r M (mm_r M a0 0) 1) 0) n6) 8 + (1 : Int32))) → cs_i mt_X6_dueBy [pv_r (mm_r M (mm_r M (mm_r M (mm_r M a0 0) 1) 0) n6), pv_i x1] M8 (fun v27 M26 => (((¬ v27 = 0) → cw_i mt_X10_wakingBy 4 [some (pv_r a0), some (pv_i x1), some (pv_i (x2 + (1 : Int32))), some (pv_i (nI (n6 + 1))), none, none] [] M26 P) ∧ ((v27 = 0) → cw_i mt_X10_wakingBy 4 [some (pv_r a0), some (pv_i x1), some (pv_i x2), some (pv_i (nI (n6 + 1))), none, none] [] M26 P)))) ∧ ((¬ mm_i M8 (mm_r M8 (mm_r M8 a0 0) 3) 3 ≤ (mm_i M8 (mm_r M (mm_r M (mm_r M (mm_r M a0 0) 1) 0) n6) 8 + (1 : Int32))) → cs_i mt_X6_dueBy [pv_r (mm_r M (mm_r M (mm_r M (mm_r M a0 0) 1) 0) n6), pv_i x1] M8 (fun v36 M35 => (((¬ v36 = 0) → cw_i mt_X10_wakingBy 4 [some (pv_r a0), some (pv_i x1), some (pv_i (x2 + (1 : Int32))), some (pv_i (nI (n6 + 1))), none, none] [] M35 P) ∧ ((v36 = 0) → cs_i mt_X10_restOf [pv_r a0, pv_i (mm_i M35 (mm_r M (mm_r M (mm_r M (mm_r M a0 0) 1) 0) n6) 8 + (1 : Int32))] M35 (fun v45 M44 => (((x1 < (mm_i M35 (mm_r M (mm_r M (mm_r M (mm_r M a0 0) 1) 0) n6) 12 + v45)) → cw_i mt_X10_wakingBy 4 [some (pv_r a0), some (pv_i x1), some (pv_i x2), some (pv_i (nI (n6 + 1))), none, none] [] M44 P) ∧ ((¬ x1 < (mm_i M35 (mm_r M (mm_r M (mm_r M (mm_r M a0 0) 1) 0) n6) 12 + v45)) → cw_i mt_X10_wakingBy 4 [some (pv_r a0), some (pv_i x1), some (pv_i (x2 + (1 : Int32))), some (pv_i (nI (n6 + 1))), none, none] [] M44 P)))))))))))))))))))))) : cw_i mt_X10_wakingBy 4 [some (pv_r a0), some (pv_i x1), some (pv_i x2), some (pv_i x3), none, none] [] M P := by
  refine go_iload_n dX10_wakingBy_4 rfl ?_
  refine go_aload_n dX10_wakingBy_5 rfl ?_
  refine go_getR (k := 0) ⟨by decide, rfl, by decide, Or.inl ⟨_, rfl⟩⟩ K0 fl_X10_10 dX10_wakingBy_6 ?_
  obtain ⟨k1, H⟩ := H
  refine go_getR (k := 1) ⟨by decide, rfl, by decide, Or.inl ⟨_, rfl⟩⟩ k1 fl_X10_254 dX10_wakingBy_9 ?_
  obtain ⟨k2, H⟩ := H
  refine go_getI (k := 1) ⟨by decide, rfl, by decide, rfl⟩ k2 fl_X10_222 dX10_wakingBy_12 ?_
  refine go_icmp_ge (tgt := 111) dX10_wakingBy_15 (by decide) (fun hc => ?_) (fun hc => ?_)
  · replace H := H.1 hc
    refine go_iload_n dX10_wakingBy_111 rfl ?_
    exact go_iret rfl rfl dX10_wakingBy_112 ⟨_, rfl, H⟩
  · replace H := H.2 hc
    refine go_aload_n dX10_wakingBy_18 rfl ?_
    refine go_getR (k := 0) ⟨by decide, rfl, by decide, Or.inl ⟨_, rfl⟩⟩ K0 fl_X10_10 dX10_wakingBy_19 ?_
    refine go_getR (k := 1) ⟨by decide, rfl, by decide, Or.inl ⟨_, rfl⟩⟩ k1 fl_X10_254 dX10_wakingBy_22 ?_
    refine go_getR (k := 0) ⟨by decide, rfl, by decide, Or.inr ⟨_, rfl⟩⟩ k2 fl_X10_380 dX10_wakingBy_25 ?_
    refine go_iload_n dX10_wakingBy_28 rfl ?_
    obtain ⟨l3, k4, H⟩ := H
    obtain ⟨n6, ⟨hn6, hn6b⟩, H⟩ := H
    refine go_aaldA (j := n6) k4 (by decide) hn6 hn6b dX10_wakingBy_29 ?_
    refine go_astore (by decide) dX10_wakingBy_30 ?_
    show go_W mt_X10_wakingBy fr_C 32 [some (pv_r a0), some (pv_i x1), some (pv_i x2), some (pv_i x3), some (pv_r (mm_r M (mm_r M (mm_r M (mm_r M a0 0) 1) 0) n6)), none] [] M (qi_ P)
    refine go_aload dX10_wakingBy_32 rfl ?_
    refine go_iload_n dX10_wakingBy_34 rfl ?_
    obtain ⟨k7, H⟩ := H
    refine go_V (av := [pv_i x1]) (st := []) (ci := 6) ok_X6_endsBy ⟨by decide, by decide⟩ ml_X10_499 rfl (by decide) (fun v hv => by simp only [List.mem_cons, List.not_mem_nil, or_false] at hv; rcases hv with rfl <;> first | exact pv_1i | exact pv_1r) (Nat.le_of_ble_eq_true rfl) (fun _ h => h) (by decide) rfl k7 dX10_wakingBy_35 H (fun r M8 hq hS => ?_)
    obtain ⟨v9, rfl, H⟩ := hq
    have k10 : mm_k M8 a0 = (10, 14) := ks_S K0 (by decide) hS
    have k11 : mm_k M8 (mm_r M a0 0) = (0, 4) := ks_S k1 (by decide) hS
    have k12 : mm_k M8 (mm_r M (mm_r M a0 0) 1) = (4, 2) := ks_S k2 (by decide) hS
    have k13 : mm_k M8 (mm_r M (mm_r M (mm_r M (mm_r M a0 0) 1) 0) n6) = (6, 17) := ks_S k7 (by decide) hS
    have k14 : ak_ M8 (mm_r M (mm_r M (mm_r M a0 0) 1) 0) 3 l3 := ak_S k4 hS
    show go_W mt_X10_wakingBy fr_C 38 [some (pv_r a0), some (pv_i x1), some (pv_i x2), some (pv_i x3), some (pv_r (mm_r M (mm_r M (mm_r M (mm_r M a0 0) 1) 0) n6)), none] [pv_i v9] M8 (qi_ P)
    refine go_if_eq (tgt := 64) dX10_wakingBy_38 (by decide) (fun hc => ?_) (fun hc => ?_)
    · replace H := H.1 hc
      refine go_iconst (v := (0 : Int32)) rfl dX10_wakingBy_64 ?_
      refine go_istore (by decide) dX10_wakingBy_65 ?_
      show go_W mt_X10_wakingBy fr_C 67 [some (pv_r a0), some (pv_i x1), some (pv_i x2), some (pv_i x3), some (pv_r (mm_r M (mm_r M (mm_r M (mm_r M a0 0) 1) 0) n6)), some (pv_i (0 : Int32))] [] M8 (qi_ P)
      refine go_aload dX10_wakingBy_67 rfl ?_
      refine go_iload_n dX10_wakingBy_69 rfl ?_
      refine go_V (av := [pv_i x1]) (st := []) (ci := 6) ok_X6_dueBy ⟨by decide, by decide⟩ ml_X10_505 rfl (by decide) (fun v hv => by simp only [List.mem_cons, List.not_mem_nil, or_false] at hv; rcases hv with rfl <;> first | exact pv_1i | exact pv_1r) (Nat.le_of_ble_eq_true rfl) (fun _ h => h) (by decide) rfl k13 dX10_wakingBy_70 H (fun r M15 hq hS => ?_)
      obtain ⟨v16, rfl, H⟩ := hq
      have k17 : mm_k M15 a0 = (10, 14) := ks_S k10 (by decide) hS
      have k18 : mm_k M15 (mm_r M a0 0) = (0, 4) := ks_S k11 (by decide) hS
      have k19 : mm_k M15 (mm_r M (mm_r M a0 0) 1) = (4, 2) := ks_S k12 (by decide) hS
      have k20 : mm_k M15 (mm_r M (mm_r M (mm_r M (mm_r M a0 0) 1) 0) n6) = (6, 17) := ks_S k13 (by decide) hS
      have k21 : ak_ M15 (mm_r M (mm_r M (mm_r M a0 0) 1) 0) 3 l3 := ak_S k14 hS
      show go_W mt_X10_wakingBy fr_C 73 [some (pv_r a0), some (pv_i x1), some (pv_i x2), some (pv_i x3), some (pv_r (mm_r M (mm_r M (mm_r M (mm_r M a0 0) 1) 0) n6)), some (pv_i (0 : Int32))] [pv_i v16] M15 (qi_ P)
      refine go_if_ne (tgt := 102) dX10_wakingBy_73 (by decide) (fun hc => ?_) (fun hc => ?_)
      · replace H := H.1 hc
        refine go_iinc (v := (1 : Int32)) (by decide) rfl rfl dX10_wakingBy_102 ?_
        show go_W mt_X10_wakingBy fr_C 105 [some (pv_r a0), some (pv_i x1), some (pv_i (x2 + (1 : Int32))), some (pv_i x3), some (pv_r (mm_r M (mm_r M (mm_r M (mm_r M a0 0) 1) 0) n6)), some (pv_i (0 : Int32))] [] M15 (qi_ P)
        refine go_iincN (n := n6) (k := 1) hn6 (by decide) rfl rfl dX10_wakingBy_105 ?_
        show go_W mt_X10_wakingBy fr_C 108 [some (pv_r a0), some (pv_i x1), some (pv_i (x2 + (1 : Int32))), some (pv_i (nI (n6 + 1))), some (pv_r (mm_r M (mm_r M (mm_r M (mm_r M a0 0) 1) 0) n6)), some (pv_i (0 : Int32))] [] M15 (qi_ P)
        refine go_goto (tgt := 4) dX10_wakingBy_108 (by decide) ?_
        exact go_fg (ls' := [some (pv_r a0), some (pv_i x1), some (pv_i (x2 + (1 : Int32))), some (pv_i (nI (n6 + 1))), none, none]) ⟨rfl, ⟨rfl, ⟨rfl, ⟨rfl, trivial⟩⟩⟩⟩ H
      · replace H := H.2 hc
        refine go_iload dX10_wakingBy_76 rfl ?_
        refine go_if_eq (tgt := 105) dX10_wakingBy_78 (by decide) (fun _ => ?_) (fun hc => absurd hc (by decide))
        refine go_iincN (n := n6) (k := 1) hn6 (by decide) rfl rfl dX10_wakingBy_105 ?_
        show go_W mt_X10_wakingBy fr_C 108 [some (pv_r a0), some (pv_i x1), some (pv_i x2), some (pv_i (nI (n6 + 1))), some (pv_r (mm_r M (mm_r M (mm_r M (mm_r M a0 0) 1) 0) n6)), some (pv_i (0 : Int32))] [] M15 (qi_ P)
        refine go_goto (tgt := 4) dX10_wakingBy_108 (by decide) ?_
        exact go_fg (ls' := [some (pv_r a0), some (pv_i x1), some (pv_i x2), some (pv_i (nI (n6 + 1))), none, none]) ⟨rfl, ⟨rfl, ⟨rfl, ⟨rfl, trivial⟩⟩⟩⟩ H
    · replace H := H.2 hc
      refine go_aload dX10_wakingBy_41 rfl ?_
      refine go_getI (k := 8) ⟨by decide, rfl, by decide, rfl⟩ k13 fl_X10_216 dX10_wakingBy_43 ?_
      refine go_iconst (v := (1 : Int32)) rfl dX10_wakingBy_46 ?_
      refine go_iadd dX10_wakingBy_47 ?_
      refine go_aload_n dX10_wakingBy_48 rfl ?_
      refine go_getR (k := 0) ⟨by decide, rfl, by decide, Or.inl ⟨_, rfl⟩⟩ k10 fl_X10_10 dX10_wakingBy_49 ?_
      obtain ⟨k22, H⟩ := H
      refine go_getR (k := 3) ⟨by decide, rfl, by decide, Or.inr ⟨_, rfl⟩⟩ k22 fl_X10_111 dX10_wakingBy_52 ?_
      refine go_iconst (v := (3 : Int32)) rfl dX10_wakingBy_55 ?_
      obtain ⟨l23, k24, H⟩ := H
      obtain ⟨hb25, H⟩ := H
      refine go_ialdA (j := 3) k24 rfl hb25 dX10_wakingBy_56 ?_
      refine go_icmp_ge (tgt := 64) dX10_wakingBy_57 (by decide) (fun hc => ?_) (fun hc => ?_)
      · replace H := H.1 hc
        refine go_iconst (v := (0 : Int32)) rfl dX10_wakingBy_64 ?_
        refine go_istore (by decide) dX10_wakingBy_65 ?_
        show go_W mt_X10_wakingBy fr_C 67 [some (pv_r a0), some (pv_i x1), some (pv_i x2), some (pv_i x3), some (pv_r (mm_r M (mm_r M (mm_r M (mm_r M a0 0) 1) 0) n6)), some (pv_i (0 : Int32))] [] M8 (qi_ P)
        refine go_aload dX10_wakingBy_67 rfl ?_
        refine go_iload_n dX10_wakingBy_69 rfl ?_
        refine go_V (av := [pv_i x1]) (st := []) (ci := 6) ok_X6_dueBy ⟨by decide, by decide⟩ ml_X10_505 rfl (by decide) (fun v hv => by simp only [List.mem_cons, List.not_mem_nil, or_false] at hv; rcases hv with rfl <;> first | exact pv_1i | exact pv_1r) (Nat.le_of_ble_eq_true rfl) (fun _ h => h) (by decide) rfl k13 dX10_wakingBy_70 H (fun r M26 hq hS => ?_)
        obtain ⟨v27, rfl, H⟩ := hq
        have k28 : mm_k M26 a0 = (10, 14) := ks_S k10 (by decide) hS
        have k29 : mm_k M26 (mm_r M a0 0) = (0, 4) := ks_S k11 (by decide) hS
        have k30 : mm_k M26 (mm_r M (mm_r M a0 0) 1) = (4, 2) := ks_S k12 (by decide) hS
        have k31 : mm_k M26 (mm_r M (mm_r M (mm_r M (mm_r M a0 0) 1) 0) n6) = (6, 17) := ks_S k13 (by decide) hS
        have k32 : mm_k M26 (mm_r M8 a0 0) = (0, 4) := ks_S k22 (by decide) hS
        have k33 : ak_ M26 (mm_r M (mm_r M (mm_r M a0 0) 1) 0) 3 l3 := ak_S k14 hS
        have k34 : ak_ M26 (mm_r M8 (mm_r M8 a0 0) 3) 0 l23 := ak_S k24 hS
        show go_W mt_X10_wakingBy fr_C 73 [some (pv_r a0), some (pv_i x1), some (pv_i x2), some (pv_i x3), some (pv_r (mm_r M (mm_r M (mm_r M (mm_r M a0 0) 1) 0) n6)), some (pv_i (0 : Int32))] [pv_i v27] M26 (qi_ P)
        refine go_if_ne (tgt := 102) dX10_wakingBy_73 (by decide) (fun hc => ?_) (fun hc => ?_)
        · replace H := H.1 hc
          refine go_iinc (v := (1 : Int32)) (by decide) rfl rfl dX10_wakingBy_102 ?_
          show go_W mt_X10_wakingBy fr_C 105 [some (pv_r a0), some (pv_i x1), some (pv_i (x2 + (1 : Int32))), some (pv_i x3), some (pv_r (mm_r M (mm_r M (mm_r M (mm_r M a0 0) 1) 0) n6)), some (pv_i (0 : Int32))] [] M26 (qi_ P)
          refine go_iincN (n := n6) (k := 1) hn6 (by decide) rfl rfl dX10_wakingBy_105 ?_
          show go_W mt_X10_wakingBy fr_C 108 [some (pv_r a0), some (pv_i x1), some (pv_i (x2 + (1 : Int32))), some (pv_i (nI (n6 + 1))), some (pv_r (mm_r M (mm_r M (mm_r M (mm_r M a0 0) 1) 0) n6)), some (pv_i (0 : Int32))] [] M26 (qi_ P)
          refine go_goto (tgt := 4) dX10_wakingBy_108 (by decide) ?_
          exact go_fg (ls' := [some (pv_r a0), some (pv_i x1), some (pv_i (x2 + (1 : Int32))), some (pv_i (nI (n6 + 1))), none, none]) ⟨rfl, ⟨rfl, ⟨rfl, ⟨rfl, trivial⟩⟩⟩⟩ H
        · replace H := H.2 hc
          refine go_iload dX10_wakingBy_76 rfl ?_
          refine go_if_eq (tgt := 105) dX10_wakingBy_78 (by decide) (fun _ => ?_) (fun hc => absurd hc (by decide))
          refine go_iincN (n := n6) (k := 1) hn6 (by decide) rfl rfl dX10_wakingBy_105 ?_
          show go_W mt_X10_wakingBy fr_C 108 [some (pv_r a0), some (pv_i x1), some (pv_i x2), some (pv_i (nI (n6 + 1))), some (pv_r (mm_r M (mm_r M (mm_r M (mm_r M a0 0) 1) 0) n6)), some (pv_i (0 : Int32))] [] M26 (qi_ P)
          refine go_goto (tgt := 4) dX10_wakingBy_108 (by decide) ?_
          exact go_fg (ls' := [some (pv_r a0), some (pv_i x1), some (pv_i x2), some (pv_i (nI (n6 + 1))), none, none]) ⟨rfl, ⟨rfl, ⟨rfl, ⟨rfl, trivial⟩⟩⟩⟩ H
      · replace H := H.2 hc
        refine go_iconst (v := (1 : Int32)) rfl dX10_wakingBy_60 ?_
        refine go_goto (tgt := 65) dX10_wakingBy_61 (by decide) ?_
        refine go_istore (by decide) dX10_wakingBy_65 ?_
        show go_W mt_X10_wakingBy fr_C 67 [some (pv_r a0), some (pv_i x1), some (pv_i x2), some (pv_i x3), some (pv_r (mm_r M (mm_r M (mm_r M (mm_r M a0 0) 1) 0) n6)), some (pv_i (1 : Int32))] [] M8 (qi_ P)
        refine go_aload dX10_wakingBy_67 rfl ?_
        refine go_iload_n dX10_wakingBy_69 rfl ?_
        refine go_V (av := [pv_i x1]) (st := []) (ci := 6) ok_X6_dueBy ⟨by decide, by decide⟩ ml_X10_505 rfl (by decide) (fun v hv => by simp only [List.mem_cons, List.not_mem_nil, or_false] at hv; rcases hv with rfl <;> first | exact pv_1i | exact pv_1r) (Nat.le_of_ble_eq_true rfl) (fun _ h => h) (by decide) rfl k13 dX10_wakingBy_70 H (fun r M35 hq hS => ?_)
        obtain ⟨v36, rfl, H⟩ := hq
        have k37 : mm_k M35 a0 = (10, 14) := ks_S k10 (by decide) hS
        have k38 : mm_k M35 (mm_r M a0 0) = (0, 4) := ks_S k11 (by decide) hS
        have k39 : mm_k M35 (mm_r M (mm_r M a0 0) 1) = (4, 2) := ks_S k12 (by decide) hS
        have k40 : mm_k M35 (mm_r M (mm_r M (mm_r M (mm_r M a0 0) 1) 0) n6) = (6, 17) := ks_S k13 (by decide) hS
        have k41 : mm_k M35 (mm_r M8 a0 0) = (0, 4) := ks_S k22 (by decide) hS
        have k42 : ak_ M35 (mm_r M (mm_r M (mm_r M a0 0) 1) 0) 3 l3 := ak_S k14 hS
        have k43 : ak_ M35 (mm_r M8 (mm_r M8 a0 0) 3) 0 l23 := ak_S k24 hS
        show go_W mt_X10_wakingBy fr_C 73 [some (pv_r a0), some (pv_i x1), some (pv_i x2), some (pv_i x3), some (pv_r (mm_r M (mm_r M (mm_r M (mm_r M a0 0) 1) 0) n6)), some (pv_i (1 : Int32))] [pv_i v36] M35 (qi_ P)
        refine go_if_ne (tgt := 102) dX10_wakingBy_73 (by decide) (fun hc => ?_) (fun hc => ?_)
        · replace H := H.1 hc
          refine go_iinc (v := (1 : Int32)) (by decide) rfl rfl dX10_wakingBy_102 ?_
          show go_W mt_X10_wakingBy fr_C 105 [some (pv_r a0), some (pv_i x1), some (pv_i (x2 + (1 : Int32))), some (pv_i x3), some (pv_r (mm_r M (mm_r M (mm_r M (mm_r M a0 0) 1) 0) n6)), some (pv_i (1 : Int32))] [] M35 (qi_ P)
          refine go_iincN (n := n6) (k := 1) hn6 (by decide) rfl rfl dX10_wakingBy_105 ?_
          show go_W mt_X10_wakingBy fr_C 108 [some (pv_r a0), some (pv_i x1), some (pv_i (x2 + (1 : Int32))), some (pv_i (nI (n6 + 1))), some (pv_r (mm_r M (mm_r M (mm_r M (mm_r M a0 0) 1) 0) n6)), some (pv_i (1 : Int32))] [] M35 (qi_ P)
          refine go_goto (tgt := 4) dX10_wakingBy_108 (by decide) ?_
          exact go_fg (ls' := [some (pv_r a0), some (pv_i x1), some (pv_i (x2 + (1 : Int32))), some (pv_i (nI (n6 + 1))), none, none]) ⟨rfl, ⟨rfl, ⟨rfl, ⟨rfl, trivial⟩⟩⟩⟩ H
        · replace H := H.2 hc
          refine go_iload dX10_wakingBy_76 rfl ?_
          refine go_if_eq (tgt := 105) dX10_wakingBy_78 (by decide) (fun hc => absurd hc (by decide)) (fun _ => ?_)
          refine go_aload dX10_wakingBy_81 rfl ?_
          refine go_getI (k := 12) ⟨by decide, rfl, by decide, rfl⟩ k40 fl_X10_115 dX10_wakingBy_83 ?_
          refine go_aload_n dX10_wakingBy_86 rfl ?_
          refine go_aload dX10_wakingBy_87 rfl ?_
          refine go_getI (k := 8) ⟨by decide, rfl, by decide, rfl⟩ k40 fl_X10_216 dX10_wakingBy_89 ?_
          refine go_iconst (v := (1 : Int32)) rfl dX10_wakingBy_92 ?_
          refine go_iadd dX10_wakingBy_93 ?_
          refine go_V (av := [pv_i (mm_i M35 (mm_r M (mm_r M (mm_r M (mm_r M a0 0) 1) 0) n6) 8 + (1 : Int32))]) (st := [pv_i (mm_i M35 (mm_r M (mm_r M (mm_r M (mm_r M a0 0) 1) 0) n6) 12)]) (ci := 10) ok_X10_restOf ⟨by decide, by decide⟩ ml_X10_461 rfl (by decide) (fun v hv => by simp only [List.mem_cons, List.not_mem_nil, or_false] at hv; rcases hv with rfl <;> first | exact pv_1i | exact pv_1r) (Nat.le_of_ble_eq_true rfl) (fun _ h => h) (by decide) rfl k37 dX10_wakingBy_94 H (fun r M44 hq hS => ?_)
          obtain ⟨v45, rfl, H⟩ := hq
          have k46 : mm_k M44 a0 = (10, 14) := ks_S k37 (by decide) hS
          have k47 : mm_k M44 (mm_r M a0 0) = (0, 4) := ks_S k38 (by decide) hS
          have k48 : mm_k M44 (mm_r M (mm_r M a0 0) 1) = (4, 2) := ks_S k39 (by decide) hS
          have k49 : mm_k M44 (mm_r M (mm_r M (mm_r M (mm_r M a0 0) 1) 0) n6) = (6, 17) := ks_S k40 (by decide) hS
          have k50 : mm_k M44 (mm_r M8 a0 0) = (0, 4) := ks_S k41 (by decide) hS
          have k51 : ak_ M44 (mm_r M (mm_r M (mm_r M a0 0) 1) 0) 3 l3 := ak_S k42 hS
          have k52 : ak_ M44 (mm_r M8 (mm_r M8 a0 0) 3) 0 l23 := ak_S k43 hS
          show go_W mt_X10_wakingBy fr_C 97 [some (pv_r a0), some (pv_i x1), some (pv_i x2), some (pv_i x3), some (pv_r (mm_r M (mm_r M (mm_r M (mm_r M a0 0) 1) 0) n6)), some (pv_i (1 : Int32))] [pv_i v45, pv_i (mm_i M35 (mm_r M (mm_r M (mm_r M (mm_r M a0 0) 1) 0) n6) 12)] M44 (qi_ P)
          refine go_iadd dX10_wakingBy_97 ?_
          refine go_iload_n dX10_wakingBy_98 rfl ?_
          refine go_icmp_gt (tgt := 105) dX10_wakingBy_99 (by decide) (fun hc => ?_) (fun hc => ?_)
          · replace H := H.1 hc
            refine go_iincN (n := n6) (k := 1) hn6 (by decide) rfl rfl dX10_wakingBy_105 ?_
            show go_W mt_X10_wakingBy fr_C 108 [some (pv_r a0), some (pv_i x1), some (pv_i x2), some (pv_i (nI (n6 + 1))), some (pv_r (mm_r M (mm_r M (mm_r M (mm_r M a0 0) 1) 0) n6)), some (pv_i (1 : Int32))] [] M44 (qi_ P)
            refine go_goto (tgt := 4) dX10_wakingBy_108 (by decide) ?_
            exact go_fg (ls' := [some (pv_r a0), some (pv_i x1), some (pv_i x2), some (pv_i (nI (n6 + 1))), none, none]) ⟨rfl, ⟨rfl, ⟨rfl, ⟨rfl, trivial⟩⟩⟩⟩ H
          · replace H := H.2 hc
            refine go_iinc (v := (1 : Int32)) (by decide) rfl rfl dX10_wakingBy_102 ?_
            show go_W mt_X10_wakingBy fr_C 105 [some (pv_r a0), some (pv_i x1), some (pv_i (x2 + (1 : Int32))), some (pv_i x3), some (pv_r (mm_r M (mm_r M (mm_r M (mm_r M a0 0) 1) 0) n6)), some (pv_i (1 : Int32))] [] M44 (qi_ P)
            refine go_iincN (n := n6) (k := 1) hn6 (by decide) rfl rfl dX10_wakingBy_105 ?_
            show go_W mt_X10_wakingBy fr_C 108 [some (pv_r a0), some (pv_i x1), some (pv_i (x2 + (1 : Int32))), some (pv_i (nI (n6 + 1))), some (pv_r (mm_r M (mm_r M (mm_r M (mm_r M a0 0) 1) 0) n6)), some (pv_i (1 : Int32))] [] M44 (qi_ P)
            refine go_goto (tgt := 4) dX10_wakingBy_108 (by decide) ?_
            exact go_fg (ls' := [some (pv_r a0), some (pv_i x1), some (pv_i (x2 + (1 : Int32))), some (pv_i (nI (n6 + 1))), none, none]) ⟨rfl, ⟨rfl, ⟨rfl, ⟨rfl, trivial⟩⟩⟩⟩ H
set_option maxRecDepth 20000 in
theorem wc_X10_heldBehindAll_0 {M : mm_T} {a0 a1 : Nat} {P : Int32 → mm_T → Prop} (K0 : mm_k M a0 = (10, 14)) (H : cw_i mt_X10_heldBehindAll 4 [some (pv_r a0), some (pv_r a1), some (pv_i (0 : Int32)), some (pv_i (0 : Int32)), none, none] [] M P) : cw_i mt_X10_heldBehindAll 0 [some (pv_r a0), some (pv_r a1), none, none, none, none] [] M P := by
  refine go_iconst (v := (0 : Int32)) rfl dX10_heldBehindAll_0 ?_
  refine go_istore_n (by decide) dX10_heldBehindAll_1 ?_
  show go_W mt_X10_heldBehindAll fr_C 2 [some (pv_r a0), some (pv_r a1), some (pv_i (0 : Int32)), none, none, none] [] M (qi_ P)
  refine go_iconst (v := (0 : Int32)) rfl dX10_heldBehindAll_2 ?_
  refine go_istore_n (by decide) dX10_heldBehindAll_3 ?_
  show go_W mt_X10_heldBehindAll fr_C 4 [some (pv_r a0), some (pv_r a1), some (pv_i (0 : Int32)), some (pv_i (0 : Int32)), none, none] [] M (qi_ P)
  exact H
set_option maxRecDepth 20000 in
theorem wc_X10_heldBehindAll_4 {M : mm_T} {a0 a1 : Nat} {x2 x3 : Int32} {P : Int32 → mm_T → Prop} (K0 : mm_k M a0 = (10, 14)) (H : mm_k M (mm_r M a0 0) = (0, 4) ∧ (mm_k M (mm_r M (mm_r M a0 0) 1) = (4, 2) ∧ ((((mm_i M (mm_r M (mm_r M a0 0) 1) 1 ≤ x3) → P x2 M) ∧ ((¬ mm_i M (mm_r M (mm_r M a0 0) 1) 1 ≤ x3) → ∃ l3, ak_ M (mm_r M (mm_r M (mm_r M a0 0) 1) 0) 3 l3 ∧ (∃ n6, (x3 = nI n6 ∧ n6 < l3) ∧ (cw_i mt_X10_heldBehindAll 36 [some (pv_r a0), some (pv_r a1), some (pv_i x2), some (pv_i x3), some (pv_r (mm_r M (mm_r M (mm_r M (mm_r M a0 0) 1) 0) n6)), some (pv_r (mm_r M (mm_r M (mm_r M (mm_r M a0 0) 1) 0) n6))] [] M P))))))) : cw_i mt_X10_heldBehindAll 4 [some (pv_r a0), some (pv_r a1), some (pv_i x2), some (pv_i x3), none, none] [] M P := by
  refine go_iload_n dX10_heldBehindAll_4 rfl ?_
  refine go_aload_n dX10_heldBehindAll_5 rfl ?_
  refine go_getR (k := 0) ⟨by decide, rfl, by decide, Or.inl ⟨_, rfl⟩⟩ K0 fl_X10_10 dX10_heldBehindAll_6 ?_
  obtain ⟨k1, H⟩ := H
  refine go_getR (k := 1) ⟨by decide, rfl, by decide, Or.inl ⟨_, rfl⟩⟩ k1 fl_X10_254 dX10_heldBehindAll_9 ?_
  obtain ⟨k2, H⟩ := H
  refine go_getI (k := 1) ⟨by decide, rfl, by decide, rfl⟩ k2 fl_X10_222 dX10_heldBehindAll_12 ?_
  refine go_icmp_ge (tgt := 84) dX10_heldBehindAll_15 (by decide) (fun hc => ?_) (fun hc => ?_)
  · replace H := H.1 hc
    refine go_iload_n dX10_heldBehindAll_84 rfl ?_
    exact go_iret rfl rfl dX10_heldBehindAll_85 ⟨_, rfl, H⟩
  · replace H := H.2 hc
    refine go_aload_n dX10_heldBehindAll_18 rfl ?_
    refine go_getR (k := 0) ⟨by decide, rfl, by decide, Or.inl ⟨_, rfl⟩⟩ K0 fl_X10_10 dX10_heldBehindAll_19 ?_
    refine go_getR (k := 1) ⟨by decide, rfl, by decide, Or.inl ⟨_, rfl⟩⟩ k1 fl_X10_254 dX10_heldBehindAll_22 ?_
    refine go_getR (k := 0) ⟨by decide, rfl, by decide, Or.inr ⟨_, rfl⟩⟩ k2 fl_X10_380 dX10_heldBehindAll_25 ?_
    refine go_iload_n dX10_heldBehindAll_28 rfl ?_
    obtain ⟨l3, k4, H⟩ := H
    obtain ⟨n6, ⟨hn6, hn6b⟩, H⟩ := H
    refine go_aaldA (j := n6) k4 (by decide) hn6 hn6b dX10_heldBehindAll_29 ?_
    refine go_astore (by decide) dX10_heldBehindAll_30 ?_
    show go_W mt_X10_heldBehindAll fr_C 32 [some (pv_r a0), some (pv_r a1), some (pv_i x2), some (pv_i x3), some (pv_r (mm_r M (mm_r M (mm_r M (mm_r M a0 0) 1) 0) n6)), none] [] M (qi_ P)
    refine go_aload dX10_heldBehindAll_32 rfl ?_
    refine go_astore (by decide) dX10_heldBehindAll_34 ?_
    show go_W mt_X10_heldBehindAll fr_C 36 [some (pv_r a0), some (pv_r a1), some (pv_i x2), some (pv_i x3), some (pv_r (mm_r M (mm_r M (mm_r M (mm_r M a0 0) 1) 0) n6)), some (pv_r (mm_r M (mm_r M (mm_r M (mm_r M a0 0) 1) 0) n6))] [] M (qi_ P)
    exact H
set_option maxRecDepth 20000 in
theorem wc_X10_heldBehindAll_36 {M : mm_T} {a0 a1 a4 a5 : Nat} {x2 x3 : Int32} {P : Int32 → mm_T → Prop} (K0 : mm_k M a0 = (10, 14)) (H : (((a5 = 0) → mm_k M a4 = (6, 17) ∧ ((((¬ mm_i M a4 7 = (1 : Int32)) → cw_i mt_X10_heldBehindAll 4 [some (pv_r a0), some (pv_r a1), some (pv_i x2), some (pv_i (x3 + (1 : Int32))), none, none] [] M P) ∧ ((mm_i M a4 7 = (1 : Int32)) → (a5 = 0 ∨ ob_ M a5) ∧ (a1 = 0 ∨ ob_ M a1) ∧ (((¬ a5 = a1) → cw_i mt_X10_heldBehindAll 4 [some (pv_r a0), some (pv_r a1), some (pv_i x2), some (pv_i (x3 + (1 : Int32))), none, none] [] M P) ∧ ((a5 = a1) → cw_i mt_X10_heldBehindAll 4 [some (pv_r a0), some (pv_r a1), some (pv_i (x2 + (1 : Int32))), some (pv_i (x3 + (1 : Int32))), none, none] [] M P)))))) ∧ ((¬ a5 = 0) → mm_k M a5 = (6, 17) ∧ ((((¬ mm_i M a5 7 = (1 : Int32)) → mm_k M a4 = (6, 17) ∧ ((((¬ mm_i M a4 7 = (1 : Int32)) → cw_i mt_X10_heldBehindAll 4 [some (pv_r a0), some (pv_r a1), some (pv_i x2), some (pv_i (x3 + (1 : Int32))), none, none] [] M P) ∧ ((mm_i M a4 7 = (1 : Int32)) → (a1 = 0 ∨ ob_ M a1) ∧ (((¬ a5 = a1) → cw_i mt_X10_heldBehindAll 4 [some (pv_r a0), some (pv_r a1), some (pv_i x2), some (pv_i (x3 + (1 : Int32))), none, none] [] M P) ∧ ((a5 = a1) → cw_i mt_X10_heldBehindAll 4 [some (pv_r a0), some (pv_r a1), some (pv_i (x2 + (1 : Int32))), some (pv_i (x3 + (1 : Int32))), none, none] [] M P)))))) ∧ ((mm_i M a5 7 = (1 : Int32)) → cw_i mt_X10_heldBehindAll 36 [some (pv_r a0), some (pv_r a1), some (pv_i x2), some (pv_i x3), some (pv_r a4), some (pv_r (mm_r M a5 1))] [] M P)))))) : cw_i mt_X10_heldBehindAll 36 [some (pv_r a0), some (pv_r a1), some (pv_i x2), some (pv_i x3), some (pv_r a4), some (pv_r a5)] [] M P := by
  refine go_aload dX10_heldBehindAll_36 rfl ?_
  refine go_ifnull (tgt := 60) dX10_heldBehindAll_38 (by decide) (fun hc => ?_) (fun hc => ?_)
  · replace H := H.1 hc
    refine go_aload dX10_heldBehindAll_60 rfl ?_
    obtain ⟨k1, H⟩ := H
    refine go_getI (k := 7) ⟨by decide, rfl, by decide, rfl⟩ k1 fl_X10_105 dX10_heldBehindAll_62 ?_
    refine go_iconst (v := (1 : Int32)) rfl dX10_heldBehindAll_65 ?_
    refine go_icmp_ne (tgt := 78) dX10_heldBehindAll_66 (by decide) (fun hc => ?_) (fun hc => ?_)
    · replace H := H.1 hc
      refine go_iinc (v := (1 : Int32)) (by decide) rfl rfl dX10_heldBehindAll_78 ?_
      show go_W mt_X10_heldBehindAll fr_C 81 [some (pv_r a0), some (pv_r a1), some (pv_i x2), some (pv_i (x3 + (1 : Int32))), some (pv_r a4), some (pv_r a5)] [] M (qi_ P)
      refine go_goto (tgt := 4) dX10_heldBehindAll_81 (by decide) ?_
      exact go_fg (ls' := [some (pv_r a0), some (pv_r a1), some (pv_i x2), some (pv_i (x3 + (1 : Int32))), none, none]) ⟨rfl, ⟨rfl, ⟨rfl, ⟨rfl, trivial⟩⟩⟩⟩ H
    · replace H := H.2 hc
      refine go_aload dX10_heldBehindAll_69 rfl ?_
      refine go_aload_n dX10_heldBehindAll_71 rfl ?_
      obtain ⟨ho2, H⟩ := H
      obtain ⟨ho3, H⟩ := H
      refine go_acmpO_ne (tgt := 78) ho2 ho3 dX10_heldBehindAll_72 (by decide) (fun hc => ?_) (fun hc => ?_)
      · replace H := H.1 hc
        refine go_iinc (v := (1 : Int32)) (by decide) rfl rfl dX10_heldBehindAll_78 ?_
        show go_W mt_X10_heldBehindAll fr_C 81 [some (pv_r a0), some (pv_r a1), some (pv_i x2), some (pv_i (x3 + (1 : Int32))), some (pv_r a4), some (pv_r a5)] [] M (qi_ P)
        refine go_goto (tgt := 4) dX10_heldBehindAll_81 (by decide) ?_
        exact go_fg (ls' := [some (pv_r a0), some (pv_r a1), some (pv_i x2), some (pv_i (x3 + (1 : Int32))), none, none]) ⟨rfl, ⟨rfl, ⟨rfl, ⟨rfl, trivial⟩⟩⟩⟩ H
      · replace H := H.2 hc
        refine go_iinc (v := (1 : Int32)) (by decide) rfl rfl dX10_heldBehindAll_75 ?_
        show go_W mt_X10_heldBehindAll fr_C 78 [some (pv_r a0), some (pv_r a1), some (pv_i (x2 + (1 : Int32))), some (pv_i x3), some (pv_r a4), some (pv_r a5)] [] M (qi_ P)
        refine go_iinc (v := (1 : Int32)) (by decide) rfl rfl dX10_heldBehindAll_78 ?_
        show go_W mt_X10_heldBehindAll fr_C 81 [some (pv_r a0), some (pv_r a1), some (pv_i (x2 + (1 : Int32))), some (pv_i (x3 + (1 : Int32))), some (pv_r a4), some (pv_r a5)] [] M (qi_ P)
        refine go_goto (tgt := 4) dX10_heldBehindAll_81 (by decide) ?_
        exact go_fg (ls' := [some (pv_r a0), some (pv_r a1), some (pv_i (x2 + (1 : Int32))), some (pv_i (x3 + (1 : Int32))), none, none]) ⟨rfl, ⟨rfl, ⟨rfl, ⟨rfl, trivial⟩⟩⟩⟩ H
  · replace H := H.2 hc
    refine go_aload dX10_heldBehindAll_41 rfl ?_
    obtain ⟨k4, H⟩ := H
    refine go_getI (k := 7) ⟨by decide, rfl, by decide, rfl⟩ k4 fl_X10_105 dX10_heldBehindAll_43 ?_
    refine go_iconst (v := (1 : Int32)) rfl dX10_heldBehindAll_46 ?_
    refine go_icmp_ne (tgt := 60) dX10_heldBehindAll_47 (by decide) (fun hc => ?_) (fun hc => ?_)
    · replace H := H.1 hc
      refine go_aload dX10_heldBehindAll_60 rfl ?_
      obtain ⟨k5, H⟩ := H
      refine go_getI (k := 7) ⟨by decide, rfl, by decide, rfl⟩ k5 fl_X10_105 dX10_heldBehindAll_62 ?_
      refine go_iconst (v := (1 : Int32)) rfl dX10_heldBehindAll_65 ?_
      refine go_icmp_ne (tgt := 78) dX10_heldBehindAll_66 (by decide) (fun hc => ?_) (fun hc => ?_)
      · replace H := H.1 hc
        refine go_iinc (v := (1 : Int32)) (by decide) rfl rfl dX10_heldBehindAll_78 ?_
        show go_W mt_X10_heldBehindAll fr_C 81 [some (pv_r a0), some (pv_r a1), some (pv_i x2), some (pv_i (x3 + (1 : Int32))), some (pv_r a4), some (pv_r a5)] [] M (qi_ P)
        refine go_goto (tgt := 4) dX10_heldBehindAll_81 (by decide) ?_
        exact go_fg (ls' := [some (pv_r a0), some (pv_r a1), some (pv_i x2), some (pv_i (x3 + (1 : Int32))), none, none]) ⟨rfl, ⟨rfl, ⟨rfl, ⟨rfl, trivial⟩⟩⟩⟩ H
      · replace H := H.2 hc
        refine go_aload dX10_heldBehindAll_69 rfl ?_
        refine go_aload_n dX10_heldBehindAll_71 rfl ?_
        obtain ⟨ho6, H⟩ := H
        refine go_acmpO_ne (tgt := 78) (Or.inr ⟨_, by decide, k4⟩) ho6 dX10_heldBehindAll_72 (by decide) (fun hc => ?_) (fun hc => ?_)
        · replace H := H.1 hc
          refine go_iinc (v := (1 : Int32)) (by decide) rfl rfl dX10_heldBehindAll_78 ?_
          show go_W mt_X10_heldBehindAll fr_C 81 [some (pv_r a0), some (pv_r a1), some (pv_i x2), some (pv_i (x3 + (1 : Int32))), some (pv_r a4), some (pv_r a5)] [] M (qi_ P)
          refine go_goto (tgt := 4) dX10_heldBehindAll_81 (by decide) ?_
          exact go_fg (ls' := [some (pv_r a0), some (pv_r a1), some (pv_i x2), some (pv_i (x3 + (1 : Int32))), none, none]) ⟨rfl, ⟨rfl, ⟨rfl, ⟨rfl, trivial⟩⟩⟩⟩ H
        · replace H := H.2 hc
          refine go_iinc (v := (1 : Int32)) (by decide) rfl rfl dX10_heldBehindAll_75 ?_
          show go_W mt_X10_heldBehindAll fr_C 78 [some (pv_r a0), some (pv_r a1), some (pv_i (x2 + (1 : Int32))), some (pv_i x3), some (pv_r a4), some (pv_r a5)] [] M (qi_ P)
          refine go_iinc (v := (1 : Int32)) (by decide) rfl rfl dX10_heldBehindAll_78 ?_
          show go_W mt_X10_heldBehindAll fr_C 81 [some (pv_r a0), some (pv_r a1), some (pv_i (x2 + (1 : Int32))), some (pv_i (x3 + (1 : Int32))), some (pv_r a4), some (pv_r a5)] [] M (qi_ P)
          refine go_goto (tgt := 4) dX10_heldBehindAll_81 (by decide) ?_
          exact go_fg (ls' := [some (pv_r a0), some (pv_r a1), some (pv_i (x2 + (1 : Int32))), some (pv_i (x3 + (1 : Int32))), none, none]) ⟨rfl, ⟨rfl, ⟨rfl, ⟨rfl, trivial⟩⟩⟩⟩ H
    · replace H := H.2 hc
      refine go_aload dX10_heldBehindAll_50 rfl ?_
      refine go_getR (k := 1) ⟨by decide, rfl, by decide, Or.inl ⟨_, rfl⟩⟩ k4 fl_X10_330 dX10_heldBehindAll_52 ?_
      refine go_astore (by decide) dX10_heldBehindAll_55 ?_
      show go_W mt_X10_heldBehindAll fr_C 57 [some (pv_r a0), some (pv_r a1), some (pv_i x2), some (pv_i x3), some (pv_r a4), some (pv_r (mm_r M a5 1))] [] M (qi_ P)
      refine go_goto (tgt := 36) dX10_heldBehindAll_57 (by decide) ?_
      exact H
set_option maxRecDepth 20000 in
theorem wc_X10_hangsOn_0 {M : mm_T} {a0 a1 : Nat} {P : Int32 → mm_T → Prop} (H : cw_i mt_X10_hangsOn 2 [some (pv_r a0), some (pv_r a1), some (pv_r a0)] [] M P) : cw_i mt_X10_hangsOn 0 [some (pv_r a0), some (pv_r a1), none] [] M P := by
  refine go_aload_n dX10_hangsOn_0 rfl ?_
  refine go_astore_n (by decide) dX10_hangsOn_1 ?_
  show go_W mt_X10_hangsOn fr_C 2 [some (pv_r a0), some (pv_r a1), some (pv_r a0)] [] M (qi_ P)
  exact H
set_option maxRecDepth 20000 in
theorem wc_X10_hangsOn_2 {M : mm_T} {a0 a1 a2 : Nat} {P : Int32 → mm_T → Prop} (H : (((a2 = 0) → (a2 = 0 ∨ ob_ M a2) ∧ (a1 = 0 ∨ ob_ M a1) ∧ (((¬ a2 = a1) → P (0 : Int32) M) ∧ ((a2 = a1) → P (1 : Int32) M))) ∧ ((¬ a2 = 0) → mm_k M a2 = (6, 17) ∧ (mm_k M a1 = (6, 17) ∧ ((((mm_i M a2 0 ≤ mm_i M a1 0) → (((¬ a2 = a1) → P (0 : Int32) M) ∧ ((a2 = a1) → P (1 : Int32) M))) ∧ ((¬ mm_i M a2 0 ≤ mm_i M a1 0) → cs_i mt_X6_stands [pv_r a2] M (fun v6 M5 => (((¬ v6 = 0) → cw_i mt_X10_hangsOn 2 [some (pv_r a0), some (pv_r a1), some (pv_r (mm_r M5 a2 1))] [] M5 P) ∧ ((v6 = 0) → (((¬ mm_i M5 a2 7 = (5 : Int32)) → (((¬ a2 = a1) → P (0 : Int32) M5) ∧ ((a2 = a1) → P (1 : Int32) M5))) ∧ ((mm_i M5 a2 7 = (5 : Int32)) → cw_i mt_X10_hangsOn 2 [some (pv_r a0), some (pv_r a1), some (pv_r (mm_r M5 a2 1))] [] M5 P)))))))))))) : cw_i mt_X10_hangsOn 2 [some (pv_r a0), some (pv_r a1), some (pv_r a2)] [] M P := by
  refine go_aload_n dX10_hangsOn_2 rfl ?_
  refine go_ifnull (tgt := 40) dX10_hangsOn_3 (by decide) (fun hc => ?_) (fun hc => ?_)
  · replace H := H.1 hc
    refine go_aload_n dX10_hangsOn_40 rfl ?_
    refine go_aload_n dX10_hangsOn_41 rfl ?_
    obtain ⟨ho1, H⟩ := H
    obtain ⟨ho2, H⟩ := H
    refine go_acmpO_ne (tgt := 49) ho1 ho2 dX10_hangsOn_42 (by decide) (fun hc => ?_) (fun hc => ?_)
    · replace H := H.1 hc
      refine go_iconst (v := (0 : Int32)) rfl dX10_hangsOn_49 ?_
      exact go_iret rfl rfl dX10_hangsOn_50 ⟨_, rfl, H⟩
    · replace H := H.2 hc
      refine go_iconst (v := (1 : Int32)) rfl dX10_hangsOn_45 ?_
      refine go_goto (tgt := 50) dX10_hangsOn_46 (by decide) ?_
      exact go_iret rfl rfl dX10_hangsOn_50 ⟨_, rfl, H⟩
  · replace H := H.2 hc
    refine go_aload_n dX10_hangsOn_6 rfl ?_
    obtain ⟨k3, H⟩ := H
    refine go_getI (k := 0) ⟨by decide, rfl, by decide, rfl⟩ k3 fl_X10_95 dX10_hangsOn_7 ?_
    refine go_aload_n dX10_hangsOn_10 rfl ?_
    obtain ⟨k4, H⟩ := H
    refine go_getI (k := 0) ⟨by decide, rfl, by decide, rfl⟩ k4 fl_X10_95 dX10_hangsOn_11 ?_
    refine go_icmp_le (tgt := 40) dX10_hangsOn_14 (by decide) (fun hc => ?_) (fun hc => ?_)
    · replace H := H.1 hc
      refine go_aload_n dX10_hangsOn_40 rfl ?_
      refine go_aload_n dX10_hangsOn_41 rfl ?_
      refine go_acmpO_ne (tgt := 49) (Or.inr ⟨_, by decide, k3⟩) (Or.inr ⟨_, by decide, k4⟩) dX10_hangsOn_42 (by decide) (fun hc => ?_) (fun hc => ?_)
      · replace H := H.1 hc
        refine go_iconst (v := (0 : Int32)) rfl dX10_hangsOn_49 ?_
        exact go_iret rfl rfl dX10_hangsOn_50 ⟨_, rfl, H⟩
      · replace H := H.2 hc
        refine go_iconst (v := (1 : Int32)) rfl dX10_hangsOn_45 ?_
        refine go_goto (tgt := 50) dX10_hangsOn_46 (by decide) ?_
        exact go_iret rfl rfl dX10_hangsOn_50 ⟨_, rfl, H⟩
    · replace H := H.2 hc
      refine go_aload_n dX10_hangsOn_17 rfl ?_
      refine go_V (av := []) (st := []) (ci := 6) ok_X6_stands ⟨by decide, by decide⟩ ml_X10_508 rfl (by decide) (fun v hv => absurd hv List.not_mem_nil) (Nat.le_of_ble_eq_true rfl) (fun _ h => h) (by decide) rfl k3 dX10_hangsOn_18 H (fun r M5 hq hS => ?_)
      obtain ⟨v6, rfl, H⟩ := hq
      have k7 : mm_k M5 a2 = (6, 17) := ks_S k3 (by decide) hS
      have k8 : mm_k M5 a1 = (6, 17) := ks_S k4 (by decide) hS
      show go_W mt_X10_hangsOn fr_C 21 [some (pv_r a0), some (pv_r a1), some (pv_r a2)] [pv_i v6] M5 (qi_ P)
      refine go_if_ne (tgt := 32) dX10_hangsOn_21 (by decide) (fun hc => ?_) (fun hc => ?_)
      · replace H := H.1 hc
        refine go_aload_n dX10_hangsOn_32 rfl ?_
        refine go_getR (k := 1) ⟨by decide, rfl, by decide, Or.inl ⟨_, rfl⟩⟩ k7 fl_X10_330 dX10_hangsOn_33 ?_
        refine go_astore_n (by decide) dX10_hangsOn_36 ?_
        show go_W mt_X10_hangsOn fr_C 37 [some (pv_r a0), some (pv_r a1), some (pv_r (mm_r M5 a2 1))] [] M5 (qi_ P)
        refine go_goto (tgt := 2) dX10_hangsOn_37 (by decide) ?_
        exact H
      · replace H := H.2 hc
        refine go_aload_n dX10_hangsOn_24 rfl ?_
        refine go_getI (k := 7) ⟨by decide, rfl, by decide, rfl⟩ k7 fl_X10_105 dX10_hangsOn_25 ?_
        refine go_iconst (v := (5 : Int32)) rfl dX10_hangsOn_28 ?_
        refine go_icmp_ne (tgt := 40) dX10_hangsOn_29 (by decide) (fun hc => ?_) (fun hc => ?_)
        · replace H := H.1 hc
          refine go_aload_n dX10_hangsOn_40 rfl ?_
          refine go_aload_n dX10_hangsOn_41 rfl ?_
          refine go_acmpO_ne (tgt := 49) (Or.inr ⟨_, by decide, k7⟩) (Or.inr ⟨_, by decide, k8⟩) dX10_hangsOn_42 (by decide) (fun hc => ?_) (fun hc => ?_)
          · replace H := H.1 hc
            refine go_iconst (v := (0 : Int32)) rfl dX10_hangsOn_49 ?_
            exact go_iret rfl rfl dX10_hangsOn_50 ⟨_, rfl, H⟩
          · replace H := H.2 hc
            refine go_iconst (v := (1 : Int32)) rfl dX10_hangsOn_45 ?_
            refine go_goto (tgt := 50) dX10_hangsOn_46 (by decide) ?_
            exact go_iret rfl rfl dX10_hangsOn_50 ⟨_, rfl, H⟩
        · replace H := H.2 hc
          refine go_aload_n dX10_hangsOn_32 rfl ?_
          refine go_getR (k := 1) ⟨by decide, rfl, by decide, Or.inl ⟨_, rfl⟩⟩ k7 fl_X10_330 dX10_hangsOn_33 ?_
          refine go_astore_n (by decide) dX10_hangsOn_36 ?_
          show go_W mt_X10_hangsOn fr_C 37 [some (pv_r a0), some (pv_r a1), some (pv_r (mm_r M5 a2 1))] [] M5 (qi_ P)
          refine go_goto (tgt := 2) dX10_hangsOn_37 (by decide) ?_
          exact H
set_option maxRecDepth 20000 in
theorem wc_X10_asideBy_0 {M : mm_T} {a0 : Nat} {x1 : Int32} {P : Int32 → mm_T → Prop} (K0 : mm_k M a0 = (10, 14)) (H : cw_i mt_X10_asideBy 4 [some (pv_r a0), some (pv_i x1), some (pv_i (0 : Int32)), some (pv_i (0 : Int32))] [] M P) : cw_i mt_X10_asideBy 0 [some (pv_r a0), some (pv_i x1), none, none] [] M P := by
  refine go_iconst (v := (0 : Int32)) rfl dX10_asideBy_0 ?_
  refine go_istore_n (by decide) dX10_asideBy_1 ?_
  show go_W mt_X10_asideBy fr_C 2 [some (pv_r a0), some (pv_i x1), some (pv_i (0 : Int32)), none] [] M (qi_ P)
  refine go_iconst (v := (0 : Int32)) rfl dX10_asideBy_2 ?_
  refine go_istore_n (by decide) dX10_asideBy_3 ?_
  show go_W mt_X10_asideBy fr_C 4 [some (pv_r a0), some (pv_i x1), some (pv_i (0 : Int32)), some (pv_i (0 : Int32))] [] M (qi_ P)
  exact H
set_option maxRecDepth 20000 in
theorem wc_X10_asideBy_4 {M : mm_T} {a0 : Nat} {x1 x2 x3 : Int32} {P : Int32 → mm_T → Prop} (K0 : mm_k M a0 = (10, 14)) (H : mm_k M (mm_r M a0 3) = (4, 2) ∧ ((((mm_i M (mm_r M a0 3) 1 ≤ x3) → P x2 M) ∧ ((¬ mm_i M (mm_r M a0 3) 1 ≤ x3) → ∃ l2, ak_ M (mm_r M (mm_r M a0 3) 0) 3 l2 ∧ (∃ n5, (x3 = nI n5 ∧ n5 < l2) ∧ (mm_k M (mm_r M (mm_r M (mm_r M a0 3) 0) n5) = (6, 17) ∧ ((((¬ mm_i M (mm_r M (mm_r M (mm_r M a0 3) 0) n5) 16 = x1) → cw_i mt_X10_asideBy 4 [some (pv_r a0), some (pv_i x1), some (pv_i x2), some (pv_i (nI (n5 + 1)))] [] M P) ∧ ((mm_i M (mm_r M (mm_r M (mm_r M a0 3) 0) n5) 16 = x1) → cw_i mt_X10_asideBy 4 [some (pv_r a0), some (pv_i x1), some (pv_i (x2 + (1 : Int32))), some (pv_i (nI (n5 + 1)))] [] M P))))))))) : cw_i mt_X10_asideBy 4 [some (pv_r a0), some (pv_i x1), some (pv_i x2), some (pv_i x3)] [] M P := by
  refine go_iload_n dX10_asideBy_4 rfl ?_
  refine go_aload_n dX10_asideBy_5 rfl ?_
  refine go_getR (k := 3) ⟨by decide, rfl, by decide, Or.inl ⟨_, rfl⟩⟩ K0 fl_X10_32 dX10_asideBy_6 ?_
  obtain ⟨k1, H⟩ := H
  refine go_getI (k := 1) ⟨by decide, rfl, by decide, rfl⟩ k1 fl_X10_222 dX10_asideBy_9 ?_
  refine go_icmp_ge (tgt := 40) dX10_asideBy_12 (by decide) (fun hc => ?_) (fun hc => ?_)
  · replace H := H.1 hc
    refine go_iload_n dX10_asideBy_40 rfl ?_
    exact go_iret rfl rfl dX10_asideBy_41 ⟨_, rfl, H⟩
  · replace H := H.2 hc
    refine go_aload_n dX10_asideBy_15 rfl ?_
    refine go_getR (k := 3) ⟨by decide, rfl, by decide, Or.inl ⟨_, rfl⟩⟩ K0 fl_X10_32 dX10_asideBy_16 ?_
    refine go_getR (k := 0) ⟨by decide, rfl, by decide, Or.inr ⟨_, rfl⟩⟩ k1 fl_X10_380 dX10_asideBy_19 ?_
    refine go_iload_n dX10_asideBy_22 rfl ?_
    obtain ⟨l2, k3, H⟩ := H
    obtain ⟨n5, ⟨hn5, hn5b⟩, H⟩ := H
    refine go_aaldA (j := n5) k3 (by decide) hn5 hn5b dX10_asideBy_23 ?_
    obtain ⟨k6, H⟩ := H
    refine go_getI (k := 16) ⟨by decide, rfl, by decide, rfl⟩ k6 fl_X10_511 dX10_asideBy_24 ?_
    refine go_iload_n dX10_asideBy_27 rfl ?_
    refine go_icmp_ne (tgt := 34) dX10_asideBy_28 (by decide) (fun hc => ?_) (fun hc => ?_)
    · replace H := H.1 hc
      refine go_iincN (n := n5) (k := 1) hn5 (by decide) rfl rfl dX10_asideBy_34 ?_
      show go_W mt_X10_asideBy fr_C 37 [some (pv_r a0), some (pv_i x1), some (pv_i x2), some (pv_i (nI (n5 + 1)))] [] M (qi_ P)
      refine go_goto (tgt := 4) dX10_asideBy_37 (by decide) ?_
      exact H
    · replace H := H.2 hc
      refine go_iinc (v := (1 : Int32)) (by decide) rfl rfl dX10_asideBy_31 ?_
      show go_W mt_X10_asideBy fr_C 34 [some (pv_r a0), some (pv_i x1), some (pv_i (x2 + (1 : Int32))), some (pv_i x3)] [] M (qi_ P)
      refine go_iincN (n := n5) (k := 1) hn5 (by decide) rfl rfl dX10_asideBy_34 ?_
      show go_W mt_X10_asideBy fr_C 37 [some (pv_r a0), some (pv_i x1), some (pv_i (x2 + (1 : Int32))), some (pv_i (nI (n5 + 1)))] [] M (qi_ P)
      refine go_goto (tgt := 4) dX10_asideBy_37 (by decide) ?_
      exact H
set_option maxRecDepth 20000 in
theorem wc_J7_fill_53178_0 {M : mm_T} {a0 : Nat} {x1 : Int32} {P : mm_T → Prop} (H : ∃ l1, ak_ M a0 0 l1 ∧ (cw_v mt_J7_fill_53178 5 [some (pv_r a0), some (pv_i x1), some (pv_i (0 : Int32)), some (pv_i (nI l1))] [] M P)) : cw_v mt_J7_fill_53178 0 [some (pv_r a0), some (pv_i x1), none, none] [] M P := by
  refine go_iconst (v := (0 : Int32)) rfl dJ7_fill_53178_0 ?_
  refine go_istore_n (by decide) dJ7_fill_53178_1 ?_
  show go_W mt_J7_fill_53178 fr_C 2 [some (pv_r a0), some (pv_i x1), some (pv_i (0 : Int32)), none] [] M (qv_ P)
  refine go_aload_n dJ7_fill_53178_2 rfl ?_
  obtain ⟨l1, k2, H⟩ := H
  refine go_alenA k2 dJ7_fill_53178_3 ?_
  refine go_istore_n (by decide) dJ7_fill_53178_4 ?_
  show go_W mt_J7_fill_53178 fr_C 5 [some (pv_r a0), some (pv_i x1), some (pv_i (0 : Int32)), some (pv_i (nI l1))] [] M (qv_ P)
  exact H
set_option maxRecDepth 20000 in
theorem wc_J7_fill_53178_5 {M : mm_T} {a0 : Nat} {x1 x2 x3 : Int32} {P : mm_T → Prop} (H : (((x3 ≤ x2) → P M) ∧ ((¬ x3 ≤ x2) → ∃ l1, ak_ M a0 0 l1 ∧ (∃ n4, (x2 = nI n4 ∧ n4 < l1) ∧ (∀ M5, M5 = mm_pi M a0 n4 x1 → cw_v mt_J7_fill_53178 5 [some (pv_r a0), some (pv_i x1), some (pv_i (nI (n4 + 1))), some (pv_i x3)] [] M5 P))))) : cw_v mt_J7_fill_53178 5 [some (pv_r a0), some (pv_i x1), some (pv_i x2), some (pv_i x3)] [] M P := by
  refine go_iload_n dJ7_fill_53178_5 rfl ?_
  refine go_iload_n dJ7_fill_53178_6 rfl ?_
  refine go_icmp_ge (tgt := 20) dJ7_fill_53178_7 (by decide) (fun hc => ?_) (fun hc => ?_)
  · replace H := H.1 hc
    exact go_vret rfl dJ7_fill_53178_20 ⟨rfl, H⟩
  · replace H := H.2 hc
    refine go_aload_n dJ7_fill_53178_10 rfl ?_
    refine go_iload_n dJ7_fill_53178_11 rfl ?_
    refine go_iload_n dJ7_fill_53178_12 rfl ?_
    obtain ⟨l1, k2, H⟩ := H
    obtain ⟨n4, ⟨hn4, hn4b⟩, H⟩ := H
    refine go_iastA (j := n4) k2 hn4 hn4b dJ7_fill_53178_13 ?_
    show go_W mt_J7_fill_53178 fr_C 14 [some (pv_r a0), some (pv_i x1), some (pv_i x2), some (pv_i x3)] [] (mm_pi M a0 n4 x1) (qv_ P)
    obtain ⟨M5, hM5⟩ : ∃ M', M' = mm_pi M a0 n4 x1 := ⟨_, rfl⟩
    have k6 : ak_ M5 a0 0 l1 := (by rw [hM5]; exact k2)
    rw [← hM5]
    replace H := H M5 hM5
    refine go_iincN (n := n4) (k := 1) hn4 (by decide) rfl rfl dJ7_fill_53178_14 ?_
    show go_W mt_J7_fill_53178 fr_C 17 [some (pv_r a0), some (pv_i x1), some (pv_i (nI (n4 + 1))), some (pv_i x3)] [] M5 (qv_ P)
    refine go_goto (tgt := 5) dJ7_fill_53178_17 (by decide) ?_
    exact H
