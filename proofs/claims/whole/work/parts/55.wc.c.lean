/-! the walks of the class, by program (wip/whole/walk3.py) -/
set_option maxRecDepth 20000 in
theorem wc_X8_run_0 {M : mm_T} {a0 a1 : Nat} {x2 x3 : Int32} {P : mm_T → Prop} (K0 : mm_k M a0 = (8, 8)) (H : cs_v mt_X8_load [pv_r a0, pv_r a1] M (fun M1 => ∀ M3, M3 = mm_pi M1 a0 3 x3 → ∀ M5, M5 = mm_pi M3 a0 4 (0 : Int32) → ∀ M7, M7 = mm_pi M5 a0 6 (0 : Int32) → ∀ M9, M9 = mm_pi M7 a0 7 (-1 : Int32) → cs_v mt_J7_fill_53178 [pv_r (mm_r M9 a0 2), pv_i (0 : Int32)] M9 (fun M11 => mm_k M11 (mm_r M11 a0 0) = (0, 4) ∧ (∃ l14, ak_ M11 (mm_r M11 (mm_r M11 a0 0) 2) 0 l14 ∧ (3 < l14 ∧ (∀ M17, M17 = mm_pi M11 a0 5 (x2 - mm_i M11 (mm_r M11 (mm_r M11 a0 0) 2) 3) → cw_v mt_X8_run 51 [some (pv_r a0), some (pv_r a1), some (pv_i x2), some (pv_i x3), some (pv_i (0 : Int32)), none] [] M17 P)))))) : cw_v mt_X8_run 0 [some (pv_r a0), some (pv_r a1), some (pv_i x2), some (pv_i x3), none, none] [] M P := by
  refine go_aload_n dX8_run_0 rfl ?_
  refine go_aload_n dX8_run_1 rfl ?_
  refine go_V (av := [pv_r a1]) (st := []) (ci := 8) ok_X8_load ⟨by decide, by decide⟩ ml_X8_87 rfl (by decide) (fun v hv => by simp only [List.mem_cons, List.not_mem_nil, or_false] at hv; rcases hv with rfl <;> first | exact pv_1i | exact pv_1r) (Nat.le_of_ble_eq_true rfl) (fun _ h => h) (by decide) rfl K0 dX8_run_2 H (fun r M1 hq hS => ?_)
  obtain ⟨rfl, H⟩ := hq
  have k2 : mm_k M1 a0 = (8, 8) := ks_S K0 (by decide) hS
  show go_W mt_X8_run fr_C 5 [some (pv_r a0), some (pv_r a1), some (pv_i x2), some (pv_i x3), none, none] [] M1 (qv_ P)
  refine go_aload_n dX8_run_5 rfl ?_
  refine go_iload_n dX8_run_6 rfl ?_
  refine go_putI (k := 3) ⟨by decide, rfl, by decide, rfl⟩ k2 rfl (Or.inl rfl) fl_X8_103 dX8_run_7 ?_
  show go_W mt_X8_run fr_C 10 [some (pv_r a0), some (pv_r a1), some (pv_i x2), some (pv_i x3), none, none] [] (mm_pi M1 a0 3 x3) (qv_ P)
  obtain ⟨M3, hM3⟩ : ∃ M', M' = mm_pi M1 a0 3 x3 := ⟨_, rfl⟩
  have k4 : mm_k M3 a0 = (8, 8) := (by rw [hM3]; exact k2)
  rw [← hM3]
  replace H := H M3 hM3
  refine go_aload_n dX8_run_10 rfl ?_
  refine go_iconst (v := (0 : Int32)) rfl dX8_run_11 ?_
  refine go_putI (k := 4) ⟨by decide, rfl, by decide, rfl⟩ k4 rfl (Or.inl rfl) fl_X8_106 dX8_run_12 ?_
  show go_W mt_X8_run fr_C 15 [some (pv_r a0), some (pv_r a1), some (pv_i x2), some (pv_i x3), none, none] [] (mm_pi M3 a0 4 (0 : Int32)) (qv_ P)
  obtain ⟨M5, hM5⟩ : ∃ M', M' = mm_pi M3 a0 4 (0 : Int32) := ⟨_, rfl⟩
  have k6 : mm_k M5 a0 = (8, 8) := (by rw [hM5]; exact k4)
  rw [← hM5]
  replace H := H M5 hM5
  refine go_aload_n dX8_run_15 rfl ?_
  refine go_iconst (v := (0 : Int32)) rfl dX8_run_16 ?_
  refine go_putI (k := 6) ⟨by decide, rfl, by decide, rfl⟩ k6 rfl (Or.inl rfl) fl_X8_109 dX8_run_17 ?_
  show go_W mt_X8_run fr_C 20 [some (pv_r a0), some (pv_r a1), some (pv_i x2), some (pv_i x3), none, none] [] (mm_pi M5 a0 6 (0 : Int32)) (qv_ P)
  obtain ⟨M7, hM7⟩ : ∃ M', M' = mm_pi M5 a0 6 (0 : Int32) := ⟨_, rfl⟩
  have k8 : mm_k M7 a0 = (8, 8) := (by rw [hM7]; exact k6)
  rw [← hM7]
  replace H := H M7 hM7
  refine go_aload_n dX8_run_20 rfl ?_
  refine go_iconst (v := (-1 : Int32)) rfl dX8_run_21 ?_
  refine go_putI (k := 7) ⟨by decide, rfl, by decide, rfl⟩ k8 rfl (Or.inl rfl) fl_X8_112 dX8_run_22 ?_
  show go_W mt_X8_run fr_C 25 [some (pv_r a0), some (pv_r a1), some (pv_i x2), some (pv_i x3), none, none] [] (mm_pi M7 a0 7 (-1 : Int32)) (qv_ P)
  obtain ⟨M9, hM9⟩ : ∃ M', M' = mm_pi M7 a0 7 (-1 : Int32) := ⟨_, rfl⟩
  have k10 : mm_k M9 a0 = (8, 8) := (by rw [hM9]; exact k8)
  rw [← hM9]
  replace H := H M9 hM9
  refine go_aload_n dX8_run_25 rfl ?_
  refine go_getR (k := 2) ⟨by decide, rfl, by decide, Or.inr ⟨_, rfl⟩⟩ k10 fl_X8_24 dX8_run_26 ?_
  refine go_iconst (v := (0 : Int32)) rfl dX8_run_29 ?_
  refine go_St (av := [pv_r (mm_r M9 a0 2), pv_i (0 : Int32)]) (st := []) ok_J7_fill_53178 ⟨by decide, by decide⟩ ml_X8_115 rfl (by decide) (fun v hv => by simp only [List.mem_cons, List.not_mem_nil, or_false] at hv; rcases hv with rfl | rfl <;> first | exact pv_1i | exact pv_1r) (Nat.le_of_ble_eq_true rfl) (fun _ h => h) dX8_run_30 H (fun r M11 hq hS => ?_)
  obtain ⟨rfl, H⟩ := hq
  have k12 : mm_k M11 a0 = (8, 8) := ks_S k10 (by decide) hS
  show go_W mt_X8_run fr_C 33 [some (pv_r a0), some (pv_r a1), some (pv_i x2), some (pv_i x3), none, none] [] M11 (qv_ P)
  refine go_aload_n dX8_run_33 rfl ?_
  refine go_iload_n dX8_run_34 rfl ?_
  refine go_aload_n dX8_run_35 rfl ?_
  refine go_getR (k := 0) ⟨by decide, rfl, by decide, Or.inl ⟨_, rfl⟩⟩ k12 fl_X8_12 dX8_run_36 ?_
  obtain ⟨k13, H⟩ := H
  refine go_getR (k := 2) ⟨by decide, rfl, by decide, Or.inr ⟨_, rfl⟩⟩ k13 fl_X8_50 dX8_run_39 ?_
  refine go_iconst (v := (3 : Int32)) rfl dX8_run_42 ?_
  obtain ⟨l14, k15, H⟩ := H
  obtain ⟨hb16, H⟩ := H
  refine go_ialdA (j := 3) k15 rfl hb16 dX8_run_43 ?_
  refine go_isub dX8_run_44 ?_
  refine go_putI (k := 5) ⟨by decide, rfl, by decide, rfl⟩ k12 rfl (Or.inl rfl) fl_X8_121 dX8_run_45 ?_
  show go_W mt_X8_run fr_C 48 [some (pv_r a0), some (pv_r a1), some (pv_i x2), some (pv_i x3), none, none] [] (mm_pi M11 a0 5 (x2 - mm_i M11 (mm_r M11 (mm_r M11 a0 0) 2) 3)) (qv_ P)
  obtain ⟨M17, hM17⟩ : ∃ M', M' = mm_pi M11 a0 5 (x2 - mm_i M11 (mm_r M11 (mm_r M11 a0 0) 2) 3) := ⟨_, rfl⟩
  have k18 : mm_k M17 a0 = (8, 8) := (by rw [hM17]; exact k12)
  have k19 : mm_k M17 (mm_r M11 a0 0) = (0, 4) := (by rw [hM17]; exact k13)
  have k20 : ak_ M17 (mm_r M11 (mm_r M11 a0 0) 2) 0 l14 := (by rw [hM17]; exact k15)
  rw [← hM17]
  replace H := H M17 hM17
  refine go_iconst (v := (0 : Int32)) rfl dX8_run_48 ?_
  refine go_istore (by decide) dX8_run_49 ?_
  show go_W mt_X8_run fr_C 51 [some (pv_r a0), some (pv_r a1), some (pv_i x2), some (pv_i x3), some (pv_i (0 : Int32)), none] [] M17 (qv_ P)
  exact H
set_option maxRecDepth 20000 in
theorem wc_X8_run_51 {M : mm_T} {a0 a1 : Nat} {x2 x3 x4 : Int32} {P : mm_T → Prop} (K0 : mm_k M a0 = (8, 8)) (H : mm_k M (mm_r M a0 0) = (0, 4) ∧ (mm_k M (mm_r M (mm_r M a0 0) 1) = (4, 2) ∧ ((((mm_i M (mm_r M (mm_r M a0 0) 1) 1 ≤ x4) → cw_v mt_X8_run 92 [some (pv_r a0), some (pv_r a1), some (pv_i x2), some (pv_i x3), some (pv_i (0 : Int32)), none] [] M P) ∧ ((¬ mm_i M (mm_r M (mm_r M a0 0) 1) 1 ≤ x4) → ∃ l3, ak_ M (mm_r M (mm_r M (mm_r M a0 0) 1) 0) 3 l3 ∧ (∃ n6, (x4 = nI n6 ∧ n6 < l3) ∧ (mm_k M (mm_r M (mm_r M (mm_r M (mm_r M a0 0) 1) 0) n6) = (6, 17) ∧ (∀ M8, M8 = mm_pi M (mm_r M (mm_r M (mm_r M (mm_r M a0 0) 1) 0) n6) 12 x3 → cw_v mt_X8_run 51 [some (pv_r a0), some (pv_r a1), some (pv_i x2), some (pv_i x3), some (pv_i (nI (n6 + 1))), none] [] M8 P)))))))) : cw_v mt_X8_run 51 [some (pv_r a0), some (pv_r a1), some (pv_i x2), some (pv_i x3), some (pv_i x4), none] [] M P := by
  refine go_iload dX8_run_51 rfl ?_
  refine go_aload_n dX8_run_53 rfl ?_
  refine go_getR (k := 0) ⟨by decide, rfl, by decide, Or.inl ⟨_, rfl⟩⟩ K0 fl_X8_12 dX8_run_54 ?_
  obtain ⟨k1, H⟩ := H
  refine go_getR (k := 1) ⟨by decide, rfl, by decide, Or.inl ⟨_, rfl⟩⟩ k1 fl_X8_53 dX8_run_57 ?_
  obtain ⟨k2, H⟩ := H
  refine go_getI (k := 1) ⟨by decide, rfl, by decide, rfl⟩ k2 fl_X8_62 dX8_run_60 ?_
  refine go_icmp_ge (tgt := 89) dX8_run_63 (by decide) (fun hc => ?_) (fun hc => ?_)
  · replace H := H.1 hc
    refine go_iconst (v := (0 : Int32)) rfl dX8_run_89 ?_
    refine go_istore (by decide) dX8_run_90 ?_
    show go_W mt_X8_run fr_C 92 [some (pv_r a0), some (pv_r a1), some (pv_i x2), some (pv_i x3), some (pv_i (0 : Int32)), none] [] M (qv_ P)
    exact H
  · replace H := H.2 hc
    refine go_aload_n dX8_run_66 rfl ?_
    refine go_getR (k := 0) ⟨by decide, rfl, by decide, Or.inl ⟨_, rfl⟩⟩ K0 fl_X8_12 dX8_run_67 ?_
    refine go_getR (k := 1) ⟨by decide, rfl, by decide, Or.inl ⟨_, rfl⟩⟩ k1 fl_X8_53 dX8_run_70 ?_
    refine go_getR (k := 0) ⟨by decide, rfl, by decide, Or.inr ⟨_, rfl⟩⟩ k2 fl_X8_66 dX8_run_73 ?_
    refine go_iload dX8_run_76 rfl ?_
    obtain ⟨l3, k4, H⟩ := H
    obtain ⟨n6, ⟨hn6, hn6b⟩, H⟩ := H
    refine go_aaldA (j := n6) k4 (by decide) hn6 hn6b dX8_run_78 ?_
    refine go_iload_n dX8_run_79 rfl ?_
    obtain ⟨k7, H⟩ := H
    refine go_putI (k := 12) ⟨by decide, rfl, by decide, rfl⟩ k7 rfl (Or.inl rfl) fl_X8_124 dX8_run_80 ?_
    show go_W mt_X8_run fr_C 83 [some (pv_r a0), some (pv_r a1), some (pv_i x2), some (pv_i x3), some (pv_i x4), none] [] (mm_pi M (mm_r M (mm_r M (mm_r M (mm_r M a0 0) 1) 0) n6) 12 x3) (qv_ P)
    obtain ⟨M8, hM8⟩ : ∃ M', M' = mm_pi M (mm_r M (mm_r M (mm_r M (mm_r M a0 0) 1) 0) n6) 12 x3 := ⟨_, rfl⟩
    have k9 : mm_k M8 a0 = (8, 8) := (by rw [hM8]; exact K0)
    have k10 : mm_k M8 (mm_r M a0 0) = (0, 4) := (by rw [hM8]; exact k1)
    have k11 : mm_k M8 (mm_r M (mm_r M a0 0) 1) = (4, 2) := (by rw [hM8]; exact k2)
    have k12 : mm_k M8 (mm_r M (mm_r M (mm_r M (mm_r M a0 0) 1) 0) n6) = (6, 17) := (by rw [hM8]; exact k7)
    have k13 : ak_ M8 (mm_r M (mm_r M (mm_r M a0 0) 1) 0) 3 l3 := (by rw [hM8]; exact k4)
    rw [← hM8]
    replace H := H M8 hM8
    refine go_iincN (n := n6) (k := 1) hn6 (by decide) rfl rfl dX8_run_83 ?_
    show go_W mt_X8_run fr_C 86 [some (pv_r a0), some (pv_r a1), some (pv_i x2), some (pv_i x3), some (pv_i (nI (n6 + 1))), none] [] M8 (qv_ P)
    refine go_goto (tgt := 51) dX8_run_86 (by decide) ?_
    exact H
set_option maxRecDepth 20000 in
theorem wc_X8_run_92 {M : mm_T} {a0 a1 : Nat} {x2 x3 x4 : Int32} {P : mm_T → Prop} (K0 : mm_k M a0 = (8, 8)) (H : ((((96 : Int32) < x4) → P M) ∧ ((¬ (96 : Int32) < x4) → cs_v mt_X8_completeEnding [pv_r a0] M (fun M1 => cs_v mt_X8_wakeDue [pv_r a0] M1 (fun M3 => cs_v mt_X8_serveFree [pv_r a0] M3 (fun M5 => cs_i mt_X8_nextTick [pv_r a0] M5 (fun v8 M7 => (((¬ v8 = (-1 : Int32)) → ∀ M10, M10 = mm_pi M7 a0 6 (mm_i M7 a0 6 + (mm_i M7 a0 5 * ((v8 - mm_i M7 a0 3) - mm_i M7 a0 4))) → ∀ M12, M12 = mm_pi M10 a0 4 (v8 - mm_i M10 a0 3) → cw_v mt_X8_run 92 [some (pv_r a0), some (pv_r a1), some (pv_i x2), some (pv_i x3), some (pv_i (x4 + (1 : Int32))), none] [] M12 P) ∧ ((v8 = (-1 : Int32)) → P M7))))))))) : cw_v mt_X8_run 92 [some (pv_r a0), some (pv_r a1), some (pv_i x2), some (pv_i x3), some (pv_i x4), none] [] M P := by
  refine go_iload dX8_run_92 rfl ?_
  refine go_bipush (v := (96 : Int32)) rfl dX8_run_94 ?_
  refine go_icmp_gt (tgt := 169) dX8_run_96 (by decide) (fun hc => ?_) (fun hc => ?_)
  · replace H := H.1 hc
    exact go_vret rfl dX8_run_169 ⟨rfl, H⟩
  · replace H := H.2 hc
    refine go_aload_n dX8_run_99 rfl ?_
    refine go_V (av := []) (st := []) (ci := 8) ok_X8_completeEnding ⟨by decide, by decide⟩ ml_X8_127 rfl (by decide) (fun v hv => absurd hv List.not_mem_nil) (Nat.le_of_ble_eq_true rfl) (fun _ h => h) (by decide) rfl K0 dX8_run_100 H (fun r M1 hq hS => ?_)
    obtain ⟨rfl, H⟩ := hq
    have k2 : mm_k M1 a0 = (8, 8) := ks_S K0 (by decide) hS
    show go_W mt_X8_run fr_C 103 [some (pv_r a0), some (pv_r a1), some (pv_i x2), some (pv_i x3), some (pv_i x4), none] [] M1 (qv_ P)
    refine go_aload_n dX8_run_103 rfl ?_
    refine go_V (av := []) (st := []) (ci := 8) ok_X8_wakeDue ⟨by decide, by decide⟩ ml_X8_130 rfl (by decide) (fun v hv => absurd hv List.not_mem_nil) (Nat.le_of_ble_eq_true rfl) (fun _ h => h) (by decide) rfl k2 dX8_run_104 H (fun r M3 hq hS => ?_)
    obtain ⟨rfl, H⟩ := hq
    have k4 : mm_k M3 a0 = (8, 8) := ks_S k2 (by decide) hS
    show go_W mt_X8_run fr_C 107 [some (pv_r a0), some (pv_r a1), some (pv_i x2), some (pv_i x3), some (pv_i x4), none] [] M3 (qv_ P)
    refine go_aload_n dX8_run_107 rfl ?_
    refine go_V (av := []) (st := []) (ci := 8) ok_X8_serveFree ⟨by decide, by decide⟩ ml_X8_133 rfl (by decide) (fun v hv => absurd hv List.not_mem_nil) (Nat.le_of_ble_eq_true rfl) (fun _ h => h) (by decide) rfl k4 dX8_run_108 H (fun r M5 hq hS => ?_)
    obtain ⟨rfl, H⟩ := hq
    have k6 : mm_k M5 a0 = (8, 8) := ks_S k4 (by decide) hS
    show go_W mt_X8_run fr_C 111 [some (pv_r a0), some (pv_r a1), some (pv_i x2), some (pv_i x3), some (pv_i x4), none] [] M5 (qv_ P)
    refine go_aload_n dX8_run_111 rfl ?_
    refine go_V (av := []) (st := []) (ci := 8) ok_X8_nextTick ⟨by decide, by decide⟩ ml_X8_136 rfl (by decide) (fun v hv => absurd hv List.not_mem_nil) (Nat.le_of_ble_eq_true rfl) (fun _ h => h) (by decide) rfl k6 dX8_run_112 H (fun r M7 hq hS => ?_)
    obtain ⟨v8, rfl, H⟩ := hq
    have k9 : mm_k M7 a0 = (8, 8) := ks_S k6 (by decide) hS
    show go_W mt_X8_run fr_C 115 [some (pv_r a0), some (pv_r a1), some (pv_i x2), some (pv_i x3), some (pv_i x4), none] [pv_i v8] M7 (qv_ P)
    refine go_istore (by decide) dX8_run_115 ?_
    show go_W mt_X8_run fr_C 117 [some (pv_r a0), some (pv_r a1), some (pv_i x2), some (pv_i x3), some (pv_i x4), some (pv_i v8)] [] M7 (qv_ P)
    refine go_iload dX8_run_117 rfl ?_
    refine go_iconst (v := (-1 : Int32)) rfl dX8_run_119 ?_
    refine go_icmp_ne (tgt := 126) dX8_run_120 (by decide) (fun hc => ?_) (fun hc => ?_)
    · replace H := H.1 hc
      refine go_aload_n dX8_run_126 rfl ?_
      refine go_dup pv_1r dX8_run_127 ?_
      refine go_getI (k := 6) ⟨by decide, rfl, by decide, rfl⟩ k9 fl_X8_109 dX8_run_128 ?_
      refine go_aload_n dX8_run_131 rfl ?_
      refine go_getI (k := 5) ⟨by decide, rfl, by decide, rfl⟩ k9 fl_X8_121 dX8_run_132 ?_
      refine go_iload dX8_run_135 rfl ?_
      refine go_aload_n dX8_run_137 rfl ?_
      refine go_getI (k := 3) ⟨by decide, rfl, by decide, rfl⟩ k9 fl_X8_103 dX8_run_138 ?_
      refine go_isub dX8_run_141 ?_
      refine go_aload_n dX8_run_142 rfl ?_
      refine go_getI (k := 4) ⟨by decide, rfl, by decide, rfl⟩ k9 fl_X8_106 dX8_run_143 ?_
      refine go_isub dX8_run_146 ?_
      refine go_imul dX8_run_147 ?_
      refine go_iadd dX8_run_148 ?_
      refine go_putI (k := 6) ⟨by decide, rfl, by decide, rfl⟩ k9 rfl (Or.inl rfl) fl_X8_109 dX8_run_149 ?_
      show go_W mt_X8_run fr_C 152 [some (pv_r a0), some (pv_r a1), some (pv_i x2), some (pv_i x3), some (pv_i x4), some (pv_i v8)] [] (mm_pi M7 a0 6 (mm_i M7 a0 6 + (mm_i M7 a0 5 * ((v8 - mm_i M7 a0 3) - mm_i M7 a0 4)))) (qv_ P)
      obtain ⟨M10, hM10⟩ : ∃ M', M' = mm_pi M7 a0 6 (mm_i M7 a0 6 + (mm_i M7 a0 5 * ((v8 - mm_i M7 a0 3) - mm_i M7 a0 4))) := ⟨_, rfl⟩
      have k11 : mm_k M10 a0 = (8, 8) := (by rw [hM10]; exact k9)
      rw [← hM10]
      replace H := H M10 hM10
      refine go_aload_n dX8_run_152 rfl ?_
      refine go_iload dX8_run_153 rfl ?_
      refine go_aload_n dX8_run_155 rfl ?_
      refine go_getI (k := 3) ⟨by decide, rfl, by decide, rfl⟩ k11 fl_X8_103 dX8_run_156 ?_
      refine go_isub dX8_run_159 ?_
      refine go_putI (k := 4) ⟨by decide, rfl, by decide, rfl⟩ k11 rfl (Or.inl rfl) fl_X8_106 dX8_run_160 ?_
      show go_W mt_X8_run fr_C 163 [some (pv_r a0), some (pv_r a1), some (pv_i x2), some (pv_i x3), some (pv_i x4), some (pv_i v8)] [] (mm_pi M10 a0 4 (v8 - mm_i M10 a0 3)) (qv_ P)
      obtain ⟨M12, hM12⟩ : ∃ M', M' = mm_pi M10 a0 4 (v8 - mm_i M10 a0 3) := ⟨_, rfl⟩
      have k13 : mm_k M12 a0 = (8, 8) := (by rw [hM12]; exact k11)
      rw [← hM12]
      replace H := H M12 hM12
      refine go_iinc (v := (1 : Int32)) (by decide) rfl rfl dX8_run_163 ?_
      show go_W mt_X8_run fr_C 166 [some (pv_r a0), some (pv_r a1), some (pv_i x2), some (pv_i x3), some (pv_i (x4 + (1 : Int32))), some (pv_i v8)] [] M12 (qv_ P)
      refine go_goto (tgt := 92) dX8_run_166 (by decide) ?_
      exact go_fg (ls' := [some (pv_r a0), some (pv_r a1), some (pv_i x2), some (pv_i x3), some (pv_i (x4 + (1 : Int32))), none]) ⟨rfl, ⟨rfl, ⟨rfl, ⟨rfl, ⟨rfl, trivial⟩⟩⟩⟩⟩ H
    · replace H := H.2 hc
      refine go_goto (tgt := 169) dX8_run_123 (by decide) ?_
      exact go_vret rfl dX8_run_169 ⟨rfl, H⟩
set_option maxRecDepth 20000 in
theorem wc_X8_completeEnding_0 {M : mm_T} {a0 : Nat} {P : mm_T → Prop} (K0 : mm_k M a0 = (8, 8)) (H : cw_v mt_X8_completeEnding 2 [some (pv_r a0), some (pv_i (0 : Int32)), none] [] M P) : cw_v mt_X8_completeEnding 0 [some (pv_r a0), none, none] [] M P := by
  refine go_iconst (v := (0 : Int32)) rfl dX8_completeEnding_0 ?_
  refine go_istore_n (by decide) dX8_completeEnding_1 ?_
  show go_W mt_X8_completeEnding fr_C 2 [some (pv_r a0), some (pv_i (0 : Int32)), none] [] M (qv_ P)
  exact H
set_option maxRecDepth 20000 in
theorem wc_X8_completeEnding_2 {M : mm_T} {a0 : Nat} {x1 : Int32} {P : mm_T → Prop} (K0 : mm_k M a0 = (8, 8)) (H : ((((48 : Int32) ≤ x1) → P M) ∧ ((¬ (48 : Int32) ≤ x1) → mm_k M (mm_r M a0 0) = (0, 4) ∧ (cs_r mt_X0_firstEnding [pv_r (mm_r M a0 0), pv_i (mm_i M a0 3 + mm_i M a0 4)] M (fun v3 M2 => (((¬ v3 = 0) → mm_k M2 (mm_r M2 a0 0) = (0, 4) ∧ (cs_v mt_X0_change [pv_r (mm_r M2 a0 0), pv_r v3, pv_i (4 : Int32)] M2 (fun M7 => ∀ M11, M11 = mm_pi M7 a0 5 (mm_i M7 a0 5 + (1 : Int32)) → mm_k M11 v3 = (6, 17) ∧ (∀ M16, M16 = mm_pi M11 a0 7 (mm_i M11 v3 0) → mm_k M16 (mm_r M16 v3 2) = (3, 14) ∧ (∃ l22, ak_ M16 (mm_r M16 a0 2) 0 l22 ∧ (∃ n25, (mm_i M16 (mm_r M16 v3 2) 0 = nI n25 ∧ n25 < l22) ∧ (∀ M26, M26 = mm_pi M16 (mm_r M16 a0 2) n25 (mm_i M16 a0 4) → cs_v mt_X8_releaseBehind [pv_r a0, pv_r v3] M26 (fun M33 => cw_v mt_X8_completeEnding 2 [some (pv_r a0), some (pv_i (x1 + (1 : Int32))), none] [] M33 P)))))))) ∧ ((v3 = 0) → P M2))))))) : cw_v mt_X8_completeEnding 2 [some (pv_r a0), some (pv_i x1), none] [] M P := by
  refine go_iload_n dX8_completeEnding_2 rfl ?_
  refine go_bipush (v := (48 : Int32)) rfl dX8_completeEnding_3 ?_
  refine go_icmp_ge (tgt := 86) dX8_completeEnding_5 (by decide) (fun hc => ?_) (fun hc => ?_)
  · replace H := H.1 hc
    exact go_vret rfl dX8_completeEnding_86 ⟨rfl, H⟩
  · replace H := H.2 hc
    refine go_aload_n dX8_completeEnding_8 rfl ?_
    refine go_getR (k := 0) ⟨by decide, rfl, by decide, Or.inl ⟨_, rfl⟩⟩ K0 fl_X8_12 dX8_completeEnding_9 ?_
    refine go_aload_n dX8_completeEnding_12 rfl ?_
    refine go_getI (k := 3) ⟨by decide, rfl, by decide, rfl⟩ K0 fl_X8_103 dX8_completeEnding_13 ?_
    refine go_aload_n dX8_completeEnding_16 rfl ?_
    refine go_getI (k := 4) ⟨by decide, rfl, by decide, rfl⟩ K0 fl_X8_106 dX8_completeEnding_17 ?_
    refine go_iadd dX8_completeEnding_20 ?_
    obtain ⟨k1, H⟩ := H
    refine go_V (av := [pv_i (mm_i M a0 3 + mm_i M a0 4)]) (st := []) (ci := 0) ok_X0_firstEnding ⟨by decide, by decide⟩ ml_X8_140 rfl (by decide) (fun v hv => by simp only [List.mem_cons, List.not_mem_nil, or_false] at hv; rcases hv with rfl <;> first | exact pv_1i | exact pv_1r) (Nat.le_of_ble_eq_true rfl) (fun _ h => h) (by decide) rfl k1 dX8_completeEnding_21 H (fun r M2 hq hS => ?_)
    obtain ⟨v3, rfl, H⟩ := hq
    have k4 : mm_k M2 a0 = (8, 8) := ks_S K0 (by decide) hS
    have k5 : mm_k M2 (mm_r M a0 0) = (0, 4) := ks_S k1 (by decide) hS
    show go_W mt_X8_completeEnding fr_C 24 [some (pv_r a0), some (pv_i x1), none] [pv_r v3] M2 (qv_ P)
    refine go_astore_n (by decide) dX8_completeEnding_24 ?_
    show go_W mt_X8_completeEnding fr_C 25 [some (pv_r a0), some (pv_i x1), some (pv_r v3)] [] M2 (qv_ P)
    refine go_aload_n dX8_completeEnding_25 rfl ?_
    refine go_ifnonnull (tgt := 32) dX8_completeEnding_26 (by decide) (fun hc => ?_) (fun hc => ?_)
    · replace H := H.1 hc
      refine go_aload_n dX8_completeEnding_32 rfl ?_
      refine go_getR (k := 0) ⟨by decide, rfl, by decide, Or.inl ⟨_, rfl⟩⟩ k4 fl_X8_12 dX8_completeEnding_33 ?_
      refine go_aload_n dX8_completeEnding_36 rfl ?_
      refine go_iconst (v := (4 : Int32)) rfl dX8_completeEnding_37 ?_
      obtain ⟨k6, H⟩ := H
      refine go_V (av := [pv_r v3, pv_i (4 : Int32)]) (st := []) (ci := 0) ok_X0_change ⟨by decide, by decide⟩ ml_X8_143 rfl (by decide) (fun v hv => by simp only [List.mem_cons, List.not_mem_nil, or_false] at hv; rcases hv with rfl | rfl <;> first | exact pv_1i | exact pv_1r) (Nat.le_of_ble_eq_true rfl) (fun _ h => h) (by decide) rfl k6 dX8_completeEnding_38 H (fun r M7 hq hS => ?_)
      obtain ⟨rfl, H⟩ := hq
      have k8 : mm_k M7 a0 = (8, 8) := ks_S k4 (by decide) hS
      have k9 : mm_k M7 (mm_r M a0 0) = (0, 4) := ks_S k5 (by decide) hS
      have k10 : mm_k M7 (mm_r M2 a0 0) = (0, 4) := ks_S k6 (by decide) hS
      show go_W mt_X8_completeEnding fr_C 41 [some (pv_r a0), some (pv_i x1), some (pv_r v3)] [] M7 (qv_ P)
      refine go_aload_n dX8_completeEnding_41 rfl ?_
      refine go_dup pv_1r dX8_completeEnding_42 ?_
      refine go_getI (k := 5) ⟨by decide, rfl, by decide, rfl⟩ k8 fl_X8_121 dX8_completeEnding_43 ?_
      refine go_iconst (v := (1 : Int32)) rfl dX8_completeEnding_46 ?_
      refine go_iadd dX8_completeEnding_47 ?_
      refine go_putI (k := 5) ⟨by decide, rfl, by decide, rfl⟩ k8 rfl (Or.inl rfl) fl_X8_121 dX8_completeEnding_48 ?_
      show go_W mt_X8_completeEnding fr_C 51 [some (pv_r a0), some (pv_i x1), some (pv_r v3)] [] (mm_pi M7 a0 5 (mm_i M7 a0 5 + (1 : Int32))) (qv_ P)
      obtain ⟨M11, hM11⟩ : ∃ M', M' = mm_pi M7 a0 5 (mm_i M7 a0 5 + (1 : Int32)) := ⟨_, rfl⟩
      have k12 : mm_k M11 a0 = (8, 8) := (by rw [hM11]; exact k8)
      have k13 : mm_k M11 (mm_r M a0 0) = (0, 4) := (by rw [hM11]; exact k9)
      have k14 : mm_k M11 (mm_r M2 a0 0) = (0, 4) := (by rw [hM11]; exact k10)
      rw [← hM11]
      replace H := H M11 hM11
      refine go_aload_n dX8_completeEnding_51 rfl ?_
      refine go_aload_n dX8_completeEnding_52 rfl ?_
      obtain ⟨k15, H⟩ := H
      refine go_getI (k := 0) ⟨by decide, rfl, by decide, rfl⟩ k15 fl_X8_95 dX8_completeEnding_53 ?_
      refine go_putI (k := 7) ⟨by decide, rfl, by decide, rfl⟩ k12 rfl (Or.inl rfl) fl_X8_112 dX8_completeEnding_56 ?_
      show go_W mt_X8_completeEnding fr_C 59 [some (pv_r a0), some (pv_i x1), some (pv_r v3)] [] (mm_pi M11 a0 7 (mm_i M11 v3 0)) (qv_ P)
      obtain ⟨M16, hM16⟩ : ∃ M', M' = mm_pi M11 a0 7 (mm_i M11 v3 0) := ⟨_, rfl⟩
      have k17 : mm_k M16 a0 = (8, 8) := (by rw [hM16]; exact k12)
      have k18 : mm_k M16 (mm_r M a0 0) = (0, 4) := (by rw [hM16]; exact k13)
      have k19 : mm_k M16 (mm_r M2 a0 0) = (0, 4) := (by rw [hM16]; exact k14)
      have k20 : mm_k M16 v3 = (6, 17) := (by rw [hM16]; exact k15)
      rw [← hM16]
      replace H := H M16 hM16
      refine go_aload_n dX8_completeEnding_59 rfl ?_
      refine go_getR (k := 2) ⟨by decide, rfl, by decide, Or.inr ⟨_, rfl⟩⟩ k17 fl_X8_24 dX8_completeEnding_60 ?_
      refine go_aload_n dX8_completeEnding_63 rfl ?_
      refine go_getR (k := 2) ⟨by decide, rfl, by decide, Or.inl ⟨_, rfl⟩⟩ k20 fl_X8_69 dX8_completeEnding_64 ?_
      obtain ⟨k21, H⟩ := H
      refine go_getI (k := 0) ⟨by decide, rfl, by decide, rfl⟩ k21 fl_X8_73 dX8_completeEnding_67 ?_
      refine go_aload_n dX8_completeEnding_70 rfl ?_
      refine go_getI (k := 4) ⟨by decide, rfl, by decide, rfl⟩ k17 fl_X8_106 dX8_completeEnding_71 ?_
      obtain ⟨l22, k23, H⟩ := H
      obtain ⟨n25, ⟨hn25, hn25b⟩, H⟩ := H
      refine go_iastA (j := n25) k23 hn25 hn25b dX8_completeEnding_74 ?_
      show go_W mt_X8_completeEnding fr_C 75 [some (pv_r a0), some (pv_i x1), some (pv_r v3)] [] (mm_pi M16 (mm_r M16 a0 2) n25 (mm_i M16 a0 4)) (qv_ P)
      obtain ⟨M26, hM26⟩ : ∃ M', M' = mm_pi M16 (mm_r M16 a0 2) n25 (mm_i M16 a0 4) := ⟨_, rfl⟩
      have k27 : mm_k M26 a0 = (8, 8) := (by rw [hM26]; exact k17)
      have k28 : mm_k M26 (mm_r M a0 0) = (0, 4) := (by rw [hM26]; exact k18)
      have k29 : mm_k M26 (mm_r M2 a0 0) = (0, 4) := (by rw [hM26]; exact k19)
      have k30 : mm_k M26 v3 = (6, 17) := (by rw [hM26]; exact k20)
      have k31 : mm_k M26 (mm_r M16 v3 2) = (3, 14) := (by rw [hM26]; exact k21)
      have k32 : ak_ M26 (mm_r M16 a0 2) 0 l22 := (by rw [hM26]; exact k23)
      rw [← hM26]
      replace H := H M26 hM26
      refine go_aload_n dX8_completeEnding_75 rfl ?_
      refine go_aload_n dX8_completeEnding_76 rfl ?_
      refine go_V (av := [pv_r v3]) (st := []) (ci := 8) ok_X8_releaseBehind ⟨by decide, by decide⟩ ml_X8_147 rfl (by decide) (fun v hv => by simp only [List.mem_cons, List.not_mem_nil, or_false] at hv; rcases hv with rfl <;> first | exact pv_1i | exact pv_1r) (Nat.le_of_ble_eq_true rfl) (fun _ h => h) (by decide) rfl k27 dX8_completeEnding_77 H (fun r M33 hq hS => ?_)
      obtain ⟨rfl, H⟩ := hq
      have k34 : mm_k M33 a0 = (8, 8) := ks_S k27 (by decide) hS
      have k35 : mm_k M33 (mm_r M a0 0) = (0, 4) := ks_S k28 (by decide) hS
      have k36 : mm_k M33 (mm_r M2 a0 0) = (0, 4) := ks_S k29 (by decide) hS
      have k37 : mm_k M33 v3 = (6, 17) := ks_S k30 (by decide) hS
      have k38 : mm_k M33 (mm_r M16 v3 2) = (3, 14) := ks_S k31 (by decide) hS
      have k39 : ak_ M33 (mm_r M16 a0 2) 0 l22 := ak_S k32 hS
      show go_W mt_X8_completeEnding fr_C 80 [some (pv_r a0), some (pv_i x1), some (pv_r v3)] [] M33 (qv_ P)
      refine go_iinc (v := (1 : Int32)) (by decide) rfl rfl dX8_completeEnding_80 ?_
      show go_W mt_X8_completeEnding fr_C 83 [some (pv_r a0), some (pv_i (x1 + (1 : Int32))), some (pv_r v3)] [] M33 (qv_ P)
      refine go_goto (tgt := 2) dX8_completeEnding_83 (by decide) ?_
      exact go_fg (ls' := [some (pv_r a0), some (pv_i (x1 + (1 : Int32))), none]) ⟨rfl, ⟨rfl, trivial⟩⟩ H
    · replace H := H.2 hc
      refine go_goto (tgt := 86) dX8_completeEnding_29 (by decide) ?_
      exact go_vret rfl dX8_completeEnding_86 ⟨rfl, H⟩
set_option maxRecDepth 20000 in
theorem wc_X8_releaseBehind_0 {M : mm_T} {a0 a1 : Nat} {P : mm_T → Prop} (K0 : mm_k M a0 = (8, 8)) (H : cw_v mt_X8_releaseBehind 2 [some (pv_r a0), some (pv_r a1), some (pv_i (0 : Int32)), none] [] M P) : cw_v mt_X8_releaseBehind 0 [some (pv_r a0), some (pv_r a1), none, none] [] M P := by
  refine go_iconst (v := (0 : Int32)) rfl dX8_releaseBehind_0 ?_
  refine go_istore_n (by decide) dX8_releaseBehind_1 ?_
  show go_W mt_X8_releaseBehind fr_C 2 [some (pv_r a0), some (pv_r a1), some (pv_i (0 : Int32)), none] [] M (qv_ P)
  exact H
set_option maxRecDepth 20000 in
theorem wc_X8_releaseBehind_2 {M : mm_T} {a0 a1 : Nat} {x2 : Int32} {P : mm_T → Prop} (K0 : mm_k M a0 = (8, 8)) (H : ((((48 : Int32) ≤ x2) → P M) ∧ ((¬ (48 : Int32) ≤ x2) → mm_k M (mm_r M a0 0) = (0, 4) ∧ (cs_r mt_X0_heldBehind [pv_r (mm_r M a0 0), pv_r a1] M (fun v3 M2 => (((¬ v3 = 0) → mm_k M2 (mm_r M2 a0 0) = (0, 4) ∧ (cs_v mt_X0_awaitTurn [pv_r (mm_r M2 a0 0), pv_r v3] M2 (fun M7 => cw_v mt_X8_releaseBehind 2 [some (pv_r a0), some (pv_r a1), some (pv_i (x2 + (1 : Int32))), none] [] M7 P))) ∧ ((v3 = 0) → P M2))))))) : cw_v mt_X8_releaseBehind 2 [some (pv_r a0), some (pv_r a1), some (pv_i x2), none] [] M P := by
  refine go_iload_n dX8_releaseBehind_2 rfl ?_
  refine go_bipush (v := (48 : Int32)) rfl dX8_releaseBehind_3 ?_
  refine go_icmp_ge (tgt := 38) dX8_releaseBehind_5 (by decide) (fun hc => ?_) (fun hc => ?_)
  · replace H := H.1 hc
    exact go_vret rfl dX8_releaseBehind_38 ⟨rfl, H⟩
  · replace H := H.2 hc
    refine go_aload_n dX8_releaseBehind_8 rfl ?_
    refine go_getR (k := 0) ⟨by decide, rfl, by decide, Or.inl ⟨_, rfl⟩⟩ K0 fl_X8_12 dX8_releaseBehind_9 ?_
    refine go_aload_n dX8_releaseBehind_12 rfl ?_
    obtain ⟨k1, H⟩ := H
    refine go_V (av := [pv_r a1]) (st := []) (ci := 0) ok_X0_heldBehind ⟨by decide, by decide⟩ ml_X8_150 rfl (by decide) (fun v hv => by simp only [List.mem_cons, List.not_mem_nil, or_false] at hv; rcases hv with rfl <;> first | exact pv_1i | exact pv_1r) (Nat.le_of_ble_eq_true rfl) (fun _ h => h) (by decide) rfl k1 dX8_releaseBehind_13 H (fun r M2 hq hS => ?_)
    obtain ⟨v3, rfl, H⟩ := hq
    have k4 : mm_k M2 a0 = (8, 8) := ks_S K0 (by decide) hS
    have k5 : mm_k M2 (mm_r M a0 0) = (0, 4) := ks_S k1 (by decide) hS
    show go_W mt_X8_releaseBehind fr_C 16 [some (pv_r a0), some (pv_r a1), some (pv_i x2), none] [pv_r v3] M2 (qv_ P)
    refine go_astore_n (by decide) dX8_releaseBehind_16 ?_
    show go_W mt_X8_releaseBehind fr_C 17 [some (pv_r a0), some (pv_r a1), some (pv_i x2), some (pv_r v3)] [] M2 (qv_ P)
    refine go_aload_n dX8_releaseBehind_17 rfl ?_
    refine go_ifnonnull (tgt := 24) dX8_releaseBehind_18 (by decide) (fun hc => ?_) (fun hc => ?_)
    · replace H := H.1 hc
      refine go_aload_n dX8_releaseBehind_24 rfl ?_
      refine go_getR (k := 0) ⟨by decide, rfl, by decide, Or.inl ⟨_, rfl⟩⟩ k4 fl_X8_12 dX8_releaseBehind_25 ?_
      refine go_aload_n dX8_releaseBehind_28 rfl ?_
      obtain ⟨k6, H⟩ := H
      refine go_V (av := [pv_r v3]) (st := []) (ci := 0) ok_X0_awaitTurn ⟨by decide, by decide⟩ ml_X8_154 rfl (by decide) (fun v hv => by simp only [List.mem_cons, List.not_mem_nil, or_false] at hv; rcases hv with rfl <;> first | exact pv_1i | exact pv_1r) (Nat.le_of_ble_eq_true rfl) (fun _ h => h) (by decide) rfl k6 dX8_releaseBehind_29 H (fun r M7 hq hS => ?_)
      obtain ⟨rfl, H⟩ := hq
      have k8 : mm_k M7 a0 = (8, 8) := ks_S k4 (by decide) hS
      have k9 : mm_k M7 (mm_r M a0 0) = (0, 4) := ks_S k5 (by decide) hS
      have k10 : mm_k M7 (mm_r M2 a0 0) = (0, 4) := ks_S k6 (by decide) hS
      show go_W mt_X8_releaseBehind fr_C 32 [some (pv_r a0), some (pv_r a1), some (pv_i x2), some (pv_r v3)] [] M7 (qv_ P)
      refine go_iinc (v := (1 : Int32)) (by decide) rfl rfl dX8_releaseBehind_32 ?_
      show go_W mt_X8_releaseBehind fr_C 35 [some (pv_r a0), some (pv_r a1), some (pv_i (x2 + (1 : Int32))), some (pv_r v3)] [] M7 (qv_ P)
      refine go_goto (tgt := 2) dX8_releaseBehind_35 (by decide) ?_
      exact go_fg (ls' := [some (pv_r a0), some (pv_r a1), some (pv_i (x2 + (1 : Int32))), none]) ⟨rfl, ⟨rfl, ⟨rfl, trivial⟩⟩⟩ H
    · replace H := H.2 hc
      refine go_goto (tgt := 38) dX8_releaseBehind_21 (by decide) ?_
      exact go_vret rfl dX8_releaseBehind_38 ⟨rfl, H⟩
set_option maxRecDepth 20000 in
theorem wc_X8_wakeDue_0 {M : mm_T} {a0 : Nat} {P : mm_T → Prop} (K0 : mm_k M a0 = (8, 8)) (H : cw_v mt_X8_wakeDue 2 [some (pv_r a0), some (pv_i (0 : Int32)), none] [] M P) : cw_v mt_X8_wakeDue 0 [some (pv_r a0), none, none] [] M P := by
  refine go_iconst (v := (0 : Int32)) rfl dX8_wakeDue_0 ?_
  refine go_istore_n (by decide) dX8_wakeDue_1 ?_
  show go_W mt_X8_wakeDue fr_C 2 [some (pv_r a0), some (pv_i (0 : Int32)), none] [] M (qv_ P)
  exact H
set_option maxRecDepth 20000 in
theorem wc_X8_wakeDue_2 {M : mm_T} {a0 : Nat} {x1 : Int32} {P : mm_T → Prop} (K0 : mm_k M a0 = (8, 8)) (H : ((((48 : Int32) ≤ x1) → P M) ∧ ((¬ (48 : Int32) ≤ x1) → mm_k M (mm_r M a0 0) = (0, 4) ∧ (cs_r mt_X0_firstDue [pv_r (mm_r M a0 0), pv_i (mm_i M a0 3 + mm_i M a0 4)] M (fun v3 M2 => (((¬ v3 = 0) → mm_k M2 (mm_r M2 a0 0) = (0, 4) ∧ (cs_v mt_X0_awaitTurn [pv_r (mm_r M2 a0 0), pv_r v3] M2 (fun M7 => cw_v mt_X8_wakeDue 2 [some (pv_r a0), some (pv_i (x1 + (1 : Int32))), none] [] M7 P))) ∧ ((v3 = 0) → P M2))))))) : cw_v mt_X8_wakeDue 2 [some (pv_r a0), some (pv_i x1), none] [] M P := by
  refine go_iload_n dX8_wakeDue_2 rfl ?_
  refine go_bipush (v := (48 : Int32)) rfl dX8_wakeDue_3 ?_
  refine go_icmp_ge (tgt := 46) dX8_wakeDue_5 (by decide) (fun hc => ?_) (fun hc => ?_)
  · replace H := H.1 hc
    exact go_vret rfl dX8_wakeDue_46 ⟨rfl, H⟩
  · replace H := H.2 hc
    refine go_aload_n dX8_wakeDue_8 rfl ?_
    refine go_getR (k := 0) ⟨by decide, rfl, by decide, Or.inl ⟨_, rfl⟩⟩ K0 fl_X8_12 dX8_wakeDue_9 ?_
    refine go_aload_n dX8_wakeDue_12 rfl ?_
    refine go_getI (k := 3) ⟨by decide, rfl, by decide, rfl⟩ K0 fl_X8_103 dX8_wakeDue_13 ?_
    refine go_aload_n dX8_wakeDue_16 rfl ?_
    refine go_getI (k := 4) ⟨by decide, rfl, by decide, rfl⟩ K0 fl_X8_106 dX8_wakeDue_17 ?_
    refine go_iadd dX8_wakeDue_20 ?_
    obtain ⟨k1, H⟩ := H
    refine go_V (av := [pv_i (mm_i M a0 3 + mm_i M a0 4)]) (st := []) (ci := 0) ok_X0_firstDue ⟨by decide, by decide⟩ ml_X8_157 rfl (by decide) (fun v hv => by simp only [List.mem_cons, List.not_mem_nil, or_false] at hv; rcases hv with rfl <;> first | exact pv_1i | exact pv_1r) (Nat.le_of_ble_eq_true rfl) (fun _ h => h) (by decide) rfl k1 dX8_wakeDue_21 H (fun r M2 hq hS => ?_)
    obtain ⟨v3, rfl, H⟩ := hq
    have k4 : mm_k M2 a0 = (8, 8) := ks_S K0 (by decide) hS
    have k5 : mm_k M2 (mm_r M a0 0) = (0, 4) := ks_S k1 (by decide) hS
    show go_W mt_X8_wakeDue fr_C 24 [some (pv_r a0), some (pv_i x1), none] [pv_r v3] M2 (qv_ P)
    refine go_astore_n (by decide) dX8_wakeDue_24 ?_
    show go_W mt_X8_wakeDue fr_C 25 [some (pv_r a0), some (pv_i x1), some (pv_r v3)] [] M2 (qv_ P)
    refine go_aload_n dX8_wakeDue_25 rfl ?_
    refine go_ifnonnull (tgt := 32) dX8_wakeDue_26 (by decide) (fun hc => ?_) (fun hc => ?_)
    · replace H := H.1 hc
      refine go_aload_n dX8_wakeDue_32 rfl ?_
      refine go_getR (k := 0) ⟨by decide, rfl, by decide, Or.inl ⟨_, rfl⟩⟩ k4 fl_X8_12 dX8_wakeDue_33 ?_
      refine go_aload_n dX8_wakeDue_36 rfl ?_
      obtain ⟨k6, H⟩ := H
      refine go_V (av := [pv_r v3]) (st := []) (ci := 0) ok_X0_awaitTurn ⟨by decide, by decide⟩ ml_X8_154 rfl (by decide) (fun v hv => by simp only [List.mem_cons, List.not_mem_nil, or_false] at hv; rcases hv with rfl <;> first | exact pv_1i | exact pv_1r) (Nat.le_of_ble_eq_true rfl) (fun _ h => h) (by decide) rfl k6 dX8_wakeDue_37 H (fun r M7 hq hS => ?_)
      obtain ⟨rfl, H⟩ := hq
      have k8 : mm_k M7 a0 = (8, 8) := ks_S k4 (by decide) hS
      have k9 : mm_k M7 (mm_r M a0 0) = (0, 4) := ks_S k5 (by decide) hS
      have k10 : mm_k M7 (mm_r M2 a0 0) = (0, 4) := ks_S k6 (by decide) hS
      show go_W mt_X8_wakeDue fr_C 40 [some (pv_r a0), some (pv_i x1), some (pv_r v3)] [] M7 (qv_ P)
      refine go_iinc (v := (1 : Int32)) (by decide) rfl rfl dX8_wakeDue_40 ?_
      show go_W mt_X8_wakeDue fr_C 43 [some (pv_r a0), some (pv_i (x1 + (1 : Int32))), some (pv_r v3)] [] M7 (qv_ P)
      refine go_goto (tgt := 2) dX8_wakeDue_43 (by decide) ?_
      exact go_fg (ls' := [some (pv_r a0), some (pv_i (x1 + (1 : Int32))), none]) ⟨rfl, ⟨rfl, trivial⟩⟩ H
    · replace H := H.2 hc
      refine go_goto (tgt := 46) dX8_wakeDue_29 (by decide) ?_
      exact go_vret rfl dX8_wakeDue_46 ⟨rfl, H⟩
set_option maxRecDepth 20000 in
theorem wc_X8_serveFree_0 {M : mm_T} {a0 : Nat} {P : mm_T → Prop} (K0 : mm_k M a0 = (8, 8)) (H : cw_v mt_X8_serveFree 2 [some (pv_r a0), some (pv_i (0 : Int32)), none] [] M P) : cw_v mt_X8_serveFree 0 [some (pv_r a0), none, none] [] M P := by
  refine go_iconst (v := (0 : Int32)) rfl dX8_serveFree_0 ?_
  refine go_istore_n (by decide) dX8_serveFree_1 ?_
  show go_W mt_X8_serveFree fr_C 2 [some (pv_r a0), some (pv_i (0 : Int32)), none] [] M (qv_ P)
  exact H
set_option maxRecDepth 20000 in
theorem wc_X8_serveFree_2 {M : mm_T} {a0 : Nat} {x1 : Int32} {P : mm_T → Prop} (K0 : mm_k M a0 = (8, 8)) (H : ((((6 : Int32) ≤ x1) → P M) ∧ ((¬ (6 : Int32) ≤ x1) → (((mm_i M a0 5 ≤ 0) → P M) ∧ ((¬ mm_i M a0 5 ≤ 0) → mm_k M (mm_r M a0 0) = (0, 4) ∧ (cs_r mt_X0_serve [pv_r (mm_r M a0 0), pv_i (1 : Int32)] M (fun v3 M2 => (((¬ v3 = 0) → mm_k M2 v3 = (6, 17) ∧ (∀ M7, M7 = mm_pi M2 v3 12 ((mm_i M2 a0 3 + mm_i M2 a0 4) + mm_i M2 v3 4) → ∀ M11, M11 = mm_pi M7 a0 5 (mm_i M7 a0 5 - (1 : Int32)) → cw_v mt_X8_serveFree 2 [some (pv_r a0), some (pv_i (x1 + (1 : Int32))), none] [] M11 P)) ∧ ((v3 = 0) → P M2))))))))) : cw_v mt_X8_serveFree 2 [some (pv_r a0), some (pv_i x1), none] [] M P := by
  refine go_iload_n dX8_serveFree_2 rfl ?_
  refine go_bipush (v := (6 : Int32)) rfl dX8_serveFree_3 ?_
  refine go_icmp_ge (tgt := 65) dX8_serveFree_5 (by decide) (fun hc => ?_) (fun hc => ?_)
  · replace H := H.1 hc
    exact go_vret rfl dX8_serveFree_65 ⟨rfl, H⟩
  · replace H := H.2 hc
    refine go_aload_n dX8_serveFree_8 rfl ?_
    refine go_getI (k := 5) ⟨by decide, rfl, by decide, rfl⟩ K0 fl_X8_121 dX8_serveFree_9 ?_
    refine go_if_le (tgt := 65) dX8_serveFree_12 (by decide) (fun hc => ?_) (fun hc => ?_)
    · replace H := H.1 hc
      exact go_vret rfl dX8_serveFree_65 ⟨rfl, H⟩
    · replace H := H.2 hc
      refine go_aload_n dX8_serveFree_15 rfl ?_
      refine go_getR (k := 0) ⟨by decide, rfl, by decide, Or.inl ⟨_, rfl⟩⟩ K0 fl_X8_12 dX8_serveFree_16 ?_
      refine go_iconst (v := (1 : Int32)) rfl dX8_serveFree_19 ?_
      obtain ⟨k1, H⟩ := H
      refine go_V (av := [pv_i (1 : Int32)]) (st := []) (ci := 0) ok_X0_serve ⟨by decide, by decide⟩ ml_X8_91 rfl (by decide) (fun v hv => by simp only [List.mem_cons, List.not_mem_nil, or_false] at hv; rcases hv with rfl <;> first | exact pv_1i | exact pv_1r) (Nat.le_of_ble_eq_true rfl) (fun _ h => h) (by decide) rfl k1 dX8_serveFree_20 H (fun r M2 hq hS => ?_)
      obtain ⟨v3, rfl, H⟩ := hq
      have k4 : mm_k M2 a0 = (8, 8) := ks_S K0 (by decide) hS
      have k5 : mm_k M2 (mm_r M a0 0) = (0, 4) := ks_S k1 (by decide) hS
      show go_W mt_X8_serveFree fr_C 23 [some (pv_r a0), some (pv_i x1), none] [pv_r v3] M2 (qv_ P)
      refine go_astore_n (by decide) dX8_serveFree_23 ?_
      show go_W mt_X8_serveFree fr_C 24 [some (pv_r a0), some (pv_i x1), some (pv_r v3)] [] M2 (qv_ P)
      refine go_aload_n dX8_serveFree_24 rfl ?_
      refine go_ifnonnull (tgt := 31) dX8_serveFree_25 (by decide) (fun hc => ?_) (fun hc => ?_)
      · replace H := H.1 hc
        refine go_aload_n dX8_serveFree_31 rfl ?_
        refine go_aload_n dX8_serveFree_32 rfl ?_
        refine go_getI (k := 3) ⟨by decide, rfl, by decide, rfl⟩ k4 fl_X8_103 dX8_serveFree_33 ?_
        refine go_aload_n dX8_serveFree_36 rfl ?_
        refine go_getI (k := 4) ⟨by decide, rfl, by decide, rfl⟩ k4 fl_X8_106 dX8_serveFree_37 ?_
        refine go_iadd dX8_serveFree_40 ?_
        refine go_aload_n dX8_serveFree_41 rfl ?_
        obtain ⟨k6, H⟩ := H
        refine go_getI (k := 4) ⟨by decide, rfl, by decide, rfl⟩ k6 fl_X8_160 dX8_serveFree_42 ?_
        refine go_iadd dX8_serveFree_45 ?_
        refine go_putI (k := 12) ⟨by decide, rfl, by decide, rfl⟩ k6 rfl (Or.inl rfl) fl_X8_124 dX8_serveFree_46 ?_
        show go_W mt_X8_serveFree fr_C 49 [some (pv_r a0), some (pv_i x1), some (pv_r v3)] [] (mm_pi M2 v3 12 ((mm_i M2 a0 3 + mm_i M2 a0 4) + mm_i M2 v3 4)) (qv_ P)
        obtain ⟨M7, hM7⟩ : ∃ M', M' = mm_pi M2 v3 12 ((mm_i M2 a0 3 + mm_i M2 a0 4) + mm_i M2 v3 4) := ⟨_, rfl⟩
        have k8 : mm_k M7 a0 = (8, 8) := (by rw [hM7]; exact k4)
        have k9 : mm_k M7 (mm_r M a0 0) = (0, 4) := (by rw [hM7]; exact k5)
        have k10 : mm_k M7 v3 = (6, 17) := (by rw [hM7]; exact k6)
        rw [← hM7]
        replace H := H M7 hM7
        refine go_aload_n dX8_serveFree_49 rfl ?_
        refine go_dup pv_1r dX8_serveFree_50 ?_
        refine go_getI (k := 5) ⟨by decide, rfl, by decide, rfl⟩ k8 fl_X8_121 dX8_serveFree_51 ?_
        refine go_iconst (v := (1 : Int32)) rfl dX8_serveFree_54 ?_
        refine go_isub dX8_serveFree_55 ?_
        refine go_putI (k := 5) ⟨by decide, rfl, by decide, rfl⟩ k8 rfl (Or.inl rfl) fl_X8_121 dX8_serveFree_56 ?_
        show go_W mt_X8_serveFree fr_C 59 [some (pv_r a0), some (pv_i x1), some (pv_r v3)] [] (mm_pi M7 a0 5 (mm_i M7 a0 5 - (1 : Int32))) (qv_ P)
        obtain ⟨M11, hM11⟩ : ∃ M', M' = mm_pi M7 a0 5 (mm_i M7 a0 5 - (1 : Int32)) := ⟨_, rfl⟩
        have k12 : mm_k M11 a0 = (8, 8) := (by rw [hM11]; exact k8)
        have k13 : mm_k M11 (mm_r M a0 0) = (0, 4) := (by rw [hM11]; exact k9)
        have k14 : mm_k M11 v3 = (6, 17) := (by rw [hM11]; exact k10)
        rw [← hM11]
        replace H := H M11 hM11
        refine go_iinc (v := (1 : Int32)) (by decide) rfl rfl dX8_serveFree_59 ?_
        show go_W mt_X8_serveFree fr_C 62 [some (pv_r a0), some (pv_i (x1 + (1 : Int32))), some (pv_r v3)] [] M11 (qv_ P)
        refine go_goto (tgt := 2) dX8_serveFree_62 (by decide) ?_
        exact go_fg (ls' := [some (pv_r a0), some (pv_i (x1 + (1 : Int32))), none]) ⟨rfl, ⟨rfl, trivial⟩⟩ H
      · replace H := H.2 hc
        refine go_goto (tgt := 65) dX8_serveFree_28 (by decide) ?_
        exact go_vret rfl dX8_serveFree_65 ⟨rfl, H⟩
set_option maxRecDepth 20000 in
theorem wc_X8_nextTick_0 {M : mm_T} {a0 : Nat} {P : Int32 → mm_T → Prop} (K0 : mm_k M a0 = (8, 8)) (H : mm_k M (mm_r M a0 0) = (0, 4) ∧ (cs_r mt_X0_least [pv_r (mm_r M a0 0), pv_i (3 : Int32), pv_r 0] M (fun v3 M2 => mm_k M2 (mm_r M2 a0 0) = (0, 4) ∧ (cs_r mt_X0_least [pv_r (mm_r M2 a0 0), pv_i (2 : Int32), pv_r 0] M2 (fun v8 M7 => (((¬ v3 = 0) → (((¬ v8 = 0) → mm_k M7 v3 = (6, 17) ∧ (mm_k M7 v8 = (6, 17) ∧ (P (if mm_i M7 v8 9 < mm_i M7 v3 12 then mm_i M7 v8 9 else mm_i M7 v3 12) M7))) ∧ ((v8 = 0) → mm_k M7 v3 = (6, 17) ∧ (P (mm_i M7 v3 12) M7)))) ∧ ((v3 = 0) → (((¬ v8 = 0) → mm_k M7 v8 = (6, 17) ∧ (P (mm_i M7 v8 9) M7)) ∧ ((v8 = 0) → P (-1 : Int32) M7))))))))) : cw_i mt_X8_nextTick 0 [some (pv_r a0), none, none] [] M P := by
  refine go_aload_n dX8_nextTick_0 rfl ?_
  refine go_getR (k := 0) ⟨by decide, rfl, by decide, Or.inl ⟨_, rfl⟩⟩ K0 fl_X8_12 dX8_nextTick_1 ?_
  refine go_iconst (v := (3 : Int32)) rfl dX8_nextTick_4 ?_
  refine go_null dX8_nextTick_5 ?_
  obtain ⟨k1, H⟩ := H
  refine go_V (av := [pv_i (3 : Int32), pv_r 0]) (st := []) (ci := 0) ok_X0_least ⟨by decide, by decide⟩ ml_X8_161 rfl (by decide) (fun v hv => by simp only [List.mem_cons, List.not_mem_nil, or_false] at hv; rcases hv with rfl | rfl <;> first | exact pv_1i | exact pv_1r) (Nat.le_of_ble_eq_true rfl) (fun _ h => h) (by decide) rfl k1 dX8_nextTick_6 H (fun r M2 hq hS => ?_)
  obtain ⟨v3, rfl, H⟩ := hq
  have k4 : mm_k M2 a0 = (8, 8) := ks_S K0 (by decide) hS
  have k5 : mm_k M2 (mm_r M a0 0) = (0, 4) := ks_S k1 (by decide) hS
  show go_W mt_X8_nextTick fr_C 9 [some (pv_r a0), none, none] [pv_r v3] M2 (qi_ P)
  refine go_astore_n (by decide) dX8_nextTick_9 ?_
  show go_W mt_X8_nextTick fr_C 10 [some (pv_r a0), some (pv_r v3), none] [] M2 (qi_ P)
  refine go_aload_n dX8_nextTick_10 rfl ?_
  refine go_getR (k := 0) ⟨by decide, rfl, by decide, Or.inl ⟨_, rfl⟩⟩ k4 fl_X8_12 dX8_nextTick_11 ?_
  refine go_iconst (v := (2 : Int32)) rfl dX8_nextTick_14 ?_
  refine go_null dX8_nextTick_15 ?_
  obtain ⟨k6, H⟩ := H
  refine go_V (av := [pv_i (2 : Int32), pv_r 0]) (st := []) (ci := 0) ok_X0_least ⟨by decide, by decide⟩ ml_X8_161 rfl (by decide) (fun v hv => by simp only [List.mem_cons, List.not_mem_nil, or_false] at hv; rcases hv with rfl | rfl <;> first | exact pv_1i | exact pv_1r) (Nat.le_of_ble_eq_true rfl) (fun _ h => h) (by decide) rfl k6 dX8_nextTick_16 H (fun r M7 hq hS => ?_)
  obtain ⟨v8, rfl, H⟩ := hq
  have k9 : mm_k M7 a0 = (8, 8) := ks_S k4 (by decide) hS
  have k10 : mm_k M7 (mm_r M a0 0) = (0, 4) := ks_S k5 (by decide) hS
  have k11 : mm_k M7 (mm_r M2 a0 0) = (0, 4) := ks_S k6 (by decide) hS
  show go_W mt_X8_nextTick fr_C 19 [some (pv_r a0), some (pv_r v3), none] [pv_r v8] M7 (qi_ P)
  refine go_astore_n (by decide) dX8_nextTick_19 ?_
  show go_W mt_X8_nextTick fr_C 20 [some (pv_r a0), some (pv_r v3), some (pv_r v8)] [] M7 (qi_ P)
  refine go_aload_n dX8_nextTick_20 rfl ?_
  refine go_ifnonnull (tgt := 37) dX8_nextTick_21 (by decide) (fun hc => ?_) (fun hc => ?_)
  · replace H := H.1 hc
    refine go_aload_n dX8_nextTick_37 rfl ?_
    refine go_ifnonnull (tgt := 48) dX8_nextTick_38 (by decide) (fun hc => ?_) (fun hc => ?_)
    · replace H := H.1 hc
      refine go_aload_n dX8_nextTick_48 rfl ?_
      obtain ⟨k12, H⟩ := H
      refine go_getI (k := 12) ⟨by decide, rfl, by decide, rfl⟩ k12 fl_X8_124 dX8_nextTick_49 ?_
      refine go_aload_n dX8_nextTick_52 rfl ?_
      obtain ⟨k13, H⟩ := H
      refine go_getI (k := 9) ⟨by decide, rfl, by decide, rfl⟩ k13 fl_X8_165 dX8_nextTick_53 ?_
      refine go_mmin ml_X8_168 (Nat.le_of_ble_eq_true rfl) ⟨by decide, by decide⟩ dX8_nextTick_56 ?_
      exact go_iret rfl rfl dX8_nextTick_59 ⟨_, rfl, H⟩
    · replace H := H.2 hc
      refine go_aload_n dX8_nextTick_41 rfl ?_
      obtain ⟨k14, H⟩ := H
      refine go_getI (k := 12) ⟨by decide, rfl, by decide, rfl⟩ k14 fl_X8_124 dX8_nextTick_42 ?_
      refine go_goto (tgt := 59) dX8_nextTick_45 (by decide) ?_
      exact go_iret rfl rfl dX8_nextTick_59 ⟨_, rfl, H⟩
  · replace H := H.2 hc
    refine go_aload_n dX8_nextTick_24 rfl ?_
    refine go_ifnonnull (tgt := 32) dX8_nextTick_25 (by decide) (fun hc => ?_) (fun hc => ?_)
    · replace H := H.1 hc
      refine go_aload_n dX8_nextTick_32 rfl ?_
      obtain ⟨k15, H⟩ := H
      refine go_getI (k := 9) ⟨by decide, rfl, by decide, rfl⟩ k15 fl_X8_165 dX8_nextTick_33 ?_
      exact go_iret rfl rfl dX8_nextTick_36 ⟨_, rfl, H⟩
    · replace H := H.2 hc
      refine go_iconst (v := (-1 : Int32)) rfl dX8_nextTick_28 ?_
      refine go_goto (tgt := 36) dX8_nextTick_29 (by decide) ?_
      exact go_iret rfl rfl dX8_nextTick_36 ⟨_, rfl, H⟩
set_option maxRecDepth 20000 in
theorem wc_X9_init_0 {M : mm_T} {a0 : Nat} {x1 : Int32} {P : mm_T → Prop} (K0 : mm_k M a0 = (9, 5)) (H : ∀ M1, M1 = mm_pi M a0 0 x1 → P M1) : cw_v mt_X9_init 0 [some (pv_r a0), some (pv_i x1)] [] M P := by
  refine go_aload_n dX9_init_0 rfl ?_
  refine go_objInitK (by decide) K0 (Nat.le_of_ble_eq_true rfl) ⟨by decide, by decide⟩ ml_X9_3 im_J_Object_init cd_J_Object_init dX9_init_1 ?_
  refine go_aload_n dX9_init_4 rfl ?_
  refine go_iload_n dX9_init_5 rfl ?_
  refine go_putI (k := 0) ⟨by decide, rfl, by decide, rfl⟩ K0 rfl (Or.inr ⟨rfl, rfl⟩) fl_X9_9 dX9_init_6 ?_
  show go_W mt_X9_init fr_C 9 [some (pv_r a0), some (pv_i x1)] [] (mm_pi M a0 0 x1) (qv_ P)
  obtain ⟨M1, hM1⟩ : ∃ M', M' = mm_pi M a0 0 x1 := ⟨_, rfl⟩
  have k2 : mm_k M1 a0 = (9, 5) := (by rw [hM1]; exact K0)
  rw [← hM1]
  replace H := H M1 hM1
  exact go_vret rfl dX9_init_9 ⟨rfl, H⟩
set_option maxRecDepth 20000 in
theorem wc_X9_holding_0 {M : mm_T} {a0 : Nat} {x1 : Int32} {P : Nat → mm_T → Prop} (K0 : mm_k M a0 = (9, 5)) (H : (((mm_r M a0 1 = 0) → P 0 M) ∧ ((¬ mm_r M a0 1 = 0) → mm_k M (mm_r M a0 1) = (6, 17) ∧ ((((¬ mm_i M (mm_r M a0 1) 11 = x1) → P 0 M) ∧ ((mm_i M (mm_r M a0 1) 11 = x1) → P (mm_r M a0 1) M)))))) : cw_r mt_X9_holding 0 [some (pv_r a0), some (pv_i x1)] [] M P := by
  refine go_aload_n dX9_holding_0 rfl ?_
  refine go_getR (k := 1) ⟨by decide, rfl, by decide, Or.inl ⟨_, rfl⟩⟩ K0 fl_X9_15 dX9_holding_1 ?_
  refine go_ifnull (tgt := 25) dX9_holding_4 (by decide) (fun hc => ?_) (fun hc => ?_)
  · replace H := H.1 hc
    refine go_null dX9_holding_25 ?_
    exact go_aret rfl (Or.inl ⟨_, rfl⟩) dX9_holding_26 ⟨_, rfl, H⟩
  · replace H := H.2 hc
    refine go_aload_n dX9_holding_7 rfl ?_
    refine go_getR (k := 1) ⟨by decide, rfl, by decide, Or.inl ⟨_, rfl⟩⟩ K0 fl_X9_15 dX9_holding_8 ?_
    obtain ⟨k1, H⟩ := H
    refine go_getI (k := 11) ⟨by decide, rfl, by decide, rfl⟩ k1 fl_X9_19 dX9_holding_11 ?_
    refine go_iload_n dX9_holding_14 rfl ?_
    refine go_icmp_ne (tgt := 25) dX9_holding_15 (by decide) (fun hc => ?_) (fun hc => ?_)
    · replace H := H.1 hc
      refine go_null dX9_holding_25 ?_
      exact go_aret rfl (Or.inl ⟨_, rfl⟩) dX9_holding_26 ⟨_, rfl, H⟩
    · replace H := H.2 hc
      refine go_aload_n dX9_holding_18 rfl ?_
      refine go_getR (k := 1) ⟨by decide, rfl, by decide, Or.inl ⟨_, rfl⟩⟩ K0 fl_X9_15 dX9_holding_19 ?_
      refine go_goto (tgt := 26) dX9_holding_22 (by decide) ?_
      exact go_aret rfl (Or.inl ⟨_, rfl⟩) dX9_holding_26 ⟨_, rfl, H⟩
set_option maxRecDepth 20000 in
theorem wc_X9_tell_0 {M : mm_T} {a0 : Nat} {x1 : Int32} {P : Int32 → mm_T → Prop} (K0 : mm_k M a0 = (9, 5)) (H : ((x1 = (0 : Int32)) → (((¬ mm_r M a0 1 = 0) → mm_k M (mm_r M a0 1) = (6, 17) ∧ (P (mm_i M (mm_r M a0 1) 0) M)) ∧ ((mm_r M a0 1 = 0) → P (-1 : Int32) M))) ∧ ((x1 = (1 : Int32)) → (((¬ mm_r M a0 1 = 0) → mm_k M (mm_r M a0 1) = (6, 17) ∧ (P (mm_i M (mm_r M a0 1) 11) M)) ∧ ((mm_r M a0 1 = 0) → P (-1 : Int32) M))) ∧ ((x1 = (2 : Int32)) → (((¬ mm_r M a0 1 = 0) → mm_k M (mm_r M a0 1) = (6, 17) ∧ (P (mm_i M (mm_r M a0 1) 12) M)) ∧ ((mm_r M a0 1 = 0) → P (-1 : Int32) M))) ∧ ((x1 = (3 : Int32)) → P (mm_i M a0 2) M) ∧ ((x1 = (4 : Int32)) → P (mm_i M a0 3) M) ∧ ((x1 = (5 : Int32)) → P (mm_i M a0 4) M) ∧ ((¬ x1 = (0 : Int32) ∧ ¬ x1 = (1 : Int32) ∧ ¬ x1 = (2 : Int32) ∧ ¬ x1 = (3 : Int32) ∧ ¬ x1 = (4 : Int32) ∧ ¬ x1 = (5 : Int32)) → P (-1 : Int32) M)) : cw_i mt_X9_tell 0 [some (pv_r a0), some (pv_i x1)] [] M P := by
  refine go_iload_n dX9_tell_0 rfl ?_
  by_cases hc0 : x1 = (0 : Int32)
  · replace H := H.1 hc0
    refine go_tabIn (v := (0 : Int32)) (tgt := 40) hc0 (by decide) (by decide) rfl (by decide) dX9_tell_1 ?_
    refine go_aload_n dX9_tell_40 rfl ?_
    refine go_getR (k := 1) ⟨by decide, rfl, by decide, Or.inl ⟨_, rfl⟩⟩ K0 fl_X9_15 dX9_tell_41 ?_
    refine go_ifnonnull (tgt := 51) dX9_tell_44 (by decide) (fun hc => ?_) (fun hc => ?_)
    · replace H := H.1 hc
      refine go_aload_n dX9_tell_51 rfl ?_
      refine go_getR (k := 1) ⟨by decide, rfl, by decide, Or.inl ⟨_, rfl⟩⟩ K0 fl_X9_15 dX9_tell_52 ?_
      obtain ⟨k1, H⟩ := H
      refine go_getI (k := 0) ⟨by decide, rfl, by decide, rfl⟩ k1 fl_X9_24 dX9_tell_55 ?_
      exact go_iret rfl rfl dX9_tell_58 ⟨_, rfl, H⟩
    · replace H := H.2 hc
      refine go_iconst (v := (-1 : Int32)) rfl dX9_tell_47 ?_
      refine go_goto (tgt := 58) dX9_tell_48 (by decide) ?_
      exact go_iret rfl rfl dX9_tell_58 ⟨_, rfl, H⟩
  replace H := H.2
  by_cases hc1 : x1 = (1 : Int32)
  · replace H := H.1 hc1
    refine go_tabIn (v := (1 : Int32)) (tgt := 59) hc1 (by decide) (by decide) rfl (by decide) dX9_tell_1 ?_
    refine go_aload_n dX9_tell_59 rfl ?_
    refine go_getR (k := 1) ⟨by decide, rfl, by decide, Or.inl ⟨_, rfl⟩⟩ K0 fl_X9_15 dX9_tell_60 ?_
    refine go_ifnonnull (tgt := 70) dX9_tell_63 (by decide) (fun hc => ?_) (fun hc => ?_)
    · replace H := H.1 hc
      refine go_aload_n dX9_tell_70 rfl ?_
      refine go_getR (k := 1) ⟨by decide, rfl, by decide, Or.inl ⟨_, rfl⟩⟩ K0 fl_X9_15 dX9_tell_71 ?_
      obtain ⟨k2, H⟩ := H
      refine go_getI (k := 11) ⟨by decide, rfl, by decide, rfl⟩ k2 fl_X9_19 dX9_tell_74 ?_
      exact go_iret rfl rfl dX9_tell_77 ⟨_, rfl, H⟩
    · replace H := H.2 hc
      refine go_iconst (v := (-1 : Int32)) rfl dX9_tell_66 ?_
      refine go_goto (tgt := 77) dX9_tell_67 (by decide) ?_
      exact go_iret rfl rfl dX9_tell_77 ⟨_, rfl, H⟩
  replace H := H.2
  by_cases hc2 : x1 = (2 : Int32)
  · replace H := H.1 hc2
    refine go_tabIn (v := (2 : Int32)) (tgt := 78) hc2 (by decide) (by decide) rfl (by decide) dX9_tell_1 ?_
    refine go_aload_n dX9_tell_78 rfl ?_
    refine go_getR (k := 1) ⟨by decide, rfl, by decide, Or.inl ⟨_, rfl⟩⟩ K0 fl_X9_15 dX9_tell_79 ?_
    refine go_ifnonnull (tgt := 89) dX9_tell_82 (by decide) (fun hc => ?_) (fun hc => ?_)
    · replace H := H.1 hc
      refine go_aload_n dX9_tell_89 rfl ?_
      refine go_getR (k := 1) ⟨by decide, rfl, by decide, Or.inl ⟨_, rfl⟩⟩ K0 fl_X9_15 dX9_tell_90 ?_
      obtain ⟨k3, H⟩ := H
      refine go_getI (k := 12) ⟨by decide, rfl, by decide, rfl⟩ k3 fl_X9_25 dX9_tell_93 ?_
      exact go_iret rfl rfl dX9_tell_96 ⟨_, rfl, H⟩
    · replace H := H.2 hc
      refine go_iconst (v := (-1 : Int32)) rfl dX9_tell_85 ?_
      refine go_goto (tgt := 96) dX9_tell_86 (by decide) ?_
      exact go_iret rfl rfl dX9_tell_96 ⟨_, rfl, H⟩
  replace H := H.2
  by_cases hc3 : x1 = (3 : Int32)
  · replace H := H.1 hc3
    refine go_tabIn (v := (3 : Int32)) (tgt := 97) hc3 (by decide) (by decide) rfl (by decide) dX9_tell_1 ?_
    refine go_aload_n dX9_tell_97 rfl ?_
    refine go_getI (k := 2) ⟨by decide, rfl, by decide, rfl⟩ K0 fl_X9_28 dX9_tell_98 ?_
    exact go_iret rfl rfl dX9_tell_101 ⟨_, rfl, H⟩
  replace H := H.2
  by_cases hc4 : x1 = (4 : Int32)
  · replace H := H.1 hc4
    refine go_tabIn (v := (4 : Int32)) (tgt := 102) hc4 (by decide) (by decide) rfl (by decide) dX9_tell_1 ?_
    refine go_aload_n dX9_tell_102 rfl ?_
    refine go_getI (k := 3) ⟨by decide, rfl, by decide, rfl⟩ K0 fl_X9_31 dX9_tell_103 ?_
    exact go_iret rfl rfl dX9_tell_106 ⟨_, rfl, H⟩
  replace H := H.2
  by_cases hc5 : x1 = (5 : Int32)
  · replace H := H.1 hc5
    refine go_tabIn (v := (5 : Int32)) (tgt := 107) hc5 (by decide) (by decide) rfl (by decide) dX9_tell_1 ?_
    refine go_aload_n dX9_tell_107 rfl ?_
    refine go_getI (k := 4) ⟨by decide, rfl, by decide, rfl⟩ K0 fl_X9_34 dX9_tell_108 ?_
    exact go_iret rfl rfl dX9_tell_111 ⟨_, rfl, H⟩
  replace H := H.2
  replace H := H ⟨hc0, hc1, hc2, hc3, hc4, hc5⟩
  have he0 : (x1).toInt ≠ 0 := fun h => hc0 (Int32.toInt_inj.mp (h.trans (by decide)))
  have he1 : (x1).toInt ≠ 1 := fun h => hc1 (Int32.toInt_inj.mp (h.trans (by decide)))
  have he2 : (x1).toInt ≠ 2 := fun h => hc2 (Int32.toInt_inj.mp (h.trans (by decide)))
  have he3 : (x1).toInt ≠ 3 := fun h => hc3 (Int32.toInt_inj.mp (h.trans (by decide)))
  have he4 : (x1).toInt ≠ 4 := fun h => hc4 (Int32.toInt_inj.mp (h.trans (by decide)))
  have he5 : (x1).toInt ≠ 5 := fun h => hc5 (Int32.toInt_inj.mp (h.trans (by decide)))
  refine go_tabOut (tgt := 112) (by omega) (by decide) dX9_tell_1 ?_
  refine go_iconst (v := (-1 : Int32)) rfl dX9_tell_112 ?_
  exact go_iret rfl rfl dX9_tell_113 ⟨_, rfl, H⟩
set_option maxRecDepth 20000 in
theorem wc_X10_put_0 {M : mm_T} {a0 : Nat} {x1 x2 x3 x4 x5 : Int32} {P : Int32 → mm_T → Prop} (K0 : mm_k M a0 = (10, 14)) (H : cs_i mt_X10_comeIfCan [pv_r a0, pv_i x1, pv_i x2, pv_i x3, pv_i x4, pv_i x5] M (fun v2 M1 => cs_i mt_X10_counted [pv_r a0, pv_i v2] M1 (fun v5 M4 => P v5 M4))) : cw_i mt_X10_put 0 [some (pv_r a0), some (pv_i x1), some (pv_i x2), some (pv_i x3), some (pv_i x4), some (pv_i x5)] [] M P := by
  refine go_aload_n dX10_put_0 rfl ?_
  refine go_aload_n dX10_put_1 rfl ?_
  refine go_iload_n dX10_put_2 rfl ?_
  refine go_iload_n dX10_put_3 rfl ?_
  refine go_iload_n dX10_put_4 rfl ?_
  refine go_iload dX10_put_5 rfl ?_
  refine go_iload dX10_put_7 rfl ?_
  refine go_V (av := [pv_i x1, pv_i x2, pv_i x3, pv_i x4, pv_i x5]) (st := [pv_r a0]) (ci := 10) ok_X10_comeIfCan ⟨by decide, by decide⟩ ml_X10_72 rfl (by decide) (fun v hv => by simp only [List.mem_cons, List.not_mem_nil, or_false] at hv; rcases hv with rfl | rfl | rfl | rfl | rfl <;> first | exact pv_1i | exact pv_1r) (Nat.le_of_ble_eq_true rfl) (fun _ h => h) (by decide) rfl K0 dX10_put_9 H (fun r M1 hq hS => ?_)
  obtain ⟨v2, rfl, H⟩ := hq
  have k3 : mm_k M1 a0 = (10, 14) := ks_S K0 (by decide) hS
  show go_W mt_X10_put fr_C 12 [some (pv_r a0), some (pv_i x1), some (pv_i x2), some (pv_i x3), some (pv_i x4), some (pv_i x5)] [pv_i v2, pv_r a0] M1 (qi_ P)
  refine go_V (av := [pv_i v2]) (st := []) (ci := 10) ok_X10_counted ⟨by decide, by decide⟩ ml_X10_76 rfl (by decide) (fun v hv => by simp only [List.mem_cons, List.not_mem_nil, or_false] at hv; rcases hv with rfl <;> first | exact pv_1i | exact pv_1r) (Nat.le_of_ble_eq_true rfl) (fun _ h => h) (by decide) rfl k3 dX10_put_12 H (fun r M4 hq hS => ?_)
  obtain ⟨v5, rfl, H⟩ := hq
  have k6 : mm_k M4 a0 = (10, 14) := ks_S k3 (by decide) hS
  show go_W mt_X10_put fr_C 15 [some (pv_r a0), some (pv_i x1), some (pv_i x2), some (pv_i x3), some (pv_i x4), some (pv_i x5)] [pv_i v5] M4 (qi_ P)
  exact go_iret rfl rfl dX10_put_15 ⟨_, rfl, H⟩
set_option maxRecDepth 20000 in
theorem wc_X10_take_0 {M : mm_T} {a0 : Nat} {x1 : Int32} {P : Int32 → mm_T → Prop} (K0 : mm_k M a0 = (10, 14)) (H : cs_i mt_X10_takeIfCan [pv_r a0, pv_i x1] M (fun v2 M1 => cs_i mt_X10_counted [pv_r a0, pv_i v2] M1 (fun v5 M4 => P v5 M4))) : cw_i mt_X10_take 0 [some (pv_r a0), some (pv_i x1)] [] M P := by
  refine go_aload_n dX10_take_0 rfl ?_
  refine go_aload_n dX10_take_1 rfl ?_
  refine go_iload_n dX10_take_2 rfl ?_
  refine go_V (av := [pv_i x1]) (st := [pv_r a0]) (ci := 10) ok_X10_takeIfCan ⟨by decide, by decide⟩ ml_X10_80 rfl (by decide) (fun v hv => by simp only [List.mem_cons, List.not_mem_nil, or_false] at hv; rcases hv with rfl <;> first | exact pv_1i | exact pv_1r) (Nat.le_of_ble_eq_true rfl) (fun _ h => h) (by decide) rfl K0 dX10_take_3 H (fun r M1 hq hS => ?_)
  obtain ⟨v2, rfl, H⟩ := hq
  have k3 : mm_k M1 a0 = (10, 14) := ks_S K0 (by decide) hS
  show go_W mt_X10_take fr_C 6 [some (pv_r a0), some (pv_i x1)] [pv_i v2, pv_r a0] M1 (qi_ P)
  refine go_V (av := [pv_i v2]) (st := []) (ci := 10) ok_X10_counted ⟨by decide, by decide⟩ ml_X10_76 rfl (by decide) (fun v hv => by simp only [List.mem_cons, List.not_mem_nil, or_false] at hv; rcases hv with rfl <;> first | exact pv_1i | exact pv_1r) (Nat.le_of_ble_eq_true rfl) (fun _ h => h) (by decide) rfl k3 dX10_take_6 H (fun r M4 hq hS => ?_)
  obtain ⟨v5, rfl, H⟩ := hq
  have k6 : mm_k M4 a0 = (10, 14) := ks_S k3 (by decide) hS
  show go_W mt_X10_take fr_C 9 [some (pv_r a0), some (pv_i x1)] [pv_i v5] M4 (qi_ P)
  exact go_iret rfl rfl dX10_take_9 ⟨_, rfl, H⟩
set_option maxRecDepth 20000 in
theorem wc_X10_done_0 {M : mm_T} {a0 : Nat} {x1 x2 : Int32} {P : Int32 → mm_T → Prop} (K0 : mm_k M a0 = (10, 14)) (H : cs_r mt_X10_workerAt [pv_r a0, pv_i x1] M (fun v2 M1 => (((¬ v2 = 0) → mm_k M1 v2 = (9, 5) ∧ (cs_r mt_X9_holding [pv_r v2, pv_i x2] M1 (fun v6 M5 => (((¬ v6 = 0) → cs_v mt_X10_completeTask [pv_r a0, pv_r v6] M5 (fun M9 => mm_k M9 v6 = (6, 17) ∧ (P (mm_i M9 v6 0) M9))) ∧ ((v6 = 0) → (((¬ v2 = 0) → cs_i mt_X10_counted [pv_r a0, pv_i (-3 : Int32)] M5 (fun v14 M13 => P v14 M13)) ∧ ((v2 = 0) → cs_i mt_X10_counted [pv_r a0, pv_i (-2 : Int32)] M5 (fun v18 M17 => P v18 M17)))))))) ∧ ((v2 = 0) → (((¬ v2 = 0) → cs_i mt_X10_counted [pv_r a0, pv_i (-3 : Int32)] M1 (fun v22 M21 => P v22 M21)) ∧ ((v2 = 0) → cs_i mt_X10_counted [pv_r a0, pv_i (-2 : Int32)] M1 (fun v25 M24 => P v25 M24))))))) : cw_i mt_X10_done 0 [some (pv_r a0), some (pv_i x1), some (pv_i x2), none, none] [] M P := by
  refine go_aload_n dX10_done_0 rfl ?_
  refine go_iload_n dX10_done_1 rfl ?_
  refine go_V (av := [pv_i x1]) (st := []) (ci := 10) ok_X10_workerAt ⟨by decide, by decide⟩ ml_X10_83 rfl (by decide) (fun v hv => by simp only [List.mem_cons, List.not_mem_nil, or_false] at hv; rcases hv with rfl <;> first | exact pv_1i | exact pv_1r) (Nat.le_of_ble_eq_true rfl) (fun _ h => h) (by decide) rfl K0 dX10_done_2 H (fun r M1 hq hS => ?_)
  obtain ⟨v2, rfl, H⟩ := hq
  have k3 : mm_k M1 a0 = (10, 14) := ks_S K0 (by decide) hS
  show go_W mt_X10_done fr_C 5 [some (pv_r a0), some (pv_i x1), some (pv_i x2), none, none] [pv_r v2] M1 (qi_ P)
  refine go_astore_n (by decide) dX10_done_5 ?_
  show go_W mt_X10_done fr_C 6 [some (pv_r a0), some (pv_i x1), some (pv_i x2), some (pv_r v2), none] [] M1 (qi_ P)
  refine go_aload_n dX10_done_6 rfl ?_
  refine go_ifnonnull (tgt := 14) dX10_done_7 (by decide) (fun hc => ?_) (fun hc => ?_)
  · replace H := H.1 hc
    refine go_aload_n dX10_done_14 rfl ?_
    refine go_iload_n dX10_done_15 rfl ?_
    obtain ⟨k4, H⟩ := H
    refine go_V (av := [pv_i x2]) (st := []) (ci := 9) ok_X9_holding ⟨by decide, by decide⟩ ml_X10_87 rfl (by decide) (fun v hv => by simp only [List.mem_cons, List.not_mem_nil, or_false] at hv; rcases hv with rfl <;> first | exact pv_1i | exact pv_1r) (Nat.le_of_ble_eq_true rfl) (fun _ h => h) (by decide) rfl k4 dX10_done_16 H (fun r M5 hq hS => ?_)
    obtain ⟨v6, rfl, H⟩ := hq
    have k7 : mm_k M5 a0 = (10, 14) := ks_S k3 (by decide) hS
    have k8 : mm_k M5 v2 = (9, 5) := ks_S k4 (by decide) hS
    show go_W mt_X10_done fr_C 19 [some (pv_r a0), some (pv_i x1), some (pv_i x2), some (pv_r v2), none] [pv_r v6] M5 (qi_ P)
    refine go_astore (by decide) dX10_done_19 ?_
    show go_W mt_X10_done fr_C 21 [some (pv_r a0), some (pv_i x1), some (pv_i x2), some (pv_r v2), some (pv_r v6)] [] M5 (qi_ P)
    refine go_aload dX10_done_21 rfl ?_
    refine go_ifnonnull (tgt := 42) dX10_done_23 (by decide) (fun hc => ?_) (fun hc => ?_)
    · replace H := H.1 hc
      refine go_aload_n dX10_done_42 rfl ?_
      refine go_aload dX10_done_43 rfl ?_
      refine go_V (av := [pv_r v6]) (st := []) (ci := 10) ok_X10_completeTask ⟨by decide, by decide⟩ ml_X10_91 rfl (by decide) (fun v hv => by simp only [List.mem_cons, List.not_mem_nil, or_false] at hv; rcases hv with rfl <;> first | exact pv_1i | exact pv_1r) (Nat.le_of_ble_eq_true rfl) (fun _ h => h) (by decide) rfl k7 dX10_done_45 H (fun r M9 hq hS => ?_)
      obtain ⟨rfl, H⟩ := hq
      have k10 : mm_k M9 a0 = (10, 14) := ks_S k7 (by decide) hS
      have k11 : mm_k M9 v2 = (9, 5) := ks_S k8 (by decide) hS
      show go_W mt_X10_done fr_C 48 [some (pv_r a0), some (pv_i x1), some (pv_i x2), some (pv_r v2), some (pv_r v6)] [] M9 (qi_ P)
      refine go_aload dX10_done_48 rfl ?_
      obtain ⟨k12, H⟩ := H
      refine go_getI (k := 0) ⟨by decide, rfl, by decide, rfl⟩ k12 fl_X10_95 dX10_done_50 ?_
      exact go_iret rfl rfl dX10_done_53 ⟨_, rfl, H⟩
    · replace H := H.2 hc
      refine go_aload_n dX10_done_26 rfl ?_
      refine go_aload_n dX10_done_27 rfl ?_
      refine go_ifnonnull (tgt := 36) dX10_done_28 (by decide) (fun hc => ?_) (fun hc => ?_)
      · replace H := H.1 hc
        refine go_bipush (v := (-3 : Int32)) rfl dX10_done_36 ?_
        refine go_V (av := [pv_i (-3 : Int32)]) (st := []) (ci := 10) ok_X10_counted ⟨by decide, by decide⟩ ml_X10_76 rfl (by decide) (fun v hv => by simp only [List.mem_cons, List.not_mem_nil, or_false] at hv; rcases hv with rfl <;> first | exact pv_1i | exact pv_1r) (Nat.le_of_ble_eq_true rfl) (fun _ h => h) (by decide) rfl k7 dX10_done_38 H (fun r M13 hq hS => ?_)
        obtain ⟨v14, rfl, H⟩ := hq
        have k15 : mm_k M13 a0 = (10, 14) := ks_S k7 (by decide) hS
        have k16 : mm_k M13 v2 = (9, 5) := ks_S k8 (by decide) hS
        show go_W mt_X10_done fr_C 41 [some (pv_r a0), some (pv_i x1), some (pv_i x2), some (pv_r v2), some (pv_r v6)] [pv_i v14] M13 (qi_ P)
        exact go_iret rfl rfl dX10_done_41 ⟨_, rfl, H⟩
      · replace H := H.2 hc
        refine go_bipush (v := (-2 : Int32)) rfl dX10_done_31 ?_
        refine go_goto (tgt := 38) dX10_done_33 (by decide) ?_
        refine go_V (av := [pv_i (-2 : Int32)]) (st := []) (ci := 10) ok_X10_counted ⟨by decide, by decide⟩ ml_X10_76 rfl (by decide) (fun v hv => by simp only [List.mem_cons, List.not_mem_nil, or_false] at hv; rcases hv with rfl <;> first | exact pv_1i | exact pv_1r) (Nat.le_of_ble_eq_true rfl) (fun _ h => h) (by decide) rfl k7 dX10_done_38 H (fun r M17 hq hS => ?_)
        obtain ⟨v18, rfl, H⟩ := hq
        have k19 : mm_k M17 a0 = (10, 14) := ks_S k7 (by decide) hS
        have k20 : mm_k M17 v2 = (9, 5) := ks_S k8 (by decide) hS
        show go_W mt_X10_done fr_C 41 [some (pv_r a0), some (pv_i x1), some (pv_i x2), some (pv_r v2), some (pv_r v6)] [pv_i v18] M17 (qi_ P)
        exact go_iret rfl rfl dX10_done_41 ⟨_, rfl, H⟩
  · replace H := H.2 hc
    refine go_null dX10_done_10 ?_
    refine go_goto (tgt := 19) dX10_done_11 (by decide) ?_
    refine go_astore (by decide) dX10_done_19 ?_
    show go_W mt_X10_done fr_C 21 [some (pv_r a0), some (pv_i x1), some (pv_i x2), some (pv_r v2), some (pv_r 0)] [] M1 (qi_ P)
    refine go_aload dX10_done_21 rfl ?_
    refine go_ifnonnull (tgt := 42) dX10_done_23 (by decide) (fun hc => absurd rfl hc) (fun _ => ?_)
    refine go_aload_n dX10_done_26 rfl ?_
    refine go_aload_n dX10_done_27 rfl ?_
    refine go_ifnonnull (tgt := 36) dX10_done_28 (by decide) (fun hc => ?_) (fun hc => ?_)
    · replace H := H.1 hc
      refine go_bipush (v := (-3 : Int32)) rfl dX10_done_36 ?_
      refine go_V (av := [pv_i (-3 : Int32)]) (st := []) (ci := 10) ok_X10_counted ⟨by decide, by decide⟩ ml_X10_76 rfl (by decide) (fun v hv => by simp only [List.mem_cons, List.not_mem_nil, or_false] at hv; rcases hv with rfl <;> first | exact pv_1i | exact pv_1r) (Nat.le_of_ble_eq_true rfl) (fun _ h => h) (by decide) rfl k3 dX10_done_38 H (fun r M21 hq hS => ?_)
      obtain ⟨v22, rfl, H⟩ := hq
      have k23 : mm_k M21 a0 = (10, 14) := ks_S k3 (by decide) hS
      show go_W mt_X10_done fr_C 41 [some (pv_r a0), some (pv_i x1), some (pv_i x2), some (pv_r v2), some (pv_r 0)] [pv_i v22] M21 (qi_ P)
      exact go_iret rfl rfl dX10_done_41 ⟨_, rfl, H⟩
    · replace H := H.2 hc
      refine go_bipush (v := (-2 : Int32)) rfl dX10_done_31 ?_
      refine go_goto (tgt := 38) dX10_done_33 (by decide) ?_
      refine go_V (av := [pv_i (-2 : Int32)]) (st := []) (ci := 10) ok_X10_counted ⟨by decide, by decide⟩ ml_X10_76 rfl (by decide) (fun v hv => by simp only [List.mem_cons, List.not_mem_nil, or_false] at hv; rcases hv with rfl <;> first | exact pv_1i | exact pv_1r) (Nat.le_of_ble_eq_true rfl) (fun _ h => h) (by decide) rfl k3 dX10_done_38 H (fun r M24 hq hS => ?_)
      obtain ⟨v25, rfl, H⟩ := hq
      have k26 : mm_k M24 a0 = (10, 14) := ks_S k3 (by decide) hS
      show go_W mt_X10_done fr_C 41 [some (pv_r a0), some (pv_i x1), some (pv_i x2), some (pv_r v2), some (pv_r 0)] [pv_i v25] M24 (qi_ P)
      exact go_iret rfl rfl dX10_done_41 ⟨_, rfl, H⟩
set_option maxRecDepth 20000 in
theorem wc_X10_fail_0 {M : mm_T} {a0 : Nat} {x1 x2 x3 : Int32} {P : Int32 → mm_T → Prop} (K0 : mm_k M a0 = (10, 14)) (H : cs_r mt_X10_workerAt [pv_r a0, pv_i x1] M (fun v2 M1 => (((v2 = 0) → cs_i mt_X10_counted [pv_r a0, pv_i (-2 : Int32)] M1 (fun v5 M4 => P v5 M4)) ∧ ((¬ v2 = 0) → (((x3 < (1 : Int32)) → cs_i mt_X10_counted [pv_r a0, pv_i (-2 : Int32)] M1 (fun v8 M7 => P v8 M7)) ∧ ((¬ x3 < (1 : Int32)) → (((x3 ≤ (99 : Int32)) → mm_k M1 v2 = (9, 5) ∧ (cs_r mt_X9_holding [pv_r v2, pv_i x2] M1 (fun v12 M11 => (((¬ v12 = 0) → cs_v mt_X10_failTask [pv_r a0, pv_r v12, pv_i x3] M11 (fun M15 => mm_k M15 v12 = (6, 17) ∧ (P (mm_i M15 v12 7) M15))) ∧ ((v12 = 0) → cs_i mt_X10_counted [pv_r a0, pv_i (-3 : Int32)] M11 (fun v20 M19 => P v20 M19)))))) ∧ ((¬ x3 ≤ (99 : Int32)) → cs_i mt_X10_counted [pv_r a0, pv_i (-2 : Int32)] M1 (fun v24 M23 => P v24 M23))))))))) : cw_i mt_X10_fail 0 [some (pv_r a0), some (pv_i x1), some (pv_i x2), some (pv_i x3), none, none] [] M P := by
  refine go_aload_n dX10_fail_0 rfl ?_
  refine go_iload_n dX10_fail_1 rfl ?_
  refine go_V (av := [pv_i x1]) (st := []) (ci := 10) ok_X10_workerAt ⟨by decide, by decide⟩ ml_X10_83 rfl (by decide) (fun v hv => by simp only [List.mem_cons, List.not_mem_nil, or_false] at hv; rcases hv with rfl <;> first | exact pv_1i | exact pv_1r) (Nat.le_of_ble_eq_true rfl) (fun _ h => h) (by decide) rfl K0 dX10_fail_2 H (fun r M1 hq hS => ?_)
  obtain ⟨v2, rfl, H⟩ := hq
  have k3 : mm_k M1 a0 = (10, 14) := ks_S K0 (by decide) hS
  show go_W mt_X10_fail fr_C 5 [some (pv_r a0), some (pv_i x1), some (pv_i x2), some (pv_i x3), none, none] [pv_r v2] M1 (qi_ P)
  refine go_astore (by decide) dX10_fail_5 ?_
  show go_W mt_X10_fail fr_C 7 [some (pv_r a0), some (pv_i x1), some (pv_i x2), some (pv_i x3), some (pv_r v2), none] [] M1 (qi_ P)
  refine go_aload dX10_fail_7 rfl ?_
  refine go_ifnull (tgt := 23) dX10_fail_9 (by decide) (fun hc => ?_) (fun hc => ?_)
  · replace H := H.1 hc
    refine go_aload_n dX10_fail_23 rfl ?_
    refine go_bipush (v := (-2 : Int32)) rfl dX10_fail_24 ?_
    refine go_V (av := [pv_i (-2 : Int32)]) (st := []) (ci := 10) ok_X10_counted ⟨by decide, by decide⟩ ml_X10_76 rfl (by decide) (fun v hv => by simp only [List.mem_cons, List.not_mem_nil, or_false] at hv; rcases hv with rfl <;> first | exact pv_1i | exact pv_1r) (Nat.le_of_ble_eq_true rfl) (fun _ h => h) (by decide) rfl k3 dX10_fail_26 H (fun r M4 hq hS => ?_)
    obtain ⟨v5, rfl, H⟩ := hq
    have k6 : mm_k M4 a0 = (10, 14) := ks_S k3 (by decide) hS
    show go_W mt_X10_fail fr_C 29 [some (pv_r a0), some (pv_i x1), some (pv_i x2), some (pv_i x3), some (pv_r v2), none] [pv_i v5] M4 (qi_ P)
    exact go_iret rfl rfl dX10_fail_29 ⟨_, rfl, H⟩
  · replace H := H.2 hc
    refine go_iload_n dX10_fail_12 rfl ?_
    refine go_iconst (v := (1 : Int32)) rfl dX10_fail_13 ?_
    refine go_icmp_lt (tgt := 23) dX10_fail_14 (by decide) (fun hc => ?_) (fun hc => ?_)
    · replace H := H.1 hc
      refine go_aload_n dX10_fail_23 rfl ?_
      refine go_bipush (v := (-2 : Int32)) rfl dX10_fail_24 ?_
      refine go_V (av := [pv_i (-2 : Int32)]) (st := []) (ci := 10) ok_X10_counted ⟨by decide, by decide⟩ ml_X10_76 rfl (by decide) (fun v hv => by simp only [List.mem_cons, List.not_mem_nil, or_false] at hv; rcases hv with rfl <;> first | exact pv_1i | exact pv_1r) (Nat.le_of_ble_eq_true rfl) (fun _ h => h) (by decide) rfl k3 dX10_fail_26 H (fun r M7 hq hS => ?_)
      obtain ⟨v8, rfl, H⟩ := hq
      have k9 : mm_k M7 a0 = (10, 14) := ks_S k3 (by decide) hS
      show go_W mt_X10_fail fr_C 29 [some (pv_r a0), some (pv_i x1), some (pv_i x2), some (pv_i x3), some (pv_r v2), none] [pv_i v8] M7 (qi_ P)
      exact go_iret rfl rfl dX10_fail_29 ⟨_, rfl, H⟩
    · replace H := H.2 hc
      refine go_iload_n dX10_fail_17 rfl ?_
      refine go_bipush (v := (99 : Int32)) rfl dX10_fail_18 ?_
      refine go_icmp_le (tgt := 30) dX10_fail_20 (by decide) (fun hc => ?_) (fun hc => ?_)
      · replace H := H.1 hc
        refine go_aload dX10_fail_30 rfl ?_
        refine go_iload_n dX10_fail_32 rfl ?_
        obtain ⟨k10, H⟩ := H
        refine go_V (av := [pv_i x2]) (st := []) (ci := 9) ok_X9_holding ⟨by decide, by decide⟩ ml_X10_87 rfl (by decide) (fun v hv => by simp only [List.mem_cons, List.not_mem_nil, or_false] at hv; rcases hv with rfl <;> first | exact pv_1i | exact pv_1r) (Nat.le_of_ble_eq_true rfl) (fun _ h => h) (by decide) rfl k10 dX10_fail_33 H (fun r M11 hq hS => ?_)
        obtain ⟨v12, rfl, H⟩ := hq
        have k13 : mm_k M11 a0 = (10, 14) := ks_S k3 (by decide) hS
        have k14 : mm_k M11 v2 = (9, 5) := ks_S k10 (by decide) hS
        show go_W mt_X10_fail fr_C 36 [some (pv_r a0), some (pv_i x1), some (pv_i x2), some (pv_i x3), some (pv_r v2), none] [pv_r v12] M11 (qi_ P)
        refine go_astore (by decide) dX10_fail_36 ?_
        show go_W mt_X10_fail fr_C 38 [some (pv_r a0), some (pv_i x1), some (pv_i x2), some (pv_i x3), some (pv_r v2), some (pv_r v12)] [] M11 (qi_ P)
        refine go_aload dX10_fail_38 rfl ?_
        refine go_ifnonnull (tgt := 50) dX10_fail_40 (by decide) (fun hc => ?_) (fun hc => ?_)
        · replace H := H.1 hc
          refine go_aload_n dX10_fail_50 rfl ?_
          refine go_aload dX10_fail_51 rfl ?_
          refine go_iload_n dX10_fail_53 rfl ?_
          refine go_V (av := [pv_r v12, pv_i x3]) (st := []) (ci := 10) ok_X10_failTask ⟨by decide, by decide⟩ ml_X10_101 rfl (by decide) (fun v hv => by simp only [List.mem_cons, List.not_mem_nil, or_false] at hv; rcases hv with rfl | rfl <;> first | exact pv_1i | exact pv_1r) (Nat.le_of_ble_eq_true rfl) (fun _ h => h) (by decide) rfl k13 dX10_fail_54 H (fun r M15 hq hS => ?_)
          obtain ⟨rfl, H⟩ := hq
          have k16 : mm_k M15 a0 = (10, 14) := ks_S k13 (by decide) hS
          have k17 : mm_k M15 v2 = (9, 5) := ks_S k14 (by decide) hS
          show go_W mt_X10_fail fr_C 57 [some (pv_r a0), some (pv_i x1), some (pv_i x2), some (pv_i x3), some (pv_r v2), some (pv_r v12)] [] M15 (qi_ P)
          refine go_aload dX10_fail_57 rfl ?_
          obtain ⟨k18, H⟩ := H
          refine go_getI (k := 7) ⟨by decide, rfl, by decide, rfl⟩ k18 fl_X10_105 dX10_fail_59 ?_
          exact go_iret rfl rfl dX10_fail_62 ⟨_, rfl, H⟩
        · replace H := H.2 hc
          refine go_aload_n dX10_fail_43 rfl ?_
          refine go_bipush (v := (-3 : Int32)) rfl dX10_fail_44 ?_
          refine go_V (av := [pv_i (-3 : Int32)]) (st := []) (ci := 10) ok_X10_counted ⟨by decide, by decide⟩ ml_X10_76 rfl (by decide) (fun v hv => by simp only [List.mem_cons, List.not_mem_nil, or_false] at hv; rcases hv with rfl <;> first | exact pv_1i | exact pv_1r) (Nat.le_of_ble_eq_true rfl) (fun _ h => h) (by decide) rfl k13 dX10_fail_46 H (fun r M19 hq hS => ?_)
          obtain ⟨v20, rfl, H⟩ := hq
          have k21 : mm_k M19 a0 = (10, 14) := ks_S k13 (by decide) hS
          have k22 : mm_k M19 v2 = (9, 5) := ks_S k14 (by decide) hS
          show go_W mt_X10_fail fr_C 49 [some (pv_r a0), some (pv_i x1), some (pv_i x2), some (pv_i x3), some (pv_r v2), some (pv_r v12)] [pv_i v20] M19 (qi_ P)
          exact go_iret rfl rfl dX10_fail_49 ⟨_, rfl, H⟩
      · replace H := H.2 hc
        refine go_aload_n dX10_fail_23 rfl ?_
        refine go_bipush (v := (-2 : Int32)) rfl dX10_fail_24 ?_
        refine go_V (av := [pv_i (-2 : Int32)]) (st := []) (ci := 10) ok_X10_counted ⟨by decide, by decide⟩ ml_X10_76 rfl (by decide) (fun v hv => by simp only [List.mem_cons, List.not_mem_nil, or_false] at hv; rcases hv with rfl <;> first | exact pv_1i | exact pv_1r) (Nat.le_of_ble_eq_true rfl) (fun _ h => h) (by decide) rfl k3 dX10_fail_26 H (fun r M23 hq hS => ?_)
        obtain ⟨v24, rfl, H⟩ := hq
        have k25 : mm_k M23 a0 = (10, 14) := ks_S k3 (by decide) hS
        show go_W mt_X10_fail fr_C 29 [some (pv_r a0), some (pv_i x1), some (pv_i x2), some (pv_i x3), some (pv_r v2), none] [pv_i v24] M23 (qi_ P)
        exact go_iret rfl rfl dX10_fail_29 ⟨_, rfl, H⟩
set_option maxRecDepth 20000 in
theorem wc_X10_beat_0 {M : mm_T} {a0 : Nat} {x1 x2 : Int32} {P : Int32 → mm_T → Prop} (K0 : mm_k M a0 = (10, 14)) (H : cs_r mt_X10_workerAt [pv_r a0, pv_i x1] M (fun v2 M1 => (((¬ v2 = 0) → mm_k M1 v2 = (9, 5) ∧ (cs_r mt_X9_holding [pv_r v2, pv_i x2] M1 (fun v6 M5 => (((¬ v6 = 0) → mm_k M5 (mm_r M5 a0 0) = (0, 4) ∧ (∃ l10, ak_ M5 (mm_r M5 (mm_r M5 a0 0) 3) 0 l10 ∧ (1 < l10 ∧ (mm_k M5 v6 = (6, 17) ∧ (∀ M14, M14 = mm_pi M5 v6 12 (mm_i M5 a0 11 + mm_i M5 (mm_r M5 (mm_r M5 a0 0) 3) 1) → P (mm_i M14 v6 12) M14))))) ∧ ((v6 = 0) → (((¬ v2 = 0) → cs_i mt_X10_counted [pv_r a0, pv_i (-3 : Int32)] M5 (fun v21 M20 => P v21 M20)) ∧ ((v2 = 0) → cs_i mt_X10_counted [pv_r a0, pv_i (-2 : Int32)] M5 (fun v25 M24 => P v25 M24)))))))) ∧ ((v2 = 0) → (((¬ v2 = 0) → cs_i mt_X10_counted [pv_r a0, pv_i (-3 : Int32)] M1 (fun v29 M28 => P v29 M28)) ∧ ((v2 = 0) → cs_i mt_X10_counted [pv_r a0, pv_i (-2 : Int32)] M1 (fun v32 M31 => P v32 M31))))))) : cw_i mt_X10_beat 0 [some (pv_r a0), some (pv_i x1), some (pv_i x2), none, none] [] M P := by
  refine go_aload_n dX10_beat_0 rfl ?_
  refine go_iload_n dX10_beat_1 rfl ?_
  refine go_V (av := [pv_i x1]) (st := []) (ci := 10) ok_X10_workerAt ⟨by decide, by decide⟩ ml_X10_83 rfl (by decide) (fun v hv => by simp only [List.mem_cons, List.not_mem_nil, or_false] at hv; rcases hv with rfl <;> first | exact pv_1i | exact pv_1r) (Nat.le_of_ble_eq_true rfl) (fun _ h => h) (by decide) rfl K0 dX10_beat_2 H (fun r M1 hq hS => ?_)
  obtain ⟨v2, rfl, H⟩ := hq
  have k3 : mm_k M1 a0 = (10, 14) := ks_S K0 (by decide) hS
  show go_W mt_X10_beat fr_C 5 [some (pv_r a0), some (pv_i x1), some (pv_i x2), none, none] [pv_r v2] M1 (qi_ P)
  refine go_astore_n (by decide) dX10_beat_5 ?_
  show go_W mt_X10_beat fr_C 6 [some (pv_r a0), some (pv_i x1), some (pv_i x2), some (pv_r v2), none] [] M1 (qi_ P)
  refine go_aload_n dX10_beat_6 rfl ?_
  refine go_ifnonnull (tgt := 14) dX10_beat_7 (by decide) (fun hc => ?_) (fun hc => ?_)
  · replace H := H.1 hc
    refine go_aload_n dX10_beat_14 rfl ?_
    refine go_iload_n dX10_beat_15 rfl ?_
    obtain ⟨k4, H⟩ := H
    refine go_V (av := [pv_i x2]) (st := []) (ci := 9) ok_X9_holding ⟨by decide, by decide⟩ ml_X10_87 rfl (by decide) (fun v hv => by simp only [List.mem_cons, List.not_mem_nil, or_false] at hv; rcases hv with rfl <;> first | exact pv_1i | exact pv_1r) (Nat.le_of_ble_eq_true rfl) (fun _ h => h) (by decide) rfl k4 dX10_beat_16 H (fun r M5 hq hS => ?_)
    obtain ⟨v6, rfl, H⟩ := hq
    have k7 : mm_k M5 a0 = (10, 14) := ks_S k3 (by decide) hS
    have k8 : mm_k M5 v2 = (9, 5) := ks_S k4 (by decide) hS
    show go_W mt_X10_beat fr_C 19 [some (pv_r a0), some (pv_i x1), some (pv_i x2), some (pv_r v2), none] [pv_r v6] M5 (qi_ P)
    refine go_astore (by decide) dX10_beat_19 ?_
    show go_W mt_X10_beat fr_C 21 [some (pv_r a0), some (pv_i x1), some (pv_i x2), some (pv_r v2), some (pv_r v6)] [] M5 (qi_ P)
    refine go_aload dX10_beat_21 rfl ?_
    refine go_ifnonnull (tgt := 42) dX10_beat_23 (by decide) (fun hc => ?_) (fun hc => ?_)
    · replace H := H.1 hc
      refine go_aload dX10_beat_42 rfl ?_
      refine go_aload_n dX10_beat_44 rfl ?_
      refine go_getI (k := 11) ⟨by decide, rfl, by decide, rfl⟩ k7 fl_X10_108 dX10_beat_45 ?_
      refine go_aload_n dX10_beat_48 rfl ?_
      refine go_getR (k := 0) ⟨by decide, rfl, by decide, Or.inl ⟨_, rfl⟩⟩ k7 fl_X10_10 dX10_beat_49 ?_
      obtain ⟨k9, H⟩ := H
      refine go_getR (k := 3) ⟨by decide, rfl, by decide, Or.inr ⟨_, rfl⟩⟩ k9 fl_X10_111 dX10_beat_52 ?_
      refine go_iconst (v := (1 : Int32)) rfl dX10_beat_55 ?_
      obtain ⟨l10, k11, H⟩ := H
      obtain ⟨hb12, H⟩ := H
      refine go_ialdA (j := 1) k11 rfl hb12 dX10_beat_56 ?_
      refine go_iadd dX10_beat_57 ?_
      obtain ⟨k13, H⟩ := H
      refine go_putI (k := 12) ⟨by decide, rfl, by decide, rfl⟩ k13 rfl (Or.inl rfl) fl_X10_115 dX10_beat_58 ?_
      show go_W mt_X10_beat fr_C 61 [some (pv_r a0), some (pv_i x1), some (pv_i x2), some (pv_r v2), some (pv_r v6)] [] (mm_pi M5 v6 12 (mm_i M5 a0 11 + mm_i M5 (mm_r M5 (mm_r M5 a0 0) 3) 1)) (qi_ P)
      obtain ⟨M14, hM14⟩ : ∃ M', M' = mm_pi M5 v6 12 (mm_i M5 a0 11 + mm_i M5 (mm_r M5 (mm_r M5 a0 0) 3) 1) := ⟨_, rfl⟩
      have k15 : mm_k M14 a0 = (10, 14) := (by rw [hM14]; exact k7)
      have k16 : mm_k M14 v2 = (9, 5) := (by rw [hM14]; exact k8)
      have k17 : mm_k M14 (mm_r M5 a0 0) = (0, 4) := (by rw [hM14]; exact k9)
      have k18 : mm_k M14 v6 = (6, 17) := (by rw [hM14]; exact k13)
      have k19 : ak_ M14 (mm_r M5 (mm_r M5 a0 0) 3) 0 l10 := (by rw [hM14]; exact k11)
      rw [← hM14]
      replace H := H M14 hM14
      refine go_aload dX10_beat_61 rfl ?_
      refine go_getI (k := 12) ⟨by decide, rfl, by decide, rfl⟩ k18 fl_X10_115 dX10_beat_63 ?_
      exact go_iret rfl rfl dX10_beat_66 ⟨_, rfl, H⟩
    · replace H := H.2 hc
      refine go_aload_n dX10_beat_26 rfl ?_
      refine go_aload_n dX10_beat_27 rfl ?_
      refine go_ifnonnull (tgt := 36) dX10_beat_28 (by decide) (fun hc => ?_) (fun hc => ?_)
      · replace H := H.1 hc
        refine go_bipush (v := (-3 : Int32)) rfl dX10_beat_36 ?_
        refine go_V (av := [pv_i (-3 : Int32)]) (st := []) (ci := 10) ok_X10_counted ⟨by decide, by decide⟩ ml_X10_76 rfl (by decide) (fun v hv => by simp only [List.mem_cons, List.not_mem_nil, or_false] at hv; rcases hv with rfl <;> first | exact pv_1i | exact pv_1r) (Nat.le_of_ble_eq_true rfl) (fun _ h => h) (by decide) rfl k7 dX10_beat_38 H (fun r M20 hq hS => ?_)
        obtain ⟨v21, rfl, H⟩ := hq
        have k22 : mm_k M20 a0 = (10, 14) := ks_S k7 (by decide) hS
        have k23 : mm_k M20 v2 = (9, 5) := ks_S k8 (by decide) hS
        show go_W mt_X10_beat fr_C 41 [some (pv_r a0), some (pv_i x1), some (pv_i x2), some (pv_r v2), some (pv_r v6)] [pv_i v21] M20 (qi_ P)
        exact go_iret rfl rfl dX10_beat_41 ⟨_, rfl, H⟩
      · replace H := H.2 hc
        refine go_bipush (v := (-2 : Int32)) rfl dX10_beat_31 ?_
        refine go_goto (tgt := 38) dX10_beat_33 (by decide) ?_
        refine go_V (av := [pv_i (-2 : Int32)]) (st := []) (ci := 10) ok_X10_counted ⟨by decide, by decide⟩ ml_X10_76 rfl (by decide) (fun v hv => by simp only [List.mem_cons, List.not_mem_nil, or_false] at hv; rcases hv with rfl <;> first | exact pv_1i | exact pv_1r) (Nat.le_of_ble_eq_true rfl) (fun _ h => h) (by decide) rfl k7 dX10_beat_38 H (fun r M24 hq hS => ?_)
        obtain ⟨v25, rfl, H⟩ := hq
        have k26 : mm_k M24 a0 = (10, 14) := ks_S k7 (by decide) hS
        have k27 : mm_k M24 v2 = (9, 5) := ks_S k8 (by decide) hS
        show go_W mt_X10_beat fr_C 41 [some (pv_r a0), some (pv_i x1), some (pv_i x2), some (pv_r v2), some (pv_r v6)] [pv_i v25] M24 (qi_ P)
        exact go_iret rfl rfl dX10_beat_41 ⟨_, rfl, H⟩
  · replace H := H.2 hc
    refine go_null dX10_beat_10 ?_
    refine go_goto (tgt := 19) dX10_beat_11 (by decide) ?_
    refine go_astore (by decide) dX10_beat_19 ?_
    show go_W mt_X10_beat fr_C 21 [some (pv_r a0), some (pv_i x1), some (pv_i x2), some (pv_r v2), some (pv_r 0)] [] M1 (qi_ P)
    refine go_aload dX10_beat_21 rfl ?_
    refine go_ifnonnull (tgt := 42) dX10_beat_23 (by decide) (fun hc => absurd rfl hc) (fun _ => ?_)
    refine go_aload_n dX10_beat_26 rfl ?_
    refine go_aload_n dX10_beat_27 rfl ?_
    refine go_ifnonnull (tgt := 36) dX10_beat_28 (by decide) (fun hc => ?_) (fun hc => ?_)
    · replace H := H.1 hc
      refine go_bipush (v := (-3 : Int32)) rfl dX10_beat_36 ?_
      refine go_V (av := [pv_i (-3 : Int32)]) (st := []) (ci := 10) ok_X10_counted ⟨by decide, by decide⟩ ml_X10_76 rfl (by decide) (fun v hv => by simp only [List.mem_cons, List.not_mem_nil, or_false] at hv; rcases hv with rfl <;> first | exact pv_1i | exact pv_1r) (Nat.le_of_ble_eq_true rfl) (fun _ h => h) (by decide) rfl k3 dX10_beat_38 H (fun r M28 hq hS => ?_)
      obtain ⟨v29, rfl, H⟩ := hq
      have k30 : mm_k M28 a0 = (10, 14) := ks_S k3 (by decide) hS
      show go_W mt_X10_beat fr_C 41 [some (pv_r a0), some (pv_i x1), some (pv_i x2), some (pv_r v2), some (pv_r 0)] [pv_i v29] M28 (qi_ P)
      exact go_iret rfl rfl dX10_beat_41 ⟨_, rfl, H⟩
    · replace H := H.2 hc
      refine go_bipush (v := (-2 : Int32)) rfl dX10_beat_31 ?_
      refine go_goto (tgt := 38) dX10_beat_33 (by decide) ?_
      refine go_V (av := [pv_i (-2 : Int32)]) (st := []) (ci := 10) ok_X10_counted ⟨by decide, by decide⟩ ml_X10_76 rfl (by decide) (fun v hv => by simp only [List.mem_cons, List.not_mem_nil, or_false] at hv; rcases hv with rfl <;> first | exact pv_1i | exact pv_1r) (Nat.le_of_ble_eq_true rfl) (fun _ h => h) (by decide) rfl k3 dX10_beat_38 H (fun r M31 hq hS => ?_)
      obtain ⟨v32, rfl, H⟩ := hq
      have k33 : mm_k M31 a0 = (10, 14) := ks_S k3 (by decide) hS
      show go_W mt_X10_beat fr_C 41 [some (pv_r a0), some (pv_i x1), some (pv_i x2), some (pv_r v2), some (pv_r 0)] [pv_i v32] M31 (qi_ P)
      exact go_iret rfl rfl dX10_beat_41 ⟨_, rfl, H⟩
set_option maxRecDepth 20000 in
theorem wc_X10_back_0 {M : mm_T} {a0 : Nat} {x1 x2 : Int32} {P : Int32 → mm_T → Prop} (K0 : mm_k M a0 = (10, 14)) (H : cs_r mt_X10_workerAt [pv_r a0, pv_i x1] M (fun v2 M1 => (((¬ v2 = 0) → mm_k M1 v2 = (9, 5) ∧ (cs_r mt_X9_holding [pv_r v2, pv_i x2] M1 (fun v6 M5 => (((¬ v6 = 0) → mm_k M5 v6 = (6, 17) ∧ (cs_r mt_X6_letGo [pv_r v6] M5 (fun v11 M10 => cs_v mt_X10_waitAgain [pv_r a0, pv_r v6] M10 (fun M15 => P (mm_i M15 v6 0) M15)))) ∧ ((v6 = 0) → (((¬ v2 = 0) → cs_i mt_X10_counted [pv_r a0, pv_i (-3 : Int32)] M5 (fun v20 M19 => P v20 M19)) ∧ ((v2 = 0) → cs_i mt_X10_counted [pv_r a0, pv_i (-2 : Int32)] M5 (fun v24 M23 => P v24 M23)))))))) ∧ ((v2 = 0) → (((¬ v2 = 0) → cs_i mt_X10_counted [pv_r a0, pv_i (-3 : Int32)] M1 (fun v28 M27 => P v28 M27)) ∧ ((v2 = 0) → cs_i mt_X10_counted [pv_r a0, pv_i (-2 : Int32)] M1 (fun v31 M30 => P v31 M30))))))) : cw_i mt_X10_back 0 [some (pv_r a0), some (pv_i x1), some (pv_i x2), none, none] [] M P := by
  refine go_aload_n dX10_back_0 rfl ?_
  refine go_iload_n dX10_back_1 rfl ?_
  refine go_V (av := [pv_i x1]) (st := []) (ci := 10) ok_X10_workerAt ⟨by decide, by decide⟩ ml_X10_83 rfl (by decide) (fun v hv => by simp only [List.mem_cons, List.not_mem_nil, or_false] at hv; rcases hv with rfl <;> first | exact pv_1i | exact pv_1r) (Nat.le_of_ble_eq_true rfl) (fun _ h => h) (by decide) rfl K0 dX10_back_2 H (fun r M1 hq hS => ?_)
  obtain ⟨v2, rfl, H⟩ := hq
  have k3 : mm_k M1 a0 = (10, 14) := ks_S K0 (by decide) hS
  show go_W mt_X10_back fr_C 5 [some (pv_r a0), some (pv_i x1), some (pv_i x2), none, none] [pv_r v2] M1 (qi_ P)
  refine go_astore_n (by decide) dX10_back_5 ?_
  show go_W mt_X10_back fr_C 6 [some (pv_r a0), some (pv_i x1), some (pv_i x2), some (pv_r v2), none] [] M1 (qi_ P)
  refine go_aload_n dX10_back_6 rfl ?_
  refine go_ifnonnull (tgt := 14) dX10_back_7 (by decide) (fun hc => ?_) (fun hc => ?_)
  · replace H := H.1 hc
    refine go_aload_n dX10_back_14 rfl ?_
    refine go_iload_n dX10_back_15 rfl ?_
    obtain ⟨k4, H⟩ := H
    refine go_V (av := [pv_i x2]) (st := []) (ci := 9) ok_X9_holding ⟨by decide, by decide⟩ ml_X10_87 rfl (by decide) (fun v hv => by simp only [List.mem_cons, List.not_mem_nil, or_false] at hv; rcases hv with rfl <;> first | exact pv_1i | exact pv_1r) (Nat.le_of_ble_eq_true rfl) (fun _ h => h) (by decide) rfl k4 dX10_back_16 H (fun r M5 hq hS => ?_)
    obtain ⟨v6, rfl, H⟩ := hq
    have k7 : mm_k M5 a0 = (10, 14) := ks_S k3 (by decide) hS
    have k8 : mm_k M5 v2 = (9, 5) := ks_S k4 (by decide) hS
    show go_W mt_X10_back fr_C 19 [some (pv_r a0), some (pv_i x1), some (pv_i x2), some (pv_r v2), none] [pv_r v6] M5 (qi_ P)
    refine go_astore (by decide) dX10_back_19 ?_
    show go_W mt_X10_back fr_C 21 [some (pv_r a0), some (pv_i x1), some (pv_i x2), some (pv_r v2), some (pv_r v6)] [] M5 (qi_ P)
    refine go_aload dX10_back_21 rfl ?_
    refine go_ifnonnull (tgt := 42) dX10_back_23 (by decide) (fun hc => ?_) (fun hc => ?_)
    · replace H := H.1 hc
      refine go_aload dX10_back_42 rfl ?_
      obtain ⟨k9, H⟩ := H
      refine go_V (av := []) (st := []) (ci := 6) ok_X6_letGo ⟨by decide, by decide⟩ ml_X10_118 rfl (by decide) (fun v hv => absurd hv List.not_mem_nil) (Nat.le_of_ble_eq_true rfl) (fun _ h => h) (by decide) rfl k9 dX10_back_44 H (fun r M10 hq hS => ?_)
      obtain ⟨v11, rfl, H⟩ := hq
      have k12 : mm_k M10 a0 = (10, 14) := ks_S k7 (by decide) hS
      have k13 : mm_k M10 v2 = (9, 5) := ks_S k8 (by decide) hS
      have k14 : mm_k M10 v6 = (6, 17) := ks_S k9 (by decide) hS
      show go_W mt_X10_back fr_C 47 [some (pv_r a0), some (pv_i x1), some (pv_i x2), some (pv_r v2), some (pv_r v6)] [pv_r v11] M10 (qi_ P)
      refine go_pop pv_1r dX10_back_47 ?_
      refine go_aload_n dX10_back_48 rfl ?_
      refine go_aload dX10_back_49 rfl ?_
      refine go_V (av := [pv_r v6]) (st := []) (ci := 10) ok_X10_waitAgain ⟨by decide, by decide⟩ ml_X10_122 rfl (by decide) (fun v hv => by simp only [List.mem_cons, List.not_mem_nil, or_false] at hv; rcases hv with rfl <;> first | exact pv_1i | exact pv_1r) (Nat.le_of_ble_eq_true rfl) (fun _ h => h) (by decide) rfl k12 dX10_back_51 H (fun r M15 hq hS => ?_)
      obtain ⟨rfl, H⟩ := hq
      have k16 : mm_k M15 a0 = (10, 14) := ks_S k12 (by decide) hS
      have k17 : mm_k M15 v2 = (9, 5) := ks_S k13 (by decide) hS
      have k18 : mm_k M15 v6 = (6, 17) := ks_S k14 (by decide) hS
      show go_W mt_X10_back fr_C 54 [some (pv_r a0), some (pv_i x1), some (pv_i x2), some (pv_r v2), some (pv_r v6)] [] M15 (qi_ P)
      refine go_aload dX10_back_54 rfl ?_
      refine go_getI (k := 0) ⟨by decide, rfl, by decide, rfl⟩ k18 fl_X10_95 dX10_back_56 ?_
      exact go_iret rfl rfl dX10_back_59 ⟨_, rfl, H⟩
    · replace H := H.2 hc
      refine go_aload_n dX10_back_26 rfl ?_
      refine go_aload_n dX10_back_27 rfl ?_
      refine go_ifnonnull (tgt := 36) dX10_back_28 (by decide) (fun hc => ?_) (fun hc => ?_)
      · replace H := H.1 hc
        refine go_bipush (v := (-3 : Int32)) rfl dX10_back_36 ?_
        refine go_V (av := [pv_i (-3 : Int32)]) (st := []) (ci := 10) ok_X10_counted ⟨by decide, by decide⟩ ml_X10_76 rfl (by decide) (fun v hv => by simp only [List.mem_cons, List.not_mem_nil, or_false] at hv; rcases hv with rfl <;> first | exact pv_1i | exact pv_1r) (Nat.le_of_ble_eq_true rfl) (fun _ h => h) (by decide) rfl k7 dX10_back_38 H (fun r M19 hq hS => ?_)
        obtain ⟨v20, rfl, H⟩ := hq
        have k21 : mm_k M19 a0 = (10, 14) := ks_S k7 (by decide) hS
        have k22 : mm_k M19 v2 = (9, 5) := ks_S k8 (by decide) hS
        show go_W mt_X10_back fr_C 41 [some (pv_r a0), some (pv_i x1), some (pv_i x2), some (pv_r v2), some (pv_r v6)] [pv_i v20] M19 (qi_ P)
        exact go_iret rfl rfl dX10_back_41 ⟨_, rfl, H⟩
      · replace H := H.2 hc
        refine go_bipush (v := (-2 : Int32)) rfl dX10_back_31 ?_
        refine go_goto (tgt := 38) dX10_back_33 (by decide) ?_
        refine go_V (av := [pv_i (-2 : Int32)]) (st := []) (ci := 10) ok_X10_counted ⟨by decide, by decide⟩ ml_X10_76 rfl (by decide) (fun v hv => by simp only [List.mem_cons, List.not_mem_nil, or_false] at hv; rcases hv with rfl <;> first | exact pv_1i | exact pv_1r) (Nat.le_of_ble_eq_true rfl) (fun _ h => h) (by decide) rfl k7 dX10_back_38 H (fun r M23 hq hS => ?_)
        obtain ⟨v24, rfl, H⟩ := hq
        have k25 : mm_k M23 a0 = (10, 14) := ks_S k7 (by decide) hS
        have k26 : mm_k M23 v2 = (9, 5) := ks_S k8 (by decide) hS
        show go_W mt_X10_back fr_C 41 [some (pv_r a0), some (pv_i x1), some (pv_i x2), some (pv_r v2), some (pv_r v6)] [pv_i v24] M23 (qi_ P)
        exact go_iret rfl rfl dX10_back_41 ⟨_, rfl, H⟩
  · replace H := H.2 hc
    refine go_null dX10_back_10 ?_
    refine go_goto (tgt := 19) dX10_back_11 (by decide) ?_
    refine go_astore (by decide) dX10_back_19 ?_
    show go_W mt_X10_back fr_C 21 [some (pv_r a0), some (pv_i x1), some (pv_i x2), some (pv_r v2), some (pv_r 0)] [] M1 (qi_ P)
    refine go_aload dX10_back_21 rfl ?_
    refine go_ifnonnull (tgt := 42) dX10_back_23 (by decide) (fun hc => absurd rfl hc) (fun _ => ?_)
    refine go_aload_n dX10_back_26 rfl ?_
    refine go_aload_n dX10_back_27 rfl ?_
    refine go_ifnonnull (tgt := 36) dX10_back_28 (by decide) (fun hc => ?_) (fun hc => ?_)
    · replace H := H.1 hc
      refine go_bipush (v := (-3 : Int32)) rfl dX10_back_36 ?_
      refine go_V (av := [pv_i (-3 : Int32)]) (st := []) (ci := 10) ok_X10_counted ⟨by decide, by decide⟩ ml_X10_76 rfl (by decide) (fun v hv => by simp only [List.mem_cons, List.not_mem_nil, or_false] at hv; rcases hv with rfl <;> first | exact pv_1i | exact pv_1r) (Nat.le_of_ble_eq_true rfl) (fun _ h => h) (by decide) rfl k3 dX10_back_38 H (fun r M27 hq hS => ?_)
      obtain ⟨v28, rfl, H⟩ := hq
      have k29 : mm_k M27 a0 = (10, 14) := ks_S k3 (by decide) hS
      show go_W mt_X10_back fr_C 41 [some (pv_r a0), some (pv_i x1), some (pv_i x2), some (pv_r v2), some (pv_r 0)] [pv_i v28] M27 (qi_ P)
      exact go_iret rfl rfl dX10_back_41 ⟨_, rfl, H⟩
    · replace H := H.2 hc
      refine go_bipush (v := (-2 : Int32)) rfl dX10_back_31 ?_
      refine go_goto (tgt := 38) dX10_back_33 (by decide) ?_
      refine go_V (av := [pv_i (-2 : Int32)]) (st := []) (ci := 10) ok_X10_counted ⟨by decide, by decide⟩ ml_X10_76 rfl (by decide) (fun v hv => by simp only [List.mem_cons, List.not_mem_nil, or_false] at hv; rcases hv with rfl <;> first | exact pv_1i | exact pv_1r) (Nat.le_of_ble_eq_true rfl) (fun _ h => h) (by decide) rfl k3 dX10_back_38 H (fun r M30 hq hS => ?_)
      obtain ⟨v31, rfl, H⟩ := hq
      have k32 : mm_k M30 a0 = (10, 14) := ks_S k3 (by decide) hS
      show go_W mt_X10_back fr_C 41 [some (pv_r a0), some (pv_i x1), some (pv_i x2), some (pv_r v2), some (pv_r 0)] [pv_i v31] M30 (qi_ P)
      exact go_iret rfl rfl dX10_back_41 ⟨_, rfl, H⟩
set_option maxRecDepth 20000 in
theorem wc_X10_hand_0 {M : mm_T} {a0 : Nat} {x1 x2 x3 : Int32} {P : Int32 → mm_T → Prop} (K0 : mm_k M a0 = (10, 14)) (H : cs_r mt_X10_workerAt [pv_r a0, pv_i x1] M (fun v2 M1 => cs_r mt_X10_workerAt [pv_r a0, pv_i x3] M1 (fun v5 M4 => (((v2 = 0) → cs_i mt_X10_counted [pv_r a0, pv_i (-2 : Int32)] M4 (fun v8 M7 => P v8 M7)) ∧ ((¬ v2 = 0) → (((¬ v5 = 0) → mm_k M4 v2 = (9, 5) ∧ (cs_r mt_X9_holding [pv_r v2, pv_i x2] M4 (fun v12 M11 => (((v12 = 0) → cs_i mt_X10_counted [pv_r a0, pv_i (-3 : Int32)] M11 (fun v16 M15 => P v16 M15)) ∧ ((¬ v12 = 0) → mm_k M11 v5 = (9, 5) ∧ ((((mm_r M11 v5 1 = 0) → mm_k M11 v12 = (6, 17) ∧ (cs_r mt_X6_letGo [pv_r v12] M11 (fun v22 M21 => mm_k M21 (mm_r M21 a0 0) = (0, 4) ∧ (∃ l28, ak_ M21 (mm_r M21 (mm_r M21 a0 0) 3) 0 l28 ∧ (1 < l28 ∧ (cs_v mt_X6_giveTo [pv_r v12, pv_r v5, pv_i x2, pv_i (mm_i M21 a0 11 + mm_i M21 (mm_r M21 (mm_r M21 a0 0) 3) 1)] M21 (fun M31 => P (mm_i M31 v12 0) M31))))))) ∧ ((¬ mm_r M11 v5 1 = 0) → cs_i mt_X10_counted [pv_r a0, pv_i (-3 : Int32)] M11 (fun v39 M38 => P v39 M38))))))))) ∧ ((v5 = 0) → cs_i mt_X10_counted [pv_r a0, pv_i (-2 : Int32)] M4 (fun v44 M43 => P v44 M43)))))))) : cw_i mt_X10_hand 0 [some (pv_r a0), some (pv_i x1), some (pv_i x2), some (pv_i x3), none, none, none] [] M P := by
  refine go_aload_n dX10_hand_0 rfl ?_
  refine go_iload_n dX10_hand_1 rfl ?_
  refine go_V (av := [pv_i x1]) (st := []) (ci := 10) ok_X10_workerAt ⟨by decide, by decide⟩ ml_X10_83 rfl (by decide) (fun v hv => by simp only [List.mem_cons, List.not_mem_nil, or_false] at hv; rcases hv with rfl <;> first | exact pv_1i | exact pv_1r) (Nat.le_of_ble_eq_true rfl) (fun _ h => h) (by decide) rfl K0 dX10_hand_2 H (fun r M1 hq hS => ?_)
  obtain ⟨v2, rfl, H⟩ := hq
  have k3 : mm_k M1 a0 = (10, 14) := ks_S K0 (by decide) hS
  show go_W mt_X10_hand fr_C 5 [some (pv_r a0), some (pv_i x1), some (pv_i x2), some (pv_i x3), none, none, none] [pv_r v2] M1 (qi_ P)
  refine go_astore (by decide) dX10_hand_5 ?_
  show go_W mt_X10_hand fr_C 7 [some (pv_r a0), some (pv_i x1), some (pv_i x2), some (pv_i x3), some (pv_r v2), none, none] [] M1 (qi_ P)
  refine go_aload_n dX10_hand_7 rfl ?_
  refine go_iload_n dX10_hand_8 rfl ?_
  refine go_V (av := [pv_i x3]) (st := []) (ci := 10) ok_X10_workerAt ⟨by decide, by decide⟩ ml_X10_83 rfl (by decide) (fun v hv => by simp only [List.mem_cons, List.not_mem_nil, or_false] at hv; rcases hv with rfl <;> first | exact pv_1i | exact pv_1r) (Nat.le_of_ble_eq_true rfl) (fun _ h => h) (by decide) rfl k3 dX10_hand_9 H (fun r M4 hq hS => ?_)
  obtain ⟨v5, rfl, H⟩ := hq
  have k6 : mm_k M4 a0 = (10, 14) := ks_S k3 (by decide) hS
  show go_W mt_X10_hand fr_C 12 [some (pv_r a0), some (pv_i x1), some (pv_i x2), some (pv_i x3), some (pv_r v2), none, none] [pv_r v5] M4 (qi_ P)
  refine go_astore (by decide) dX10_hand_12 ?_
  show go_W mt_X10_hand fr_C 14 [some (pv_r a0), some (pv_i x1), some (pv_i x2), some (pv_i x3), some (pv_r v2), some (pv_r v5), none] [] M4 (qi_ P)
  refine go_aload dX10_hand_14 rfl ?_
  refine go_ifnull (tgt := 24) dX10_hand_16 (by decide) (fun hc => ?_) (fun hc => ?_)
  · replace H := H.1 hc
    refine go_aload_n dX10_hand_24 rfl ?_
    refine go_bipush (v := (-2 : Int32)) rfl dX10_hand_25 ?_
    refine go_V (av := [pv_i (-2 : Int32)]) (st := []) (ci := 10) ok_X10_counted ⟨by decide, by decide⟩ ml_X10_76 rfl (by decide) (fun v hv => by simp only [List.mem_cons, List.not_mem_nil, or_false] at hv; rcases hv with rfl <;> first | exact pv_1i | exact pv_1r) (Nat.le_of_ble_eq_true rfl) (fun _ h => h) (by decide) rfl k6 dX10_hand_27 H (fun r M7 hq hS => ?_)
    obtain ⟨v8, rfl, H⟩ := hq
    have k9 : mm_k M7 a0 = (10, 14) := ks_S k6 (by decide) hS
    show go_W mt_X10_hand fr_C 30 [some (pv_r a0), some (pv_i x1), some (pv_i x2), some (pv_i x3), some (pv_r v2), some (pv_r v5), none] [pv_i v8] M7 (qi_ P)
    exact go_iret rfl rfl dX10_hand_30 ⟨_, rfl, H⟩
  · replace H := H.2 hc
    refine go_aload dX10_hand_19 rfl ?_
    refine go_ifnonnull (tgt := 31) dX10_hand_21 (by decide) (fun hc => ?_) (fun hc => ?_)
    · replace H := H.1 hc
      refine go_aload dX10_hand_31 rfl ?_
      refine go_iload_n dX10_hand_33 rfl ?_
      obtain ⟨k10, H⟩ := H
      refine go_V (av := [pv_i x2]) (st := []) (ci := 9) ok_X9_holding ⟨by decide, by decide⟩ ml_X10_87 rfl (by decide) (fun v hv => by simp only [List.mem_cons, List.not_mem_nil, or_false] at hv; rcases hv with rfl <;> first | exact pv_1i | exact pv_1r) (Nat.le_of_ble_eq_true rfl) (fun _ h => h) (by decide) rfl k10 dX10_hand_34 H (fun r M11 hq hS => ?_)
      obtain ⟨v12, rfl, H⟩ := hq
      have k13 : mm_k M11 a0 = (10, 14) := ks_S k6 (by decide) hS
      have k14 : mm_k M11 v2 = (9, 5) := ks_S k10 (by decide) hS
      show go_W mt_X10_hand fr_C 37 [some (pv_r a0), some (pv_i x1), some (pv_i x2), some (pv_i x3), some (pv_r v2), some (pv_r v5), none] [pv_r v12] M11 (qi_ P)
      refine go_astore (by decide) dX10_hand_37 ?_
      show go_W mt_X10_hand fr_C 39 [some (pv_r a0), some (pv_i x1), some (pv_i x2), some (pv_i x3), some (pv_r v2), some (pv_r v5), some (pv_r v12)] [] M11 (qi_ P)
      refine go_aload dX10_hand_39 rfl ?_
      refine go_ifnull (tgt := 52) dX10_hand_41 (by decide) (fun hc => ?_) (fun hc => ?_)
      · replace H := H.1 hc
        refine go_aload_n dX10_hand_52 rfl ?_
        refine go_bipush (v := (-3 : Int32)) rfl dX10_hand_53 ?_
        refine go_V (av := [pv_i (-3 : Int32)]) (st := []) (ci := 10) ok_X10_counted ⟨by decide, by decide⟩ ml_X10_76 rfl (by decide) (fun v hv => by simp only [List.mem_cons, List.not_mem_nil, or_false] at hv; rcases hv with rfl <;> first | exact pv_1i | exact pv_1r) (Nat.le_of_ble_eq_true rfl) (fun _ h => h) (by decide) rfl k13 dX10_hand_55 H (fun r M15 hq hS => ?_)
        obtain ⟨v16, rfl, H⟩ := hq
        have k17 : mm_k M15 a0 = (10, 14) := ks_S k13 (by decide) hS
        have k18 : mm_k M15 v2 = (9, 5) := ks_S k14 (by decide) hS
        show go_W mt_X10_hand fr_C 58 [some (pv_r a0), some (pv_i x1), some (pv_i x2), some (pv_i x3), some (pv_r v2), some (pv_r v5), some (pv_r v12)] [pv_i v16] M15 (qi_ P)
        exact go_iret rfl rfl dX10_hand_58 ⟨_, rfl, H⟩
      · replace H := H.2 hc
        refine go_aload dX10_hand_44 rfl ?_
        obtain ⟨k19, H⟩ := H
        refine go_getR (k := 1) ⟨by decide, rfl, by decide, Or.inl ⟨_, rfl⟩⟩ k19 fl_X10_125 dX10_hand_46 ?_
        refine go_ifnull (tgt := 59) dX10_hand_49 (by decide) (fun hc => ?_) (fun hc => ?_)
        · replace H := H.1 hc
          refine go_aload dX10_hand_59 rfl ?_
          obtain ⟨k20, H⟩ := H
          refine go_V (av := []) (st := []) (ci := 6) ok_X6_letGo ⟨by decide, by decide⟩ ml_X10_118 rfl (by decide) (fun v hv => absurd hv List.not_mem_nil) (Nat.le_of_ble_eq_true rfl) (fun _ h => h) (by decide) rfl k20 dX10_hand_61 H (fun r M21 hq hS => ?_)
          obtain ⟨v22, rfl, H⟩ := hq
          have k23 : mm_k M21 a0 = (10, 14) := ks_S k13 (by decide) hS
          have k24 : mm_k M21 v2 = (9, 5) := ks_S k14 (by decide) hS
          have k25 : mm_k M21 v5 = (9, 5) := ks_S k19 (by decide) hS
          have k26 : mm_k M21 v12 = (6, 17) := ks_S k20 (by decide) hS
          show go_W mt_X10_hand fr_C 64 [some (pv_r a0), some (pv_i x1), some (pv_i x2), some (pv_i x3), some (pv_r v2), some (pv_r v5), some (pv_r v12)] [pv_r v22] M21 (qi_ P)
          refine go_pop pv_1r dX10_hand_64 ?_
          refine go_aload dX10_hand_65 rfl ?_
          refine go_aload dX10_hand_67 rfl ?_
          refine go_iload_n dX10_hand_69 rfl ?_
          refine go_aload_n dX10_hand_70 rfl ?_
          refine go_getI (k := 11) ⟨by decide, rfl, by decide, rfl⟩ k23 fl_X10_108 dX10_hand_71 ?_
          refine go_aload_n dX10_hand_74 rfl ?_
          refine go_getR (k := 0) ⟨by decide, rfl, by decide, Or.inl ⟨_, rfl⟩⟩ k23 fl_X10_10 dX10_hand_75 ?_
          obtain ⟨k27, H⟩ := H
          refine go_getR (k := 3) ⟨by decide, rfl, by decide, Or.inr ⟨_, rfl⟩⟩ k27 fl_X10_111 dX10_hand_78 ?_
          refine go_iconst (v := (1 : Int32)) rfl dX10_hand_81 ?_
          obtain ⟨l28, k29, H⟩ := H
          obtain ⟨hb30, H⟩ := H
          refine go_ialdA (j := 1) k29 rfl hb30 dX10_hand_82 ?_
          refine go_iadd dX10_hand_83 ?_
          refine go_V (av := [pv_r v5, pv_i x2, pv_i (mm_i M21 a0 11 + mm_i M21 (mm_r M21 (mm_r M21 a0 0) 3) 1)]) (st := []) (ci := 6) ok_X6_giveTo ⟨by decide, by decide⟩ ml_X10_129 rfl (by decide) (fun v hv => by simp only [List.mem_cons, List.not_mem_nil, or_false] at hv; rcases hv with rfl | rfl | rfl <;> first | exact pv_1i | exact pv_1r) (Nat.le_of_ble_eq_true rfl) (fun _ h => h) (by decide) rfl k26 dX10_hand_84 H (fun r M31 hq hS => ?_)
          obtain ⟨rfl, H⟩ := hq
          have k32 : mm_k M31 a0 = (10, 14) := ks_S k23 (by decide) hS
          have k33 : mm_k M31 v2 = (9, 5) := ks_S k24 (by decide) hS
          have k34 : mm_k M31 v5 = (9, 5) := ks_S k25 (by decide) hS
          have k35 : mm_k M31 v12 = (6, 17) := ks_S k26 (by decide) hS
          have k36 : mm_k M31 (mm_r M21 a0 0) = (0, 4) := ks_S k27 (by decide) hS
          have k37 : ak_ M31 (mm_r M21 (mm_r M21 a0 0) 3) 0 l28 := ak_S k29 hS
          show go_W mt_X10_hand fr_C 87 [some (pv_r a0), some (pv_i x1), some (pv_i x2), some (pv_i x3), some (pv_r v2), some (pv_r v5), some (pv_r v12)] [] M31 (qi_ P)
          refine go_aload dX10_hand_87 rfl ?_
          refine go_getI (k := 0) ⟨by decide, rfl, by decide, rfl⟩ k35 fl_X10_95 dX10_hand_89 ?_
          exact go_iret rfl rfl dX10_hand_92 ⟨_, rfl, H⟩
        · replace H := H.2 hc
          refine go_aload_n dX10_hand_52 rfl ?_
          refine go_bipush (v := (-3 : Int32)) rfl dX10_hand_53 ?_
          refine go_V (av := [pv_i (-3 : Int32)]) (st := []) (ci := 10) ok_X10_counted ⟨by decide, by decide⟩ ml_X10_76 rfl (by decide) (fun v hv => by simp only [List.mem_cons, List.not_mem_nil, or_false] at hv; rcases hv with rfl <;> first | exact pv_1i | exact pv_1r) (Nat.le_of_ble_eq_true rfl) (fun _ h => h) (by decide) rfl k13 dX10_hand_55 H (fun r M38 hq hS => ?_)
          obtain ⟨v39, rfl, H⟩ := hq
          have k40 : mm_k M38 a0 = (10, 14) := ks_S k13 (by decide) hS
          have k41 : mm_k M38 v2 = (9, 5) := ks_S k14 (by decide) hS
          have k42 : mm_k M38 v5 = (9, 5) := ks_S k19 (by decide) hS
          show go_W mt_X10_hand fr_C 58 [some (pv_r a0), some (pv_i x1), some (pv_i x2), some (pv_i x3), some (pv_r v2), some (pv_r v5), some (pv_r v12)] [pv_i v39] M38 (qi_ P)
          exact go_iret rfl rfl dX10_hand_58 ⟨_, rfl, H⟩
    · replace H := H.2 hc
      refine go_aload_n dX10_hand_24 rfl ?_
      refine go_bipush (v := (-2 : Int32)) rfl dX10_hand_25 ?_
      refine go_V (av := [pv_i (-2 : Int32)]) (st := []) (ci := 10) ok_X10_counted ⟨by decide, by decide⟩ ml_X10_76 rfl (by decide) (fun v hv => by simp only [List.mem_cons, List.not_mem_nil, or_false] at hv; rcases hv with rfl <;> first | exact pv_1i | exact pv_1r) (Nat.le_of_ble_eq_true rfl) (fun _ h => h) (by decide) rfl k6 dX10_hand_27 H (fun r M43 hq hS => ?_)
      obtain ⟨v44, rfl, H⟩ := hq
      have k45 : mm_k M43 a0 = (10, 14) := ks_S k6 (by decide) hS
      show go_W mt_X10_hand fr_C 30 [some (pv_r a0), some (pv_i x1), some (pv_i x2), some (pv_i x3), some (pv_r v2), some (pv_r v5), none] [pv_i v44] M43 (qi_ P)
      exact go_iret rfl rfl dX10_hand_30 ⟨_, rfl, H⟩
set_option maxRecDepth 20000 in
theorem wc_X10_every_0 {M : mm_T} {a0 : Nat} {x1 x2 x3 x4 x5 : Int32} {P : Int32 → mm_T → Prop} (K0 : mm_k M a0 = (10, 14)) (H : mm_k M (mm_r M a0 0) = (0, 4) ∧ (cs_r mt_X0_laneAt [pv_r (mm_r M a0 0), pv_i x1] M (fun v3 M2 => (((v3 = 0) → cs_i mt_X10_counted [pv_r a0, pv_i (-2 : Int32)] M2 (fun v7 M6 => P v7 M6)) ∧ ((¬ v3 = 0) → cs_i mt_X10_isWork [pv_i x2, pv_i x3, pv_i x4] M2 (fun v11 M10 => (((v11 = 0) → cs_i mt_X10_counted [pv_r a0, pv_i (-2 : Int32)] M10 (fun v15 M14 => P v15 M14)) ∧ ((¬ v11 = 0) → (((x5 < (1 : Int32)) → cs_i mt_X10_counted [pv_r a0, pv_i (-2 : Int32)] M10 (fun v19 M18 => P v19 M18)) ∧ ((¬ x5 < (1 : Int32)) → (((x5 ≤ (99 : Int32)) → (((mm_i M10 a0 10 < (12 : Int32)) → (mm_n M10 + 1 ≤ nb_ ∧ mm_t M10 (mm_n M10) + 8 ≤ sb_) ∧ (∀ M22, M22 = mm_w M10 7 8 → cs_v mt_X7_init [pv_r (mm_n M10), pv_r v3, pv_i x2, pv_i x3, pv_i x4, pv_i x5, pv_i (mm_i M22 a0 11 + x5)] M22 (fun M26 => ∃ l30, ak_ M26 (mm_r M10 a0 6) 4 l30 ∧ (∃ n33, (mm_i M10 a0 10 = nI n33 ∧ n33 < l30) ∧ (∀ M34, M34 = mm_pr M26 (mm_r M10 a0 6) n33 (mm_n M10) → ∀ M39, M39 = mm_pi M34 a0 10 (mm_i M34 a0 10 + (1 : Int32)) → P (mm_i M39 a0 10 - (1 : Int32)) M39))))) ∧ ((¬ mm_i M10 a0 10 < (12 : Int32)) → cs_i mt_X10_counted [pv_r a0, pv_i (-6 : Int32)] M10 (fun v45 M44 => P v45 M44)))) ∧ ((¬ x5 ≤ (99 : Int32)) → cs_i mt_X10_counted [pv_r a0, pv_i (-2 : Int32)] M10 (fun v49 M48 => P v49 M48))))))))))))) : cw_i mt_X10_every 0 [some (pv_r a0), some (pv_i x1), some (pv_i x2), some (pv_i x3), some (pv_i x4), some (pv_i x5), none] [] M P := by
  refine go_aload_n dX10_every_0 rfl ?_
  refine go_getR (k := 0) ⟨by decide, rfl, by decide, Or.inl ⟨_, rfl⟩⟩ K0 fl_X10_10 dX10_every_1 ?_
  refine go_iload_n dX10_every_4 rfl ?_
  obtain ⟨k1, H⟩ := H
  refine go_V (av := [pv_i x1]) (st := []) (ci := 0) ok_X0_laneAt ⟨by decide, by decide⟩ ml_X10_133 rfl (by decide) (fun v hv => by simp only [List.mem_cons, List.not_mem_nil, or_false] at hv; rcases hv with rfl <;> first | exact pv_1i | exact pv_1r) (Nat.le_of_ble_eq_true rfl) (fun _ h => h) (by decide) rfl k1 dX10_every_5 H (fun r M2 hq hS => ?_)
  obtain ⟨v3, rfl, H⟩ := hq
  have k4 : mm_k M2 a0 = (10, 14) := ks_S K0 (by decide) hS
  have k5 : mm_k M2 (mm_r M a0 0) = (0, 4) := ks_S k1 (by decide) hS
  show go_W mt_X10_every fr_C 8 [some (pv_r a0), some (pv_i x1), some (pv_i x2), some (pv_i x3), some (pv_i x4), some (pv_i x5), none] [pv_r v3] M2 (qi_ P)
  refine go_astore (by decide) dX10_every_8 ?_
  show go_W mt_X10_every fr_C 10 [some (pv_r a0), some (pv_i x1), some (pv_i x2), some (pv_i x3), some (pv_i x4), some (pv_i x5), some (pv_r v3)] [] M2 (qi_ P)
  refine go_aload dX10_every_10 rfl ?_
  refine go_ifnull (tgt := 38) dX10_every_12 (by decide) (fun hc => ?_) (fun hc => ?_)
  · replace H := H.1 hc
    refine go_aload_n dX10_every_38 rfl ?_
    refine go_bipush (v := (-2 : Int32)) rfl dX10_every_39 ?_
    refine go_V (av := [pv_i (-2 : Int32)]) (st := []) (ci := 10) ok_X10_counted ⟨by decide, by decide⟩ ml_X10_76 rfl (by decide) (fun v hv => by simp only [List.mem_cons, List.not_mem_nil, or_false] at hv; rcases hv with rfl <;> first | exact pv_1i | exact pv_1r) (Nat.le_of_ble_eq_true rfl) (fun _ h => h) (by decide) rfl k4 dX10_every_41 H (fun r M6 hq hS => ?_)
    obtain ⟨v7, rfl, H⟩ := hq
    have k8 : mm_k M6 a0 = (10, 14) := ks_S k4 (by decide) hS
    have k9 : mm_k M6 (mm_r M a0 0) = (0, 4) := ks_S k5 (by decide) hS
    show go_W mt_X10_every fr_C 44 [some (pv_r a0), some (pv_i x1), some (pv_i x2), some (pv_i x3), some (pv_i x4), some (pv_i x5), some (pv_r v3)] [pv_i v7] M6 (qi_ P)
    exact go_iret rfl rfl dX10_every_44 ⟨_, rfl, H⟩
  · replace H := H.2 hc
    refine go_iload_n dX10_every_15 rfl ?_
    refine go_iload_n dX10_every_16 rfl ?_
    refine go_iload dX10_every_17 rfl ?_
    refine go_St (av := [pv_i x2, pv_i x3, pv_i x4]) (st := []) ok_X10_isWork ⟨by decide, by decide⟩ ml_X10_137 rfl (by decide) (fun v hv => by simp only [List.mem_cons, List.not_mem_nil, or_false] at hv; rcases hv with rfl | rfl | rfl <;> first | exact pv_1i | exact pv_1r) (Nat.le_of_ble_eq_true rfl) (fun _ h => h) dX10_every_19 H (fun r M10 hq hS => ?_)
    obtain ⟨v11, rfl, H⟩ := hq
    have k12 : mm_k M10 a0 = (10, 14) := ks_S k4 (by decide) hS
    have k13 : mm_k M10 (mm_r M a0 0) = (0, 4) := ks_S k5 (by decide) hS
    show go_W mt_X10_every fr_C 22 [some (pv_r a0), some (pv_i x1), some (pv_i x2), some (pv_i x3), some (pv_i x4), some (pv_i x5), some (pv_r v3)] [pv_i v11] M10 (qi_ P)
    refine go_if_eq (tgt := 38) dX10_every_22 (by decide) (fun hc => ?_) (fun hc => ?_)
    · replace H := H.1 hc
      refine go_aload_n dX10_every_38 rfl ?_
      refine go_bipush (v := (-2 : Int32)) rfl dX10_every_39 ?_
      refine go_V (av := [pv_i (-2 : Int32)]) (st := []) (ci := 10) ok_X10_counted ⟨by decide, by decide⟩ ml_X10_76 rfl (by decide) (fun v hv => by simp only [List.mem_cons, List.not_mem_nil, or_false] at hv; rcases hv with rfl <;> first | exact pv_1i | exact pv_1r) (Nat.le_of_ble_eq_true rfl) (fun _ h => h) (by decide) rfl k12 dX10_every_41 H (fun r M14 hq hS => ?_)
      obtain ⟨v15, rfl, H⟩ := hq
      have k16 : mm_k M14 a0 = (10, 14) := ks_S k12 (by decide) hS
      have k17 : mm_k M14 (mm_r M a0 0) = (0, 4) := ks_S k13 (by decide) hS
      show go_W mt_X10_every fr_C 44 [some (pv_r a0), some (pv_i x1), some (pv_i x2), some (pv_i x3), some (pv_i x4), some (pv_i x5), some (pv_r v3)] [pv_i v15] M14 (qi_ P)
      exact go_iret rfl rfl dX10_every_44 ⟨_, rfl, H⟩
    · replace H := H.2 hc
      refine go_iload dX10_every_25 rfl ?_
      refine go_iconst (v := (1 : Int32)) rfl dX10_every_27 ?_
      refine go_icmp_lt (tgt := 38) dX10_every_28 (by decide) (fun hc => ?_) (fun hc => ?_)
      · replace H := H.1 hc
        refine go_aload_n dX10_every_38 rfl ?_
        refine go_bipush (v := (-2 : Int32)) rfl dX10_every_39 ?_
        refine go_V (av := [pv_i (-2 : Int32)]) (st := []) (ci := 10) ok_X10_counted ⟨by decide, by decide⟩ ml_X10_76 rfl (by decide) (fun v hv => by simp only [List.mem_cons, List.not_mem_nil, or_false] at hv; rcases hv with rfl <;> first | exact pv_1i | exact pv_1r) (Nat.le_of_ble_eq_true rfl) (fun _ h => h) (by decide) rfl k12 dX10_every_41 H (fun r M18 hq hS => ?_)
        obtain ⟨v19, rfl, H⟩ := hq
        have k20 : mm_k M18 a0 = (10, 14) := ks_S k12 (by decide) hS
        have k21 : mm_k M18 (mm_r M a0 0) = (0, 4) := ks_S k13 (by decide) hS
        show go_W mt_X10_every fr_C 44 [some (pv_r a0), some (pv_i x1), some (pv_i x2), some (pv_i x3), some (pv_i x4), some (pv_i x5), some (pv_r v3)] [pv_i v19] M18 (qi_ P)
        exact go_iret rfl rfl dX10_every_44 ⟨_, rfl, H⟩
      · replace H := H.2 hc
        refine go_iload dX10_every_31 rfl ?_
        refine go_bipush (v := (99 : Int32)) rfl dX10_every_33 ?_
        refine go_icmp_le (tgt := 45) dX10_every_35 (by decide) (fun hc => ?_) (fun hc => ?_)
        · replace H := H.1 hc
          refine go_aload_n dX10_every_45 rfl ?_
          refine go_getI (k := 10) ⟨by decide, rfl, by decide, rfl⟩ k12 fl_X10_141 dX10_every_46 ?_
          refine go_bipush (v := (12 : Int32)) rfl dX10_every_49 ?_
          refine go_icmp_lt (tgt := 61) dX10_every_51 (by decide) (fun hc => ?_) (fun hc => ?_)
          · replace H := H.1 hc
            refine go_aload_n dX10_every_61 rfl ?_
            refine go_getR (k := 6) ⟨by decide, rfl, by decide, Or.inr ⟨_, rfl⟩⟩ k12 fl_X10_47 dX10_every_62 ?_
            refine go_aload_n dX10_every_65 rfl ?_
            refine go_getI (k := 10) ⟨by decide, rfl, by decide, rfl⟩ k12 fl_X10_141 dX10_every_66 ?_
            obtain ⟨hr, H⟩ := H
            refine go_new (ci := 7) (N := 8) (by decide) rfl kl_X10_45 nw_X7 ni_X7 hr.1 hr.2 dX10_every_69 ?_
            show go_W mt_X10_every fr_C 72 [some (pv_r a0), some (pv_i x1), some (pv_i x2), some (pv_i x3), some (pv_i x4), some (pv_i x5), some (pv_r v3)] [pv_r (mm_n M10), pv_i (mm_i M10 a0 10), pv_r (mm_r M10 a0 6)] (mm_w M10 7 8) (qi_ P)
            obtain ⟨M22, hM22⟩ : ∃ M', M' = mm_w M10 7 8 := ⟨_, rfl⟩
            have k23 : mm_k M22 a0 = (10, 14) := (by rw [hM22]; exact ks_S k12 (by decide) (mm_S_w (fr := fr_C)))
            have k24 : mm_k M22 (mm_r M a0 0) = (0, 4) := (by rw [hM22]; exact ks_S k13 (by decide) (mm_S_w (fr := fr_C)))
            have k25 : mm_k M22 (mm_n M10) = (7, 8) := by rw [hM22]; exact mm_k_w
            rw [← hM22]
            replace H := H M22 hM22
            refine go_dup pv_1r dX10_every_72 ?_
            refine go_aload dX10_every_73 rfl ?_
            refine go_iload_n dX10_every_75 rfl ?_
            refine go_iload_n dX10_every_76 rfl ?_
            refine go_iload dX10_every_77 rfl ?_
            refine go_iload dX10_every_79 rfl ?_
            refine go_aload_n dX10_every_81 rfl ?_
            refine go_getI (k := 11) ⟨by decide, rfl, by decide, rfl⟩ k23 fl_X10_108 dX10_every_82 ?_
            refine go_iload dX10_every_85 rfl ?_
            refine go_iadd dX10_every_87 ?_
            refine go_InK (av := [pv_r v3, pv_i x2, pv_i x3, pv_i x4, pv_i x5, pv_i (mm_i M22 a0 11 + x5)]) (st := [pv_r (mm_n M10), pv_i (mm_i M10 a0 10), pv_r (mm_r M10 a0 6)]) (by decide) k25 ok_X7_init ⟨by decide, by decide⟩ ml_X10_144 rfl (by decide) (fun v hv => by simp only [List.mem_cons, List.not_mem_nil, or_false] at hv; rcases hv with rfl | rfl | rfl | rfl | rfl | rfl <;> first | exact pv_1i | exact pv_1r) (Nat.le_of_ble_eq_true rfl) (fun _ h => h) dX10_every_88 H (fun r M26 hq hS => ?_)
            obtain ⟨rfl, H⟩ := hq
            have k27 : mm_k M26 a0 = (10, 14) := ks_S k23 (by decide) hS
            have k28 : mm_k M26 (mm_r M a0 0) = (0, 4) := ks_S k24 (by decide) hS
            have k29 : mm_k M26 (mm_n M10) = (7, 8) := ks_S k25 (by decide) hS
            show go_W mt_X10_every fr_C 91 [some (pv_r a0), some (pv_i x1), some (pv_i x2), some (pv_i x3), some (pv_i x4), some (pv_i x5), some (pv_r v3)] [pv_r (mm_n M10), pv_i (mm_i M10 a0 10), pv_r (mm_r M10 a0 6)] M26 (qi_ P)
            obtain ⟨l30, k31, H⟩ := H
            obtain ⟨n33, ⟨hn33, hn33b⟩, H⟩ := H
            refine go_aastA (j := n33) k31 (by decide) (Or.inr k29) hn33 hn33b dX10_every_91 ?_
            show go_W mt_X10_every fr_C 92 [some (pv_r a0), some (pv_i x1), some (pv_i x2), some (pv_i x3), some (pv_i x4), some (pv_i x5), some (pv_r v3)] [] (mm_pr M26 (mm_r M10 a0 6) n33 (mm_n M10)) (qi_ P)
            obtain ⟨M34, hM34⟩ : ∃ M', M' = mm_pr M26 (mm_r M10 a0 6) n33 (mm_n M10) := ⟨_, rfl⟩
            have k35 : mm_k M34 a0 = (10, 14) := (by rw [hM34]; exact k27)
            have k36 : mm_k M34 (mm_r M a0 0) = (0, 4) := (by rw [hM34]; exact k28)
            have k37 : mm_k M34 (mm_n M10) = (7, 8) := (by rw [hM34]; exact k29)
            have k38 : ak_ M34 (mm_r M10 a0 6) 4 l30 := (by rw [hM34]; exact k31)
            rw [← hM34]
            replace H := H M34 hM34
            refine go_aload_n dX10_every_92 rfl ?_
            refine go_dup pv_1r dX10_every_93 ?_
            refine go_getI (k := 10) ⟨by decide, rfl, by decide, rfl⟩ k35 fl_X10_141 dX10_every_94 ?_
            refine go_iconst (v := (1 : Int32)) rfl dX10_every_97 ?_
            refine go_iadd dX10_every_98 ?_
            refine go_putI (k := 10) ⟨by decide, rfl, by decide, rfl⟩ k35 rfl (Or.inl rfl) fl_X10_141 dX10_every_99 ?_
            show go_W mt_X10_every fr_C 102 [some (pv_r a0), some (pv_i x1), some (pv_i x2), some (pv_i x3), some (pv_i x4), some (pv_i x5), some (pv_r v3)] [] (mm_pi M34 a0 10 (mm_i M34 a0 10 + (1 : Int32))) (qi_ P)
            obtain ⟨M39, hM39⟩ : ∃ M', M' = mm_pi M34 a0 10 (mm_i M34 a0 10 + (1 : Int32)) := ⟨_, rfl⟩
            have k40 : mm_k M39 a0 = (10, 14) := (by rw [hM39]; exact k35)
            have k41 : mm_k M39 (mm_r M a0 0) = (0, 4) := (by rw [hM39]; exact k36)
            have k42 : mm_k M39 (mm_n M10) = (7, 8) := (by rw [hM39]; exact k37)
            have k43 : ak_ M39 (mm_r M10 a0 6) 4 l30 := (by rw [hM39]; exact k38)
            rw [← hM39]
            replace H := H M39 hM39
            refine go_aload_n dX10_every_102 rfl ?_
            refine go_getI (k := 10) ⟨by decide, rfl, by decide, rfl⟩ k40 fl_X10_141 dX10_every_103 ?_
            refine go_iconst (v := (1 : Int32)) rfl dX10_every_106 ?_
            refine go_isub dX10_every_107 ?_
            exact go_iret rfl rfl dX10_every_108 ⟨_, rfl, H⟩
          · replace H := H.2 hc
            refine go_aload_n dX10_every_54 rfl ?_
            refine go_bipush (v := (-6 : Int32)) rfl dX10_every_55 ?_
            refine go_V (av := [pv_i (-6 : Int32)]) (st := []) (ci := 10) ok_X10_counted ⟨by decide, by decide⟩ ml_X10_76 rfl (by decide) (fun v hv => by simp only [List.mem_cons, List.not_mem_nil, or_false] at hv; rcases hv with rfl <;> first | exact pv_1i | exact pv_1r) (Nat.le_of_ble_eq_true rfl) (fun _ h => h) (by decide) rfl k12 dX10_every_57 H (fun r M44 hq hS => ?_)
            obtain ⟨v45, rfl, H⟩ := hq
            have k46 : mm_k M44 a0 = (10, 14) := ks_S k12 (by decide) hS
            have k47 : mm_k M44 (mm_r M a0 0) = (0, 4) := ks_S k13 (by decide) hS
            show go_W mt_X10_every fr_C 60 [some (pv_r a0), some (pv_i x1), some (pv_i x2), some (pv_i x3), some (pv_i x4), some (pv_i x5), some (pv_r v3)] [pv_i v45] M44 (qi_ P)
            exact go_iret rfl rfl dX10_every_60 ⟨_, rfl, H⟩
        · replace H := H.2 hc
          refine go_aload_n dX10_every_38 rfl ?_
          refine go_bipush (v := (-2 : Int32)) rfl dX10_every_39 ?_
          refine go_V (av := [pv_i (-2 : Int32)]) (st := []) (ci := 10) ok_X10_counted ⟨by decide, by decide⟩ ml_X10_76 rfl (by decide) (fun v hv => by simp only [List.mem_cons, List.not_mem_nil, or_false] at hv; rcases hv with rfl <;> first | exact pv_1i | exact pv_1r) (Nat.le_of_ble_eq_true rfl) (fun _ h => h) (by decide) rfl k12 dX10_every_41 H (fun r M48 hq hS => ?_)
          obtain ⟨v49, rfl, H⟩ := hq
          have k50 : mm_k M48 a0 = (10, 14) := ks_S k12 (by decide) hS
          have k51 : mm_k M48 (mm_r M a0 0) = (0, 4) := ks_S k13 (by decide) hS
          show go_W mt_X10_every fr_C 44 [some (pv_r a0), some (pv_i x1), some (pv_i x2), some (pv_i x3), some (pv_i x4), some (pv_i x5), some (pv_r v3)] [pv_i v49] M48 (qi_ P)
          exact go_iret rfl rfl dX10_every_44 ⟨_, rfl, H⟩
set_option maxRecDepth 20000 in
theorem wc_X10_stop_0 {M : mm_T} {a0 : Nat} {x1 : Int32} {P : Int32 → mm_T → Prop} (K0 : mm_k M a0 = (10, 14)) (H : cs_r mt_X10_timerAt [pv_r a0, pv_i x1] M (fun v2 M1 => (((¬ v2 = 0) → mm_k M1 v2 = (7, 8) ∧ ((((¬ mm_i M1 v2 7 = (-1 : Int32)) → ∀ M5, M5 = mm_pi M1 v2 7 (-1 : Int32) → P (mm_i M5 v2 5) M5) ∧ ((mm_i M1 v2 7 = (-1 : Int32)) → cs_i mt_X10_counted [pv_r a0, pv_i (-3 : Int32)] M1 (fun v9 M8 => P v9 M8))))) ∧ ((v2 = 0) → cs_i mt_X10_counted [pv_r a0, pv_i (-2 : Int32)] M1 (fun v13 M12 => P v13 M12))))) : cw_i mt_X10_stop 0 [some (pv_r a0), some (pv_i x1), none] [] M P := by
  refine go_aload_n dX10_stop_0 rfl ?_
  refine go_iload_n dX10_stop_1 rfl ?_
  refine go_V (av := [pv_i x1]) (st := []) (ci := 10) ok_X10_timerAt ⟨by decide, by decide⟩ ml_X10_147 rfl (by decide) (fun v hv => by simp only [List.mem_cons, List.not_mem_nil, or_false] at hv; rcases hv with rfl <;> first | exact pv_1i | exact pv_1r) (Nat.le_of_ble_eq_true rfl) (fun _ h => h) (by decide) rfl K0 dX10_stop_2 H (fun r M1 hq hS => ?_)
  obtain ⟨v2, rfl, H⟩ := hq
  have k3 : mm_k M1 a0 = (10, 14) := ks_S K0 (by decide) hS
  show go_W mt_X10_stop fr_C 5 [some (pv_r a0), some (pv_i x1), none] [pv_r v2] M1 (qi_ P)
  refine go_astore_n (by decide) dX10_stop_5 ?_
  show go_W mt_X10_stop fr_C 6 [some (pv_r a0), some (pv_i x1), some (pv_r v2)] [] M1 (qi_ P)
  refine go_aload_n dX10_stop_6 rfl ?_
  refine go_ifnonnull (tgt := 17) dX10_stop_7 (by decide) (fun hc => ?_) (fun hc => ?_)
  · replace H := H.1 hc
    refine go_aload_n dX10_stop_17 rfl ?_
    obtain ⟨k4, H⟩ := H
    refine go_getI (k := 7) ⟨by decide, rfl, by decide, rfl⟩ k4 fl_X10_151 dX10_stop_18 ?_
    refine go_iconst (v := (-1 : Int32)) rfl dX10_stop_21 ?_
    refine go_icmp_ne (tgt := 32) dX10_stop_22 (by decide) (fun hc => ?_) (fun hc => ?_)
    · replace H := H.1 hc
      refine go_aload_n dX10_stop_32 rfl ?_
      refine go_iconst (v := (-1 : Int32)) rfl dX10_stop_33 ?_
      refine go_putI (k := 7) ⟨by decide, rfl, by decide, rfl⟩ k4 rfl (Or.inl rfl) fl_X10_151 dX10_stop_34 ?_
      show go_W mt_X10_stop fr_C 37 [some (pv_r a0), some (pv_i x1), some (pv_r v2)] [] (mm_pi M1 v2 7 (-1 : Int32)) (qi_ P)
      obtain ⟨M5, hM5⟩ : ∃ M', M' = mm_pi M1 v2 7 (-1 : Int32) := ⟨_, rfl⟩
      have k6 : mm_k M5 a0 = (10, 14) := (by rw [hM5]; exact k3)
      have k7 : mm_k M5 v2 = (7, 8) := (by rw [hM5]; exact k4)
      rw [← hM5]
      replace H := H M5 hM5
      refine go_aload_n dX10_stop_37 rfl ?_
      refine go_getI (k := 5) ⟨by decide, rfl, by decide, rfl⟩ k7 fl_X10_154 dX10_stop_38 ?_
      exact go_iret rfl rfl dX10_stop_41 ⟨_, rfl, H⟩
    · replace H := H.2 hc
      refine go_aload_n dX10_stop_25 rfl ?_
      refine go_bipush (v := (-3 : Int32)) rfl dX10_stop_26 ?_
      refine go_V (av := [pv_i (-3 : Int32)]) (st := []) (ci := 10) ok_X10_counted ⟨by decide, by decide⟩ ml_X10_76 rfl (by decide) (fun v hv => by simp only [List.mem_cons, List.not_mem_nil, or_false] at hv; rcases hv with rfl <;> first | exact pv_1i | exact pv_1r) (Nat.le_of_ble_eq_true rfl) (fun _ h => h) (by decide) rfl k3 dX10_stop_28 H (fun r M8 hq hS => ?_)
      obtain ⟨v9, rfl, H⟩ := hq
      have k10 : mm_k M8 a0 = (10, 14) := ks_S k3 (by decide) hS
      have k11 : mm_k M8 v2 = (7, 8) := ks_S k4 (by decide) hS
      show go_W mt_X10_stop fr_C 31 [some (pv_r a0), some (pv_i x1), some (pv_r v2)] [pv_i v9] M8 (qi_ P)
      exact go_iret rfl rfl dX10_stop_31 ⟨_, rfl, H⟩
  · replace H := H.2 hc
    refine go_aload_n dX10_stop_10 rfl ?_
    refine go_bipush (v := (-2 : Int32)) rfl dX10_stop_11 ?_
    refine go_V (av := [pv_i (-2 : Int32)]) (st := []) (ci := 10) ok_X10_counted ⟨by decide, by decide⟩ ml_X10_76 rfl (by decide) (fun v hv => by simp only [List.mem_cons, List.not_mem_nil, or_false] at hv; rcases hv with rfl <;> first | exact pv_1i | exact pv_1r) (Nat.le_of_ble_eq_true rfl) (fun _ h => h) (by decide) rfl k3 dX10_stop_13 H (fun r M12 hq hS => ?_)
    obtain ⟨v13, rfl, H⟩ := hq
    have k14 : mm_k M12 a0 = (10, 14) := ks_S k3 (by decide) hS
    show go_W mt_X10_stop fr_C 16 [some (pv_r a0), some (pv_i x1), some (pv_r v2)] [pv_i v13] M12 (qi_ P)
    exact go_iret rfl rfl dX10_stop_16 ⟨_, rfl, H⟩
set_option maxRecDepth 20000 in
theorem wc_X10_tick_0 {M : mm_T} {a0 : Nat} {x1 : Int32} {P : Int32 → mm_T → Prop} (K0 : mm_k M a0 = (10, 14)) (H : (((x1 < (1 : Int32)) → cs_i mt_X10_counted [pv_r a0, pv_i (-2 : Int32)] M (fun v2 M1 => P v2 M1)) ∧ ((¬ x1 < (1 : Int32)) → (((x1 ≤ (99 : Int32)) → cw_i mt_X10_tick 20 [some (pv_r a0), some (pv_i x1), some (pv_i (0 : Int32))] [] M P) ∧ ((¬ x1 ≤ (99 : Int32)) → cs_i mt_X10_counted [pv_r a0, pv_i (-2 : Int32)] M (fun v5 M4 => P v5 M4)))))) : cw_i mt_X10_tick 0 [some (pv_r a0), some (pv_i x1), none] [] M P := by
  refine go_iload_n dX10_tick_0 rfl ?_
  refine go_iconst (v := (1 : Int32)) rfl dX10_tick_1 ?_
  refine go_icmp_lt (tgt := 11) dX10_tick_2 (by decide) (fun hc => ?_) (fun hc => ?_)
  · replace H := H.1 hc
    refine go_aload_n dX10_tick_11 rfl ?_
    refine go_bipush (v := (-2 : Int32)) rfl dX10_tick_12 ?_
    refine go_V (av := [pv_i (-2 : Int32)]) (st := []) (ci := 10) ok_X10_counted ⟨by decide, by decide⟩ ml_X10_76 rfl (by decide) (fun v hv => by simp only [List.mem_cons, List.not_mem_nil, or_false] at hv; rcases hv with rfl <;> first | exact pv_1i | exact pv_1r) (Nat.le_of_ble_eq_true rfl) (fun _ h => h) (by decide) rfl K0 dX10_tick_14 H (fun r M1 hq hS => ?_)
    obtain ⟨v2, rfl, H⟩ := hq
    have k3 : mm_k M1 a0 = (10, 14) := ks_S K0 (by decide) hS
    show go_W mt_X10_tick fr_C 17 [some (pv_r a0), some (pv_i x1), none] [pv_i v2] M1 (qi_ P)
    exact go_iret rfl rfl dX10_tick_17 ⟨_, rfl, H⟩
  · replace H := H.2 hc
    refine go_iload_n dX10_tick_5 rfl ?_
    refine go_bipush (v := (99 : Int32)) rfl dX10_tick_6 ?_
    refine go_icmp_le (tgt := 18) dX10_tick_8 (by decide) (fun hc => ?_) (fun hc => ?_)
    · replace H := H.1 hc
      refine go_iconst (v := (0 : Int32)) rfl dX10_tick_18 ?_
      refine go_istore_n (by decide) dX10_tick_19 ?_
      show go_W mt_X10_tick fr_C 20 [some (pv_r a0), some (pv_i x1), some (pv_i (0 : Int32))] [] M (qi_ P)
      exact H
    · replace H := H.2 hc
      refine go_aload_n dX10_tick_11 rfl ?_
      refine go_bipush (v := (-2 : Int32)) rfl dX10_tick_12 ?_
      refine go_V (av := [pv_i (-2 : Int32)]) (st := []) (ci := 10) ok_X10_counted ⟨by decide, by decide⟩ ml_X10_76 rfl (by decide) (fun v hv => by simp only [List.mem_cons, List.not_mem_nil, or_false] at hv; rcases hv with rfl <;> first | exact pv_1i | exact pv_1r) (Nat.le_of_ble_eq_true rfl) (fun _ h => h) (by decide) rfl K0 dX10_tick_14 H (fun r M4 hq hS => ?_)
      obtain ⟨v5, rfl, H⟩ := hq
      have k6 : mm_k M4 a0 = (10, 14) := ks_S K0 (by decide) hS
      show go_W mt_X10_tick fr_C 17 [some (pv_r a0), some (pv_i x1), none] [pv_i v5] M4 (qi_ P)
      exact go_iret rfl rfl dX10_tick_17 ⟨_, rfl, H⟩
set_option maxRecDepth 20000 in
theorem wc_X10_tick_20 {M : mm_T} {a0 : Nat} {x1 x2 : Int32} {P : Int32 → mm_T → Prop} (K0 : mm_k M a0 = (10, 14)) (H : (((x1 ≤ x2) → P (mm_i M a0 11) M) ∧ ((¬ x1 ≤ x2) → cs_v mt_X10_oneTick [pv_r a0] M (fun M1 => cw_i mt_X10_tick 20 [some (pv_r a0), some (pv_i x1), some (pv_i (x2 + (1 : Int32)))] [] M1 P)))) : cw_i mt_X10_tick 20 [some (pv_r a0), some (pv_i x1), some (pv_i x2)] [] M P := by
  refine go_iload_n dX10_tick_20 rfl ?_
  refine go_iload_n dX10_tick_21 rfl ?_
  refine go_icmp_ge (tgt := 35) dX10_tick_22 (by decide) (fun hc => ?_) (fun hc => ?_)
  · replace H := H.1 hc
    refine go_aload_n dX10_tick_35 rfl ?_
    refine go_getI (k := 11) ⟨by decide, rfl, by decide, rfl⟩ K0 fl_X10_108 dX10_tick_36 ?_
    exact go_iret rfl rfl dX10_tick_39 ⟨_, rfl, H⟩
  · replace H := H.2 hc
    refine go_aload_n dX10_tick_25 rfl ?_
    refine go_V (av := []) (st := []) (ci := 10) ok_X10_oneTick ⟨by decide, by decide⟩ ml_X10_157 rfl (by decide) (fun v hv => absurd hv List.not_mem_nil) (Nat.le_of_ble_eq_true rfl) (fun _ h => h) (by decide) rfl K0 dX10_tick_26 H (fun r M1 hq hS => ?_)
    obtain ⟨rfl, H⟩ := hq
    have k2 : mm_k M1 a0 = (10, 14) := ks_S K0 (by decide) hS
    show go_W mt_X10_tick fr_C 29 [some (pv_r a0), some (pv_i x1), some (pv_i x2)] [] M1 (qi_ P)
    refine go_iinc (v := (1 : Int32)) (by decide) rfl rfl dX10_tick_29 ?_
    show go_W mt_X10_tick fr_C 32 [some (pv_r a0), some (pv_i x1), some (pv_i (x2 + (1 : Int32)))] [] M1 (qi_ P)
    refine go_goto (tgt := 20) dX10_tick_32 (by decide) ?_
    exact H
set_option maxRecDepth 20000 in
theorem wc_X10_drain_0 {M : mm_T} {a0 : Nat} {x1 : Int32} {P : Int32 → mm_T → Prop} (K0 : mm_k M a0 = (10, 14)) (H : mm_k M (mm_r M a0 0) = (0, 4) ∧ (cs_r mt_X0_laneAt [pv_r (mm_r M a0 0), pv_i x1] M (fun v3 M2 => (((¬ v3 = 0) → mm_k M2 v3 = (3, 14) ∧ ((((mm_i M2 v3 4 = 0) → ∀ M7, M7 = mm_pi M2 v3 4 (1 : Int32) → cs_v mt_X3_closeIfDrained [pv_r v3] M7 (fun M11 => P (mm_i M11 v3 7) M11)) ∧ ((¬ mm_i M2 v3 4 = 0) → cs_i mt_X10_counted [pv_r a0, pv_i (-3 : Int32)] M2 (fun v16 M15 => P v16 M15))))) ∧ ((v3 = 0) → cs_i mt_X10_counted [pv_r a0, pv_i (-2 : Int32)] M2 (fun v21 M20 => P v21 M20)))))) : cw_i mt_X10_drain 0 [some (pv_r a0), some (pv_i x1), none] [] M P := by
  refine go_aload_n dX10_drain_0 rfl ?_
  refine go_getR (k := 0) ⟨by decide, rfl, by decide, Or.inl ⟨_, rfl⟩⟩ K0 fl_X10_10 dX10_drain_1 ?_
  refine go_iload_n dX10_drain_4 rfl ?_
  obtain ⟨k1, H⟩ := H
  refine go_V (av := [pv_i x1]) (st := []) (ci := 0) ok_X0_laneAt ⟨by decide, by decide⟩ ml_X10_133 rfl (by decide) (fun v hv => by simp only [List.mem_cons, List.not_mem_nil, or_false] at hv; rcases hv with rfl <;> first | exact pv_1i | exact pv_1r) (Nat.le_of_ble_eq_true rfl) (fun _ h => h) (by decide) rfl k1 dX10_drain_5 H (fun r M2 hq hS => ?_)
  obtain ⟨v3, rfl, H⟩ := hq
  have k4 : mm_k M2 a0 = (10, 14) := ks_S K0 (by decide) hS
  have k5 : mm_k M2 (mm_r M a0 0) = (0, 4) := ks_S k1 (by decide) hS
  show go_W mt_X10_drain fr_C 8 [some (pv_r a0), some (pv_i x1), none] [pv_r v3] M2 (qi_ P)
  refine go_astore_n (by decide) dX10_drain_8 ?_
  show go_W mt_X10_drain fr_C 9 [some (pv_r a0), some (pv_i x1), some (pv_r v3)] [] M2 (qi_ P)
  refine go_aload_n dX10_drain_9 rfl ?_
  refine go_ifnonnull (tgt := 20) dX10_drain_10 (by decide) (fun hc => ?_) (fun hc => ?_)
  · replace H := H.1 hc
    refine go_aload_n dX10_drain_20 rfl ?_
    obtain ⟨k6, H⟩ := H
    refine go_getI (k := 4) ⟨by decide, rfl, by decide, rfl⟩ k6 fl_X10_160 dX10_drain_21 ?_
    refine go_if_eq (tgt := 34) dX10_drain_24 (by decide) (fun hc => ?_) (fun hc => ?_)
    · replace H := H.1 hc
      refine go_aload_n dX10_drain_34 rfl ?_
      refine go_iconst (v := (1 : Int32)) rfl dX10_drain_35 ?_
      refine go_putI (k := 4) ⟨by decide, rfl, by decide, rfl⟩ k6 rfl (Or.inl rfl) fl_X10_160 dX10_drain_36 ?_
      show go_W mt_X10_drain fr_C 39 [some (pv_r a0), some (pv_i x1), some (pv_r v3)] [] (mm_pi M2 v3 4 (1 : Int32)) (qi_ P)
      obtain ⟨M7, hM7⟩ : ∃ M', M' = mm_pi M2 v3 4 (1 : Int32) := ⟨_, rfl⟩
      have k8 : mm_k M7 a0 = (10, 14) := (by rw [hM7]; exact k4)
      have k9 : mm_k M7 (mm_r M a0 0) = (0, 4) := (by rw [hM7]; exact k5)
      have k10 : mm_k M7 v3 = (3, 14) := (by rw [hM7]; exact k6)
      rw [← hM7]
      replace H := H M7 hM7
      refine go_aload_n dX10_drain_39 rfl ?_
      refine go_V (av := []) (st := []) (ci := 3) ok_X3_closeIfDrained ⟨by decide, by decide⟩ ml_X10_165 rfl (by decide) (fun v hv => absurd hv List.not_mem_nil) (Nat.le_of_ble_eq_true rfl) (fun _ h => h) (by decide) rfl k10 dX10_drain_40 H (fun r M11 hq hS => ?_)
      obtain ⟨rfl, H⟩ := hq
      have k12 : mm_k M11 a0 = (10, 14) := ks_S k8 (by decide) hS
      have k13 : mm_k M11 (mm_r M a0 0) = (0, 4) := ks_S k9 (by decide) hS
      have k14 : mm_k M11 v3 = (3, 14) := ks_S k10 (by decide) hS
      show go_W mt_X10_drain fr_C 43 [some (pv_r a0), some (pv_i x1), some (pv_r v3)] [] M11 (qi_ P)
      refine go_aload_n dX10_drain_43 rfl ?_
      refine go_getI (k := 7) ⟨by decide, rfl, by decide, rfl⟩ k14 fl_X10_168 dX10_drain_44 ?_
      exact go_iret rfl rfl dX10_drain_47 ⟨_, rfl, H⟩
    · replace H := H.2 hc
      refine go_aload_n dX10_drain_27 rfl ?_
      refine go_bipush (v := (-3 : Int32)) rfl dX10_drain_28 ?_
      refine go_V (av := [pv_i (-3 : Int32)]) (st := []) (ci := 10) ok_X10_counted ⟨by decide, by decide⟩ ml_X10_76 rfl (by decide) (fun v hv => by simp only [List.mem_cons, List.not_mem_nil, or_false] at hv; rcases hv with rfl <;> first | exact pv_1i | exact pv_1r) (Nat.le_of_ble_eq_true rfl) (fun _ h => h) (by decide) rfl k4 dX10_drain_30 H (fun r M15 hq hS => ?_)
      obtain ⟨v16, rfl, H⟩ := hq
      have k17 : mm_k M15 a0 = (10, 14) := ks_S k4 (by decide) hS
      have k18 : mm_k M15 (mm_r M a0 0) = (0, 4) := ks_S k5 (by decide) hS
      have k19 : mm_k M15 v3 = (3, 14) := ks_S k6 (by decide) hS
      show go_W mt_X10_drain fr_C 33 [some (pv_r a0), some (pv_i x1), some (pv_r v3)] [pv_i v16] M15 (qi_ P)
      exact go_iret rfl rfl dX10_drain_33 ⟨_, rfl, H⟩
  · replace H := H.2 hc
    refine go_aload_n dX10_drain_13 rfl ?_
    refine go_bipush (v := (-2 : Int32)) rfl dX10_drain_14 ?_
    refine go_V (av := [pv_i (-2 : Int32)]) (st := []) (ci := 10) ok_X10_counted ⟨by decide, by decide⟩ ml_X10_76 rfl (by decide) (fun v hv => by simp only [List.mem_cons, List.not_mem_nil, or_false] at hv; rcases hv with rfl <;> first | exact pv_1i | exact pv_1r) (Nat.le_of_ble_eq_true rfl) (fun _ h => h) (by decide) rfl k4 dX10_drain_16 H (fun r M20 hq hS => ?_)
    obtain ⟨v21, rfl, H⟩ := hq
    have k22 : mm_k M20 a0 = (10, 14) := ks_S k4 (by decide) hS
    have k23 : mm_k M20 (mm_r M a0 0) = (0, 4) := ks_S k5 (by decide) hS
    show go_W mt_X10_drain fr_C 19 [some (pv_r a0), some (pv_i x1), some (pv_r v3)] [pv_i v21] M20 (qi_ P)
    exact go_iret rfl rfl dX10_drain_19 ⟨_, rfl, H⟩
set_option maxRecDepth 20000 in
theorem wc_X10_open_0 {M : mm_T} {a0 : Nat} {x1 : Int32} {P : Int32 → mm_T → Prop} (K0 : mm_k M a0 = (10, 14)) (H : mm_k M (mm_r M a0 0) = (0, 4) ∧ (cs_r mt_X0_laneAt [pv_r (mm_r M a0 0), pv_i x1] M (fun v3 M2 => (((¬ v3 = 0) → mm_k M2 v3 = (3, 14) ∧ ((((¬ mm_i M2 v3 4 = 0) → ∀ M7, M7 = mm_pi M2 v3 4 (0 : Int32) → P (0 : Int32) M7) ∧ ((mm_i M2 v3 4 = 0) → cs_i mt_X10_counted [pv_r a0, pv_i (-3 : Int32)] M2 (fun v12 M11 => P v12 M11))))) ∧ ((v3 = 0) → cs_i mt_X10_counted [pv_r a0, pv_i (-2 : Int32)] M2 (fun v17 M16 => P v17 M16)))))) : cw_i mt_X10_open 0 [some (pv_r a0), some (pv_i x1), none] [] M P := by
  refine go_aload_n dX10_open_0 rfl ?_
  refine go_getR (k := 0) ⟨by decide, rfl, by decide, Or.inl ⟨_, rfl⟩⟩ K0 fl_X10_10 dX10_open_1 ?_
  refine go_iload_n dX10_open_4 rfl ?_
  obtain ⟨k1, H⟩ := H
  refine go_V (av := [pv_i x1]) (st := []) (ci := 0) ok_X0_laneAt ⟨by decide, by decide⟩ ml_X10_133 rfl (by decide) (fun v hv => by simp only [List.mem_cons, List.not_mem_nil, or_false] at hv; rcases hv with rfl <;> first | exact pv_1i | exact pv_1r) (Nat.le_of_ble_eq_true rfl) (fun _ h => h) (by decide) rfl k1 dX10_open_5 H (fun r M2 hq hS => ?_)
  obtain ⟨v3, rfl, H⟩ := hq
  have k4 : mm_k M2 a0 = (10, 14) := ks_S K0 (by decide) hS
  have k5 : mm_k M2 (mm_r M a0 0) = (0, 4) := ks_S k1 (by decide) hS
  show go_W mt_X10_open fr_C 8 [some (pv_r a0), some (pv_i x1), none] [pv_r v3] M2 (qi_ P)
  refine go_astore_n (by decide) dX10_open_8 ?_
  show go_W mt_X10_open fr_C 9 [some (pv_r a0), some (pv_i x1), some (pv_r v3)] [] M2 (qi_ P)
  refine go_aload_n dX10_open_9 rfl ?_
  refine go_ifnonnull (tgt := 20) dX10_open_10 (by decide) (fun hc => ?_) (fun hc => ?_)
  · replace H := H.1 hc
    refine go_aload_n dX10_open_20 rfl ?_
    obtain ⟨k6, H⟩ := H
    refine go_getI (k := 4) ⟨by decide, rfl, by decide, rfl⟩ k6 fl_X10_160 dX10_open_21 ?_
    refine go_if_ne (tgt := 34) dX10_open_24 (by decide) (fun hc => ?_) (fun hc => ?_)
    · replace H := H.1 hc
      refine go_aload_n dX10_open_34 rfl ?_
      refine go_iconst (v := (0 : Int32)) rfl dX10_open_35 ?_
      refine go_putI (k := 4) ⟨by decide, rfl, by decide, rfl⟩ k6 rfl (Or.inl rfl) fl_X10_160 dX10_open_36 ?_
      show go_W mt_X10_open fr_C 39 [some (pv_r a0), some (pv_i x1), some (pv_r v3)] [] (mm_pi M2 v3 4 (0 : Int32)) (qi_ P)
      obtain ⟨M7, hM7⟩ : ∃ M', M' = mm_pi M2 v3 4 (0 : Int32) := ⟨_, rfl⟩
      have k8 : mm_k M7 a0 = (10, 14) := (by rw [hM7]; exact k4)
      have k9 : mm_k M7 (mm_r M a0 0) = (0, 4) := (by rw [hM7]; exact k5)
      have k10 : mm_k M7 v3 = (3, 14) := (by rw [hM7]; exact k6)
      rw [← hM7]
      replace H := H M7 hM7
      refine go_iconst (v := (0 : Int32)) rfl dX10_open_39 ?_
      exact go_iret rfl rfl dX10_open_40 ⟨_, rfl, H⟩
    · replace H := H.2 hc
      refine go_aload_n dX10_open_27 rfl ?_
      refine go_bipush (v := (-3 : Int32)) rfl dX10_open_28 ?_
      refine go_V (av := [pv_i (-3 : Int32)]) (st := []) (ci := 10) ok_X10_counted ⟨by decide, by decide⟩ ml_X10_76 rfl (by decide) (fun v hv => by simp only [List.mem_cons, List.not_mem_nil, or_false] at hv; rcases hv with rfl <;> first | exact pv_1i | exact pv_1r) (Nat.le_of_ble_eq_true rfl) (fun _ h => h) (by decide) rfl k4 dX10_open_30 H (fun r M11 hq hS => ?_)
      obtain ⟨v12, rfl, H⟩ := hq
      have k13 : mm_k M11 a0 = (10, 14) := ks_S k4 (by decide) hS
      have k14 : mm_k M11 (mm_r M a0 0) = (0, 4) := ks_S k5 (by decide) hS
      have k15 : mm_k M11 v3 = (3, 14) := ks_S k6 (by decide) hS
      show go_W mt_X10_open fr_C 33 [some (pv_r a0), some (pv_i x1), some (pv_r v3)] [pv_i v12] M11 (qi_ P)
      exact go_iret rfl rfl dX10_open_33 ⟨_, rfl, H⟩
  · replace H := H.2 hc
    refine go_aload_n dX10_open_13 rfl ?_
    refine go_bipush (v := (-2 : Int32)) rfl dX10_open_14 ?_
    refine go_V (av := [pv_i (-2 : Int32)]) (st := []) (ci := 10) ok_X10_counted ⟨by decide, by decide⟩ ml_X10_76 rfl (by decide) (fun v hv => by simp only [List.mem_cons, List.not_mem_nil, or_false] at hv; rcases hv with rfl <;> first | exact pv_1i | exact pv_1r) (Nat.le_of_ble_eq_true rfl) (fun _ h => h) (by decide) rfl k4 dX10_open_16 H (fun r M16 hq hS => ?_)
    obtain ⟨v17, rfl, H⟩ := hq
    have k18 : mm_k M16 a0 = (10, 14) := ks_S k4 (by decide) hS
    have k19 : mm_k M16 (mm_r M a0 0) = (0, 4) := ks_S k5 (by decide) hS
    show go_W mt_X10_open fr_C 19 [some (pv_r a0), some (pv_i x1), some (pv_r v3)] [pv_i v17] M16 (qi_ P)
    exact go_iret rfl rfl dX10_open_19 ⟨_, rfl, H⟩
set_option maxRecDepth 20000 in
theorem wc_X10_cancel_0 {M : mm_T} {a0 : Nat} {x1 : Int32} {P : Int32 → mm_T → Prop} (K0 : mm_k M a0 = (10, 14)) (H : cs_r mt_X10_taskAt [pv_r a0, pv_i x1] M (fun v2 M1 => (((¬ v2 = 0) → mm_k M1 v2 = (6, 17) ∧ (cs_i mt_X6_isLoose [pv_r v2] M1 (fun v6 M5 => (((¬ v6 = 0) → mm_k M5 (mm_r M5 a0 0) = (0, 4) ∧ (cs_v mt_X0_change [pv_r (mm_r M5 a0 0), pv_r v2, pv_i (6 : Int32)] M5 (fun M10 => cs_v mt_X10_note [pv_r a0, pv_i (6 : Int32), pv_r v2, pv_r 0, pv_i (0 : Int32)] M10 (fun M14 => cs_v mt_X10_gatherFalling [pv_r a0] M14 (fun M18 => cs_i mt_X10_setAside [pv_r a0, pv_i (101 : Int32)] M18 (fun v23 M22 => P v23 M22)))))) ∧ ((v6 = 0) → cs_i mt_X10_counted [pv_r a0, pv_i (-3 : Int32)] M5 (fun v28 M27 => P v28 M27)))))) ∧ ((v2 = 0) → cs_i mt_X10_counted [pv_r a0, pv_i (-2 : Int32)] M1 (fun v32 M31 => P v32 M31))))) : cw_i mt_X10_cancel 0 [some (pv_r a0), some (pv_i x1), none] [] M P := by
  refine go_aload_n dX10_cancel_0 rfl ?_
  refine go_iload_n dX10_cancel_1 rfl ?_
  refine go_V (av := [pv_i x1]) (st := []) (ci := 10) ok_X10_taskAt ⟨by decide, by decide⟩ ml_X10_171 rfl (by decide) (fun v hv => by simp only [List.mem_cons, List.not_mem_nil, or_false] at hv; rcases hv with rfl <;> first | exact pv_1i | exact pv_1r) (Nat.le_of_ble_eq_true rfl) (fun _ h => h) (by decide) rfl K0 dX10_cancel_2 H (fun r M1 hq hS => ?_)
  obtain ⟨v2, rfl, H⟩ := hq
  have k3 : mm_k M1 a0 = (10, 14) := ks_S K0 (by decide) hS
  show go_W mt_X10_cancel fr_C 5 [some (pv_r a0), some (pv_i x1), none] [pv_r v2] M1 (qi_ P)
  refine go_astore_n (by decide) dX10_cancel_5 ?_
  show go_W mt_X10_cancel fr_C 6 [some (pv_r a0), some (pv_i x1), some (pv_r v2)] [] M1 (qi_ P)
  refine go_aload_n dX10_cancel_6 rfl ?_
  refine go_ifnonnull (tgt := 17) dX10_cancel_7 (by decide) (fun hc => ?_) (fun hc => ?_)
  · replace H := H.1 hc
    refine go_aload_n dX10_cancel_17 rfl ?_
    obtain ⟨k4, H⟩ := H
    refine go_V (av := []) (st := []) (ci := 6) ok_X6_isLoose ⟨by decide, by decide⟩ ml_X10_174 rfl (by decide) (fun v hv => absurd hv List.not_mem_nil) (Nat.le_of_ble_eq_true rfl) (fun _ h => h) (by decide) rfl k4 dX10_cancel_18 H (fun r M5 hq hS => ?_)
    obtain ⟨v6, rfl, H⟩ := hq
    have k7 : mm_k M5 a0 = (10, 14) := ks_S k3 (by decide) hS
    have k8 : mm_k M5 v2 = (6, 17) := ks_S k4 (by decide) hS
    show go_W mt_X10_cancel fr_C 21 [some (pv_r a0), some (pv_i x1), some (pv_r v2)] [pv_i v6] M5 (qi_ P)
    refine go_if_ne (tgt := 31) dX10_cancel_21 (by decide) (fun hc => ?_) (fun hc => ?_)
    · replace H := H.1 hc
      refine go_aload_n dX10_cancel_31 rfl ?_
      refine go_getR (k := 0) ⟨by decide, rfl, by decide, Or.inl ⟨_, rfl⟩⟩ k7 fl_X10_10 dX10_cancel_32 ?_
      refine go_aload_n dX10_cancel_35 rfl ?_
      refine go_bipush (v := (6 : Int32)) rfl dX10_cancel_36 ?_
      obtain ⟨k9, H⟩ := H
      refine go_V (av := [pv_r v2, pv_i (6 : Int32)]) (st := []) (ci := 0) ok_X0_change ⟨by decide, by decide⟩ ml_X10_178 rfl (by decide) (fun v hv => by simp only [List.mem_cons, List.not_mem_nil, or_false] at hv; rcases hv with rfl | rfl <;> first | exact pv_1i | exact pv_1r) (Nat.le_of_ble_eq_true rfl) (fun _ h => h) (by decide) rfl k9 dX10_cancel_38 H (fun r M10 hq hS => ?_)
      obtain ⟨rfl, H⟩ := hq
      have k11 : mm_k M10 a0 = (10, 14) := ks_S k7 (by decide) hS
      have k12 : mm_k M10 v2 = (6, 17) := ks_S k8 (by decide) hS
      have k13 : mm_k M10 (mm_r M5 a0 0) = (0, 4) := ks_S k9 (by decide) hS
      show go_W mt_X10_cancel fr_C 41 [some (pv_r a0), some (pv_i x1), some (pv_r v2)] [] M10 (qi_ P)
      refine go_aload_n dX10_cancel_41 rfl ?_
      refine go_bipush (v := (6 : Int32)) rfl dX10_cancel_42 ?_
      refine go_aload_n dX10_cancel_44 rfl ?_
      refine go_null dX10_cancel_45 ?_
      refine go_iconst (v := (0 : Int32)) rfl dX10_cancel_46 ?_
      refine go_V (av := [pv_i (6 : Int32), pv_r v2, pv_r 0, pv_i (0 : Int32)]) (st := []) (ci := 10) ok_X10_note ⟨by decide, by decide⟩ ml_X10_181 rfl (by decide) (fun v hv => by simp only [List.mem_cons, List.not_mem_nil, or_false] at hv; rcases hv with rfl | rfl | rfl | rfl <;> first | exact pv_1i | exact pv_1r) (Nat.le_of_ble_eq_true rfl) (fun _ h => h) (by decide) rfl k11 dX10_cancel_47 H (fun r M14 hq hS => ?_)
      obtain ⟨rfl, H⟩ := hq
      have k15 : mm_k M14 a0 = (10, 14) := ks_S k11 (by decide) hS
      have k16 : mm_k M14 v2 = (6, 17) := ks_S k12 (by decide) hS
      have k17 : mm_k M14 (mm_r M5 a0 0) = (0, 4) := ks_S k13 (by decide) hS
      show go_W mt_X10_cancel fr_C 50 [some (pv_r a0), some (pv_i x1), some (pv_r v2)] [] M14 (qi_ P)
      refine go_aload_n dX10_cancel_50 rfl ?_
      refine go_V (av := []) (st := []) (ci := 10) ok_X10_gatherFalling ⟨by decide, by decide⟩ ml_X10_185 rfl (by decide) (fun v hv => absurd hv List.not_mem_nil) (Nat.le_of_ble_eq_true rfl) (fun _ h => h) (by decide) rfl k15 dX10_cancel_51 H (fun r M18 hq hS => ?_)
      obtain ⟨rfl, H⟩ := hq
      have k19 : mm_k M18 a0 = (10, 14) := ks_S k15 (by decide) hS
      have k20 : mm_k M18 v2 = (6, 17) := ks_S k16 (by decide) hS
      have k21 : mm_k M18 (mm_r M5 a0 0) = (0, 4) := ks_S k17 (by decide) hS
      show go_W mt_X10_cancel fr_C 54 [some (pv_r a0), some (pv_i x1), some (pv_r v2)] [] M18 (qi_ P)
      refine go_aload_n dX10_cancel_54 rfl ?_
      refine go_bipush (v := (101 : Int32)) rfl dX10_cancel_55 ?_
      refine go_V (av := [pv_i (101 : Int32)]) (st := []) (ci := 10) ok_X10_setAside ⟨by decide, by decide⟩ ml_X10_188 rfl (by decide) (fun v hv => by simp only [List.mem_cons, List.not_mem_nil, or_false] at hv; rcases hv with rfl <;> first | exact pv_1i | exact pv_1r) (Nat.le_of_ble_eq_true rfl) (fun _ h => h) (by decide) rfl k19 dX10_cancel_57 H (fun r M22 hq hS => ?_)
      obtain ⟨v23, rfl, H⟩ := hq
      have k24 : mm_k M22 a0 = (10, 14) := ks_S k19 (by decide) hS
      have k25 : mm_k M22 v2 = (6, 17) := ks_S k20 (by decide) hS
      have k26 : mm_k M22 (mm_r M5 a0 0) = (0, 4) := ks_S k21 (by decide) hS
      show go_W mt_X10_cancel fr_C 60 [some (pv_r a0), some (pv_i x1), some (pv_r v2)] [pv_i v23] M22 (qi_ P)
      exact go_iret rfl rfl dX10_cancel_60 ⟨_, rfl, H⟩
    · replace H := H.2 hc
      refine go_aload_n dX10_cancel_24 rfl ?_
      refine go_bipush (v := (-3 : Int32)) rfl dX10_cancel_25 ?_
      refine go_V (av := [pv_i (-3 : Int32)]) (st := []) (ci := 10) ok_X10_counted ⟨by decide, by decide⟩ ml_X10_76 rfl (by decide) (fun v hv => by simp only [List.mem_cons, List.not_mem_nil, or_false] at hv; rcases hv with rfl <;> first | exact pv_1i | exact pv_1r) (Nat.le_of_ble_eq_true rfl) (fun _ h => h) (by decide) rfl k7 dX10_cancel_27 H (fun r M27 hq hS => ?_)
      obtain ⟨v28, rfl, H⟩ := hq
      have k29 : mm_k M27 a0 = (10, 14) := ks_S k7 (by decide) hS
      have k30 : mm_k M27 v2 = (6, 17) := ks_S k8 (by decide) hS
      show go_W mt_X10_cancel fr_C 30 [some (pv_r a0), some (pv_i x1), some (pv_r v2)] [pv_i v28] M27 (qi_ P)
      exact go_iret rfl rfl dX10_cancel_30 ⟨_, rfl, H⟩
  · replace H := H.2 hc
    refine go_aload_n dX10_cancel_10 rfl ?_
    refine go_bipush (v := (-2 : Int32)) rfl dX10_cancel_11 ?_
    refine go_V (av := [pv_i (-2 : Int32)]) (st := []) (ci := 10) ok_X10_counted ⟨by decide, by decide⟩ ml_X10_76 rfl (by decide) (fun v hv => by simp only [List.mem_cons, List.not_mem_nil, or_false] at hv; rcases hv with rfl <;> first | exact pv_1i | exact pv_1r) (Nat.le_of_ble_eq_true rfl) (fun _ h => h) (by decide) rfl k3 dX10_cancel_13 H (fun r M31 hq hS => ?_)
    obtain ⟨v32, rfl, H⟩ := hq
    have k33 : mm_k M31 a0 = (10, 14) := ks_S k3 (by decide) hS
    show go_W mt_X10_cancel fr_C 16 [some (pv_r a0), some (pv_i x1), some (pv_r v2)] [pv_i v32] M31 (qi_ P)
    exact go_iret rfl rfl dX10_cancel_16 ⟨_, rfl, H⟩
set_option maxRecDepth 20000 in
theorem wc_X10_move_0 {M : mm_T} {a0 : Nat} {x1 x2 : Int32} {P : Int32 → mm_T → Prop} (K0 : mm_k M a0 = (10, 14)) (H : cs_r mt_X10_taskAt [pv_r a0, pv_i x1] M (fun v2 M1 => mm_k M1 (mm_r M1 a0 0) = (0, 4) ∧ (cs_r mt_X0_laneAt [pv_r (mm_r M1 a0 0), pv_i x2] M1 (fun v6 M5 => (((v2 = 0) → cs_i mt_X10_counted [pv_r a0, pv_i (-2 : Int32)] M5 (fun v10 M9 => P v10 M9)) ∧ ((¬ v2 = 0) → (((¬ v6 = 0) → mm_k M5 v2 = (6, 17) ∧ (cs_i mt_X6_isLoose [pv_r v2] M5 (fun v15 M14 => (((v15 = 0) → cs_i mt_X10_counted [pv_r a0, pv_i (-3 : Int32)] M14 (fun v20 M19 => P v20 M19)) ∧ ((¬ v15 = 0) → (mm_r M14 v2 2 = 0 ∨ ob_ M14 (mm_r M14 v2 2)) ∧ (v6 = 0 ∨ ob_ M14 v6) ∧ (((mm_r M14 v2 2 = v6) → cs_i mt_X10_counted [pv_r a0, pv_i (-3 : Int32)] M14 (fun v27 M26 => P v27 M26)) ∧ ((¬ mm_r M14 v2 2 = v6) → mm_k M14 v6 = (3, 14) ∧ ((((mm_i M14 v6 4 = 0) → cs_i mt_X3_hasRoom [pv_r v6] M14 (fun v33 M32 => (((¬ v33 = 0) → mm_k M32 (mm_r M32 a0 0) = (0, 4) ∧ (cs_v mt_X0_transfer [pv_r (mm_r M32 a0 0), pv_r v2, pv_r v6] M32 (fun M39 => cs_v mt_X10_note [pv_r a0, pv_i (7 : Int32), pv_r v2, pv_r 0, pv_i (0 : Int32)] M39 (fun M45 => P (0 : Int32) M45)))) ∧ ((v33 = 0) → cs_i mt_X10_counted [pv_r a0, pv_i (-4 : Int32)] M32 (fun v52 M51 => P v52 M51))))) ∧ ((¬ mm_i M14 v6 4 = 0) → cs_i mt_X10_counted [pv_r a0, pv_i (-3 : Int32)] M14 (fun v58 M57 => P v58 M57))))))))))) ∧ ((v6 = 0) → cs_i mt_X10_counted [pv_r a0, pv_i (-2 : Int32)] M5 (fun v64 M63 => P v64 M63))))))))) : cw_i mt_X10_move 0 [some (pv_r a0), some (pv_i x1), some (pv_i x2), none, none] [] M P := by
  refine go_aload_n dX10_move_0 rfl ?_
  refine go_iload_n dX10_move_1 rfl ?_
  refine go_V (av := [pv_i x1]) (st := []) (ci := 10) ok_X10_taskAt ⟨by decide, by decide⟩ ml_X10_171 rfl (by decide) (fun v hv => by simp only [List.mem_cons, List.not_mem_nil, or_false] at hv; rcases hv with rfl <;> first | exact pv_1i | exact pv_1r) (Nat.le_of_ble_eq_true rfl) (fun _ h => h) (by decide) rfl K0 dX10_move_2 H (fun r M1 hq hS => ?_)
  obtain ⟨v2, rfl, H⟩ := hq
  have k3 : mm_k M1 a0 = (10, 14) := ks_S K0 (by decide) hS
  show go_W mt_X10_move fr_C 5 [some (pv_r a0), some (pv_i x1), some (pv_i x2), none, none] [pv_r v2] M1 (qi_ P)
  refine go_astore_n (by decide) dX10_move_5 ?_
  show go_W mt_X10_move fr_C 6 [some (pv_r a0), some (pv_i x1), some (pv_i x2), some (pv_r v2), none] [] M1 (qi_ P)
  refine go_aload_n dX10_move_6 rfl ?_
  refine go_getR (k := 0) ⟨by decide, rfl, by decide, Or.inl ⟨_, rfl⟩⟩ k3 fl_X10_10 dX10_move_7 ?_
  refine go_iload_n dX10_move_10 rfl ?_
  obtain ⟨k4, H⟩ := H
  refine go_V (av := [pv_i x2]) (st := []) (ci := 0) ok_X0_laneAt ⟨by decide, by decide⟩ ml_X10_133 rfl (by decide) (fun v hv => by simp only [List.mem_cons, List.not_mem_nil, or_false] at hv; rcases hv with rfl <;> first | exact pv_1i | exact pv_1r) (Nat.le_of_ble_eq_true rfl) (fun _ h => h) (by decide) rfl k4 dX10_move_11 H (fun r M5 hq hS => ?_)
  obtain ⟨v6, rfl, H⟩ := hq
  have k7 : mm_k M5 a0 = (10, 14) := ks_S k3 (by decide) hS
  have k8 : mm_k M5 (mm_r M1 a0 0) = (0, 4) := ks_S k4 (by decide) hS
  show go_W mt_X10_move fr_C 14 [some (pv_r a0), some (pv_i x1), some (pv_i x2), some (pv_r v2), none] [pv_r v6] M5 (qi_ P)
  refine go_astore (by decide) dX10_move_14 ?_
  show go_W mt_X10_move fr_C 16 [some (pv_r a0), some (pv_i x1), some (pv_i x2), some (pv_r v2), some (pv_r v6)] [] M5 (qi_ P)
  refine go_aload_n dX10_move_16 rfl ?_
  refine go_ifnull (tgt := 25) dX10_move_17 (by decide) (fun hc => ?_) (fun hc => ?_)
  · replace H := H.1 hc
    refine go_aload_n dX10_move_25 rfl ?_
    refine go_bipush (v := (-2 : Int32)) rfl dX10_move_26 ?_
    refine go_V (av := [pv_i (-2 : Int32)]) (st := []) (ci := 10) ok_X10_counted ⟨by decide, by decide⟩ ml_X10_76 rfl (by decide) (fun v hv => by simp only [List.mem_cons, List.not_mem_nil, or_false] at hv; rcases hv with rfl <;> first | exact pv_1i | exact pv_1r) (Nat.le_of_ble_eq_true rfl) (fun _ h => h) (by decide) rfl k7 dX10_move_28 H (fun r M9 hq hS => ?_)
    obtain ⟨v10, rfl, H⟩ := hq
    have k11 : mm_k M9 a0 = (10, 14) := ks_S k7 (by decide) hS
    have k12 : mm_k M9 (mm_r M1 a0 0) = (0, 4) := ks_S k8 (by decide) hS
    show go_W mt_X10_move fr_C 31 [some (pv_r a0), some (pv_i x1), some (pv_i x2), some (pv_r v2), some (pv_r v6)] [pv_i v10] M9 (qi_ P)
    exact go_iret rfl rfl dX10_move_31 ⟨_, rfl, H⟩
  · replace H := H.2 hc
    refine go_aload dX10_move_20 rfl ?_
    refine go_ifnonnull (tgt := 32) dX10_move_22 (by decide) (fun hc => ?_) (fun hc => ?_)
    · replace H := H.1 hc
      refine go_aload_n dX10_move_32 rfl ?_
      obtain ⟨k13, H⟩ := H
      refine go_V (av := []) (st := []) (ci := 6) ok_X6_isLoose ⟨by decide, by decide⟩ ml_X10_174 rfl (by decide) (fun v hv => absurd hv List.not_mem_nil) (Nat.le_of_ble_eq_true rfl) (fun _ h => h) (by decide) rfl k13 dX10_move_33 H (fun r M14 hq hS => ?_)
      obtain ⟨v15, rfl, H⟩ := hq
      have k16 : mm_k M14 a0 = (10, 14) := ks_S k7 (by decide) hS
      have k17 : mm_k M14 (mm_r M1 a0 0) = (0, 4) := ks_S k8 (by decide) hS
      have k18 : mm_k M14 v2 = (6, 17) := ks_S k13 (by decide) hS
      show go_W mt_X10_move fr_C 36 [some (pv_r a0), some (pv_i x1), some (pv_i x2), some (pv_r v2), some (pv_r v6)] [pv_i v15] M14 (qi_ P)
      refine go_if_eq (tgt := 56) dX10_move_36 (by decide) (fun hc => ?_) (fun hc => ?_)
      · replace H := H.1 hc
        refine go_aload_n dX10_move_56 rfl ?_
        refine go_bipush (v := (-3 : Int32)) rfl dX10_move_57 ?_
        refine go_V (av := [pv_i (-3 : Int32)]) (st := []) (ci := 10) ok_X10_counted ⟨by decide, by decide⟩ ml_X10_76 rfl (by decide) (fun v hv => by simp only [List.mem_cons, List.not_mem_nil, or_false] at hv; rcases hv with rfl <;> first | exact pv_1i | exact pv_1r) (Nat.le_of_ble_eq_true rfl) (fun _ h => h) (by decide) rfl k16 dX10_move_59 H (fun r M19 hq hS => ?_)
        obtain ⟨v20, rfl, H⟩ := hq
        have k21 : mm_k M19 a0 = (10, 14) := ks_S k16 (by decide) hS
        have k22 : mm_k M19 (mm_r M1 a0 0) = (0, 4) := ks_S k17 (by decide) hS
        have k23 : mm_k M19 v2 = (6, 17) := ks_S k18 (by decide) hS
        show go_W mt_X10_move fr_C 62 [some (pv_r a0), some (pv_i x1), some (pv_i x2), some (pv_r v2), some (pv_r v6)] [pv_i v20] M19 (qi_ P)
        exact go_iret rfl rfl dX10_move_62 ⟨_, rfl, H⟩
      · replace H := H.2 hc
        refine go_aload_n dX10_move_39 rfl ?_
        refine go_getR (k := 2) ⟨by decide, rfl, by decide, Or.inl ⟨_, rfl⟩⟩ k18 fl_X10_191 dX10_move_40 ?_
        refine go_aload dX10_move_43 rfl ?_
        obtain ⟨ho24, H⟩ := H
        obtain ⟨ho25, H⟩ := H
        refine go_acmpO_eq (tgt := 56) ho24 ho25 dX10_move_45 (by decide) (fun hc => ?_) (fun hc => ?_)
        · replace H := H.1 hc
          refine go_aload_n dX10_move_56 rfl ?_
          refine go_bipush (v := (-3 : Int32)) rfl dX10_move_57 ?_
          refine go_V (av := [pv_i (-3 : Int32)]) (st := []) (ci := 10) ok_X10_counted ⟨by decide, by decide⟩ ml_X10_76 rfl (by decide) (fun v hv => by simp only [List.mem_cons, List.not_mem_nil, or_false] at hv; rcases hv with rfl <;> first | exact pv_1i | exact pv_1r) (Nat.le_of_ble_eq_true rfl) (fun _ h => h) (by decide) rfl k16 dX10_move_59 H (fun r M26 hq hS => ?_)
          obtain ⟨v27, rfl, H⟩ := hq
          have k28 : mm_k M26 a0 = (10, 14) := ks_S k16 (by decide) hS
          have k29 : mm_k M26 (mm_r M1 a0 0) = (0, 4) := ks_S k17 (by decide) hS
          have k30 : mm_k M26 v2 = (6, 17) := ks_S k18 (by decide) hS
          show go_W mt_X10_move fr_C 62 [some (pv_r a0), some (pv_i x1), some (pv_i x2), some (pv_r v2), some (pv_r v6)] [pv_i v27] M26 (qi_ P)
          exact go_iret rfl rfl dX10_move_62 ⟨_, rfl, H⟩
        · replace H := H.2 hc
          refine go_aload dX10_move_48 rfl ?_
          obtain ⟨k31, H⟩ := H
          refine go_getI (k := 4) ⟨by decide, rfl, by decide, rfl⟩ k31 fl_X10_160 dX10_move_50 ?_
          refine go_if_eq (tgt := 63) dX10_move_53 (by decide) (fun hc => ?_) (fun hc => ?_)
          · replace H := H.1 hc
            refine go_aload dX10_move_63 rfl ?_
            refine go_V (av := []) (st := []) (ci := 3) ok_X3_hasRoom ⟨by decide, by decide⟩ ml_X10_195 rfl (by decide) (fun v hv => absurd hv List.not_mem_nil) (Nat.le_of_ble_eq_true rfl) (fun _ h => h) (by decide) rfl k31 dX10_move_65 H (fun r M32 hq hS => ?_)
            obtain ⟨v33, rfl, H⟩ := hq
            have k34 : mm_k M32 a0 = (10, 14) := ks_S k16 (by decide) hS
            have k35 : mm_k M32 (mm_r M1 a0 0) = (0, 4) := ks_S k17 (by decide) hS
            have k36 : mm_k M32 v2 = (6, 17) := ks_S k18 (by decide) hS
            have k37 : mm_k M32 v6 = (3, 14) := ks_S k31 (by decide) hS
            show go_W mt_X10_move fr_C 68 [some (pv_r a0), some (pv_i x1), some (pv_i x2), some (pv_r v2), some (pv_r v6)] [pv_i v33] M32 (qi_ P)
            refine go_if_ne (tgt := 78) dX10_move_68 (by decide) (fun hc => ?_) (fun hc => ?_)
            · replace H := H.1 hc
              refine go_aload_n dX10_move_78 rfl ?_
              refine go_getR (k := 0) ⟨by decide, rfl, by decide, Or.inl ⟨_, rfl⟩⟩ k34 fl_X10_10 dX10_move_79 ?_
              refine go_aload_n dX10_move_82 rfl ?_
              refine go_aload dX10_move_83 rfl ?_
              obtain ⟨k38, H⟩ := H
              refine go_V (av := [pv_r v2, pv_r v6]) (st := []) (ci := 0) ok_X0_transfer ⟨by decide, by decide⟩ ml_X10_198 rfl (by decide) (fun v hv => by simp only [List.mem_cons, List.not_mem_nil, or_false] at hv; rcases hv with rfl | rfl <;> first | exact pv_1i | exact pv_1r) (Nat.le_of_ble_eq_true rfl) (fun _ h => h) (by decide) rfl k38 dX10_move_85 H (fun r M39 hq hS => ?_)
              obtain ⟨rfl, H⟩ := hq
              have k40 : mm_k M39 a0 = (10, 14) := ks_S k34 (by decide) hS
              have k41 : mm_k M39 (mm_r M1 a0 0) = (0, 4) := ks_S k35 (by decide) hS
              have k42 : mm_k M39 v2 = (6, 17) := ks_S k36 (by decide) hS
              have k43 : mm_k M39 v6 = (3, 14) := ks_S k37 (by decide) hS
              have k44 : mm_k M39 (mm_r M32 a0 0) = (0, 4) := ks_S k38 (by decide) hS
              show go_W mt_X10_move fr_C 88 [some (pv_r a0), some (pv_i x1), some (pv_i x2), some (pv_r v2), some (pv_r v6)] [] M39 (qi_ P)
              refine go_aload_n dX10_move_88 rfl ?_
              refine go_bipush (v := (7 : Int32)) rfl dX10_move_89 ?_
              refine go_aload_n dX10_move_91 rfl ?_
              refine go_null dX10_move_92 ?_
              refine go_iconst (v := (0 : Int32)) rfl dX10_move_93 ?_
              refine go_V (av := [pv_i (7 : Int32), pv_r v2, pv_r 0, pv_i (0 : Int32)]) (st := []) (ci := 10) ok_X10_note ⟨by decide, by decide⟩ ml_X10_181 rfl (by decide) (fun v hv => by simp only [List.mem_cons, List.not_mem_nil, or_false] at hv; rcases hv with rfl | rfl | rfl | rfl <;> first | exact pv_1i | exact pv_1r) (Nat.le_of_ble_eq_true rfl) (fun _ h => h) (by decide) rfl k40 dX10_move_94 H (fun r M45 hq hS => ?_)
              obtain ⟨rfl, H⟩ := hq
              have k46 : mm_k M45 a0 = (10, 14) := ks_S k40 (by decide) hS
              have k47 : mm_k M45 (mm_r M1 a0 0) = (0, 4) := ks_S k41 (by decide) hS
              have k48 : mm_k M45 v2 = (6, 17) := ks_S k42 (by decide) hS
              have k49 : mm_k M45 v6 = (3, 14) := ks_S k43 (by decide) hS
              have k50 : mm_k M45 (mm_r M32 a0 0) = (0, 4) := ks_S k44 (by decide) hS
              show go_W mt_X10_move fr_C 97 [some (pv_r a0), some (pv_i x1), some (pv_i x2), some (pv_r v2), some (pv_r v6)] [] M45 (qi_ P)
              refine go_iconst (v := (0 : Int32)) rfl dX10_move_97 ?_
              exact go_iret rfl rfl dX10_move_98 ⟨_, rfl, H⟩
            · replace H := H.2 hc
              refine go_aload_n dX10_move_71 rfl ?_
              refine go_bipush (v := (-4 : Int32)) rfl dX10_move_72 ?_
              refine go_V (av := [pv_i (-4 : Int32)]) (st := []) (ci := 10) ok_X10_counted ⟨by decide, by decide⟩ ml_X10_76 rfl (by decide) (fun v hv => by simp only [List.mem_cons, List.not_mem_nil, or_false] at hv; rcases hv with rfl <;> first | exact pv_1i | exact pv_1r) (Nat.le_of_ble_eq_true rfl) (fun _ h => h) (by decide) rfl k34 dX10_move_74 H (fun r M51 hq hS => ?_)
              obtain ⟨v52, rfl, H⟩ := hq
              have k53 : mm_k M51 a0 = (10, 14) := ks_S k34 (by decide) hS
              have k54 : mm_k M51 (mm_r M1 a0 0) = (0, 4) := ks_S k35 (by decide) hS
              have k55 : mm_k M51 v2 = (6, 17) := ks_S k36 (by decide) hS
              have k56 : mm_k M51 v6 = (3, 14) := ks_S k37 (by decide) hS
              show go_W mt_X10_move fr_C 77 [some (pv_r a0), some (pv_i x1), some (pv_i x2), some (pv_r v2), some (pv_r v6)] [pv_i v52] M51 (qi_ P)
              exact go_iret rfl rfl dX10_move_77 ⟨_, rfl, H⟩
          · replace H := H.2 hc
            refine go_aload_n dX10_move_56 rfl ?_
            refine go_bipush (v := (-3 : Int32)) rfl dX10_move_57 ?_
            refine go_V (av := [pv_i (-3 : Int32)]) (st := []) (ci := 10) ok_X10_counted ⟨by decide, by decide⟩ ml_X10_76 rfl (by decide) (fun v hv => by simp only [List.mem_cons, List.not_mem_nil, or_false] at hv; rcases hv with rfl <;> first | exact pv_1i | exact pv_1r) (Nat.le_of_ble_eq_true rfl) (fun _ h => h) (by decide) rfl k16 dX10_move_59 H (fun r M57 hq hS => ?_)
            obtain ⟨v58, rfl, H⟩ := hq
            have k59 : mm_k M57 a0 = (10, 14) := ks_S k16 (by decide) hS
            have k60 : mm_k M57 (mm_r M1 a0 0) = (0, 4) := ks_S k17 (by decide) hS
            have k61 : mm_k M57 v2 = (6, 17) := ks_S k18 (by decide) hS
            have k62 : mm_k M57 v6 = (3, 14) := ks_S k31 (by decide) hS
            show go_W mt_X10_move fr_C 62 [some (pv_r a0), some (pv_i x1), some (pv_i x2), some (pv_r v2), some (pv_r v6)] [pv_i v58] M57 (qi_ P)
            exact go_iret rfl rfl dX10_move_62 ⟨_, rfl, H⟩
    · replace H := H.2 hc
      refine go_aload_n dX10_move_25 rfl ?_
      refine go_bipush (v := (-2 : Int32)) rfl dX10_move_26 ?_
      refine go_V (av := [pv_i (-2 : Int32)]) (st := []) (ci := 10) ok_X10_counted ⟨by decide, by decide⟩ ml_X10_76 rfl (by decide) (fun v hv => by simp only [List.mem_cons, List.not_mem_nil, or_false] at hv; rcases hv with rfl <;> first | exact pv_1i | exact pv_1r) (Nat.le_of_ble_eq_true rfl) (fun _ h => h) (by decide) rfl k7 dX10_move_28 H (fun r M63 hq hS => ?_)
      obtain ⟨v64, rfl, H⟩ := hq
      have k65 : mm_k M63 a0 = (10, 14) := ks_S k7 (by decide) hS
      have k66 : mm_k M63 (mm_r M1 a0 0) = (0, 4) := ks_S k8 (by decide) hS
      show go_W mt_X10_move fr_C 31 [some (pv_r a0), some (pv_i x1), some (pv_i x2), some (pv_r v2), some (pv_r v6)] [pv_i v64] M63 (qi_ P)
      exact go_iret rfl rfl dX10_move_31 ⟨_, rfl, H⟩
set_option maxRecDepth 20000 in
theorem wc_X10_raise_0 {M : mm_T} {a0 : Nat} {x1 x2 : Int32} {P : Int64 → mm_T → Prop} (K0 : mm_k M a0 = (10, 14)) (H : cs_i mt_X10_raiseIfCan [pv_r a0, pv_i x1, pv_i x2] M (fun v2 M1 => ((((-1 : Int32) ≤ v2) → cs_i mt_X10_rank [pv_r a0, pv_i x1] M1 (fun v5 M4 => P v5.toInt64 M4)) ∧ ((¬ (-1 : Int32) ≤ v2) → cs_i mt_X10_counted [pv_r a0, pv_i v2] M1 (fun v8 M7 => P v8.toInt64 M7))))) : cw_l mt_X10_raise 0 [some (pv_r a0), some (pv_i x1), some (pv_i x2), none] [] M P := by
  refine go_aload_n dX10_raise_0 rfl ?_
  refine go_iload_n dX10_raise_1 rfl ?_
  refine go_iload_n dX10_raise_2 rfl ?_
  refine go_V (av := [pv_i x1, pv_i x2]) (st := []) (ci := 10) ok_X10_raiseIfCan ⟨by decide, by decide⟩ ml_X10_202 rfl (by decide) (fun v hv => by simp only [List.mem_cons, List.not_mem_nil, or_false] at hv; rcases hv with rfl | rfl <;> first | exact pv_1i | exact pv_1r) (Nat.le_of_ble_eq_true rfl) (fun _ h => h) (by decide) rfl K0 dX10_raise_3 H (fun r M1 hq hS => ?_)
  obtain ⟨v2, rfl, H⟩ := hq
  have k3 : mm_k M1 a0 = (10, 14) := ks_S K0 (by decide) hS
  show go_W mt_X10_raise fr_C 6 [some (pv_r a0), some (pv_i x1), some (pv_i x2), none] [pv_i v2] M1 (ql_ P)
  refine go_istore_n (by decide) dX10_raise_6 ?_
  show go_W mt_X10_raise fr_C 7 [some (pv_r a0), some (pv_i x1), some (pv_i x2), some (pv_i v2)] [] M1 (ql_ P)
  refine go_iload_n dX10_raise_7 rfl ?_
  refine go_iconst (v := (-1 : Int32)) rfl dX10_raise_8 ?_
  refine go_icmp_ge (tgt := 21) dX10_raise_9 (by decide) (fun hc => ?_) (fun hc => ?_)
  · replace H := H.1 hc
    refine go_aload_n dX10_raise_21 rfl ?_
    refine go_iload_n dX10_raise_22 rfl ?_
    refine go_V (av := [pv_i x1]) (st := []) (ci := 10) ok_X10_rank ⟨by decide, by decide⟩ ml_X10_206 rfl (by decide) (fun v hv => by simp only [List.mem_cons, List.not_mem_nil, or_false] at hv; rcases hv with rfl <;> first | exact pv_1i | exact pv_1r) (Nat.le_of_ble_eq_true rfl) (fun _ h => h) (by decide) rfl k3 dX10_raise_23 H (fun r M4 hq hS => ?_)
    obtain ⟨v5, rfl, H⟩ := hq
    have k6 : mm_k M4 a0 = (10, 14) := ks_S k3 (by decide) hS
    show go_W mt_X10_raise fr_C 26 [some (pv_r a0), some (pv_i x1), some (pv_i x2), some (pv_i v2)] [pv_i v5] M4 (ql_ P)
    refine go_i2l dX10_raise_26 ?_
    exact go_lret rfl dX10_raise_27 ⟨_, rfl, H⟩
  · replace H := H.2 hc
    refine go_aload_n dX10_raise_12 rfl ?_
    refine go_iload_n dX10_raise_13 rfl ?_
    refine go_V (av := [pv_i v2]) (st := []) (ci := 10) ok_X10_counted ⟨by decide, by decide⟩ ml_X10_76 rfl (by decide) (fun v hv => by simp only [List.mem_cons, List.not_mem_nil, or_false] at hv; rcases hv with rfl <;> first | exact pv_1i | exact pv_1r) (Nat.le_of_ble_eq_true rfl) (fun _ h => h) (by decide) rfl k3 dX10_raise_14 H (fun r M7 hq hS => ?_)
    obtain ⟨v8, rfl, H⟩ := hq
    have k9 : mm_k M7 a0 = (10, 14) := ks_S k3 (by decide) hS
    show go_W mt_X10_raise fr_C 17 [some (pv_r a0), some (pv_i x1), some (pv_i x2), some (pv_i v2)] [pv_i v8] M7 (ql_ P)
    refine go_i2l dX10_raise_17 ?_
    refine go_goto (tgt := 27) dX10_raise_18 (by decide) ?_
    exact go_lret rfl dX10_raise_27 ⟨_, rfl, H⟩
set_option maxRecDepth 20000 in
theorem wc_X10_again_0 {M : mm_T} {a0 : Nat} {x1 : Int32} {P : Int32 → mm_T → Prop} (K0 : mm_k M a0 = (10, 14)) (H : cs_r mt_X10_taskAt [pv_r a0, pv_i x1] M (fun v2 M1 => (((¬ v2 = 0) → cs_i mt_X10_whyNotAgain [pv_r a0, pv_r v2] M1 (fun v5 M4 => ((((-1 : Int32) ≤ v5) → mm_k M4 (mm_r M4 a0 3) = (4, 2) ∧ (cs_v mt_X4_drop [pv_r (mm_r M4 a0 3), pv_r v2] M4 (fun M8 => mm_k M8 v2 = (6, 17) ∧ (∀ M12, M12 = mm_pi M8 v2 8 (0 : Int32) → cs_v mt_X10_note [pv_r a0, pv_i (8 : Int32), pv_r v2, pv_r 0, pv_i (0 : Int32)] M12 (fun M16 => mm_k M16 (mm_r M16 a0 0) = (0, 4) ∧ (cs_v mt_X0_settle [pv_r (mm_r M16 a0 0), pv_r v2] M16 (fun M21 => (((¬ mm_i M21 v2 7 = (1 : Int32)) → P (0 : Int32) M21) ∧ ((mm_i M21 v2 7 = (1 : Int32)) → P (1 : Int32) M21))))))))) ∧ ((¬ (-1 : Int32) ≤ v5) → cs_i mt_X10_counted [pv_r a0, pv_i v5] M4 (fun v27 M26 => P v27 M26))))) ∧ ((v2 = 0) → cs_i mt_X10_counted [pv_r a0, pv_i (-2 : Int32)] M1 (fun v30 M29 => P v30 M29))))) : cw_i mt_X10_again 0 [some (pv_r a0), some (pv_i x1), none, none] [] M P := by
  refine go_aload_n dX10_again_0 rfl ?_
  refine go_iload_n dX10_again_1 rfl ?_
  refine go_V (av := [pv_i x1]) (st := []) (ci := 10) ok_X10_taskAt ⟨by decide, by decide⟩ ml_X10_171 rfl (by decide) (fun v hv => by simp only [List.mem_cons, List.not_mem_nil, or_false] at hv; rcases hv with rfl <;> first | exact pv_1i | exact pv_1r) (Nat.le_of_ble_eq_true rfl) (fun _ h => h) (by decide) rfl K0 dX10_again_2 H (fun r M1 hq hS => ?_)
  obtain ⟨v2, rfl, H⟩ := hq
  have k3 : mm_k M1 a0 = (10, 14) := ks_S K0 (by decide) hS
  show go_W mt_X10_again fr_C 5 [some (pv_r a0), some (pv_i x1), none, none] [pv_r v2] M1 (qi_ P)
  refine go_astore_n (by decide) dX10_again_5 ?_
  show go_W mt_X10_again fr_C 6 [some (pv_r a0), some (pv_i x1), some (pv_r v2), none] [] M1 (qi_ P)
  refine go_aload_n dX10_again_6 rfl ?_
  refine go_ifnonnull (tgt := 17) dX10_again_7 (by decide) (fun hc => ?_) (fun hc => ?_)
  · replace H := H.1 hc
    refine go_aload_n dX10_again_17 rfl ?_
    refine go_aload_n dX10_again_18 rfl ?_
    refine go_V (av := [pv_r v2]) (st := []) (ci := 10) ok_X10_whyNotAgain ⟨by decide, by decide⟩ ml_X10_209 rfl (by decide) (fun v hv => by simp only [List.mem_cons, List.not_mem_nil, or_false] at hv; rcases hv with rfl <;> first | exact pv_1i | exact pv_1r) (Nat.le_of_ble_eq_true rfl) (fun _ h => h) (by decide) rfl k3 dX10_again_19 H (fun r M4 hq hS => ?_)
    obtain ⟨v5, rfl, H⟩ := hq
    have k6 : mm_k M4 a0 = (10, 14) := ks_S k3 (by decide) hS
    show go_W mt_X10_again fr_C 22 [some (pv_r a0), some (pv_i x1), some (pv_r v2), none] [pv_i v5] M4 (qi_ P)
    refine go_istore_n (by decide) dX10_again_22 ?_
    show go_W mt_X10_again fr_C 23 [some (pv_r a0), some (pv_i x1), some (pv_r v2), some (pv_i v5)] [] M4 (qi_ P)
    refine go_iload_n dX10_again_23 rfl ?_
    refine go_iconst (v := (-1 : Int32)) rfl dX10_again_24 ?_
    refine go_icmp_ge (tgt := 34) dX10_again_25 (by decide) (fun hc => ?_) (fun hc => ?_)
    · replace H := H.1 hc
      refine go_aload_n dX10_again_34 rfl ?_
      refine go_getR (k := 3) ⟨by decide, rfl, by decide, Or.inl ⟨_, rfl⟩⟩ k6 fl_X10_32 dX10_again_35 ?_
      refine go_aload_n dX10_again_38 rfl ?_
      obtain ⟨k7, H⟩ := H
      refine go_V (av := [pv_r v2]) (st := []) (ci := 4) ok_X4_drop ⟨by decide, by decide⟩ ml_X10_213 rfl (by decide) (fun v hv => by simp only [List.mem_cons, List.not_mem_nil, or_false] at hv; rcases hv with rfl <;> first | exact pv_1i | exact pv_1r) (Nat.le_of_ble_eq_true rfl) (fun _ h => h) (by decide) rfl k7 dX10_again_39 H (fun r M8 hq hS => ?_)
      obtain ⟨rfl, H⟩ := hq
      have k9 : mm_k M8 a0 = (10, 14) := ks_S k6 (by decide) hS
      have k10 : mm_k M8 (mm_r M4 a0 3) = (4, 2) := ks_S k7 (by decide) hS
      show go_W mt_X10_again fr_C 42 [some (pv_r a0), some (pv_i x1), some (pv_r v2), some (pv_i v5)] [] M8 (qi_ P)
      refine go_aload_n dX10_again_42 rfl ?_
      refine go_iconst (v := (0 : Int32)) rfl dX10_again_43 ?_
      obtain ⟨k11, H⟩ := H
      refine go_putI (k := 8) ⟨by decide, rfl, by decide, rfl⟩ k11 rfl (Or.inl rfl) fl_X10_216 dX10_again_44 ?_
      show go_W mt_X10_again fr_C 47 [some (pv_r a0), some (pv_i x1), some (pv_r v2), some (pv_i v5)] [] (mm_pi M8 v2 8 (0 : Int32)) (qi_ P)
      obtain ⟨M12, hM12⟩ : ∃ M', M' = mm_pi M8 v2 8 (0 : Int32) := ⟨_, rfl⟩
      have k13 : mm_k M12 a0 = (10, 14) := (by rw [hM12]; exact k9)
      have k14 : mm_k M12 (mm_r M4 a0 3) = (4, 2) := (by rw [hM12]; exact k10)
      have k15 : mm_k M12 v2 = (6, 17) := (by rw [hM12]; exact k11)
      rw [← hM12]
      replace H := H M12 hM12
      refine go_aload_n dX10_again_47 rfl ?_
      refine go_bipush (v := (8 : Int32)) rfl dX10_again_48 ?_
      refine go_aload_n dX10_again_50 rfl ?_
      refine go_null dX10_again_51 ?_
      refine go_iconst (v := (0 : Int32)) rfl dX10_again_52 ?_
      refine go_V (av := [pv_i (8 : Int32), pv_r v2, pv_r 0, pv_i (0 : Int32)]) (st := []) (ci := 10) ok_X10_note ⟨by decide, by decide⟩ ml_X10_181 rfl (by decide) (fun v hv => by simp only [List.mem_cons, List.not_mem_nil, or_false] at hv; rcases hv with rfl | rfl | rfl | rfl <;> first | exact pv_1i | exact pv_1r) (Nat.le_of_ble_eq_true rfl) (fun _ h => h) (by decide) rfl k13 dX10_again_53 H (fun r M16 hq hS => ?_)
      obtain ⟨rfl, H⟩ := hq
      have k17 : mm_k M16 a0 = (10, 14) := ks_S k13 (by decide) hS
      have k18 : mm_k M16 (mm_r M4 a0 3) = (4, 2) := ks_S k14 (by decide) hS
      have k19 : mm_k M16 v2 = (6, 17) := ks_S k15 (by decide) hS
      show go_W mt_X10_again fr_C 56 [some (pv_r a0), some (pv_i x1), some (pv_r v2), some (pv_i v5)] [] M16 (qi_ P)
      refine go_aload_n dX10_again_56 rfl ?_
      refine go_getR (k := 0) ⟨by decide, rfl, by decide, Or.inl ⟨_, rfl⟩⟩ k17 fl_X10_10 dX10_again_57 ?_
      refine go_aload_n dX10_again_60 rfl ?_
      obtain ⟨k20, H⟩ := H
      refine go_V (av := [pv_r v2]) (st := []) (ci := 0) ok_X0_settle ⟨by decide, by decide⟩ ml_X10_219 rfl (by decide) (fun v hv => by simp only [List.mem_cons, List.not_mem_nil, or_false] at hv; rcases hv with rfl <;> first | exact pv_1i | exact pv_1r) (Nat.le_of_ble_eq_true rfl) (fun _ h => h) (by decide) rfl k20 dX10_again_61 H (fun r M21 hq hS => ?_)
      obtain ⟨rfl, H⟩ := hq
      have k22 : mm_k M21 a0 = (10, 14) := ks_S k17 (by decide) hS
      have k23 : mm_k M21 (mm_r M4 a0 3) = (4, 2) := ks_S k18 (by decide) hS
      have k24 : mm_k M21 v2 = (6, 17) := ks_S k19 (by decide) hS
      have k25 : mm_k M21 (mm_r M16 a0 0) = (0, 4) := ks_S k20 (by decide) hS
      show go_W mt_X10_again fr_C 64 [some (pv_r a0), some (pv_i x1), some (pv_r v2), some (pv_i v5)] [] M21 (qi_ P)
      refine go_aload_n dX10_again_64 rfl ?_
      refine go_getI (k := 7) ⟨by decide, rfl, by decide, rfl⟩ k24 fl_X10_105 dX10_again_65 ?_
      refine go_iconst (v := (1 : Int32)) rfl dX10_again_68 ?_
      refine go_icmp_ne (tgt := 76) dX10_again_69 (by decide) (fun hc => ?_) (fun hc => ?_)
      · replace H := H.1 hc
        refine go_iconst (v := (0 : Int32)) rfl dX10_again_76 ?_
        exact go_iret rfl rfl dX10_again_77 ⟨_, rfl, H⟩
      · replace H := H.2 hc
        refine go_iconst (v := (1 : Int32)) rfl dX10_again_72 ?_
        refine go_goto (tgt := 77) dX10_again_73 (by decide) ?_
        exact go_iret rfl rfl dX10_again_77 ⟨_, rfl, H⟩
    · replace H := H.2 hc
      refine go_aload_n dX10_again_28 rfl ?_
      refine go_iload_n dX10_again_29 rfl ?_
      refine go_V (av := [pv_i v5]) (st := []) (ci := 10) ok_X10_counted ⟨by decide, by decide⟩ ml_X10_76 rfl (by decide) (fun v hv => by simp only [List.mem_cons, List.not_mem_nil, or_false] at hv; rcases hv with rfl <;> first | exact pv_1i | exact pv_1r) (Nat.le_of_ble_eq_true rfl) (fun _ h => h) (by decide) rfl k6 dX10_again_30 H (fun r M26 hq hS => ?_)
      obtain ⟨v27, rfl, H⟩ := hq
      have k28 : mm_k M26 a0 = (10, 14) := ks_S k6 (by decide) hS
      show go_W mt_X10_again fr_C 33 [some (pv_r a0), some (pv_i x1), some (pv_r v2), some (pv_i v5)] [pv_i v27] M26 (qi_ P)
      exact go_iret rfl rfl dX10_again_33 ⟨_, rfl, H⟩
  · replace H := H.2 hc
    refine go_aload_n dX10_again_10 rfl ?_
    refine go_bipush (v := (-2 : Int32)) rfl dX10_again_11 ?_
    refine go_V (av := [pv_i (-2 : Int32)]) (st := []) (ci := 10) ok_X10_counted ⟨by decide, by decide⟩ ml_X10_76 rfl (by decide) (fun v hv => by simp only [List.mem_cons, List.not_mem_nil, or_false] at hv; rcases hv with rfl <;> first | exact pv_1i | exact pv_1r) (Nat.le_of_ble_eq_true rfl) (fun _ h => h) (by decide) rfl k3 dX10_again_13 H (fun r M29 hq hS => ?_)
    obtain ⟨v30, rfl, H⟩ := hq
    have k31 : mm_k M29 a0 = (10, 14) := ks_S k3 (by decide) hS
    show go_W mt_X10_again fr_C 16 [some (pv_r a0), some (pv_i x1), some (pv_r v2), none] [pv_i v30] M29 (qi_ P)
    exact go_iret rfl rfl dX10_again_16 ⟨_, rfl, H⟩
