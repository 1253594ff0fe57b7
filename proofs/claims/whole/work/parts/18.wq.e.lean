/-! the walks of the reference, by program (wip/whole/walk2.py) -/
set_option maxRecDepth 20000 in
theorem wq_X11_lane_0 {B : mm_T} {I : Nat → Nat → Int32} {m : Nat} (RK : rf_ok B m) {x1 x2 : Int32} {P : Int32 → (Nat → Nat → Int32) → Prop} (H : ((((0 ≤ x1 ∧ x1 ≤ 4)) → ((x2 = (0 : Int32)) → ∃ n1, (x1 = nI n1 ∧ n1 < 5) ∧ (P (I (m + 1) ((10 + 10 * n1) + 0)) I)) ∧ ((x2 = (1 : Int32)) → ∃ n2, (x1 = nI n2 ∧ n2 < 5) ∧ (P (I (m + 1) ((10 + 10 * n2) + 1)) I)) ∧ ((x2 = (2 : Int32)) → ∃ n3, (x1 = nI n3 ∧ n3 < 5) ∧ (P (I (m + 1) ((10 + 10 * n3) + 3)) I)) ∧ ((x2 = (3 : Int32)) → ∃ n4, (x1 = nI n4 ∧ n4 < 5) ∧ (P (I (m + 1) ((10 + 10 * n4) + 4)) I)) ∧ ((x2 = (4 : Int32)) → rs_i mt_X11_manyOf [pv_r m, pv_i x1, pv_i (0 : Int32)] B I (fun v6 I5 => P v6 I5)) ∧ ((x2 = (5 : Int32)) → rs_i mt_X11_standing [pv_r m, pv_i x1] B I (fun v8 I7 => P v8 I7)) ∧ ((x2 = (6 : Int32)) → ∃ n9, (x1 = nI n9 ∧ n9 < 5) ∧ (P (I (m + 1) ((10 + 10 * n9) + 5)) I)) ∧ ((x2 = (7 : Int32)) → ∃ n10, (x1 = nI n10 ∧ n10 < 5) ∧ (P (I (m + 1) ((10 + 10 * n10) + 6)) I)) ∧ ((x2 = (8 : Int32)) → ∃ n11, (x1 = nI n11 ∧ n11 < 5) ∧ (P (I (m + 1) ((10 + 10 * n11) + 2)) I)) ∧ ((x2 = (9 : Int32)) → rs_i mt_X11_manyOf [pv_r m, pv_i x1, pv_i (3 : Int32)] B I (fun v13 I12 => P v13 I12)) ∧ ((¬ x2 = (0 : Int32) ∧ ¬ x2 = (1 : Int32) ∧ ¬ x2 = (2 : Int32) ∧ ¬ x2 = (3 : Int32) ∧ ¬ x2 = (4 : Int32) ∧ ¬ x2 = (5 : Int32) ∧ ¬ x2 = (6 : Int32) ∧ ¬ x2 = (7 : Int32) ∧ ¬ x2 = (8 : Int32) ∧ ¬ x2 = (9 : Int32)) → P (-1 : Int32) I)) ∧ ((¬ (0 ≤ x1 ∧ x1 ≤ 4)) → P (-1 : Int32) I))) : rw_i mt_X11_lane 0 [some (pv_r m), some (pv_i x1), some (pv_i x2)] [] B I P := by
  refine go_aload_n dX11_lane_0 rfl ?_
  refine go_iload_n dX11_lane_1 rfl ?_
  by_cases hc : (0 ≤ x1 ∧ x1 ≤ 4)
  · replace H := H.1 hc
    refine go_V (av := [pv_i x1]) (st := []) (ci := 11) ok_X11_isLane ⟨by decide, by decide⟩ ml_X11_152 rfl (by decide) (fun v hv => by simp only [List.mem_cons, List.not_mem_nil, or_false] at hv; rcases hv with rfl <;> first | exact pv_1i | exact pv_1r) (Nat.le_of_ble_eq_true rfl) (fun _ h => h) (by decide) rfl RK.1 dX11_lane_2 (rx_isLane_t RK hc) (fun r M' hq _ => ?_)
    obtain ⟨_, rfl, _, rfl, rfl, rfl⟩ := hq
    show go_W mt_X11_lane fr_R 5 [some (pv_r m), some (pv_i x1), some (pv_i x2)] [pv_i (1 : Int32)] (mm_si B I) (qi_ (fun x M' => ∃ I', M' = mm_si B I' ∧ P x I'))
    refine go_if_ne (tgt := 10) dX11_lane_5 (by decide) (fun _ => ?_) (fun hc => absurd hc (by decide))
    refine go_iload_n dX11_lane_10 rfl ?_
    by_cases hc0 : x2 = (0 : Int32)
    · replace H := H.1 hc0
      refine go_tabIn (v := (0 : Int32)) (tgt := 64) hc0 (by decide) (by decide) rfl (by decide) dX11_lane_11 ?_
      refine go_aload_n dX11_lane_64 rfl ?_
      refine go_getRe (k := 0) ⟨by decide, rfl, by decide, Or.inr ⟨_, rfl⟩⟩ RK.1 (rf_r1 RK) fl_X11_7 dX11_lane_65 ?_
      refine go_iload_n dX11_lane_68 rfl ?_
      obtain ⟨n1, ⟨hn1, hn1b⟩, H⟩ := H
      refine go_St (av := [pv_i x1]) (st := [pv_r (m + 1)]) ok_X11_at ⟨by decide, by decide⟩ ml_X11_80 rfl (by decide) (fun v hv => by simp only [List.mem_cons, List.not_mem_nil, or_false] at hv; rcases hv with rfl <;> first | exact pv_1i | exact pv_1r) (Nat.le_of_ble_eq_true rfl) (fun _ h => h) dX11_lane_69 (rx_at RK hn1) (fun r M' hq _ => ?_)
      obtain ⟨_, rfl, _, rfl, rfl, rfl⟩ := hq
      show go_W mt_X11_lane fr_R 72 [some (pv_r m), some (pv_i x1), some (pv_i x2)] [pv_i (nI (10 + 10 * n1)), pv_r (m + 1)] (mm_si B I) (qi_ (fun x M' => ∃ I', M' = mm_si B I' ∧ P x I'))
      refine go_iconst (v := (0 : Int32)) rfl dX11_lane_72 ?_
      refine go_iadd dX11_lane_73 ?_
      refine go_ialdN (j := ((10 + 10 * n1) + 0)) ⟨by decide, by decide, by decide⟩ (rf_k1 RK) (nI_ae rfl rfl) (by omega) dX11_lane_74 ?_
      exact go_iret rfl rfl dX11_lane_75 ⟨_, rfl, _, rfl, H⟩
    replace H := H.2
    by_cases hc1 : x2 = (1 : Int32)
    · replace H := H.1 hc1
      refine go_tabIn (v := (1 : Int32)) (tgt := 76) hc1 (by decide) (by decide) rfl (by decide) dX11_lane_11 ?_
      refine go_aload_n dX11_lane_76 rfl ?_
      refine go_getRe (k := 0) ⟨by decide, rfl, by decide, Or.inr ⟨_, rfl⟩⟩ RK.1 (rf_r1 RK) fl_X11_7 dX11_lane_77 ?_
      refine go_iload_n dX11_lane_80 rfl ?_
      obtain ⟨n2, ⟨hn2, hn2b⟩, H⟩ := H
      refine go_St (av := [pv_i x1]) (st := [pv_r (m + 1)]) ok_X11_at ⟨by decide, by decide⟩ ml_X11_80 rfl (by decide) (fun v hv => by simp only [List.mem_cons, List.not_mem_nil, or_false] at hv; rcases hv with rfl <;> first | exact pv_1i | exact pv_1r) (Nat.le_of_ble_eq_true rfl) (fun _ h => h) dX11_lane_81 (rx_at RK hn2) (fun r M' hq _ => ?_)
      obtain ⟨_, rfl, _, rfl, rfl, rfl⟩ := hq
      show go_W mt_X11_lane fr_R 84 [some (pv_r m), some (pv_i x1), some (pv_i x2)] [pv_i (nI (10 + 10 * n2)), pv_r (m + 1)] (mm_si B I) (qi_ (fun x M' => ∃ I', M' = mm_si B I' ∧ P x I'))
      refine go_iconst (v := (1 : Int32)) rfl dX11_lane_84 ?_
      refine go_iadd dX11_lane_85 ?_
      refine go_ialdN (j := ((10 + 10 * n2) + 1)) ⟨by decide, by decide, by decide⟩ (rf_k1 RK) (nI_ae rfl rfl) (by omega) dX11_lane_86 ?_
      exact go_iret rfl rfl dX11_lane_87 ⟨_, rfl, _, rfl, H⟩
    replace H := H.2
    by_cases hc2 : x2 = (2 : Int32)
    · replace H := H.1 hc2
      refine go_tabIn (v := (2 : Int32)) (tgt := 88) hc2 (by decide) (by decide) rfl (by decide) dX11_lane_11 ?_
      refine go_aload_n dX11_lane_88 rfl ?_
      refine go_getRe (k := 0) ⟨by decide, rfl, by decide, Or.inr ⟨_, rfl⟩⟩ RK.1 (rf_r1 RK) fl_X11_7 dX11_lane_89 ?_
      refine go_iload_n dX11_lane_92 rfl ?_
      obtain ⟨n3, ⟨hn3, hn3b⟩, H⟩ := H
      refine go_St (av := [pv_i x1]) (st := [pv_r (m + 1)]) ok_X11_at ⟨by decide, by decide⟩ ml_X11_80 rfl (by decide) (fun v hv => by simp only [List.mem_cons, List.not_mem_nil, or_false] at hv; rcases hv with rfl <;> first | exact pv_1i | exact pv_1r) (Nat.le_of_ble_eq_true rfl) (fun _ h => h) dX11_lane_93 (rx_at RK hn3) (fun r M' hq _ => ?_)
      obtain ⟨_, rfl, _, rfl, rfl, rfl⟩ := hq
      show go_W mt_X11_lane fr_R 96 [some (pv_r m), some (pv_i x1), some (pv_i x2)] [pv_i (nI (10 + 10 * n3)), pv_r (m + 1)] (mm_si B I) (qi_ (fun x M' => ∃ I', M' = mm_si B I' ∧ P x I'))
      refine go_iconst (v := (3 : Int32)) rfl dX11_lane_96 ?_
      refine go_iadd dX11_lane_97 ?_
      refine go_ialdN (j := ((10 + 10 * n3) + 3)) ⟨by decide, by decide, by decide⟩ (rf_k1 RK) (nI_ae rfl rfl) (by omega) dX11_lane_98 ?_
      exact go_iret rfl rfl dX11_lane_99 ⟨_, rfl, _, rfl, H⟩
    replace H := H.2
    by_cases hc3 : x2 = (3 : Int32)
    · replace H := H.1 hc3
      refine go_tabIn (v := (3 : Int32)) (tgt := 100) hc3 (by decide) (by decide) rfl (by decide) dX11_lane_11 ?_
      refine go_aload_n dX11_lane_100 rfl ?_
      refine go_getRe (k := 0) ⟨by decide, rfl, by decide, Or.inr ⟨_, rfl⟩⟩ RK.1 (rf_r1 RK) fl_X11_7 dX11_lane_101 ?_
      refine go_iload_n dX11_lane_104 rfl ?_
      obtain ⟨n4, ⟨hn4, hn4b⟩, H⟩ := H
      refine go_St (av := [pv_i x1]) (st := [pv_r (m + 1)]) ok_X11_at ⟨by decide, by decide⟩ ml_X11_80 rfl (by decide) (fun v hv => by simp only [List.mem_cons, List.not_mem_nil, or_false] at hv; rcases hv with rfl <;> first | exact pv_1i | exact pv_1r) (Nat.le_of_ble_eq_true rfl) (fun _ h => h) dX11_lane_105 (rx_at RK hn4) (fun r M' hq _ => ?_)
      obtain ⟨_, rfl, _, rfl, rfl, rfl⟩ := hq
      show go_W mt_X11_lane fr_R 108 [some (pv_r m), some (pv_i x1), some (pv_i x2)] [pv_i (nI (10 + 10 * n4)), pv_r (m + 1)] (mm_si B I) (qi_ (fun x M' => ∃ I', M' = mm_si B I' ∧ P x I'))
      refine go_iconst (v := (4 : Int32)) rfl dX11_lane_108 ?_
      refine go_iadd dX11_lane_109 ?_
      refine go_ialdN (j := ((10 + 10 * n4) + 4)) ⟨by decide, by decide, by decide⟩ (rf_k1 RK) (nI_ae rfl rfl) (by omega) dX11_lane_110 ?_
      exact go_iret rfl rfl dX11_lane_111 ⟨_, rfl, _, rfl, H⟩
    replace H := H.2
    by_cases hc4 : x2 = (4 : Int32)
    · replace H := H.1 hc4
      refine go_tabIn (v := (4 : Int32)) (tgt := 112) hc4 (by decide) (by decide) rfl (by decide) dX11_lane_11 ?_
      refine go_aload_n dX11_lane_112 rfl ?_
      refine go_iload_n dX11_lane_113 rfl ?_
      refine go_iconst (v := (0 : Int32)) rfl dX11_lane_114 ?_
      refine go_V (av := [pv_i x1, pv_i (0 : Int32)]) (st := []) (ci := 11) ok_X11_manyOf ⟨by decide, by decide⟩ ml_X11_112 rfl (by decide) (fun v hv => by simp only [List.mem_cons, List.not_mem_nil, or_false] at hv; rcases hv with rfl | rfl <;> first | exact pv_1i | exact pv_1r) (Nat.le_of_ble_eq_true rfl) (fun _ h => h) (by decide) rfl RK.1 dX11_lane_115 H (fun r M' hq _ => ?_)
      obtain ⟨v6, rfl, I5, rfl, H⟩ := hq
      show go_W mt_X11_lane fr_R 118 [some (pv_r m), some (pv_i x1), some (pv_i x2)] [pv_i v6] (mm_si B I5) (qi_ (fun x M' => ∃ I', M' = mm_si B I' ∧ P x I'))
      exact go_iret rfl rfl dX11_lane_118 ⟨_, rfl, _, rfl, H⟩
    replace H := H.2
    by_cases hc5 : x2 = (5 : Int32)
    · replace H := H.1 hc5
      refine go_tabIn (v := (5 : Int32)) (tgt := 119) hc5 (by decide) (by decide) rfl (by decide) dX11_lane_11 ?_
      refine go_aload_n dX11_lane_119 rfl ?_
      refine go_iload_n dX11_lane_120 rfl ?_
      refine go_V (av := [pv_i x1]) (st := []) (ci := 11) ok_X11_standing ⟨by decide, by decide⟩ ml_X11_115 rfl (by decide) (fun v hv => by simp only [List.mem_cons, List.not_mem_nil, or_false] at hv; rcases hv with rfl <;> first | exact pv_1i | exact pv_1r) (Nat.le_of_ble_eq_true rfl) (fun _ h => h) (by decide) rfl RK.1 dX11_lane_121 H (fun r M' hq _ => ?_)
      obtain ⟨v8, rfl, I7, rfl, H⟩ := hq
      show go_W mt_X11_lane fr_R 124 [some (pv_r m), some (pv_i x1), some (pv_i x2)] [pv_i v8] (mm_si B I7) (qi_ (fun x M' => ∃ I', M' = mm_si B I' ∧ P x I'))
      exact go_iret rfl rfl dX11_lane_124 ⟨_, rfl, _, rfl, H⟩
    replace H := H.2
    by_cases hc6 : x2 = (6 : Int32)
    · replace H := H.1 hc6
      refine go_tabIn (v := (6 : Int32)) (tgt := 125) hc6 (by decide) (by decide) rfl (by decide) dX11_lane_11 ?_
      refine go_aload_n dX11_lane_125 rfl ?_
      refine go_getRe (k := 0) ⟨by decide, rfl, by decide, Or.inr ⟨_, rfl⟩⟩ RK.1 (rf_r1 RK) fl_X11_7 dX11_lane_126 ?_
      refine go_iload_n dX11_lane_129 rfl ?_
      obtain ⟨n9, ⟨hn9, hn9b⟩, H⟩ := H
      refine go_St (av := [pv_i x1]) (st := [pv_r (m + 1)]) ok_X11_at ⟨by decide, by decide⟩ ml_X11_80 rfl (by decide) (fun v hv => by simp only [List.mem_cons, List.not_mem_nil, or_false] at hv; rcases hv with rfl <;> first | exact pv_1i | exact pv_1r) (Nat.le_of_ble_eq_true rfl) (fun _ h => h) dX11_lane_130 (rx_at RK hn9) (fun r M' hq _ => ?_)
      obtain ⟨_, rfl, _, rfl, rfl, rfl⟩ := hq
      show go_W mt_X11_lane fr_R 133 [some (pv_r m), some (pv_i x1), some (pv_i x2)] [pv_i (nI (10 + 10 * n9)), pv_r (m + 1)] (mm_si B I) (qi_ (fun x M' => ∃ I', M' = mm_si B I' ∧ P x I'))
      refine go_iconst (v := (5 : Int32)) rfl dX11_lane_133 ?_
      refine go_iadd dX11_lane_134 ?_
      refine go_ialdN (j := ((10 + 10 * n9) + 5)) ⟨by decide, by decide, by decide⟩ (rf_k1 RK) (nI_ae rfl rfl) (by omega) dX11_lane_135 ?_
      exact go_iret rfl rfl dX11_lane_136 ⟨_, rfl, _, rfl, H⟩
    replace H := H.2
    by_cases hc7 : x2 = (7 : Int32)
    · replace H := H.1 hc7
      refine go_tabIn (v := (7 : Int32)) (tgt := 137) hc7 (by decide) (by decide) rfl (by decide) dX11_lane_11 ?_
      refine go_aload_n dX11_lane_137 rfl ?_
      refine go_getRe (k := 0) ⟨by decide, rfl, by decide, Or.inr ⟨_, rfl⟩⟩ RK.1 (rf_r1 RK) fl_X11_7 dX11_lane_138 ?_
      refine go_iload_n dX11_lane_141 rfl ?_
      obtain ⟨n10, ⟨hn10, hn10b⟩, H⟩ := H
      refine go_St (av := [pv_i x1]) (st := [pv_r (m + 1)]) ok_X11_at ⟨by decide, by decide⟩ ml_X11_80 rfl (by decide) (fun v hv => by simp only [List.mem_cons, List.not_mem_nil, or_false] at hv; rcases hv with rfl <;> first | exact pv_1i | exact pv_1r) (Nat.le_of_ble_eq_true rfl) (fun _ h => h) dX11_lane_142 (rx_at RK hn10) (fun r M' hq _ => ?_)
      obtain ⟨_, rfl, _, rfl, rfl, rfl⟩ := hq
      show go_W mt_X11_lane fr_R 145 [some (pv_r m), some (pv_i x1), some (pv_i x2)] [pv_i (nI (10 + 10 * n10)), pv_r (m + 1)] (mm_si B I) (qi_ (fun x M' => ∃ I', M' = mm_si B I' ∧ P x I'))
      refine go_bipush (v := (6 : Int32)) rfl dX11_lane_145 ?_
      refine go_iadd dX11_lane_147 ?_
      refine go_ialdN (j := ((10 + 10 * n10) + 6)) ⟨by decide, by decide, by decide⟩ (rf_k1 RK) (nI_ae rfl rfl) (by omega) dX11_lane_148 ?_
      exact go_iret rfl rfl dX11_lane_149 ⟨_, rfl, _, rfl, H⟩
    replace H := H.2
    by_cases hc8 : x2 = (8 : Int32)
    · replace H := H.1 hc8
      refine go_tabIn (v := (8 : Int32)) (tgt := 150) hc8 (by decide) (by decide) rfl (by decide) dX11_lane_11 ?_
      refine go_aload_n dX11_lane_150 rfl ?_
      refine go_getRe (k := 0) ⟨by decide, rfl, by decide, Or.inr ⟨_, rfl⟩⟩ RK.1 (rf_r1 RK) fl_X11_7 dX11_lane_151 ?_
      refine go_iload_n dX11_lane_154 rfl ?_
      obtain ⟨n11, ⟨hn11, hn11b⟩, H⟩ := H
      refine go_St (av := [pv_i x1]) (st := [pv_r (m + 1)]) ok_X11_at ⟨by decide, by decide⟩ ml_X11_80 rfl (by decide) (fun v hv => by simp only [List.mem_cons, List.not_mem_nil, or_false] at hv; rcases hv with rfl <;> first | exact pv_1i | exact pv_1r) (Nat.le_of_ble_eq_true rfl) (fun _ h => h) dX11_lane_155 (rx_at RK hn11) (fun r M' hq _ => ?_)
      obtain ⟨_, rfl, _, rfl, rfl, rfl⟩ := hq
      show go_W mt_X11_lane fr_R 158 [some (pv_r m), some (pv_i x1), some (pv_i x2)] [pv_i (nI (10 + 10 * n11)), pv_r (m + 1)] (mm_si B I) (qi_ (fun x M' => ∃ I', M' = mm_si B I' ∧ P x I'))
      refine go_iconst (v := (2 : Int32)) rfl dX11_lane_158 ?_
      refine go_iadd dX11_lane_159 ?_
      refine go_ialdN (j := ((10 + 10 * n11) + 2)) ⟨by decide, by decide, by decide⟩ (rf_k1 RK) (nI_ae rfl rfl) (by omega) dX11_lane_160 ?_
      exact go_iret rfl rfl dX11_lane_161 ⟨_, rfl, _, rfl, H⟩
    replace H := H.2
    by_cases hc9 : x2 = (9 : Int32)
    · replace H := H.1 hc9
      refine go_tabIn (v := (9 : Int32)) (tgt := 162) hc9 (by decide) (by decide) rfl (by decide) dX11_lane_11 ?_
      refine go_aload_n dX11_lane_162 rfl ?_
      refine go_iload_n dX11_lane_163 rfl ?_
      refine go_iconst (v := (3 : Int32)) rfl dX11_lane_164 ?_
      refine go_V (av := [pv_i x1, pv_i (3 : Int32)]) (st := []) (ci := 11) ok_X11_manyOf ⟨by decide, by decide⟩ ml_X11_112 rfl (by decide) (fun v hv => by simp only [List.mem_cons, List.not_mem_nil, or_false] at hv; rcases hv with rfl | rfl <;> first | exact pv_1i | exact pv_1r) (Nat.le_of_ble_eq_true rfl) (fun _ h => h) (by decide) rfl RK.1 dX11_lane_165 H (fun r M' hq _ => ?_)
      obtain ⟨v13, rfl, I12, rfl, H⟩ := hq
      show go_W mt_X11_lane fr_R 168 [some (pv_r m), some (pv_i x1), some (pv_i x2)] [pv_i v13] (mm_si B I12) (qi_ (fun x M' => ∃ I', M' = mm_si B I' ∧ P x I'))
      exact go_iret rfl rfl dX11_lane_168 ⟨_, rfl, _, rfl, H⟩
    replace H := H.2
    replace H := H ⟨hc0, hc1, hc2, hc3, hc4, hc5, hc6, hc7, hc8, hc9⟩
    have he0 : (x2).toInt ≠ 0 := fun h => hc0 (Int32.toInt_inj.mp (h.trans (by decide)))
    have he1 : (x2).toInt ≠ 1 := fun h => hc1 (Int32.toInt_inj.mp (h.trans (by decide)))
    have he2 : (x2).toInt ≠ 2 := fun h => hc2 (Int32.toInt_inj.mp (h.trans (by decide)))
    have he3 : (x2).toInt ≠ 3 := fun h => hc3 (Int32.toInt_inj.mp (h.trans (by decide)))
    have he4 : (x2).toInt ≠ 4 := fun h => hc4 (Int32.toInt_inj.mp (h.trans (by decide)))
    have he5 : (x2).toInt ≠ 5 := fun h => hc5 (Int32.toInt_inj.mp (h.trans (by decide)))
    have he6 : (x2).toInt ≠ 6 := fun h => hc6 (Int32.toInt_inj.mp (h.trans (by decide)))
    have he7 : (x2).toInt ≠ 7 := fun h => hc7 (Int32.toInt_inj.mp (h.trans (by decide)))
    have he8 : (x2).toInt ≠ 8 := fun h => hc8 (Int32.toInt_inj.mp (h.trans (by decide)))
    have he9 : (x2).toInt ≠ 9 := fun h => hc9 (Int32.toInt_inj.mp (h.trans (by decide)))
    refine go_tabOut (tgt := 169) (by omega) (by decide) dX11_lane_11 ?_
    refine go_iconst (v := (-1 : Int32)) rfl dX11_lane_169 ?_
    exact go_iret rfl rfl dX11_lane_170 ⟨_, rfl, _, rfl, H⟩
  · replace H := H.2 hc
    refine go_V (av := [pv_i x1]) (st := []) (ci := 11) ok_X11_isLane ⟨by decide, by decide⟩ ml_X11_152 rfl (by decide) (fun v hv => by simp only [List.mem_cons, List.not_mem_nil, or_false] at hv; rcases hv with rfl <;> first | exact pv_1i | exact pv_1r) (Nat.le_of_ble_eq_true rfl) (fun _ h => h) (by decide) rfl RK.1 dX11_lane_2 (rx_isLane_f RK hc) (fun r M' hq _ => ?_)
    obtain ⟨_, rfl, _, rfl, rfl, rfl⟩ := hq
    show go_W mt_X11_lane fr_R 5 [some (pv_r m), some (pv_i x1), some (pv_i x2)] [pv_i (0 : Int32)] (mm_si B I) (qi_ (fun x M' => ∃ I', M' = mm_si B I' ∧ P x I'))
    refine go_if_ne (tgt := 10) dX11_lane_5 (by decide) (fun hc => absurd hc (by decide)) (fun _ => ?_)
    refine go_iconst (v := (-1 : Int32)) rfl dX11_lane_8 ?_
    exact go_iret rfl rfl dX11_lane_9 ⟨_, rfl, _, rfl, H⟩
set_option maxRecDepth 20000 in
theorem wq_X11_task_0 {B : mm_T} {I : Nat → Nat → Int32} {m : Nat} (RK : rf_ok B m) {x1 x2 : Int32} {P : Int32 → (Nat → Nat → Int32) → Prop} (H : ((((0 ≤ x1 ∧ x1 ≤ I (m + 1) 1 - 1)) → (((((0 : Int32) ≤ x2 ∧ x2 ≤ (12 : Int32))) → ∃ n1, (x1 = nI n1 ∧ n1 < 400) ∧ (∃ n2, (x2 = nI n2 ∧ n2 < 14) ∧ (P (I (m + 1) (200 + 14 * n1 + n2)) I))) ∧ ((¬ ((0 : Int32) ≤ x2 ∧ x2 ≤ (12 : Int32))) → P (-1 : Int32) I))) ∧ ((¬ (0 ≤ x1 ∧ x1 ≤ I (m + 1) 1 - 1)) → P (-1 : Int32) I))) : rw_i mt_X11_task 0 [some (pv_r m), some (pv_i x1), some (pv_i x2)] [] B I P := by
  refine go_aload_n dX11_task_0 rfl ?_
  refine go_iload_n dX11_task_1 rfl ?_
  by_cases hc : (0 ≤ x1 ∧ x1 ≤ I (m + 1) 1 - 1)
  · replace H := H.1 hc
    refine go_V (av := [pv_i x1]) (st := []) (ci := 11) ok_X11_isTask ⟨by decide, by decide⟩ ml_X11_161 rfl (by decide) (fun v hv => by simp only [List.mem_cons, List.not_mem_nil, or_false] at hv; rcases hv with rfl <;> first | exact pv_1i | exact pv_1r) (Nat.le_of_ble_eq_true rfl) (fun _ h => h) (by decide) rfl RK.1 dX11_task_2 (rx_isTask_t RK hc) (fun r M' hq _ => ?_)
    obtain ⟨_, rfl, _, rfl, rfl, rfl⟩ := hq
    show go_W mt_X11_task fr_R 5 [some (pv_r m), some (pv_i x1), some (pv_i x2)] [pv_i (1 : Int32)] (mm_si B I) (qi_ (fun x M' => ∃ I', M' = mm_si B I' ∧ P x I'))
    refine go_if_eq (tgt := 27) dX11_task_5 (by decide) (fun hc => absurd hc (by decide)) (fun _ => ?_)
    refine go_iload_n dX11_task_8 rfl ?_
    refine go_iconst (v := (0 : Int32)) rfl dX11_task_9 ?_
    refine go_bipush (v := (12 : Int32)) rfl dX11_task_10 ?_
    by_cases hc : ((0 : Int32) ≤ x2 ∧ x2 ≤ (12 : Int32))
    · replace H := H.1 hc
      refine go_St (av := [pv_i x2, pv_i (0 : Int32), pv_i (12 : Int32)]) (st := []) ok_X11_isIn ⟨by decide, by decide⟩ ml_X11_90 rfl (by decide) (fun v hv => by simp only [List.mem_cons, List.not_mem_nil, or_false] at hv; rcases hv with rfl | rfl | rfl <;> first | exact pv_1i | exact pv_1r) (Nat.le_of_ble_eq_true rfl) (fun _ h => h) dX11_task_12 (rx_isIn_t RK hc) (fun r M' hq _ => ?_)
      obtain ⟨_, rfl, _, rfl, rfl, rfl⟩ := hq
      show go_W mt_X11_task fr_R 15 [some (pv_r m), some (pv_i x1), some (pv_i x2)] [pv_i (1 : Int32)] (mm_si B I) (qi_ (fun x M' => ∃ I', M' = mm_si B I' ∧ P x I'))
      refine go_if_eq (tgt := 27) dX11_task_15 (by decide) (fun hc => absurd hc (by decide)) (fun _ => ?_)
      refine go_aload_n dX11_task_18 rfl ?_
      refine go_iload_n dX11_task_19 rfl ?_
      refine go_iload_n dX11_task_20 rfl ?_
      obtain ⟨n1, ⟨hn1, hn1b⟩, H⟩ := H
      obtain ⟨n2, ⟨hn2, hn2b⟩, H⟩ := H
      refine go_V (av := [pv_i x1, pv_i x2]) (st := []) (ci := 11) ok_X11_of ⟨by decide, by decide⟩ ml_X11_94 rfl (by decide) (fun v hv => by simp only [List.mem_cons, List.not_mem_nil, or_false] at hv; rcases hv with rfl | rfl <;> first | exact pv_1i | exact pv_1r) (Nat.le_of_ble_eq_true rfl) (fun _ h => h) (by decide) rfl RK.1 dX11_task_21 (rx_of RK hn1 hn2 hn1b hn2b) (fun r M' hq _ => ?_)
      obtain ⟨_, rfl, _, rfl, rfl, rfl⟩ := hq
      show go_W mt_X11_task fr_R 24 [some (pv_r m), some (pv_i x1), some (pv_i x2)] [pv_i (I (m + 1) (200 + 14 * n1 + n2))] (mm_si B I) (qi_ (fun x M' => ∃ I', M' = mm_si B I' ∧ P x I'))
      refine go_goto (tgt := 28) dX11_task_24 (by decide) ?_
      exact go_iret rfl rfl dX11_task_28 ⟨_, rfl, _, rfl, H⟩
    · replace H := H.2 hc
      refine go_St (av := [pv_i x2, pv_i (0 : Int32), pv_i (12 : Int32)]) (st := []) ok_X11_isIn ⟨by decide, by decide⟩ ml_X11_90 rfl (by decide) (fun v hv => by simp only [List.mem_cons, List.not_mem_nil, or_false] at hv; rcases hv with rfl | rfl | rfl <;> first | exact pv_1i | exact pv_1r) (Nat.le_of_ble_eq_true rfl) (fun _ h => h) dX11_task_12 (rx_isIn_f RK hc) (fun r M' hq _ => ?_)
      obtain ⟨_, rfl, _, rfl, rfl, rfl⟩ := hq
      show go_W mt_X11_task fr_R 15 [some (pv_r m), some (pv_i x1), some (pv_i x2)] [pv_i (0 : Int32)] (mm_si B I) (qi_ (fun x M' => ∃ I', M' = mm_si B I' ∧ P x I'))
      refine go_if_eq (tgt := 27) dX11_task_15 (by decide) (fun _ => ?_) (fun hc => absurd hc (by decide))
      refine go_iconst (v := (-1 : Int32)) rfl dX11_task_27 ?_
      exact go_iret rfl rfl dX11_task_28 ⟨_, rfl, _, rfl, H⟩
  · replace H := H.2 hc
    refine go_V (av := [pv_i x1]) (st := []) (ci := 11) ok_X11_isTask ⟨by decide, by decide⟩ ml_X11_161 rfl (by decide) (fun v hv => by simp only [List.mem_cons, List.not_mem_nil, or_false] at hv; rcases hv with rfl <;> first | exact pv_1i | exact pv_1r) (Nat.le_of_ble_eq_true rfl) (fun _ h => h) (by decide) rfl RK.1 dX11_task_2 (rx_isTask_f RK hc) (fun r M' hq _ => ?_)
    obtain ⟨_, rfl, _, rfl, rfl, rfl⟩ := hq
    show go_W mt_X11_task fr_R 5 [some (pv_r m), some (pv_i x1), some (pv_i x2)] [pv_i (0 : Int32)] (mm_si B I) (qi_ (fun x M' => ∃ I', M' = mm_si B I' ∧ P x I'))
    refine go_if_eq (tgt := 27) dX11_task_5 (by decide) (fun _ => ?_) (fun hc => absurd hc (by decide))
    refine go_iconst (v := (-1 : Int32)) rfl dX11_task_27 ?_
    exact go_iret rfl rfl dX11_task_28 ⟨_, rfl, _, rfl, H⟩
set_option maxRecDepth 20000 in
theorem wq_X11_rank_0 {B : mm_T} {I : Nat → Nat → Int32} {m : Nat} (RK : rf_ok B m) {x1 : Int32} {P : Int32 → (Nat → Nat → Int32) → Prop} (H : ((((0 ≤ x1 ∧ x1 ≤ I (m + 1) 1 - 1)) → ∃ n1, (x1 = nI n1 ∧ n1 < 400) ∧ (P (ra_rank I m n1) I)) ∧ ((¬ (0 ≤ x1 ∧ x1 ≤ I (m + 1) 1 - 1)) → P (-1000000 : Int32) I))) : rw_i mt_X11_rank 0 [some (pv_r m), some (pv_i x1)] [] B I P := by
  refine go_aload_n dX11_rank_0 rfl ?_
  refine go_iload_n dX11_rank_1 rfl ?_
  by_cases hc : (0 ≤ x1 ∧ x1 ≤ I (m + 1) 1 - 1)
  · replace H := H.1 hc
    refine go_V (av := [pv_i x1]) (st := []) (ci := 11) ok_X11_isTask ⟨by decide, by decide⟩ ml_X11_161 rfl (by decide) (fun v hv => by simp only [List.mem_cons, List.not_mem_nil, or_false] at hv; rcases hv with rfl <;> first | exact pv_1i | exact pv_1r) (Nat.le_of_ble_eq_true rfl) (fun _ h => h) (by decide) rfl RK.1 dX11_rank_2 (rx_isTask_t RK hc) (fun r M' hq _ => ?_)
    obtain ⟨_, rfl, _, rfl, rfl, rfl⟩ := hq
    show go_W mt_X11_rank fr_R 5 [some (pv_r m), some (pv_i x1)] [pv_i (1 : Int32)] (mm_si B I) (qi_ (fun x M' => ∃ I', M' = mm_si B I' ∧ P x I'))
    refine go_if_eq (tgt := 16) dX11_rank_5 (by decide) (fun hc => absurd hc (by decide)) (fun _ => ?_)
    refine go_aload_n dX11_rank_8 rfl ?_
    refine go_iload_n dX11_rank_9 rfl ?_
    obtain ⟨n1, ⟨hn1, hn1b⟩, H⟩ := H
    refine go_V (av := [pv_i x1]) (st := []) (ci := 11) ok_X11_rankOf ⟨by decide, by decide⟩ ml_X11_102 rfl (by decide) (fun v hv => by simp only [List.mem_cons, List.not_mem_nil, or_false] at hv; rcases hv with rfl <;> first | exact pv_1i | exact pv_1r) (Nat.le_of_ble_eq_true rfl) (fun _ h => h) (by decide) rfl RK.1 dX11_rank_10 (rx_rankOf RK hn1 hn1b) (fun r M' hq _ => ?_)
    obtain ⟨_, rfl, _, rfl, rfl, rfl⟩ := hq
    show go_W mt_X11_rank fr_R 13 [some (pv_r m), some (pv_i x1)] [pv_i (ra_rank I m n1)] (mm_si B I) (qi_ (fun x M' => ∃ I', M' = mm_si B I' ∧ P x I'))
    refine go_goto (tgt := 19) dX11_rank_13 (by decide) ?_
    exact go_iret rfl rfl dX11_rank_19 ⟨_, rfl, _, rfl, H⟩
  · replace H := H.2 hc
    refine go_V (av := [pv_i x1]) (st := []) (ci := 11) ok_X11_isTask ⟨by decide, by decide⟩ ml_X11_161 rfl (by decide) (fun v hv => by simp only [List.mem_cons, List.not_mem_nil, or_false] at hv; rcases hv with rfl <;> first | exact pv_1i | exact pv_1r) (Nat.le_of_ble_eq_true rfl) (fun _ h => h) (by decide) rfl RK.1 dX11_rank_2 (rx_isTask_f RK hc) (fun r M' hq _ => ?_)
    obtain ⟨_, rfl, _, rfl, rfl, rfl⟩ := hq
    show go_W mt_X11_rank fr_R 5 [some (pv_r m), some (pv_i x1)] [pv_i (0 : Int32)] (mm_si B I) (qi_ (fun x M' => ∃ I', M' = mm_si B I' ∧ P x I'))
    refine go_if_eq (tgt := 16) dX11_rank_5 (by decide) (fun _ => ?_) (fun hc => absurd hc (by decide))
    refine go_ldcw (v := (-1000000 : Int32)) kc_X11_263 dX11_rank_16 ?_
    exact go_iret rfl rfl dX11_rank_19 ⟨_, rfl, _, rfl, H⟩
set_option maxRecDepth 20000 in
theorem wq_X11_cause_0 {B : mm_T} {I : Nat → Nat → Int32} {m : Nat} (RK : rf_ok B m) {x1 x2 : Int32} {P : Int32 → (Nat → Nat → Int32) → Prop} (H : ((((0 ≤ x1 ∧ x1 ≤ I (m + 1) 1 - 1)) → (((¬ x2 = (-1 : Int32)) → ∃ n1, (x1 = nI n1 ∧ n1 < 400) ∧ ((((((0 : Int32) ≤ x2 ∧ x2 ≤ (I (m + 4) n1 - (1 : Int32)))) → ∃ n2, ((((20 : Int32) * x1) + x2) = nI n2 ∧ n2 < 8000) ∧ (P (I (m + 5) n2) I)) ∧ ((¬ ((0 : Int32) ≤ x2 ∧ x2 ≤ (I (m + 4) n1 - (1 : Int32)))) → P (-1 : Int32) I)))) ∧ ((x2 = (-1 : Int32)) → ∃ n3, (x1 = nI n3 ∧ n3 < 400) ∧ (P (I (m + 4) n3) I)))) ∧ ((¬ (0 ≤ x1 ∧ x1 ≤ I (m + 1) 1 - 1)) → P (-1 : Int32) I))) : rw_i mt_X11_cause 0 [some (pv_r m), some (pv_i x1), some (pv_i x2)] [] B I P := by
  refine go_aload_n dX11_cause_0 rfl ?_
  refine go_iload_n dX11_cause_1 rfl ?_
  by_cases hc : (0 ≤ x1 ∧ x1 ≤ I (m + 1) 1 - 1)
  · replace H := H.1 hc
    refine go_V (av := [pv_i x1]) (st := []) (ci := 11) ok_X11_isTask ⟨by decide, by decide⟩ ml_X11_161 rfl (by decide) (fun v hv => by simp only [List.mem_cons, List.not_mem_nil, or_false] at hv; rcases hv with rfl <;> first | exact pv_1i | exact pv_1r) (Nat.le_of_ble_eq_true rfl) (fun _ h => h) (by decide) rfl RK.1 dX11_cause_2 (rx_isTask_t RK hc) (fun r M' hq _ => ?_)
    obtain ⟨_, rfl, _, rfl, rfl, rfl⟩ := hq
    show go_W mt_X11_cause fr_R 5 [some (pv_r m), some (pv_i x1), some (pv_i x2)] [pv_i (1 : Int32)] (mm_si B I) (qi_ (fun x M' => ∃ I', M' = mm_si B I' ∧ P x I'))
    refine go_if_ne (tgt := 10) dX11_cause_5 (by decide) (fun _ => ?_) (fun hc => absurd hc (by decide))
    refine go_iload_n dX11_cause_10 rfl ?_
    refine go_iconst (v := (-1 : Int32)) rfl dX11_cause_11 ?_
    refine go_icmp_ne (tgt := 24) dX11_cause_12 (by decide) (fun hc => ?_) (fun hc => ?_)
    · replace H := H.1 hc
      refine go_iload_n dX11_cause_24 rfl ?_
      refine go_iconst (v := (0 : Int32)) rfl dX11_cause_25 ?_
      refine go_aload_n dX11_cause_26 rfl ?_
      refine go_getRe (k := 3) ⟨by decide, rfl, by decide, Or.inr ⟨_, rfl⟩⟩ RK.1 (rf_r4 RK) fl_X11_19 dX11_cause_27 ?_
      refine go_iload_n dX11_cause_30 rfl ?_
      obtain ⟨n1, ⟨hn1, hn1b⟩, H⟩ := H
      refine go_ialdN (j := n1) ⟨by decide, by decide, by decide⟩ (rf_k4 RK) hn1 hn1b dX11_cause_31 ?_
      refine go_iconst (v := (1 : Int32)) rfl dX11_cause_32 ?_
      refine go_isub dX11_cause_33 ?_
      by_cases hc : ((0 : Int32) ≤ x2 ∧ x2 ≤ (I (m + 4) n1 - (1 : Int32)))
      · replace H := H.1 hc
        refine go_St (av := [pv_i x2, pv_i (0 : Int32), pv_i (I (m + 4) n1 - (1 : Int32))]) (st := []) ok_X11_isIn ⟨by decide, by decide⟩ ml_X11_90 rfl (by decide) (fun v hv => by simp only [List.mem_cons, List.not_mem_nil, or_false] at hv; rcases hv with rfl | rfl | rfl <;> first | exact pv_1i | exact pv_1r) (Nat.le_of_ble_eq_true rfl) (fun _ h => h) dX11_cause_34 (rx_isIn_t RK hc) (fun r M' hq _ => ?_)
        obtain ⟨_, rfl, _, rfl, rfl, rfl⟩ := hq
        show go_W mt_X11_cause fr_R 37 [some (pv_r m), some (pv_i x1), some (pv_i x2)] [pv_i (1 : Int32)] (mm_si B I) (qi_ (fun x M' => ∃ I', M' = mm_si B I' ∧ P x I'))
        refine go_if_eq (tgt := 54) dX11_cause_37 (by decide) (fun hc => absurd hc (by decide)) (fun _ => ?_)
        refine go_aload_n dX11_cause_40 rfl ?_
        refine go_getRe (k := 4) ⟨by decide, rfl, by decide, Or.inr ⟨_, rfl⟩⟩ RK.1 (rf_r5 RK) fl_X11_22 dX11_cause_41 ?_
        refine go_bipush (v := (20 : Int32)) rfl dX11_cause_44 ?_
        refine go_iload_n dX11_cause_46 rfl ?_
        refine go_imul dX11_cause_47 ?_
        refine go_iload_n dX11_cause_48 rfl ?_
        refine go_iadd dX11_cause_49 ?_
        obtain ⟨n2, ⟨hn2, hn2b⟩, H⟩ := H
        refine go_ialdN (j := n2) ⟨by decide, by decide, by decide⟩ (rf_k5 RK) hn2 hn2b dX11_cause_50 ?_
        refine go_goto (tgt := 55) dX11_cause_51 (by decide) ?_
        exact go_iret rfl rfl dX11_cause_55 ⟨_, rfl, _, rfl, H⟩
      · replace H := H.2 hc
        refine go_St (av := [pv_i x2, pv_i (0 : Int32), pv_i (I (m + 4) n1 - (1 : Int32))]) (st := []) ok_X11_isIn ⟨by decide, by decide⟩ ml_X11_90 rfl (by decide) (fun v hv => by simp only [List.mem_cons, List.not_mem_nil, or_false] at hv; rcases hv with rfl | rfl | rfl <;> first | exact pv_1i | exact pv_1r) (Nat.le_of_ble_eq_true rfl) (fun _ h => h) dX11_cause_34 (rx_isIn_f RK hc) (fun r M' hq _ => ?_)
        obtain ⟨_, rfl, _, rfl, rfl, rfl⟩ := hq
        show go_W mt_X11_cause fr_R 37 [some (pv_r m), some (pv_i x1), some (pv_i x2)] [pv_i (0 : Int32)] (mm_si B I) (qi_ (fun x M' => ∃ I', M' = mm_si B I' ∧ P x I'))
        refine go_if_eq (tgt := 54) dX11_cause_37 (by decide) (fun _ => ?_) (fun hc => absurd hc (by decide))
        refine go_iconst (v := (-1 : Int32)) rfl dX11_cause_54 ?_
        exact go_iret rfl rfl dX11_cause_55 ⟨_, rfl, _, rfl, H⟩
    · replace H := H.2 hc
      refine go_aload_n dX11_cause_15 rfl ?_
      refine go_getRe (k := 3) ⟨by decide, rfl, by decide, Or.inr ⟨_, rfl⟩⟩ RK.1 (rf_r4 RK) fl_X11_19 dX11_cause_16 ?_
      refine go_iload_n dX11_cause_19 rfl ?_
      obtain ⟨n3, ⟨hn3, hn3b⟩, H⟩ := H
      refine go_ialdN (j := n3) ⟨by decide, by decide, by decide⟩ (rf_k4 RK) hn3 hn3b dX11_cause_20 ?_
      refine go_goto (tgt := 55) dX11_cause_21 (by decide) ?_
      exact go_iret rfl rfl dX11_cause_55 ⟨_, rfl, _, rfl, H⟩
  · replace H := H.2 hc
    refine go_V (av := [pv_i x1]) (st := []) (ci := 11) ok_X11_isTask ⟨by decide, by decide⟩ ml_X11_161 rfl (by decide) (fun v hv => by simp only [List.mem_cons, List.not_mem_nil, or_false] at hv; rcases hv with rfl <;> first | exact pv_1i | exact pv_1r) (Nat.le_of_ble_eq_true rfl) (fun _ h => h) (by decide) rfl RK.1 dX11_cause_2 (rx_isTask_f RK hc) (fun r M' hq _ => ?_)
    obtain ⟨_, rfl, _, rfl, rfl, rfl⟩ := hq
    show go_W mt_X11_cause fr_R 5 [some (pv_r m), some (pv_i x1), some (pv_i x2)] [pv_i (0 : Int32)] (mm_si B I) (qi_ (fun x M' => ∃ I', M' = mm_si B I' ∧ P x I'))
    refine go_if_ne (tgt := 10) dX11_cause_5 (by decide) (fun hc => absurd hc (by decide)) (fun _ => ?_)
    refine go_iconst (v := (-1 : Int32)) rfl dX11_cause_8 ?_
    exact go_iret rfl rfl dX11_cause_9 ⟨_, rfl, _, rfl, H⟩
set_option maxRecDepth 20000 in
theorem wq_X11_worker_0 {B : mm_T} {I : Nat → Nat → Int32} {m : Nat} (RK : rf_ok B m) {x1 x2 : Int32} {P : Int32 → (Nat → Nat → Int32) → Prop} (H : ((((0 ≤ x1 ∧ x1 ≤ 5)) → (((((0 : Int32) ≤ x2 ∧ x2 ≤ (5 : Int32))) → (((x2 ≤ (2 : Int32)) → ∃ n1, (x1 = nI n1 ∧ n1 < 6) ∧ ((((I (m + 1) (60 + 4 * n1) = (-1 : Int32)) → P (I (m + 1) (60 + 4 * n1)) I) ∧ ((¬ I (m + 1) (60 + 4 * n1) = (-1 : Int32)) → (((¬ x2 = 0) → (((¬ x2 = (1 : Int32)) → ∃ n2, (I (m + 1) (60 + 4 * n1) = nI n2 ∧ n2 < 400) ∧ (P (I (m + 1) (200 + 14 * n2 + 11)) I)) ∧ ((x2 = (1 : Int32)) → ∃ n3, (I (m + 1) (60 + 4 * n1) = nI n3 ∧ n3 < 400) ∧ (P (I (m + 1) (200 + 14 * n3 + 10)) I)))) ∧ ((x2 = 0) → P (I (m + 1) (60 + 4 * n1)) I)))))) ∧ ((¬ x2 ≤ (2 : Int32)) → ∃ n4, (x1 = nI n4 ∧ n4 < 6) ∧ (∃ n5, ((((nI (60 + 4 * n4)) + x2) - (2 : Int32)) = nI n5 ∧ n5 < 6200) ∧ (P (I (m + 1) n5) I))))) ∧ ((¬ ((0 : Int32) ≤ x2 ∧ x2 ≤ (5 : Int32))) → P (-1 : Int32) I))) ∧ ((¬ (0 ≤ x1 ∧ x1 ≤ 5)) → P (-1 : Int32) I))) : rw_i mt_X11_worker 0 [some (pv_r m), some (pv_i x1), some (pv_i x2), none] [] B I P := by
  refine go_aload_n dX11_worker_0 rfl ?_
  refine go_iload_n dX11_worker_1 rfl ?_
  by_cases hc : (0 ≤ x1 ∧ x1 ≤ 5)
  · replace H := H.1 hc
    refine go_V (av := [pv_i x1]) (st := []) (ci := 11) ok_X11_isWorker ⟨by decide, by decide⟩ ml_X11_212 rfl (by decide) (fun v hv => by simp only [List.mem_cons, List.not_mem_nil, or_false] at hv; rcases hv with rfl <;> first | exact pv_1i | exact pv_1r) (Nat.le_of_ble_eq_true rfl) (fun _ h => h) (by decide) rfl RK.1 dX11_worker_2 (rx_isWorker_t RK hc) (fun r M' hq _ => ?_)
    obtain ⟨_, rfl, _, rfl, rfl, rfl⟩ := hq
    show go_W mt_X11_worker fr_R 5 [some (pv_r m), some (pv_i x1), some (pv_i x2), none] [pv_i (1 : Int32)] (mm_si B I) (qi_ (fun x M' => ∃ I', M' = mm_si B I' ∧ P x I'))
    refine go_if_eq (tgt := 17) dX11_worker_5 (by decide) (fun hc => absurd hc (by decide)) (fun _ => ?_)
    refine go_iload_n dX11_worker_8 rfl ?_
    refine go_iconst (v := (0 : Int32)) rfl dX11_worker_9 ?_
    refine go_iconst (v := (5 : Int32)) rfl dX11_worker_10 ?_
    by_cases hc : ((0 : Int32) ≤ x2 ∧ x2 ≤ (5 : Int32))
    · replace H := H.1 hc
      refine go_St (av := [pv_i x2, pv_i (0 : Int32), pv_i (5 : Int32)]) (st := []) ok_X11_isIn ⟨by decide, by decide⟩ ml_X11_90 rfl (by decide) (fun v hv => by simp only [List.mem_cons, List.not_mem_nil, or_false] at hv; rcases hv with rfl | rfl | rfl <;> first | exact pv_1i | exact pv_1r) (Nat.le_of_ble_eq_true rfl) (fun _ h => h) dX11_worker_11 (rx_isIn_t RK hc) (fun r M' hq _ => ?_)
      obtain ⟨_, rfl, _, rfl, rfl, rfl⟩ := hq
      show go_W mt_X11_worker fr_R 14 [some (pv_r m), some (pv_i x1), some (pv_i x2), none] [pv_i (1 : Int32)] (mm_si B I) (qi_ (fun x M' => ∃ I', M' = mm_si B I' ∧ P x I'))
      refine go_if_ne (tgt := 19) dX11_worker_14 (by decide) (fun _ => ?_) (fun hc => absurd hc (by decide))
      refine go_iload_n dX11_worker_19 rfl ?_
      refine go_iconst (v := (2 : Int32)) rfl dX11_worker_20 ?_
      refine go_icmp_le (tgt := 38) dX11_worker_21 (by decide) (fun hc => ?_) (fun hc => ?_)
      · replace H := H.1 hc
        refine go_aload_n dX11_worker_38 rfl ?_
        refine go_getRe (k := 0) ⟨by decide, rfl, by decide, Or.inr ⟨_, rfl⟩⟩ RK.1 (rf_r1 RK) fl_X11_7 dX11_worker_39 ?_
        refine go_iload_n dX11_worker_42 rfl ?_
        obtain ⟨n1, ⟨hn1, hn1b⟩, H⟩ := H
        refine go_St (av := [pv_i x1]) (st := [pv_r (m + 1)]) ok_X11_workerAt ⟨by decide, by decide⟩ ml_X11_84 rfl (by decide) (fun v hv => by simp only [List.mem_cons, List.not_mem_nil, or_false] at hv; rcases hv with rfl <;> first | exact pv_1i | exact pv_1r) (Nat.le_of_ble_eq_true rfl) (fun _ h => h) dX11_worker_43 (rx_workerAt RK hn1) (fun r M' hq _ => ?_)
        obtain ⟨_, rfl, _, rfl, rfl, rfl⟩ := hq
        show go_W mt_X11_worker fr_R 46 [some (pv_r m), some (pv_i x1), some (pv_i x2), none] [pv_i (nI (60 + 4 * n1)), pv_r (m + 1)] (mm_si B I) (qi_ (fun x M' => ∃ I', M' = mm_si B I' ∧ P x I'))
        refine go_ialdN (j := (60 + 4 * n1)) ⟨by decide, by decide, by decide⟩ (rf_k1 RK) rfl (by omega) dX11_worker_46 ?_
        refine go_istore_n (by decide) dX11_worker_47 ?_
        show go_W mt_X11_worker fr_R 48 [some (pv_r m), some (pv_i x1), some (pv_i x2), some (pv_i (I (m + 1) (60 + 4 * n1)))] [] (mm_si B I) (qi_ (fun x M' => ∃ I', M' = mm_si B I' ∧ P x I'))
        refine go_iload_n dX11_worker_48 rfl ?_
        refine go_iconst (v := (-1 : Int32)) rfl dX11_worker_49 ?_
        refine go_icmp_eq (tgt := 57) dX11_worker_50 (by decide) (fun hc => ?_) (fun hc => ?_)
        · replace H := H.1 hc
          refine go_iload_n dX11_worker_57 rfl ?_
          refine go_goto (tgt := 78) dX11_worker_58 (by decide) ?_
          exact go_iret rfl rfl dX11_worker_78 ⟨_, rfl, _, rfl, H⟩
        · replace H := H.2 hc
          refine go_iload_n dX11_worker_53 rfl ?_
          refine go_if_ne (tgt := 61) dX11_worker_54 (by decide) (fun hc => ?_) (fun hc => ?_)
          · replace H := H.1 hc
            refine go_aload_n dX11_worker_61 rfl ?_
            refine go_iload_n dX11_worker_62 rfl ?_
            refine go_iload_n dX11_worker_63 rfl ?_
            refine go_iconst (v := (1 : Int32)) rfl dX11_worker_64 ?_
            refine go_icmp_ne (tgt := 73) dX11_worker_65 (by decide) (fun hc => ?_) (fun hc => ?_)
            · replace H := H.1 hc
              refine go_bipush (v := (11 : Int32)) rfl dX11_worker_73 ?_
              obtain ⟨n2, ⟨hn2, hn2b⟩, H⟩ := H
              refine go_V (av := [pv_i (I (m + 1) (60 + 4 * n1)), pv_i (11 : Int32)]) (st := []) (ci := 11) ok_X11_of ⟨by decide, by decide⟩ ml_X11_94 rfl (by decide) (fun v hv => by simp only [List.mem_cons, List.not_mem_nil, or_false] at hv; rcases hv with rfl | rfl <;> first | exact pv_1i | exact pv_1r) (Nat.le_of_ble_eq_true rfl) (fun _ h => h) (by decide) rfl RK.1 dX11_worker_75 (rx_of RK hn2 rfl hn2b (by decide)) (fun r M' hq _ => ?_)
              obtain ⟨_, rfl, _, rfl, rfl, rfl⟩ := hq
              show go_W mt_X11_worker fr_R 78 [some (pv_r m), some (pv_i x1), some (pv_i x2), some (pv_i (I (m + 1) (60 + 4 * n1)))] [pv_i (I (m + 1) (200 + 14 * n2 + 11))] (mm_si B I) (qi_ (fun x M' => ∃ I', M' = mm_si B I' ∧ P x I'))
              exact go_iret rfl rfl dX11_worker_78 ⟨_, rfl, _, rfl, H⟩
            · replace H := H.2 hc
              refine go_bipush (v := (10 : Int32)) rfl dX11_worker_68 ?_
              refine go_goto (tgt := 75) dX11_worker_70 (by decide) ?_
              obtain ⟨n3, ⟨hn3, hn3b⟩, H⟩ := H
              refine go_V (av := [pv_i (I (m + 1) (60 + 4 * n1)), pv_i (10 : Int32)]) (st := []) (ci := 11) ok_X11_of ⟨by decide, by decide⟩ ml_X11_94 rfl (by decide) (fun v hv => by simp only [List.mem_cons, List.not_mem_nil, or_false] at hv; rcases hv with rfl | rfl <;> first | exact pv_1i | exact pv_1r) (Nat.le_of_ble_eq_true rfl) (fun _ h => h) (by decide) rfl RK.1 dX11_worker_75 (rx_of RK hn3 rfl hn3b (by decide)) (fun r M' hq _ => ?_)
              obtain ⟨_, rfl, _, rfl, rfl, rfl⟩ := hq
              show go_W mt_X11_worker fr_R 78 [some (pv_r m), some (pv_i x1), some (pv_i x2), some (pv_i (I (m + 1) (60 + 4 * n1)))] [pv_i (I (m + 1) (200 + 14 * n3 + 10))] (mm_si B I) (qi_ (fun x M' => ∃ I', M' = mm_si B I' ∧ P x I'))
              exact go_iret rfl rfl dX11_worker_78 ⟨_, rfl, _, rfl, H⟩
          · replace H := H.2 hc
            refine go_iload_n dX11_worker_57 rfl ?_
            refine go_goto (tgt := 78) dX11_worker_58 (by decide) ?_
            exact go_iret rfl rfl dX11_worker_78 ⟨_, rfl, _, rfl, H⟩
      · replace H := H.2 hc
        refine go_aload_n dX11_worker_24 rfl ?_
        refine go_getRe (k := 0) ⟨by decide, rfl, by decide, Or.inr ⟨_, rfl⟩⟩ RK.1 (rf_r1 RK) fl_X11_7 dX11_worker_25 ?_
        refine go_iload_n dX11_worker_28 rfl ?_
        obtain ⟨n4, ⟨hn4, hn4b⟩, H⟩ := H
        refine go_St (av := [pv_i x1]) (st := [pv_r (m + 1)]) ok_X11_workerAt ⟨by decide, by decide⟩ ml_X11_84 rfl (by decide) (fun v hv => by simp only [List.mem_cons, List.not_mem_nil, or_false] at hv; rcases hv with rfl <;> first | exact pv_1i | exact pv_1r) (Nat.le_of_ble_eq_true rfl) (fun _ h => h) dX11_worker_29 (rx_workerAt RK hn4) (fun r M' hq _ => ?_)
        obtain ⟨_, rfl, _, rfl, rfl, rfl⟩ := hq
        show go_W mt_X11_worker fr_R 32 [some (pv_r m), some (pv_i x1), some (pv_i x2), none] [pv_i (nI (60 + 4 * n4)), pv_r (m + 1)] (mm_si B I) (qi_ (fun x M' => ∃ I', M' = mm_si B I' ∧ P x I'))
        refine go_iload_n dX11_worker_32 rfl ?_
        refine go_iadd dX11_worker_33 ?_
        refine go_iconst (v := (2 : Int32)) rfl dX11_worker_34 ?_
        refine go_isub dX11_worker_35 ?_
        obtain ⟨n5, ⟨hn5, hn5b⟩, H⟩ := H
        refine go_ialdN (j := n5) ⟨by decide, by decide, by decide⟩ (rf_k1 RK) hn5 hn5b dX11_worker_36 ?_
        exact go_iret rfl rfl dX11_worker_37 ⟨_, rfl, _, rfl, H⟩
    · replace H := H.2 hc
      refine go_St (av := [pv_i x2, pv_i (0 : Int32), pv_i (5 : Int32)]) (st := []) ok_X11_isIn ⟨by decide, by decide⟩ ml_X11_90 rfl (by decide) (fun v hv => by simp only [List.mem_cons, List.not_mem_nil, or_false] at hv; rcases hv with rfl | rfl | rfl <;> first | exact pv_1i | exact pv_1r) (Nat.le_of_ble_eq_true rfl) (fun _ h => h) dX11_worker_11 (rx_isIn_f RK hc) (fun r M' hq _ => ?_)
      obtain ⟨_, rfl, _, rfl, rfl, rfl⟩ := hq
      show go_W mt_X11_worker fr_R 14 [some (pv_r m), some (pv_i x1), some (pv_i x2), none] [pv_i (0 : Int32)] (mm_si B I) (qi_ (fun x M' => ∃ I', M' = mm_si B I' ∧ P x I'))
      refine go_if_ne (tgt := 19) dX11_worker_14 (by decide) (fun hc => absurd hc (by decide)) (fun _ => ?_)
      refine go_iconst (v := (-1 : Int32)) rfl dX11_worker_17 ?_
      exact go_iret rfl rfl dX11_worker_18 ⟨_, rfl, _, rfl, H⟩
  · replace H := H.2 hc
    refine go_V (av := [pv_i x1]) (st := []) (ci := 11) ok_X11_isWorker ⟨by decide, by decide⟩ ml_X11_212 rfl (by decide) (fun v hv => by simp only [List.mem_cons, List.not_mem_nil, or_false] at hv; rcases hv with rfl <;> first | exact pv_1i | exact pv_1r) (Nat.le_of_ble_eq_true rfl) (fun _ h => h) (by decide) rfl RK.1 dX11_worker_2 (rx_isWorker_f RK hc) (fun r M' hq _ => ?_)
    obtain ⟨_, rfl, _, rfl, rfl, rfl⟩ := hq
    show go_W mt_X11_worker fr_R 5 [some (pv_r m), some (pv_i x1), some (pv_i x2), none] [pv_i (0 : Int32)] (mm_si B I) (qi_ (fun x M' => ∃ I', M' = mm_si B I' ∧ P x I'))
    refine go_if_eq (tgt := 17) dX11_worker_5 (by decide) (fun _ => ?_) (fun hc => absurd hc (by decide))
    refine go_iconst (v := (-1 : Int32)) rfl dX11_worker_17 ?_
    exact go_iret rfl rfl dX11_worker_18 ⟨_, rfl, _, rfl, H⟩
set_option maxRecDepth 20000 in
theorem wq_X11_timer_0 {B : mm_T} {I : Nat → Nat → Int32} {m : Nat} (RK : rf_ok B m) {x1 x2 : Int32} {P : Int32 → (Nat → Nat → Int32) → Prop} (H : ((((0 ≤ x1 ∧ x1 ≤ I (m + 1) 84 - 1)) → (((((0 : Int32) ≤ x2 ∧ x2 ≤ (7 : Int32))) → ∃ n1, (x1 = nI n1 ∧ n1 < 12) ∧ (∃ n2, (((nI (85 + 8 * n1)) + x2) = nI n2 ∧ n2 < 6200) ∧ (P (I (m + 1) n2) I))) ∧ ((¬ ((0 : Int32) ≤ x2 ∧ x2 ≤ (7 : Int32))) → P (-1 : Int32) I))) ∧ ((¬ (0 ≤ x1 ∧ x1 ≤ I (m + 1) 84 - 1)) → P (-1 : Int32) I))) : rw_i mt_X11_timer 0 [some (pv_r m), some (pv_i x1), some (pv_i x2)] [] B I P := by
  refine go_aload_n dX11_timer_0 rfl ?_
  refine go_iload_n dX11_timer_1 rfl ?_
  by_cases hc : (0 ≤ x1 ∧ x1 ≤ I (m + 1) 84 - 1)
  · replace H := H.1 hc
    refine go_V (av := [pv_i x1]) (st := []) (ci := 11) ok_X11_isTimer ⟨by decide, by decide⟩ ml_X11_224 rfl (by decide) (fun v hv => by simp only [List.mem_cons, List.not_mem_nil, or_false] at hv; rcases hv with rfl <;> first | exact pv_1i | exact pv_1r) (Nat.le_of_ble_eq_true rfl) (fun _ h => h) (by decide) rfl RK.1 dX11_timer_2 (rx_isTimer_t RK hc) (fun r M' hq _ => ?_)
    obtain ⟨_, rfl, _, rfl, rfl, rfl⟩ := hq
    show go_W mt_X11_timer fr_R 5 [some (pv_r m), some (pv_i x1), some (pv_i x2)] [pv_i (1 : Int32)] (mm_si B I) (qi_ (fun x M' => ∃ I', M' = mm_si B I' ∧ P x I'))
    refine go_if_eq (tgt := 32) dX11_timer_5 (by decide) (fun hc => absurd hc (by decide)) (fun _ => ?_)
    refine go_iload_n dX11_timer_8 rfl ?_
    refine go_iconst (v := (0 : Int32)) rfl dX11_timer_9 ?_
    refine go_bipush (v := (7 : Int32)) rfl dX11_timer_10 ?_
    by_cases hc : ((0 : Int32) ≤ x2 ∧ x2 ≤ (7 : Int32))
    · replace H := H.1 hc
      refine go_St (av := [pv_i x2, pv_i (0 : Int32), pv_i (7 : Int32)]) (st := []) ok_X11_isIn ⟨by decide, by decide⟩ ml_X11_90 rfl (by decide) (fun v hv => by simp only [List.mem_cons, List.not_mem_nil, or_false] at hv; rcases hv with rfl | rfl | rfl <;> first | exact pv_1i | exact pv_1r) (Nat.le_of_ble_eq_true rfl) (fun _ h => h) dX11_timer_12 (rx_isIn_t RK hc) (fun r M' hq _ => ?_)
      obtain ⟨_, rfl, _, rfl, rfl, rfl⟩ := hq
      show go_W mt_X11_timer fr_R 15 [some (pv_r m), some (pv_i x1), some (pv_i x2)] [pv_i (1 : Int32)] (mm_si B I) (qi_ (fun x M' => ∃ I', M' = mm_si B I' ∧ P x I'))
      refine go_if_eq (tgt := 32) dX11_timer_15 (by decide) (fun hc => absurd hc (by decide)) (fun _ => ?_)
      refine go_aload_n dX11_timer_18 rfl ?_
      refine go_getRe (k := 0) ⟨by decide, rfl, by decide, Or.inr ⟨_, rfl⟩⟩ RK.1 (rf_r1 RK) fl_X11_7 dX11_timer_19 ?_
      refine go_iload_n dX11_timer_22 rfl ?_
      obtain ⟨n1, ⟨hn1, hn1b⟩, H⟩ := H
      refine go_St (av := [pv_i x1]) (st := [pv_r (m + 1)]) ok_X11_timerAt ⟨by decide, by decide⟩ ml_X11_193 rfl (by decide) (fun v hv => by simp only [List.mem_cons, List.not_mem_nil, or_false] at hv; rcases hv with rfl <;> first | exact pv_1i | exact pv_1r) (Nat.le_of_ble_eq_true rfl) (fun _ h => h) dX11_timer_23 (rx_timerAt RK hn1) (fun r M' hq _ => ?_)
      obtain ⟨_, rfl, _, rfl, rfl, rfl⟩ := hq
      show go_W mt_X11_timer fr_R 26 [some (pv_r m), some (pv_i x1), some (pv_i x2)] [pv_i (nI (85 + 8 * n1)), pv_r (m + 1)] (mm_si B I) (qi_ (fun x M' => ∃ I', M' = mm_si B I' ∧ P x I'))
      refine go_iload_n dX11_timer_26 rfl ?_
      refine go_iadd dX11_timer_27 ?_
      obtain ⟨n2, ⟨hn2, hn2b⟩, H⟩ := H
      refine go_ialdN (j := n2) ⟨by decide, by decide, by decide⟩ (rf_k1 RK) hn2 hn2b dX11_timer_28 ?_
      refine go_goto (tgt := 33) dX11_timer_29 (by decide) ?_
      exact go_iret rfl rfl dX11_timer_33 ⟨_, rfl, _, rfl, H⟩
    · replace H := H.2 hc
      refine go_St (av := [pv_i x2, pv_i (0 : Int32), pv_i (7 : Int32)]) (st := []) ok_X11_isIn ⟨by decide, by decide⟩ ml_X11_90 rfl (by decide) (fun v hv => by simp only [List.mem_cons, List.not_mem_nil, or_false] at hv; rcases hv with rfl | rfl | rfl <;> first | exact pv_1i | exact pv_1r) (Nat.le_of_ble_eq_true rfl) (fun _ h => h) dX11_timer_12 (rx_isIn_f RK hc) (fun r M' hq _ => ?_)
      obtain ⟨_, rfl, _, rfl, rfl, rfl⟩ := hq
      show go_W mt_X11_timer fr_R 15 [some (pv_r m), some (pv_i x1), some (pv_i x2)] [pv_i (0 : Int32)] (mm_si B I) (qi_ (fun x M' => ∃ I', M' = mm_si B I' ∧ P x I'))
      refine go_if_eq (tgt := 32) dX11_timer_15 (by decide) (fun _ => ?_) (fun hc => absurd hc (by decide))
      refine go_iconst (v := (-1 : Int32)) rfl dX11_timer_32 ?_
      exact go_iret rfl rfl dX11_timer_33 ⟨_, rfl, _, rfl, H⟩
  · replace H := H.2 hc
    refine go_V (av := [pv_i x1]) (st := []) (ci := 11) ok_X11_isTimer ⟨by decide, by decide⟩ ml_X11_224 rfl (by decide) (fun v hv => by simp only [List.mem_cons, List.not_mem_nil, or_false] at hv; rcases hv with rfl <;> first | exact pv_1i | exact pv_1r) (Nat.le_of_ble_eq_true rfl) (fun _ h => h) (by decide) rfl RK.1 dX11_timer_2 (rx_isTimer_f RK hc) (fun r M' hq _ => ?_)
    obtain ⟨_, rfl, _, rfl, rfl, rfl⟩ := hq
    show go_W mt_X11_timer fr_R 5 [some (pv_r m), some (pv_i x1), some (pv_i x2)] [pv_i (0 : Int32)] (mm_si B I) (qi_ (fun x M' => ∃ I', M' = mm_si B I' ∧ P x I'))
    refine go_if_eq (tgt := 32) dX11_timer_5 (by decide) (fun _ => ?_) (fun hc => absurd hc (by decide))
    refine go_iconst (v := (-1 : Int32)) rfl dX11_timer_32 ?_
    exact go_iret rfl rfl dX11_timer_33 ⟨_, rfl, _, rfl, H⟩
set_option maxRecDepth 20000 in
theorem wq_X11_waiting_0 {B : mm_T} {I : Nat → Nat → Int32} {m : Nat} (RK : rf_ok B m) {x1 x2 : Int32} {P : Int32 → (Nat → Nat → Int32) → Prop} (H : ((((0 ≤ x1 ∧ x1 ≤ 4)) → rw_i mt_X11_waiting 12 [some (pv_r m), some (pv_i x1), some (pv_i x2), some (pv_i (0 : Int32)), none, none] [] B I P) ∧ ((¬ (0 ≤ x1 ∧ x1 ≤ 4)) → P (-1 : Int32) I))) : rw_i mt_X11_waiting 0 [some (pv_r m), some (pv_i x1), some (pv_i x2), none, none, none] [] B I P := by
  refine go_aload_n dX11_waiting_0 rfl ?_
  refine go_iload_n dX11_waiting_1 rfl ?_
  by_cases hc : (0 ≤ x1 ∧ x1 ≤ 4)
  · replace H := H.1 hc
    refine go_V (av := [pv_i x1]) (st := []) (ci := 11) ok_X11_isLane ⟨by decide, by decide⟩ ml_X11_152 rfl (by decide) (fun v hv => by simp only [List.mem_cons, List.not_mem_nil, or_false] at hv; rcases hv with rfl <;> first | exact pv_1i | exact pv_1r) (Nat.le_of_ble_eq_true rfl) (fun _ h => h) (by decide) rfl RK.1 dX11_waiting_2 (rx_isLane_t RK hc) (fun r M' hq _ => ?_)
    obtain ⟨_, rfl, _, rfl, rfl, rfl⟩ := hq
    show go_W mt_X11_waiting fr_R 5 [some (pv_r m), some (pv_i x1), some (pv_i x2), none, none, none] [pv_i (1 : Int32)] (mm_si B I) (qi_ (fun x M' => ∃ I', M' = mm_si B I' ∧ P x I'))
    refine go_if_ne (tgt := 10) dX11_waiting_5 (by decide) (fun _ => ?_) (fun hc => absurd hc (by decide))
    refine go_iconst (v := (0 : Int32)) rfl dX11_waiting_10 ?_
    refine go_istore_n (by decide) dX11_waiting_11 ?_
    show go_W mt_X11_waiting fr_R 12 [some (pv_r m), some (pv_i x1), some (pv_i x2), some (pv_i (0 : Int32)), none, none] [] (mm_si B I) (qi_ (fun x M' => ∃ I', M' = mm_si B I' ∧ P x I'))
    exact H
  · replace H := H.2 hc
    refine go_V (av := [pv_i x1]) (st := []) (ci := 11) ok_X11_isLane ⟨by decide, by decide⟩ ml_X11_152 rfl (by decide) (fun v hv => by simp only [List.mem_cons, List.not_mem_nil, or_false] at hv; rcases hv with rfl <;> first | exact pv_1i | exact pv_1r) (Nat.le_of_ble_eq_true rfl) (fun _ h => h) (by decide) rfl RK.1 dX11_waiting_2 (rx_isLane_f RK hc) (fun r M' hq _ => ?_)
    obtain ⟨_, rfl, _, rfl, rfl, rfl⟩ := hq
    show go_W mt_X11_waiting fr_R 5 [some (pv_r m), some (pv_i x1), some (pv_i x2), none, none, none] [pv_i (0 : Int32)] (mm_si B I) (qi_ (fun x M' => ∃ I', M' = mm_si B I' ∧ P x I'))
    refine go_if_ne (tgt := 10) dX11_waiting_5 (by decide) (fun hc => absurd hc (by decide)) (fun _ => ?_)
    refine go_iconst (v := (-1 : Int32)) rfl dX11_waiting_8 ?_
    exact go_iret rfl rfl dX11_waiting_9 ⟨_, rfl, _, rfl, H⟩
set_option maxRecDepth 20000 in
theorem wq_X11_waiting_12 {B : mm_T} {I : Nat → Nat → Int32} {m : Nat} (RK : rf_ok B m) {x1 x2 x3 : Int32} {P : Int32 → (Nat → Nat → Int32) → Prop} (H : (((I (m + 1) 1 ≤ x3) → P (-1 : Int32) I) ∧ ((¬ I (m + 1) 1 ≤ x3) → ∃ n1, (x3 = nI n1 ∧ n1 < 400) ∧ ((((¬ I (m + 1) (200 + 14 * n1 + 0) = x1) → rw_i mt_X11_waiting 12 [some (pv_r m), some (pv_i x1), some (pv_i x2), some (pv_i (nI (n1 + 1))), none, none] [] B I P) ∧ ((I (m + 1) (200 + 14 * n1 + 0) = x1) → (((I (m + 1) (200 + 14 * n1 + 6) = 0) → rw_i mt_X11_waiting 51 [some (pv_r m), some (pv_i x1), some (pv_i x2), some (pv_i x3), some (pv_i (0 : Int32)), some (pv_i (0 : Int32))] [] B I P) ∧ ((¬ I (m + 1) (200 + 14 * n1 + 6) = 0) → rw_i mt_X11_waiting 12 [some (pv_r m), some (pv_i x1), some (pv_i x2), some (pv_i (nI (n1 + 1))), none, none] [] B I P)))))))) : rw_i mt_X11_waiting 12 [some (pv_r m), some (pv_i x1), some (pv_i x2), some (pv_i x3), none, none] [] B I P := by
  refine go_iload_n dX11_waiting_12 rfl ?_
  refine go_aload_n dX11_waiting_13 rfl ?_
  refine go_getRe (k := 0) ⟨by decide, rfl, by decide, Or.inr ⟨_, rfl⟩⟩ RK.1 (rf_r1 RK) fl_X11_7 dX11_waiting_14 ?_
  refine go_iconst (v := (1 : Int32)) rfl dX11_waiting_17 ?_
  refine go_ialdN (j := 1) ⟨by decide, by decide, by decide⟩ (rf_k1 RK) rfl (by decide) dX11_waiting_18 ?_
  refine go_icmp_ge (tgt := 124) dX11_waiting_19 (by decide) (fun hc => ?_) (fun hc => ?_)
  · replace H := H.1 hc
    refine go_iconst (v := (-1 : Int32)) rfl dX11_waiting_124 ?_
    exact go_iret rfl rfl dX11_waiting_125 ⟨_, rfl, _, rfl, H⟩
  · replace H := H.2 hc
    refine go_aload_n dX11_waiting_22 rfl ?_
    refine go_iload_n dX11_waiting_23 rfl ?_
    refine go_iconst (v := (0 : Int32)) rfl dX11_waiting_24 ?_
    obtain ⟨n1, ⟨hn1, hn1b⟩, H⟩ := H
    refine go_V (av := [pv_i x3, pv_i (0 : Int32)]) (st := []) (ci := 11) ok_X11_of ⟨by decide, by decide⟩ ml_X11_94 rfl (by decide) (fun v hv => by simp only [List.mem_cons, List.not_mem_nil, or_false] at hv; rcases hv with rfl | rfl <;> first | exact pv_1i | exact pv_1r) (Nat.le_of_ble_eq_true rfl) (fun _ h => h) (by decide) rfl RK.1 dX11_waiting_25 (rx_of RK hn1 rfl hn1b (by decide)) (fun r M' hq _ => ?_)
    obtain ⟨_, rfl, _, rfl, rfl, rfl⟩ := hq
    show go_W mt_X11_waiting fr_R 28 [some (pv_r m), some (pv_i x1), some (pv_i x2), some (pv_i x3), none, none] [pv_i (I (m + 1) (200 + 14 * n1 + 0))] (mm_si B I) (qi_ (fun x M' => ∃ I', M' = mm_si B I' ∧ P x I'))
    refine go_iload_n dX11_waiting_28 rfl ?_
    refine go_icmp_ne (tgt := 118) dX11_waiting_29 (by decide) (fun hc => ?_) (fun hc => ?_)
    · replace H := H.1 hc
      refine go_iincN (n := n1) (k := 1) hn1 (by decide) rfl rfl dX11_waiting_118 ?_
      show go_W mt_X11_waiting fr_R 121 [some (pv_r m), some (pv_i x1), some (pv_i x2), some (pv_i (nI (n1 + 1))), none, none] [] (mm_si B I) (qi_ (fun x M' => ∃ I', M' = mm_si B I' ∧ P x I'))
      refine go_goto (tgt := 12) dX11_waiting_121 (by decide) ?_
      exact H
    · replace H := H.2 hc
      refine go_aload_n dX11_waiting_32 rfl ?_
      refine go_iload_n dX11_waiting_33 rfl ?_
      refine go_bipush (v := (6 : Int32)) rfl dX11_waiting_34 ?_
      refine go_V (av := [pv_i x3, pv_i (6 : Int32)]) (st := []) (ci := 11) ok_X11_of ⟨by decide, by decide⟩ ml_X11_94 rfl (by decide) (fun v hv => by simp only [List.mem_cons, List.not_mem_nil, or_false] at hv; rcases hv with rfl | rfl <;> first | exact pv_1i | exact pv_1r) (Nat.le_of_ble_eq_true rfl) (fun _ h => h) (by decide) rfl RK.1 dX11_waiting_36 (rx_of RK hn1 rfl (by omega) (by decide)) (fun r M' hq _ => ?_)
      obtain ⟨_, rfl, _, rfl, rfl, rfl⟩ := hq
      show go_W mt_X11_waiting fr_R 39 [some (pv_r m), some (pv_i x1), some (pv_i x2), some (pv_i x3), none, none] [pv_i (I (m + 1) (200 + 14 * n1 + 6))] (mm_si B I) (qi_ (fun x M' => ∃ I', M' = mm_si B I' ∧ P x I'))
      refine go_if_eq (tgt := 45) dX11_waiting_39 (by decide) (fun hc => ?_) (fun hc => ?_)
      · replace H := H.1 hc
        refine go_iconst (v := (0 : Int32)) rfl dX11_waiting_45 ?_
        refine go_istore (by decide) dX11_waiting_46 ?_
        show go_W mt_X11_waiting fr_R 48 [some (pv_r m), some (pv_i x1), some (pv_i x2), some (pv_i x3), some (pv_i (0 : Int32)), none] [] (mm_si B I) (qi_ (fun x M' => ∃ I', M' = mm_si B I' ∧ P x I'))
        refine go_iconst (v := (0 : Int32)) rfl dX11_waiting_48 ?_
        refine go_istore (by decide) dX11_waiting_49 ?_
        show go_W mt_X11_waiting fr_R 51 [some (pv_r m), some (pv_i x1), some (pv_i x2), some (pv_i x3), some (pv_i (0 : Int32)), some (pv_i (0 : Int32))] [] (mm_si B I) (qi_ (fun x M' => ∃ I', M' = mm_si B I' ∧ P x I'))
        exact H
      · replace H := H.2 hc
        refine go_goto (tgt := 118) dX11_waiting_42 (by decide) ?_
        refine go_iincN (n := n1) (k := 1) hn1 (by decide) rfl rfl dX11_waiting_118 ?_
        show go_W mt_X11_waiting fr_R 121 [some (pv_r m), some (pv_i x1), some (pv_i x2), some (pv_i (nI (n1 + 1))), none, none] [] (mm_si B I) (qi_ (fun x M' => ∃ I', M' = mm_si B I' ∧ P x I'))
        refine go_goto (tgt := 12) dX11_waiting_121 (by decide) ?_
        exact H
set_option maxRecDepth 20000 in
theorem wq_X11_waiting_51 {B : mm_T} {I : Nat → Nat → Int32} {m : Nat} (RK : rf_ok B m) {x1 x2 x3 x4 x5 : Int32} {P : Int32 → (Nat → Nat → Int32) → Prop} (H : (((I (m + 1) 1 ≤ x5) → (((¬ x4 = x2) → rw_i mt_X11_waiting 12 [some (pv_r m), some (pv_i x1), some (pv_i x2), some (pv_i (x3 + (1 : Int32))), none, none] [] B I P) ∧ ((x4 = x2) → P x3 I))) ∧ ((¬ I (m + 1) 1 ≤ x5) → ∃ n1, (x5 = nI n1 ∧ n1 < 400) ∧ ((((¬ I (m + 1) (200 + 14 * n1 + 0) = x1) → rw_i mt_X11_waiting 51 [some (pv_r m), some (pv_i x1), some (pv_i x2), some (pv_i x3), some (pv_i (x4 + (0 : Int32))), some (pv_i (nI (n1 + 1)))] [] B I P) ∧ ((I (m + 1) (200 + 14 * n1 + 0) = x1) → (((¬ I (m + 1) (200 + 14 * n1 + 6) = 0) → rw_i mt_X11_waiting 51 [some (pv_r m), some (pv_i x1), some (pv_i x2), some (pv_i x3), some (pv_i (x4 + (0 : Int32))), some (pv_i (nI (n1 + 1)))] [] B I P) ∧ ((I (m + 1) (200 + 14 * n1 + 6) = 0) → rs_i mt_X11_isAheadOf [pv_r m, pv_i x5, pv_i x3] B I (fun v3 I2 => (((v3 = 0) → rw_i mt_X11_waiting 51 [some (pv_r m), some (pv_i x1), some (pv_i x2), some (pv_i x3), some (pv_i (x4 + (0 : Int32))), some (pv_i (nI (n1 + 1)))] [] B I2 P) ∧ ((¬ v3 = 0) → rw_i mt_X11_waiting 51 [some (pv_r m), some (pv_i x1), some (pv_i x2), some (pv_i x3), some (pv_i (x4 + (1 : Int32))), some (pv_i (nI (n1 + 1)))] [] B I2 P))))))))))) : rw_i mt_X11_waiting 51 [some (pv_r m), some (pv_i x1), some (pv_i x2), some (pv_i x3), some (pv_i x4), some (pv_i x5)] [] B I P := by
  refine go_iload dX11_waiting_51 rfl ?_
  refine go_aload_n dX11_waiting_53 rfl ?_
  refine go_getRe (k := 0) ⟨by decide, rfl, by decide, Or.inr ⟨_, rfl⟩⟩ RK.1 (rf_r1 RK) fl_X11_7 dX11_waiting_54 ?_
  refine go_iconst (v := (1 : Int32)) rfl dX11_waiting_57 ?_
  refine go_ialdN (j := 1) ⟨by decide, by decide, by decide⟩ (rf_k1 RK) rfl (by decide) dX11_waiting_58 ?_
  refine go_icmp_ge (tgt := 110) dX11_waiting_59 (by decide) (fun hc => ?_) (fun hc => ?_)
  · replace H := H.1 hc
    refine go_iload dX11_waiting_110 rfl ?_
    refine go_iload_n dX11_waiting_112 rfl ?_
    refine go_icmp_ne (tgt := 118) dX11_waiting_113 (by decide) (fun hc => ?_) (fun hc => ?_)
    · replace H := H.1 hc
      refine go_iinc (v := (1 : Int32)) (by decide) rfl rfl dX11_waiting_118 ?_
      show go_W mt_X11_waiting fr_R 121 [some (pv_r m), some (pv_i x1), some (pv_i x2), some (pv_i (x3 + (1 : Int32))), some (pv_i x4), some (pv_i x5)] [] (mm_si B I) (qi_ (fun x M' => ∃ I', M' = mm_si B I' ∧ P x I'))
      refine go_goto (tgt := 12) dX11_waiting_121 (by decide) ?_
      exact go_fg (ls' := [some (pv_r m), some (pv_i x1), some (pv_i x2), some (pv_i (x3 + (1 : Int32))), none, none]) ⟨rfl, ⟨rfl, ⟨rfl, ⟨rfl, trivial⟩⟩⟩⟩ H
    · replace H := H.2 hc
      refine go_iload_n dX11_waiting_116 rfl ?_
      exact go_iret rfl rfl dX11_waiting_117 ⟨_, rfl, _, rfl, H⟩
  · replace H := H.2 hc
    refine go_iload dX11_waiting_62 rfl ?_
    refine go_aload_n dX11_waiting_64 rfl ?_
    refine go_iload dX11_waiting_65 rfl ?_
    refine go_iconst (v := (0 : Int32)) rfl dX11_waiting_67 ?_
    obtain ⟨n1, ⟨hn1, hn1b⟩, H⟩ := H
    refine go_V (av := [pv_i x5, pv_i (0 : Int32)]) (st := [pv_i x4]) (ci := 11) ok_X11_of ⟨by decide, by decide⟩ ml_X11_94 rfl (by decide) (fun v hv => by simp only [List.mem_cons, List.not_mem_nil, or_false] at hv; rcases hv with rfl | rfl <;> first | exact pv_1i | exact pv_1r) (Nat.le_of_ble_eq_true rfl) (fun _ h => h) (by decide) rfl RK.1 dX11_waiting_68 (rx_of RK hn1 rfl hn1b (by decide)) (fun r M' hq _ => ?_)
    obtain ⟨_, rfl, _, rfl, rfl, rfl⟩ := hq
    show go_W mt_X11_waiting fr_R 71 [some (pv_r m), some (pv_i x1), some (pv_i x2), some (pv_i x3), some (pv_i x4), some (pv_i x5)] [pv_i (I (m + 1) (200 + 14 * n1 + 0)), pv_i x4] (mm_si B I) (qi_ (fun x M' => ∃ I', M' = mm_si B I' ∧ P x I'))
    refine go_iload_n dX11_waiting_71 rfl ?_
    refine go_icmp_ne (tgt := 100) dX11_waiting_72 (by decide) (fun hc => ?_) (fun hc => ?_)
    · replace H := H.1 hc
      refine go_iconst (v := (0 : Int32)) rfl dX11_waiting_100 ?_
      refine go_iadd dX11_waiting_101 ?_
      refine go_istore (by decide) dX11_waiting_102 ?_
      show go_W mt_X11_waiting fr_R 104 [some (pv_r m), some (pv_i x1), some (pv_i x2), some (pv_i x3), some (pv_i (x4 + (0 : Int32))), some (pv_i x5)] [] (mm_si B I) (qi_ (fun x M' => ∃ I', M' = mm_si B I' ∧ P x I'))
      refine go_iincN (n := n1) (k := 1) hn1 (by decide) rfl rfl dX11_waiting_104 ?_
      show go_W mt_X11_waiting fr_R 107 [some (pv_r m), some (pv_i x1), some (pv_i x2), some (pv_i x3), some (pv_i (x4 + (0 : Int32))), some (pv_i (nI (n1 + 1)))] [] (mm_si B I) (qi_ (fun x M' => ∃ I', M' = mm_si B I' ∧ P x I'))
      refine go_goto (tgt := 51) dX11_waiting_107 (by decide) ?_
      exact H
    · replace H := H.2 hc
      refine go_aload_n dX11_waiting_75 rfl ?_
      refine go_iload dX11_waiting_76 rfl ?_
      refine go_bipush (v := (6 : Int32)) rfl dX11_waiting_78 ?_
      refine go_V (av := [pv_i x5, pv_i (6 : Int32)]) (st := [pv_i x4]) (ci := 11) ok_X11_of ⟨by decide, by decide⟩ ml_X11_94 rfl (by decide) (fun v hv => by simp only [List.mem_cons, List.not_mem_nil, or_false] at hv; rcases hv with rfl | rfl <;> first | exact pv_1i | exact pv_1r) (Nat.le_of_ble_eq_true rfl) (fun _ h => h) (by decide) rfl RK.1 dX11_waiting_80 (rx_of RK hn1 rfl (by omega) (by decide)) (fun r M' hq _ => ?_)
      obtain ⟨_, rfl, _, rfl, rfl, rfl⟩ := hq
      show go_W mt_X11_waiting fr_R 83 [some (pv_r m), some (pv_i x1), some (pv_i x2), some (pv_i x3), some (pv_i x4), some (pv_i x5)] [pv_i (I (m + 1) (200 + 14 * n1 + 6)), pv_i x4] (mm_si B I) (qi_ (fun x M' => ∃ I', M' = mm_si B I' ∧ P x I'))
      refine go_if_ne (tgt := 100) dX11_waiting_83 (by decide) (fun hc => ?_) (fun hc => ?_)
      · replace H := H.1 hc
        refine go_iconst (v := (0 : Int32)) rfl dX11_waiting_100 ?_
        refine go_iadd dX11_waiting_101 ?_
        refine go_istore (by decide) dX11_waiting_102 ?_
        show go_W mt_X11_waiting fr_R 104 [some (pv_r m), some (pv_i x1), some (pv_i x2), some (pv_i x3), some (pv_i (x4 + (0 : Int32))), some (pv_i x5)] [] (mm_si B I) (qi_ (fun x M' => ∃ I', M' = mm_si B I' ∧ P x I'))
        refine go_iincN (n := n1) (k := 1) hn1 (by decide) rfl rfl dX11_waiting_104 ?_
        show go_W mt_X11_waiting fr_R 107 [some (pv_r m), some (pv_i x1), some (pv_i x2), some (pv_i x3), some (pv_i (x4 + (0 : Int32))), some (pv_i (nI (n1 + 1)))] [] (mm_si B I) (qi_ (fun x M' => ∃ I', M' = mm_si B I' ∧ P x I'))
        refine go_goto (tgt := 51) dX11_waiting_107 (by decide) ?_
        exact H
      · replace H := H.2 hc
        refine go_aload_n dX11_waiting_86 rfl ?_
        refine go_iload dX11_waiting_87 rfl ?_
        refine go_iload_n dX11_waiting_89 rfl ?_
        refine go_V (av := [pv_i x5, pv_i x3]) (st := [pv_i x4]) (ci := 11) ok_X11_isAheadOf ⟨by decide, by decide⟩ ml_X11_105 rfl (by decide) (fun v hv => by simp only [List.mem_cons, List.not_mem_nil, or_false] at hv; rcases hv with rfl | rfl <;> first | exact pv_1i | exact pv_1r) (Nat.le_of_ble_eq_true rfl) (fun _ h => h) (by decide) rfl RK.1 dX11_waiting_90 H (fun r M' hq _ => ?_)
        obtain ⟨v3, rfl, I2, rfl, H⟩ := hq
        show go_W mt_X11_waiting fr_R 93 [some (pv_r m), some (pv_i x1), some (pv_i x2), some (pv_i x3), some (pv_i x4), some (pv_i x5)] [pv_i v3, pv_i x4] (mm_si B I2) (qi_ (fun x M' => ∃ I', M' = mm_si B I' ∧ P x I'))
        refine go_if_eq (tgt := 100) dX11_waiting_93 (by decide) (fun hc => ?_) (fun hc => ?_)
        · replace H := H.1 hc
          refine go_iconst (v := (0 : Int32)) rfl dX11_waiting_100 ?_
          refine go_iadd dX11_waiting_101 ?_
          refine go_istore (by decide) dX11_waiting_102 ?_
          show go_W mt_X11_waiting fr_R 104 [some (pv_r m), some (pv_i x1), some (pv_i x2), some (pv_i x3), some (pv_i (x4 + (0 : Int32))), some (pv_i x5)] [] (mm_si B I2) (qi_ (fun x M' => ∃ I', M' = mm_si B I' ∧ P x I'))
          refine go_iincN (n := n1) (k := 1) hn1 (by decide) rfl rfl dX11_waiting_104 ?_
          show go_W mt_X11_waiting fr_R 107 [some (pv_r m), some (pv_i x1), some (pv_i x2), some (pv_i x3), some (pv_i (x4 + (0 : Int32))), some (pv_i (nI (n1 + 1)))] [] (mm_si B I2) (qi_ (fun x M' => ∃ I', M' = mm_si B I' ∧ P x I'))
          refine go_goto (tgt := 51) dX11_waiting_107 (by decide) ?_
          exact H
        · replace H := H.2 hc
          refine go_iconst (v := (1 : Int32)) rfl dX11_waiting_96 ?_
          refine go_goto (tgt := 101) dX11_waiting_97 (by decide) ?_
          refine go_iadd dX11_waiting_101 ?_
          refine go_istore (by decide) dX11_waiting_102 ?_
          show go_W mt_X11_waiting fr_R 104 [some (pv_r m), some (pv_i x1), some (pv_i x2), some (pv_i x3), some (pv_i (x4 + (1 : Int32))), some (pv_i x5)] [] (mm_si B I2) (qi_ (fun x M' => ∃ I', M' = mm_si B I' ∧ P x I'))
          refine go_iincN (n := n1) (k := 1) hn1 (by decide) rfl rfl dX11_waiting_104 ?_
          show go_W mt_X11_waiting fr_R 107 [some (pv_r m), some (pv_i x1), some (pv_i x2), some (pv_i x3), some (pv_i (x4 + (1 : Int32))), some (pv_i (nI (n1 + 1)))] [] (mm_si B I2) (qi_ (fun x M' => ∃ I', M' = mm_si B I' ∧ P x I'))
          refine go_goto (tgt := 51) dX11_waiting_107 (by decide) ?_
          exact H
set_option maxRecDepth 20000 in
theorem wq_X11_keyed_0 {B : mm_T} {I : Nat → Nat → Int32} {m : Nat} (RK : rf_ok B m) {x1 : Int32} {P : Int32 → (Nat → Nat → Int32) → Prop} (H : ((((0 ≤ x1 ∧ x1 ≤ 9999)) → rs_i mt_X11_standsWith [pv_r m, pv_i x1] B I (fun v2 I1 => P v2 I1)) ∧ ((¬ (0 ≤ x1 ∧ x1 ≤ 9999)) → P (-1 : Int32) I))) : rw_i mt_X11_keyed 0 [some (pv_r m), some (pv_i x1)] [] B I P := by
  refine go_iload_n dX11_keyed_0 rfl ?_
  by_cases hc : (0 ≤ x1 ∧ x1 ≤ 9999)
  · replace H := H.1 hc
    refine go_St (av := [pv_i x1]) (st := []) ok_X11_isKey ⟨by decide, by decide⟩ ml_X11_158 rfl (by decide) (fun v hv => by simp only [List.mem_cons, List.not_mem_nil, or_false] at hv; rcases hv with rfl <;> first | exact pv_1i | exact pv_1r) (Nat.le_of_ble_eq_true rfl) (fun _ h => h) dX11_keyed_1 (rx_isKey_t RK hc) (fun r M' hq _ => ?_)
    obtain ⟨_, rfl, _, rfl, rfl, rfl⟩ := hq
    show go_W mt_X11_keyed fr_R 4 [some (pv_r m), some (pv_i x1)] [pv_i (1 : Int32)] (mm_si B I) (qi_ (fun x M' => ∃ I', M' = mm_si B I' ∧ P x I'))
    refine go_if_eq (tgt := 15) dX11_keyed_4 (by decide) (fun hc => absurd hc (by decide)) (fun _ => ?_)
    refine go_aload_n dX11_keyed_7 rfl ?_
    refine go_iload_n dX11_keyed_8 rfl ?_
    refine go_V (av := [pv_i x1]) (st := []) (ci := 11) ok_X11_standsWith ⟨by decide, by decide⟩ ml_X11_167 rfl (by decide) (fun v hv => by simp only [List.mem_cons, List.not_mem_nil, or_false] at hv; rcases hv with rfl <;> first | exact pv_1i | exact pv_1r) (Nat.le_of_ble_eq_true rfl) (fun _ h => h) (by decide) rfl RK.1 dX11_keyed_9 H (fun r M' hq _ => ?_)
    obtain ⟨v2, rfl, I1, rfl, H⟩ := hq
    show go_W mt_X11_keyed fr_R 12 [some (pv_r m), some (pv_i x1)] [pv_i v2] (mm_si B I1) (qi_ (fun x M' => ∃ I', M' = mm_si B I' ∧ P x I'))
    refine go_goto (tgt := 16) dX11_keyed_12 (by decide) ?_
    exact go_iret rfl rfl dX11_keyed_16 ⟨_, rfl, _, rfl, H⟩
  · replace H := H.2 hc
    refine go_St (av := [pv_i x1]) (st := []) ok_X11_isKey ⟨by decide, by decide⟩ ml_X11_158 rfl (by decide) (fun v hv => by simp only [List.mem_cons, List.not_mem_nil, or_false] at hv; rcases hv with rfl <;> first | exact pv_1i | exact pv_1r) (Nat.le_of_ble_eq_true rfl) (fun _ h => h) dX11_keyed_1 (rx_isKey_f RK hc) (fun r M' hq _ => ?_)
    obtain ⟨_, rfl, _, rfl, rfl, rfl⟩ := hq
    show go_W mt_X11_keyed fr_R 4 [some (pv_r m), some (pv_i x1)] [pv_i (0 : Int32)] (mm_si B I) (qi_ (fun x M' => ∃ I', M' = mm_si B I' ∧ P x I'))
    refine go_if_eq (tgt := 15) dX11_keyed_4 (by decide) (fun _ => ?_) (fun hc => absurd hc (by decide))
    refine go_iconst (v := (-1 : Int32)) rfl dX11_keyed_15 ?_
    exact go_iret rfl rfl dX11_keyed_16 ⟨_, rfl, _, rfl, H⟩
set_option maxRecDepth 20000 in
theorem wq_X11_resting_0 {B : mm_T} {I : Nat → Nat → Int32} {m : Nat} (RK : rf_ok B m) {x1 : Int32} {P : Int32 → (Nat → Nat → Int32) → Prop} (H : (((0 ≤ x1) → rs_i mt_X11_restingAt [pv_r m, pv_i x1] B I (fun v2 I1 => P v2 I1)) ∧ ((¬ 0 ≤ x1) → P (-1 : Int32) I))) : rw_i mt_X11_resting 0 [some (pv_r m), some (pv_i x1)] [] B I P := by
  refine go_iload_n dX11_resting_0 rfl ?_
  refine go_if_ge (tgt := 8) dX11_resting_1 (by decide) (fun hc => ?_) (fun hc => ?_)
  · replace H := H.1 hc
    refine go_aload_n dX11_resting_8 rfl ?_
    refine go_iload_n dX11_resting_9 rfl ?_
    refine go_V (av := [pv_i x1]) (st := []) (ci := 11) ok_X11_restingAt ⟨by decide, by decide⟩ ml_X11_264 rfl (by decide) (fun v hv => by simp only [List.mem_cons, List.not_mem_nil, or_false] at hv; rcases hv with rfl <;> first | exact pv_1i | exact pv_1r) (Nat.le_of_ble_eq_true rfl) (fun _ h => h) (by decide) rfl RK.1 dX11_resting_10 H (fun r M' hq _ => ?_)
    obtain ⟨v2, rfl, I1, rfl, H⟩ := hq
    show go_W mt_X11_resting fr_R 13 [some (pv_r m), some (pv_i x1)] [pv_i v2] (mm_si B I1) (qi_ (fun x M' => ∃ I', M' = mm_si B I' ∧ P x I'))
    exact go_iret rfl rfl dX11_resting_13 ⟨_, rfl, _, rfl, H⟩
  · replace H := H.2 hc
    refine go_iconst (v := (-1 : Int32)) rfl dX11_resting_4 ?_
    refine go_goto (tgt := 13) dX11_resting_5 (by decide) ?_
    exact go_iret rfl rfl dX11_resting_13 ⟨_, rfl, _, rfl, H⟩
set_option maxRecDepth 20000 in
theorem wq_X11_aside_0 {B : mm_T} {I : Nat → Nat → Int32} {m : Nat} (RK : rf_ok B m) {x1 : Int32} {P : Int32 → (Nat → Nat → Int32) → Prop} (H : (((((0 : Int32) ≤ x1 ∧ x1 ≤ (I (m + 1) 3 - (1 : Int32)))) → ∃ n1, (((5800 : Int32) + x1) = nI n1 ∧ n1 < 6200) ∧ (P (I (m + 1) n1) I)) ∧ ((¬ ((0 : Int32) ≤ x1 ∧ x1 ≤ (I (m + 1) 3 - (1 : Int32)))) → P (-1 : Int32) I))) : rw_i mt_X11_aside 0 [some (pv_r m), some (pv_i x1)] [] B I P := by
  refine go_iload_n dX11_aside_0 rfl ?_
  refine go_iconst (v := (0 : Int32)) rfl dX11_aside_1 ?_
  refine go_aload_n dX11_aside_2 rfl ?_
  refine go_getRe (k := 0) ⟨by decide, rfl, by decide, Or.inr ⟨_, rfl⟩⟩ RK.1 (rf_r1 RK) fl_X11_7 dX11_aside_3 ?_
  refine go_iconst (v := (3 : Int32)) rfl dX11_aside_6 ?_
  refine go_ialdN (j := 3) ⟨by decide, by decide, by decide⟩ (rf_k1 RK) rfl (by decide) dX11_aside_7 ?_
  refine go_iconst (v := (1 : Int32)) rfl dX11_aside_8 ?_
  refine go_isub dX11_aside_9 ?_
  by_cases hc : ((0 : Int32) ≤ x1 ∧ x1 ≤ (I (m + 1) 3 - (1 : Int32)))
  · replace H := H.1 hc
    refine go_St (av := [pv_i x1, pv_i (0 : Int32), pv_i (I (m + 1) 3 - (1 : Int32))]) (st := []) ok_X11_isIn ⟨by decide, by decide⟩ ml_X11_90 rfl (by decide) (fun v hv => by simp only [List.mem_cons, List.not_mem_nil, or_false] at hv; rcases hv with rfl | rfl | rfl <;> first | exact pv_1i | exact pv_1r) (Nat.le_of_ble_eq_true rfl) (fun _ h => h) dX11_aside_10 (rx_isIn_t RK hc) (fun r M' hq _ => ?_)
    obtain ⟨_, rfl, _, rfl, rfl, rfl⟩ := hq
    show go_W mt_X11_aside fr_R 13 [some (pv_r m), some (pv_i x1)] [pv_i (1 : Int32)] (mm_si B I) (qi_ (fun x M' => ∃ I', M' = mm_si B I' ∧ P x I'))
    refine go_if_eq (tgt := 29) dX11_aside_13 (by decide) (fun hc => absurd hc (by decide)) (fun _ => ?_)
    refine go_aload_n dX11_aside_16 rfl ?_
    refine go_getRe (k := 0) ⟨by decide, rfl, by decide, Or.inr ⟨_, rfl⟩⟩ RK.1 (rf_r1 RK) fl_X11_7 dX11_aside_17 ?_
    refine go_sipush (v := (5800 : Int32)) rfl dX11_aside_20 ?_
    refine go_iload_n dX11_aside_23 rfl ?_
    refine go_iadd dX11_aside_24 ?_
    obtain ⟨n1, ⟨hn1, hn1b⟩, H⟩ := H
    refine go_ialdN (j := n1) ⟨by decide, by decide, by decide⟩ (rf_k1 RK) hn1 hn1b dX11_aside_25 ?_
    refine go_goto (tgt := 30) dX11_aside_26 (by decide) ?_
    exact go_iret rfl rfl dX11_aside_30 ⟨_, rfl, _, rfl, H⟩
  · replace H := H.2 hc
    refine go_St (av := [pv_i x1, pv_i (0 : Int32), pv_i (I (m + 1) 3 - (1 : Int32))]) (st := []) ok_X11_isIn ⟨by decide, by decide⟩ ml_X11_90 rfl (by decide) (fun v hv => by simp only [List.mem_cons, List.not_mem_nil, or_false] at hv; rcases hv with rfl | rfl | rfl <;> first | exact pv_1i | exact pv_1r) (Nat.le_of_ble_eq_true rfl) (fun _ h => h) dX11_aside_10 (rx_isIn_f RK hc) (fun r M' hq _ => ?_)
    obtain ⟨_, rfl, _, rfl, rfl, rfl⟩ := hq
    show go_W mt_X11_aside fr_R 13 [some (pv_r m), some (pv_i x1)] [pv_i (0 : Int32)] (mm_si B I) (qi_ (fun x M' => ∃ I', M' = mm_si B I' ∧ P x I'))
    refine go_if_eq (tgt := 29) dX11_aside_13 (by decide) (fun _ => ?_) (fun hc => absurd hc (by decide))
    refine go_iconst (v := (-1 : Int32)) rfl dX11_aside_29 ?_
    exact go_iret rfl rfl dX11_aside_30 ⟨_, rfl, _, rfl, H⟩
set_option maxRecDepth 20000 in
theorem wq_X11_ending_0 {B : mm_T} {I : Nat → Nat → Int32} {m : Nat} (RK : rf_ok B m) {x1 : Int32} {P : Int32 → (Nat → Nat → Int32) → Prop} (H : rw_i mt_X11_ending 2 [some (pv_r m), some (pv_i x1), some (pv_i (0 : Int32)), none, none] [] B I P) : rw_i mt_X11_ending 0 [some (pv_r m), some (pv_i x1), none, none, none] [] B I P := by
  refine go_iconst (v := (0 : Int32)) rfl dX11_ending_0 ?_
  refine go_istore_n (by decide) dX11_ending_1 ?_
  show go_W mt_X11_ending fr_R 2 [some (pv_r m), some (pv_i x1), some (pv_i (0 : Int32)), none, none] [] (mm_si B I) (qi_ (fun x M' => ∃ I', M' = mm_si B I' ∧ P x I'))
  exact H
set_option maxRecDepth 20000 in
theorem wq_X11_ending_2 {B : mm_T} {I : Nat → Nat → Int32} {m : Nat} (RK : rf_ok B m) {x1 x2 : Int32} {P : Int32 → (Nat → Nat → Int32) → Prop} (H : (((I (m + 1) 1 ≤ x2) → P (-1 : Int32) I) ∧ ((¬ I (m + 1) 1 ≤ x2) → ∃ n1, (x2 = nI n1 ∧ n1 < 400) ∧ ((((I (m + 1) (200 + 14 * n1 + 6) = (3 : Int32)) → rw_i mt_X11_ending 31 [some (pv_r m), some (pv_i x1), some (pv_i x2), some (pv_i (0 : Int32)), some (pv_i (0 : Int32))] [] B I P) ∧ ((¬ I (m + 1) (200 + 14 * n1 + 6) = (3 : Int32)) → rw_i mt_X11_ending 2 [some (pv_r m), some (pv_i x1), some (pv_i (nI (n1 + 1))), none, none] [] B I P)))))) : rw_i mt_X11_ending 2 [some (pv_r m), some (pv_i x1), some (pv_i x2), none, none] [] B I P := by
  refine go_iload_n dX11_ending_2 rfl ?_
  refine go_aload_n dX11_ending_3 rfl ?_
  refine go_getRe (k := 0) ⟨by decide, rfl, by decide, Or.inr ⟨_, rfl⟩⟩ RK.1 (rf_r1 RK) fl_X11_7 dX11_ending_4 ?_
  refine go_iconst (v := (1 : Int32)) rfl dX11_ending_7 ?_
  refine go_ialdN (j := 1) ⟨by decide, by decide, by decide⟩ (rf_k1 RK) rfl (by decide) dX11_ending_8 ?_
  refine go_icmp_ge (tgt := 123) dX11_ending_9 (by decide) (fun hc => ?_) (fun hc => ?_)
  · replace H := H.1 hc
    refine go_iconst (v := (-1 : Int32)) rfl dX11_ending_123 ?_
    exact go_iret rfl rfl dX11_ending_124 ⟨_, rfl, _, rfl, H⟩
  · replace H := H.2 hc
    refine go_aload_n dX11_ending_12 rfl ?_
    refine go_iload_n dX11_ending_13 rfl ?_
    refine go_bipush (v := (6 : Int32)) rfl dX11_ending_14 ?_
    obtain ⟨n1, ⟨hn1, hn1b⟩, H⟩ := H
    refine go_V (av := [pv_i x2, pv_i (6 : Int32)]) (st := []) (ci := 11) ok_X11_of ⟨by decide, by decide⟩ ml_X11_94 rfl (by decide) (fun v hv => by simp only [List.mem_cons, List.not_mem_nil, or_false] at hv; rcases hv with rfl | rfl <;> first | exact pv_1i | exact pv_1r) (Nat.le_of_ble_eq_true rfl) (fun _ h => h) (by decide) rfl RK.1 dX11_ending_16 (rx_of RK hn1 rfl hn1b (by decide)) (fun r M' hq _ => ?_)
    obtain ⟨_, rfl, _, rfl, rfl, rfl⟩ := hq
    show go_W mt_X11_ending fr_R 19 [some (pv_r m), some (pv_i x1), some (pv_i x2), none, none] [pv_i (I (m + 1) (200 + 14 * n1 + 6))] (mm_si B I) (qi_ (fun x M' => ∃ I', M' = mm_si B I' ∧ P x I'))
    refine go_iconst (v := (3 : Int32)) rfl dX11_ending_19 ?_
    refine go_icmp_eq (tgt := 26) dX11_ending_20 (by decide) (fun hc => ?_) (fun hc => ?_)
    · replace H := H.1 hc
      refine go_iconst (v := (0 : Int32)) rfl dX11_ending_26 ?_
      refine go_istore_n (by decide) dX11_ending_27 ?_
      show go_W mt_X11_ending fr_R 28 [some (pv_r m), some (pv_i x1), some (pv_i x2), some (pv_i (0 : Int32)), none] [] (mm_si B I) (qi_ (fun x M' => ∃ I', M' = mm_si B I' ∧ P x I'))
      refine go_iconst (v := (0 : Int32)) rfl dX11_ending_28 ?_
      refine go_istore (by decide) dX11_ending_29 ?_
      show go_W mt_X11_ending fr_R 31 [some (pv_r m), some (pv_i x1), some (pv_i x2), some (pv_i (0 : Int32)), some (pv_i (0 : Int32))] [] (mm_si B I) (qi_ (fun x M' => ∃ I', M' = mm_si B I' ∧ P x I'))
      exact H
    · replace H := H.2 hc
      refine go_goto (tgt := 117) dX11_ending_23 (by decide) ?_
      refine go_iincN (n := n1) (k := 1) hn1 (by decide) rfl rfl dX11_ending_117 ?_
      show go_W mt_X11_ending fr_R 120 [some (pv_r m), some (pv_i x1), some (pv_i (nI (n1 + 1))), none, none] [] (mm_si B I) (qi_ (fun x M' => ∃ I', M' = mm_si B I' ∧ P x I'))
      refine go_goto (tgt := 2) dX11_ending_120 (by decide) ?_
      exact H
set_option maxRecDepth 20000 in
theorem wq_X11_ending_31 {B : mm_T} {I : Nat → Nat → Int32} {m : Nat} (RK : rf_ok B m) {x1 x2 x3 x4 : Int32} {P : Int32 → (Nat → Nat → Int32) → Prop} (H : (((I (m + 1) 1 ≤ x4) → (((¬ x3 = x1) → rw_i mt_X11_ending 2 [some (pv_r m), some (pv_i x1), some (pv_i (x2 + (1 : Int32))), none, none] [] B I P) ∧ ((x3 = x1) → P x2 I))) ∧ ((¬ I (m + 1) 1 ≤ x4) → ∃ n1, (x4 = nI n1 ∧ n1 < 400) ∧ ((((¬ I (m + 1) (200 + 14 * n1 + 6) = (3 : Int32)) → rw_i mt_X11_ending 31 [some (pv_r m), some (pv_i x1), some (pv_i x2), some (pv_i (x3 + (0 : Int32))), some (pv_i (nI (n1 + 1)))] [] B I P) ∧ ((I (m + 1) (200 + 14 * n1 + 6) = (3 : Int32)) → ∃ n2, (x2 = nI n2 ∧ n2 < 400) ∧ ((((I (m + 1) (200 + 14 * n1 + 11) < I (m + 1) (200 + 14 * n2 + 11)) → rw_i mt_X11_ending 31 [some (pv_r m), some (pv_i x1), some (pv_i x2), some (pv_i (x3 + (1 : Int32))), some (pv_i (nI (n1 + 1)))] [] B I P) ∧ ((¬ I (m + 1) (200 + 14 * n1 + 11) < I (m + 1) (200 + 14 * n2 + 11)) → (((¬ I (m + 1) (200 + 14 * n1 + 11) = I (m + 1) (200 + 14 * n2 + 11)) → rw_i mt_X11_ending 31 [some (pv_r m), some (pv_i x1), some (pv_i x2), some (pv_i (x3 + (0 : Int32))), some (pv_i (nI (n1 + 1)))] [] B I P) ∧ ((I (m + 1) (200 + 14 * n1 + 11) = I (m + 1) (200 + 14 * n2 + 11)) → (((x2 ≤ x4) → rw_i mt_X11_ending 31 [some (pv_r m), some (pv_i x1), some (pv_i x2), some (pv_i (x3 + (0 : Int32))), some (pv_i (nI (n1 + 1)))] [] B I P) ∧ ((¬ x2 ≤ x4) → rw_i mt_X11_ending 31 [some (pv_r m), some (pv_i x1), some (pv_i x2), some (pv_i (x3 + (1 : Int32))), some (pv_i (nI (n1 + 1)))] [] B I P))))))))))))) : rw_i mt_X11_ending 31 [some (pv_r m), some (pv_i x1), some (pv_i x2), some (pv_i x3), some (pv_i x4)] [] B I P := by
  refine go_iload dX11_ending_31 rfl ?_
  refine go_aload_n dX11_ending_33 rfl ?_
  refine go_getRe (k := 0) ⟨by decide, rfl, by decide, Or.inr ⟨_, rfl⟩⟩ RK.1 (rf_r1 RK) fl_X11_7 dX11_ending_34 ?_
  refine go_iconst (v := (1 : Int32)) rfl dX11_ending_37 ?_
  refine go_ialdN (j := 1) ⟨by decide, by decide, by decide⟩ (rf_k1 RK) rfl (by decide) dX11_ending_38 ?_
  refine go_icmp_ge (tgt := 110) dX11_ending_39 (by decide) (fun hc => ?_) (fun hc => ?_)
  · replace H := H.1 hc
    refine go_iload_n dX11_ending_110 rfl ?_
    refine go_iload_n dX11_ending_111 rfl ?_
    refine go_icmp_ne (tgt := 117) dX11_ending_112 (by decide) (fun hc => ?_) (fun hc => ?_)
    · replace H := H.1 hc
      refine go_iinc (v := (1 : Int32)) (by decide) rfl rfl dX11_ending_117 ?_
      show go_W mt_X11_ending fr_R 120 [some (pv_r m), some (pv_i x1), some (pv_i (x2 + (1 : Int32))), some (pv_i x3), some (pv_i x4)] [] (mm_si B I) (qi_ (fun x M' => ∃ I', M' = mm_si B I' ∧ P x I'))
      refine go_goto (tgt := 2) dX11_ending_120 (by decide) ?_
      exact go_fg (ls' := [some (pv_r m), some (pv_i x1), some (pv_i (x2 + (1 : Int32))), none, none]) ⟨rfl, ⟨rfl, ⟨rfl, trivial⟩⟩⟩ H
    · replace H := H.2 hc
      refine go_iload_n dX11_ending_115 rfl ?_
      exact go_iret rfl rfl dX11_ending_116 ⟨_, rfl, _, rfl, H⟩
  · replace H := H.2 hc
    refine go_iload_n dX11_ending_42 rfl ?_
    refine go_aload_n dX11_ending_43 rfl ?_
    refine go_iload dX11_ending_44 rfl ?_
    refine go_bipush (v := (6 : Int32)) rfl dX11_ending_46 ?_
    obtain ⟨n1, ⟨hn1, hn1b⟩, H⟩ := H
    refine go_V (av := [pv_i x4, pv_i (6 : Int32)]) (st := [pv_i x3]) (ci := 11) ok_X11_of ⟨by decide, by decide⟩ ml_X11_94 rfl (by decide) (fun v hv => by simp only [List.mem_cons, List.not_mem_nil, or_false] at hv; rcases hv with rfl | rfl <;> first | exact pv_1i | exact pv_1r) (Nat.le_of_ble_eq_true rfl) (fun _ h => h) (by decide) rfl RK.1 dX11_ending_48 (rx_of RK hn1 rfl hn1b (by decide)) (fun r M' hq _ => ?_)
    obtain ⟨_, rfl, _, rfl, rfl, rfl⟩ := hq
    show go_W mt_X11_ending fr_R 51 [some (pv_r m), some (pv_i x1), some (pv_i x2), some (pv_i x3), some (pv_i x4)] [pv_i (I (m + 1) (200 + 14 * n1 + 6)), pv_i x3] (mm_si B I) (qi_ (fun x M' => ∃ I', M' = mm_si B I' ∧ P x I'))
    refine go_iconst (v := (3 : Int32)) rfl dX11_ending_51 ?_
    refine go_icmp_ne (tgt := 101) dX11_ending_52 (by decide) (fun hc => ?_) (fun hc => ?_)
    · replace H := H.1 hc
      refine go_iconst (v := (0 : Int32)) rfl dX11_ending_101 ?_
      refine go_iadd dX11_ending_102 ?_
      refine go_istore_n (by decide) dX11_ending_103 ?_
      show go_W mt_X11_ending fr_R 104 [some (pv_r m), some (pv_i x1), some (pv_i x2), some (pv_i (x3 + (0 : Int32))), some (pv_i x4)] [] (mm_si B I) (qi_ (fun x M' => ∃ I', M' = mm_si B I' ∧ P x I'))
      refine go_iincN (n := n1) (k := 1) hn1 (by decide) rfl rfl dX11_ending_104 ?_
      show go_W mt_X11_ending fr_R 107 [some (pv_r m), some (pv_i x1), some (pv_i x2), some (pv_i (x3 + (0 : Int32))), some (pv_i (nI (n1 + 1)))] [] (mm_si B I) (qi_ (fun x M' => ∃ I', M' = mm_si B I' ∧ P x I'))
      refine go_goto (tgt := 31) dX11_ending_107 (by decide) ?_
      exact H
    · replace H := H.2 hc
      refine go_aload_n dX11_ending_55 rfl ?_
      refine go_iload dX11_ending_56 rfl ?_
      refine go_bipush (v := (11 : Int32)) rfl dX11_ending_58 ?_
      refine go_V (av := [pv_i x4, pv_i (11 : Int32)]) (st := [pv_i x3]) (ci := 11) ok_X11_of ⟨by decide, by decide⟩ ml_X11_94 rfl (by decide) (fun v hv => by simp only [List.mem_cons, List.not_mem_nil, or_false] at hv; rcases hv with rfl | rfl <;> first | exact pv_1i | exact pv_1r) (Nat.le_of_ble_eq_true rfl) (fun _ h => h) (by decide) rfl RK.1 dX11_ending_60 (rx_of RK hn1 rfl (by omega) (by decide)) (fun r M' hq _ => ?_)
      obtain ⟨_, rfl, _, rfl, rfl, rfl⟩ := hq
      show go_W mt_X11_ending fr_R 63 [some (pv_r m), some (pv_i x1), some (pv_i x2), some (pv_i x3), some (pv_i x4)] [pv_i (I (m + 1) (200 + 14 * n1 + 11)), pv_i x3] (mm_si B I) (qi_ (fun x M' => ∃ I', M' = mm_si B I' ∧ P x I'))
      refine go_aload_n dX11_ending_63 rfl ?_
      refine go_iload_n dX11_ending_64 rfl ?_
      refine go_bipush (v := (11 : Int32)) rfl dX11_ending_65 ?_
      obtain ⟨n2, ⟨hn2, hn2b⟩, H⟩ := H
      refine go_V (av := [pv_i x2, pv_i (11 : Int32)]) (st := [pv_i (I (m + 1) (200 + 14 * n1 + 11)), pv_i x3]) (ci := 11) ok_X11_of ⟨by decide, by decide⟩ ml_X11_94 rfl (by decide) (fun v hv => by simp only [List.mem_cons, List.not_mem_nil, or_false] at hv; rcases hv with rfl | rfl <;> first | exact pv_1i | exact pv_1r) (Nat.le_of_ble_eq_true rfl) (fun _ h => h) (by decide) rfl RK.1 dX11_ending_67 (rx_of RK hn2 rfl hn2b (by decide)) (fun r M' hq _ => ?_)
      obtain ⟨_, rfl, _, rfl, rfl, rfl⟩ := hq
      show go_W mt_X11_ending fr_R 70 [some (pv_r m), some (pv_i x1), some (pv_i x2), some (pv_i x3), some (pv_i x4)] [pv_i (I (m + 1) (200 + 14 * n2 + 11)), pv_i (I (m + 1) (200 + 14 * n1 + 11)), pv_i x3] (mm_si B I) (qi_ (fun x M' => ∃ I', M' = mm_si B I' ∧ P x I'))
      refine go_icmp_lt (tgt := 97) dX11_ending_70 (by decide) (fun hc => ?_) (fun hc => ?_)
      · replace H := H.1 hc
        refine go_iconst (v := (1 : Int32)) rfl dX11_ending_97 ?_
        refine go_goto (tgt := 102) dX11_ending_98 (by decide) ?_
        refine go_iadd dX11_ending_102 ?_
        refine go_istore_n (by decide) dX11_ending_103 ?_
        show go_W mt_X11_ending fr_R 104 [some (pv_r m), some (pv_i x1), some (pv_i x2), some (pv_i (x3 + (1 : Int32))), some (pv_i x4)] [] (mm_si B I) (qi_ (fun x M' => ∃ I', M' = mm_si B I' ∧ P x I'))
        refine go_iincN (n := n1) (k := 1) hn1 (by decide) rfl rfl dX11_ending_104 ?_
        show go_W mt_X11_ending fr_R 107 [some (pv_r m), some (pv_i x1), some (pv_i x2), some (pv_i (x3 + (1 : Int32))), some (pv_i (nI (n1 + 1)))] [] (mm_si B I) (qi_ (fun x M' => ∃ I', M' = mm_si B I' ∧ P x I'))
        refine go_goto (tgt := 31) dX11_ending_107 (by decide) ?_
        exact H
      · replace H := H.2 hc
        refine go_aload_n dX11_ending_73 rfl ?_
        refine go_iload dX11_ending_74 rfl ?_
        refine go_bipush (v := (11 : Int32)) rfl dX11_ending_76 ?_
        refine go_V (av := [pv_i x4, pv_i (11 : Int32)]) (st := [pv_i x3]) (ci := 11) ok_X11_of ⟨by decide, by decide⟩ ml_X11_94 rfl (by decide) (fun v hv => by simp only [List.mem_cons, List.not_mem_nil, or_false] at hv; rcases hv with rfl | rfl <;> first | exact pv_1i | exact pv_1r) (Nat.le_of_ble_eq_true rfl) (fun _ h => h) (by decide) rfl RK.1 dX11_ending_78 (rx_of RK hn1 rfl (by omega) (by decide)) (fun r M' hq _ => ?_)
        obtain ⟨_, rfl, _, rfl, rfl, rfl⟩ := hq
        show go_W mt_X11_ending fr_R 81 [some (pv_r m), some (pv_i x1), some (pv_i x2), some (pv_i x3), some (pv_i x4)] [pv_i (I (m + 1) (200 + 14 * n1 + 11)), pv_i x3] (mm_si B I) (qi_ (fun x M' => ∃ I', M' = mm_si B I' ∧ P x I'))
        refine go_aload_n dX11_ending_81 rfl ?_
        refine go_iload_n dX11_ending_82 rfl ?_
        refine go_bipush (v := (11 : Int32)) rfl dX11_ending_83 ?_
        refine go_V (av := [pv_i x2, pv_i (11 : Int32)]) (st := [pv_i (I (m + 1) (200 + 14 * n1 + 11)), pv_i x3]) (ci := 11) ok_X11_of ⟨by decide, by decide⟩ ml_X11_94 rfl (by decide) (fun v hv => by simp only [List.mem_cons, List.not_mem_nil, or_false] at hv; rcases hv with rfl | rfl <;> first | exact pv_1i | exact pv_1r) (Nat.le_of_ble_eq_true rfl) (fun _ h => h) (by decide) rfl RK.1 dX11_ending_85 (rx_of RK hn2 rfl (by omega) (by decide)) (fun r M' hq _ => ?_)
        obtain ⟨_, rfl, _, rfl, rfl, rfl⟩ := hq
        show go_W mt_X11_ending fr_R 88 [some (pv_r m), some (pv_i x1), some (pv_i x2), some (pv_i x3), some (pv_i x4)] [pv_i (I (m + 1) (200 + 14 * n2 + 11)), pv_i (I (m + 1) (200 + 14 * n1 + 11)), pv_i x3] (mm_si B I) (qi_ (fun x M' => ∃ I', M' = mm_si B I' ∧ P x I'))
        refine go_icmp_ne (tgt := 101) dX11_ending_88 (by decide) (fun hc => ?_) (fun hc => ?_)
        · replace H := H.1 hc
          refine go_iconst (v := (0 : Int32)) rfl dX11_ending_101 ?_
          refine go_iadd dX11_ending_102 ?_
          refine go_istore_n (by decide) dX11_ending_103 ?_
          show go_W mt_X11_ending fr_R 104 [some (pv_r m), some (pv_i x1), some (pv_i x2), some (pv_i (x3 + (0 : Int32))), some (pv_i x4)] [] (mm_si B I) (qi_ (fun x M' => ∃ I', M' = mm_si B I' ∧ P x I'))
          refine go_iincN (n := n1) (k := 1) hn1 (by decide) rfl rfl dX11_ending_104 ?_
          show go_W mt_X11_ending fr_R 107 [some (pv_r m), some (pv_i x1), some (pv_i x2), some (pv_i (x3 + (0 : Int32))), some (pv_i (nI (n1 + 1)))] [] (mm_si B I) (qi_ (fun x M' => ∃ I', M' = mm_si B I' ∧ P x I'))
          refine go_goto (tgt := 31) dX11_ending_107 (by decide) ?_
          exact H
        · replace H := H.2 hc
          refine go_iload dX11_ending_91 rfl ?_
          refine go_iload_n dX11_ending_93 rfl ?_
          refine go_icmp_ge (tgt := 101) dX11_ending_94 (by decide) (fun hc => ?_) (fun hc => ?_)
          · replace H := H.1 hc
            refine go_iconst (v := (0 : Int32)) rfl dX11_ending_101 ?_
            refine go_iadd dX11_ending_102 ?_
            refine go_istore_n (by decide) dX11_ending_103 ?_
            show go_W mt_X11_ending fr_R 104 [some (pv_r m), some (pv_i x1), some (pv_i x2), some (pv_i (x3 + (0 : Int32))), some (pv_i x4)] [] (mm_si B I) (qi_ (fun x M' => ∃ I', M' = mm_si B I' ∧ P x I'))
            refine go_iincN (n := n1) (k := 1) hn1 (by decide) rfl rfl dX11_ending_104 ?_
            show go_W mt_X11_ending fr_R 107 [some (pv_r m), some (pv_i x1), some (pv_i x2), some (pv_i (x3 + (0 : Int32))), some (pv_i (nI (n1 + 1)))] [] (mm_si B I) (qi_ (fun x M' => ∃ I', M' = mm_si B I' ∧ P x I'))
            refine go_goto (tgt := 31) dX11_ending_107 (by decide) ?_
            exact H
          · replace H := H.2 hc
            refine go_iconst (v := (1 : Int32)) rfl dX11_ending_97 ?_
            refine go_goto (tgt := 102) dX11_ending_98 (by decide) ?_
            refine go_iadd dX11_ending_102 ?_
            refine go_istore_n (by decide) dX11_ending_103 ?_
            show go_W mt_X11_ending fr_R 104 [some (pv_r m), some (pv_i x1), some (pv_i x2), some (pv_i (x3 + (1 : Int32))), some (pv_i x4)] [] (mm_si B I) (qi_ (fun x M' => ∃ I', M' = mm_si B I' ∧ P x I'))
            refine go_iincN (n := n1) (k := 1) hn1 (by decide) rfl rfl dX11_ending_104 ?_
            show go_W mt_X11_ending fr_R 107 [some (pv_r m), some (pv_i x1), some (pv_i x2), some (pv_i (x3 + (1 : Int32))), some (pv_i (nI (n1 + 1)))] [] (mm_si B I) (qi_ (fun x M' => ∃ I', M' = mm_si B I' ∧ P x I'))
            refine go_goto (tgt := 31) dX11_ending_107 (by decide) ?_
            exact H
set_option maxRecDepth 20000 in
theorem wq_X11_strikes_0 {B : mm_T} {I : Nat → Nat → Int32} {m : Nat} (RK : rf_ok B m) {x1 : Int32} {P : Int32 → (Nat → Nat → Int32) → Prop} (H : ((((0 ≤ x1 ∧ x1 ≤ 9999)) → ∃ n1, (x1 = nI n1 ∧ n1 < 10000) ∧ (P (I (m + 3) n1) I)) ∧ ((¬ (0 ≤ x1 ∧ x1 ≤ 9999)) → P (-1 : Int32) I))) : rw_i mt_X11_strikes 0 [some (pv_r m), some (pv_i x1)] [] B I P := by
  refine go_iload_n dX11_strikes_0 rfl ?_
  by_cases hc : (0 ≤ x1 ∧ x1 ≤ 9999)
  · replace H := H.1 hc
    refine go_St (av := [pv_i x1]) (st := []) ok_X11_isKey ⟨by decide, by decide⟩ ml_X11_158 rfl (by decide) (fun v hv => by simp only [List.mem_cons, List.not_mem_nil, or_false] at hv; rcases hv with rfl <;> first | exact pv_1i | exact pv_1r) (Nat.le_of_ble_eq_true rfl) (fun _ h => h) dX11_strikes_1 (rx_isKey_t RK hc) (fun r M' hq _ => ?_)
    obtain ⟨_, rfl, _, rfl, rfl, rfl⟩ := hq
    show go_W mt_X11_strikes fr_R 4 [some (pv_r m), some (pv_i x1)] [pv_i (1 : Int32)] (mm_si B I) (qi_ (fun x M' => ∃ I', M' = mm_si B I' ∧ P x I'))
    refine go_if_eq (tgt := 16) dX11_strikes_4 (by decide) (fun hc => absurd hc (by decide)) (fun _ => ?_)
    refine go_aload_n dX11_strikes_7 rfl ?_
    refine go_getRe (k := 2) ⟨by decide, rfl, by decide, Or.inr ⟨_, rfl⟩⟩ RK.1 (rf_r3 RK) fl_X11_16 dX11_strikes_8 ?_
    refine go_iload_n dX11_strikes_11 rfl ?_
    obtain ⟨n1, ⟨hn1, hn1b⟩, H⟩ := H
    refine go_ialdN (j := n1) ⟨by decide, by decide, by decide⟩ (rf_k3 RK) hn1 hn1b dX11_strikes_12 ?_
    refine go_goto (tgt := 17) dX11_strikes_13 (by decide) ?_
    exact go_iret rfl rfl dX11_strikes_17 ⟨_, rfl, _, rfl, H⟩
  · replace H := H.2 hc
    refine go_St (av := [pv_i x1]) (st := []) ok_X11_isKey ⟨by decide, by decide⟩ ml_X11_158 rfl (by decide) (fun v hv => by simp only [List.mem_cons, List.not_mem_nil, or_false] at hv; rcases hv with rfl <;> first | exact pv_1i | exact pv_1r) (Nat.le_of_ble_eq_true rfl) (fun _ h => h) dX11_strikes_1 (rx_isKey_f RK hc) (fun r M' hq _ => ?_)
    obtain ⟨_, rfl, _, rfl, rfl, rfl⟩ := hq
    show go_W mt_X11_strikes fr_R 4 [some (pv_r m), some (pv_i x1)] [pv_i (0 : Int32)] (mm_si B I) (qi_ (fun x M' => ∃ I', M' = mm_si B I' ∧ P x I'))
    refine go_if_eq (tgt := 16) dX11_strikes_4 (by decide) (fun _ => ?_) (fun hc => absurd hc (by decide))
    refine go_iconst (v := (-1 : Int32)) rfl dX11_strikes_16 ?_
    exact go_iret rfl rfl dX11_strikes_17 ⟨_, rfl, _, rfl, H⟩
set_option maxRecDepth 20000 in
theorem wq_X11_banned_0 {B : mm_T} {I : Nat → Nat → Int32} {m : Nat} (RK : rf_ok B m) {x1 : Int32} {P : Int32 → (Nat → Nat → Int32) → Prop} (H : rw_i mt_X11_banned 4 [some (pv_r m), some (pv_i x1), some (pv_i (0 : Int32)), some (pv_i (0 : Int32))] [] B I P) : rw_i mt_X11_banned 0 [some (pv_r m), some (pv_i x1), none, none] [] B I P := by
  refine go_iconst (v := (0 : Int32)) rfl dX11_banned_0 ?_
  refine go_istore_n (by decide) dX11_banned_1 ?_
  show go_W mt_X11_banned fr_R 2 [some (pv_r m), some (pv_i x1), some (pv_i (0 : Int32)), none] [] (mm_si B I) (qi_ (fun x M' => ∃ I', M' = mm_si B I' ∧ P x I'))
  refine go_iconst (v := (0 : Int32)) rfl dX11_banned_2 ?_
  refine go_istore_n (by decide) dX11_banned_3 ?_
  show go_W mt_X11_banned fr_R 4 [some (pv_r m), some (pv_i x1), some (pv_i (0 : Int32)), some (pv_i (0 : Int32))] [] (mm_si B I) (qi_ (fun x M' => ∃ I', M' = mm_si B I' ∧ P x I'))
  exact H
set_option maxRecDepth 20000 in
theorem wq_X11_banned_4 {B : mm_T} {I : Nat → Nat → Int32} {m : Nat} (RK : rf_ok B m) {x1 x2 x3 : Int32} {P : Int32 → (Nat → Nat → Int32) → Prop} (H : ((((10000 : Int32) ≤ x3) → P (-1 : Int32) I) ∧ ((¬ (10000 : Int32) ≤ x3) → rs_i mt_X11_isBanned [pv_r m, pv_i x3] B I (fun v2 I1 => (((¬ v2 = 0) → (((¬ x2 = x1) → rw_i mt_X11_banned 4 [some (pv_r m), some (pv_i x1), some (pv_i (x2 + (1 : Int32))), some (pv_i (x3 + (1 : Int32)))] [] B I1 P) ∧ ((x2 = x1) → P x3 I1))) ∧ ((v2 = 0) → rw_i mt_X11_banned 4 [some (pv_r m), some (pv_i x1), some (pv_i x2), some (pv_i (x3 + (1 : Int32)))] [] B I1 P)))))) : rw_i mt_X11_banned 4 [some (pv_r m), some (pv_i x1), some (pv_i x2), some (pv_i x3)] [] B I P := by
  refine go_iload_n dX11_banned_4 rfl ?_
  refine go_sipush (v := (10000 : Int32)) rfl dX11_banned_5 ?_
  refine go_icmp_ge (tgt := 38) dX11_banned_8 (by decide) (fun hc => ?_) (fun hc => ?_)
  · replace H := H.1 hc
    refine go_iconst (v := (-1 : Int32)) rfl dX11_banned_38 ?_
    exact go_iret rfl rfl dX11_banned_39 ⟨_, rfl, _, rfl, H⟩
  · replace H := H.2 hc
    refine go_aload_n dX11_banned_11 rfl ?_
    refine go_iload_n dX11_banned_12 rfl ?_
    refine go_V (av := [pv_i x3]) (st := []) (ci := 11) ok_X11_isBanned ⟨by decide, by decide⟩ ml_X11_170 rfl (by decide) (fun v hv => by simp only [List.mem_cons, List.not_mem_nil, or_false] at hv; rcases hv with rfl <;> first | exact pv_1i | exact pv_1r) (Nat.le_of_ble_eq_true rfl) (fun _ h => h) (by decide) rfl RK.1 dX11_banned_13 H (fun r M' hq _ => ?_)
    obtain ⟨v2, rfl, I1, rfl, H⟩ := hq
    show go_W mt_X11_banned fr_R 16 [some (pv_r m), some (pv_i x1), some (pv_i x2), some (pv_i x3)] [pv_i v2] (mm_si B I1) (qi_ (fun x M' => ∃ I', M' = mm_si B I' ∧ P x I'))
    refine go_if_ne (tgt := 22) dX11_banned_16 (by decide) (fun hc => ?_) (fun hc => ?_)
    · replace H := H.1 hc
      refine go_iload_n dX11_banned_22 rfl ?_
      refine go_iload_n dX11_banned_23 rfl ?_
      refine go_icmp_ne (tgt := 29) dX11_banned_24 (by decide) (fun hc => ?_) (fun hc => ?_)
      · replace H := H.1 hc
        refine go_iinc (v := (1 : Int32)) (by decide) rfl rfl dX11_banned_29 ?_
        show go_W mt_X11_banned fr_R 32 [some (pv_r m), some (pv_i x1), some (pv_i (x2 + (1 : Int32))), some (pv_i x3)] [] (mm_si B I1) (qi_ (fun x M' => ∃ I', M' = mm_si B I' ∧ P x I'))
        refine go_iinc (v := (1 : Int32)) (by decide) rfl rfl dX11_banned_32 ?_
        show go_W mt_X11_banned fr_R 35 [some (pv_r m), some (pv_i x1), some (pv_i (x2 + (1 : Int32))), some (pv_i (x3 + (1 : Int32)))] [] (mm_si B I1) (qi_ (fun x M' => ∃ I', M' = mm_si B I' ∧ P x I'))
        refine go_goto (tgt := 4) dX11_banned_35 (by decide) ?_
        exact H
      · replace H := H.2 hc
        refine go_iload_n dX11_banned_27 rfl ?_
        exact go_iret rfl rfl dX11_banned_28 ⟨_, rfl, _, rfl, H⟩
    · replace H := H.2 hc
      refine go_goto (tgt := 32) dX11_banned_19 (by decide) ?_
      refine go_iinc (v := (1 : Int32)) (by decide) rfl rfl dX11_banned_32 ?_
      show go_W mt_X11_banned fr_R 35 [some (pv_r m), some (pv_i x1), some (pv_i x2), some (pv_i (x3 + (1 : Int32)))] [] (mm_si B I1) (qi_ (fun x M' => ∃ I', M' = mm_si B I' ∧ P x I'))
      refine go_goto (tgt := 4) dX11_banned_35 (by decide) ?_
      exact H
set_option maxRecDepth 20000 in
theorem wq_X11_waits_0 {B : mm_T} {I : Nat → Nat → Int32} {m : Nat} (RK : rf_ok B m) {x1 x2 : Int32} {P : Int32 → (Nat → Nat → Int32) → Prop} (H : ((((0 ≤ x1 ∧ x1 ≤ 4)) → (((((0 : Int32) ≤ x2 ∧ x2 ≤ (2 : Int32))) → ∃ n1, (x1 = nI n1 ∧ n1 < 5) ∧ (∃ n2, ((((nI (10 + 10 * n1)) + (7 : Int32)) + x2) = nI n2 ∧ n2 < 6200) ∧ (P (I (m + 1) n2) I))) ∧ ((¬ ((0 : Int32) ≤ x2 ∧ x2 ≤ (2 : Int32))) → P (-1 : Int32) I))) ∧ ((¬ (0 ≤ x1 ∧ x1 ≤ 4)) → P (-1 : Int32) I))) : rw_i mt_X11_waits 0 [some (pv_r m), some (pv_i x1), some (pv_i x2)] [] B I P := by
  refine go_aload_n dX11_waits_0 rfl ?_
  refine go_iload_n dX11_waits_1 rfl ?_
  by_cases hc : (0 ≤ x1 ∧ x1 ≤ 4)
  · replace H := H.1 hc
    refine go_V (av := [pv_i x1]) (st := []) (ci := 11) ok_X11_isLane ⟨by decide, by decide⟩ ml_X11_152 rfl (by decide) (fun v hv => by simp only [List.mem_cons, List.not_mem_nil, or_false] at hv; rcases hv with rfl <;> first | exact pv_1i | exact pv_1r) (Nat.le_of_ble_eq_true rfl) (fun _ h => h) (by decide) rfl RK.1 dX11_waits_2 (rx_isLane_t RK hc) (fun r M' hq _ => ?_)
    obtain ⟨_, rfl, _, rfl, rfl, rfl⟩ := hq
    show go_W mt_X11_waits fr_R 5 [some (pv_r m), some (pv_i x1), some (pv_i x2)] [pv_i (1 : Int32)] (mm_si B I) (qi_ (fun x M' => ∃ I', M' = mm_si B I' ∧ P x I'))
    refine go_if_eq (tgt := 34) dX11_waits_5 (by decide) (fun hc => absurd hc (by decide)) (fun _ => ?_)
    refine go_iload_n dX11_waits_8 rfl ?_
    refine go_iconst (v := (0 : Int32)) rfl dX11_waits_9 ?_
    refine go_iconst (v := (2 : Int32)) rfl dX11_waits_10 ?_
    by_cases hc : ((0 : Int32) ≤ x2 ∧ x2 ≤ (2 : Int32))
    · replace H := H.1 hc
      refine go_St (av := [pv_i x2, pv_i (0 : Int32), pv_i (2 : Int32)]) (st := []) ok_X11_isIn ⟨by decide, by decide⟩ ml_X11_90 rfl (by decide) (fun v hv => by simp only [List.mem_cons, List.not_mem_nil, or_false] at hv; rcases hv with rfl | rfl | rfl <;> first | exact pv_1i | exact pv_1r) (Nat.le_of_ble_eq_true rfl) (fun _ h => h) dX11_waits_11 (rx_isIn_t RK hc) (fun r M' hq _ => ?_)
      obtain ⟨_, rfl, _, rfl, rfl, rfl⟩ := hq
      show go_W mt_X11_waits fr_R 14 [some (pv_r m), some (pv_i x1), some (pv_i x2)] [pv_i (1 : Int32)] (mm_si B I) (qi_ (fun x M' => ∃ I', M' = mm_si B I' ∧ P x I'))
      refine go_if_eq (tgt := 34) dX11_waits_14 (by decide) (fun hc => absurd hc (by decide)) (fun _ => ?_)
      refine go_aload_n dX11_waits_17 rfl ?_
      refine go_getRe (k := 0) ⟨by decide, rfl, by decide, Or.inr ⟨_, rfl⟩⟩ RK.1 (rf_r1 RK) fl_X11_7 dX11_waits_18 ?_
      refine go_iload_n dX11_waits_21 rfl ?_
      obtain ⟨n1, ⟨hn1, hn1b⟩, H⟩ := H
      refine go_St (av := [pv_i x1]) (st := [pv_r (m + 1)]) ok_X11_at ⟨by decide, by decide⟩ ml_X11_80 rfl (by decide) (fun v hv => by simp only [List.mem_cons, List.not_mem_nil, or_false] at hv; rcases hv with rfl <;> first | exact pv_1i | exact pv_1r) (Nat.le_of_ble_eq_true rfl) (fun _ h => h) dX11_waits_22 (rx_at RK hn1) (fun r M' hq _ => ?_)
      obtain ⟨_, rfl, _, rfl, rfl, rfl⟩ := hq
      show go_W mt_X11_waits fr_R 25 [some (pv_r m), some (pv_i x1), some (pv_i x2)] [pv_i (nI (10 + 10 * n1)), pv_r (m + 1)] (mm_si B I) (qi_ (fun x M' => ∃ I', M' = mm_si B I' ∧ P x I'))
      refine go_bipush (v := (7 : Int32)) rfl dX11_waits_25 ?_
      refine go_iadd dX11_waits_27 ?_
      refine go_iload_n dX11_waits_28 rfl ?_
      refine go_iadd dX11_waits_29 ?_
      obtain ⟨n2, ⟨hn2, hn2b⟩, H⟩ := H
      refine go_ialdN (j := n2) ⟨by decide, by decide, by decide⟩ (rf_k1 RK) hn2 hn2b dX11_waits_30 ?_
      refine go_goto (tgt := 35) dX11_waits_31 (by decide) ?_
      exact go_iret rfl rfl dX11_waits_35 ⟨_, rfl, _, rfl, H⟩
    · replace H := H.2 hc
      refine go_St (av := [pv_i x2, pv_i (0 : Int32), pv_i (2 : Int32)]) (st := []) ok_X11_isIn ⟨by decide, by decide⟩ ml_X11_90 rfl (by decide) (fun v hv => by simp only [List.mem_cons, List.not_mem_nil, or_false] at hv; rcases hv with rfl | rfl | rfl <;> first | exact pv_1i | exact pv_1r) (Nat.le_of_ble_eq_true rfl) (fun _ h => h) dX11_waits_11 (rx_isIn_f RK hc) (fun r M' hq _ => ?_)
      obtain ⟨_, rfl, _, rfl, rfl, rfl⟩ := hq
      show go_W mt_X11_waits fr_R 14 [some (pv_r m), some (pv_i x1), some (pv_i x2)] [pv_i (0 : Int32)] (mm_si B I) (qi_ (fun x M' => ∃ I', M' = mm_si B I' ∧ P x I'))
      refine go_if_eq (tgt := 34) dX11_waits_14 (by decide) (fun _ => ?_) (fun hc => absurd hc (by decide))
      refine go_iconst (v := (-1 : Int32)) rfl dX11_waits_34 ?_
      exact go_iret rfl rfl dX11_waits_35 ⟨_, rfl, _, rfl, H⟩
  · replace H := H.2 hc
    refine go_V (av := [pv_i x1]) (st := []) (ci := 11) ok_X11_isLane ⟨by decide, by decide⟩ ml_X11_152 rfl (by decide) (fun v hv => by simp only [List.mem_cons, List.not_mem_nil, or_false] at hv; rcases hv with rfl <;> first | exact pv_1i | exact pv_1r) (Nat.le_of_ble_eq_true rfl) (fun _ h => h) (by decide) rfl RK.1 dX11_waits_2 (rx_isLane_f RK hc) (fun r M' hq _ => ?_)
    obtain ⟨_, rfl, _, rfl, rfl, rfl⟩ := hq
    show go_W mt_X11_waits fr_R 5 [some (pv_r m), some (pv_i x1), some (pv_i x2)] [pv_i (0 : Int32)] (mm_si B I) (qi_ (fun x M' => ∃ I', M' = mm_si B I' ∧ P x I'))
    refine go_if_eq (tgt := 34) dX11_waits_5 (by decide) (fun _ => ?_) (fun hc => absurd hc (by decide))
    refine go_iconst (v := (-1 : Int32)) rfl dX11_waits_34 ?_
    exact go_iret rfl rfl dX11_waits_35 ⟨_, rfl, _, rfl, H⟩
set_option maxRecDepth 20000 in
theorem wq_X11_roomLeft_0 {B : mm_T} {I : Nat → Nat → Int32} {m : Nat} (RK : rf_ok B m) {x1 : Int32} {P : Int32 → (Nat → Nat → Int32) → Prop} (H : ∃ n1, (x1 = nI n1 ∧ n1 < 5) ∧ ((((I (m + 1) ((10 + 10 * n1) + 3) = 0) → rs_i mt_X11_standing [pv_r m, pv_i x1] B I (fun v3 I2 => rs_i mt_X11_standing [pv_r m, pv_i (-1 : Int32)] B I2 (fun v5 I4 => P (if (0 : Int32) ≤ (if ((400 : Int32) - I4 (m + 1) 1) ≤ (if (I2 (m + 1) 8 - v5) ≤ (I (m + 1) ((10 + 10 * n1) + 1) - v3) then (I2 (m + 1) 8 - v5) else (I (m + 1) ((10 + 10 * n1) + 1) - v3)) then ((400 : Int32) - I4 (m + 1) 1) else (if (I2 (m + 1) 8 - v5) ≤ (I (m + 1) ((10 + 10 * n1) + 1) - v3) then (I2 (m + 1) 8 - v5) else (I (m + 1) ((10 + 10 * n1) + 1) - v3))) then (if ((400 : Int32) - I4 (m + 1) 1) ≤ (if (I2 (m + 1) 8 - v5) ≤ (I (m + 1) ((10 + 10 * n1) + 1) - v3) then (I2 (m + 1) 8 - v5) else (I (m + 1) ((10 + 10 * n1) + 1) - v3)) then ((400 : Int32) - I4 (m + 1) 1) else (if (I2 (m + 1) 8 - v5) ≤ (I (m + 1) ((10 + 10 * n1) + 1) - v3) then (I2 (m + 1) 8 - v5) else (I (m + 1) ((10 + 10 * n1) + 1) - v3))) else (0 : Int32)) I4))) ∧ ((¬ I (m + 1) ((10 + 10 * n1) + 3) = 0) → P (0 : Int32) I)))) : rw_i mt_X11_roomLeft 0 [some (pv_r m), some (pv_i x1), none] [] B I P := by
  refine go_aload_n dX11_roomLeft_0 rfl ?_
  refine go_getRe (k := 0) ⟨by decide, rfl, by decide, Or.inr ⟨_, rfl⟩⟩ RK.1 (rf_r1 RK) fl_X11_7 dX11_roomLeft_1 ?_
  refine go_iload_n dX11_roomLeft_4 rfl ?_
  obtain ⟨n1, ⟨hn1, hn1b⟩, H⟩ := H
  refine go_St (av := [pv_i x1]) (st := [pv_r (m + 1)]) ok_X11_at ⟨by decide, by decide⟩ ml_X11_80 rfl (by decide) (fun v hv => by simp only [List.mem_cons, List.not_mem_nil, or_false] at hv; rcases hv with rfl <;> first | exact pv_1i | exact pv_1r) (Nat.le_of_ble_eq_true rfl) (fun _ h => h) dX11_roomLeft_5 (rx_at RK hn1) (fun r M' hq _ => ?_)
  obtain ⟨_, rfl, _, rfl, rfl, rfl⟩ := hq
  show go_W mt_X11_roomLeft fr_R 8 [some (pv_r m), some (pv_i x1), none] [pv_i (nI (10 + 10 * n1)), pv_r (m + 1)] (mm_si B I) (qi_ (fun x M' => ∃ I', M' = mm_si B I' ∧ P x I'))
  refine go_iconst (v := (3 : Int32)) rfl dX11_roomLeft_8 ?_
  refine go_iadd dX11_roomLeft_9 ?_
  refine go_ialdN (j := ((10 + 10 * n1) + 3)) ⟨by decide, by decide, by decide⟩ (rf_k1 RK) (nI_ae rfl rfl) (by omega) dX11_roomLeft_10 ?_
  refine go_if_eq (tgt := 16) dX11_roomLeft_11 (by decide) (fun hc => ?_) (fun hc => ?_)
  · replace H := H.1 hc
    refine go_aload_n dX11_roomLeft_16 rfl ?_
    refine go_getRe (k := 0) ⟨by decide, rfl, by decide, Or.inr ⟨_, rfl⟩⟩ RK.1 (rf_r1 RK) fl_X11_7 dX11_roomLeft_17 ?_
    refine go_iload_n dX11_roomLeft_20 rfl ?_
    refine go_St (av := [pv_i x1]) (st := [pv_r (m + 1)]) ok_X11_at ⟨by decide, by decide⟩ ml_X11_80 rfl (by decide) (fun v hv => by simp only [List.mem_cons, List.not_mem_nil, or_false] at hv; rcases hv with rfl <;> first | exact pv_1i | exact pv_1r) (Nat.le_of_ble_eq_true rfl) (fun _ h => h) dX11_roomLeft_21 (rx_at RK hn1) (fun r M' hq _ => ?_)
    obtain ⟨_, rfl, _, rfl, rfl, rfl⟩ := hq
    show go_W mt_X11_roomLeft fr_R 24 [some (pv_r m), some (pv_i x1), none] [pv_i (nI (10 + 10 * n1)), pv_r (m + 1)] (mm_si B I) (qi_ (fun x M' => ∃ I', M' = mm_si B I' ∧ P x I'))
    refine go_iconst (v := (1 : Int32)) rfl dX11_roomLeft_24 ?_
    refine go_iadd dX11_roomLeft_25 ?_
    refine go_ialdN (j := ((10 + 10 * n1) + 1)) ⟨by decide, by decide, by decide⟩ (rf_k1 RK) (nI_ae rfl rfl) (by omega) dX11_roomLeft_26 ?_
    refine go_aload_n dX11_roomLeft_27 rfl ?_
    refine go_iload_n dX11_roomLeft_28 rfl ?_
    refine go_V (av := [pv_i x1]) (st := [pv_i (I (m + 1) ((10 + 10 * n1) + 1))]) (ci := 11) ok_X11_standing ⟨by decide, by decide⟩ ml_X11_115 rfl (by decide) (fun v hv => by simp only [List.mem_cons, List.not_mem_nil, or_false] at hv; rcases hv with rfl <;> first | exact pv_1i | exact pv_1r) (Nat.le_of_ble_eq_true rfl) (fun _ h => h) (by decide) rfl RK.1 dX11_roomLeft_29 H (fun r M' hq _ => ?_)
    obtain ⟨v3, rfl, I2, rfl, H⟩ := hq
    show go_W mt_X11_roomLeft fr_R 32 [some (pv_r m), some (pv_i x1), none] [pv_i v3, pv_i (I (m + 1) ((10 + 10 * n1) + 1))] (mm_si B I2) (qi_ (fun x M' => ∃ I', M' = mm_si B I' ∧ P x I'))
    refine go_isub dX11_roomLeft_32 ?_
    refine go_aload_n dX11_roomLeft_33 rfl ?_
    refine go_getRe (k := 0) ⟨by decide, rfl, by decide, Or.inr ⟨_, rfl⟩⟩ RK.1 (rf_r1 RK) fl_X11_7 dX11_roomLeft_34 ?_
    refine go_bipush (v := (8 : Int32)) rfl dX11_roomLeft_37 ?_
    refine go_ialdN (j := 8) ⟨by decide, by decide, by decide⟩ (rf_k1 RK) rfl (by decide) dX11_roomLeft_39 ?_
    refine go_aload_n dX11_roomLeft_40 rfl ?_
    refine go_iconst (v := (-1 : Int32)) rfl dX11_roomLeft_41 ?_
    refine go_V (av := [pv_i (-1 : Int32)]) (st := [pv_i (I2 (m + 1) 8), pv_i (I (m + 1) ((10 + 10 * n1) + 1) - v3)]) (ci := 11) ok_X11_standing ⟨by decide, by decide⟩ ml_X11_115 rfl (by decide) (fun v hv => by simp only [List.mem_cons, List.not_mem_nil, or_false] at hv; rcases hv with rfl <;> first | exact pv_1i | exact pv_1r) (Nat.le_of_ble_eq_true rfl) (fun _ h => h) (by decide) rfl RK.1 dX11_roomLeft_42 H (fun r M' hq _ => ?_)
    obtain ⟨v5, rfl, I4, rfl, H⟩ := hq
    show go_W mt_X11_roomLeft fr_R 45 [some (pv_r m), some (pv_i x1), none] [pv_i v5, pv_i (I2 (m + 1) 8), pv_i (I (m + 1) ((10 + 10 * n1) + 1) - v3)] (mm_si B I4) (qi_ (fun x M' => ∃ I', M' = mm_si B I' ∧ P x I'))
    refine go_isub dX11_roomLeft_45 ?_
    refine go_St (av := [pv_i (I (m + 1) ((10 + 10 * n1) + 1) - v3), pv_i (I2 (m + 1) 8 - v5)]) (st := []) ok_X11_lesser ⟨by decide, by decide⟩ ml_X11_267 rfl (by decide) (fun v hv => by simp only [List.mem_cons, List.not_mem_nil, or_false] at hv; rcases hv with rfl | rfl <;> first | exact pv_1i | exact pv_1r) (Nat.le_of_ble_eq_true rfl) (fun _ h => h) dX11_roomLeft_46 (rx_lesser RK) (fun r M' hq _ => ?_)
    obtain ⟨_, rfl, _, rfl, rfl, rfl⟩ := hq
    show go_W mt_X11_roomLeft fr_R 49 [some (pv_r m), some (pv_i x1), none] [pv_i (if (I2 (m + 1) 8 - v5) ≤ (I (m + 1) ((10 + 10 * n1) + 1) - v3) then (I2 (m + 1) 8 - v5) else (I (m + 1) ((10 + 10 * n1) + 1) - v3))] (mm_si B I4) (qi_ (fun x M' => ∃ I', M' = mm_si B I' ∧ P x I'))
    refine go_istore_n (by decide) dX11_roomLeft_49 ?_
    show go_W mt_X11_roomLeft fr_R 50 [some (pv_r m), some (pv_i x1), some (pv_i (if (I2 (m + 1) 8 - v5) ≤ (I (m + 1) ((10 + 10 * n1) + 1) - v3) then (I2 (m + 1) 8 - v5) else (I (m + 1) ((10 + 10 * n1) + 1) - v3)))] [] (mm_si B I4) (qi_ (fun x M' => ∃ I', M' = mm_si B I' ∧ P x I'))
    refine go_iconst (v := (0 : Int32)) rfl dX11_roomLeft_50 ?_
    refine go_iload_n dX11_roomLeft_51 rfl ?_
    refine go_sipush (v := (400 : Int32)) rfl dX11_roomLeft_52 ?_
    refine go_aload_n dX11_roomLeft_55 rfl ?_
    refine go_getRe (k := 0) ⟨by decide, rfl, by decide, Or.inr ⟨_, rfl⟩⟩ RK.1 (rf_r1 RK) fl_X11_7 dX11_roomLeft_56 ?_
    refine go_iconst (v := (1 : Int32)) rfl dX11_roomLeft_59 ?_
    refine go_ialdN (j := 1) ⟨by decide, by decide, by decide⟩ (rf_k1 RK) rfl (by decide) dX11_roomLeft_60 ?_
    refine go_isub dX11_roomLeft_61 ?_
    refine go_St (av := [pv_i (if (I2 (m + 1) 8 - v5) ≤ (I (m + 1) ((10 + 10 * n1) + 1) - v3) then (I2 (m + 1) 8 - v5) else (I (m + 1) ((10 + 10 * n1) + 1) - v3)), pv_i ((400 : Int32) - I4 (m + 1) 1)]) (st := [pv_i (0 : Int32)]) ok_X11_lesser ⟨by decide, by decide⟩ ml_X11_267 rfl (by decide) (fun v hv => by simp only [List.mem_cons, List.not_mem_nil, or_false] at hv; rcases hv with rfl | rfl <;> first | exact pv_1i | exact pv_1r) (Nat.le_of_ble_eq_true rfl) (fun _ h => h) dX11_roomLeft_62 (rx_lesser RK) (fun r M' hq _ => ?_)
    obtain ⟨_, rfl, _, rfl, rfl, rfl⟩ := hq
    show go_W mt_X11_roomLeft fr_R 65 [some (pv_r m), some (pv_i x1), some (pv_i (if (I2 (m + 1) 8 - v5) ≤ (I (m + 1) ((10 + 10 * n1) + 1) - v3) then (I2 (m + 1) 8 - v5) else (I (m + 1) ((10 + 10 * n1) + 1) - v3)))] [pv_i (if ((400 : Int32) - I4 (m + 1) 1) ≤ (if (I2 (m + 1) 8 - v5) ≤ (I (m + 1) ((10 + 10 * n1) + 1) - v3) then (I2 (m + 1) 8 - v5) else (I (m + 1) ((10 + 10 * n1) + 1) - v3)) then ((400 : Int32) - I4 (m + 1) 1) else (if (I2 (m + 1) 8 - v5) ≤ (I (m + 1) ((10 + 10 * n1) + 1) - v3) then (I2 (m + 1) 8 - v5) else (I (m + 1) ((10 + 10 * n1) + 1) - v3))), pv_i (0 : Int32)] (mm_si B I4) (qi_ (fun x M' => ∃ I', M' = mm_si B I' ∧ P x I'))
    refine go_St (av := [pv_i (0 : Int32), pv_i (if ((400 : Int32) - I4 (m + 1) 1) ≤ (if (I2 (m + 1) 8 - v5) ≤ (I (m + 1) ((10 + 10 * n1) + 1) - v3) then (I2 (m + 1) 8 - v5) else (I (m + 1) ((10 + 10 * n1) + 1) - v3)) then ((400 : Int32) - I4 (m + 1) 1) else (if (I2 (m + 1) 8 - v5) ≤ (I (m + 1) ((10 + 10 * n1) + 1) - v3) then (I2 (m + 1) 8 - v5) else (I (m + 1) ((10 + 10 * n1) + 1) - v3)))]) (st := []) ok_X11_greater ⟨by decide, by decide⟩ ml_X11_118 rfl (by decide) (fun v hv => by simp only [List.mem_cons, List.not_mem_nil, or_false] at hv; rcases hv with rfl | rfl <;> first | exact pv_1i | exact pv_1r) (Nat.le_of_ble_eq_true rfl) (fun _ h => h) dX11_roomLeft_65 (rx_greater RK) (fun r M' hq _ => ?_)
    obtain ⟨_, rfl, _, rfl, rfl, rfl⟩ := hq
    show go_W mt_X11_roomLeft fr_R 68 [some (pv_r m), some (pv_i x1), some (pv_i (if (I2 (m + 1) 8 - v5) ≤ (I (m + 1) ((10 + 10 * n1) + 1) - v3) then (I2 (m + 1) 8 - v5) else (I (m + 1) ((10 + 10 * n1) + 1) - v3)))] [pv_i (if (0 : Int32) ≤ (if ((400 : Int32) - I4 (m + 1) 1) ≤ (if (I2 (m + 1) 8 - v5) ≤ (I (m + 1) ((10 + 10 * n1) + 1) - v3) then (I2 (m + 1) 8 - v5) else (I (m + 1) ((10 + 10 * n1) + 1) - v3)) then ((400 : Int32) - I4 (m + 1) 1) else (if (I2 (m + 1) 8 - v5) ≤ (I (m + 1) ((10 + 10 * n1) + 1) - v3) then (I2 (m + 1) 8 - v5) else (I (m + 1) ((10 + 10 * n1) + 1) - v3))) then (if ((400 : Int32) - I4 (m + 1) 1) ≤ (if (I2 (m + 1) 8 - v5) ≤ (I (m + 1) ((10 + 10 * n1) + 1) - v3) then (I2 (m + 1) 8 - v5) else (I (m + 1) ((10 + 10 * n1) + 1) - v3)) then ((400 : Int32) - I4 (m + 1) 1) else (if (I2 (m + 1) 8 - v5) ≤ (I (m + 1) ((10 + 10 * n1) + 1) - v3) then (I2 (m + 1) 8 - v5) else (I (m + 1) ((10 + 10 * n1) + 1) - v3))) else (0 : Int32))] (mm_si B I4) (qi_ (fun x M' => ∃ I', M' = mm_si B I' ∧ P x I'))
    exact go_iret rfl rfl dX11_roomLeft_68 ⟨_, rfl, _, rfl, H⟩
  · replace H := H.2 hc
    refine go_iconst (v := (0 : Int32)) rfl dX11_roomLeft_14 ?_
    exact go_iret rfl rfl dX11_roomLeft_15 ⟨_, rfl, _, rfl, H⟩
set_option maxRecDepth 20000 in
theorem wq_X11_partOf_0 {B : mm_T} {I : Nat → Nat → Int32} {m : Nat} (RK : rf_ok B m) {x1 x2 : Int32} {P : Int32 → (Nat → Nat → Int32) → Prop} (H : rw_i mt_X11_partOf 5 [some (pv_r m), some (pv_i x1), some (pv_i x2), some (pv_i (0 : Int32)), some (pv_i (0 : Int32))] [] B I P) : rw_i mt_X11_partOf 0 [some (pv_r m), some (pv_i x1), some (pv_i x2), none, none] [] B I P := by
  refine go_iconst (v := (0 : Int32)) rfl dX11_partOf_0 ?_
  refine go_istore_n (by decide) dX11_partOf_1 ?_
  show go_W mt_X11_partOf fr_R 2 [some (pv_r m), some (pv_i x1), some (pv_i x2), some (pv_i (0 : Int32)), none] [] (mm_si B I) (qi_ (fun x M' => ∃ I', M' = mm_si B I' ∧ P x I'))
  refine go_iconst (v := (0 : Int32)) rfl dX11_partOf_2 ?_
  refine go_istore (by decide) dX11_partOf_3 ?_
  show go_W mt_X11_partOf fr_R 5 [some (pv_r m), some (pv_i x1), some (pv_i x2), some (pv_i (0 : Int32)), some (pv_i (0 : Int32))] [] (mm_si B I) (qi_ (fun x M' => ∃ I', M' = mm_si B I' ∧ P x I'))
  exact H
set_option maxRecDepth 20000 in
theorem wq_X11_partOf_5 {B : mm_T} {I : Nat → Nat → Int32} {m : Nat} (RK : rf_ok B m) {x1 x2 x3 x4 : Int32} {P : Int32 → (Nat → Nat → Int32) → Prop} (H : ((((5 : Int32) ≤ x4) → (((¬ x3 = 0) → ∃ n1, (x1 = nI n1 ∧ n1 < 5) ∧ (∃ n2, (((nI (10 + 10 * n1)) + x2) = nI n2 ∧ n2 < 6200) ∧ (¬ x3 = 0 ∧ (P (((1000 : Int32) * I (m + 1) n2) / x3) I)))) ∧ ((x3 = 0) → P (0 : Int32) I))) ∧ ((¬ (5 : Int32) ≤ x4) → ∃ n3, (x4 = nI n3 ∧ n3 < 5) ∧ (∃ n4, (((nI (10 + 10 * n3)) + x2) = nI n4 ∧ n4 < 6200) ∧ (rw_i mt_X11_partOf 5 [some (pv_r m), some (pv_i x1), some (pv_i x2), some (pv_i (x3 + I (m + 1) n4)), some (pv_i (nI (n3 + 1)))] [] B I P))))) : rw_i mt_X11_partOf 5 [some (pv_r m), some (pv_i x1), some (pv_i x2), some (pv_i x3), some (pv_i x4)] [] B I P := by
  refine go_iload dX11_partOf_5 rfl ?_
  refine go_iconst (v := (5 : Int32)) rfl dX11_partOf_7 ?_
  refine go_icmp_ge (tgt := 32) dX11_partOf_8 (by decide) (fun hc => ?_) (fun hc => ?_)
  · replace H := H.1 hc
    refine go_iload_n dX11_partOf_32 rfl ?_
    refine go_if_ne (tgt := 40) dX11_partOf_33 (by decide) (fun hc => ?_) (fun hc => ?_)
    · replace H := H.1 hc
      refine go_sipush (v := (1000 : Int32)) rfl dX11_partOf_40 ?_
      refine go_aload_n dX11_partOf_43 rfl ?_
      refine go_getRe (k := 0) ⟨by decide, rfl, by decide, Or.inr ⟨_, rfl⟩⟩ RK.1 (rf_r1 RK) fl_X11_7 dX11_partOf_44 ?_
      refine go_iload_n dX11_partOf_47 rfl ?_
      obtain ⟨n1, ⟨hn1, hn1b⟩, H⟩ := H
      refine go_St (av := [pv_i x1]) (st := [pv_r (m + 1), pv_i (1000 : Int32)]) ok_X11_at ⟨by decide, by decide⟩ ml_X11_80 rfl (by decide) (fun v hv => by simp only [List.mem_cons, List.not_mem_nil, or_false] at hv; rcases hv with rfl <;> first | exact pv_1i | exact pv_1r) (Nat.le_of_ble_eq_true rfl) (fun _ h => h) dX11_partOf_48 (rx_at RK hn1) (fun r M' hq _ => ?_)
      obtain ⟨_, rfl, _, rfl, rfl, rfl⟩ := hq
      show go_W mt_X11_partOf fr_R 51 [some (pv_r m), some (pv_i x1), some (pv_i x2), some (pv_i x3), some (pv_i x4)] [pv_i (nI (10 + 10 * n1)), pv_r (m + 1), pv_i (1000 : Int32)] (mm_si B I) (qi_ (fun x M' => ∃ I', M' = mm_si B I' ∧ P x I'))
      refine go_iload_n dX11_partOf_51 rfl ?_
      refine go_iadd dX11_partOf_52 ?_
      obtain ⟨n2, ⟨hn2, hn2b⟩, H⟩ := H
      refine go_ialdN (j := n2) ⟨by decide, by decide, by decide⟩ (rf_k1 RK) hn2 hn2b dX11_partOf_53 ?_
      refine go_imul dX11_partOf_54 ?_
      refine go_iload_n dX11_partOf_55 rfl ?_
      refine go_idiv H.1 dX11_partOf_56 ?_
      replace H := H.2
      exact go_iret rfl rfl dX11_partOf_57 ⟨_, rfl, _, rfl, H⟩
    · replace H := H.2 hc
      refine go_iconst (v := (0 : Int32)) rfl dX11_partOf_36 ?_
      refine go_goto (tgt := 57) dX11_partOf_37 (by decide) ?_
      exact go_iret rfl rfl dX11_partOf_57 ⟨_, rfl, _, rfl, H⟩
  · replace H := H.2 hc
    refine go_iload_n dX11_partOf_11 rfl ?_
    refine go_aload_n dX11_partOf_12 rfl ?_
    refine go_getRe (k := 0) ⟨by decide, rfl, by decide, Or.inr ⟨_, rfl⟩⟩ RK.1 (rf_r1 RK) fl_X11_7 dX11_partOf_13 ?_
    refine go_iload dX11_partOf_16 rfl ?_
    obtain ⟨n3, ⟨hn3, hn3b⟩, H⟩ := H
    refine go_St (av := [pv_i x4]) (st := [pv_r (m + 1), pv_i x3]) ok_X11_at ⟨by decide, by decide⟩ ml_X11_80 rfl (by decide) (fun v hv => by simp only [List.mem_cons, List.not_mem_nil, or_false] at hv; rcases hv with rfl <;> first | exact pv_1i | exact pv_1r) (Nat.le_of_ble_eq_true rfl) (fun _ h => h) dX11_partOf_18 (rx_at RK hn3) (fun r M' hq _ => ?_)
    obtain ⟨_, rfl, _, rfl, rfl, rfl⟩ := hq
    show go_W mt_X11_partOf fr_R 21 [some (pv_r m), some (pv_i x1), some (pv_i x2), some (pv_i x3), some (pv_i x4)] [pv_i (nI (10 + 10 * n3)), pv_r (m + 1), pv_i x3] (mm_si B I) (qi_ (fun x M' => ∃ I', M' = mm_si B I' ∧ P x I'))
    refine go_iload_n dX11_partOf_21 rfl ?_
    refine go_iadd dX11_partOf_22 ?_
    obtain ⟨n4, ⟨hn4, hn4b⟩, H⟩ := H
    refine go_ialdN (j := n4) ⟨by decide, by decide, by decide⟩ (rf_k1 RK) hn4 hn4b dX11_partOf_23 ?_
    refine go_iadd dX11_partOf_24 ?_
    refine go_istore_n (by decide) dX11_partOf_25 ?_
    show go_W mt_X11_partOf fr_R 26 [some (pv_r m), some (pv_i x1), some (pv_i x2), some (pv_i (x3 + I (m + 1) n4)), some (pv_i x4)] [] (mm_si B I) (qi_ (fun x M' => ∃ I', M' = mm_si B I' ∧ P x I'))
    refine go_iincN (n := n3) (k := 1) hn3 (by decide) rfl rfl dX11_partOf_26 ?_
    show go_W mt_X11_partOf fr_R 29 [some (pv_r m), some (pv_i x1), some (pv_i x2), some (pv_i (x3 + I (m + 1) n4)), some (pv_i (nI (n3 + 1)))] [] (mm_si B I) (qi_ (fun x M' => ∃ I', M' = mm_si B I' ∧ P x I'))
    refine go_goto (tgt := 5) dX11_partOf_29 (by decide) ?_
    exact H
set_option maxRecDepth 20000 in
theorem wq_X11_eldestOf_0 {B : mm_T} {I : Nat → Nat → Int32} {m : Nat} (RK : rf_ok B m) {x1 : Int32} {P : Int32 → (Nat → Nat → Int32) → Prop} (H : rw_i mt_X11_eldestOf 4 [some (pv_r m), some (pv_i x1), some (pv_i (-1 : Int32)), some (pv_i (0 : Int32))] [] B I P) : rw_i mt_X11_eldestOf 0 [some (pv_r m), some (pv_i x1), none, none] [] B I P := by
  refine go_iconst (v := (-1 : Int32)) rfl dX11_eldestOf_0 ?_
  refine go_istore_n (by decide) dX11_eldestOf_1 ?_
  show go_W mt_X11_eldestOf fr_R 2 [some (pv_r m), some (pv_i x1), some (pv_i (-1 : Int32)), none] [] (mm_si B I) (qi_ (fun x M' => ∃ I', M' = mm_si B I' ∧ P x I'))
  refine go_iconst (v := (0 : Int32)) rfl dX11_eldestOf_2 ?_
  refine go_istore_n (by decide) dX11_eldestOf_3 ?_
  show go_W mt_X11_eldestOf fr_R 4 [some (pv_r m), some (pv_i x1), some (pv_i (-1 : Int32)), some (pv_i (0 : Int32))] [] (mm_si B I) (qi_ (fun x M' => ∃ I', M' = mm_si B I' ∧ P x I'))
  exact H
set_option maxRecDepth 20000 in
theorem wq_X11_eldestOf_4 {B : mm_T} {I : Nat → Nat → Int32} {m : Nat} (RK : rf_ok B m) {x1 x2 x3 : Int32} {P : Int32 → (Nat → Nat → Int32) → Prop} (H : (((I (m + 1) 1 ≤ x3) → P x2 I) ∧ ((¬ I (m + 1) 1 ≤ x3) → ∃ n1, (x3 = nI n1 ∧ n1 < 400) ∧ ((((¬ I (m + 1) (200 + 14 * n1 + 0) = x1) → rw_i mt_X11_eldestOf 4 [some (pv_r m), some (pv_i x1), some (pv_i x2), some (pv_i (nI (n1 + 1)))] [] B I P) ∧ ((I (m + 1) (200 + 14 * n1 + 0) = x1) → (((¬ I (m + 1) (200 + 14 * n1 + 6) = 0) → rw_i mt_X11_eldestOf 4 [some (pv_r m), some (pv_i x1), some (pv_i x2), some (pv_i (nI (n1 + 1)))] [] B I P) ∧ ((I (m + 1) (200 + 14 * n1 + 6) = 0) → (((x2 = (-1 : Int32)) → rw_i mt_X11_eldestOf 4 [some (pv_r m), some (pv_i x1), some (pv_i x3), some (pv_i (nI (n1 + 1)))] [] B I P) ∧ ((¬ x2 = (-1 : Int32)) → ∃ n2, (x2 = nI n2 ∧ n2 < 400) ∧ ((((I (m + 1) (200 + 14 * n2 + 5) ≤ I (m + 1) (200 + 14 * n1 + 5)) → rw_i mt_X11_eldestOf 4 [some (pv_r m), some (pv_i x1), some (pv_i x2), some (pv_i (nI (n1 + 1)))] [] B I P) ∧ ((¬ I (m + 1) (200 + 14 * n2 + 5) ≤ I (m + 1) (200 + 14 * n1 + 5)) → rw_i mt_X11_eldestOf 4 [some (pv_r m), some (pv_i x1), some (pv_i x3), some (pv_i (nI (n1 + 1)))] [] B I P))))))))))))) : rw_i mt_X11_eldestOf 4 [some (pv_r m), some (pv_i x1), some (pv_i x2), some (pv_i x3)] [] B I P := by
  refine go_iload_n dX11_eldestOf_4 rfl ?_
  refine go_aload_n dX11_eldestOf_5 rfl ?_
  refine go_getRe (k := 0) ⟨by decide, rfl, by decide, Or.inr ⟨_, rfl⟩⟩ RK.1 (rf_r1 RK) fl_X11_7 dX11_eldestOf_6 ?_
  refine go_iconst (v := (1 : Int32)) rfl dX11_eldestOf_9 ?_
  refine go_ialdN (j := 1) ⟨by decide, by decide, by decide⟩ (rf_k1 RK) rfl (by decide) dX11_eldestOf_10 ?_
  refine go_icmp_ge (tgt := 62) dX11_eldestOf_11 (by decide) (fun hc => ?_) (fun hc => ?_)
  · replace H := H.1 hc
    refine go_iload_n dX11_eldestOf_62 rfl ?_
    exact go_iret rfl rfl dX11_eldestOf_63 ⟨_, rfl, _, rfl, H⟩
  · replace H := H.2 hc
    refine go_aload_n dX11_eldestOf_14 rfl ?_
    refine go_iload_n dX11_eldestOf_15 rfl ?_
    refine go_iconst (v := (0 : Int32)) rfl dX11_eldestOf_16 ?_
    obtain ⟨n1, ⟨hn1, hn1b⟩, H⟩ := H
    refine go_V (av := [pv_i x3, pv_i (0 : Int32)]) (st := []) (ci := 11) ok_X11_of ⟨by decide, by decide⟩ ml_X11_94 rfl (by decide) (fun v hv => by simp only [List.mem_cons, List.not_mem_nil, or_false] at hv; rcases hv with rfl | rfl <;> first | exact pv_1i | exact pv_1r) (Nat.le_of_ble_eq_true rfl) (fun _ h => h) (by decide) rfl RK.1 dX11_eldestOf_17 (rx_of RK hn1 rfl hn1b (by decide)) (fun r M' hq _ => ?_)
    obtain ⟨_, rfl, _, rfl, rfl, rfl⟩ := hq
    show go_W mt_X11_eldestOf fr_R 20 [some (pv_r m), some (pv_i x1), some (pv_i x2), some (pv_i x3)] [pv_i (I (m + 1) (200 + 14 * n1 + 0))] (mm_si B I) (qi_ (fun x M' => ∃ I', M' = mm_si B I' ∧ P x I'))
    refine go_iload_n dX11_eldestOf_20 rfl ?_
    refine go_icmp_ne (tgt := 56) dX11_eldestOf_21 (by decide) (fun hc => ?_) (fun hc => ?_)
    · replace H := H.1 hc
      refine go_iincN (n := n1) (k := 1) hn1 (by decide) rfl rfl dX11_eldestOf_56 ?_
      show go_W mt_X11_eldestOf fr_R 59 [some (pv_r m), some (pv_i x1), some (pv_i x2), some (pv_i (nI (n1 + 1)))] [] (mm_si B I) (qi_ (fun x M' => ∃ I', M' = mm_si B I' ∧ P x I'))
      refine go_goto (tgt := 4) dX11_eldestOf_59 (by decide) ?_
      exact H
    · replace H := H.2 hc
      refine go_aload_n dX11_eldestOf_24 rfl ?_
      refine go_iload_n dX11_eldestOf_25 rfl ?_
      refine go_bipush (v := (6 : Int32)) rfl dX11_eldestOf_26 ?_
      refine go_V (av := [pv_i x3, pv_i (6 : Int32)]) (st := []) (ci := 11) ok_X11_of ⟨by decide, by decide⟩ ml_X11_94 rfl (by decide) (fun v hv => by simp only [List.mem_cons, List.not_mem_nil, or_false] at hv; rcases hv with rfl | rfl <;> first | exact pv_1i | exact pv_1r) (Nat.le_of_ble_eq_true rfl) (fun _ h => h) (by decide) rfl RK.1 dX11_eldestOf_28 (rx_of RK hn1 rfl (by omega) (by decide)) (fun r M' hq _ => ?_)
      obtain ⟨_, rfl, _, rfl, rfl, rfl⟩ := hq
      show go_W mt_X11_eldestOf fr_R 31 [some (pv_r m), some (pv_i x1), some (pv_i x2), some (pv_i x3)] [pv_i (I (m + 1) (200 + 14 * n1 + 6))] (mm_si B I) (qi_ (fun x M' => ∃ I', M' = mm_si B I' ∧ P x I'))
      refine go_if_ne (tgt := 56) dX11_eldestOf_31 (by decide) (fun hc => ?_) (fun hc => ?_)
      · replace H := H.1 hc
        refine go_iincN (n := n1) (k := 1) hn1 (by decide) rfl rfl dX11_eldestOf_56 ?_
        show go_W mt_X11_eldestOf fr_R 59 [some (pv_r m), some (pv_i x1), some (pv_i x2), some (pv_i (nI (n1 + 1)))] [] (mm_si B I) (qi_ (fun x M' => ∃ I', M' = mm_si B I' ∧ P x I'))
        refine go_goto (tgt := 4) dX11_eldestOf_59 (by decide) ?_
        exact H
      · replace H := H.2 hc
        refine go_iload_n dX11_eldestOf_34 rfl ?_
        refine go_iconst (v := (-1 : Int32)) rfl dX11_eldestOf_35 ?_
        refine go_icmp_eq (tgt := 54) dX11_eldestOf_36 (by decide) (fun hc => ?_) (fun hc => ?_)
        · replace H := H.1 hc
          refine go_iload_n dX11_eldestOf_54 rfl ?_
          refine go_istore_n (by decide) dX11_eldestOf_55 ?_
          show go_W mt_X11_eldestOf fr_R 56 [some (pv_r m), some (pv_i x1), some (pv_i x3), some (pv_i x3)] [] (mm_si B I) (qi_ (fun x M' => ∃ I', M' = mm_si B I' ∧ P x I'))
          refine go_iincN (n := n1) (k := 1) hn1 (by decide) rfl rfl dX11_eldestOf_56 ?_
          show go_W mt_X11_eldestOf fr_R 59 [some (pv_r m), some (pv_i x1), some (pv_i x3), some (pv_i (nI (n1 + 1)))] [] (mm_si B I) (qi_ (fun x M' => ∃ I', M' = mm_si B I' ∧ P x I'))
          refine go_goto (tgt := 4) dX11_eldestOf_59 (by decide) ?_
          exact H
        · replace H := H.2 hc
          refine go_aload_n dX11_eldestOf_39 rfl ?_
          refine go_iload_n dX11_eldestOf_40 rfl ?_
          refine go_iconst (v := (5 : Int32)) rfl dX11_eldestOf_41 ?_
          refine go_V (av := [pv_i x3, pv_i (5 : Int32)]) (st := []) (ci := 11) ok_X11_of ⟨by decide, by decide⟩ ml_X11_94 rfl (by decide) (fun v hv => by simp only [List.mem_cons, List.not_mem_nil, or_false] at hv; rcases hv with rfl | rfl <;> first | exact pv_1i | exact pv_1r) (Nat.le_of_ble_eq_true rfl) (fun _ h => h) (by decide) rfl RK.1 dX11_eldestOf_42 (rx_of RK hn1 rfl (by omega) (by decide)) (fun r M' hq _ => ?_)
          obtain ⟨_, rfl, _, rfl, rfl, rfl⟩ := hq
          show go_W mt_X11_eldestOf fr_R 45 [some (pv_r m), some (pv_i x1), some (pv_i x2), some (pv_i x3)] [pv_i (I (m + 1) (200 + 14 * n1 + 5))] (mm_si B I) (qi_ (fun x M' => ∃ I', M' = mm_si B I' ∧ P x I'))
          refine go_aload_n dX11_eldestOf_45 rfl ?_
          refine go_iload_n dX11_eldestOf_46 rfl ?_
          refine go_iconst (v := (5 : Int32)) rfl dX11_eldestOf_47 ?_
          obtain ⟨n2, ⟨hn2, hn2b⟩, H⟩ := H
          refine go_V (av := [pv_i x2, pv_i (5 : Int32)]) (st := [pv_i (I (m + 1) (200 + 14 * n1 + 5))]) (ci := 11) ok_X11_of ⟨by decide, by decide⟩ ml_X11_94 rfl (by decide) (fun v hv => by simp only [List.mem_cons, List.not_mem_nil, or_false] at hv; rcases hv with rfl | rfl <;> first | exact pv_1i | exact pv_1r) (Nat.le_of_ble_eq_true rfl) (fun _ h => h) (by decide) rfl RK.1 dX11_eldestOf_48 (rx_of RK hn2 rfl hn2b (by decide)) (fun r M' hq _ => ?_)
          obtain ⟨_, rfl, _, rfl, rfl, rfl⟩ := hq
          show go_W mt_X11_eldestOf fr_R 51 [some (pv_r m), some (pv_i x1), some (pv_i x2), some (pv_i x3)] [pv_i (I (m + 1) (200 + 14 * n2 + 5)), pv_i (I (m + 1) (200 + 14 * n1 + 5))] (mm_si B I) (qi_ (fun x M' => ∃ I', M' = mm_si B I' ∧ P x I'))
          refine go_icmp_ge (tgt := 56) dX11_eldestOf_51 (by decide) (fun hc => ?_) (fun hc => ?_)
          · replace H := H.1 hc
            refine go_iincN (n := n1) (k := 1) hn1 (by decide) rfl rfl dX11_eldestOf_56 ?_
            show go_W mt_X11_eldestOf fr_R 59 [some (pv_r m), some (pv_i x1), some (pv_i x2), some (pv_i (nI (n1 + 1)))] [] (mm_si B I) (qi_ (fun x M' => ∃ I', M' = mm_si B I' ∧ P x I'))
            refine go_goto (tgt := 4) dX11_eldestOf_59 (by decide) ?_
            exact H
          · replace H := H.2 hc
            refine go_iload_n dX11_eldestOf_54 rfl ?_
            refine go_istore_n (by decide) dX11_eldestOf_55 ?_
            show go_W mt_X11_eldestOf fr_R 56 [some (pv_r m), some (pv_i x1), some (pv_i x3), some (pv_i x3)] [] (mm_si B I) (qi_ (fun x M' => ∃ I', M' = mm_si B I' ∧ P x I'))
            refine go_iincN (n := n1) (k := 1) hn1 (by decide) rfl rfl dX11_eldestOf_56 ?_
            show go_W mt_X11_eldestOf fr_R 59 [some (pv_r m), some (pv_i x1), some (pv_i x3), some (pv_i (nI (n1 + 1)))] [] (mm_si B I) (qi_ (fun x M' => ∃ I', M' = mm_si B I' ∧ P x I'))
            refine go_goto (tgt := 4) dX11_eldestOf_59 (by decide) ?_
            exact H
set_option maxRecDepth 20000 in
theorem wq_X11_sizesOf_0 {B : mm_T} {I : Nat → Nat → Int32} {m : Nat} (RK : rf_ok B m) {x1 : Int32} {P : Int32 → (Nat → Nat → Int32) → Prop} (H : rw_i mt_X11_sizesOf 4 [some (pv_r m), some (pv_i x1), some (pv_i (0 : Int32)), some (pv_i (0 : Int32))] [] B I P) : rw_i mt_X11_sizesOf 0 [some (pv_r m), some (pv_i x1), none, none] [] B I P := by
  refine go_iconst (v := (0 : Int32)) rfl dX11_sizesOf_0 ?_
  refine go_istore_n (by decide) dX11_sizesOf_1 ?_
  show go_W mt_X11_sizesOf fr_R 2 [some (pv_r m), some (pv_i x1), some (pv_i (0 : Int32)), none] [] (mm_si B I) (qi_ (fun x M' => ∃ I', M' = mm_si B I' ∧ P x I'))
  refine go_iconst (v := (0 : Int32)) rfl dX11_sizesOf_2 ?_
  refine go_istore_n (by decide) dX11_sizesOf_3 ?_
  show go_W mt_X11_sizesOf fr_R 4 [some (pv_r m), some (pv_i x1), some (pv_i (0 : Int32)), some (pv_i (0 : Int32))] [] (mm_si B I) (qi_ (fun x M' => ∃ I', M' = mm_si B I' ∧ P x I'))
  exact H
set_option maxRecDepth 20000 in
theorem wq_X11_sizesOf_4 {B : mm_T} {I : Nat → Nat → Int32} {m : Nat} (RK : rf_ok B m) {x1 x2 x3 : Int32} {P : Int32 → (Nat → Nat → Int32) → Prop} (H : (((I (m + 1) 1 ≤ x3) → P x2 I) ∧ ((¬ I (m + 1) 1 ≤ x3) → ∃ n1, (x3 = nI n1 ∧ n1 < 400) ∧ ((((¬ I (m + 1) (200 + 14 * n1 + 0) = x1) → rw_i mt_X11_sizesOf 4 [some (pv_r m), some (pv_i x1), some (pv_i (x2 + (0 : Int32))), some (pv_i (nI (n1 + 1)))] [] B I P) ∧ ((I (m + 1) (200 + 14 * n1 + 0) = x1) → (((¬ I (m + 1) (200 + 14 * n1 + 6) = 0) → rw_i mt_X11_sizesOf 4 [some (pv_r m), some (pv_i x1), some (pv_i (x2 + (0 : Int32))), some (pv_i (nI (n1 + 1)))] [] B I P) ∧ ((I (m + 1) (200 + 14 * n1 + 6) = 0) → rw_i mt_X11_sizesOf 4 [some (pv_r m), some (pv_i x1), some (pv_i (x2 + I (m + 1) (200 + 14 * n1 + 2))), some (pv_i (nI (n1 + 1)))] [] B I P)))))))) : rw_i mt_X11_sizesOf 4 [some (pv_r m), some (pv_i x1), some (pv_i x2), some (pv_i x3)] [] B I P := by
  refine go_iload_n dX11_sizesOf_4 rfl ?_
  refine go_aload_n dX11_sizesOf_5 rfl ?_
  refine go_getRe (k := 0) ⟨by decide, rfl, by decide, Or.inr ⟨_, rfl⟩⟩ RK.1 (rf_r1 RK) fl_X11_7 dX11_sizesOf_6 ?_
  refine go_iconst (v := (1 : Int32)) rfl dX11_sizesOf_9 ?_
  refine go_ialdN (j := 1) ⟨by decide, by decide, by decide⟩ (rf_k1 RK) rfl (by decide) dX11_sizesOf_10 ?_
  refine go_icmp_ge (tgt := 53) dX11_sizesOf_11 (by decide) (fun hc => ?_) (fun hc => ?_)
  · replace H := H.1 hc
    refine go_iload_n dX11_sizesOf_53 rfl ?_
    exact go_iret rfl rfl dX11_sizesOf_54 ⟨_, rfl, _, rfl, H⟩
  · replace H := H.2 hc
    refine go_iload_n dX11_sizesOf_14 rfl ?_
    refine go_aload_n dX11_sizesOf_15 rfl ?_
    refine go_iload_n dX11_sizesOf_16 rfl ?_
    refine go_iconst (v := (0 : Int32)) rfl dX11_sizesOf_17 ?_
    obtain ⟨n1, ⟨hn1, hn1b⟩, H⟩ := H
    refine go_V (av := [pv_i x3, pv_i (0 : Int32)]) (st := [pv_i x2]) (ci := 11) ok_X11_of ⟨by decide, by decide⟩ ml_X11_94 rfl (by decide) (fun v hv => by simp only [List.mem_cons, List.not_mem_nil, or_false] at hv; rcases hv with rfl | rfl <;> first | exact pv_1i | exact pv_1r) (Nat.le_of_ble_eq_true rfl) (fun _ h => h) (by decide) rfl RK.1 dX11_sizesOf_18 (rx_of RK hn1 rfl hn1b (by decide)) (fun r M' hq _ => ?_)
    obtain ⟨_, rfl, _, rfl, rfl, rfl⟩ := hq
    show go_W mt_X11_sizesOf fr_R 21 [some (pv_r m), some (pv_i x1), some (pv_i x2), some (pv_i x3)] [pv_i (I (m + 1) (200 + 14 * n1 + 0)), pv_i x2] (mm_si B I) (qi_ (fun x M' => ∃ I', M' = mm_si B I' ∧ P x I'))
    refine go_iload_n dX11_sizesOf_21 rfl ?_
    refine go_icmp_ne (tgt := 44) dX11_sizesOf_22 (by decide) (fun hc => ?_) (fun hc => ?_)
    · replace H := H.1 hc
      refine go_iconst (v := (0 : Int32)) rfl dX11_sizesOf_44 ?_
      refine go_iadd dX11_sizesOf_45 ?_
      refine go_istore_n (by decide) dX11_sizesOf_46 ?_
      show go_W mt_X11_sizesOf fr_R 47 [some (pv_r m), some (pv_i x1), some (pv_i (x2 + (0 : Int32))), some (pv_i x3)] [] (mm_si B I) (qi_ (fun x M' => ∃ I', M' = mm_si B I' ∧ P x I'))
      refine go_iincN (n := n1) (k := 1) hn1 (by decide) rfl rfl dX11_sizesOf_47 ?_
      show go_W mt_X11_sizesOf fr_R 50 [some (pv_r m), some (pv_i x1), some (pv_i (x2 + (0 : Int32))), some (pv_i (nI (n1 + 1)))] [] (mm_si B I) (qi_ (fun x M' => ∃ I', M' = mm_si B I' ∧ P x I'))
      refine go_goto (tgt := 4) dX11_sizesOf_50 (by decide) ?_
      exact H
    · replace H := H.2 hc
      refine go_aload_n dX11_sizesOf_25 rfl ?_
      refine go_iload_n dX11_sizesOf_26 rfl ?_
      refine go_bipush (v := (6 : Int32)) rfl dX11_sizesOf_27 ?_
      refine go_V (av := [pv_i x3, pv_i (6 : Int32)]) (st := [pv_i x2]) (ci := 11) ok_X11_of ⟨by decide, by decide⟩ ml_X11_94 rfl (by decide) (fun v hv => by simp only [List.mem_cons, List.not_mem_nil, or_false] at hv; rcases hv with rfl | rfl <;> first | exact pv_1i | exact pv_1r) (Nat.le_of_ble_eq_true rfl) (fun _ h => h) (by decide) rfl RK.1 dX11_sizesOf_29 (rx_of RK hn1 rfl (by omega) (by decide)) (fun r M' hq _ => ?_)
      obtain ⟨_, rfl, _, rfl, rfl, rfl⟩ := hq
      show go_W mt_X11_sizesOf fr_R 32 [some (pv_r m), some (pv_i x1), some (pv_i x2), some (pv_i x3)] [pv_i (I (m + 1) (200 + 14 * n1 + 6)), pv_i x2] (mm_si B I) (qi_ (fun x M' => ∃ I', M' = mm_si B I' ∧ P x I'))
      refine go_if_ne (tgt := 44) dX11_sizesOf_32 (by decide) (fun hc => ?_) (fun hc => ?_)
      · replace H := H.1 hc
        refine go_iconst (v := (0 : Int32)) rfl dX11_sizesOf_44 ?_
        refine go_iadd dX11_sizesOf_45 ?_
        refine go_istore_n (by decide) dX11_sizesOf_46 ?_
        show go_W mt_X11_sizesOf fr_R 47 [some (pv_r m), some (pv_i x1), some (pv_i (x2 + (0 : Int32))), some (pv_i x3)] [] (mm_si B I) (qi_ (fun x M' => ∃ I', M' = mm_si B I' ∧ P x I'))
        refine go_iincN (n := n1) (k := 1) hn1 (by decide) rfl rfl dX11_sizesOf_47 ?_
        show go_W mt_X11_sizesOf fr_R 50 [some (pv_r m), some (pv_i x1), some (pv_i (x2 + (0 : Int32))), some (pv_i (nI (n1 + 1)))] [] (mm_si B I) (qi_ (fun x M' => ∃ I', M' = mm_si B I' ∧ P x I'))
        refine go_goto (tgt := 4) dX11_sizesOf_50 (by decide) ?_
        exact H
      · replace H := H.2 hc
        refine go_aload_n dX11_sizesOf_35 rfl ?_
        refine go_iload_n dX11_sizesOf_36 rfl ?_
        refine go_iconst (v := (2 : Int32)) rfl dX11_sizesOf_37 ?_
        refine go_V (av := [pv_i x3, pv_i (2 : Int32)]) (st := [pv_i x2]) (ci := 11) ok_X11_of ⟨by decide, by decide⟩ ml_X11_94 rfl (by decide) (fun v hv => by simp only [List.mem_cons, List.not_mem_nil, or_false] at hv; rcases hv with rfl | rfl <;> first | exact pv_1i | exact pv_1r) (Nat.le_of_ble_eq_true rfl) (fun _ h => h) (by decide) rfl RK.1 dX11_sizesOf_38 (rx_of RK hn1 rfl (by omega) (by decide)) (fun r M' hq _ => ?_)
        obtain ⟨_, rfl, _, rfl, rfl, rfl⟩ := hq
        show go_W mt_X11_sizesOf fr_R 41 [some (pv_r m), some (pv_i x1), some (pv_i x2), some (pv_i x3)] [pv_i (I (m + 1) (200 + 14 * n1 + 2)), pv_i x2] (mm_si B I) (qi_ (fun x M' => ∃ I', M' = mm_si B I' ∧ P x I'))
        refine go_goto (tgt := 45) dX11_sizesOf_41 (by decide) ?_
        refine go_iadd dX11_sizesOf_45 ?_
        refine go_istore_n (by decide) dX11_sizesOf_46 ?_
        show go_W mt_X11_sizesOf fr_R 47 [some (pv_r m), some (pv_i x1), some (pv_i (x2 + I (m + 1) (200 + 14 * n1 + 2))), some (pv_i x3)] [] (mm_si B I) (qi_ (fun x M' => ∃ I', M' = mm_si B I' ∧ P x I'))
        refine go_iincN (n := n1) (k := 1) hn1 (by decide) rfl rfl dX11_sizesOf_47 ?_
        show go_W mt_X11_sizesOf fr_R 50 [some (pv_r m), some (pv_i x1), some (pv_i (x2 + I (m + 1) (200 + 14 * n1 + 2))), some (pv_i (nI (n1 + 1)))] [] (mm_si B I) (qi_ (fun x M' => ∃ I', M' = mm_si B I' ∧ P x I'))
        refine go_goto (tgt := 4) dX11_sizesOf_50 (by decide) ?_
        exact H
set_option maxRecDepth 20000 in
theorem wq_X11_share_0 {B : mm_T} {I : Nat → Nat → Int32} {m : Nat} (RK : rf_ok B m) {x1 x2 : Int32} {P : Int32 → (Nat → Nat → Int32) → Prop} (H : ((((0 ≤ x1 ∧ x1 ≤ 4)) → ((x2 = (0 : Int32)) → rs_i mt_X11_partOf [pv_r m, pv_i x1, pv_i (5 : Int32)] B I (fun v2 I1 => P v2 I1)) ∧ ((x2 = (1 : Int32)) → rs_i mt_X11_partOf [pv_r m, pv_i x1, pv_i (0 : Int32)] B I (fun v4 I3 => P v4 I3)) ∧ ((x2 = (2 : Int32)) → rs_i mt_X11_roomLeft [pv_r m, pv_i x1] B I (fun v6 I5 => P v6 I5)) ∧ ((x2 = (3 : Int32)) → rs_i mt_X11_eldestOf [pv_r m, pv_i x1] B I (fun v8 I7 => P v8 I7)) ∧ ((x2 = (4 : Int32)) → rs_i mt_X11_sizesOf [pv_r m, pv_i x1] B I (fun v10 I9 => P v10 I9)) ∧ ((¬ x2 = (0 : Int32) ∧ ¬ x2 = (1 : Int32) ∧ ¬ x2 = (2 : Int32) ∧ ¬ x2 = (3 : Int32) ∧ ¬ x2 = (4 : Int32)) → P (-1 : Int32) I)) ∧ ((¬ (0 ≤ x1 ∧ x1 ≤ 4)) → P (-1 : Int32) I))) : rw_i mt_X11_share 0 [some (pv_r m), some (pv_i x1), some (pv_i x2)] [] B I P := by
  refine go_aload_n dX11_share_0 rfl ?_
  refine go_iload_n dX11_share_1 rfl ?_
  by_cases hc : (0 ≤ x1 ∧ x1 ≤ 4)
  · replace H := H.1 hc
    refine go_V (av := [pv_i x1]) (st := []) (ci := 11) ok_X11_isLane ⟨by decide, by decide⟩ ml_X11_152 rfl (by decide) (fun v hv => by simp only [List.mem_cons, List.not_mem_nil, or_false] at hv; rcases hv with rfl <;> first | exact pv_1i | exact pv_1r) (Nat.le_of_ble_eq_true rfl) (fun _ h => h) (by decide) rfl RK.1 dX11_share_2 (rx_isLane_t RK hc) (fun r M' hq _ => ?_)
    obtain ⟨_, rfl, _, rfl, rfl, rfl⟩ := hq
    show go_W mt_X11_share fr_R 5 [some (pv_r m), some (pv_i x1), some (pv_i x2)] [pv_i (1 : Int32)] (mm_si B I) (qi_ (fun x M' => ∃ I', M' = mm_si B I' ∧ P x I'))
    refine go_if_ne (tgt := 10) dX11_share_5 (by decide) (fun _ => ?_) (fun hc => absurd hc (by decide))
    refine go_iload_n dX11_share_10 rfl ?_
    by_cases hc0 : x2 = (0 : Int32)
    · replace H := H.1 hc0
      refine go_tabIn (v := (0 : Int32)) (tgt := 44) hc0 (by decide) (by decide) rfl (by decide) dX11_share_11 ?_
      refine go_aload_n dX11_share_44 rfl ?_
      refine go_iload_n dX11_share_45 rfl ?_
      refine go_iconst (v := (5 : Int32)) rfl dX11_share_46 ?_
      refine go_V (av := [pv_i x1, pv_i (5 : Int32)]) (st := []) (ci := 11) ok_X11_partOf ⟨by decide, by decide⟩ ml_X11_270 rfl (by decide) (fun v hv => by simp only [List.mem_cons, List.not_mem_nil, or_false] at hv; rcases hv with rfl | rfl <;> first | exact pv_1i | exact pv_1r) (Nat.le_of_ble_eq_true rfl) (fun _ h => h) (by decide) rfl RK.1 dX11_share_47 H (fun r M' hq _ => ?_)
      obtain ⟨v2, rfl, I1, rfl, H⟩ := hq
      show go_W mt_X11_share fr_R 50 [some (pv_r m), some (pv_i x1), some (pv_i x2)] [pv_i v2] (mm_si B I1) (qi_ (fun x M' => ∃ I', M' = mm_si B I' ∧ P x I'))
      exact go_iret rfl rfl dX11_share_50 ⟨_, rfl, _, rfl, H⟩
    replace H := H.2
    by_cases hc1 : x2 = (1 : Int32)
    · replace H := H.1 hc1
      refine go_tabIn (v := (1 : Int32)) (tgt := 51) hc1 (by decide) (by decide) rfl (by decide) dX11_share_11 ?_
      refine go_aload_n dX11_share_51 rfl ?_
      refine go_iload_n dX11_share_52 rfl ?_
      refine go_iconst (v := (0 : Int32)) rfl dX11_share_53 ?_
      refine go_V (av := [pv_i x1, pv_i (0 : Int32)]) (st := []) (ci := 11) ok_X11_partOf ⟨by decide, by decide⟩ ml_X11_270 rfl (by decide) (fun v hv => by simp only [List.mem_cons, List.not_mem_nil, or_false] at hv; rcases hv with rfl | rfl <;> first | exact pv_1i | exact pv_1r) (Nat.le_of_ble_eq_true rfl) (fun _ h => h) (by decide) rfl RK.1 dX11_share_54 H (fun r M' hq _ => ?_)
      obtain ⟨v4, rfl, I3, rfl, H⟩ := hq
      show go_W mt_X11_share fr_R 57 [some (pv_r m), some (pv_i x1), some (pv_i x2)] [pv_i v4] (mm_si B I3) (qi_ (fun x M' => ∃ I', M' = mm_si B I' ∧ P x I'))
      exact go_iret rfl rfl dX11_share_57 ⟨_, rfl, _, rfl, H⟩
    replace H := H.2
    by_cases hc2 : x2 = (2 : Int32)
    · replace H := H.1 hc2
      refine go_tabIn (v := (2 : Int32)) (tgt := 58) hc2 (by decide) (by decide) rfl (by decide) dX11_share_11 ?_
      refine go_aload_n dX11_share_58 rfl ?_
      refine go_iload_n dX11_share_59 rfl ?_
      refine go_V (av := [pv_i x1]) (st := []) (ci := 11) ok_X11_roomLeft ⟨by decide, by decide⟩ ml_X11_273 rfl (by decide) (fun v hv => by simp only [List.mem_cons, List.not_mem_nil, or_false] at hv; rcases hv with rfl <;> first | exact pv_1i | exact pv_1r) (Nat.le_of_ble_eq_true rfl) (fun _ h => h) (by decide) rfl RK.1 dX11_share_60 H (fun r M' hq _ => ?_)
      obtain ⟨v6, rfl, I5, rfl, H⟩ := hq
      show go_W mt_X11_share fr_R 63 [some (pv_r m), some (pv_i x1), some (pv_i x2)] [pv_i v6] (mm_si B I5) (qi_ (fun x M' => ∃ I', M' = mm_si B I' ∧ P x I'))
      exact go_iret rfl rfl dX11_share_63 ⟨_, rfl, _, rfl, H⟩
    replace H := H.2
    by_cases hc3 : x2 = (3 : Int32)
    · replace H := H.1 hc3
      refine go_tabIn (v := (3 : Int32)) (tgt := 64) hc3 (by decide) (by decide) rfl (by decide) dX11_share_11 ?_
      refine go_aload_n dX11_share_64 rfl ?_
      refine go_iload_n dX11_share_65 rfl ?_
      refine go_V (av := [pv_i x1]) (st := []) (ci := 11) ok_X11_eldestOf ⟨by decide, by decide⟩ ml_X11_276 rfl (by decide) (fun v hv => by simp only [List.mem_cons, List.not_mem_nil, or_false] at hv; rcases hv with rfl <;> first | exact pv_1i | exact pv_1r) (Nat.le_of_ble_eq_true rfl) (fun _ h => h) (by decide) rfl RK.1 dX11_share_66 H (fun r M' hq _ => ?_)
      obtain ⟨v8, rfl, I7, rfl, H⟩ := hq
      show go_W mt_X11_share fr_R 69 [some (pv_r m), some (pv_i x1), some (pv_i x2)] [pv_i v8] (mm_si B I7) (qi_ (fun x M' => ∃ I', M' = mm_si B I' ∧ P x I'))
      exact go_iret rfl rfl dX11_share_69 ⟨_, rfl, _, rfl, H⟩
    replace H := H.2
    by_cases hc4 : x2 = (4 : Int32)
    · replace H := H.1 hc4
      refine go_tabIn (v := (4 : Int32)) (tgt := 70) hc4 (by decide) (by decide) rfl (by decide) dX11_share_11 ?_
      refine go_aload_n dX11_share_70 rfl ?_
      refine go_iload_n dX11_share_71 rfl ?_
      refine go_V (av := [pv_i x1]) (st := []) (ci := 11) ok_X11_sizesOf ⟨by decide, by decide⟩ ml_X11_279 rfl (by decide) (fun v hv => by simp only [List.mem_cons, List.not_mem_nil, or_false] at hv; rcases hv with rfl <;> first | exact pv_1i | exact pv_1r) (Nat.le_of_ble_eq_true rfl) (fun _ h => h) (by decide) rfl RK.1 dX11_share_72 H (fun r M' hq _ => ?_)
      obtain ⟨v10, rfl, I9, rfl, H⟩ := hq
      show go_W mt_X11_share fr_R 75 [some (pv_r m), some (pv_i x1), some (pv_i x2)] [pv_i v10] (mm_si B I9) (qi_ (fun x M' => ∃ I', M' = mm_si B I' ∧ P x I'))
      exact go_iret rfl rfl dX11_share_75 ⟨_, rfl, _, rfl, H⟩
    replace H := H.2
    replace H := H ⟨hc0, hc1, hc2, hc3, hc4⟩
    have he0 : (x2).toInt ≠ 0 := fun h => hc0 (Int32.toInt_inj.mp (h.trans (by decide)))
    have he1 : (x2).toInt ≠ 1 := fun h => hc1 (Int32.toInt_inj.mp (h.trans (by decide)))
    have he2 : (x2).toInt ≠ 2 := fun h => hc2 (Int32.toInt_inj.mp (h.trans (by decide)))
    have he3 : (x2).toInt ≠ 3 := fun h => hc3 (Int32.toInt_inj.mp (h.trans (by decide)))
    have he4 : (x2).toInt ≠ 4 := fun h => hc4 (Int32.toInt_inj.mp (h.trans (by decide)))
    refine go_tabOut (tgt := 76) (by omega) (by decide) dX11_share_11 ?_
    refine go_iconst (v := (-1 : Int32)) rfl dX11_share_76 ?_
    exact go_iret rfl rfl dX11_share_77 ⟨_, rfl, _, rfl, H⟩
  · replace H := H.2 hc
    refine go_V (av := [pv_i x1]) (st := []) (ci := 11) ok_X11_isLane ⟨by decide, by decide⟩ ml_X11_152 rfl (by decide) (fun v hv => by simp only [List.mem_cons, List.not_mem_nil, or_false] at hv; rcases hv with rfl <;> first | exact pv_1i | exact pv_1r) (Nat.le_of_ble_eq_true rfl) (fun _ h => h) (by decide) rfl RK.1 dX11_share_2 (rx_isLane_f RK hc) (fun r M' hq _ => ?_)
    obtain ⟨_, rfl, _, rfl, rfl, rfl⟩ := hq
    show go_W mt_X11_share fr_R 5 [some (pv_r m), some (pv_i x1), some (pv_i x2)] [pv_i (0 : Int32)] (mm_si B I) (qi_ (fun x M' => ∃ I', M' = mm_si B I' ∧ P x I'))
    refine go_if_ne (tgt := 10) dX11_share_5 (by decide) (fun hc => absurd hc (by decide)) (fun _ => ?_)
    refine go_iconst (v := (-1 : Int32)) rfl dX11_share_8 ?_
    exact go_iret rfl rfl dX11_share_9 ⟨_, rfl, _, rfl, H⟩
set_option maxRecDepth 20000 in
theorem wq_X11_path_0 {B : mm_T} {I : Nat → Nat → Int32} {m : Nat} (RK : rf_ok B m) {x1 x2 : Int32} {P : Int32 → (Nat → Nat → Int32) → Prop} (H : ((((0 ≤ x1 ∧ x1 ≤ I (m + 1) 1 - 1)) → (((0 ≤ x2) → rw_i mt_X11_path 19 [some (pv_r m), some (pv_i x1), some (pv_i x2), some (pv_i x1), some (pv_i (0 : Int32))] [] B I P) ∧ ((¬ 0 ≤ x2) → P (-1 : Int32) I))) ∧ ((¬ (0 ≤ x1 ∧ x1 ≤ I (m + 1) 1 - 1)) → P (-1 : Int32) I))) : rw_i mt_X11_path 0 [some (pv_r m), some (pv_i x1), some (pv_i x2), none, none] [] B I P := by
  refine go_aload_n dX11_path_0 rfl ?_
  refine go_iload_n dX11_path_1 rfl ?_
  by_cases hc : (0 ≤ x1 ∧ x1 ≤ I (m + 1) 1 - 1)
  · replace H := H.1 hc
    refine go_V (av := [pv_i x1]) (st := []) (ci := 11) ok_X11_isTask ⟨by decide, by decide⟩ ml_X11_161 rfl (by decide) (fun v hv => by simp only [List.mem_cons, List.not_mem_nil, or_false] at hv; rcases hv with rfl <;> first | exact pv_1i | exact pv_1r) (Nat.le_of_ble_eq_true rfl) (fun _ h => h) (by decide) rfl RK.1 dX11_path_2 (rx_isTask_t RK hc) (fun r M' hq _ => ?_)
    obtain ⟨_, rfl, _, rfl, rfl, rfl⟩ := hq
    show go_W mt_X11_path fr_R 5 [some (pv_r m), some (pv_i x1), some (pv_i x2), none, none] [pv_i (1 : Int32)] (mm_si B I) (qi_ (fun x M' => ∃ I', M' = mm_si B I' ∧ P x I'))
    refine go_if_eq (tgt := 12) dX11_path_5 (by decide) (fun hc => absurd hc (by decide)) (fun _ => ?_)
    refine go_iload_n dX11_path_8 rfl ?_
    refine go_if_ge (tgt := 14) dX11_path_9 (by decide) (fun hc => ?_) (fun hc => ?_)
    · replace H := H.1 hc
      refine go_iload_n dX11_path_14 rfl ?_
      refine go_istore_n (by decide) dX11_path_15 ?_
      show go_W mt_X11_path fr_R 16 [some (pv_r m), some (pv_i x1), some (pv_i x2), some (pv_i x1), none] [] (mm_si B I) (qi_ (fun x M' => ∃ I', M' = mm_si B I' ∧ P x I'))
      refine go_iconst (v := (0 : Int32)) rfl dX11_path_16 ?_
      refine go_istore (by decide) dX11_path_17 ?_
      show go_W mt_X11_path fr_R 19 [some (pv_r m), some (pv_i x1), some (pv_i x2), some (pv_i x1), some (pv_i (0 : Int32))] [] (mm_si B I) (qi_ (fun x M' => ∃ I', M' = mm_si B I' ∧ P x I'))
      exact H
    · replace H := H.2 hc
      refine go_iconst (v := (-1 : Int32)) rfl dX11_path_12 ?_
      exact go_iret rfl rfl dX11_path_13 ⟨_, rfl, _, rfl, H⟩
  · replace H := H.2 hc
    refine go_V (av := [pv_i x1]) (st := []) (ci := 11) ok_X11_isTask ⟨by decide, by decide⟩ ml_X11_161 rfl (by decide) (fun v hv => by simp only [List.mem_cons, List.not_mem_nil, or_false] at hv; rcases hv with rfl <;> first | exact pv_1i | exact pv_1r) (Nat.le_of_ble_eq_true rfl) (fun _ h => h) (by decide) rfl RK.1 dX11_path_2 (rx_isTask_f RK hc) (fun r M' hq _ => ?_)
    obtain ⟨_, rfl, _, rfl, rfl, rfl⟩ := hq
    show go_W mt_X11_path fr_R 5 [some (pv_r m), some (pv_i x1), some (pv_i x2), none, none] [pv_i (0 : Int32)] (mm_si B I) (qi_ (fun x M' => ∃ I', M' = mm_si B I' ∧ P x I'))
    refine go_if_eq (tgt := 12) dX11_path_5 (by decide) (fun _ => ?_) (fun hc => absurd hc (by decide))
    refine go_iconst (v := (-1 : Int32)) rfl dX11_path_12 ?_
    exact go_iret rfl rfl dX11_path_13 ⟨_, rfl, _, rfl, H⟩
set_option maxRecDepth 20000 in
theorem wq_X11_path_19 {B : mm_T} {I : Nat → Nat → Int32} {m : Nat} (RK : rf_ok B m) {x1 x2 x3 x4 : Int32} {P : Int32 → (Nat → Nat → Int32) → Prop} (H : (((x2 ≤ x4) → P x3 I) ∧ ((¬ x2 ≤ x4) → (((x3 = (-1 : Int32)) → P x3 I) ∧ ((¬ x3 = (-1 : Int32)) → ∃ n1, (x3 = nI n1 ∧ n1 < 400) ∧ (rw_i mt_X11_path 19 [some (pv_r m), some (pv_i x1), some (pv_i x2), some (pv_i (I (m + 1) (200 + 14 * n1 + 4))), some (pv_i (x4 + (1 : Int32)))] [] B I P)))))) : rw_i mt_X11_path 19 [some (pv_r m), some (pv_i x1), some (pv_i x2), some (pv_i x3), some (pv_i x4)] [] B I P := by
  refine go_iload dX11_path_19 rfl ?_
  refine go_iload_n dX11_path_21 rfl ?_
  refine go_icmp_ge (tgt := 43) dX11_path_22 (by decide) (fun hc => ?_) (fun hc => ?_)
  · replace H := H.1 hc
    refine go_iload_n dX11_path_43 rfl ?_
    exact go_iret rfl rfl dX11_path_44 ⟨_, rfl, _, rfl, H⟩
  · replace H := H.2 hc
    refine go_iload_n dX11_path_25 rfl ?_
    refine go_iconst (v := (-1 : Int32)) rfl dX11_path_26 ?_
    refine go_icmp_eq (tgt := 43) dX11_path_27 (by decide) (fun hc => ?_) (fun hc => ?_)
    · replace H := H.1 hc
      refine go_iload_n dX11_path_43 rfl ?_
      exact go_iret rfl rfl dX11_path_44 ⟨_, rfl, _, rfl, H⟩
    · replace H := H.2 hc
      refine go_aload_n dX11_path_30 rfl ?_
      refine go_iload_n dX11_path_31 rfl ?_
      refine go_iconst (v := (4 : Int32)) rfl dX11_path_32 ?_
      obtain ⟨n1, ⟨hn1, hn1b⟩, H⟩ := H
      refine go_V (av := [pv_i x3, pv_i (4 : Int32)]) (st := []) (ci := 11) ok_X11_of ⟨by decide, by decide⟩ ml_X11_94 rfl (by decide) (fun v hv => by simp only [List.mem_cons, List.not_mem_nil, or_false] at hv; rcases hv with rfl | rfl <;> first | exact pv_1i | exact pv_1r) (Nat.le_of_ble_eq_true rfl) (fun _ h => h) (by decide) rfl RK.1 dX11_path_33 (rx_of RK hn1 rfl hn1b (by decide)) (fun r M' hq _ => ?_)
      obtain ⟨_, rfl, _, rfl, rfl, rfl⟩ := hq
      show go_W mt_X11_path fr_R 36 [some (pv_r m), some (pv_i x1), some (pv_i x2), some (pv_i x3), some (pv_i x4)] [pv_i (I (m + 1) (200 + 14 * n1 + 4))] (mm_si B I) (qi_ (fun x M' => ∃ I', M' = mm_si B I' ∧ P x I'))
      refine go_istore_n (by decide) dX11_path_36 ?_
      show go_W mt_X11_path fr_R 37 [some (pv_r m), some (pv_i x1), some (pv_i x2), some (pv_i (I (m + 1) (200 + 14 * n1 + 4))), some (pv_i x4)] [] (mm_si B I) (qi_ (fun x M' => ∃ I', M' = mm_si B I' ∧ P x I'))
      refine go_iinc (v := (1 : Int32)) (by decide) rfl rfl dX11_path_37 ?_
      show go_W mt_X11_path fr_R 40 [some (pv_r m), some (pv_i x1), some (pv_i x2), some (pv_i (I (m + 1) (200 + 14 * n1 + 4))), some (pv_i (x4 + (1 : Int32)))] [] (mm_si B I) (qi_ (fun x M' => ∃ I', M' = mm_si B I' ∧ P x I'))
      refine go_goto (tgt := 19) dX11_path_40 (by decide) ?_
      exact H
set_option maxRecDepth 20000 in
theorem wq_X11_takenOn_0 {B : mm_T} {I : Nat → Nat → Int32} {m : Nat} (RK : rf_ok B m) {x1 x2 : Int32} {P : Int32 → (Nat → Nat → Int32) → Prop} (H : rs_i mt_X11_theLane [pv_r m, pv_i (0 : Int32)] B I (fun v2 I1 => rw_i mt_X11_takenOn 9 [some (pv_r m), some (pv_i x1), some (pv_i x2), some (pv_i (0 : Int32)), some (pv_i v2), none] [] B I1 P)) : rw_i mt_X11_takenOn 0 [some (pv_r m), some (pv_i x1), some (pv_i x2), none, none, none] [] B I P := by
  refine go_iconst (v := (0 : Int32)) rfl dX11_takenOn_0 ?_
  refine go_istore_n (by decide) dX11_takenOn_1 ?_
  show go_W mt_X11_takenOn fr_R 2 [some (pv_r m), some (pv_i x1), some (pv_i x2), some (pv_i (0 : Int32)), none, none] [] (mm_si B I) (qi_ (fun x M' => ∃ I', M' = mm_si B I' ∧ P x I'))
  refine go_aload_n dX11_takenOn_2 rfl ?_
  refine go_iconst (v := (0 : Int32)) rfl dX11_takenOn_3 ?_
  refine go_V (av := [pv_i (0 : Int32)]) (st := []) (ci := 11) ok_X11_theLane ⟨by decide, by decide⟩ ml_X11_202 rfl (by decide) (fun v hv => by simp only [List.mem_cons, List.not_mem_nil, or_false] at hv; rcases hv with rfl <;> first | exact pv_1i | exact pv_1r) (Nat.le_of_ble_eq_true rfl) (fun _ h => h) (by decide) rfl RK.1 dX11_takenOn_4 H (fun r M' hq _ => ?_)
  obtain ⟨v2, rfl, I1, rfl, H⟩ := hq
  show go_W mt_X11_takenOn fr_R 7 [some (pv_r m), some (pv_i x1), some (pv_i x2), some (pv_i (0 : Int32)), none, none] [pv_i v2] (mm_si B I1) (qi_ (fun x M' => ∃ I', M' = mm_si B I' ∧ P x I'))
  refine go_istore (by decide) dX11_takenOn_7 ?_
  show go_W mt_X11_takenOn fr_R 9 [some (pv_r m), some (pv_i x1), some (pv_i x2), some (pv_i (0 : Int32)), some (pv_i v2), none] [] (mm_si B I1) (qi_ (fun x M' => ∃ I', M' = mm_si B I' ∧ P x I'))
  exact H
set_option maxRecDepth 20000 in
theorem wq_X11_takenOn_9 {B : mm_T} {I : Nat → Nat → Int32} {m : Nat} (RK : rf_ok B m) {x1 x2 x3 x4 : Int32} {P : Int32 → (Nat → Nat → Int32) → Prop} (H : (((x4 = (-1 : Int32)) → P (-1 : Int32) I) ∧ ((¬ x4 = (-1 : Int32)) → rs_i mt_X11_firstOf [pv_r m, pv_i x4] B I (fun v2 I1 => (((¬ v2 = x2) → (((¬ x3 = x1) → rs_v mt_X11_passes [pv_r m, pv_i v2] B I1 (fun I3 => ∃ n4, (v2 = nI n4 ∧ n4 < 400) ∧ (∀ I5, I5 = i2_u I3 (m + 1) (200 + 14 * n4 + 6) (3 : Int32) → rs_i mt_X11_theLane [pv_r m, pv_i (0 : Int32)] B I5 (fun v7 I6 => rw_i mt_X11_takenOn 9 [some (pv_r m), some (pv_i x1), some (pv_i x2), some (pv_i (x3 + (1 : Int32))), some (pv_i v7), none] [] B I6 P)))) ∧ ((x3 = x1) → P v2 I1))) ∧ ((v2 = x2) → P x3 I1)))))) : rw_i mt_X11_takenOn 9 [some (pv_r m), some (pv_i x1), some (pv_i x2), some (pv_i x3), some (pv_i x4), none] [] B I P := by
  refine go_iload dX11_takenOn_9 rfl ?_
  refine go_iconst (v := (-1 : Int32)) rfl dX11_takenOn_11 ?_
  refine go_icmp_eq (tgt := 67) dX11_takenOn_12 (by decide) (fun hc => ?_) (fun hc => ?_)
  · replace H := H.1 hc
    refine go_iconst (v := (-1 : Int32)) rfl dX11_takenOn_67 ?_
    exact go_iret rfl rfl dX11_takenOn_68 ⟨_, rfl, _, rfl, H⟩
  · replace H := H.2 hc
    refine go_aload_n dX11_takenOn_15 rfl ?_
    refine go_iload dX11_takenOn_16 rfl ?_
    refine go_V (av := [pv_i x4]) (st := []) (ci := 11) ok_X11_firstOf ⟨by decide, by decide⟩ ml_X11_206 rfl (by decide) (fun v hv => by simp only [List.mem_cons, List.not_mem_nil, or_false] at hv; rcases hv with rfl <;> first | exact pv_1i | exact pv_1r) (Nat.le_of_ble_eq_true rfl) (fun _ h => h) (by decide) rfl RK.1 dX11_takenOn_18 H (fun r M' hq _ => ?_)
    obtain ⟨v2, rfl, I1, rfl, H⟩ := hq
    show go_W mt_X11_takenOn fr_R 21 [some (pv_r m), some (pv_i x1), some (pv_i x2), some (pv_i x3), some (pv_i x4), none] [pv_i v2] (mm_si B I1) (qi_ (fun x M' => ∃ I', M' = mm_si B I' ∧ P x I'))
    refine go_istore (by decide) dX11_takenOn_21 ?_
    show go_W mt_X11_takenOn fr_R 23 [some (pv_r m), some (pv_i x1), some (pv_i x2), some (pv_i x3), some (pv_i x4), some (pv_i v2)] [] (mm_si B I1) (qi_ (fun x M' => ∃ I', M' = mm_si B I' ∧ P x I'))
    refine go_iload dX11_takenOn_23 rfl ?_
    refine go_iload_n dX11_takenOn_25 rfl ?_
    refine go_icmp_ne (tgt := 31) dX11_takenOn_26 (by decide) (fun hc => ?_) (fun hc => ?_)
    · replace H := H.1 hc
      refine go_iload_n dX11_takenOn_31 rfl ?_
      refine go_iload_n dX11_takenOn_32 rfl ?_
      refine go_icmp_ne (tgt := 39) dX11_takenOn_33 (by decide) (fun hc => ?_) (fun hc => ?_)
      · replace H := H.1 hc
        refine go_aload_n dX11_takenOn_39 rfl ?_
        refine go_iload dX11_takenOn_40 rfl ?_
        refine go_V (av := [pv_i v2]) (st := []) (ci := 11) ok_X11_passes ⟨by decide, by decide⟩ ml_X11_180 rfl (by decide) (fun v hv => by simp only [List.mem_cons, List.not_mem_nil, or_false] at hv; rcases hv with rfl <;> first | exact pv_1i | exact pv_1r) (Nat.le_of_ble_eq_true rfl) (fun _ h => h) (by decide) rfl RK.1 dX11_takenOn_42 H (fun r M' hq _ => ?_)
        obtain ⟨rfl, I3, rfl, H⟩ := hq
        show go_W mt_X11_takenOn fr_R 45 [some (pv_r m), some (pv_i x1), some (pv_i x2), some (pv_i x3), some (pv_i x4), some (pv_i v2)] [] (mm_si B I3) (qi_ (fun x M' => ∃ I', M' = mm_si B I' ∧ P x I'))
        refine go_aload_n dX11_takenOn_45 rfl ?_
        refine go_iload dX11_takenOn_46 rfl ?_
        refine go_bipush (v := (6 : Int32)) rfl dX11_takenOn_48 ?_
        refine go_iconst (v := (3 : Int32)) rfl dX11_takenOn_50 ?_
        obtain ⟨n4, ⟨hn4, hn4b⟩, H⟩ := H
        refine go_V (av := [pv_i v2, pv_i (6 : Int32), pv_i (3 : Int32)]) (st := []) (ci := 11) ok_X11_is ⟨by decide, by decide⟩ ml_X11_121 rfl (by decide) (fun v hv => by simp only [List.mem_cons, List.not_mem_nil, or_false] at hv; rcases hv with rfl | rfl | rfl <;> first | exact pv_1i | exact pv_1r) (Nat.le_of_ble_eq_true rfl) (fun _ h => h) (by decide) rfl RK.1 dX11_takenOn_51 (rx_is RK hn4 rfl hn4b (by decide)) (fun r M' hq _ => ?_)
        obtain ⟨rfl, _, rfl, rfl⟩ := hq
        show go_W mt_X11_takenOn fr_R 54 [some (pv_r m), some (pv_i x1), some (pv_i x2), some (pv_i x3), some (pv_i x4), some (pv_i v2)] [] (mm_si B (i2_u I3 (m + 1) (200 + 14 * n4 + 6) (3 : Int32))) (qi_ (fun x M' => ∃ I', M' = mm_si B I' ∧ P x I'))
        obtain ⟨I5, hI5⟩ : ∃ I', I' = i2_u I3 (m + 1) (200 + 14 * n4 + 6) (3 : Int32) := ⟨_, rfl⟩
        rw [← hI5]
        replace H := H I5 hI5
        refine go_iinc (v := (1 : Int32)) (by decide) rfl rfl dX11_takenOn_54 ?_
        show go_W mt_X11_takenOn fr_R 57 [some (pv_r m), some (pv_i x1), some (pv_i x2), some (pv_i (x3 + (1 : Int32))), some (pv_i x4), some (pv_i v2)] [] (mm_si B I5) (qi_ (fun x M' => ∃ I', M' = mm_si B I' ∧ P x I'))
        refine go_aload_n dX11_takenOn_57 rfl ?_
        refine go_iconst (v := (0 : Int32)) rfl dX11_takenOn_58 ?_
        refine go_V (av := [pv_i (0 : Int32)]) (st := []) (ci := 11) ok_X11_theLane ⟨by decide, by decide⟩ ml_X11_202 rfl (by decide) (fun v hv => by simp only [List.mem_cons, List.not_mem_nil, or_false] at hv; rcases hv with rfl <;> first | exact pv_1i | exact pv_1r) (Nat.le_of_ble_eq_true rfl) (fun _ h => h) (by decide) rfl RK.1 dX11_takenOn_59 H (fun r M' hq _ => ?_)
        obtain ⟨v7, rfl, I6, rfl, H⟩ := hq
        show go_W mt_X11_takenOn fr_R 62 [some (pv_r m), some (pv_i x1), some (pv_i x2), some (pv_i (x3 + (1 : Int32))), some (pv_i x4), some (pv_i v2)] [pv_i v7] (mm_si B I6) (qi_ (fun x M' => ∃ I', M' = mm_si B I' ∧ P x I'))
        refine go_istore (by decide) dX11_takenOn_62 ?_
        show go_W mt_X11_takenOn fr_R 64 [some (pv_r m), some (pv_i x1), some (pv_i x2), some (pv_i (x3 + (1 : Int32))), some (pv_i v7), some (pv_i v2)] [] (mm_si B I6) (qi_ (fun x M' => ∃ I', M' = mm_si B I' ∧ P x I'))
        refine go_goto (tgt := 9) dX11_takenOn_64 (by decide) ?_
        exact go_fg (ls' := [some (pv_r m), some (pv_i x1), some (pv_i x2), some (pv_i (x3 + (1 : Int32))), some (pv_i v7), none]) ⟨rfl, ⟨rfl, ⟨rfl, ⟨rfl, ⟨rfl, trivial⟩⟩⟩⟩⟩ H
      · replace H := H.2 hc
        refine go_iload dX11_takenOn_36 rfl ?_
        exact go_iret rfl rfl dX11_takenOn_38 ⟨_, rfl, _, rfl, H⟩
    · replace H := H.2 hc
      refine go_iload_n dX11_takenOn_29 rfl ?_
      exact go_iret rfl rfl dX11_takenOn_30 ⟨_, rfl, _, rfl, H⟩
set_option maxRecDepth 20000 in
theorem wq_X11_ahead_0 {B : mm_T} {I : Nat → Nat → Int32} {m : Nat} (RK : rf_ok B m) {x1 : Int32} {P : Int32 → (Nat → Nat → Int32) → Prop} (H : (((0 ≤ x1) → rs_v mt_X11_begins [pv_r m] B I (fun I1 => rs_i mt_X11_takenOn [pv_r m, pv_i x1, pv_i (-1 : Int32)] B I1 (fun v3 I2 => rs_v mt_X11_ends [pv_r m] B I2 (fun I4 => P v3 I4)))) ∧ ((¬ 0 ≤ x1) → P (-1 : Int32) I))) : rw_i mt_X11_ahead 0 [some (pv_r m), some (pv_i x1), none] [] B I P := by
  refine go_iload_n dX11_ahead_0 rfl ?_
  refine go_if_ge (tgt := 6) dX11_ahead_1 (by decide) (fun hc => ?_) (fun hc => ?_)
  · replace H := H.1 hc
    refine go_aload_n dX11_ahead_6 rfl ?_
    refine go_V (av := []) (st := []) (ci := 11) ok_X11_begins ⟨by decide, by decide⟩ ml_X11_282 rfl (by decide) (fun v hv => absurd hv List.not_mem_nil) (Nat.le_of_ble_eq_true rfl) (fun _ h => h) (by decide) rfl RK.1 dX11_ahead_7 H (fun r M' hq _ => ?_)
    obtain ⟨rfl, I1, rfl, H⟩ := hq
    show go_W mt_X11_ahead fr_R 10 [some (pv_r m), some (pv_i x1), none] [] (mm_si B I1) (qi_ (fun x M' => ∃ I', M' = mm_si B I' ∧ P x I'))
    refine go_aload_n dX11_ahead_10 rfl ?_
    refine go_iload_n dX11_ahead_11 rfl ?_
    refine go_iconst (v := (-1 : Int32)) rfl dX11_ahead_12 ?_
    refine go_V (av := [pv_i x1, pv_i (-1 : Int32)]) (st := []) (ci := 11) ok_X11_takenOn ⟨by decide, by decide⟩ ml_X11_285 rfl (by decide) (fun v hv => by simp only [List.mem_cons, List.not_mem_nil, or_false] at hv; rcases hv with rfl | rfl <;> first | exact pv_1i | exact pv_1r) (Nat.le_of_ble_eq_true rfl) (fun _ h => h) (by decide) rfl RK.1 dX11_ahead_13 H (fun r M' hq _ => ?_)
    obtain ⟨v3, rfl, I2, rfl, H⟩ := hq
    show go_W mt_X11_ahead fr_R 16 [some (pv_r m), some (pv_i x1), none] [pv_i v3] (mm_si B I2) (qi_ (fun x M' => ∃ I', M' = mm_si B I' ∧ P x I'))
    refine go_istore_n (by decide) dX11_ahead_16 ?_
    show go_W mt_X11_ahead fr_R 17 [some (pv_r m), some (pv_i x1), some (pv_i v3)] [] (mm_si B I2) (qi_ (fun x M' => ∃ I', M' = mm_si B I' ∧ P x I'))
    refine go_aload_n dX11_ahead_17 rfl ?_
    refine go_V (av := []) (st := []) (ci := 11) ok_X11_ends ⟨by decide, by decide⟩ ml_X11_288 rfl (by decide) (fun v hv => absurd hv List.not_mem_nil) (Nat.le_of_ble_eq_true rfl) (fun _ h => h) (by decide) rfl RK.1 dX11_ahead_18 H (fun r M' hq _ => ?_)
    obtain ⟨rfl, I4, rfl, H⟩ := hq
    show go_W mt_X11_ahead fr_R 21 [some (pv_r m), some (pv_i x1), some (pv_i v3)] [] (mm_si B I4) (qi_ (fun x M' => ∃ I', M' = mm_si B I' ∧ P x I'))
    refine go_iload_n dX11_ahead_21 rfl ?_
    exact go_iret rfl rfl dX11_ahead_22 ⟨_, rfl, _, rfl, H⟩
  · replace H := H.2 hc
    refine go_iconst (v := (-1 : Int32)) rfl dX11_ahead_4 ?_
    exact go_iret rfl rfl dX11_ahead_5 ⟨_, rfl, _, rfl, H⟩
set_option maxRecDepth 20000 in
theorem wq_X11_doesWait_0 {B : mm_T} {I : Nat → Nat → Int32} {m : Nat} (RK : rf_ok B m) {x1 : Int32} {P : Int32 → (Nat → Nat → Int32) → Prop} (H : ((((0 ≤ x1 ∧ x1 ≤ I (m + 1) 1 - 1)) → ∃ n1, (x1 = nI n1 ∧ n1 < 400) ∧ ((((¬ I (m + 1) (200 + 14 * n1 + 6) = 0) → P (0 : Int32) I) ∧ ((I (m + 1) (200 + 14 * n1 + 6) = 0) → P (1 : Int32) I)))) ∧ ((¬ (0 ≤ x1 ∧ x1 ≤ I (m + 1) 1 - 1)) → P (0 : Int32) I))) : rw_i mt_X11_doesWait 0 [some (pv_r m), some (pv_i x1)] [] B I P := by
  refine go_aload_n dX11_doesWait_0 rfl ?_
  refine go_iload_n dX11_doesWait_1 rfl ?_
  by_cases hc : (0 ≤ x1 ∧ x1 ≤ I (m + 1) 1 - 1)
  · replace H := H.1 hc
    refine go_V (av := [pv_i x1]) (st := []) (ci := 11) ok_X11_isTask ⟨by decide, by decide⟩ ml_X11_161 rfl (by decide) (fun v hv => by simp only [List.mem_cons, List.not_mem_nil, or_false] at hv; rcases hv with rfl <;> first | exact pv_1i | exact pv_1r) (Nat.le_of_ble_eq_true rfl) (fun _ h => h) (by decide) rfl RK.1 dX11_doesWait_2 (rx_isTask_t RK hc) (fun r M' hq _ => ?_)
    obtain ⟨_, rfl, _, rfl, rfl, rfl⟩ := hq
    show go_W mt_X11_doesWait fr_R 5 [some (pv_r m), some (pv_i x1)] [pv_i (1 : Int32)] (mm_si B I) (qi_ (fun x M' => ∃ I', M' = mm_si B I' ∧ P x I'))
    refine go_if_eq (tgt := 22) dX11_doesWait_5 (by decide) (fun hc => absurd hc (by decide)) (fun _ => ?_)
    refine go_aload_n dX11_doesWait_8 rfl ?_
    refine go_iload_n dX11_doesWait_9 rfl ?_
    refine go_bipush (v := (6 : Int32)) rfl dX11_doesWait_10 ?_
    obtain ⟨n1, ⟨hn1, hn1b⟩, H⟩ := H
    refine go_V (av := [pv_i x1, pv_i (6 : Int32)]) (st := []) (ci := 11) ok_X11_of ⟨by decide, by decide⟩ ml_X11_94 rfl (by decide) (fun v hv => by simp only [List.mem_cons, List.not_mem_nil, or_false] at hv; rcases hv with rfl | rfl <;> first | exact pv_1i | exact pv_1r) (Nat.le_of_ble_eq_true rfl) (fun _ h => h) (by decide) rfl RK.1 dX11_doesWait_12 (rx_of RK hn1 rfl hn1b (by decide)) (fun r M' hq _ => ?_)
    obtain ⟨_, rfl, _, rfl, rfl, rfl⟩ := hq
    show go_W mt_X11_doesWait fr_R 15 [some (pv_r m), some (pv_i x1)] [pv_i (I (m + 1) (200 + 14 * n1 + 6))] (mm_si B I) (qi_ (fun x M' => ∃ I', M' = mm_si B I' ∧ P x I'))
    refine go_if_ne (tgt := 22) dX11_doesWait_15 (by decide) (fun hc => ?_) (fun hc => ?_)
    · replace H := H.1 hc
      refine go_iconst (v := (0 : Int32)) rfl dX11_doesWait_22 ?_
      exact go_iret rfl rfl dX11_doesWait_23 ⟨_, rfl, _, rfl, H⟩
    · replace H := H.2 hc
      refine go_iconst (v := (1 : Int32)) rfl dX11_doesWait_18 ?_
      refine go_goto (tgt := 23) dX11_doesWait_19 (by decide) ?_
      exact go_iret rfl rfl dX11_doesWait_23 ⟨_, rfl, _, rfl, H⟩
  · replace H := H.2 hc
    refine go_V (av := [pv_i x1]) (st := []) (ci := 11) ok_X11_isTask ⟨by decide, by decide⟩ ml_X11_161 rfl (by decide) (fun v hv => by simp only [List.mem_cons, List.not_mem_nil, or_false] at hv; rcases hv with rfl <;> first | exact pv_1i | exact pv_1r) (Nat.le_of_ble_eq_true rfl) (fun _ h => h) (by decide) rfl RK.1 dX11_doesWait_2 (rx_isTask_f RK hc) (fun r M' hq _ => ?_)
    obtain ⟨_, rfl, _, rfl, rfl, rfl⟩ := hq
    show go_W mt_X11_doesWait fr_R 5 [some (pv_r m), some (pv_i x1)] [pv_i (0 : Int32)] (mm_si B I) (qi_ (fun x M' => ∃ I', M' = mm_si B I' ∧ P x I'))
    refine go_if_eq (tgt := 22) dX11_doesWait_5 (by decide) (fun _ => ?_) (fun hc => absurd hc (by decide))
    refine go_iconst (v := (0 : Int32)) rfl dX11_doesWait_22 ?_
    exact go_iret rfl rfl dX11_doesWait_23 ⟨_, rfl, _, rfl, H⟩
set_option maxRecDepth 20000 in
theorem wq_X11_turnOf_0 {B : mm_T} {I : Nat → Nat → Int32} {m : Nat} (RK : rf_ok B m) {x1 : Int32} {P : Int32 → (Nat → Nat → Int32) → Prop} (H : rs_i mt_X11_doesWait [pv_r m, pv_i x1] B I (fun v2 I1 => (((¬ v2 = 0) → rs_v mt_X11_begins [pv_r m] B I1 (fun I3 => rs_i mt_X11_takenOn [pv_r m, pv_i (-1 : Int32), pv_i x1] B I3 (fun v5 I4 => rs_v mt_X11_ends [pv_r m] B I4 (fun I6 => P v5 I6)))) ∧ ((v2 = 0) → P (-1 : Int32) I1)))) : rw_i mt_X11_turnOf 0 [some (pv_r m), some (pv_i x1), none] [] B I P := by
  refine go_aload_n dX11_turnOf_0 rfl ?_
  refine go_iload_n dX11_turnOf_1 rfl ?_
  refine go_V (av := [pv_i x1]) (st := []) (ci := 11) ok_X11_doesWait ⟨by decide, by decide⟩ ml_X11_291 rfl (by decide) (fun v hv => by simp only [List.mem_cons, List.not_mem_nil, or_false] at hv; rcases hv with rfl <;> first | exact pv_1i | exact pv_1r) (Nat.le_of_ble_eq_true rfl) (fun _ h => h) (by decide) rfl RK.1 dX11_turnOf_2 H (fun r M' hq _ => ?_)
  obtain ⟨v2, rfl, I1, rfl, H⟩ := hq
  show go_W mt_X11_turnOf fr_R 5 [some (pv_r m), some (pv_i x1), none] [pv_i v2] (mm_si B I1) (qi_ (fun x M' => ∃ I', M' = mm_si B I' ∧ P x I'))
  refine go_if_ne (tgt := 10) dX11_turnOf_5 (by decide) (fun hc => ?_) (fun hc => ?_)
  · replace H := H.1 hc
    refine go_aload_n dX11_turnOf_10 rfl ?_
    refine go_V (av := []) (st := []) (ci := 11) ok_X11_begins ⟨by decide, by decide⟩ ml_X11_282 rfl (by decide) (fun v hv => absurd hv List.not_mem_nil) (Nat.le_of_ble_eq_true rfl) (fun _ h => h) (by decide) rfl RK.1 dX11_turnOf_11 H (fun r M' hq _ => ?_)
    obtain ⟨rfl, I3, rfl, H⟩ := hq
    show go_W mt_X11_turnOf fr_R 14 [some (pv_r m), some (pv_i x1), none] [] (mm_si B I3) (qi_ (fun x M' => ∃ I', M' = mm_si B I' ∧ P x I'))
    refine go_aload_n dX11_turnOf_14 rfl ?_
    refine go_iconst (v := (-1 : Int32)) rfl dX11_turnOf_15 ?_
    refine go_iload_n dX11_turnOf_16 rfl ?_
    refine go_V (av := [pv_i (-1 : Int32), pv_i x1]) (st := []) (ci := 11) ok_X11_takenOn ⟨by decide, by decide⟩ ml_X11_285 rfl (by decide) (fun v hv => by simp only [List.mem_cons, List.not_mem_nil, or_false] at hv; rcases hv with rfl | rfl <;> first | exact pv_1i | exact pv_1r) (Nat.le_of_ble_eq_true rfl) (fun _ h => h) (by decide) rfl RK.1 dX11_turnOf_17 H (fun r M' hq _ => ?_)
    obtain ⟨v5, rfl, I4, rfl, H⟩ := hq
    show go_W mt_X11_turnOf fr_R 20 [some (pv_r m), some (pv_i x1), none] [pv_i v5] (mm_si B I4) (qi_ (fun x M' => ∃ I', M' = mm_si B I' ∧ P x I'))
    refine go_istore_n (by decide) dX11_turnOf_20 ?_
    show go_W mt_X11_turnOf fr_R 21 [some (pv_r m), some (pv_i x1), some (pv_i v5)] [] (mm_si B I4) (qi_ (fun x M' => ∃ I', M' = mm_si B I' ∧ P x I'))
    refine go_aload_n dX11_turnOf_21 rfl ?_
    refine go_V (av := []) (st := []) (ci := 11) ok_X11_ends ⟨by decide, by decide⟩ ml_X11_288 rfl (by decide) (fun v hv => absurd hv List.not_mem_nil) (Nat.le_of_ble_eq_true rfl) (fun _ h => h) (by decide) rfl RK.1 dX11_turnOf_22 H (fun r M' hq _ => ?_)
    obtain ⟨rfl, I6, rfl, H⟩ := hq
    show go_W mt_X11_turnOf fr_R 25 [some (pv_r m), some (pv_i x1), some (pv_i v5)] [] (mm_si B I6) (qi_ (fun x M' => ∃ I', M' = mm_si B I' ∧ P x I'))
    refine go_iload_n dX11_turnOf_25 rfl ?_
    exact go_iret rfl rfl dX11_turnOf_26 ⟨_, rfl, _, rfl, H⟩
  · replace H := H.2 hc
    refine go_iconst (v := (-1 : Int32)) rfl dX11_turnOf_8 ?_
    exact go_iret rfl rfl dX11_turnOf_9 ⟨_, rfl, _, rfl, H⟩
