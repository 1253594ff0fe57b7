/-! the walks of the reference, by program (wip/whole/walk2.py) -/
set_option maxRecDepth 20000 in
theorem wq_X11_ticks_0 {B : mm_T} {I : Nat → Nat → Int32} {m : Nat} (RK : rf_ok B m)  {P : (Nat → Nat → Int32) → Prop} (H : ∀ I1, I1 = i2_u I (m + 1) 0 (I (m + 1) 0 + (1 : Int32)) → rw_v mt_X11_ticks 12 [some (pv_r m), some (pv_i (0 : Int32)), none, none] [] B I1 P) : rw_v mt_X11_ticks 0 [some (pv_r m), none, none, none] [] B I P := by
  refine go_aload_n dX11_ticks_0 rfl ?_
  refine go_getRe (k := 0) ⟨by decide, rfl, by decide, Or.inr ⟨_, rfl⟩⟩ RK.1 (rf_r1 RK) fl_X11_7 dX11_ticks_1 ?_
  refine go_iconst (v := (0 : Int32)) rfl dX11_ticks_4 ?_
  refine go_dup2 pv_1i pv_1r dX11_ticks_5 ?_
  refine go_ialdN (j := 0) ⟨by decide, by decide, by decide⟩ (rf_k1 RK) rfl (by decide) dX11_ticks_6 ?_
  refine go_iconst (v := (1 : Int32)) rfl dX11_ticks_7 ?_
  refine go_iadd dX11_ticks_8 ?_
  refine go_iastN (j := 0) ⟨by decide, by decide, by decide⟩ (rf_k1 RK) rfl rfl (by decide) dX11_ticks_9 ?_
  show go_W mt_X11_ticks fr_R 10 [some (pv_r m), none, none, none] [] (mm_si B (i2_u I (m + 1) 0 (I (m + 1) 0 + (1 : Int32)))) (qv_ (fun M' => ∃ I', M' = mm_si B I' ∧ P I'))
  obtain ⟨I1, hI1⟩ : ∃ I', I' = i2_u I (m + 1) 0 (I (m + 1) 0 + (1 : Int32)) := ⟨_, rfl⟩
  rw [← hI1]
  replace H := H I1 hI1
  refine go_iconst (v := (0 : Int32)) rfl dX11_ticks_10 ?_
  refine go_istore_n (by decide) dX11_ticks_11 ?_
  show go_W mt_X11_ticks fr_R 12 [some (pv_r m), some (pv_i (0 : Int32)), none, none] [] (mm_si B I1) (qv_ (fun M' => ∃ I', M' = mm_si B I' ∧ P I'))
  exact H
set_option maxRecDepth 20000 in
theorem wq_X11_ticks_12 {B : mm_T} {I : Nat → Nat → Int32} {m : Nat} (RK : rf_ok B m) {x1 : Int32} {P : (Nat → Nat → Int32) → Prop} (H : (((I (m + 1) 1 ≤ x1) → rs_v mt_X11_wakes [pv_r m] B I (fun I1 => rw_v mt_X11_ticks 68 [some (pv_r m), some (pv_i (0 : Int32)), none, none] [] B I1 P)) ∧ ((¬ I (m + 1) 1 ≤ x1) → ∃ n2, (x1 = nI n2 ∧ n2 < 400) ∧ ((((¬ I (m + 1) (200 + 14 * n2 + 6) = (3 : Int32)) → rw_v mt_X11_ticks 12 [some (pv_r m), some (pv_i (nI (n2 + 1))), none, none] [] B I P) ∧ ((I (m + 1) (200 + 14 * n2 + 6) = (3 : Int32)) → (((I (m + 1) 0 < I (m + 1) (200 + 14 * n2 + 11)) → rw_v mt_X11_ticks 12 [some (pv_r m), some (pv_i (nI (n2 + 1))), none, none] [] B I P) ∧ ((¬ I (m + 1) 0 < I (m + 1) (200 + 14 * n2 + 11)) → rs_i mt_X11_failsNow [pv_r m, pv_i x1, pv_i (0 : Int32)] B I (fun v4 I3 => rw_v mt_X11_ticks 12 [some (pv_r m), some (pv_i (nI (n2 + 1))), none, none] [] B I3 P))))))))) : rw_v mt_X11_ticks 12 [some (pv_r m), some (pv_i x1), none, none] [] B I P := by
  refine go_iload_n dX11_ticks_12 rfl ?_
  refine go_aload_n dX11_ticks_13 rfl ?_
  refine go_getRe (k := 0) ⟨by decide, rfl, by decide, Or.inr ⟨_, rfl⟩⟩ RK.1 (rf_r1 RK) fl_X11_7 dX11_ticks_14 ?_
  refine go_iconst (v := (1 : Int32)) rfl dX11_ticks_17 ?_
  refine go_ialdN (j := 1) ⟨by decide, by decide, by decide⟩ (rf_k1 RK) rfl (by decide) dX11_ticks_18 ?_
  refine go_icmp_ge (tgt := 62) dX11_ticks_19 (by decide) (fun hc => ?_) (fun hc => ?_)
  · replace H := H.1 hc
    refine go_aload_n dX11_ticks_62 rfl ?_
    refine go_V (av := []) (st := []) (ci := 11) ok_X11_wakes ⟨by decide, by decide⟩ ml_X11_190 rfl (by decide) (fun v hv => absurd hv List.not_mem_nil) (Nat.le_of_ble_eq_true rfl) (fun _ h => h) (by decide) rfl RK.1 dX11_ticks_63 H (fun r M' hq _ => ?_)
    obtain ⟨rfl, I1, rfl, H⟩ := hq
    show go_W mt_X11_ticks fr_R 66 [some (pv_r m), some (pv_i x1), none, none] [] (mm_si B I1) (qv_ (fun M' => ∃ I', M' = mm_si B I' ∧ P I'))
    refine go_iconst (v := (0 : Int32)) rfl dX11_ticks_66 ?_
    refine go_istore_n (by decide) dX11_ticks_67 ?_
    show go_W mt_X11_ticks fr_R 68 [some (pv_r m), some (pv_i (0 : Int32)), none, none] [] (mm_si B I1) (qv_ (fun M' => ∃ I', M' = mm_si B I' ∧ P I'))
    exact H
  · replace H := H.2 hc
    refine go_aload_n dX11_ticks_22 rfl ?_
    refine go_iload_n dX11_ticks_23 rfl ?_
    refine go_bipush (v := (6 : Int32)) rfl dX11_ticks_24 ?_
    obtain ⟨n2, ⟨hn2, hn2b⟩, H⟩ := H
    refine go_V (av := [pv_i x1, pv_i (6 : Int32)]) (st := []) (ci := 11) ok_X11_of ⟨by decide, by decide⟩ ml_X11_94 rfl (by decide) (fun v hv => by simp only [List.mem_cons, List.not_mem_nil, or_false] at hv; rcases hv with rfl | rfl <;> first | exact pv_1i | exact pv_1r) (Nat.le_of_ble_eq_true rfl) (fun _ h => h) (by decide) rfl RK.1 dX11_ticks_26 (rx_of RK hn2 rfl hn2b (by decide)) (fun r M' hq _ => ?_)
    obtain ⟨_, rfl, _, rfl, rfl, rfl⟩ := hq
    show go_W mt_X11_ticks fr_R 29 [some (pv_r m), some (pv_i x1), none, none] [pv_i (I (m + 1) (200 + 14 * n2 + 6))] (mm_si B I) (qv_ (fun M' => ∃ I', M' = mm_si B I' ∧ P I'))
    refine go_iconst (v := (3 : Int32)) rfl dX11_ticks_29 ?_
    refine go_icmp_ne (tgt := 56) dX11_ticks_30 (by decide) (fun hc => ?_) (fun hc => ?_)
    · replace H := H.1 hc
      refine go_iincN (n := n2) (k := 1) hn2 (by decide) rfl rfl dX11_ticks_56 ?_
      show go_W mt_X11_ticks fr_R 59 [some (pv_r m), some (pv_i (nI (n2 + 1))), none, none] [] (mm_si B I) (qv_ (fun M' => ∃ I', M' = mm_si B I' ∧ P I'))
      refine go_goto (tgt := 12) dX11_ticks_59 (by decide) ?_
      exact H
    · replace H := H.2 hc
      refine go_aload_n dX11_ticks_33 rfl ?_
      refine go_iload_n dX11_ticks_34 rfl ?_
      refine go_bipush (v := (11 : Int32)) rfl dX11_ticks_35 ?_
      refine go_V (av := [pv_i x1, pv_i (11 : Int32)]) (st := []) (ci := 11) ok_X11_of ⟨by decide, by decide⟩ ml_X11_94 rfl (by decide) (fun v hv => by simp only [List.mem_cons, List.not_mem_nil, or_false] at hv; rcases hv with rfl | rfl <;> first | exact pv_1i | exact pv_1r) (Nat.le_of_ble_eq_true rfl) (fun _ h => h) (by decide) rfl RK.1 dX11_ticks_37 (rx_of RK hn2 rfl (by omega) (by decide)) (fun r M' hq _ => ?_)
      obtain ⟨_, rfl, _, rfl, rfl, rfl⟩ := hq
      show go_W mt_X11_ticks fr_R 40 [some (pv_r m), some (pv_i x1), none, none] [pv_i (I (m + 1) (200 + 14 * n2 + 11))] (mm_si B I) (qv_ (fun M' => ∃ I', M' = mm_si B I' ∧ P I'))
      refine go_aload_n dX11_ticks_40 rfl ?_
      refine go_getRe (k := 0) ⟨by decide, rfl, by decide, Or.inr ⟨_, rfl⟩⟩ RK.1 (rf_r1 RK) fl_X11_7 dX11_ticks_41 ?_
      refine go_iconst (v := (0 : Int32)) rfl dX11_ticks_44 ?_
      refine go_ialdN (j := 0) ⟨by decide, by decide, by decide⟩ (rf_k1 RK) rfl (by decide) dX11_ticks_45 ?_
      refine go_icmp_gt (tgt := 56) dX11_ticks_46 (by decide) (fun hc => ?_) (fun hc => ?_)
      · replace H := H.1 hc
        refine go_iincN (n := n2) (k := 1) hn2 (by decide) rfl rfl dX11_ticks_56 ?_
        show go_W mt_X11_ticks fr_R 59 [some (pv_r m), some (pv_i (nI (n2 + 1))), none, none] [] (mm_si B I) (qv_ (fun M' => ∃ I', M' = mm_si B I' ∧ P I'))
        refine go_goto (tgt := 12) dX11_ticks_59 (by decide) ?_
        exact H
      · replace H := H.2 hc
        refine go_aload_n dX11_ticks_49 rfl ?_
        refine go_iload_n dX11_ticks_50 rfl ?_
        refine go_iconst (v := (0 : Int32)) rfl dX11_ticks_51 ?_
        refine go_V (av := [pv_i x1, pv_i (0 : Int32)]) (st := []) (ci := 11) ok_X11_failsNow ⟨by decide, by decide⟩ ml_X11_187 rfl (by decide) (fun v hv => by simp only [List.mem_cons, List.not_mem_nil, or_false] at hv; rcases hv with rfl | rfl <;> first | exact pv_1i | exact pv_1r) (Nat.le_of_ble_eq_true rfl) (fun _ h => h) (by decide) rfl RK.1 dX11_ticks_52 H (fun r M' hq _ => ?_)
        obtain ⟨v4, rfl, I3, rfl, H⟩ := hq
        show go_W mt_X11_ticks fr_R 55 [some (pv_r m), some (pv_i x1), none, none] [pv_i v4] (mm_si B I3) (qv_ (fun M' => ∃ I', M' = mm_si B I' ∧ P I'))
        refine go_pop pv_1i dX11_ticks_55 ?_
        refine go_iincN (n := n2) (k := 1) hn2 (by decide) rfl rfl dX11_ticks_56 ?_
        show go_W mt_X11_ticks fr_R 59 [some (pv_r m), some (pv_i (nI (n2 + 1))), none, none] [] (mm_si B I3) (qv_ (fun M' => ∃ I', M' = mm_si B I' ∧ P I'))
        refine go_goto (tgt := 12) dX11_ticks_59 (by decide) ?_
        exact H
set_option maxRecDepth 20000 in
theorem wq_X11_ticks_68 {B : mm_T} {I : Nat → Nat → Int32} {m : Nat} (RK : rf_ok B m) {x1 : Int32} {P : (Nat → Nat → Int32) → Prop} (H : (((I (m + 1) 84 ≤ x1) → P I) ∧ ((¬ I (m + 1) 84 ≤ x1) → ∃ n1, (x1 = nI n1 ∧ n1 < 12) ∧ ((((I (m + 1) ((85 + 8 * n1) + 7) = I (m + 1) 0) → ∀ I2, I2 = i2_u I (m + 1) ((85 + 8 * n1) + 7) (I (m + 1) ((85 + 8 * n1) + 7) + I (m + 1) ((85 + 8 * n1) + 4)) → rs_i mt_X11_comesNow [pv_r m, pv_i (I2 (m + 1) ((85 + 8 * n1) + 0)), pv_i (I2 (m + 1) ((85 + 8 * n1) + 1)), pv_i (I2 (m + 1) ((85 + 8 * n1) + 2)), pv_i (I2 (m + 1) ((85 + 8 * n1) + 3)), pv_i (-1 : Int32)] B I2 (fun v4 I3 => (((v4 < 0) → ∀ I5, I5 = i2_u I3 (m + 1) ((85 + 8 * n1) + 6) (I3 (m + 1) ((85 + 8 * n1) + 6) + (1 : Int32)) → rw_v mt_X11_ticks 68 [some (pv_r m), some (pv_i (nI (n1 + 1))), none, none] [] B I5 P) ∧ ((¬ v4 < 0) → ∀ I6, I6 = i2_u I3 (m + 1) ((85 + 8 * n1) + 5) (I3 (m + 1) ((85 + 8 * n1) + 5) + (1 : Int32)) → rw_v mt_X11_ticks 68 [some (pv_r m), some (pv_i (nI (n1 + 1))), none, none] [] B I6 P)))) ∧ ((¬ I (m + 1) ((85 + 8 * n1) + 7) = I (m + 1) 0) → rw_v mt_X11_ticks 68 [some (pv_r m), some (pv_i (nI (n1 + 1))), none, none] [] B I P)))))) : rw_v mt_X11_ticks 68 [some (pv_r m), some (pv_i x1), none, none] [] B I P := by
  refine go_iload_n dX11_ticks_68 rfl ?_
  refine go_aload_n dX11_ticks_69 rfl ?_
  refine go_getRe (k := 0) ⟨by decide, rfl, by decide, Or.inr ⟨_, rfl⟩⟩ RK.1 (rf_r1 RK) fl_X11_7 dX11_ticks_70 ?_
  refine go_bipush (v := (84 : Int32)) rfl dX11_ticks_73 ?_
  refine go_ialdN (j := 84) ⟨by decide, by decide, by decide⟩ (rf_k1 RK) rfl (by decide) dX11_ticks_75 ?_
  refine go_icmp_ge (tgt := 198) dX11_ticks_76 (by decide) (fun hc => ?_) (fun hc => ?_)
  · replace H := H.1 hc
    exact go_vret rfl dX11_ticks_198 ⟨rfl, _, rfl, H⟩
  · replace H := H.2 hc
    refine go_iload_n dX11_ticks_79 rfl ?_
    obtain ⟨n1, ⟨hn1, hn1b⟩, H⟩ := H
    refine go_St (av := [pv_i x1]) (st := []) ok_X11_timerAt ⟨by decide, by decide⟩ ml_X11_193 rfl (by decide) (fun v hv => by simp only [List.mem_cons, List.not_mem_nil, or_false] at hv; rcases hv with rfl <;> first | exact pv_1i | exact pv_1r) (Nat.le_of_ble_eq_true rfl) (fun _ h => h) dX11_ticks_80 (rx_timerAt RK hn1) (fun r M' hq _ => ?_)
    obtain ⟨_, rfl, _, rfl, rfl, rfl⟩ := hq
    show go_W mt_X11_ticks fr_R 83 [some (pv_r m), some (pv_i x1), none, none] [pv_i (nI (85 + 8 * n1))] (mm_si B I) (qv_ (fun M' => ∃ I', M' = mm_si B I' ∧ P I'))
    refine go_istore_n (by decide) dX11_ticks_83 ?_
    show go_W mt_X11_ticks fr_R 84 [some (pv_r m), some (pv_i x1), some (pv_i (nI (85 + 8 * n1))), none] [] (mm_si B I) (qv_ (fun M' => ∃ I', M' = mm_si B I' ∧ P I'))
    refine go_aload_n dX11_ticks_84 rfl ?_
    refine go_getRe (k := 0) ⟨by decide, rfl, by decide, Or.inr ⟨_, rfl⟩⟩ RK.1 (rf_r1 RK) fl_X11_7 dX11_ticks_85 ?_
    refine go_iload_n dX11_ticks_88 rfl ?_
    refine go_bipush (v := (7 : Int32)) rfl dX11_ticks_89 ?_
    refine go_iadd dX11_ticks_91 ?_
    refine go_ialdN (j := ((85 + 8 * n1) + 7)) ⟨by decide, by decide, by decide⟩ (rf_k1 RK) (nI_ae rfl rfl) (by omega) dX11_ticks_92 ?_
    refine go_aload_n dX11_ticks_93 rfl ?_
    refine go_getRe (k := 0) ⟨by decide, rfl, by decide, Or.inr ⟨_, rfl⟩⟩ RK.1 (rf_r1 RK) fl_X11_7 dX11_ticks_94 ?_
    refine go_iconst (v := (0 : Int32)) rfl dX11_ticks_97 ?_
    refine go_ialdN (j := 0) ⟨by decide, by decide, by decide⟩ (rf_k1 RK) rfl (by decide) dX11_ticks_98 ?_
    refine go_icmp_eq (tgt := 105) dX11_ticks_99 (by decide) (fun hc => ?_) (fun hc => ?_)
    · replace H := H.1 hc
      refine go_aload_n dX11_ticks_105 rfl ?_
      refine go_getRe (k := 0) ⟨by decide, rfl, by decide, Or.inr ⟨_, rfl⟩⟩ RK.1 (rf_r1 RK) fl_X11_7 dX11_ticks_106 ?_
      refine go_iload_n dX11_ticks_109 rfl ?_
      refine go_bipush (v := (7 : Int32)) rfl dX11_ticks_110 ?_
      refine go_iadd dX11_ticks_112 ?_
      refine go_dup2 pv_1i pv_1r dX11_ticks_113 ?_
      refine go_ialdN (j := ((85 + 8 * n1) + 7)) ⟨by decide, by decide, by decide⟩ (rf_k1 RK) (nI_ae rfl rfl) (by omega) dX11_ticks_114 ?_
      refine go_aload_n dX11_ticks_115 rfl ?_
      refine go_getRe (k := 0) ⟨by decide, rfl, by decide, Or.inr ⟨_, rfl⟩⟩ RK.1 (rf_r1 RK) fl_X11_7 dX11_ticks_116 ?_
      refine go_iload_n dX11_ticks_119 rfl ?_
      refine go_iconst (v := (4 : Int32)) rfl dX11_ticks_120 ?_
      refine go_iadd dX11_ticks_121 ?_
      refine go_ialdN (j := ((85 + 8 * n1) + 4)) ⟨by decide, by decide, by decide⟩ (rf_k1 RK) (nI_ae rfl rfl) (by omega) dX11_ticks_122 ?_
      refine go_iadd dX11_ticks_123 ?_
      refine go_iastN (j := ((85 + 8 * n1) + 7)) ⟨by decide, by decide, by decide⟩ (rf_k1 RK) rfl (nI_ae rfl rfl) (by omega) dX11_ticks_124 ?_
      show go_W mt_X11_ticks fr_R 125 [some (pv_r m), some (pv_i x1), some (pv_i (nI (85 + 8 * n1))), none] [] (mm_si B (i2_u I (m + 1) ((85 + 8 * n1) + 7) (I (m + 1) ((85 + 8 * n1) + 7) + I (m + 1) ((85 + 8 * n1) + 4)))) (qv_ (fun M' => ∃ I', M' = mm_si B I' ∧ P I'))
      obtain ⟨I2, hI2⟩ : ∃ I', I' = i2_u I (m + 1) ((85 + 8 * n1) + 7) (I (m + 1) ((85 + 8 * n1) + 7) + I (m + 1) ((85 + 8 * n1) + 4)) := ⟨_, rfl⟩
      rw [← hI2]
      replace H := H I2 hI2
      refine go_aload_n dX11_ticks_125 rfl ?_
      refine go_aload_n dX11_ticks_126 rfl ?_
      refine go_getRe (k := 0) ⟨by decide, rfl, by decide, Or.inr ⟨_, rfl⟩⟩ RK.1 (rf_r1 RK) fl_X11_7 dX11_ticks_127 ?_
      refine go_iload_n dX11_ticks_130 rfl ?_
      refine go_iconst (v := (0 : Int32)) rfl dX11_ticks_131 ?_
      refine go_iadd dX11_ticks_132 ?_
      refine go_ialdN (j := ((85 + 8 * n1) + 0)) ⟨by decide, by decide, by decide⟩ (rf_k1 RK) (nI_ae rfl rfl) (by omega) dX11_ticks_133 ?_
      refine go_aload_n dX11_ticks_134 rfl ?_
      refine go_getRe (k := 0) ⟨by decide, rfl, by decide, Or.inr ⟨_, rfl⟩⟩ RK.1 (rf_r1 RK) fl_X11_7 dX11_ticks_135 ?_
      refine go_iload_n dX11_ticks_138 rfl ?_
      refine go_iconst (v := (1 : Int32)) rfl dX11_ticks_139 ?_
      refine go_iadd dX11_ticks_140 ?_
      refine go_ialdN (j := ((85 + 8 * n1) + 1)) ⟨by decide, by decide, by decide⟩ (rf_k1 RK) (nI_ae rfl rfl) (by omega) dX11_ticks_141 ?_
      refine go_aload_n dX11_ticks_142 rfl ?_
      refine go_getRe (k := 0) ⟨by decide, rfl, by decide, Or.inr ⟨_, rfl⟩⟩ RK.1 (rf_r1 RK) fl_X11_7 dX11_ticks_143 ?_
      refine go_iload_n dX11_ticks_146 rfl ?_
      refine go_iconst (v := (2 : Int32)) rfl dX11_ticks_147 ?_
      refine go_iadd dX11_ticks_148 ?_
      refine go_ialdN (j := ((85 + 8 * n1) + 2)) ⟨by decide, by decide, by decide⟩ (rf_k1 RK) (nI_ae rfl rfl) (by omega) dX11_ticks_149 ?_
      refine go_aload_n dX11_ticks_150 rfl ?_
      refine go_getRe (k := 0) ⟨by decide, rfl, by decide, Or.inr ⟨_, rfl⟩⟩ RK.1 (rf_r1 RK) fl_X11_7 dX11_ticks_151 ?_
      refine go_iload_n dX11_ticks_154 rfl ?_
      refine go_iconst (v := (3 : Int32)) rfl dX11_ticks_155 ?_
      refine go_iadd dX11_ticks_156 ?_
      refine go_ialdN (j := ((85 + 8 * n1) + 3)) ⟨by decide, by decide, by decide⟩ (rf_k1 RK) (nI_ae rfl rfl) (by omega) dX11_ticks_157 ?_
      refine go_iconst (v := (-1 : Int32)) rfl dX11_ticks_158 ?_
      refine go_V (av := [pv_i (I2 (m + 1) ((85 + 8 * n1) + 0)), pv_i (I2 (m + 1) ((85 + 8 * n1) + 1)), pv_i (I2 (m + 1) ((85 + 8 * n1) + 2)), pv_i (I2 (m + 1) ((85 + 8 * n1) + 3)), pv_i (-1 : Int32)]) (st := []) (ci := 11) ok_X11_comesNow ⟨by decide, by decide⟩ ml_X11_196 rfl (by decide) (fun v hv => by simp only [List.mem_cons, List.not_mem_nil, or_false] at hv; rcases hv with rfl | rfl | rfl | rfl | rfl <;> first | exact pv_1i | exact pv_1r) (Nat.le_of_ble_eq_true rfl) (fun _ h => h) (by decide) rfl RK.1 dX11_ticks_159 H (fun r M' hq _ => ?_)
      obtain ⟨v4, rfl, I3, rfl, H⟩ := hq
      show go_W mt_X11_ticks fr_R 162 [some (pv_r m), some (pv_i x1), some (pv_i (nI (85 + 8 * n1))), none] [pv_i v4] (mm_si B I3) (qv_ (fun M' => ∃ I', M' = mm_si B I' ∧ P I'))
      refine go_if_lt (tgt := 169) dX11_ticks_162 (by decide) (fun hc => ?_) (fun hc => ?_)
      · replace H := H.1 hc
        refine go_iconst (v := (0 : Int32)) rfl dX11_ticks_169 ?_
        refine go_istore_n (by decide) dX11_ticks_170 ?_
        show go_W mt_X11_ticks fr_R 171 [some (pv_r m), some (pv_i x1), some (pv_i (nI (85 + 8 * n1))), some (pv_i (0 : Int32))] [] (mm_si B I3) (qv_ (fun M' => ∃ I', M' = mm_si B I' ∧ P I'))
        refine go_aload_n dX11_ticks_171 rfl ?_
        refine go_getRe (k := 0) ⟨by decide, rfl, by decide, Or.inr ⟨_, rfl⟩⟩ RK.1 (rf_r1 RK) fl_X11_7 dX11_ticks_172 ?_
        refine go_iload_n dX11_ticks_175 rfl ?_
        refine go_iload_n dX11_ticks_176 rfl ?_
        refine go_if_eq (tgt := 184) dX11_ticks_177 (by decide) (fun _ => ?_) (fun hc => absurd hc (by decide))
        refine go_bipush (v := (6 : Int32)) rfl dX11_ticks_184 ?_
        refine go_iadd dX11_ticks_186 ?_
        refine go_dup2 pv_1i pv_1r dX11_ticks_187 ?_
        refine go_ialdN (j := ((85 + 8 * n1) + 6)) ⟨by decide, by decide, by decide⟩ (rf_k1 RK) (nI_ae rfl rfl) (by omega) dX11_ticks_188 ?_
        refine go_iconst (v := (1 : Int32)) rfl dX11_ticks_189 ?_
        refine go_iadd dX11_ticks_190 ?_
        refine go_iastN (j := ((85 + 8 * n1) + 6)) ⟨by decide, by decide, by decide⟩ (rf_k1 RK) rfl (nI_ae rfl rfl) (by omega) dX11_ticks_191 ?_
        show go_W mt_X11_ticks fr_R 192 [some (pv_r m), some (pv_i x1), some (pv_i (nI (85 + 8 * n1))), some (pv_i (0 : Int32))] [] (mm_si B (i2_u I3 (m + 1) ((85 + 8 * n1) + 6) (I3 (m + 1) ((85 + 8 * n1) + 6) + (1 : Int32)))) (qv_ (fun M' => ∃ I', M' = mm_si B I' ∧ P I'))
        obtain ⟨I5, hI5⟩ : ∃ I', I' = i2_u I3 (m + 1) ((85 + 8 * n1) + 6) (I3 (m + 1) ((85 + 8 * n1) + 6) + (1 : Int32)) := ⟨_, rfl⟩
        rw [← hI5]
        replace H := H I5 hI5
        refine go_iincN (n := n1) (k := 1) hn1 (by decide) rfl rfl dX11_ticks_192 ?_
        show go_W mt_X11_ticks fr_R 195 [some (pv_r m), some (pv_i (nI (n1 + 1))), some (pv_i (nI (85 + 8 * n1))), some (pv_i (0 : Int32))] [] (mm_si B I5) (qv_ (fun M' => ∃ I', M' = mm_si B I' ∧ P I'))
        refine go_goto (tgt := 68) dX11_ticks_195 (by decide) ?_
        exact go_fg (ls' := [some (pv_r m), some (pv_i (nI (n1 + 1))), none, none]) ⟨rfl, ⟨rfl, trivial⟩⟩ H
      · replace H := H.2 hc
        refine go_iconst (v := (1 : Int32)) rfl dX11_ticks_165 ?_
        refine go_goto (tgt := 170) dX11_ticks_166 (by decide) ?_
        refine go_istore_n (by decide) dX11_ticks_170 ?_
        show go_W mt_X11_ticks fr_R 171 [some (pv_r m), some (pv_i x1), some (pv_i (nI (85 + 8 * n1))), some (pv_i (1 : Int32))] [] (mm_si B I3) (qv_ (fun M' => ∃ I', M' = mm_si B I' ∧ P I'))
        refine go_aload_n dX11_ticks_171 rfl ?_
        refine go_getRe (k := 0) ⟨by decide, rfl, by decide, Or.inr ⟨_, rfl⟩⟩ RK.1 (rf_r1 RK) fl_X11_7 dX11_ticks_172 ?_
        refine go_iload_n dX11_ticks_175 rfl ?_
        refine go_iload_n dX11_ticks_176 rfl ?_
        refine go_if_eq (tgt := 184) dX11_ticks_177 (by decide) (fun hc => absurd hc (by decide)) (fun _ => ?_)
        refine go_iconst (v := (5 : Int32)) rfl dX11_ticks_180 ?_
        refine go_goto (tgt := 186) dX11_ticks_181 (by decide) ?_
        refine go_iadd dX11_ticks_186 ?_
        refine go_dup2 pv_1i pv_1r dX11_ticks_187 ?_
        refine go_ialdN (j := ((85 + 8 * n1) + 5)) ⟨by decide, by decide, by decide⟩ (rf_k1 RK) (nI_ae rfl rfl) (by omega) dX11_ticks_188 ?_
        refine go_iconst (v := (1 : Int32)) rfl dX11_ticks_189 ?_
        refine go_iadd dX11_ticks_190 ?_
        refine go_iastN (j := ((85 + 8 * n1) + 5)) ⟨by decide, by decide, by decide⟩ (rf_k1 RK) rfl (nI_ae rfl rfl) (by omega) dX11_ticks_191 ?_
        show go_W mt_X11_ticks fr_R 192 [some (pv_r m), some (pv_i x1), some (pv_i (nI (85 + 8 * n1))), some (pv_i (1 : Int32))] [] (mm_si B (i2_u I3 (m + 1) ((85 + 8 * n1) + 5) (I3 (m + 1) ((85 + 8 * n1) + 5) + (1 : Int32)))) (qv_ (fun M' => ∃ I', M' = mm_si B I' ∧ P I'))
        obtain ⟨I6, hI6⟩ : ∃ I', I' = i2_u I3 (m + 1) ((85 + 8 * n1) + 5) (I3 (m + 1) ((85 + 8 * n1) + 5) + (1 : Int32)) := ⟨_, rfl⟩
        rw [← hI6]
        replace H := H I6 hI6
        refine go_iincN (n := n1) (k := 1) hn1 (by decide) rfl rfl dX11_ticks_192 ?_
        show go_W mt_X11_ticks fr_R 195 [some (pv_r m), some (pv_i (nI (n1 + 1))), some (pv_i (nI (85 + 8 * n1))), some (pv_i (1 : Int32))] [] (mm_si B I6) (qv_ (fun M' => ∃ I', M' = mm_si B I' ∧ P I'))
        refine go_goto (tgt := 68) dX11_ticks_195 (by decide) ?_
        exact go_fg (ls' := [some (pv_r m), some (pv_i (nI (n1 + 1))), none, none]) ⟨rfl, ⟨rfl, trivial⟩⟩ H
    · replace H := H.2 hc
      refine go_goto (tgt := 192) dX11_ticks_102 (by decide) ?_
      refine go_iincN (n := n1) (k := 1) hn1 (by decide) rfl rfl dX11_ticks_192 ?_
      show go_W mt_X11_ticks fr_R 195 [some (pv_r m), some (pv_i (nI (n1 + 1))), some (pv_i (nI (85 + 8 * n1))), none] [] (mm_si B I) (qv_ (fun M' => ∃ I', M' = mm_si B I' ∧ P I'))
      refine go_goto (tgt := 68) dX11_ticks_195 (by decide) ?_
      exact go_fg (ls' := [some (pv_r m), some (pv_i (nI (n1 + 1))), none, none]) ⟨rfl, ⟨rfl, trivial⟩⟩ H
set_option maxRecDepth 20000 in
theorem wq_X11_put_0 {B : mm_T} {I : Nat → Nat → Int32} {m : Nat} (RK : rf_ok B m) {x1 x2 x3 x4 x5 : Int32} {P : Int32 → (Nat → Nat → Int32) → Prop} (H : rs_i mt_X11_comesNow [pv_r m, pv_i x1, pv_i x2, pv_i x3, pv_i x4, pv_i x5] B I (fun v2 I1 => (((0 ≤ v2) → P v2 I1) ∧ ((¬ 0 ≤ v2) → (I1 m 8 = 0) ∧ (∀ I3, I3 = i2_u I1 m 7 (I1 m 7 + 1) → P v2 I3))))) : rw_i mt_X11_put 0 [some (pv_r m), some (pv_i x1), some (pv_i x2), some (pv_i x3), some (pv_i x4), some (pv_i x5), none] [] B I P := by
  refine go_aload_n dX11_put_0 rfl ?_
  refine go_iload_n dX11_put_1 rfl ?_
  refine go_iload_n dX11_put_2 rfl ?_
  refine go_iload_n dX11_put_3 rfl ?_
  refine go_iload dX11_put_4 rfl ?_
  refine go_iload dX11_put_6 rfl ?_
  refine go_V (av := [pv_i x1, pv_i x2, pv_i x3, pv_i x4, pv_i x5]) (st := []) (ci := 11) ok_X11_comesNow ⟨by decide, by decide⟩ ml_X11_196 rfl (by decide) (fun v hv => by simp only [List.mem_cons, List.not_mem_nil, or_false] at hv; rcases hv with rfl | rfl | rfl | rfl | rfl <;> first | exact pv_1i | exact pv_1r) (Nat.le_of_ble_eq_true rfl) (fun _ h => h) (by decide) rfl RK.1 dX11_put_8 H (fun r M' hq _ => ?_)
  obtain ⟨v2, rfl, I1, rfl, H⟩ := hq
  show go_W mt_X11_put fr_R 11 [some (pv_r m), some (pv_i x1), some (pv_i x2), some (pv_i x3), some (pv_i x4), some (pv_i x5), none] [pv_i v2] (mm_si B I1) (qi_ (fun x M' => ∃ I', M' = mm_si B I' ∧ P x I'))
  refine go_istore (by decide) dX11_put_11 ?_
  show go_W mt_X11_put fr_R 13 [some (pv_r m), some (pv_i x1), some (pv_i x2), some (pv_i x3), some (pv_i x4), some (pv_i x5), some (pv_i v2)] [] (mm_si B I1) (qi_ (fun x M' => ∃ I', M' = mm_si B I' ∧ P x I'))
  refine go_iload dX11_put_13 rfl ?_
  refine go_if_ge (tgt := 27) dX11_put_15 (by decide) (fun hc => ?_) (fun hc => ?_)
  · replace H := H.1 hc
    refine go_iload dX11_put_27 rfl ?_
    exact go_iret rfl rfl dX11_put_29 ⟨_, rfl, _, rfl, H⟩
  · replace H := H.2 hc
    refine go_aload_n dX11_put_18 rfl ?_
    refine go_iload dX11_put_19 rfl ?_
    obtain ⟨h8, H⟩ := H
    refine go_V (av := [pv_i v2]) (st := []) (ci := 11) ok_X11_refuses ⟨by decide, by decide⟩ ml_X11_199 rfl (by decide) (fun v hv => by simp only [List.mem_cons, List.not_mem_nil, or_false] at hv; rcases hv with rfl <;> first | exact pv_1i | exact pv_1r) (Nat.le_of_ble_eq_true rfl) (fun _ h => h) (by decide) rfl RK.1 dX11_put_21 (rx_refuses RK h8) (fun r M' hq _ => ?_)
    obtain ⟨_, rfl, _, rfl, rfl, rfl⟩ := hq
    show go_W mt_X11_put fr_R 24 [some (pv_r m), some (pv_i x1), some (pv_i x2), some (pv_i x3), some (pv_i x4), some (pv_i x5), some (pv_i v2)] [pv_i v2] (mm_si B (i2_u I1 m 7 (I1 m 7 + 1))) (qi_ (fun x M' => ∃ I', M' = mm_si B I' ∧ P x I'))
    obtain ⟨I3, hI3⟩ : ∃ I', I' = i2_u I1 m 7 (I1 m 7 + 1) := ⟨_, rfl⟩
    rw [← hI3]
    replace H := H I3 hI3
    refine go_goto (tgt := 29) dX11_put_24 (by decide) ?_
    exact go_iret rfl rfl dX11_put_29 ⟨_, rfl, _, rfl, H⟩
set_option maxRecDepth 20000 in
theorem wq_X11_takesBy_0 {B : mm_T} {I : Nat → Nat → Int32} {m : Nat} (RK : rf_ok B m) {x1 : Int32} {P : Int32 → (Nat → Nat → Int32) → Prop} (H : rs_i mt_X11_theLane [pv_r m, pv_i (1 : Int32)] B I (fun v2 I1 => (((¬ v2 = (-1 : Int32)) → rs_i mt_X11_firstOf [pv_r m, pv_i v2] B I1 (fun v4 I3 => rs_v mt_X11_takesNow [pv_r m, pv_i v4, pv_i x1] B I3 (fun I5 => P v4 I5))) ∧ ((v2 = (-1 : Int32)) → P (-1 : Int32) I1)))) : rw_i mt_X11_takesBy 0 [some (pv_r m), some (pv_i x1), none, none] [] B I P := by
  refine go_aload_n dX11_takesBy_0 rfl ?_
  refine go_iconst (v := (1 : Int32)) rfl dX11_takesBy_1 ?_
  refine go_V (av := [pv_i (1 : Int32)]) (st := []) (ci := 11) ok_X11_theLane ⟨by decide, by decide⟩ ml_X11_202 rfl (by decide) (fun v hv => by simp only [List.mem_cons, List.not_mem_nil, or_false] at hv; rcases hv with rfl <;> first | exact pv_1i | exact pv_1r) (Nat.le_of_ble_eq_true rfl) (fun _ h => h) (by decide) rfl RK.1 dX11_takesBy_2 H (fun r M' hq _ => ?_)
  obtain ⟨v2, rfl, I1, rfl, H⟩ := hq
  show go_W mt_X11_takesBy fr_R 5 [some (pv_r m), some (pv_i x1), none, none] [pv_i v2] (mm_si B I1) (qi_ (fun x M' => ∃ I', M' = mm_si B I' ∧ P x I'))
  refine go_istore_n (by decide) dX11_takesBy_5 ?_
  show go_W mt_X11_takesBy fr_R 6 [some (pv_r m), some (pv_i x1), some (pv_i v2), none] [] (mm_si B I1) (qi_ (fun x M' => ∃ I', M' = mm_si B I' ∧ P x I'))
  refine go_iload_n dX11_takesBy_6 rfl ?_
  refine go_iconst (v := (-1 : Int32)) rfl dX11_takesBy_7 ?_
  refine go_icmp_ne (tgt := 13) dX11_takesBy_8 (by decide) (fun hc => ?_) (fun hc => ?_)
  · replace H := H.1 hc
    refine go_aload_n dX11_takesBy_13 rfl ?_
    refine go_iload_n dX11_takesBy_14 rfl ?_
    refine go_V (av := [pv_i v2]) (st := []) (ci := 11) ok_X11_firstOf ⟨by decide, by decide⟩ ml_X11_206 rfl (by decide) (fun v hv => by simp only [List.mem_cons, List.not_mem_nil, or_false] at hv; rcases hv with rfl <;> first | exact pv_1i | exact pv_1r) (Nat.le_of_ble_eq_true rfl) (fun _ h => h) (by decide) rfl RK.1 dX11_takesBy_15 H (fun r M' hq _ => ?_)
    obtain ⟨v4, rfl, I3, rfl, H⟩ := hq
    show go_W mt_X11_takesBy fr_R 18 [some (pv_r m), some (pv_i x1), some (pv_i v2), none] [pv_i v4] (mm_si B I3) (qi_ (fun x M' => ∃ I', M' = mm_si B I' ∧ P x I'))
    refine go_istore_n (by decide) dX11_takesBy_18 ?_
    show go_W mt_X11_takesBy fr_R 19 [some (pv_r m), some (pv_i x1), some (pv_i v2), some (pv_i v4)] [] (mm_si B I3) (qi_ (fun x M' => ∃ I', M' = mm_si B I' ∧ P x I'))
    refine go_aload_n dX11_takesBy_19 rfl ?_
    refine go_iload_n dX11_takesBy_20 rfl ?_
    refine go_iload_n dX11_takesBy_21 rfl ?_
    refine go_V (av := [pv_i v4, pv_i x1]) (st := []) (ci := 11) ok_X11_takesNow ⟨by decide, by decide⟩ ml_X11_209 rfl (by decide) (fun v hv => by simp only [List.mem_cons, List.not_mem_nil, or_false] at hv; rcases hv with rfl | rfl <;> first | exact pv_1i | exact pv_1r) (Nat.le_of_ble_eq_true rfl) (fun _ h => h) (by decide) rfl RK.1 dX11_takesBy_22 H (fun r M' hq _ => ?_)
    obtain ⟨rfl, I5, rfl, H⟩ := hq
    show go_W mt_X11_takesBy fr_R 25 [some (pv_r m), some (pv_i x1), some (pv_i v2), some (pv_i v4)] [] (mm_si B I5) (qi_ (fun x M' => ∃ I', M' = mm_si B I' ∧ P x I'))
    refine go_iload_n dX11_takesBy_25 rfl ?_
    exact go_iret rfl rfl dX11_takesBy_26 ⟨_, rfl, _, rfl, H⟩
  · replace H := H.2 hc
    refine go_iconst (v := (-1 : Int32)) rfl dX11_takesBy_11 ?_
    exact go_iret rfl rfl dX11_takesBy_12 ⟨_, rfl, _, rfl, H⟩
set_option maxRecDepth 20000 in
theorem wq_X11_take_0 {B : mm_T} {I : Nat → Nat → Int32} {m : Nat} (RK : rf_ok B m) {x1 : Int32} {P : Int32 → (Nat → Nat → Int32) → Prop} (H : ((((0 ≤ x1 ∧ x1 ≤ 5)) → ∃ n1, (x1 = nI n1 ∧ n1 < 6) ∧ ((((I (m + 1) (60 + 4 * n1) = (-1 : Int32)) → rs_i mt_X11_takesBy [pv_r m, pv_i x1] B I (fun v3 I2 => P v3 I2)) ∧ ((¬ I (m + 1) (60 + 4 * n1) = (-1 : Int32)) → (I m 8 = 0) ∧ (∀ I4, I4 = i2_u I m 7 (I m 7 + 1) → P (-3 : Int32) I4))))) ∧ ((¬ (0 ≤ x1 ∧ x1 ≤ 5)) → (I m 8 = 0) ∧ (∀ I5, I5 = i2_u I m 7 (I m 7 + 1) → P (-2 : Int32) I5)))) : rw_i mt_X11_take 0 [some (pv_r m), some (pv_i x1)] [] B I P := by
  refine go_aload_n dX11_take_0 rfl ?_
  refine go_iload_n dX11_take_1 rfl ?_
  by_cases hc : (0 ≤ x1 ∧ x1 ≤ 5)
  · replace H := H.1 hc
    refine go_V (av := [pv_i x1]) (st := []) (ci := 11) ok_X11_isWorker ⟨by decide, by decide⟩ ml_X11_212 rfl (by decide) (fun v hv => by simp only [List.mem_cons, List.not_mem_nil, or_false] at hv; rcases hv with rfl <;> first | exact pv_1i | exact pv_1r) (Nat.le_of_ble_eq_true rfl) (fun _ h => h) (by decide) rfl RK.1 dX11_take_2 (rx_isWorker_t RK hc) (fun r M' hq _ => ?_)
    obtain ⟨_, rfl, _, rfl, rfl, rfl⟩ := hq
    show go_W mt_X11_take fr_R 5 [some (pv_r m), some (pv_i x1)] [pv_i (1 : Int32)] (mm_si B I) (qi_ (fun x M' => ∃ I', M' = mm_si B I' ∧ P x I'))
    refine go_if_ne (tgt := 15) dX11_take_5 (by decide) (fun _ => ?_) (fun hc => absurd hc (by decide))
    refine go_aload_n dX11_take_15 rfl ?_
    refine go_getRe (k := 0) ⟨by decide, rfl, by decide, Or.inr ⟨_, rfl⟩⟩ RK.1 (rf_r1 RK) fl_X11_7 dX11_take_16 ?_
    refine go_iload_n dX11_take_19 rfl ?_
    obtain ⟨n1, ⟨hn1, hn1b⟩, H⟩ := H
    refine go_St (av := [pv_i x1]) (st := [pv_r (m + 1)]) ok_X11_workerAt ⟨by decide, by decide⟩ ml_X11_84 rfl (by decide) (fun v hv => by simp only [List.mem_cons, List.not_mem_nil, or_false] at hv; rcases hv with rfl <;> first | exact pv_1i | exact pv_1r) (Nat.le_of_ble_eq_true rfl) (fun _ h => h) dX11_take_20 (rx_workerAt RK hn1) (fun r M' hq _ => ?_)
    obtain ⟨_, rfl, _, rfl, rfl, rfl⟩ := hq
    show go_W mt_X11_take fr_R 23 [some (pv_r m), some (pv_i x1)] [pv_i (nI (60 + 4 * n1)), pv_r (m + 1)] (mm_si B I) (qi_ (fun x M' => ∃ I', M' = mm_si B I' ∧ P x I'))
    refine go_ialdN (j := (60 + 4 * n1)) ⟨by decide, by decide, by decide⟩ (rf_k1 RK) rfl (by omega) dX11_take_23 ?_
    refine go_iconst (v := (-1 : Int32)) rfl dX11_take_24 ?_
    refine go_icmp_eq (tgt := 37) dX11_take_25 (by decide) (fun hc => ?_) (fun hc => ?_)
    · replace H := H.1 hc
      refine go_aload_n dX11_take_37 rfl ?_
      refine go_iload_n dX11_take_38 rfl ?_
      refine go_V (av := [pv_i x1]) (st := []) (ci := 11) ok_X11_takesBy ⟨by decide, by decide⟩ ml_X11_215 rfl (by decide) (fun v hv => by simp only [List.mem_cons, List.not_mem_nil, or_false] at hv; rcases hv with rfl <;> first | exact pv_1i | exact pv_1r) (Nat.le_of_ble_eq_true rfl) (fun _ h => h) (by decide) rfl RK.1 dX11_take_39 H (fun r M' hq _ => ?_)
      obtain ⟨v3, rfl, I2, rfl, H⟩ := hq
      show go_W mt_X11_take fr_R 42 [some (pv_r m), some (pv_i x1)] [pv_i v3] (mm_si B I2) (qi_ (fun x M' => ∃ I', M' = mm_si B I' ∧ P x I'))
      exact go_iret rfl rfl dX11_take_42 ⟨_, rfl, _, rfl, H⟩
    · replace H := H.2 hc
      refine go_aload_n dX11_take_28 rfl ?_
      refine go_bipush (v := (-3 : Int32)) rfl dX11_take_29 ?_
      obtain ⟨h8, H⟩ := H
      refine go_V (av := [pv_i (-3 : Int32)]) (st := []) (ci := 11) ok_X11_refuses ⟨by decide, by decide⟩ ml_X11_199 rfl (by decide) (fun v hv => by simp only [List.mem_cons, List.not_mem_nil, or_false] at hv; rcases hv with rfl <;> first | exact pv_1i | exact pv_1r) (Nat.le_of_ble_eq_true rfl) (fun _ h => h) (by decide) rfl RK.1 dX11_take_31 (rx_refuses RK h8) (fun r M' hq _ => ?_)
      obtain ⟨_, rfl, _, rfl, rfl, rfl⟩ := hq
      show go_W mt_X11_take fr_R 34 [some (pv_r m), some (pv_i x1)] [pv_i (-3 : Int32)] (mm_si B (i2_u I m 7 (I m 7 + 1))) (qi_ (fun x M' => ∃ I', M' = mm_si B I' ∧ P x I'))
      obtain ⟨I4, hI4⟩ : ∃ I', I' = i2_u I m 7 (I m 7 + 1) := ⟨_, rfl⟩
      rw [← hI4]
      replace H := H I4 hI4
      refine go_goto (tgt := 42) dX11_take_34 (by decide) ?_
      exact go_iret rfl rfl dX11_take_42 ⟨_, rfl, _, rfl, H⟩
  · replace H := H.2 hc
    refine go_V (av := [pv_i x1]) (st := []) (ci := 11) ok_X11_isWorker ⟨by decide, by decide⟩ ml_X11_212 rfl (by decide) (fun v hv => by simp only [List.mem_cons, List.not_mem_nil, or_false] at hv; rcases hv with rfl <;> first | exact pv_1i | exact pv_1r) (Nat.le_of_ble_eq_true rfl) (fun _ h => h) (by decide) rfl RK.1 dX11_take_2 (rx_isWorker_f RK hc) (fun r M' hq _ => ?_)
    obtain ⟨_, rfl, _, rfl, rfl, rfl⟩ := hq
    show go_W mt_X11_take fr_R 5 [some (pv_r m), some (pv_i x1)] [pv_i (0 : Int32)] (mm_si B I) (qi_ (fun x M' => ∃ I', M' = mm_si B I' ∧ P x I'))
    refine go_if_ne (tgt := 15) dX11_take_5 (by decide) (fun hc => absurd hc (by decide)) (fun _ => ?_)
    refine go_aload_n dX11_take_8 rfl ?_
    refine go_bipush (v := (-2 : Int32)) rfl dX11_take_9 ?_
    obtain ⟨h8, H⟩ := H
    refine go_V (av := [pv_i (-2 : Int32)]) (st := []) (ci := 11) ok_X11_refuses ⟨by decide, by decide⟩ ml_X11_199 rfl (by decide) (fun v hv => by simp only [List.mem_cons, List.not_mem_nil, or_false] at hv; rcases hv with rfl <;> first | exact pv_1i | exact pv_1r) (Nat.le_of_ble_eq_true rfl) (fun _ h => h) (by decide) rfl RK.1 dX11_take_11 (rx_refuses RK h8) (fun r M' hq _ => ?_)
    obtain ⟨_, rfl, _, rfl, rfl, rfl⟩ := hq
    show go_W mt_X11_take fr_R 14 [some (pv_r m), some (pv_i x1)] [pv_i (-2 : Int32)] (mm_si B (i2_u I m 7 (I m 7 + 1))) (qi_ (fun x M' => ∃ I', M' = mm_si B I' ∧ P x I'))
    obtain ⟨I5, hI5⟩ : ∃ I', I' = i2_u I m 7 (I m 7 + 1) := ⟨_, rfl⟩
    rw [← hI5]
    replace H := H I5 hI5
    exact go_iret rfl rfl dX11_take_14 ⟨_, rfl, _, rfl, H⟩
set_option maxRecDepth 20000 in
theorem wq_X11_heldBy_0 {B : mm_T} {I : Nat → Nat → Int32} {m : Nat} (RK : rf_ok B m) {x1 x2 : Int32} {P : Int32 → (Nat → Nat → Int32) → Prop} (H : ((((0 ≤ x1 ∧ x1 ≤ 5)) → ∃ n1, (x1 = nI n1 ∧ n1 < 6) ∧ ((((I (m + 1) (60 + 4 * n1) = (-1 : Int32)) → P (-3 : Int32) I) ∧ ((¬ I (m + 1) (60 + 4 * n1) = (-1 : Int32)) → ∃ n2, (I (m + 1) (60 + 4 * n1) = nI n2 ∧ n2 < 400) ∧ ((((I (m + 1) (200 + 14 * n2 + 10) = x2) → P (I (m + 1) (60 + 4 * n1)) I) ∧ ((¬ I (m + 1) (200 + 14 * n2 + 10) = x2) → P (-3 : Int32) I))))))) ∧ ((¬ (0 ≤ x1 ∧ x1 ≤ 5)) → P (-2 : Int32) I))) : rw_i mt_X11_heldBy 0 [some (pv_r m), some (pv_i x1), some (pv_i x2), none] [] B I P := by
  refine go_aload_n dX11_heldBy_0 rfl ?_
  refine go_iload_n dX11_heldBy_1 rfl ?_
  by_cases hc : (0 ≤ x1 ∧ x1 ≤ 5)
  · replace H := H.1 hc
    refine go_V (av := [pv_i x1]) (st := []) (ci := 11) ok_X11_isWorker ⟨by decide, by decide⟩ ml_X11_212 rfl (by decide) (fun v hv => by simp only [List.mem_cons, List.not_mem_nil, or_false] at hv; rcases hv with rfl <;> first | exact pv_1i | exact pv_1r) (Nat.le_of_ble_eq_true rfl) (fun _ h => h) (by decide) rfl RK.1 dX11_heldBy_2 (rx_isWorker_t RK hc) (fun r M' hq _ => ?_)
    obtain ⟨_, rfl, _, rfl, rfl, rfl⟩ := hq
    show go_W mt_X11_heldBy fr_R 5 [some (pv_r m), some (pv_i x1), some (pv_i x2), none] [pv_i (1 : Int32)] (mm_si B I) (qi_ (fun x M' => ∃ I', M' = mm_si B I' ∧ P x I'))
    refine go_if_ne (tgt := 11) dX11_heldBy_5 (by decide) (fun _ => ?_) (fun hc => absurd hc (by decide))
    refine go_aload_n dX11_heldBy_11 rfl ?_
    refine go_getRe (k := 0) ⟨by decide, rfl, by decide, Or.inr ⟨_, rfl⟩⟩ RK.1 (rf_r1 RK) fl_X11_7 dX11_heldBy_12 ?_
    refine go_iload_n dX11_heldBy_15 rfl ?_
    obtain ⟨n1, ⟨hn1, hn1b⟩, H⟩ := H
    refine go_St (av := [pv_i x1]) (st := [pv_r (m + 1)]) ok_X11_workerAt ⟨by decide, by decide⟩ ml_X11_84 rfl (by decide) (fun v hv => by simp only [List.mem_cons, List.not_mem_nil, or_false] at hv; rcases hv with rfl <;> first | exact pv_1i | exact pv_1r) (Nat.le_of_ble_eq_true rfl) (fun _ h => h) dX11_heldBy_16 (rx_workerAt RK hn1) (fun r M' hq _ => ?_)
    obtain ⟨_, rfl, _, rfl, rfl, rfl⟩ := hq
    show go_W mt_X11_heldBy fr_R 19 [some (pv_r m), some (pv_i x1), some (pv_i x2), none] [pv_i (nI (60 + 4 * n1)), pv_r (m + 1)] (mm_si B I) (qi_ (fun x M' => ∃ I', M' = mm_si B I' ∧ P x I'))
    refine go_ialdN (j := (60 + 4 * n1)) ⟨by decide, by decide, by decide⟩ (rf_k1 RK) rfl (by omega) dX11_heldBy_19 ?_
    refine go_istore_n (by decide) dX11_heldBy_20 ?_
    show go_W mt_X11_heldBy fr_R 21 [some (pv_r m), some (pv_i x1), some (pv_i x2), some (pv_i (I (m + 1) (60 + 4 * n1)))] [] (mm_si B I) (qi_ (fun x M' => ∃ I', M' = mm_si B I' ∧ P x I'))
    refine go_iload_n dX11_heldBy_21 rfl ?_
    refine go_iconst (v := (-1 : Int32)) rfl dX11_heldBy_22 ?_
    refine go_icmp_eq (tgt := 37) dX11_heldBy_23 (by decide) (fun hc => ?_) (fun hc => ?_)
    · replace H := H.1 hc
      refine go_bipush (v := (-3 : Int32)) rfl dX11_heldBy_37 ?_
      refine go_goto (tgt := 43) dX11_heldBy_39 (by decide) ?_
      exact go_iret rfl rfl dX11_heldBy_43 ⟨_, rfl, _, rfl, H⟩
    · replace H := H.2 hc
      refine go_aload_n dX11_heldBy_26 rfl ?_
      refine go_iload_n dX11_heldBy_27 rfl ?_
      refine go_bipush (v := (10 : Int32)) rfl dX11_heldBy_28 ?_
      obtain ⟨n2, ⟨hn2, hn2b⟩, H⟩ := H
      refine go_V (av := [pv_i (I (m + 1) (60 + 4 * n1)), pv_i (10 : Int32)]) (st := []) (ci := 11) ok_X11_of ⟨by decide, by decide⟩ ml_X11_94 rfl (by decide) (fun v hv => by simp only [List.mem_cons, List.not_mem_nil, or_false] at hv; rcases hv with rfl | rfl <;> first | exact pv_1i | exact pv_1r) (Nat.le_of_ble_eq_true rfl) (fun _ h => h) (by decide) rfl RK.1 dX11_heldBy_30 (rx_of RK hn2 rfl hn2b (by decide)) (fun r M' hq _ => ?_)
      obtain ⟨_, rfl, _, rfl, rfl, rfl⟩ := hq
      show go_W mt_X11_heldBy fr_R 33 [some (pv_r m), some (pv_i x1), some (pv_i x2), some (pv_i (I (m + 1) (60 + 4 * n1)))] [pv_i (I (m + 1) (200 + 14 * n2 + 10))] (mm_si B I) (qi_ (fun x M' => ∃ I', M' = mm_si B I' ∧ P x I'))
      refine go_iload_n dX11_heldBy_33 rfl ?_
      refine go_icmp_eq (tgt := 42) dX11_heldBy_34 (by decide) (fun hc => ?_) (fun hc => ?_)
      · replace H := H.1 hc
        refine go_iload_n dX11_heldBy_42 rfl ?_
        exact go_iret rfl rfl dX11_heldBy_43 ⟨_, rfl, _, rfl, H⟩
      · replace H := H.2 hc
        refine go_bipush (v := (-3 : Int32)) rfl dX11_heldBy_37 ?_
        refine go_goto (tgt := 43) dX11_heldBy_39 (by decide) ?_
        exact go_iret rfl rfl dX11_heldBy_43 ⟨_, rfl, _, rfl, H⟩
  · replace H := H.2 hc
    refine go_V (av := [pv_i x1]) (st := []) (ci := 11) ok_X11_isWorker ⟨by decide, by decide⟩ ml_X11_212 rfl (by decide) (fun v hv => by simp only [List.mem_cons, List.not_mem_nil, or_false] at hv; rcases hv with rfl <;> first | exact pv_1i | exact pv_1r) (Nat.le_of_ble_eq_true rfl) (fun _ h => h) (by decide) rfl RK.1 dX11_heldBy_2 (rx_isWorker_f RK hc) (fun r M' hq _ => ?_)
    obtain ⟨_, rfl, _, rfl, rfl, rfl⟩ := hq
    show go_W mt_X11_heldBy fr_R 5 [some (pv_r m), some (pv_i x1), some (pv_i x2), none] [pv_i (0 : Int32)] (mm_si B I) (qi_ (fun x M' => ∃ I', M' = mm_si B I' ∧ P x I'))
    refine go_if_ne (tgt := 11) dX11_heldBy_5 (by decide) (fun hc => absurd hc (by decide)) (fun _ => ?_)
    refine go_bipush (v := (-2 : Int32)) rfl dX11_heldBy_8 ?_
    exact go_iret rfl rfl dX11_heldBy_10 ⟨_, rfl, _, rfl, H⟩
set_option maxRecDepth 20000 in
theorem wq_X11_done_0 {B : mm_T} {I : Nat → Nat → Int32} {m : Nat} (RK : rf_ok B m) {x1 x2 : Int32} {P : Int32 → (Nat → Nat → Int32) → Prop} (H : rs_i mt_X11_heldBy [pv_r m, pv_i x1, pv_i x2] B I (fun v2 I1 => (((0 ≤ v2) → rs_v mt_X11_isDoneNow [pv_r m, pv_i v2] B I1 (fun I3 => P v2 I3)) ∧ ((¬ 0 ≤ v2) → (I1 m 8 = 0) ∧ (∀ I4, I4 = i2_u I1 m 7 (I1 m 7 + 1) → P v2 I4))))) : rw_i mt_X11_done 0 [some (pv_r m), some (pv_i x1), some (pv_i x2), none] [] B I P := by
  refine go_aload_n dX11_done_0 rfl ?_
  refine go_iload_n dX11_done_1 rfl ?_
  refine go_iload_n dX11_done_2 rfl ?_
  refine go_V (av := [pv_i x1, pv_i x2]) (st := []) (ci := 11) ok_X11_heldBy ⟨by decide, by decide⟩ ml_X11_218 rfl (by decide) (fun v hv => by simp only [List.mem_cons, List.not_mem_nil, or_false] at hv; rcases hv with rfl | rfl <;> first | exact pv_1i | exact pv_1r) (Nat.le_of_ble_eq_true rfl) (fun _ h => h) (by decide) rfl RK.1 dX11_done_3 H (fun r M' hq _ => ?_)
  obtain ⟨v2, rfl, I1, rfl, H⟩ := hq
  show go_W mt_X11_done fr_R 6 [some (pv_r m), some (pv_i x1), some (pv_i x2), none] [pv_i v2] (mm_si B I1) (qi_ (fun x M' => ∃ I', M' = mm_si B I' ∧ P x I'))
  refine go_istore_n (by decide) dX11_done_6 ?_
  show go_W mt_X11_done fr_R 7 [some (pv_r m), some (pv_i x1), some (pv_i x2), some (pv_i v2)] [] (mm_si B I1) (qi_ (fun x M' => ∃ I', M' = mm_si B I' ∧ P x I'))
  refine go_iload_n dX11_done_7 rfl ?_
  refine go_if_ge (tgt := 17) dX11_done_8 (by decide) (fun hc => ?_) (fun hc => ?_)
  · replace H := H.1 hc
    refine go_aload_n dX11_done_17 rfl ?_
    refine go_iload_n dX11_done_18 rfl ?_
    refine go_V (av := [pv_i v2]) (st := []) (ci := 11) ok_X11_isDoneNow ⟨by decide, by decide⟩ ml_X11_221 rfl (by decide) (fun v hv => by simp only [List.mem_cons, List.not_mem_nil, or_false] at hv; rcases hv with rfl <;> first | exact pv_1i | exact pv_1r) (Nat.le_of_ble_eq_true rfl) (fun _ h => h) (by decide) rfl RK.1 dX11_done_19 H (fun r M' hq _ => ?_)
    obtain ⟨rfl, I3, rfl, H⟩ := hq
    show go_W mt_X11_done fr_R 22 [some (pv_r m), some (pv_i x1), some (pv_i x2), some (pv_i v2)] [] (mm_si B I3) (qi_ (fun x M' => ∃ I', M' = mm_si B I' ∧ P x I'))
    refine go_iload_n dX11_done_22 rfl ?_
    exact go_iret rfl rfl dX11_done_23 ⟨_, rfl, _, rfl, H⟩
  · replace H := H.2 hc
    refine go_aload_n dX11_done_11 rfl ?_
    refine go_iload_n dX11_done_12 rfl ?_
    obtain ⟨h8, H⟩ := H
    refine go_V (av := [pv_i v2]) (st := []) (ci := 11) ok_X11_refuses ⟨by decide, by decide⟩ ml_X11_199 rfl (by decide) (fun v hv => by simp only [List.mem_cons, List.not_mem_nil, or_false] at hv; rcases hv with rfl <;> first | exact pv_1i | exact pv_1r) (Nat.le_of_ble_eq_true rfl) (fun _ h => h) (by decide) rfl RK.1 dX11_done_13 (rx_refuses RK h8) (fun r M' hq _ => ?_)
    obtain ⟨_, rfl, _, rfl, rfl, rfl⟩ := hq
    show go_W mt_X11_done fr_R 16 [some (pv_r m), some (pv_i x1), some (pv_i x2), some (pv_i v2)] [pv_i v2] (mm_si B (i2_u I1 m 7 (I1 m 7 + 1))) (qi_ (fun x M' => ∃ I', M' = mm_si B I' ∧ P x I'))
    obtain ⟨I4, hI4⟩ : ∃ I', I' = i2_u I1 m 7 (I1 m 7 + 1) := ⟨_, rfl⟩
    rw [← hI4]
    replace H := H I4 hI4
    exact go_iret rfl rfl dX11_done_16 ⟨_, rfl, _, rfl, H⟩
set_option maxRecDepth 20000 in
theorem wq_X11_fail_0 {B : mm_T} {I : Nat → Nat → Int32} {m : Nat} (RK : rf_ok B m) {x1 x2 x3 : Int32} {P : Int32 → (Nat → Nat → Int32) → Prop} (H : (((((1 : Int32) ≤ x3 ∧ x3 ≤ (99 : Int32))) → rs_i mt_X11_heldBy [pv_r m, pv_i x1, pv_i x2] B I (fun v2 I1 => (((0 ≤ v2) → rs_i mt_X11_failsNow [pv_r m, pv_i v2, pv_i x3] B I1 (fun v4 I3 => P v4 I3)) ∧ ((¬ 0 ≤ v2) → (I1 m 8 = 0) ∧ (∀ I5, I5 = i2_u I1 m 7 (I1 m 7 + 1) → P v2 I5))))) ∧ ((¬ ((1 : Int32) ≤ x3 ∧ x3 ≤ (99 : Int32))) → (I m 8 = 0) ∧ (∀ I6, I6 = i2_u I m 7 (I m 7 + 1) → P (-2 : Int32) I6)))) : rw_i mt_X11_fail 0 [some (pv_r m), some (pv_i x1), some (pv_i x2), some (pv_i x3), none] [] B I P := by
  refine go_iload_n dX11_fail_0 rfl ?_
  refine go_iconst (v := (1 : Int32)) rfl dX11_fail_1 ?_
  refine go_bipush (v := (99 : Int32)) rfl dX11_fail_2 ?_
  by_cases hc : ((1 : Int32) ≤ x3 ∧ x3 ≤ (99 : Int32))
  · replace H := H.1 hc
    refine go_St (av := [pv_i x3, pv_i (1 : Int32), pv_i (99 : Int32)]) (st := []) ok_X11_isIn ⟨by decide, by decide⟩ ml_X11_90 rfl (by decide) (fun v hv => by simp only [List.mem_cons, List.not_mem_nil, or_false] at hv; rcases hv with rfl | rfl | rfl <;> first | exact pv_1i | exact pv_1r) (Nat.le_of_ble_eq_true rfl) (fun _ h => h) dX11_fail_4 (rx_isIn_t RK hc) (fun r M' hq _ => ?_)
    obtain ⟨_, rfl, _, rfl, rfl, rfl⟩ := hq
    show go_W mt_X11_fail fr_R 7 [some (pv_r m), some (pv_i x1), some (pv_i x2), some (pv_i x3), none] [pv_i (1 : Int32)] (mm_si B I) (qi_ (fun x M' => ∃ I', M' = mm_si B I' ∧ P x I'))
    refine go_if_eq (tgt := 19) dX11_fail_7 (by decide) (fun hc => absurd hc (by decide)) (fun _ => ?_)
    refine go_aload_n dX11_fail_10 rfl ?_
    refine go_iload_n dX11_fail_11 rfl ?_
    refine go_iload_n dX11_fail_12 rfl ?_
    refine go_V (av := [pv_i x1, pv_i x2]) (st := []) (ci := 11) ok_X11_heldBy ⟨by decide, by decide⟩ ml_X11_218 rfl (by decide) (fun v hv => by simp only [List.mem_cons, List.not_mem_nil, or_false] at hv; rcases hv with rfl | rfl <;> first | exact pv_1i | exact pv_1r) (Nat.le_of_ble_eq_true rfl) (fun _ h => h) (by decide) rfl RK.1 dX11_fail_13 H (fun r M' hq _ => ?_)
    obtain ⟨v2, rfl, I1, rfl, H⟩ := hq
    show go_W mt_X11_fail fr_R 16 [some (pv_r m), some (pv_i x1), some (pv_i x2), some (pv_i x3), none] [pv_i v2] (mm_si B I1) (qi_ (fun x M' => ∃ I', M' = mm_si B I' ∧ P x I'))
    refine go_goto (tgt := 21) dX11_fail_16 (by decide) ?_
    refine go_istore (by decide) dX11_fail_21 ?_
    show go_W mt_X11_fail fr_R 23 [some (pv_r m), some (pv_i x1), some (pv_i x2), some (pv_i x3), some (pv_i v2)] [] (mm_si B I1) (qi_ (fun x M' => ∃ I', M' = mm_si B I' ∧ P x I'))
    refine go_iload dX11_fail_23 rfl ?_
    refine go_if_ge (tgt := 37) dX11_fail_25 (by decide) (fun hc => ?_) (fun hc => ?_)
    · replace H := H.1 hc
      refine go_aload_n dX11_fail_37 rfl ?_
      refine go_iload dX11_fail_38 rfl ?_
      refine go_iload_n dX11_fail_40 rfl ?_
      refine go_V (av := [pv_i v2, pv_i x3]) (st := []) (ci := 11) ok_X11_failsNow ⟨by decide, by decide⟩ ml_X11_187 rfl (by decide) (fun v hv => by simp only [List.mem_cons, List.not_mem_nil, or_false] at hv; rcases hv with rfl | rfl <;> first | exact pv_1i | exact pv_1r) (Nat.le_of_ble_eq_true rfl) (fun _ h => h) (by decide) rfl RK.1 dX11_fail_41 H (fun r M' hq _ => ?_)
      obtain ⟨v4, rfl, I3, rfl, H⟩ := hq
      show go_W mt_X11_fail fr_R 44 [some (pv_r m), some (pv_i x1), some (pv_i x2), some (pv_i x3), some (pv_i v2)] [pv_i v4] (mm_si B I3) (qi_ (fun x M' => ∃ I', M' = mm_si B I' ∧ P x I'))
      exact go_iret rfl rfl dX11_fail_44 ⟨_, rfl, _, rfl, H⟩
    · replace H := H.2 hc
      refine go_aload_n dX11_fail_28 rfl ?_
      refine go_iload dX11_fail_29 rfl ?_
      obtain ⟨h8, H⟩ := H
      refine go_V (av := [pv_i v2]) (st := []) (ci := 11) ok_X11_refuses ⟨by decide, by decide⟩ ml_X11_199 rfl (by decide) (fun v hv => by simp only [List.mem_cons, List.not_mem_nil, or_false] at hv; rcases hv with rfl <;> first | exact pv_1i | exact pv_1r) (Nat.le_of_ble_eq_true rfl) (fun _ h => h) (by decide) rfl RK.1 dX11_fail_31 (rx_refuses RK h8) (fun r M' hq _ => ?_)
      obtain ⟨_, rfl, _, rfl, rfl, rfl⟩ := hq
      show go_W mt_X11_fail fr_R 34 [some (pv_r m), some (pv_i x1), some (pv_i x2), some (pv_i x3), some (pv_i v2)] [pv_i v2] (mm_si B (i2_u I1 m 7 (I1 m 7 + 1))) (qi_ (fun x M' => ∃ I', M' = mm_si B I' ∧ P x I'))
      obtain ⟨I5, hI5⟩ : ∃ I', I' = i2_u I1 m 7 (I1 m 7 + 1) := ⟨_, rfl⟩
      rw [← hI5]
      replace H := H I5 hI5
      refine go_goto (tgt := 44) dX11_fail_34 (by decide) ?_
      exact go_iret rfl rfl dX11_fail_44 ⟨_, rfl, _, rfl, H⟩
  · replace H := H.2 hc
    refine go_St (av := [pv_i x3, pv_i (1 : Int32), pv_i (99 : Int32)]) (st := []) ok_X11_isIn ⟨by decide, by decide⟩ ml_X11_90 rfl (by decide) (fun v hv => by simp only [List.mem_cons, List.not_mem_nil, or_false] at hv; rcases hv with rfl | rfl | rfl <;> first | exact pv_1i | exact pv_1r) (Nat.le_of_ble_eq_true rfl) (fun _ h => h) dX11_fail_4 (rx_isIn_f RK hc) (fun r M' hq _ => ?_)
    obtain ⟨_, rfl, _, rfl, rfl, rfl⟩ := hq
    show go_W mt_X11_fail fr_R 7 [some (pv_r m), some (pv_i x1), some (pv_i x2), some (pv_i x3), none] [pv_i (0 : Int32)] (mm_si B I) (qi_ (fun x M' => ∃ I', M' = mm_si B I' ∧ P x I'))
    refine go_if_eq (tgt := 19) dX11_fail_7 (by decide) (fun _ => ?_) (fun hc => absurd hc (by decide))
    refine go_bipush (v := (-2 : Int32)) rfl dX11_fail_19 ?_
    refine go_istore (by decide) dX11_fail_21 ?_
    show go_W mt_X11_fail fr_R 23 [some (pv_r m), some (pv_i x1), some (pv_i x2), some (pv_i x3), some (pv_i (-2 : Int32))] [] (mm_si B I) (qi_ (fun x M' => ∃ I', M' = mm_si B I' ∧ P x I'))
    refine go_iload dX11_fail_23 rfl ?_
    refine go_if_ge (tgt := 37) dX11_fail_25 (by decide) (fun hc => absurd hc (by decide)) (fun _ => ?_)
    refine go_aload_n dX11_fail_28 rfl ?_
    refine go_iload dX11_fail_29 rfl ?_
    obtain ⟨h8, H⟩ := H
    refine go_V (av := [pv_i (-2 : Int32)]) (st := []) (ci := 11) ok_X11_refuses ⟨by decide, by decide⟩ ml_X11_199 rfl (by decide) (fun v hv => by simp only [List.mem_cons, List.not_mem_nil, or_false] at hv; rcases hv with rfl <;> first | exact pv_1i | exact pv_1r) (Nat.le_of_ble_eq_true rfl) (fun _ h => h) (by decide) rfl RK.1 dX11_fail_31 (rx_refuses RK h8) (fun r M' hq _ => ?_)
    obtain ⟨_, rfl, _, rfl, rfl, rfl⟩ := hq
    show go_W mt_X11_fail fr_R 34 [some (pv_r m), some (pv_i x1), some (pv_i x2), some (pv_i x3), some (pv_i (-2 : Int32))] [pv_i (-2 : Int32)] (mm_si B (i2_u I m 7 (I m 7 + 1))) (qi_ (fun x M' => ∃ I', M' = mm_si B I' ∧ P x I'))
    obtain ⟨I6, hI6⟩ : ∃ I', I' = i2_u I m 7 (I m 7 + 1) := ⟨_, rfl⟩
    rw [← hI6]
    replace H := H I6 hI6
    refine go_goto (tgt := 44) dX11_fail_34 (by decide) ?_
    exact go_iret rfl rfl dX11_fail_44 ⟨_, rfl, _, rfl, H⟩
set_option maxRecDepth 20000 in
theorem wq_X11_beat_0 {B : mm_T} {I : Nat → Nat → Int32} {m : Nat} (RK : rf_ok B m) {x1 x2 : Int32} {P : Int32 → (Nat → Nat → Int32) → Prop} (H : rs_i mt_X11_heldBy [pv_r m, pv_i x1, pv_i x2] B I (fun v2 I1 => (((0 ≤ v2) → ∃ n3, (v2 = nI n3 ∧ n3 < 400) ∧ (∀ I4, I4 = i2_u I1 (m + 1) (200 + 14 * n3 + 11) (I1 (m + 1) 0 + I1 (m + 1) 5) → P (I4 (m + 1) (200 + 14 * n3 + 11)) I4)) ∧ ((¬ 0 ≤ v2) → (I1 m 8 = 0) ∧ (∀ I5, I5 = i2_u I1 m 7 (I1 m 7 + 1) → P v2 I5))))) : rw_i mt_X11_beat 0 [some (pv_r m), some (pv_i x1), some (pv_i x2), none] [] B I P := by
  refine go_aload_n dX11_beat_0 rfl ?_
  refine go_iload_n dX11_beat_1 rfl ?_
  refine go_iload_n dX11_beat_2 rfl ?_
  refine go_V (av := [pv_i x1, pv_i x2]) (st := []) (ci := 11) ok_X11_heldBy ⟨by decide, by decide⟩ ml_X11_218 rfl (by decide) (fun v hv => by simp only [List.mem_cons, List.not_mem_nil, or_false] at hv; rcases hv with rfl | rfl <;> first | exact pv_1i | exact pv_1r) (Nat.le_of_ble_eq_true rfl) (fun _ h => h) (by decide) rfl RK.1 dX11_beat_3 H (fun r M' hq _ => ?_)
  obtain ⟨v2, rfl, I1, rfl, H⟩ := hq
  show go_W mt_X11_beat fr_R 6 [some (pv_r m), some (pv_i x1), some (pv_i x2), none] [pv_i v2] (mm_si B I1) (qi_ (fun x M' => ∃ I', M' = mm_si B I' ∧ P x I'))
  refine go_istore_n (by decide) dX11_beat_6 ?_
  show go_W mt_X11_beat fr_R 7 [some (pv_r m), some (pv_i x1), some (pv_i x2), some (pv_i v2)] [] (mm_si B I1) (qi_ (fun x M' => ∃ I', M' = mm_si B I' ∧ P x I'))
  refine go_iload_n dX11_beat_7 rfl ?_
  refine go_if_ge (tgt := 17) dX11_beat_8 (by decide) (fun hc => ?_) (fun hc => ?_)
  · replace H := H.1 hc
    refine go_aload_n dX11_beat_17 rfl ?_
    refine go_iload_n dX11_beat_18 rfl ?_
    refine go_bipush (v := (11 : Int32)) rfl dX11_beat_19 ?_
    refine go_aload_n dX11_beat_21 rfl ?_
    refine go_getRe (k := 0) ⟨by decide, rfl, by decide, Or.inr ⟨_, rfl⟩⟩ RK.1 (rf_r1 RK) fl_X11_7 dX11_beat_22 ?_
    refine go_iconst (v := (0 : Int32)) rfl dX11_beat_25 ?_
    refine go_ialdN (j := 0) ⟨by decide, by decide, by decide⟩ (rf_k1 RK) rfl (by decide) dX11_beat_26 ?_
    refine go_aload_n dX11_beat_27 rfl ?_
    refine go_getRe (k := 0) ⟨by decide, rfl, by decide, Or.inr ⟨_, rfl⟩⟩ RK.1 (rf_r1 RK) fl_X11_7 dX11_beat_28 ?_
    refine go_iconst (v := (5 : Int32)) rfl dX11_beat_31 ?_
    refine go_ialdN (j := 5) ⟨by decide, by decide, by decide⟩ (rf_k1 RK) rfl (by decide) dX11_beat_32 ?_
    refine go_iadd dX11_beat_33 ?_
    obtain ⟨n3, ⟨hn3, hn3b⟩, H⟩ := H
    refine go_V (av := [pv_i v2, pv_i (11 : Int32), pv_i (I1 (m + 1) 0 + I1 (m + 1) 5)]) (st := []) (ci := 11) ok_X11_is ⟨by decide, by decide⟩ ml_X11_121 rfl (by decide) (fun v hv => by simp only [List.mem_cons, List.not_mem_nil, or_false] at hv; rcases hv with rfl | rfl | rfl <;> first | exact pv_1i | exact pv_1r) (Nat.le_of_ble_eq_true rfl) (fun _ h => h) (by decide) rfl RK.1 dX11_beat_34 (rx_is RK hn3 rfl hn3b (by decide)) (fun r M' hq _ => ?_)
    obtain ⟨rfl, _, rfl, rfl⟩ := hq
    show go_W mt_X11_beat fr_R 37 [some (pv_r m), some (pv_i x1), some (pv_i x2), some (pv_i v2)] [] (mm_si B (i2_u I1 (m + 1) (200 + 14 * n3 + 11) (I1 (m + 1) 0 + I1 (m + 1) 5))) (qi_ (fun x M' => ∃ I', M' = mm_si B I' ∧ P x I'))
    obtain ⟨I4, hI4⟩ : ∃ I', I' = i2_u I1 (m + 1) (200 + 14 * n3 + 11) (I1 (m + 1) 0 + I1 (m + 1) 5) := ⟨_, rfl⟩
    rw [← hI4]
    replace H := H I4 hI4
    refine go_aload_n dX11_beat_37 rfl ?_
    refine go_iload_n dX11_beat_38 rfl ?_
    refine go_bipush (v := (11 : Int32)) rfl dX11_beat_39 ?_
    refine go_V (av := [pv_i v2, pv_i (11 : Int32)]) (st := []) (ci := 11) ok_X11_of ⟨by decide, by decide⟩ ml_X11_94 rfl (by decide) (fun v hv => by simp only [List.mem_cons, List.not_mem_nil, or_false] at hv; rcases hv with rfl | rfl <;> first | exact pv_1i | exact pv_1r) (Nat.le_of_ble_eq_true rfl) (fun _ h => h) (by decide) rfl RK.1 dX11_beat_41 (rx_of RK hn3 rfl (by omega) (by decide)) (fun r M' hq _ => ?_)
    obtain ⟨_, rfl, _, rfl, rfl, rfl⟩ := hq
    show go_W mt_X11_beat fr_R 44 [some (pv_r m), some (pv_i x1), some (pv_i x2), some (pv_i v2)] [pv_i (I4 (m + 1) (200 + 14 * n3 + 11))] (mm_si B I4) (qi_ (fun x M' => ∃ I', M' = mm_si B I' ∧ P x I'))
    exact go_iret rfl rfl dX11_beat_44 ⟨_, rfl, _, rfl, H⟩
  · replace H := H.2 hc
    refine go_aload_n dX11_beat_11 rfl ?_
    refine go_iload_n dX11_beat_12 rfl ?_
    obtain ⟨h8, H⟩ := H
    refine go_V (av := [pv_i v2]) (st := []) (ci := 11) ok_X11_refuses ⟨by decide, by decide⟩ ml_X11_199 rfl (by decide) (fun v hv => by simp only [List.mem_cons, List.not_mem_nil, or_false] at hv; rcases hv with rfl <;> first | exact pv_1i | exact pv_1r) (Nat.le_of_ble_eq_true rfl) (fun _ h => h) (by decide) rfl RK.1 dX11_beat_13 (rx_refuses RK h8) (fun r M' hq _ => ?_)
    obtain ⟨_, rfl, _, rfl, rfl, rfl⟩ := hq
    show go_W mt_X11_beat fr_R 16 [some (pv_r m), some (pv_i x1), some (pv_i x2), some (pv_i v2)] [pv_i v2] (mm_si B (i2_u I1 m 7 (I1 m 7 + 1))) (qi_ (fun x M' => ∃ I', M' = mm_si B I' ∧ P x I'))
    obtain ⟨I5, hI5⟩ : ∃ I', I' = i2_u I1 m 7 (I1 m 7 + 1) := ⟨_, rfl⟩
    rw [← hI5]
    replace H := H I5 hI5
    exact go_iret rfl rfl dX11_beat_16 ⟨_, rfl, _, rfl, H⟩
set_option maxRecDepth 20000 in
theorem wq_X11_back_0 {B : mm_T} {I : Nat → Nat → Int32} {m : Nat} (RK : rf_ok B m) {x1 x2 : Int32} {P : Int32 → (Nat → Nat → Int32) → Prop} (H : rs_i mt_X11_heldBy [pv_r m, pv_i x1, pv_i x2] B I (fun v2 I1 => (((0 ≤ v2) → rs_v mt_X11_leavesWorker [pv_r m, pv_i v2] B I1 (fun I3 => rs_v mt_X11_waitsNow [pv_r m, pv_i v2] B I3 (fun I4 => rs_v mt_X11_writes [pv_r m, pv_i (5 : Int32), pv_i v2, pv_i (-1 : Int32), pv_i (0 : Int32)] B I4 (fun I5 => P v2 I5)))) ∧ ((¬ 0 ≤ v2) → (I1 m 8 = 0) ∧ (∀ I6, I6 = i2_u I1 m 7 (I1 m 7 + 1) → P v2 I6))))) : rw_i mt_X11_back 0 [some (pv_r m), some (pv_i x1), some (pv_i x2), none] [] B I P := by
  refine go_aload_n dX11_back_0 rfl ?_
  refine go_iload_n dX11_back_1 rfl ?_
  refine go_iload_n dX11_back_2 rfl ?_
  refine go_V (av := [pv_i x1, pv_i x2]) (st := []) (ci := 11) ok_X11_heldBy ⟨by decide, by decide⟩ ml_X11_218 rfl (by decide) (fun v hv => by simp only [List.mem_cons, List.not_mem_nil, or_false] at hv; rcases hv with rfl | rfl <;> first | exact pv_1i | exact pv_1r) (Nat.le_of_ble_eq_true rfl) (fun _ h => h) (by decide) rfl RK.1 dX11_back_3 H (fun r M' hq _ => ?_)
  obtain ⟨v2, rfl, I1, rfl, H⟩ := hq
  show go_W mt_X11_back fr_R 6 [some (pv_r m), some (pv_i x1), some (pv_i x2), none] [pv_i v2] (mm_si B I1) (qi_ (fun x M' => ∃ I', M' = mm_si B I' ∧ P x I'))
  refine go_istore_n (by decide) dX11_back_6 ?_
  show go_W mt_X11_back fr_R 7 [some (pv_r m), some (pv_i x1), some (pv_i x2), some (pv_i v2)] [] (mm_si B I1) (qi_ (fun x M' => ∃ I', M' = mm_si B I' ∧ P x I'))
  refine go_iload_n dX11_back_7 rfl ?_
  refine go_if_ge (tgt := 17) dX11_back_8 (by decide) (fun hc => ?_) (fun hc => ?_)
  · replace H := H.1 hc
    refine go_aload_n dX11_back_17 rfl ?_
    refine go_iload_n dX11_back_18 rfl ?_
    refine go_V (av := [pv_i v2]) (st := []) (ci := 11) ok_X11_leavesWorker ⟨by decide, by decide⟩ ml_X11_136 rfl (by decide) (fun v hv => by simp only [List.mem_cons, List.not_mem_nil, or_false] at hv; rcases hv with rfl <;> first | exact pv_1i | exact pv_1r) (Nat.le_of_ble_eq_true rfl) (fun _ h => h) (by decide) rfl RK.1 dX11_back_19 H (fun r M' hq _ => ?_)
    obtain ⟨rfl, I3, rfl, H⟩ := hq
    show go_W mt_X11_back fr_R 22 [some (pv_r m), some (pv_i x1), some (pv_i x2), some (pv_i v2)] [] (mm_si B I3) (qi_ (fun x M' => ∃ I', M' = mm_si B I' ∧ P x I'))
    refine go_aload_n dX11_back_22 rfl ?_
    refine go_iload_n dX11_back_23 rfl ?_
    refine go_V (av := [pv_i v2]) (st := []) (ci := 11) ok_X11_waitsNow ⟨by decide, by decide⟩ ml_X11_146 rfl (by decide) (fun v hv => by simp only [List.mem_cons, List.not_mem_nil, or_false] at hv; rcases hv with rfl <;> first | exact pv_1i | exact pv_1r) (Nat.le_of_ble_eq_true rfl) (fun _ h => h) (by decide) rfl RK.1 dX11_back_24 H (fun r M' hq _ => ?_)
    obtain ⟨rfl, I4, rfl, H⟩ := hq
    show go_W mt_X11_back fr_R 27 [some (pv_r m), some (pv_i x1), some (pv_i x2), some (pv_i v2)] [] (mm_si B I4) (qi_ (fun x M' => ∃ I', M' = mm_si B I' ∧ P x I'))
    refine go_aload_n dX11_back_27 rfl ?_
    refine go_iconst (v := (5 : Int32)) rfl dX11_back_28 ?_
    refine go_iload_n dX11_back_29 rfl ?_
    refine go_iconst (v := (-1 : Int32)) rfl dX11_back_30 ?_
    refine go_iconst (v := (0 : Int32)) rfl dX11_back_31 ?_
    refine go_V (av := [pv_i (5 : Int32), pv_i v2, pv_i (-1 : Int32), pv_i (0 : Int32)]) (st := []) (ci := 11) ok_X11_writes ⟨by decide, by decide⟩ ml_X11_125 rfl (by decide) (fun v hv => by simp only [List.mem_cons, List.not_mem_nil, or_false] at hv; rcases hv with rfl | rfl | rfl | rfl <;> first | exact pv_1i | exact pv_1r) (Nat.le_of_ble_eq_true rfl) (fun _ h => h) (by decide) rfl RK.1 dX11_back_32 H (fun r M' hq _ => ?_)
    obtain ⟨rfl, I5, rfl, H⟩ := hq
    show go_W mt_X11_back fr_R 35 [some (pv_r m), some (pv_i x1), some (pv_i x2), some (pv_i v2)] [] (mm_si B I5) (qi_ (fun x M' => ∃ I', M' = mm_si B I' ∧ P x I'))
    refine go_iload_n dX11_back_35 rfl ?_
    exact go_iret rfl rfl dX11_back_36 ⟨_, rfl, _, rfl, H⟩
  · replace H := H.2 hc
    refine go_aload_n dX11_back_11 rfl ?_
    refine go_iload_n dX11_back_12 rfl ?_
    obtain ⟨h8, H⟩ := H
    refine go_V (av := [pv_i v2]) (st := []) (ci := 11) ok_X11_refuses ⟨by decide, by decide⟩ ml_X11_199 rfl (by decide) (fun v hv => by simp only [List.mem_cons, List.not_mem_nil, or_false] at hv; rcases hv with rfl <;> first | exact pv_1i | exact pv_1r) (Nat.le_of_ble_eq_true rfl) (fun _ h => h) (by decide) rfl RK.1 dX11_back_13 (rx_refuses RK h8) (fun r M' hq _ => ?_)
    obtain ⟨_, rfl, _, rfl, rfl, rfl⟩ := hq
    show go_W mt_X11_back fr_R 16 [some (pv_r m), some (pv_i x1), some (pv_i x2), some (pv_i v2)] [pv_i v2] (mm_si B (i2_u I1 m 7 (I1 m 7 + 1))) (qi_ (fun x M' => ∃ I', M' = mm_si B I' ∧ P x I'))
    obtain ⟨I6, hI6⟩ : ∃ I', I' = i2_u I1 m 7 (I1 m 7 + 1) := ⟨_, rfl⟩
    rw [← hI6]
    replace H := H I6 hI6
    exact go_iret rfl rfl dX11_back_16 ⟨_, rfl, _, rfl, H⟩
set_option maxRecDepth 20000 in
theorem wq_X11_hand_0 {B : mm_T} {I : Nat → Nat → Int32} {m : Nat} (RK : rf_ok B m) {x1 x2 x3 : Int32} {P : Int32 → (Nat → Nat → Int32) → Prop} (H : ((((0 ≤ x3 ∧ x3 ≤ 5)) → rs_i mt_X11_heldBy [pv_r m, pv_i x1, pv_i x2] B I (fun v2 I1 => (((0 ≤ v2) → ∃ n3, (x3 = nI n3 ∧ n3 < 6) ∧ ((((I1 (m + 1) (60 + 4 * n3) = (-1 : Int32)) → ∃ n4, (x1 = nI n4 ∧ n4 < 6) ∧ (∀ I5, I5 = i2_u I1 (m + 1) (60 + 4 * n4) (-1 : Int32) → ∀ I6, I6 = i2_u I5 (m + 1) (60 + 4 * n3) v2 → ∃ n7, (v2 = nI n7 ∧ n7 < 400) ∧ (∀ I8, I8 = i2_u I6 (m + 1) (200 + 14 * n7 + 9) x3 → ∀ I9, I9 = i2_u I8 (m + 1) (200 + 14 * n7 + 11) (I8 (m + 1) 0 + I8 (m + 1) 5) → P v2 I9))) ∧ ((¬ I1 (m + 1) (60 + 4 * n3) = (-1 : Int32)) → (I1 m 8 = 0) ∧ (∀ I10, I10 = i2_u I1 m 7 (I1 m 7 + 1) → P (-3 : Int32) I10))))) ∧ ((¬ 0 ≤ v2) → (I1 m 8 = 0) ∧ (∀ I11, I11 = i2_u I1 m 7 (I1 m 7 + 1) → P v2 I11))))) ∧ ((¬ (0 ≤ x3 ∧ x3 ≤ 5)) → (I m 8 = 0) ∧ (∀ I12, I12 = i2_u I m 7 (I m 7 + 1) → P (-2 : Int32) I12)))) : rw_i mt_X11_hand 0 [some (pv_r m), some (pv_i x1), some (pv_i x2), some (pv_i x3), none] [] B I P := by
  refine go_aload_n dX11_hand_0 rfl ?_
  refine go_iload_n dX11_hand_1 rfl ?_
  by_cases hc : (0 ≤ x3 ∧ x3 ≤ 5)
  · replace H := H.1 hc
    refine go_V (av := [pv_i x3]) (st := []) (ci := 11) ok_X11_isWorker ⟨by decide, by decide⟩ ml_X11_212 rfl (by decide) (fun v hv => by simp only [List.mem_cons, List.not_mem_nil, or_false] at hv; rcases hv with rfl <;> first | exact pv_1i | exact pv_1r) (Nat.le_of_ble_eq_true rfl) (fun _ h => h) (by decide) rfl RK.1 dX11_hand_2 (rx_isWorker_t RK hc) (fun r M' hq _ => ?_)
    obtain ⟨_, rfl, _, rfl, rfl, rfl⟩ := hq
    show go_W mt_X11_hand fr_R 5 [some (pv_r m), some (pv_i x1), some (pv_i x2), some (pv_i x3), none] [pv_i (1 : Int32)] (mm_si B I) (qi_ (fun x M' => ∃ I', M' = mm_si B I' ∧ P x I'))
    refine go_if_eq (tgt := 17) dX11_hand_5 (by decide) (fun hc => absurd hc (by decide)) (fun _ => ?_)
    refine go_aload_n dX11_hand_8 rfl ?_
    refine go_iload_n dX11_hand_9 rfl ?_
    refine go_iload_n dX11_hand_10 rfl ?_
    refine go_V (av := [pv_i x1, pv_i x2]) (st := []) (ci := 11) ok_X11_heldBy ⟨by decide, by decide⟩ ml_X11_218 rfl (by decide) (fun v hv => by simp only [List.mem_cons, List.not_mem_nil, or_false] at hv; rcases hv with rfl | rfl <;> first | exact pv_1i | exact pv_1r) (Nat.le_of_ble_eq_true rfl) (fun _ h => h) (by decide) rfl RK.1 dX11_hand_11 H (fun r M' hq _ => ?_)
    obtain ⟨v2, rfl, I1, rfl, H⟩ := hq
    show go_W mt_X11_hand fr_R 14 [some (pv_r m), some (pv_i x1), some (pv_i x2), some (pv_i x3), none] [pv_i v2] (mm_si B I1) (qi_ (fun x M' => ∃ I', M' = mm_si B I' ∧ P x I'))
    refine go_goto (tgt := 19) dX11_hand_14 (by decide) ?_
    refine go_istore (by decide) dX11_hand_19 ?_
    show go_W mt_X11_hand fr_R 21 [some (pv_r m), some (pv_i x1), some (pv_i x2), some (pv_i x3), some (pv_i v2)] [] (mm_si B I1) (qi_ (fun x M' => ∃ I', M' = mm_si B I' ∧ P x I'))
    refine go_iload dX11_hand_21 rfl ?_
    refine go_if_ge (tgt := 33) dX11_hand_23 (by decide) (fun hc => ?_) (fun hc => ?_)
    · replace H := H.1 hc
      refine go_aload_n dX11_hand_33 rfl ?_
      refine go_getRe (k := 0) ⟨by decide, rfl, by decide, Or.inr ⟨_, rfl⟩⟩ RK.1 (rf_r1 RK) fl_X11_7 dX11_hand_34 ?_
      refine go_iload_n dX11_hand_37 rfl ?_
      obtain ⟨n3, ⟨hn3, hn3b⟩, H⟩ := H
      refine go_St (av := [pv_i x3]) (st := [pv_r (m + 1)]) ok_X11_workerAt ⟨by decide, by decide⟩ ml_X11_84 rfl (by decide) (fun v hv => by simp only [List.mem_cons, List.not_mem_nil, or_false] at hv; rcases hv with rfl <;> first | exact pv_1i | exact pv_1r) (Nat.le_of_ble_eq_true rfl) (fun _ h => h) dX11_hand_38 (rx_workerAt RK hn3) (fun r M' hq _ => ?_)
      obtain ⟨_, rfl, _, rfl, rfl, rfl⟩ := hq
      show go_W mt_X11_hand fr_R 41 [some (pv_r m), some (pv_i x1), some (pv_i x2), some (pv_i x3), some (pv_i v2)] [pv_i (nI (60 + 4 * n3)), pv_r (m + 1)] (mm_si B I1) (qi_ (fun x M' => ∃ I', M' = mm_si B I' ∧ P x I'))
      refine go_ialdN (j := (60 + 4 * n3)) ⟨by decide, by decide, by decide⟩ (rf_k1 RK) rfl (by omega) dX11_hand_41 ?_
      refine go_iconst (v := (-1 : Int32)) rfl dX11_hand_42 ?_
      refine go_icmp_eq (tgt := 53) dX11_hand_43 (by decide) (fun hc => ?_) (fun hc => ?_)
      · replace H := H.1 hc
        refine go_aload_n dX11_hand_53 rfl ?_
        refine go_getRe (k := 0) ⟨by decide, rfl, by decide, Or.inr ⟨_, rfl⟩⟩ RK.1 (rf_r1 RK) fl_X11_7 dX11_hand_54 ?_
        refine go_iload_n dX11_hand_57 rfl ?_
        obtain ⟨n4, ⟨hn4, hn4b⟩, H⟩ := H
        refine go_St (av := [pv_i x1]) (st := [pv_r (m + 1)]) ok_X11_workerAt ⟨by decide, by decide⟩ ml_X11_84 rfl (by decide) (fun v hv => by simp only [List.mem_cons, List.not_mem_nil, or_false] at hv; rcases hv with rfl <;> first | exact pv_1i | exact pv_1r) (Nat.le_of_ble_eq_true rfl) (fun _ h => h) dX11_hand_58 (rx_workerAt RK hn4) (fun r M' hq _ => ?_)
        obtain ⟨_, rfl, _, rfl, rfl, rfl⟩ := hq
        show go_W mt_X11_hand fr_R 61 [some (pv_r m), some (pv_i x1), some (pv_i x2), some (pv_i x3), some (pv_i v2)] [pv_i (nI (60 + 4 * n4)), pv_r (m + 1)] (mm_si B I1) (qi_ (fun x M' => ∃ I', M' = mm_si B I' ∧ P x I'))
        refine go_iconst (v := (-1 : Int32)) rfl dX11_hand_61 ?_
        refine go_iastN (j := (60 + 4 * n4)) ⟨by decide, by decide, by decide⟩ (rf_k1 RK) rfl rfl (by omega) dX11_hand_62 ?_
        show go_W mt_X11_hand fr_R 63 [some (pv_r m), some (pv_i x1), some (pv_i x2), some (pv_i x3), some (pv_i v2)] [] (mm_si B (i2_u I1 (m + 1) (60 + 4 * n4) (-1 : Int32))) (qi_ (fun x M' => ∃ I', M' = mm_si B I' ∧ P x I'))
        obtain ⟨I5, hI5⟩ : ∃ I', I' = i2_u I1 (m + 1) (60 + 4 * n4) (-1 : Int32) := ⟨_, rfl⟩
        rw [← hI5]
        replace H := H I5 hI5
        refine go_aload_n dX11_hand_63 rfl ?_
        refine go_getRe (k := 0) ⟨by decide, rfl, by decide, Or.inr ⟨_, rfl⟩⟩ RK.1 (rf_r1 RK) fl_X11_7 dX11_hand_64 ?_
        refine go_iload_n dX11_hand_67 rfl ?_
        refine go_St (av := [pv_i x3]) (st := [pv_r (m + 1)]) ok_X11_workerAt ⟨by decide, by decide⟩ ml_X11_84 rfl (by decide) (fun v hv => by simp only [List.mem_cons, List.not_mem_nil, or_false] at hv; rcases hv with rfl <;> first | exact pv_1i | exact pv_1r) (Nat.le_of_ble_eq_true rfl) (fun _ h => h) dX11_hand_68 (rx_workerAt RK hn3) (fun r M' hq _ => ?_)
        obtain ⟨_, rfl, _, rfl, rfl, rfl⟩ := hq
        show go_W mt_X11_hand fr_R 71 [some (pv_r m), some (pv_i x1), some (pv_i x2), some (pv_i x3), some (pv_i v2)] [pv_i (nI (60 + 4 * n3)), pv_r (m + 1)] (mm_si B I5) (qi_ (fun x M' => ∃ I', M' = mm_si B I' ∧ P x I'))
        refine go_iload dX11_hand_71 rfl ?_
        refine go_iastN (j := (60 + 4 * n3)) ⟨by decide, by decide, by decide⟩ (rf_k1 RK) rfl rfl (by omega) dX11_hand_73 ?_
        show go_W mt_X11_hand fr_R 74 [some (pv_r m), some (pv_i x1), some (pv_i x2), some (pv_i x3), some (pv_i v2)] [] (mm_si B (i2_u I5 (m + 1) (60 + 4 * n3) v2)) (qi_ (fun x M' => ∃ I', M' = mm_si B I' ∧ P x I'))
        obtain ⟨I6, hI6⟩ : ∃ I', I' = i2_u I5 (m + 1) (60 + 4 * n3) v2 := ⟨_, rfl⟩
        rw [← hI6]
        replace H := H I6 hI6
        refine go_aload_n dX11_hand_74 rfl ?_
        refine go_iload dX11_hand_75 rfl ?_
        refine go_bipush (v := (9 : Int32)) rfl dX11_hand_77 ?_
        refine go_iload_n dX11_hand_79 rfl ?_
        obtain ⟨n7, ⟨hn7, hn7b⟩, H⟩ := H
        refine go_V (av := [pv_i v2, pv_i (9 : Int32), pv_i x3]) (st := []) (ci := 11) ok_X11_is ⟨by decide, by decide⟩ ml_X11_121 rfl (by decide) (fun v hv => by simp only [List.mem_cons, List.not_mem_nil, or_false] at hv; rcases hv with rfl | rfl | rfl <;> first | exact pv_1i | exact pv_1r) (Nat.le_of_ble_eq_true rfl) (fun _ h => h) (by decide) rfl RK.1 dX11_hand_80 (rx_is RK hn7 rfl hn7b (by decide)) (fun r M' hq _ => ?_)
        obtain ⟨rfl, _, rfl, rfl⟩ := hq
        show go_W mt_X11_hand fr_R 83 [some (pv_r m), some (pv_i x1), some (pv_i x2), some (pv_i x3), some (pv_i v2)] [] (mm_si B (i2_u I6 (m + 1) (200 + 14 * n7 + 9) x3)) (qi_ (fun x M' => ∃ I', M' = mm_si B I' ∧ P x I'))
        obtain ⟨I8, hI8⟩ : ∃ I', I' = i2_u I6 (m + 1) (200 + 14 * n7 + 9) x3 := ⟨_, rfl⟩
        rw [← hI8]
        replace H := H I8 hI8
        refine go_aload_n dX11_hand_83 rfl ?_
        refine go_iload dX11_hand_84 rfl ?_
        refine go_bipush (v := (11 : Int32)) rfl dX11_hand_86 ?_
        refine go_aload_n dX11_hand_88 rfl ?_
        refine go_getRe (k := 0) ⟨by decide, rfl, by decide, Or.inr ⟨_, rfl⟩⟩ RK.1 (rf_r1 RK) fl_X11_7 dX11_hand_89 ?_
        refine go_iconst (v := (0 : Int32)) rfl dX11_hand_92 ?_
        refine go_ialdN (j := 0) ⟨by decide, by decide, by decide⟩ (rf_k1 RK) rfl (by decide) dX11_hand_93 ?_
        refine go_aload_n dX11_hand_94 rfl ?_
        refine go_getRe (k := 0) ⟨by decide, rfl, by decide, Or.inr ⟨_, rfl⟩⟩ RK.1 (rf_r1 RK) fl_X11_7 dX11_hand_95 ?_
        refine go_iconst (v := (5 : Int32)) rfl dX11_hand_98 ?_
        refine go_ialdN (j := 5) ⟨by decide, by decide, by decide⟩ (rf_k1 RK) rfl (by decide) dX11_hand_99 ?_
        refine go_iadd dX11_hand_100 ?_
        refine go_V (av := [pv_i v2, pv_i (11 : Int32), pv_i (I8 (m + 1) 0 + I8 (m + 1) 5)]) (st := []) (ci := 11) ok_X11_is ⟨by decide, by decide⟩ ml_X11_121 rfl (by decide) (fun v hv => by simp only [List.mem_cons, List.not_mem_nil, or_false] at hv; rcases hv with rfl | rfl | rfl <;> first | exact pv_1i | exact pv_1r) (Nat.le_of_ble_eq_true rfl) (fun _ h => h) (by decide) rfl RK.1 dX11_hand_101 (rx_is RK hn7 rfl (by omega) (by decide)) (fun r M' hq _ => ?_)
        obtain ⟨rfl, _, rfl, rfl⟩ := hq
        show go_W mt_X11_hand fr_R 104 [some (pv_r m), some (pv_i x1), some (pv_i x2), some (pv_i x3), some (pv_i v2)] [] (mm_si B (i2_u I8 (m + 1) (200 + 14 * n7 + 11) (I8 (m + 1) 0 + I8 (m + 1) 5))) (qi_ (fun x M' => ∃ I', M' = mm_si B I' ∧ P x I'))
        obtain ⟨I9, hI9⟩ : ∃ I', I' = i2_u I8 (m + 1) (200 + 14 * n7 + 11) (I8 (m + 1) 0 + I8 (m + 1) 5) := ⟨_, rfl⟩
        rw [← hI9]
        replace H := H I9 hI9
        refine go_iload dX11_hand_104 rfl ?_
        exact go_iret rfl rfl dX11_hand_106 ⟨_, rfl, _, rfl, H⟩
      · replace H := H.2 hc
        refine go_aload_n dX11_hand_46 rfl ?_
        refine go_bipush (v := (-3 : Int32)) rfl dX11_hand_47 ?_
        obtain ⟨h8, H⟩ := H
        refine go_V (av := [pv_i (-3 : Int32)]) (st := []) (ci := 11) ok_X11_refuses ⟨by decide, by decide⟩ ml_X11_199 rfl (by decide) (fun v hv => by simp only [List.mem_cons, List.not_mem_nil, or_false] at hv; rcases hv with rfl <;> first | exact pv_1i | exact pv_1r) (Nat.le_of_ble_eq_true rfl) (fun _ h => h) (by decide) rfl RK.1 dX11_hand_49 (rx_refuses RK h8) (fun r M' hq _ => ?_)
        obtain ⟨_, rfl, _, rfl, rfl, rfl⟩ := hq
        show go_W mt_X11_hand fr_R 52 [some (pv_r m), some (pv_i x1), some (pv_i x2), some (pv_i x3), some (pv_i v2)] [pv_i (-3 : Int32)] (mm_si B (i2_u I1 m 7 (I1 m 7 + 1))) (qi_ (fun x M' => ∃ I', M' = mm_si B I' ∧ P x I'))
        obtain ⟨I10, hI10⟩ : ∃ I', I' = i2_u I1 m 7 (I1 m 7 + 1) := ⟨_, rfl⟩
        rw [← hI10]
        replace H := H I10 hI10
        exact go_iret rfl rfl dX11_hand_52 ⟨_, rfl, _, rfl, H⟩
    · replace H := H.2 hc
      refine go_aload_n dX11_hand_26 rfl ?_
      refine go_iload dX11_hand_27 rfl ?_
      obtain ⟨h8, H⟩ := H
      refine go_V (av := [pv_i v2]) (st := []) (ci := 11) ok_X11_refuses ⟨by decide, by decide⟩ ml_X11_199 rfl (by decide) (fun v hv => by simp only [List.mem_cons, List.not_mem_nil, or_false] at hv; rcases hv with rfl <;> first | exact pv_1i | exact pv_1r) (Nat.le_of_ble_eq_true rfl) (fun _ h => h) (by decide) rfl RK.1 dX11_hand_29 (rx_refuses RK h8) (fun r M' hq _ => ?_)
      obtain ⟨_, rfl, _, rfl, rfl, rfl⟩ := hq
      show go_W mt_X11_hand fr_R 32 [some (pv_r m), some (pv_i x1), some (pv_i x2), some (pv_i x3), some (pv_i v2)] [pv_i v2] (mm_si B (i2_u I1 m 7 (I1 m 7 + 1))) (qi_ (fun x M' => ∃ I', M' = mm_si B I' ∧ P x I'))
      obtain ⟨I11, hI11⟩ : ∃ I', I' = i2_u I1 m 7 (I1 m 7 + 1) := ⟨_, rfl⟩
      rw [← hI11]
      replace H := H I11 hI11
      exact go_iret rfl rfl dX11_hand_32 ⟨_, rfl, _, rfl, H⟩
  · replace H := H.2 hc
    refine go_V (av := [pv_i x3]) (st := []) (ci := 11) ok_X11_isWorker ⟨by decide, by decide⟩ ml_X11_212 rfl (by decide) (fun v hv => by simp only [List.mem_cons, List.not_mem_nil, or_false] at hv; rcases hv with rfl <;> first | exact pv_1i | exact pv_1r) (Nat.le_of_ble_eq_true rfl) (fun _ h => h) (by decide) rfl RK.1 dX11_hand_2 (rx_isWorker_f RK hc) (fun r M' hq _ => ?_)
    obtain ⟨_, rfl, _, rfl, rfl, rfl⟩ := hq
    show go_W mt_X11_hand fr_R 5 [some (pv_r m), some (pv_i x1), some (pv_i x2), some (pv_i x3), none] [pv_i (0 : Int32)] (mm_si B I) (qi_ (fun x M' => ∃ I', M' = mm_si B I' ∧ P x I'))
    refine go_if_eq (tgt := 17) dX11_hand_5 (by decide) (fun _ => ?_) (fun hc => absurd hc (by decide))
    refine go_bipush (v := (-2 : Int32)) rfl dX11_hand_17 ?_
    refine go_istore (by decide) dX11_hand_19 ?_
    show go_W mt_X11_hand fr_R 21 [some (pv_r m), some (pv_i x1), some (pv_i x2), some (pv_i x3), some (pv_i (-2 : Int32))] [] (mm_si B I) (qi_ (fun x M' => ∃ I', M' = mm_si B I' ∧ P x I'))
    refine go_iload dX11_hand_21 rfl ?_
    refine go_if_ge (tgt := 33) dX11_hand_23 (by decide) (fun hc => absurd hc (by decide)) (fun _ => ?_)
    refine go_aload_n dX11_hand_26 rfl ?_
    refine go_iload dX11_hand_27 rfl ?_
    obtain ⟨h8, H⟩ := H
    refine go_V (av := [pv_i (-2 : Int32)]) (st := []) (ci := 11) ok_X11_refuses ⟨by decide, by decide⟩ ml_X11_199 rfl (by decide) (fun v hv => by simp only [List.mem_cons, List.not_mem_nil, or_false] at hv; rcases hv with rfl <;> first | exact pv_1i | exact pv_1r) (Nat.le_of_ble_eq_true rfl) (fun _ h => h) (by decide) rfl RK.1 dX11_hand_29 (rx_refuses RK h8) (fun r M' hq _ => ?_)
    obtain ⟨_, rfl, _, rfl, rfl, rfl⟩ := hq
    show go_W mt_X11_hand fr_R 32 [some (pv_r m), some (pv_i x1), some (pv_i x2), some (pv_i x3), some (pv_i (-2 : Int32))] [pv_i (-2 : Int32)] (mm_si B (i2_u I m 7 (I m 7 + 1))) (qi_ (fun x M' => ∃ I', M' = mm_si B I' ∧ P x I'))
    obtain ⟨I12, hI12⟩ : ∃ I', I' = i2_u I m 7 (I m 7 + 1) := ⟨_, rfl⟩
    rw [← hI12]
    replace H := H I12 hI12
    exact go_iret rfl rfl dX11_hand_32 ⟨_, rfl, _, rfl, H⟩
set_option maxRecDepth 20000 in
theorem wq_X11_every_0 {B : mm_T} {I : Nat → Nat → Int32} {m : Nat} (RK : rf_ok B m) {x1 x2 x3 x4 x5 : Int32} {P : Int32 → (Nat → Nat → Int32) → Prop} (H : ((((0 ≤ x1 ∧ x1 ≤ 4)) → ((((0 ≤ x2 ∧ x2 ≤ 9)) → (((((1 : Int32) ≤ x3 ∧ x3 ≤ (20 : Int32))) → ((((0 ≤ x4 ∧ x4 ≤ 9999)) → (((((1 : Int32) ≤ x5 ∧ x5 ≤ (99 : Int32))) → (((¬ I (m + 1) 84 = (12 : Int32)) → ∃ n1, (I (m + 1) 84 = nI n1 ∧ n1 < 12) ∧ (∀ I2, I2 = i2_u I (m + 1) ((85 + 8 * n1) + 0) x1 → ∀ I3, I3 = i2_u I2 (m + 1) ((85 + 8 * n1) + 1) x2 → ∀ I4, I4 = i2_u I3 (m + 1) ((85 + 8 * n1) + 2) x3 → ∀ I5, I5 = i2_u I4 (m + 1) ((85 + 8 * n1) + 3) x4 → ∀ I6, I6 = i2_u I5 (m + 1) ((85 + 8 * n1) + 4) x5 → ∀ I7, I7 = i2_u I6 (m + 1) ((85 + 8 * n1) + 5) (0 : Int32) → ∀ I8, I8 = i2_u I7 (m + 1) ((85 + 8 * n1) + 6) (0 : Int32) → ∀ I9, I9 = i2_u I8 (m + 1) ((85 + 8 * n1) + 7) (I8 (m + 1) 0 + x5) → ∀ I10, I10 = i2_u I9 (m + 1) 84 (I9 (m + 1) 84 + (1 : Int32)) → P (I (m + 1) 84) I10)) ∧ ((I (m + 1) 84 = (12 : Int32)) → (I m 8 = 0) ∧ (∀ I11, I11 = i2_u I m 7 (I m 7 + 1) → P (-6 : Int32) I11)))) ∧ ((¬ ((1 : Int32) ≤ x5 ∧ x5 ≤ (99 : Int32))) → (I m 8 = 0) ∧ (∀ I12, I12 = i2_u I m 7 (I m 7 + 1) → P (-2 : Int32) I12)))) ∧ ((¬ (0 ≤ x4 ∧ x4 ≤ 9999)) → (I m 8 = 0) ∧ (∀ I13, I13 = i2_u I m 7 (I m 7 + 1) → P (-2 : Int32) I13)))) ∧ ((¬ ((1 : Int32) ≤ x3 ∧ x3 ≤ (20 : Int32))) → (I m 8 = 0) ∧ (∀ I14, I14 = i2_u I m 7 (I m 7 + 1) → P (-2 : Int32) I14)))) ∧ ((¬ (0 ≤ x2 ∧ x2 ≤ 9)) → (I m 8 = 0) ∧ (∀ I15, I15 = i2_u I m 7 (I m 7 + 1) → P (-2 : Int32) I15)))) ∧ ((¬ (0 ≤ x1 ∧ x1 ≤ 4)) → (I m 8 = 0) ∧ (∀ I16, I16 = i2_u I m 7 (I m 7 + 1) → P (-2 : Int32) I16)))) : rw_i mt_X11_every 0 [some (pv_r m), some (pv_i x1), some (pv_i x2), some (pv_i x3), some (pv_i x4), some (pv_i x5), none, none] [] B I P := by
  refine go_aload_n dX11_every_0 rfl ?_
  refine go_iload_n dX11_every_1 rfl ?_
  by_cases hc : (0 ≤ x1 ∧ x1 ≤ 4)
  · replace H := H.1 hc
    refine go_V (av := [pv_i x1]) (st := []) (ci := 11) ok_X11_isLane ⟨by decide, by decide⟩ ml_X11_152 rfl (by decide) (fun v hv => by simp only [List.mem_cons, List.not_mem_nil, or_false] at hv; rcases hv with rfl <;> first | exact pv_1i | exact pv_1r) (Nat.le_of_ble_eq_true rfl) (fun _ h => h) (by decide) rfl RK.1 dX11_every_2 (rx_isLane_t RK hc) (fun r M' hq _ => ?_)
    obtain ⟨_, rfl, _, rfl, rfl, rfl⟩ := hq
    show go_W mt_X11_every fr_R 5 [some (pv_r m), some (pv_i x1), some (pv_i x2), some (pv_i x3), some (pv_i x4), some (pv_i x5), none, none] [pv_i (1 : Int32)] (mm_si B I) (qi_ (fun x M' => ∃ I', M' = mm_si B I' ∧ P x I'))
    refine go_if_eq (tgt := 44) dX11_every_5 (by decide) (fun hc => absurd hc (by decide)) (fun _ => ?_)
    refine go_iload_n dX11_every_8 rfl ?_
    by_cases hc : (0 ≤ x2 ∧ x2 ≤ 9)
    · replace H := H.1 hc
      refine go_St (av := [pv_i x2]) (st := []) ok_X11_isPriority ⟨by decide, by decide⟩ ml_X11_155 rfl (by decide) (fun v hv => by simp only [List.mem_cons, List.not_mem_nil, or_false] at hv; rcases hv with rfl <;> first | exact pv_1i | exact pv_1r) (Nat.le_of_ble_eq_true rfl) (fun _ h => h) dX11_every_9 (rx_isPriority_t RK hc) (fun r M' hq _ => ?_)
      obtain ⟨_, rfl, _, rfl, rfl, rfl⟩ := hq
      show go_W mt_X11_every fr_R 12 [some (pv_r m), some (pv_i x1), some (pv_i x2), some (pv_i x3), some (pv_i x4), some (pv_i x5), none, none] [pv_i (1 : Int32)] (mm_si B I) (qi_ (fun x M' => ∃ I', M' = mm_si B I' ∧ P x I'))
      refine go_if_eq (tgt := 44) dX11_every_12 (by decide) (fun hc => absurd hc (by decide)) (fun _ => ?_)
      refine go_iload_n dX11_every_15 rfl ?_
      refine go_iconst (v := (1 : Int32)) rfl dX11_every_16 ?_
      refine go_bipush (v := (20 : Int32)) rfl dX11_every_17 ?_
      by_cases hc : ((1 : Int32) ≤ x3 ∧ x3 ≤ (20 : Int32))
      · replace H := H.1 hc
        refine go_St (av := [pv_i x3, pv_i (1 : Int32), pv_i (20 : Int32)]) (st := []) ok_X11_isIn ⟨by decide, by decide⟩ ml_X11_90 rfl (by decide) (fun v hv => by simp only [List.mem_cons, List.not_mem_nil, or_false] at hv; rcases hv with rfl | rfl | rfl <;> first | exact pv_1i | exact pv_1r) (Nat.le_of_ble_eq_true rfl) (fun _ h => h) dX11_every_19 (rx_isIn_t RK hc) (fun r M' hq _ => ?_)
        obtain ⟨_, rfl, _, rfl, rfl, rfl⟩ := hq
        show go_W mt_X11_every fr_R 22 [some (pv_r m), some (pv_i x1), some (pv_i x2), some (pv_i x3), some (pv_i x4), some (pv_i x5), none, none] [pv_i (1 : Int32)] (mm_si B I) (qi_ (fun x M' => ∃ I', M' = mm_si B I' ∧ P x I'))
        refine go_if_eq (tgt := 44) dX11_every_22 (by decide) (fun hc => absurd hc (by decide)) (fun _ => ?_)
        refine go_iload dX11_every_25 rfl ?_
        by_cases hc : (0 ≤ x4 ∧ x4 ≤ 9999)
        · replace H := H.1 hc
          refine go_St (av := [pv_i x4]) (st := []) ok_X11_isKey ⟨by decide, by decide⟩ ml_X11_158 rfl (by decide) (fun v hv => by simp only [List.mem_cons, List.not_mem_nil, or_false] at hv; rcases hv with rfl <;> first | exact pv_1i | exact pv_1r) (Nat.le_of_ble_eq_true rfl) (fun _ h => h) dX11_every_27 (rx_isKey_t RK hc) (fun r M' hq _ => ?_)
          obtain ⟨_, rfl, _, rfl, rfl, rfl⟩ := hq
          show go_W mt_X11_every fr_R 30 [some (pv_r m), some (pv_i x1), some (pv_i x2), some (pv_i x3), some (pv_i x4), some (pv_i x5), none, none] [pv_i (1 : Int32)] (mm_si B I) (qi_ (fun x M' => ∃ I', M' = mm_si B I' ∧ P x I'))
          refine go_if_eq (tgt := 44) dX11_every_30 (by decide) (fun hc => absurd hc (by decide)) (fun _ => ?_)
          refine go_iload dX11_every_33 rfl ?_
          refine go_iconst (v := (1 : Int32)) rfl dX11_every_35 ?_
          refine go_bipush (v := (99 : Int32)) rfl dX11_every_36 ?_
          by_cases hc : ((1 : Int32) ≤ x5 ∧ x5 ≤ (99 : Int32))
          · replace H := H.1 hc
            refine go_St (av := [pv_i x5, pv_i (1 : Int32), pv_i (99 : Int32)]) (st := []) ok_X11_isIn ⟨by decide, by decide⟩ ml_X11_90 rfl (by decide) (fun v hv => by simp only [List.mem_cons, List.not_mem_nil, or_false] at hv; rcases hv with rfl | rfl | rfl <;> first | exact pv_1i | exact pv_1r) (Nat.le_of_ble_eq_true rfl) (fun _ h => h) dX11_every_38 (rx_isIn_t RK hc) (fun r M' hq _ => ?_)
            obtain ⟨_, rfl, _, rfl, rfl, rfl⟩ := hq
            show go_W mt_X11_every fr_R 41 [some (pv_r m), some (pv_i x1), some (pv_i x2), some (pv_i x3), some (pv_i x4), some (pv_i x5), none, none] [pv_i (1 : Int32)] (mm_si B I) (qi_ (fun x M' => ∃ I', M' = mm_si B I' ∧ P x I'))
            refine go_if_ne (tgt := 51) dX11_every_41 (by decide) (fun _ => ?_) (fun hc => absurd hc (by decide))
            refine go_aload_n dX11_every_51 rfl ?_
            refine go_getRe (k := 0) ⟨by decide, rfl, by decide, Or.inr ⟨_, rfl⟩⟩ RK.1 (rf_r1 RK) fl_X11_7 dX11_every_52 ?_
            refine go_bipush (v := (84 : Int32)) rfl dX11_every_55 ?_
            refine go_ialdN (j := 84) ⟨by decide, by decide, by decide⟩ (rf_k1 RK) rfl (by decide) dX11_every_57 ?_
            refine go_istore (by decide) dX11_every_58 ?_
            show go_W mt_X11_every fr_R 60 [some (pv_r m), some (pv_i x1), some (pv_i x2), some (pv_i x3), some (pv_i x4), some (pv_i x5), some (pv_i (I (m + 1) 84)), none] [] (mm_si B I) (qi_ (fun x M' => ∃ I', M' = mm_si B I' ∧ P x I'))
            refine go_iload dX11_every_60 rfl ?_
            refine go_bipush (v := (12 : Int32)) rfl dX11_every_62 ?_
            refine go_icmp_ne (tgt := 74) dX11_every_64 (by decide) (fun hc => ?_) (fun hc => ?_)
            · replace H := H.1 hc
              refine go_iload dX11_every_74 rfl ?_
              obtain ⟨n1, ⟨hn1, hn1b⟩, H⟩ := H
              refine go_St (av := [pv_i (I (m + 1) 84)]) (st := []) ok_X11_timerAt ⟨by decide, by decide⟩ ml_X11_193 rfl (by decide) (fun v hv => by simp only [List.mem_cons, List.not_mem_nil, or_false] at hv; rcases hv with rfl <;> first | exact pv_1i | exact pv_1r) (Nat.le_of_ble_eq_true rfl) (fun _ h => h) dX11_every_76 (rx_timerAt RK hn1) (fun r M' hq _ => ?_)
              obtain ⟨_, rfl, _, rfl, rfl, rfl⟩ := hq
              show go_W mt_X11_every fr_R 79 [some (pv_r m), some (pv_i x1), some (pv_i x2), some (pv_i x3), some (pv_i x4), some (pv_i x5), some (pv_i (I (m + 1) 84)), none] [pv_i (nI (85 + 8 * n1))] (mm_si B I) (qi_ (fun x M' => ∃ I', M' = mm_si B I' ∧ P x I'))
              refine go_istore (by decide) dX11_every_79 ?_
              show go_W mt_X11_every fr_R 81 [some (pv_r m), some (pv_i x1), some (pv_i x2), some (pv_i x3), some (pv_i x4), some (pv_i x5), some (pv_i (I (m + 1) 84)), some (pv_i (nI (85 + 8 * n1)))] [] (mm_si B I) (qi_ (fun x M' => ∃ I', M' = mm_si B I' ∧ P x I'))
              refine go_aload_n dX11_every_81 rfl ?_
              refine go_getRe (k := 0) ⟨by decide, rfl, by decide, Or.inr ⟨_, rfl⟩⟩ RK.1 (rf_r1 RK) fl_X11_7 dX11_every_82 ?_
              refine go_iload dX11_every_85 rfl ?_
              refine go_iconst (v := (0 : Int32)) rfl dX11_every_87 ?_
              refine go_iadd dX11_every_88 ?_
              refine go_iload_n dX11_every_89 rfl ?_
              refine go_iastN (j := ((85 + 8 * n1) + 0)) ⟨by decide, by decide, by decide⟩ (rf_k1 RK) rfl (nI_ae rfl rfl) (by omega) dX11_every_90 ?_
              show go_W mt_X11_every fr_R 91 [some (pv_r m), some (pv_i x1), some (pv_i x2), some (pv_i x3), some (pv_i x4), some (pv_i x5), some (pv_i (I (m + 1) 84)), some (pv_i (nI (85 + 8 * n1)))] [] (mm_si B (i2_u I (m + 1) ((85 + 8 * n1) + 0) x1)) (qi_ (fun x M' => ∃ I', M' = mm_si B I' ∧ P x I'))
              obtain ⟨I2, hI2⟩ : ∃ I', I' = i2_u I (m + 1) ((85 + 8 * n1) + 0) x1 := ⟨_, rfl⟩
              rw [← hI2]
              replace H := H I2 hI2
              refine go_aload_n dX11_every_91 rfl ?_
              refine go_getRe (k := 0) ⟨by decide, rfl, by decide, Or.inr ⟨_, rfl⟩⟩ RK.1 (rf_r1 RK) fl_X11_7 dX11_every_92 ?_
              refine go_iload dX11_every_95 rfl ?_
              refine go_iconst (v := (1 : Int32)) rfl dX11_every_97 ?_
              refine go_iadd dX11_every_98 ?_
              refine go_iload_n dX11_every_99 rfl ?_
              refine go_iastN (j := ((85 + 8 * n1) + 1)) ⟨by decide, by decide, by decide⟩ (rf_k1 RK) rfl (nI_ae rfl rfl) (by omega) dX11_every_100 ?_
              show go_W mt_X11_every fr_R 101 [some (pv_r m), some (pv_i x1), some (pv_i x2), some (pv_i x3), some (pv_i x4), some (pv_i x5), some (pv_i (I (m + 1) 84)), some (pv_i (nI (85 + 8 * n1)))] [] (mm_si B (i2_u I2 (m + 1) ((85 + 8 * n1) + 1) x2)) (qi_ (fun x M' => ∃ I', M' = mm_si B I' ∧ P x I'))
              obtain ⟨I3, hI3⟩ : ∃ I', I' = i2_u I2 (m + 1) ((85 + 8 * n1) + 1) x2 := ⟨_, rfl⟩
              rw [← hI3]
              replace H := H I3 hI3
              refine go_aload_n dX11_every_101 rfl ?_
              refine go_getRe (k := 0) ⟨by decide, rfl, by decide, Or.inr ⟨_, rfl⟩⟩ RK.1 (rf_r1 RK) fl_X11_7 dX11_every_102 ?_
              refine go_iload dX11_every_105 rfl ?_
              refine go_iconst (v := (2 : Int32)) rfl dX11_every_107 ?_
              refine go_iadd dX11_every_108 ?_
              refine go_iload_n dX11_every_109 rfl ?_
              refine go_iastN (j := ((85 + 8 * n1) + 2)) ⟨by decide, by decide, by decide⟩ (rf_k1 RK) rfl (nI_ae rfl rfl) (by omega) dX11_every_110 ?_
              show go_W mt_X11_every fr_R 111 [some (pv_r m), some (pv_i x1), some (pv_i x2), some (pv_i x3), some (pv_i x4), some (pv_i x5), some (pv_i (I (m + 1) 84)), some (pv_i (nI (85 + 8 * n1)))] [] (mm_si B (i2_u I3 (m + 1) ((85 + 8 * n1) + 2) x3)) (qi_ (fun x M' => ∃ I', M' = mm_si B I' ∧ P x I'))
              obtain ⟨I4, hI4⟩ : ∃ I', I' = i2_u I3 (m + 1) ((85 + 8 * n1) + 2) x3 := ⟨_, rfl⟩
              rw [← hI4]
              replace H := H I4 hI4
              refine go_aload_n dX11_every_111 rfl ?_
              refine go_getRe (k := 0) ⟨by decide, rfl, by decide, Or.inr ⟨_, rfl⟩⟩ RK.1 (rf_r1 RK) fl_X11_7 dX11_every_112 ?_
              refine go_iload dX11_every_115 rfl ?_
              refine go_iconst (v := (3 : Int32)) rfl dX11_every_117 ?_
              refine go_iadd dX11_every_118 ?_
              refine go_iload dX11_every_119 rfl ?_
              refine go_iastN (j := ((85 + 8 * n1) + 3)) ⟨by decide, by decide, by decide⟩ (rf_k1 RK) rfl (nI_ae rfl rfl) (by omega) dX11_every_121 ?_
              show go_W mt_X11_every fr_R 122 [some (pv_r m), some (pv_i x1), some (pv_i x2), some (pv_i x3), some (pv_i x4), some (pv_i x5), some (pv_i (I (m + 1) 84)), some (pv_i (nI (85 + 8 * n1)))] [] (mm_si B (i2_u I4 (m + 1) ((85 + 8 * n1) + 3) x4)) (qi_ (fun x M' => ∃ I', M' = mm_si B I' ∧ P x I'))
              obtain ⟨I5, hI5⟩ : ∃ I', I' = i2_u I4 (m + 1) ((85 + 8 * n1) + 3) x4 := ⟨_, rfl⟩
              rw [← hI5]
              replace H := H I5 hI5
              refine go_aload_n dX11_every_122 rfl ?_
              refine go_getRe (k := 0) ⟨by decide, rfl, by decide, Or.inr ⟨_, rfl⟩⟩ RK.1 (rf_r1 RK) fl_X11_7 dX11_every_123 ?_
              refine go_iload dX11_every_126 rfl ?_
              refine go_iconst (v := (4 : Int32)) rfl dX11_every_128 ?_
              refine go_iadd dX11_every_129 ?_
              refine go_iload dX11_every_130 rfl ?_
              refine go_iastN (j := ((85 + 8 * n1) + 4)) ⟨by decide, by decide, by decide⟩ (rf_k1 RK) rfl (nI_ae rfl rfl) (by omega) dX11_every_132 ?_
              show go_W mt_X11_every fr_R 133 [some (pv_r m), some (pv_i x1), some (pv_i x2), some (pv_i x3), some (pv_i x4), some (pv_i x5), some (pv_i (I (m + 1) 84)), some (pv_i (nI (85 + 8 * n1)))] [] (mm_si B (i2_u I5 (m + 1) ((85 + 8 * n1) + 4) x5)) (qi_ (fun x M' => ∃ I', M' = mm_si B I' ∧ P x I'))
              obtain ⟨I6, hI6⟩ : ∃ I', I' = i2_u I5 (m + 1) ((85 + 8 * n1) + 4) x5 := ⟨_, rfl⟩
              rw [← hI6]
              replace H := H I6 hI6
              refine go_aload_n dX11_every_133 rfl ?_
              refine go_getRe (k := 0) ⟨by decide, rfl, by decide, Or.inr ⟨_, rfl⟩⟩ RK.1 (rf_r1 RK) fl_X11_7 dX11_every_134 ?_
              refine go_iload dX11_every_137 rfl ?_
              refine go_iconst (v := (5 : Int32)) rfl dX11_every_139 ?_
              refine go_iadd dX11_every_140 ?_
              refine go_iconst (v := (0 : Int32)) rfl dX11_every_141 ?_
              refine go_iastN (j := ((85 + 8 * n1) + 5)) ⟨by decide, by decide, by decide⟩ (rf_k1 RK) rfl (nI_ae rfl rfl) (by omega) dX11_every_142 ?_
              show go_W mt_X11_every fr_R 143 [some (pv_r m), some (pv_i x1), some (pv_i x2), some (pv_i x3), some (pv_i x4), some (pv_i x5), some (pv_i (I (m + 1) 84)), some (pv_i (nI (85 + 8 * n1)))] [] (mm_si B (i2_u I6 (m + 1) ((85 + 8 * n1) + 5) (0 : Int32))) (qi_ (fun x M' => ∃ I', M' = mm_si B I' ∧ P x I'))
              obtain ⟨I7, hI7⟩ : ∃ I', I' = i2_u I6 (m + 1) ((85 + 8 * n1) + 5) (0 : Int32) := ⟨_, rfl⟩
              rw [← hI7]
              replace H := H I7 hI7
              refine go_aload_n dX11_every_143 rfl ?_
              refine go_getRe (k := 0) ⟨by decide, rfl, by decide, Or.inr ⟨_, rfl⟩⟩ RK.1 (rf_r1 RK) fl_X11_7 dX11_every_144 ?_
              refine go_iload dX11_every_147 rfl ?_
              refine go_bipush (v := (6 : Int32)) rfl dX11_every_149 ?_
              refine go_iadd dX11_every_151 ?_
              refine go_iconst (v := (0 : Int32)) rfl dX11_every_152 ?_
              refine go_iastN (j := ((85 + 8 * n1) + 6)) ⟨by decide, by decide, by decide⟩ (rf_k1 RK) rfl (nI_ae rfl rfl) (by omega) dX11_every_153 ?_
              show go_W mt_X11_every fr_R 154 [some (pv_r m), some (pv_i x1), some (pv_i x2), some (pv_i x3), some (pv_i x4), some (pv_i x5), some (pv_i (I (m + 1) 84)), some (pv_i (nI (85 + 8 * n1)))] [] (mm_si B (i2_u I7 (m + 1) ((85 + 8 * n1) + 6) (0 : Int32))) (qi_ (fun x M' => ∃ I', M' = mm_si B I' ∧ P x I'))
              obtain ⟨I8, hI8⟩ : ∃ I', I' = i2_u I7 (m + 1) ((85 + 8 * n1) + 6) (0 : Int32) := ⟨_, rfl⟩
              rw [← hI8]
              replace H := H I8 hI8
              refine go_aload_n dX11_every_154 rfl ?_
              refine go_getRe (k := 0) ⟨by decide, rfl, by decide, Or.inr ⟨_, rfl⟩⟩ RK.1 (rf_r1 RK) fl_X11_7 dX11_every_155 ?_
              refine go_iload dX11_every_158 rfl ?_
              refine go_bipush (v := (7 : Int32)) rfl dX11_every_160 ?_
              refine go_iadd dX11_every_162 ?_
              refine go_aload_n dX11_every_163 rfl ?_
              refine go_getRe (k := 0) ⟨by decide, rfl, by decide, Or.inr ⟨_, rfl⟩⟩ RK.1 (rf_r1 RK) fl_X11_7 dX11_every_164 ?_
              refine go_iconst (v := (0 : Int32)) rfl dX11_every_167 ?_
              refine go_ialdN (j := 0) ⟨by decide, by decide, by decide⟩ (rf_k1 RK) rfl (by decide) dX11_every_168 ?_
              refine go_iload dX11_every_169 rfl ?_
              refine go_iadd dX11_every_171 ?_
              refine go_iastN (j := ((85 + 8 * n1) + 7)) ⟨by decide, by decide, by decide⟩ (rf_k1 RK) rfl (nI_ae rfl rfl) (by omega) dX11_every_172 ?_
              show go_W mt_X11_every fr_R 173 [some (pv_r m), some (pv_i x1), some (pv_i x2), some (pv_i x3), some (pv_i x4), some (pv_i x5), some (pv_i (I (m + 1) 84)), some (pv_i (nI (85 + 8 * n1)))] [] (mm_si B (i2_u I8 (m + 1) ((85 + 8 * n1) + 7) (I8 (m + 1) 0 + x5))) (qi_ (fun x M' => ∃ I', M' = mm_si B I' ∧ P x I'))
              obtain ⟨I9, hI9⟩ : ∃ I', I' = i2_u I8 (m + 1) ((85 + 8 * n1) + 7) (I8 (m + 1) 0 + x5) := ⟨_, rfl⟩
              rw [← hI9]
              replace H := H I9 hI9
              refine go_aload_n dX11_every_173 rfl ?_
              refine go_getRe (k := 0) ⟨by decide, rfl, by decide, Or.inr ⟨_, rfl⟩⟩ RK.1 (rf_r1 RK) fl_X11_7 dX11_every_174 ?_
              refine go_bipush (v := (84 : Int32)) rfl dX11_every_177 ?_
              refine go_dup2 pv_1i pv_1r dX11_every_179 ?_
              refine go_ialdN (j := 84) ⟨by decide, by decide, by decide⟩ (rf_k1 RK) rfl (by decide) dX11_every_180 ?_
              refine go_iconst (v := (1 : Int32)) rfl dX11_every_181 ?_
              refine go_iadd dX11_every_182 ?_
              refine go_iastN (j := 84) ⟨by decide, by decide, by decide⟩ (rf_k1 RK) rfl rfl (by decide) dX11_every_183 ?_
              show go_W mt_X11_every fr_R 184 [some (pv_r m), some (pv_i x1), some (pv_i x2), some (pv_i x3), some (pv_i x4), some (pv_i x5), some (pv_i (I (m + 1) 84)), some (pv_i (nI (85 + 8 * n1)))] [] (mm_si B (i2_u I9 (m + 1) 84 (I9 (m + 1) 84 + (1 : Int32)))) (qi_ (fun x M' => ∃ I', M' = mm_si B I' ∧ P x I'))
              obtain ⟨I10, hI10⟩ : ∃ I', I' = i2_u I9 (m + 1) 84 (I9 (m + 1) 84 + (1 : Int32)) := ⟨_, rfl⟩
              rw [← hI10]
              replace H := H I10 hI10
              refine go_iload dX11_every_184 rfl ?_
              exact go_iret rfl rfl dX11_every_186 ⟨_, rfl, _, rfl, H⟩
            · replace H := H.2 hc
              refine go_aload_n dX11_every_67 rfl ?_
              refine go_bipush (v := (-6 : Int32)) rfl dX11_every_68 ?_
              obtain ⟨h8, H⟩ := H
              refine go_V (av := [pv_i (-6 : Int32)]) (st := []) (ci := 11) ok_X11_refuses ⟨by decide, by decide⟩ ml_X11_199 rfl (by decide) (fun v hv => by simp only [List.mem_cons, List.not_mem_nil, or_false] at hv; rcases hv with rfl <;> first | exact pv_1i | exact pv_1r) (Nat.le_of_ble_eq_true rfl) (fun _ h => h) (by decide) rfl RK.1 dX11_every_70 (rx_refuses RK h8) (fun r M' hq _ => ?_)
              obtain ⟨_, rfl, _, rfl, rfl, rfl⟩ := hq
              show go_W mt_X11_every fr_R 73 [some (pv_r m), some (pv_i x1), some (pv_i x2), some (pv_i x3), some (pv_i x4), some (pv_i x5), some (pv_i (I (m + 1) 84)), none] [pv_i (-6 : Int32)] (mm_si B (i2_u I m 7 (I m 7 + 1))) (qi_ (fun x M' => ∃ I', M' = mm_si B I' ∧ P x I'))
              obtain ⟨I11, hI11⟩ : ∃ I', I' = i2_u I m 7 (I m 7 + 1) := ⟨_, rfl⟩
              rw [← hI11]
              replace H := H I11 hI11
              exact go_iret rfl rfl dX11_every_73 ⟨_, rfl, _, rfl, H⟩
          · replace H := H.2 hc
            refine go_St (av := [pv_i x5, pv_i (1 : Int32), pv_i (99 : Int32)]) (st := []) ok_X11_isIn ⟨by decide, by decide⟩ ml_X11_90 rfl (by decide) (fun v hv => by simp only [List.mem_cons, List.not_mem_nil, or_false] at hv; rcases hv with rfl | rfl | rfl <;> first | exact pv_1i | exact pv_1r) (Nat.le_of_ble_eq_true rfl) (fun _ h => h) dX11_every_38 (rx_isIn_f RK hc) (fun r M' hq _ => ?_)
            obtain ⟨_, rfl, _, rfl, rfl, rfl⟩ := hq
            show go_W mt_X11_every fr_R 41 [some (pv_r m), some (pv_i x1), some (pv_i x2), some (pv_i x3), some (pv_i x4), some (pv_i x5), none, none] [pv_i (0 : Int32)] (mm_si B I) (qi_ (fun x M' => ∃ I', M' = mm_si B I' ∧ P x I'))
            refine go_if_ne (tgt := 51) dX11_every_41 (by decide) (fun hc => absurd hc (by decide)) (fun _ => ?_)
            refine go_aload_n dX11_every_44 rfl ?_
            refine go_bipush (v := (-2 : Int32)) rfl dX11_every_45 ?_
            obtain ⟨h8, H⟩ := H
            refine go_V (av := [pv_i (-2 : Int32)]) (st := []) (ci := 11) ok_X11_refuses ⟨by decide, by decide⟩ ml_X11_199 rfl (by decide) (fun v hv => by simp only [List.mem_cons, List.not_mem_nil, or_false] at hv; rcases hv with rfl <;> first | exact pv_1i | exact pv_1r) (Nat.le_of_ble_eq_true rfl) (fun _ h => h) (by decide) rfl RK.1 dX11_every_47 (rx_refuses RK h8) (fun r M' hq _ => ?_)
            obtain ⟨_, rfl, _, rfl, rfl, rfl⟩ := hq
            show go_W mt_X11_every fr_R 50 [some (pv_r m), some (pv_i x1), some (pv_i x2), some (pv_i x3), some (pv_i x4), some (pv_i x5), none, none] [pv_i (-2 : Int32)] (mm_si B (i2_u I m 7 (I m 7 + 1))) (qi_ (fun x M' => ∃ I', M' = mm_si B I' ∧ P x I'))
            obtain ⟨I12, hI12⟩ : ∃ I', I' = i2_u I m 7 (I m 7 + 1) := ⟨_, rfl⟩
            rw [← hI12]
            replace H := H I12 hI12
            exact go_iret rfl rfl dX11_every_50 ⟨_, rfl, _, rfl, H⟩
        · replace H := H.2 hc
          refine go_St (av := [pv_i x4]) (st := []) ok_X11_isKey ⟨by decide, by decide⟩ ml_X11_158 rfl (by decide) (fun v hv => by simp only [List.mem_cons, List.not_mem_nil, or_false] at hv; rcases hv with rfl <;> first | exact pv_1i | exact pv_1r) (Nat.le_of_ble_eq_true rfl) (fun _ h => h) dX11_every_27 (rx_isKey_f RK hc) (fun r M' hq _ => ?_)
          obtain ⟨_, rfl, _, rfl, rfl, rfl⟩ := hq
          show go_W mt_X11_every fr_R 30 [some (pv_r m), some (pv_i x1), some (pv_i x2), some (pv_i x3), some (pv_i x4), some (pv_i x5), none, none] [pv_i (0 : Int32)] (mm_si B I) (qi_ (fun x M' => ∃ I', M' = mm_si B I' ∧ P x I'))
          refine go_if_eq (tgt := 44) dX11_every_30 (by decide) (fun _ => ?_) (fun hc => absurd hc (by decide))
          refine go_aload_n dX11_every_44 rfl ?_
          refine go_bipush (v := (-2 : Int32)) rfl dX11_every_45 ?_
          obtain ⟨h8, H⟩ := H
          refine go_V (av := [pv_i (-2 : Int32)]) (st := []) (ci := 11) ok_X11_refuses ⟨by decide, by decide⟩ ml_X11_199 rfl (by decide) (fun v hv => by simp only [List.mem_cons, List.not_mem_nil, or_false] at hv; rcases hv with rfl <;> first | exact pv_1i | exact pv_1r) (Nat.le_of_ble_eq_true rfl) (fun _ h => h) (by decide) rfl RK.1 dX11_every_47 (rx_refuses RK h8) (fun r M' hq _ => ?_)
          obtain ⟨_, rfl, _, rfl, rfl, rfl⟩ := hq
          show go_W mt_X11_every fr_R 50 [some (pv_r m), some (pv_i x1), some (pv_i x2), some (pv_i x3), some (pv_i x4), some (pv_i x5), none, none] [pv_i (-2 : Int32)] (mm_si B (i2_u I m 7 (I m 7 + 1))) (qi_ (fun x M' => ∃ I', M' = mm_si B I' ∧ P x I'))
          obtain ⟨I13, hI13⟩ : ∃ I', I' = i2_u I m 7 (I m 7 + 1) := ⟨_, rfl⟩
          rw [← hI13]
          replace H := H I13 hI13
          exact go_iret rfl rfl dX11_every_50 ⟨_, rfl, _, rfl, H⟩
      · replace H := H.2 hc
        refine go_St (av := [pv_i x3, pv_i (1 : Int32), pv_i (20 : Int32)]) (st := []) ok_X11_isIn ⟨by decide, by decide⟩ ml_X11_90 rfl (by decide) (fun v hv => by simp only [List.mem_cons, List.not_mem_nil, or_false] at hv; rcases hv with rfl | rfl | rfl <;> first | exact pv_1i | exact pv_1r) (Nat.le_of_ble_eq_true rfl) (fun _ h => h) dX11_every_19 (rx_isIn_f RK hc) (fun r M' hq _ => ?_)
        obtain ⟨_, rfl, _, rfl, rfl, rfl⟩ := hq
        show go_W mt_X11_every fr_R 22 [some (pv_r m), some (pv_i x1), some (pv_i x2), some (pv_i x3), some (pv_i x4), some (pv_i x5), none, none] [pv_i (0 : Int32)] (mm_si B I) (qi_ (fun x M' => ∃ I', M' = mm_si B I' ∧ P x I'))
        refine go_if_eq (tgt := 44) dX11_every_22 (by decide) (fun _ => ?_) (fun hc => absurd hc (by decide))
        refine go_aload_n dX11_every_44 rfl ?_
        refine go_bipush (v := (-2 : Int32)) rfl dX11_every_45 ?_
        obtain ⟨h8, H⟩ := H
        refine go_V (av := [pv_i (-2 : Int32)]) (st := []) (ci := 11) ok_X11_refuses ⟨by decide, by decide⟩ ml_X11_199 rfl (by decide) (fun v hv => by simp only [List.mem_cons, List.not_mem_nil, or_false] at hv; rcases hv with rfl <;> first | exact pv_1i | exact pv_1r) (Nat.le_of_ble_eq_true rfl) (fun _ h => h) (by decide) rfl RK.1 dX11_every_47 (rx_refuses RK h8) (fun r M' hq _ => ?_)
        obtain ⟨_, rfl, _, rfl, rfl, rfl⟩ := hq
        show go_W mt_X11_every fr_R 50 [some (pv_r m), some (pv_i x1), some (pv_i x2), some (pv_i x3), some (pv_i x4), some (pv_i x5), none, none] [pv_i (-2 : Int32)] (mm_si B (i2_u I m 7 (I m 7 + 1))) (qi_ (fun x M' => ∃ I', M' = mm_si B I' ∧ P x I'))
        obtain ⟨I14, hI14⟩ : ∃ I', I' = i2_u I m 7 (I m 7 + 1) := ⟨_, rfl⟩
        rw [← hI14]
        replace H := H I14 hI14
        exact go_iret rfl rfl dX11_every_50 ⟨_, rfl, _, rfl, H⟩
    · replace H := H.2 hc
      refine go_St (av := [pv_i x2]) (st := []) ok_X11_isPriority ⟨by decide, by decide⟩ ml_X11_155 rfl (by decide) (fun v hv => by simp only [List.mem_cons, List.not_mem_nil, or_false] at hv; rcases hv with rfl <;> first | exact pv_1i | exact pv_1r) (Nat.le_of_ble_eq_true rfl) (fun _ h => h) dX11_every_9 (rx_isPriority_f RK hc) (fun r M' hq _ => ?_)
      obtain ⟨_, rfl, _, rfl, rfl, rfl⟩ := hq
      show go_W mt_X11_every fr_R 12 [some (pv_r m), some (pv_i x1), some (pv_i x2), some (pv_i x3), some (pv_i x4), some (pv_i x5), none, none] [pv_i (0 : Int32)] (mm_si B I) (qi_ (fun x M' => ∃ I', M' = mm_si B I' ∧ P x I'))
      refine go_if_eq (tgt := 44) dX11_every_12 (by decide) (fun _ => ?_) (fun hc => absurd hc (by decide))
      refine go_aload_n dX11_every_44 rfl ?_
      refine go_bipush (v := (-2 : Int32)) rfl dX11_every_45 ?_
      obtain ⟨h8, H⟩ := H
      refine go_V (av := [pv_i (-2 : Int32)]) (st := []) (ci := 11) ok_X11_refuses ⟨by decide, by decide⟩ ml_X11_199 rfl (by decide) (fun v hv => by simp only [List.mem_cons, List.not_mem_nil, or_false] at hv; rcases hv with rfl <;> first | exact pv_1i | exact pv_1r) (Nat.le_of_ble_eq_true rfl) (fun _ h => h) (by decide) rfl RK.1 dX11_every_47 (rx_refuses RK h8) (fun r M' hq _ => ?_)
      obtain ⟨_, rfl, _, rfl, rfl, rfl⟩ := hq
      show go_W mt_X11_every fr_R 50 [some (pv_r m), some (pv_i x1), some (pv_i x2), some (pv_i x3), some (pv_i x4), some (pv_i x5), none, none] [pv_i (-2 : Int32)] (mm_si B (i2_u I m 7 (I m 7 + 1))) (qi_ (fun x M' => ∃ I', M' = mm_si B I' ∧ P x I'))
      obtain ⟨I15, hI15⟩ : ∃ I', I' = i2_u I m 7 (I m 7 + 1) := ⟨_, rfl⟩
      rw [← hI15]
      replace H := H I15 hI15
      exact go_iret rfl rfl dX11_every_50 ⟨_, rfl, _, rfl, H⟩
  · replace H := H.2 hc
    refine go_V (av := [pv_i x1]) (st := []) (ci := 11) ok_X11_isLane ⟨by decide, by decide⟩ ml_X11_152 rfl (by decide) (fun v hv => by simp only [List.mem_cons, List.not_mem_nil, or_false] at hv; rcases hv with rfl <;> first | exact pv_1i | exact pv_1r) (Nat.le_of_ble_eq_true rfl) (fun _ h => h) (by decide) rfl RK.1 dX11_every_2 (rx_isLane_f RK hc) (fun r M' hq _ => ?_)
    obtain ⟨_, rfl, _, rfl, rfl, rfl⟩ := hq
    show go_W mt_X11_every fr_R 5 [some (pv_r m), some (pv_i x1), some (pv_i x2), some (pv_i x3), some (pv_i x4), some (pv_i x5), none, none] [pv_i (0 : Int32)] (mm_si B I) (qi_ (fun x M' => ∃ I', M' = mm_si B I' ∧ P x I'))
    refine go_if_eq (tgt := 44) dX11_every_5 (by decide) (fun _ => ?_) (fun hc => absurd hc (by decide))
    refine go_aload_n dX11_every_44 rfl ?_
    refine go_bipush (v := (-2 : Int32)) rfl dX11_every_45 ?_
    obtain ⟨h8, H⟩ := H
    refine go_V (av := [pv_i (-2 : Int32)]) (st := []) (ci := 11) ok_X11_refuses ⟨by decide, by decide⟩ ml_X11_199 rfl (by decide) (fun v hv => by simp only [List.mem_cons, List.not_mem_nil, or_false] at hv; rcases hv with rfl <;> first | exact pv_1i | exact pv_1r) (Nat.le_of_ble_eq_true rfl) (fun _ h => h) (by decide) rfl RK.1 dX11_every_47 (rx_refuses RK h8) (fun r M' hq _ => ?_)
    obtain ⟨_, rfl, _, rfl, rfl, rfl⟩ := hq
    show go_W mt_X11_every fr_R 50 [some (pv_r m), some (pv_i x1), some (pv_i x2), some (pv_i x3), some (pv_i x4), some (pv_i x5), none, none] [pv_i (-2 : Int32)] (mm_si B (i2_u I m 7 (I m 7 + 1))) (qi_ (fun x M' => ∃ I', M' = mm_si B I' ∧ P x I'))
    obtain ⟨I16, hI16⟩ : ∃ I', I' = i2_u I m 7 (I m 7 + 1) := ⟨_, rfl⟩
    rw [← hI16]
    replace H := H I16 hI16
    exact go_iret rfl rfl dX11_every_50 ⟨_, rfl, _, rfl, H⟩
set_option maxRecDepth 20000 in
theorem wq_X11_stop_0 {B : mm_T} {I : Nat → Nat → Int32} {m : Nat} (RK : rf_ok B m) {x1 : Int32} {P : Int32 → (Nat → Nat → Int32) → Prop} (H : ((((0 ≤ x1 ∧ x1 ≤ I (m + 1) 84 - 1)) → ∃ n1, (x1 = nI n1 ∧ n1 < 12) ∧ ((((¬ I (m + 1) ((85 + 8 * n1) + 7) = (-1 : Int32)) → ∀ I2, I2 = i2_u I (m + 1) ((85 + 8 * n1) + 7) (-1 : Int32) → P (I2 (m + 1) ((85 + 8 * n1) + 5)) I2) ∧ ((I (m + 1) ((85 + 8 * n1) + 7) = (-1 : Int32)) → (I m 8 = 0) ∧ (∀ I3, I3 = i2_u I m 7 (I m 7 + 1) → P (-3 : Int32) I3))))) ∧ ((¬ (0 ≤ x1 ∧ x1 ≤ I (m + 1) 84 - 1)) → (I m 8 = 0) ∧ (∀ I4, I4 = i2_u I m 7 (I m 7 + 1) → P (-2 : Int32) I4)))) : rw_i mt_X11_stop 0 [some (pv_r m), some (pv_i x1)] [] B I P := by
  refine go_aload_n dX11_stop_0 rfl ?_
  refine go_iload_n dX11_stop_1 rfl ?_
  by_cases hc : (0 ≤ x1 ∧ x1 ≤ I (m + 1) 84 - 1)
  · replace H := H.1 hc
    refine go_V (av := [pv_i x1]) (st := []) (ci := 11) ok_X11_isTimer ⟨by decide, by decide⟩ ml_X11_224 rfl (by decide) (fun v hv => by simp only [List.mem_cons, List.not_mem_nil, or_false] at hv; rcases hv with rfl <;> first | exact pv_1i | exact pv_1r) (Nat.le_of_ble_eq_true rfl) (fun _ h => h) (by decide) rfl RK.1 dX11_stop_2 (rx_isTimer_t RK hc) (fun r M' hq _ => ?_)
    obtain ⟨_, rfl, _, rfl, rfl, rfl⟩ := hq
    show go_W mt_X11_stop fr_R 5 [some (pv_r m), some (pv_i x1)] [pv_i (1 : Int32)] (mm_si B I) (qi_ (fun x M' => ∃ I', M' = mm_si B I' ∧ P x I'))
    refine go_if_ne (tgt := 15) dX11_stop_5 (by decide) (fun _ => ?_) (fun hc => absurd hc (by decide))
    refine go_aload_n dX11_stop_15 rfl ?_
    refine go_getRe (k := 0) ⟨by decide, rfl, by decide, Or.inr ⟨_, rfl⟩⟩ RK.1 (rf_r1 RK) fl_X11_7 dX11_stop_16 ?_
    refine go_iload_n dX11_stop_19 rfl ?_
    obtain ⟨n1, ⟨hn1, hn1b⟩, H⟩ := H
    refine go_St (av := [pv_i x1]) (st := [pv_r (m + 1)]) ok_X11_timerAt ⟨by decide, by decide⟩ ml_X11_193 rfl (by decide) (fun v hv => by simp only [List.mem_cons, List.not_mem_nil, or_false] at hv; rcases hv with rfl <;> first | exact pv_1i | exact pv_1r) (Nat.le_of_ble_eq_true rfl) (fun _ h => h) dX11_stop_20 (rx_timerAt RK hn1) (fun r M' hq _ => ?_)
    obtain ⟨_, rfl, _, rfl, rfl, rfl⟩ := hq
    show go_W mt_X11_stop fr_R 23 [some (pv_r m), some (pv_i x1)] [pv_i (nI (85 + 8 * n1)), pv_r (m + 1)] (mm_si B I) (qi_ (fun x M' => ∃ I', M' = mm_si B I' ∧ P x I'))
    refine go_bipush (v := (7 : Int32)) rfl dX11_stop_23 ?_
    refine go_iadd dX11_stop_25 ?_
    refine go_ialdN (j := ((85 + 8 * n1) + 7)) ⟨by decide, by decide, by decide⟩ (rf_k1 RK) (nI_ae rfl rfl) (by omega) dX11_stop_26 ?_
    refine go_iconst (v := (-1 : Int32)) rfl dX11_stop_27 ?_
    refine go_icmp_ne (tgt := 38) dX11_stop_28 (by decide) (fun hc => ?_) (fun hc => ?_)
    · replace H := H.1 hc
      refine go_aload_n dX11_stop_38 rfl ?_
      refine go_getRe (k := 0) ⟨by decide, rfl, by decide, Or.inr ⟨_, rfl⟩⟩ RK.1 (rf_r1 RK) fl_X11_7 dX11_stop_39 ?_
      refine go_iload_n dX11_stop_42 rfl ?_
      refine go_St (av := [pv_i x1]) (st := [pv_r (m + 1)]) ok_X11_timerAt ⟨by decide, by decide⟩ ml_X11_193 rfl (by decide) (fun v hv => by simp only [List.mem_cons, List.not_mem_nil, or_false] at hv; rcases hv with rfl <;> first | exact pv_1i | exact pv_1r) (Nat.le_of_ble_eq_true rfl) (fun _ h => h) dX11_stop_43 (rx_timerAt RK hn1) (fun r M' hq _ => ?_)
      obtain ⟨_, rfl, _, rfl, rfl, rfl⟩ := hq
      show go_W mt_X11_stop fr_R 46 [some (pv_r m), some (pv_i x1)] [pv_i (nI (85 + 8 * n1)), pv_r (m + 1)] (mm_si B I) (qi_ (fun x M' => ∃ I', M' = mm_si B I' ∧ P x I'))
      refine go_bipush (v := (7 : Int32)) rfl dX11_stop_46 ?_
      refine go_iadd dX11_stop_48 ?_
      refine go_iconst (v := (-1 : Int32)) rfl dX11_stop_49 ?_
      refine go_iastN (j := ((85 + 8 * n1) + 7)) ⟨by decide, by decide, by decide⟩ (rf_k1 RK) rfl (nI_ae rfl rfl) (by omega) dX11_stop_50 ?_
      show go_W mt_X11_stop fr_R 51 [some (pv_r m), some (pv_i x1)] [] (mm_si B (i2_u I (m + 1) ((85 + 8 * n1) + 7) (-1 : Int32))) (qi_ (fun x M' => ∃ I', M' = mm_si B I' ∧ P x I'))
      obtain ⟨I2, hI2⟩ : ∃ I', I' = i2_u I (m + 1) ((85 + 8 * n1) + 7) (-1 : Int32) := ⟨_, rfl⟩
      rw [← hI2]
      replace H := H I2 hI2
      refine go_aload_n dX11_stop_51 rfl ?_
      refine go_getRe (k := 0) ⟨by decide, rfl, by decide, Or.inr ⟨_, rfl⟩⟩ RK.1 (rf_r1 RK) fl_X11_7 dX11_stop_52 ?_
      refine go_iload_n dX11_stop_55 rfl ?_
      refine go_St (av := [pv_i x1]) (st := [pv_r (m + 1)]) ok_X11_timerAt ⟨by decide, by decide⟩ ml_X11_193 rfl (by decide) (fun v hv => by simp only [List.mem_cons, List.not_mem_nil, or_false] at hv; rcases hv with rfl <;> first | exact pv_1i | exact pv_1r) (Nat.le_of_ble_eq_true rfl) (fun _ h => h) dX11_stop_56 (rx_timerAt RK hn1) (fun r M' hq _ => ?_)
      obtain ⟨_, rfl, _, rfl, rfl, rfl⟩ := hq
      show go_W mt_X11_stop fr_R 59 [some (pv_r m), some (pv_i x1)] [pv_i (nI (85 + 8 * n1)), pv_r (m + 1)] (mm_si B I2) (qi_ (fun x M' => ∃ I', M' = mm_si B I' ∧ P x I'))
      refine go_iconst (v := (5 : Int32)) rfl dX11_stop_59 ?_
      refine go_iadd dX11_stop_60 ?_
      refine go_ialdN (j := ((85 + 8 * n1) + 5)) ⟨by decide, by decide, by decide⟩ (rf_k1 RK) (nI_ae rfl rfl) (by omega) dX11_stop_61 ?_
      exact go_iret rfl rfl dX11_stop_62 ⟨_, rfl, _, rfl, H⟩
    · replace H := H.2 hc
      refine go_aload_n dX11_stop_31 rfl ?_
      refine go_bipush (v := (-3 : Int32)) rfl dX11_stop_32 ?_
      obtain ⟨h8, H⟩ := H
      refine go_V (av := [pv_i (-3 : Int32)]) (st := []) (ci := 11) ok_X11_refuses ⟨by decide, by decide⟩ ml_X11_199 rfl (by decide) (fun v hv => by simp only [List.mem_cons, List.not_mem_nil, or_false] at hv; rcases hv with rfl <;> first | exact pv_1i | exact pv_1r) (Nat.le_of_ble_eq_true rfl) (fun _ h => h) (by decide) rfl RK.1 dX11_stop_34 (rx_refuses RK h8) (fun r M' hq _ => ?_)
      obtain ⟨_, rfl, _, rfl, rfl, rfl⟩ := hq
      show go_W mt_X11_stop fr_R 37 [some (pv_r m), some (pv_i x1)] [pv_i (-3 : Int32)] (mm_si B (i2_u I m 7 (I m 7 + 1))) (qi_ (fun x M' => ∃ I', M' = mm_si B I' ∧ P x I'))
      obtain ⟨I3, hI3⟩ : ∃ I', I' = i2_u I m 7 (I m 7 + 1) := ⟨_, rfl⟩
      rw [← hI3]
      replace H := H I3 hI3
      exact go_iret rfl rfl dX11_stop_37 ⟨_, rfl, _, rfl, H⟩
  · replace H := H.2 hc
    refine go_V (av := [pv_i x1]) (st := []) (ci := 11) ok_X11_isTimer ⟨by decide, by decide⟩ ml_X11_224 rfl (by decide) (fun v hv => by simp only [List.mem_cons, List.not_mem_nil, or_false] at hv; rcases hv with rfl <;> first | exact pv_1i | exact pv_1r) (Nat.le_of_ble_eq_true rfl) (fun _ h => h) (by decide) rfl RK.1 dX11_stop_2 (rx_isTimer_f RK hc) (fun r M' hq _ => ?_)
    obtain ⟨_, rfl, _, rfl, rfl, rfl⟩ := hq
    show go_W mt_X11_stop fr_R 5 [some (pv_r m), some (pv_i x1)] [pv_i (0 : Int32)] (mm_si B I) (qi_ (fun x M' => ∃ I', M' = mm_si B I' ∧ P x I'))
    refine go_if_ne (tgt := 15) dX11_stop_5 (by decide) (fun hc => absurd hc (by decide)) (fun _ => ?_)
    refine go_aload_n dX11_stop_8 rfl ?_
    refine go_bipush (v := (-2 : Int32)) rfl dX11_stop_9 ?_
    obtain ⟨h8, H⟩ := H
    refine go_V (av := [pv_i (-2 : Int32)]) (st := []) (ci := 11) ok_X11_refuses ⟨by decide, by decide⟩ ml_X11_199 rfl (by decide) (fun v hv => by simp only [List.mem_cons, List.not_mem_nil, or_false] at hv; rcases hv with rfl <;> first | exact pv_1i | exact pv_1r) (Nat.le_of_ble_eq_true rfl) (fun _ h => h) (by decide) rfl RK.1 dX11_stop_11 (rx_refuses RK h8) (fun r M' hq _ => ?_)
    obtain ⟨_, rfl, _, rfl, rfl, rfl⟩ := hq
    show go_W mt_X11_stop fr_R 14 [some (pv_r m), some (pv_i x1)] [pv_i (-2 : Int32)] (mm_si B (i2_u I m 7 (I m 7 + 1))) (qi_ (fun x M' => ∃ I', M' = mm_si B I' ∧ P x I'))
    obtain ⟨I4, hI4⟩ : ∃ I', I' = i2_u I m 7 (I m 7 + 1) := ⟨_, rfl⟩
    rw [← hI4]
    replace H := H I4 hI4
    exact go_iret rfl rfl dX11_stop_14 ⟨_, rfl, _, rfl, H⟩
set_option maxRecDepth 20000 in
theorem wq_X11_tick_0 {B : mm_T} {I : Nat → Nat → Int32} {m : Nat} (RK : rf_ok B m) {x1 : Int32} {P : Int32 → (Nat → Nat → Int32) → Prop} (H : (((((1 : Int32) ≤ x1 ∧ x1 ≤ (99 : Int32))) → rw_i mt_X11_tick 19 [some (pv_r m), some (pv_i x1), some (pv_i (0 : Int32))] [] B I P) ∧ ((¬ ((1 : Int32) ≤ x1 ∧ x1 ≤ (99 : Int32))) → (I m 8 = 0) ∧ (∀ I1, I1 = i2_u I m 7 (I m 7 + 1) → P (-2 : Int32) I1)))) : rw_i mt_X11_tick 0 [some (pv_r m), some (pv_i x1), none] [] B I P := by
  refine go_iload_n dX11_tick_0 rfl ?_
  refine go_iconst (v := (1 : Int32)) rfl dX11_tick_1 ?_
  refine go_bipush (v := (99 : Int32)) rfl dX11_tick_2 ?_
  by_cases hc : ((1 : Int32) ≤ x1 ∧ x1 ≤ (99 : Int32))
  · replace H := H.1 hc
    refine go_St (av := [pv_i x1, pv_i (1 : Int32), pv_i (99 : Int32)]) (st := []) ok_X11_isIn ⟨by decide, by decide⟩ ml_X11_90 rfl (by decide) (fun v hv => by simp only [List.mem_cons, List.not_mem_nil, or_false] at hv; rcases hv with rfl | rfl | rfl <;> first | exact pv_1i | exact pv_1r) (Nat.le_of_ble_eq_true rfl) (fun _ h => h) dX11_tick_4 (rx_isIn_t RK hc) (fun r M' hq _ => ?_)
    obtain ⟨_, rfl, _, rfl, rfl, rfl⟩ := hq
    show go_W mt_X11_tick fr_R 7 [some (pv_r m), some (pv_i x1), none] [pv_i (1 : Int32)] (mm_si B I) (qi_ (fun x M' => ∃ I', M' = mm_si B I' ∧ P x I'))
    refine go_if_ne (tgt := 17) dX11_tick_7 (by decide) (fun _ => ?_) (fun hc => absurd hc (by decide))
    refine go_iconst (v := (0 : Int32)) rfl dX11_tick_17 ?_
    refine go_istore_n (by decide) dX11_tick_18 ?_
    show go_W mt_X11_tick fr_R 19 [some (pv_r m), some (pv_i x1), some (pv_i (0 : Int32))] [] (mm_si B I) (qi_ (fun x M' => ∃ I', M' = mm_si B I' ∧ P x I'))
    exact H
  · replace H := H.2 hc
    refine go_St (av := [pv_i x1, pv_i (1 : Int32), pv_i (99 : Int32)]) (st := []) ok_X11_isIn ⟨by decide, by decide⟩ ml_X11_90 rfl (by decide) (fun v hv => by simp only [List.mem_cons, List.not_mem_nil, or_false] at hv; rcases hv with rfl | rfl | rfl <;> first | exact pv_1i | exact pv_1r) (Nat.le_of_ble_eq_true rfl) (fun _ h => h) dX11_tick_4 (rx_isIn_f RK hc) (fun r M' hq _ => ?_)
    obtain ⟨_, rfl, _, rfl, rfl, rfl⟩ := hq
    show go_W mt_X11_tick fr_R 7 [some (pv_r m), some (pv_i x1), none] [pv_i (0 : Int32)] (mm_si B I) (qi_ (fun x M' => ∃ I', M' = mm_si B I' ∧ P x I'))
    refine go_if_ne (tgt := 17) dX11_tick_7 (by decide) (fun hc => absurd hc (by decide)) (fun _ => ?_)
    refine go_aload_n dX11_tick_10 rfl ?_
    refine go_bipush (v := (-2 : Int32)) rfl dX11_tick_11 ?_
    obtain ⟨h8, H⟩ := H
    refine go_V (av := [pv_i (-2 : Int32)]) (st := []) (ci := 11) ok_X11_refuses ⟨by decide, by decide⟩ ml_X11_199 rfl (by decide) (fun v hv => by simp only [List.mem_cons, List.not_mem_nil, or_false] at hv; rcases hv with rfl <;> first | exact pv_1i | exact pv_1r) (Nat.le_of_ble_eq_true rfl) (fun _ h => h) (by decide) rfl RK.1 dX11_tick_13 (rx_refuses RK h8) (fun r M' hq _ => ?_)
    obtain ⟨_, rfl, _, rfl, rfl, rfl⟩ := hq
    show go_W mt_X11_tick fr_R 16 [some (pv_r m), some (pv_i x1), none] [pv_i (-2 : Int32)] (mm_si B (i2_u I m 7 (I m 7 + 1))) (qi_ (fun x M' => ∃ I', M' = mm_si B I' ∧ P x I'))
    obtain ⟨I1, hI1⟩ : ∃ I', I' = i2_u I m 7 (I m 7 + 1) := ⟨_, rfl⟩
    rw [← hI1]
    replace H := H I1 hI1
    exact go_iret rfl rfl dX11_tick_16 ⟨_, rfl, _, rfl, H⟩
set_option maxRecDepth 20000 in
theorem wq_X11_tick_19 {B : mm_T} {I : Nat → Nat → Int32} {m : Nat} (RK : rf_ok B m) {x1 x2 : Int32} {P : Int32 → (Nat → Nat → Int32) → Prop} (H : (((x1 ≤ x2) → P (I (m + 1) 0) I) ∧ ((¬ x1 ≤ x2) → rs_v mt_X11_ticks [pv_r m] B I (fun I1 => rw_i mt_X11_tick 19 [some (pv_r m), some (pv_i x1), some (pv_i (x2 + (1 : Int32)))] [] B I1 P)))) : rw_i mt_X11_tick 19 [some (pv_r m), some (pv_i x1), some (pv_i x2)] [] B I P := by
  refine go_iload_n dX11_tick_19 rfl ?_
  refine go_iload_n dX11_tick_20 rfl ?_
  refine go_icmp_ge (tgt := 34) dX11_tick_21 (by decide) (fun hc => ?_) (fun hc => ?_)
  · replace H := H.1 hc
    refine go_aload_n dX11_tick_34 rfl ?_
    refine go_getRe (k := 0) ⟨by decide, rfl, by decide, Or.inr ⟨_, rfl⟩⟩ RK.1 (rf_r1 RK) fl_X11_7 dX11_tick_35 ?_
    refine go_iconst (v := (0 : Int32)) rfl dX11_tick_38 ?_
    refine go_ialdN (j := 0) ⟨by decide, by decide, by decide⟩ (rf_k1 RK) rfl (by decide) dX11_tick_39 ?_
    exact go_iret rfl rfl dX11_tick_40 ⟨_, rfl, _, rfl, H⟩
  · replace H := H.2 hc
    refine go_aload_n dX11_tick_24 rfl ?_
    refine go_V (av := []) (st := []) (ci := 11) ok_X11_ticks ⟨by decide, by decide⟩ ml_X11_227 rfl (by decide) (fun v hv => absurd hv List.not_mem_nil) (Nat.le_of_ble_eq_true rfl) (fun _ h => h) (by decide) rfl RK.1 dX11_tick_25 H (fun r M' hq _ => ?_)
    obtain ⟨rfl, I1, rfl, H⟩ := hq
    show go_W mt_X11_tick fr_R 28 [some (pv_r m), some (pv_i x1), some (pv_i x2)] [] (mm_si B I1) (qi_ (fun x M' => ∃ I', M' = mm_si B I' ∧ P x I'))
    refine go_iinc (v := (1 : Int32)) (by decide) rfl rfl dX11_tick_28 ?_
    show go_W mt_X11_tick fr_R 31 [some (pv_r m), some (pv_i x1), some (pv_i (x2 + (1 : Int32)))] [] (mm_si B I1) (qi_ (fun x M' => ∃ I', M' = mm_si B I' ∧ P x I'))
    refine go_goto (tgt := 19) dX11_tick_31 (by decide) ?_
    exact H
set_option maxRecDepth 20000 in
theorem wq_X11_drain_0 {B : mm_T} {I : Nat → Nat → Int32} {m : Nat} (RK : rf_ok B m) {x1 : Int32} {P : Int32 → (Nat → Nat → Int32) → Prop} (H : ((((0 ≤ x1 ∧ x1 ≤ 4)) → ∃ n1, (x1 = nI n1 ∧ n1 < 5) ∧ ((((I (m + 1) ((10 + 10 * n1) + 3) = 0) → ∀ I2, I2 = i2_u I (m + 1) ((10 + 10 * n1) + 3) (1 : Int32) → rs_v mt_X11_closes [pv_r m] B I2 (fun I3 => rs_i mt_X11_standing [pv_r m, pv_i x1] B I3 (fun v5 I4 => P v5 I4))) ∧ ((¬ I (m + 1) ((10 + 10 * n1) + 3) = 0) → (I m 8 = 0) ∧ (∀ I6, I6 = i2_u I m 7 (I m 7 + 1) → P (-3 : Int32) I6))))) ∧ ((¬ (0 ≤ x1 ∧ x1 ≤ 4)) → (I m 8 = 0) ∧ (∀ I7, I7 = i2_u I m 7 (I m 7 + 1) → P (-2 : Int32) I7)))) : rw_i mt_X11_drain 0 [some (pv_r m), some (pv_i x1)] [] B I P := by
  refine go_aload_n dX11_drain_0 rfl ?_
  refine go_iload_n dX11_drain_1 rfl ?_
  by_cases hc : (0 ≤ x1 ∧ x1 ≤ 4)
  · replace H := H.1 hc
    refine go_V (av := [pv_i x1]) (st := []) (ci := 11) ok_X11_isLane ⟨by decide, by decide⟩ ml_X11_152 rfl (by decide) (fun v hv => by simp only [List.mem_cons, List.not_mem_nil, or_false] at hv; rcases hv with rfl <;> first | exact pv_1i | exact pv_1r) (Nat.le_of_ble_eq_true rfl) (fun _ h => h) (by decide) rfl RK.1 dX11_drain_2 (rx_isLane_t RK hc) (fun r M' hq _ => ?_)
    obtain ⟨_, rfl, _, rfl, rfl, rfl⟩ := hq
    show go_W mt_X11_drain fr_R 5 [some (pv_r m), some (pv_i x1)] [pv_i (1 : Int32)] (mm_si B I) (qi_ (fun x M' => ∃ I', M' = mm_si B I' ∧ P x I'))
    refine go_if_ne (tgt := 15) dX11_drain_5 (by decide) (fun _ => ?_) (fun hc => absurd hc (by decide))
    refine go_aload_n dX11_drain_15 rfl ?_
    refine go_getRe (k := 0) ⟨by decide, rfl, by decide, Or.inr ⟨_, rfl⟩⟩ RK.1 (rf_r1 RK) fl_X11_7 dX11_drain_16 ?_
    refine go_iload_n dX11_drain_19 rfl ?_
    obtain ⟨n1, ⟨hn1, hn1b⟩, H⟩ := H
    refine go_St (av := [pv_i x1]) (st := [pv_r (m + 1)]) ok_X11_at ⟨by decide, by decide⟩ ml_X11_80 rfl (by decide) (fun v hv => by simp only [List.mem_cons, List.not_mem_nil, or_false] at hv; rcases hv with rfl <;> first | exact pv_1i | exact pv_1r) (Nat.le_of_ble_eq_true rfl) (fun _ h => h) dX11_drain_20 (rx_at RK hn1) (fun r M' hq _ => ?_)
    obtain ⟨_, rfl, _, rfl, rfl, rfl⟩ := hq
    show go_W mt_X11_drain fr_R 23 [some (pv_r m), some (pv_i x1)] [pv_i (nI (10 + 10 * n1)), pv_r (m + 1)] (mm_si B I) (qi_ (fun x M' => ∃ I', M' = mm_si B I' ∧ P x I'))
    refine go_iconst (v := (3 : Int32)) rfl dX11_drain_23 ?_
    refine go_iadd dX11_drain_24 ?_
    refine go_ialdN (j := ((10 + 10 * n1) + 3)) ⟨by decide, by decide, by decide⟩ (rf_k1 RK) (nI_ae rfl rfl) (by omega) dX11_drain_25 ?_
    refine go_if_eq (tgt := 36) dX11_drain_26 (by decide) (fun hc => ?_) (fun hc => ?_)
    · replace H := H.1 hc
      refine go_aload_n dX11_drain_36 rfl ?_
      refine go_getRe (k := 0) ⟨by decide, rfl, by decide, Or.inr ⟨_, rfl⟩⟩ RK.1 (rf_r1 RK) fl_X11_7 dX11_drain_37 ?_
      refine go_iload_n dX11_drain_40 rfl ?_
      refine go_St (av := [pv_i x1]) (st := [pv_r (m + 1)]) ok_X11_at ⟨by decide, by decide⟩ ml_X11_80 rfl (by decide) (fun v hv => by simp only [List.mem_cons, List.not_mem_nil, or_false] at hv; rcases hv with rfl <;> first | exact pv_1i | exact pv_1r) (Nat.le_of_ble_eq_true rfl) (fun _ h => h) dX11_drain_41 (rx_at RK hn1) (fun r M' hq _ => ?_)
      obtain ⟨_, rfl, _, rfl, rfl, rfl⟩ := hq
      show go_W mt_X11_drain fr_R 44 [some (pv_r m), some (pv_i x1)] [pv_i (nI (10 + 10 * n1)), pv_r (m + 1)] (mm_si B I) (qi_ (fun x M' => ∃ I', M' = mm_si B I' ∧ P x I'))
      refine go_iconst (v := (3 : Int32)) rfl dX11_drain_44 ?_
      refine go_iadd dX11_drain_45 ?_
      refine go_iconst (v := (1 : Int32)) rfl dX11_drain_46 ?_
      refine go_iastN (j := ((10 + 10 * n1) + 3)) ⟨by decide, by decide, by decide⟩ (rf_k1 RK) rfl (nI_ae rfl rfl) (by omega) dX11_drain_47 ?_
      show go_W mt_X11_drain fr_R 48 [some (pv_r m), some (pv_i x1)] [] (mm_si B (i2_u I (m + 1) ((10 + 10 * n1) + 3) (1 : Int32))) (qi_ (fun x M' => ∃ I', M' = mm_si B I' ∧ P x I'))
      obtain ⟨I2, hI2⟩ : ∃ I', I' = i2_u I (m + 1) ((10 + 10 * n1) + 3) (1 : Int32) := ⟨_, rfl⟩
      rw [← hI2]
      replace H := H I2 hI2
      refine go_aload_n dX11_drain_48 rfl ?_
      refine go_V (av := []) (st := []) (ci := 11) ok_X11_closes ⟨by decide, by decide⟩ ml_X11_143 rfl (by decide) (fun v hv => absurd hv List.not_mem_nil) (Nat.le_of_ble_eq_true rfl) (fun _ h => h) (by decide) rfl RK.1 dX11_drain_49 H (fun r M' hq _ => ?_)
      obtain ⟨rfl, I3, rfl, H⟩ := hq
      show go_W mt_X11_drain fr_R 52 [some (pv_r m), some (pv_i x1)] [] (mm_si B I3) (qi_ (fun x M' => ∃ I', M' = mm_si B I' ∧ P x I'))
      refine go_aload_n dX11_drain_52 rfl ?_
      refine go_iload_n dX11_drain_53 rfl ?_
      refine go_V (av := [pv_i x1]) (st := []) (ci := 11) ok_X11_standing ⟨by decide, by decide⟩ ml_X11_115 rfl (by decide) (fun v hv => by simp only [List.mem_cons, List.not_mem_nil, or_false] at hv; rcases hv with rfl <;> first | exact pv_1i | exact pv_1r) (Nat.le_of_ble_eq_true rfl) (fun _ h => h) (by decide) rfl RK.1 dX11_drain_54 H (fun r M' hq _ => ?_)
      obtain ⟨v5, rfl, I4, rfl, H⟩ := hq
      show go_W mt_X11_drain fr_R 57 [some (pv_r m), some (pv_i x1)] [pv_i v5] (mm_si B I4) (qi_ (fun x M' => ∃ I', M' = mm_si B I' ∧ P x I'))
      exact go_iret rfl rfl dX11_drain_57 ⟨_, rfl, _, rfl, H⟩
    · replace H := H.2 hc
      refine go_aload_n dX11_drain_29 rfl ?_
      refine go_bipush (v := (-3 : Int32)) rfl dX11_drain_30 ?_
      obtain ⟨h8, H⟩ := H
      refine go_V (av := [pv_i (-3 : Int32)]) (st := []) (ci := 11) ok_X11_refuses ⟨by decide, by decide⟩ ml_X11_199 rfl (by decide) (fun v hv => by simp only [List.mem_cons, List.not_mem_nil, or_false] at hv; rcases hv with rfl <;> first | exact pv_1i | exact pv_1r) (Nat.le_of_ble_eq_true rfl) (fun _ h => h) (by decide) rfl RK.1 dX11_drain_32 (rx_refuses RK h8) (fun r M' hq _ => ?_)
      obtain ⟨_, rfl, _, rfl, rfl, rfl⟩ := hq
      show go_W mt_X11_drain fr_R 35 [some (pv_r m), some (pv_i x1)] [pv_i (-3 : Int32)] (mm_si B (i2_u I m 7 (I m 7 + 1))) (qi_ (fun x M' => ∃ I', M' = mm_si B I' ∧ P x I'))
      obtain ⟨I6, hI6⟩ : ∃ I', I' = i2_u I m 7 (I m 7 + 1) := ⟨_, rfl⟩
      rw [← hI6]
      replace H := H I6 hI6
      exact go_iret rfl rfl dX11_drain_35 ⟨_, rfl, _, rfl, H⟩
  · replace H := H.2 hc
    refine go_V (av := [pv_i x1]) (st := []) (ci := 11) ok_X11_isLane ⟨by decide, by decide⟩ ml_X11_152 rfl (by decide) (fun v hv => by simp only [List.mem_cons, List.not_mem_nil, or_false] at hv; rcases hv with rfl <;> first | exact pv_1i | exact pv_1r) (Nat.le_of_ble_eq_true rfl) (fun _ h => h) (by decide) rfl RK.1 dX11_drain_2 (rx_isLane_f RK hc) (fun r M' hq _ => ?_)
    obtain ⟨_, rfl, _, rfl, rfl, rfl⟩ := hq
    show go_W mt_X11_drain fr_R 5 [some (pv_r m), some (pv_i x1)] [pv_i (0 : Int32)] (mm_si B I) (qi_ (fun x M' => ∃ I', M' = mm_si B I' ∧ P x I'))
    refine go_if_ne (tgt := 15) dX11_drain_5 (by decide) (fun hc => absurd hc (by decide)) (fun _ => ?_)
    refine go_aload_n dX11_drain_8 rfl ?_
    refine go_bipush (v := (-2 : Int32)) rfl dX11_drain_9 ?_
    obtain ⟨h8, H⟩ := H
    refine go_V (av := [pv_i (-2 : Int32)]) (st := []) (ci := 11) ok_X11_refuses ⟨by decide, by decide⟩ ml_X11_199 rfl (by decide) (fun v hv => by simp only [List.mem_cons, List.not_mem_nil, or_false] at hv; rcases hv with rfl <;> first | exact pv_1i | exact pv_1r) (Nat.le_of_ble_eq_true rfl) (fun _ h => h) (by decide) rfl RK.1 dX11_drain_11 (rx_refuses RK h8) (fun r M' hq _ => ?_)
    obtain ⟨_, rfl, _, rfl, rfl, rfl⟩ := hq
    show go_W mt_X11_drain fr_R 14 [some (pv_r m), some (pv_i x1)] [pv_i (-2 : Int32)] (mm_si B (i2_u I m 7 (I m 7 + 1))) (qi_ (fun x M' => ∃ I', M' = mm_si B I' ∧ P x I'))
    obtain ⟨I7, hI7⟩ : ∃ I', I' = i2_u I m 7 (I m 7 + 1) := ⟨_, rfl⟩
    rw [← hI7]
    replace H := H I7 hI7
    exact go_iret rfl rfl dX11_drain_14 ⟨_, rfl, _, rfl, H⟩
set_option maxRecDepth 20000 in
theorem wq_X11_open_0 {B : mm_T} {I : Nat → Nat → Int32} {m : Nat} (RK : rf_ok B m) {x1 : Int32} {P : Int32 → (Nat → Nat → Int32) → Prop} (H : ((((0 ≤ x1 ∧ x1 ≤ 4)) → ∃ n1, (x1 = nI n1 ∧ n1 < 5) ∧ ((((¬ I (m + 1) ((10 + 10 * n1) + 3) = 0) → ∀ I2, I2 = i2_u I (m + 1) ((10 + 10 * n1) + 3) (0 : Int32) → P (0 : Int32) I2) ∧ ((I (m + 1) ((10 + 10 * n1) + 3) = 0) → (I m 8 = 0) ∧ (∀ I3, I3 = i2_u I m 7 (I m 7 + 1) → P (-3 : Int32) I3))))) ∧ ((¬ (0 ≤ x1 ∧ x1 ≤ 4)) → (I m 8 = 0) ∧ (∀ I4, I4 = i2_u I m 7 (I m 7 + 1) → P (-2 : Int32) I4)))) : rw_i mt_X11_open 0 [some (pv_r m), some (pv_i x1)] [] B I P := by
  refine go_aload_n dX11_open_0 rfl ?_
  refine go_iload_n dX11_open_1 rfl ?_
  by_cases hc : (0 ≤ x1 ∧ x1 ≤ 4)
  · replace H := H.1 hc
    refine go_V (av := [pv_i x1]) (st := []) (ci := 11) ok_X11_isLane ⟨by decide, by decide⟩ ml_X11_152 rfl (by decide) (fun v hv => by simp only [List.mem_cons, List.not_mem_nil, or_false] at hv; rcases hv with rfl <;> first | exact pv_1i | exact pv_1r) (Nat.le_of_ble_eq_true rfl) (fun _ h => h) (by decide) rfl RK.1 dX11_open_2 (rx_isLane_t RK hc) (fun r M' hq _ => ?_)
    obtain ⟨_, rfl, _, rfl, rfl, rfl⟩ := hq
    show go_W mt_X11_open fr_R 5 [some (pv_r m), some (pv_i x1)] [pv_i (1 : Int32)] (mm_si B I) (qi_ (fun x M' => ∃ I', M' = mm_si B I' ∧ P x I'))
    refine go_if_ne (tgt := 15) dX11_open_5 (by decide) (fun _ => ?_) (fun hc => absurd hc (by decide))
    refine go_aload_n dX11_open_15 rfl ?_
    refine go_getRe (k := 0) ⟨by decide, rfl, by decide, Or.inr ⟨_, rfl⟩⟩ RK.1 (rf_r1 RK) fl_X11_7 dX11_open_16 ?_
    refine go_iload_n dX11_open_19 rfl ?_
    obtain ⟨n1, ⟨hn1, hn1b⟩, H⟩ := H
    refine go_St (av := [pv_i x1]) (st := [pv_r (m + 1)]) ok_X11_at ⟨by decide, by decide⟩ ml_X11_80 rfl (by decide) (fun v hv => by simp only [List.mem_cons, List.not_mem_nil, or_false] at hv; rcases hv with rfl <;> first | exact pv_1i | exact pv_1r) (Nat.le_of_ble_eq_true rfl) (fun _ h => h) dX11_open_20 (rx_at RK hn1) (fun r M' hq _ => ?_)
    obtain ⟨_, rfl, _, rfl, rfl, rfl⟩ := hq
    show go_W mt_X11_open fr_R 23 [some (pv_r m), some (pv_i x1)] [pv_i (nI (10 + 10 * n1)), pv_r (m + 1)] (mm_si B I) (qi_ (fun x M' => ∃ I', M' = mm_si B I' ∧ P x I'))
    refine go_iconst (v := (3 : Int32)) rfl dX11_open_23 ?_
    refine go_iadd dX11_open_24 ?_
    refine go_ialdN (j := ((10 + 10 * n1) + 3)) ⟨by decide, by decide, by decide⟩ (rf_k1 RK) (nI_ae rfl rfl) (by omega) dX11_open_25 ?_
    refine go_if_ne (tgt := 36) dX11_open_26 (by decide) (fun hc => ?_) (fun hc => ?_)
    · replace H := H.1 hc
      refine go_aload_n dX11_open_36 rfl ?_
      refine go_getRe (k := 0) ⟨by decide, rfl, by decide, Or.inr ⟨_, rfl⟩⟩ RK.1 (rf_r1 RK) fl_X11_7 dX11_open_37 ?_
      refine go_iload_n dX11_open_40 rfl ?_
      refine go_St (av := [pv_i x1]) (st := [pv_r (m + 1)]) ok_X11_at ⟨by decide, by decide⟩ ml_X11_80 rfl (by decide) (fun v hv => by simp only [List.mem_cons, List.not_mem_nil, or_false] at hv; rcases hv with rfl <;> first | exact pv_1i | exact pv_1r) (Nat.le_of_ble_eq_true rfl) (fun _ h => h) dX11_open_41 (rx_at RK hn1) (fun r M' hq _ => ?_)
      obtain ⟨_, rfl, _, rfl, rfl, rfl⟩ := hq
      show go_W mt_X11_open fr_R 44 [some (pv_r m), some (pv_i x1)] [pv_i (nI (10 + 10 * n1)), pv_r (m + 1)] (mm_si B I) (qi_ (fun x M' => ∃ I', M' = mm_si B I' ∧ P x I'))
      refine go_iconst (v := (3 : Int32)) rfl dX11_open_44 ?_
      refine go_iadd dX11_open_45 ?_
      refine go_iconst (v := (0 : Int32)) rfl dX11_open_46 ?_
      refine go_iastN (j := ((10 + 10 * n1) + 3)) ⟨by decide, by decide, by decide⟩ (rf_k1 RK) rfl (nI_ae rfl rfl) (by omega) dX11_open_47 ?_
      show go_W mt_X11_open fr_R 48 [some (pv_r m), some (pv_i x1)] [] (mm_si B (i2_u I (m + 1) ((10 + 10 * n1) + 3) (0 : Int32))) (qi_ (fun x M' => ∃ I', M' = mm_si B I' ∧ P x I'))
      obtain ⟨I2, hI2⟩ : ∃ I', I' = i2_u I (m + 1) ((10 + 10 * n1) + 3) (0 : Int32) := ⟨_, rfl⟩
      rw [← hI2]
      replace H := H I2 hI2
      refine go_iconst (v := (0 : Int32)) rfl dX11_open_48 ?_
      exact go_iret rfl rfl dX11_open_49 ⟨_, rfl, _, rfl, H⟩
    · replace H := H.2 hc
      refine go_aload_n dX11_open_29 rfl ?_
      refine go_bipush (v := (-3 : Int32)) rfl dX11_open_30 ?_
      obtain ⟨h8, H⟩ := H
      refine go_V (av := [pv_i (-3 : Int32)]) (st := []) (ci := 11) ok_X11_refuses ⟨by decide, by decide⟩ ml_X11_199 rfl (by decide) (fun v hv => by simp only [List.mem_cons, List.not_mem_nil, or_false] at hv; rcases hv with rfl <;> first | exact pv_1i | exact pv_1r) (Nat.le_of_ble_eq_true rfl) (fun _ h => h) (by decide) rfl RK.1 dX11_open_32 (rx_refuses RK h8) (fun r M' hq _ => ?_)
      obtain ⟨_, rfl, _, rfl, rfl, rfl⟩ := hq
      show go_W mt_X11_open fr_R 35 [some (pv_r m), some (pv_i x1)] [pv_i (-3 : Int32)] (mm_si B (i2_u I m 7 (I m 7 + 1))) (qi_ (fun x M' => ∃ I', M' = mm_si B I' ∧ P x I'))
      obtain ⟨I3, hI3⟩ : ∃ I', I' = i2_u I m 7 (I m 7 + 1) := ⟨_, rfl⟩
      rw [← hI3]
      replace H := H I3 hI3
      exact go_iret rfl rfl dX11_open_35 ⟨_, rfl, _, rfl, H⟩
  · replace H := H.2 hc
    refine go_V (av := [pv_i x1]) (st := []) (ci := 11) ok_X11_isLane ⟨by decide, by decide⟩ ml_X11_152 rfl (by decide) (fun v hv => by simp only [List.mem_cons, List.not_mem_nil, or_false] at hv; rcases hv with rfl <;> first | exact pv_1i | exact pv_1r) (Nat.le_of_ble_eq_true rfl) (fun _ h => h) (by decide) rfl RK.1 dX11_open_2 (rx_isLane_f RK hc) (fun r M' hq _ => ?_)
    obtain ⟨_, rfl, _, rfl, rfl, rfl⟩ := hq
    show go_W mt_X11_open fr_R 5 [some (pv_r m), some (pv_i x1)] [pv_i (0 : Int32)] (mm_si B I) (qi_ (fun x M' => ∃ I', M' = mm_si B I' ∧ P x I'))
    refine go_if_ne (tgt := 15) dX11_open_5 (by decide) (fun hc => absurd hc (by decide)) (fun _ => ?_)
    refine go_aload_n dX11_open_8 rfl ?_
    refine go_bipush (v := (-2 : Int32)) rfl dX11_open_9 ?_
    obtain ⟨h8, H⟩ := H
    refine go_V (av := [pv_i (-2 : Int32)]) (st := []) (ci := 11) ok_X11_refuses ⟨by decide, by decide⟩ ml_X11_199 rfl (by decide) (fun v hv => by simp only [List.mem_cons, List.not_mem_nil, or_false] at hv; rcases hv with rfl <;> first | exact pv_1i | exact pv_1r) (Nat.le_of_ble_eq_true rfl) (fun _ h => h) (by decide) rfl RK.1 dX11_open_11 (rx_refuses RK h8) (fun r M' hq _ => ?_)
    obtain ⟨_, rfl, _, rfl, rfl, rfl⟩ := hq
    show go_W mt_X11_open fr_R 14 [some (pv_r m), some (pv_i x1)] [pv_i (-2 : Int32)] (mm_si B (i2_u I m 7 (I m 7 + 1))) (qi_ (fun x M' => ∃ I', M' = mm_si B I' ∧ P x I'))
    obtain ⟨I4, hI4⟩ : ∃ I', I' = i2_u I m 7 (I m 7 + 1) := ⟨_, rfl⟩
    rw [← hI4]
    replace H := H I4 hI4
    exact go_iret rfl rfl dX11_open_14 ⟨_, rfl, _, rfl, H⟩
set_option maxRecDepth 20000 in
theorem wq_X11_cancel_0 {B : mm_T} {I : Nat → Nat → Int32} {m : Nat} (RK : rf_ok B m) {x1 : Int32} {P : Int32 → (Nat → Nat → Int32) → Prop} (H : ((((0 ≤ x1 ∧ x1 ≤ I (m + 1) 1 - 1)) → ∃ n1, (x1 = nI n1 ∧ n1 < 400) ∧ (((((I (m + 1) (200 + 14 * n1 + 6) ≤ 2)) → ∀ I2, I2 = i2_u I (m + 1) (200 + 14 * n1 + 6) (6 : Int32) → ∀ I3, I3 = i2_u I2 (m + 1) (200 + 14 * n1 + 8) (-1 : Int32) → rs_v mt_X11_writes [pv_r m, pv_i (6 : Int32), pv_i x1, pv_i (-1 : Int32), pv_i (0 : Int32)] B I3 (fun I4 => rs_i mt_X11_drags [pv_r m, pv_i x1, pv_i (101 : Int32)] B I4 (fun v6 I5 => rs_v mt_X11_closes [pv_r m] B I5 (fun I7 => P v6 I7)))) ∧ ((¬ (I (m + 1) (200 + 14 * n1 + 6) ≤ 2)) → (I m 8 = 0) ∧ (∀ I8, I8 = i2_u I m 7 (I m 7 + 1) → P (-3 : Int32) I8))))) ∧ ((¬ (0 ≤ x1 ∧ x1 ≤ I (m + 1) 1 - 1)) → (I m 8 = 0) ∧ (∀ I9, I9 = i2_u I m 7 (I m 7 + 1) → P (-2 : Int32) I9)))) : rw_i mt_X11_cancel 0 [some (pv_r m), some (pv_i x1), none] [] B I P := by
  refine go_aload_n dX11_cancel_0 rfl ?_
  refine go_iload_n dX11_cancel_1 rfl ?_
  by_cases hc : (0 ≤ x1 ∧ x1 ≤ I (m + 1) 1 - 1)
  · replace H := H.1 hc
    refine go_V (av := [pv_i x1]) (st := []) (ci := 11) ok_X11_isTask ⟨by decide, by decide⟩ ml_X11_161 rfl (by decide) (fun v hv => by simp only [List.mem_cons, List.not_mem_nil, or_false] at hv; rcases hv with rfl <;> first | exact pv_1i | exact pv_1r) (Nat.le_of_ble_eq_true rfl) (fun _ h => h) (by decide) rfl RK.1 dX11_cancel_2 (rx_isTask_t RK hc) (fun r M' hq _ => ?_)
    obtain ⟨_, rfl, _, rfl, rfl, rfl⟩ := hq
    show go_W mt_X11_cancel fr_R 5 [some (pv_r m), some (pv_i x1), none] [pv_i (1 : Int32)] (mm_si B I) (qi_ (fun x M' => ∃ I', M' = mm_si B I' ∧ P x I'))
    refine go_if_ne (tgt := 15) dX11_cancel_5 (by decide) (fun _ => ?_) (fun hc => absurd hc (by decide))
    refine go_aload_n dX11_cancel_15 rfl ?_
    refine go_iload_n dX11_cancel_16 rfl ?_
    obtain ⟨n1, ⟨hn1, hn1b⟩, H⟩ := H
    by_cases hc : (I (m + 1) (200 + 14 * n1 + 6) ≤ 2)
    · replace H := H.1 hc
      refine go_V (av := [pv_i x1]) (st := []) (ci := 11) ok_X11_isAtRest ⟨by decide, by decide⟩ ml_X11_230 rfl (by decide) (fun v hv => by simp only [List.mem_cons, List.not_mem_nil, or_false] at hv; rcases hv with rfl <;> first | exact pv_1i | exact pv_1r) (Nat.le_of_ble_eq_true rfl) (fun _ h => h) (by decide) rfl RK.1 dX11_cancel_17 (rx_isAtRest_t RK hn1 hn1b hc) (fun r M' hq _ => ?_)
      obtain ⟨_, rfl, _, rfl, rfl, rfl⟩ := hq
      show go_W mt_X11_cancel fr_R 20 [some (pv_r m), some (pv_i x1), none] [pv_i (1 : Int32)] (mm_si B I) (qi_ (fun x M' => ∃ I', M' = mm_si B I' ∧ P x I'))
      refine go_if_ne (tgt := 30) dX11_cancel_20 (by decide) (fun _ => ?_) (fun hc => absurd hc (by decide))
      refine go_aload_n dX11_cancel_30 rfl ?_
      refine go_iload_n dX11_cancel_31 rfl ?_
      refine go_bipush (v := (6 : Int32)) rfl dX11_cancel_32 ?_
      refine go_bipush (v := (6 : Int32)) rfl dX11_cancel_34 ?_
      refine go_V (av := [pv_i x1, pv_i (6 : Int32), pv_i (6 : Int32)]) (st := []) (ci := 11) ok_X11_is ⟨by decide, by decide⟩ ml_X11_121 rfl (by decide) (fun v hv => by simp only [List.mem_cons, List.not_mem_nil, or_false] at hv; rcases hv with rfl | rfl | rfl <;> first | exact pv_1i | exact pv_1r) (Nat.le_of_ble_eq_true rfl) (fun _ h => h) (by decide) rfl RK.1 dX11_cancel_36 (rx_is RK hn1 rfl (by omega) (by decide)) (fun r M' hq _ => ?_)
      obtain ⟨rfl, _, rfl, rfl⟩ := hq
      show go_W mt_X11_cancel fr_R 39 [some (pv_r m), some (pv_i x1), none] [] (mm_si B (i2_u I (m + 1) (200 + 14 * n1 + 6) (6 : Int32))) (qi_ (fun x M' => ∃ I', M' = mm_si B I' ∧ P x I'))
      obtain ⟨I2, hI2⟩ : ∃ I', I' = i2_u I (m + 1) (200 + 14 * n1 + 6) (6 : Int32) := ⟨_, rfl⟩
      rw [← hI2]
      replace H := H I2 hI2
      refine go_aload_n dX11_cancel_39 rfl ?_
      refine go_iload_n dX11_cancel_40 rfl ?_
      refine go_bipush (v := (8 : Int32)) rfl dX11_cancel_41 ?_
      refine go_iconst (v := (-1 : Int32)) rfl dX11_cancel_43 ?_
      refine go_V (av := [pv_i x1, pv_i (8 : Int32), pv_i (-1 : Int32)]) (st := []) (ci := 11) ok_X11_is ⟨by decide, by decide⟩ ml_X11_121 rfl (by decide) (fun v hv => by simp only [List.mem_cons, List.not_mem_nil, or_false] at hv; rcases hv with rfl | rfl | rfl <;> first | exact pv_1i | exact pv_1r) (Nat.le_of_ble_eq_true rfl) (fun _ h => h) (by decide) rfl RK.1 dX11_cancel_44 (rx_is RK hn1 rfl (by omega) (by decide)) (fun r M' hq _ => ?_)
      obtain ⟨rfl, _, rfl, rfl⟩ := hq
      show go_W mt_X11_cancel fr_R 47 [some (pv_r m), some (pv_i x1), none] [] (mm_si B (i2_u I2 (m + 1) (200 + 14 * n1 + 8) (-1 : Int32))) (qi_ (fun x M' => ∃ I', M' = mm_si B I' ∧ P x I'))
      obtain ⟨I3, hI3⟩ : ∃ I', I' = i2_u I2 (m + 1) (200 + 14 * n1 + 8) (-1 : Int32) := ⟨_, rfl⟩
      rw [← hI3]
      replace H := H I3 hI3
      refine go_aload_n dX11_cancel_47 rfl ?_
      refine go_bipush (v := (6 : Int32)) rfl dX11_cancel_48 ?_
      refine go_iload_n dX11_cancel_50 rfl ?_
      refine go_iconst (v := (-1 : Int32)) rfl dX11_cancel_51 ?_
      refine go_iconst (v := (0 : Int32)) rfl dX11_cancel_52 ?_
      refine go_V (av := [pv_i (6 : Int32), pv_i x1, pv_i (-1 : Int32), pv_i (0 : Int32)]) (st := []) (ci := 11) ok_X11_writes ⟨by decide, by decide⟩ ml_X11_125 rfl (by decide) (fun v hv => by simp only [List.mem_cons, List.not_mem_nil, or_false] at hv; rcases hv with rfl | rfl | rfl | rfl <;> first | exact pv_1i | exact pv_1r) (Nat.le_of_ble_eq_true rfl) (fun _ h => h) (by decide) rfl RK.1 dX11_cancel_53 H (fun r M' hq _ => ?_)
      obtain ⟨rfl, I4, rfl, H⟩ := hq
      show go_W mt_X11_cancel fr_R 56 [some (pv_r m), some (pv_i x1), none] [] (mm_si B I4) (qi_ (fun x M' => ∃ I', M' = mm_si B I' ∧ P x I'))
      refine go_aload_n dX11_cancel_56 rfl ?_
      refine go_iload_n dX11_cancel_57 rfl ?_
      refine go_bipush (v := (101 : Int32)) rfl dX11_cancel_58 ?_
      refine go_V (av := [pv_i x1, pv_i (101 : Int32)]) (st := []) (ci := 11) ok_X11_drags ⟨by decide, by decide⟩ ml_X11_149 rfl (by decide) (fun v hv => by simp only [List.mem_cons, List.not_mem_nil, or_false] at hv; rcases hv with rfl | rfl <;> first | exact pv_1i | exact pv_1r) (Nat.le_of_ble_eq_true rfl) (fun _ h => h) (by decide) rfl RK.1 dX11_cancel_60 H (fun r M' hq _ => ?_)
      obtain ⟨v6, rfl, I5, rfl, H⟩ := hq
      show go_W mt_X11_cancel fr_R 63 [some (pv_r m), some (pv_i x1), none] [pv_i v6] (mm_si B I5) (qi_ (fun x M' => ∃ I', M' = mm_si B I' ∧ P x I'))
      refine go_istore_n (by decide) dX11_cancel_63 ?_
      show go_W mt_X11_cancel fr_R 64 [some (pv_r m), some (pv_i x1), some (pv_i v6)] [] (mm_si B I5) (qi_ (fun x M' => ∃ I', M' = mm_si B I' ∧ P x I'))
      refine go_aload_n dX11_cancel_64 rfl ?_
      refine go_V (av := []) (st := []) (ci := 11) ok_X11_closes ⟨by decide, by decide⟩ ml_X11_143 rfl (by decide) (fun v hv => absurd hv List.not_mem_nil) (Nat.le_of_ble_eq_true rfl) (fun _ h => h) (by decide) rfl RK.1 dX11_cancel_65 H (fun r M' hq _ => ?_)
      obtain ⟨rfl, I7, rfl, H⟩ := hq
      show go_W mt_X11_cancel fr_R 68 [some (pv_r m), some (pv_i x1), some (pv_i v6)] [] (mm_si B I7) (qi_ (fun x M' => ∃ I', M' = mm_si B I' ∧ P x I'))
      refine go_iload_n dX11_cancel_68 rfl ?_
      exact go_iret rfl rfl dX11_cancel_69 ⟨_, rfl, _, rfl, H⟩
    · replace H := H.2 hc
      refine go_V (av := [pv_i x1]) (st := []) (ci := 11) ok_X11_isAtRest ⟨by decide, by decide⟩ ml_X11_230 rfl (by decide) (fun v hv => by simp only [List.mem_cons, List.not_mem_nil, or_false] at hv; rcases hv with rfl <;> first | exact pv_1i | exact pv_1r) (Nat.le_of_ble_eq_true rfl) (fun _ h => h) (by decide) rfl RK.1 dX11_cancel_17 (rx_isAtRest_f RK hn1 hn1b hc) (fun r M' hq _ => ?_)
      obtain ⟨_, rfl, _, rfl, rfl, rfl⟩ := hq
      show go_W mt_X11_cancel fr_R 20 [some (pv_r m), some (pv_i x1), none] [pv_i (0 : Int32)] (mm_si B I) (qi_ (fun x M' => ∃ I', M' = mm_si B I' ∧ P x I'))
      refine go_if_ne (tgt := 30) dX11_cancel_20 (by decide) (fun hc => absurd hc (by decide)) (fun _ => ?_)
      refine go_aload_n dX11_cancel_23 rfl ?_
      refine go_bipush (v := (-3 : Int32)) rfl dX11_cancel_24 ?_
      obtain ⟨h8, H⟩ := H
      refine go_V (av := [pv_i (-3 : Int32)]) (st := []) (ci := 11) ok_X11_refuses ⟨by decide, by decide⟩ ml_X11_199 rfl (by decide) (fun v hv => by simp only [List.mem_cons, List.not_mem_nil, or_false] at hv; rcases hv with rfl <;> first | exact pv_1i | exact pv_1r) (Nat.le_of_ble_eq_true rfl) (fun _ h => h) (by decide) rfl RK.1 dX11_cancel_26 (rx_refuses RK h8) (fun r M' hq _ => ?_)
      obtain ⟨_, rfl, _, rfl, rfl, rfl⟩ := hq
      show go_W mt_X11_cancel fr_R 29 [some (pv_r m), some (pv_i x1), none] [pv_i (-3 : Int32)] (mm_si B (i2_u I m 7 (I m 7 + 1))) (qi_ (fun x M' => ∃ I', M' = mm_si B I' ∧ P x I'))
      obtain ⟨I8, hI8⟩ : ∃ I', I' = i2_u I m 7 (I m 7 + 1) := ⟨_, rfl⟩
      rw [← hI8]
      replace H := H I8 hI8
      exact go_iret rfl rfl dX11_cancel_29 ⟨_, rfl, _, rfl, H⟩
  · replace H := H.2 hc
    refine go_V (av := [pv_i x1]) (st := []) (ci := 11) ok_X11_isTask ⟨by decide, by decide⟩ ml_X11_161 rfl (by decide) (fun v hv => by simp only [List.mem_cons, List.not_mem_nil, or_false] at hv; rcases hv with rfl <;> first | exact pv_1i | exact pv_1r) (Nat.le_of_ble_eq_true rfl) (fun _ h => h) (by decide) rfl RK.1 dX11_cancel_2 (rx_isTask_f RK hc) (fun r M' hq _ => ?_)
    obtain ⟨_, rfl, _, rfl, rfl, rfl⟩ := hq
    show go_W mt_X11_cancel fr_R 5 [some (pv_r m), some (pv_i x1), none] [pv_i (0 : Int32)] (mm_si B I) (qi_ (fun x M' => ∃ I', M' = mm_si B I' ∧ P x I'))
    refine go_if_ne (tgt := 15) dX11_cancel_5 (by decide) (fun hc => absurd hc (by decide)) (fun _ => ?_)
    refine go_aload_n dX11_cancel_8 rfl ?_
    refine go_bipush (v := (-2 : Int32)) rfl dX11_cancel_9 ?_
    obtain ⟨h8, H⟩ := H
    refine go_V (av := [pv_i (-2 : Int32)]) (st := []) (ci := 11) ok_X11_refuses ⟨by decide, by decide⟩ ml_X11_199 rfl (by decide) (fun v hv => by simp only [List.mem_cons, List.not_mem_nil, or_false] at hv; rcases hv with rfl <;> first | exact pv_1i | exact pv_1r) (Nat.le_of_ble_eq_true rfl) (fun _ h => h) (by decide) rfl RK.1 dX11_cancel_11 (rx_refuses RK h8) (fun r M' hq _ => ?_)
    obtain ⟨_, rfl, _, rfl, rfl, rfl⟩ := hq
    show go_W mt_X11_cancel fr_R 14 [some (pv_r m), some (pv_i x1), none] [pv_i (-2 : Int32)] (mm_si B (i2_u I m 7 (I m 7 + 1))) (qi_ (fun x M' => ∃ I', M' = mm_si B I' ∧ P x I'))
    obtain ⟨I9, hI9⟩ : ∃ I', I' = i2_u I m 7 (I m 7 + 1) := ⟨_, rfl⟩
    rw [← hI9]
    replace H := H I9 hI9
    exact go_iret rfl rfl dX11_cancel_14 ⟨_, rfl, _, rfl, H⟩
set_option maxRecDepth 20000 in
theorem wq_X11_movesTo_0 {B : mm_T} {I : Nat → Nat → Int32} {m : Nat} (RK : rf_ok B m) {x1 x2 : Int32} {P : (Nat → Nat → Int32) → Prop} (H : ∃ n1, (x1 = nI n1 ∧ n1 < 400) ∧ ((((¬ I (m + 1) (200 + 14 * n1 + 6) = 0) → ∀ I2, I2 = i2_u I (m + 1) (200 + 14 * n1 + 0) x2 → P I2) ∧ ((I (m + 1) (200 + 14 * n1 + 6) = 0) → ∀ I3, I3 = i2_u I (m + 1) (200 + 14 * n1 + 6) (1 : Int32) → ∀ I4, I4 = i2_u I3 (m + 1) (200 + 14 * n1 + 0) x2 → rs_v mt_X11_waitsNow [pv_r m, pv_i x1] B I4 (fun I5 => P I5))))) : rw_v mt_X11_movesTo 0 [some (pv_r m), some (pv_i x1), some (pv_i x2), none] [] B I P := by
  refine go_aload_n dX11_movesTo_0 rfl ?_
  refine go_iload_n dX11_movesTo_1 rfl ?_
  refine go_bipush (v := (6 : Int32)) rfl dX11_movesTo_2 ?_
  obtain ⟨n1, ⟨hn1, hn1b⟩, H⟩ := H
  refine go_V (av := [pv_i x1, pv_i (6 : Int32)]) (st := []) (ci := 11) ok_X11_of ⟨by decide, by decide⟩ ml_X11_94 rfl (by decide) (fun v hv => by simp only [List.mem_cons, List.not_mem_nil, or_false] at hv; rcases hv with rfl | rfl <;> first | exact pv_1i | exact pv_1r) (Nat.le_of_ble_eq_true rfl) (fun _ h => h) (by decide) rfl RK.1 dX11_movesTo_4 (rx_of RK hn1 rfl hn1b (by decide)) (fun r M' hq _ => ?_)
  obtain ⟨_, rfl, _, rfl, rfl, rfl⟩ := hq
  show go_W mt_X11_movesTo fr_R 7 [some (pv_r m), some (pv_i x1), some (pv_i x2), none] [pv_i (I (m + 1) (200 + 14 * n1 + 6))] (mm_si B I) (qv_ (fun M' => ∃ I', M' = mm_si B I' ∧ P I'))
  refine go_if_ne (tgt := 14) dX11_movesTo_7 (by decide) (fun hc => ?_) (fun hc => ?_)
  · replace H := H.1 hc
    refine go_iconst (v := (0 : Int32)) rfl dX11_movesTo_14 ?_
    refine go_istore_n (by decide) dX11_movesTo_15 ?_
    show go_W mt_X11_movesTo fr_R 16 [some (pv_r m), some (pv_i x1), some (pv_i x2), some (pv_i (0 : Int32))] [] (mm_si B I) (qv_ (fun M' => ∃ I', M' = mm_si B I' ∧ P I'))
    refine go_iload_n dX11_movesTo_16 rfl ?_
    refine go_if_eq (tgt := 28) dX11_movesTo_17 (by decide) (fun _ => ?_) (fun hc => absurd hc (by decide))
    refine go_aload_n dX11_movesTo_28 rfl ?_
    refine go_iload_n dX11_movesTo_29 rfl ?_
    refine go_iconst (v := (0 : Int32)) rfl dX11_movesTo_30 ?_
    refine go_iload_n dX11_movesTo_31 rfl ?_
    refine go_V (av := [pv_i x1, pv_i (0 : Int32), pv_i x2]) (st := []) (ci := 11) ok_X11_is ⟨by decide, by decide⟩ ml_X11_121 rfl (by decide) (fun v hv => by simp only [List.mem_cons, List.not_mem_nil, or_false] at hv; rcases hv with rfl | rfl | rfl <;> first | exact pv_1i | exact pv_1r) (Nat.le_of_ble_eq_true rfl) (fun _ h => h) (by decide) rfl RK.1 dX11_movesTo_32 (rx_is RK hn1 rfl (by omega) (by decide)) (fun r M' hq _ => ?_)
    obtain ⟨rfl, _, rfl, rfl⟩ := hq
    show go_W mt_X11_movesTo fr_R 35 [some (pv_r m), some (pv_i x1), some (pv_i x2), some (pv_i (0 : Int32))] [] (mm_si B (i2_u I (m + 1) (200 + 14 * n1 + 0) x2)) (qv_ (fun M' => ∃ I', M' = mm_si B I' ∧ P I'))
    obtain ⟨I2, hI2⟩ : ∃ I', I' = i2_u I (m + 1) (200 + 14 * n1 + 0) x2 := ⟨_, rfl⟩
    rw [← hI2]
    replace H := H I2 hI2
    refine go_iload_n dX11_movesTo_35 rfl ?_
    refine go_if_eq (tgt := 44) dX11_movesTo_36 (by decide) (fun _ => ?_) (fun hc => absurd hc (by decide))
    exact go_vret rfl dX11_movesTo_44 ⟨rfl, _, rfl, H⟩
  · replace H := H.2 hc
    refine go_iconst (v := (1 : Int32)) rfl dX11_movesTo_10 ?_
    refine go_goto (tgt := 15) dX11_movesTo_11 (by decide) ?_
    refine go_istore_n (by decide) dX11_movesTo_15 ?_
    show go_W mt_X11_movesTo fr_R 16 [some (pv_r m), some (pv_i x1), some (pv_i x2), some (pv_i (1 : Int32))] [] (mm_si B I) (qv_ (fun M' => ∃ I', M' = mm_si B I' ∧ P I'))
    refine go_iload_n dX11_movesTo_16 rfl ?_
    refine go_if_eq (tgt := 28) dX11_movesTo_17 (by decide) (fun hc => absurd hc (by decide)) (fun _ => ?_)
    refine go_aload_n dX11_movesTo_20 rfl ?_
    refine go_iload_n dX11_movesTo_21 rfl ?_
    refine go_bipush (v := (6 : Int32)) rfl dX11_movesTo_22 ?_
    refine go_iconst (v := (1 : Int32)) rfl dX11_movesTo_24 ?_
    refine go_V (av := [pv_i x1, pv_i (6 : Int32), pv_i (1 : Int32)]) (st := []) (ci := 11) ok_X11_is ⟨by decide, by decide⟩ ml_X11_121 rfl (by decide) (fun v hv => by simp only [List.mem_cons, List.not_mem_nil, or_false] at hv; rcases hv with rfl | rfl | rfl <;> first | exact pv_1i | exact pv_1r) (Nat.le_of_ble_eq_true rfl) (fun _ h => h) (by decide) rfl RK.1 dX11_movesTo_25 (rx_is RK hn1 rfl (by omega) (by decide)) (fun r M' hq _ => ?_)
    obtain ⟨rfl, _, rfl, rfl⟩ := hq
    show go_W mt_X11_movesTo fr_R 28 [some (pv_r m), some (pv_i x1), some (pv_i x2), some (pv_i (1 : Int32))] [] (mm_si B (i2_u I (m + 1) (200 + 14 * n1 + 6) (1 : Int32))) (qv_ (fun M' => ∃ I', M' = mm_si B I' ∧ P I'))
    obtain ⟨I3, hI3⟩ : ∃ I', I' = i2_u I (m + 1) (200 + 14 * n1 + 6) (1 : Int32) := ⟨_, rfl⟩
    rw [← hI3]
    replace H := H I3 hI3
    refine go_aload_n dX11_movesTo_28 rfl ?_
    refine go_iload_n dX11_movesTo_29 rfl ?_
    refine go_iconst (v := (0 : Int32)) rfl dX11_movesTo_30 ?_
    refine go_iload_n dX11_movesTo_31 rfl ?_
    refine go_V (av := [pv_i x1, pv_i (0 : Int32), pv_i x2]) (st := []) (ci := 11) ok_X11_is ⟨by decide, by decide⟩ ml_X11_121 rfl (by decide) (fun v hv => by simp only [List.mem_cons, List.not_mem_nil, or_false] at hv; rcases hv with rfl | rfl | rfl <;> first | exact pv_1i | exact pv_1r) (Nat.le_of_ble_eq_true rfl) (fun _ h => h) (by decide) rfl RK.1 dX11_movesTo_32 (rx_is RK hn1 rfl (by omega) (by decide)) (fun r M' hq _ => ?_)
    obtain ⟨rfl, _, rfl, rfl⟩ := hq
    show go_W mt_X11_movesTo fr_R 35 [some (pv_r m), some (pv_i x1), some (pv_i x2), some (pv_i (1 : Int32))] [] (mm_si B (i2_u I3 (m + 1) (200 + 14 * n1 + 0) x2)) (qv_ (fun M' => ∃ I', M' = mm_si B I' ∧ P I'))
    obtain ⟨I4, hI4⟩ : ∃ I', I' = i2_u I3 (m + 1) (200 + 14 * n1 + 0) x2 := ⟨_, rfl⟩
    rw [← hI4]
    replace H := H I4 hI4
    refine go_iload_n dX11_movesTo_35 rfl ?_
    refine go_if_eq (tgt := 44) dX11_movesTo_36 (by decide) (fun hc => absurd hc (by decide)) (fun _ => ?_)
    refine go_aload_n dX11_movesTo_39 rfl ?_
    refine go_iload_n dX11_movesTo_40 rfl ?_
    refine go_V (av := [pv_i x1]) (st := []) (ci := 11) ok_X11_waitsNow ⟨by decide, by decide⟩ ml_X11_146 rfl (by decide) (fun v hv => by simp only [List.mem_cons, List.not_mem_nil, or_false] at hv; rcases hv with rfl <;> first | exact pv_1i | exact pv_1r) (Nat.le_of_ble_eq_true rfl) (fun _ h => h) (by decide) rfl RK.1 dX11_movesTo_41 H (fun r M' hq _ => ?_)
    obtain ⟨rfl, I5, rfl, H⟩ := hq
    show go_W mt_X11_movesTo fr_R 44 [some (pv_r m), some (pv_i x1), some (pv_i x2), some (pv_i (1 : Int32))] [] (mm_si B I5) (qv_ (fun M' => ∃ I', M' = mm_si B I' ∧ P I'))
    exact go_vret rfl dX11_movesTo_44 ⟨rfl, _, rfl, H⟩
set_option maxRecDepth 20000 in
theorem wq_X11_move_0 {B : mm_T} {I : Nat → Nat → Int32} {m : Nat} (RK : rf_ok B m) {x1 x2 : Int32} {P : Int32 → (Nat → Nat → Int32) → Prop} (H : ((((0 ≤ x1 ∧ x1 ≤ I (m + 1) 1 - 1)) → ((((0 ≤ x2 ∧ x2 ≤ 4)) → ∃ n1, (x1 = nI n1 ∧ n1 < 400) ∧ (((((I (m + 1) (200 + 14 * n1 + 6) ≤ 2)) → (((I (m + 1) (200 + 14 * n1 + 0) = x2) → (I m 8 = 0) ∧ (∀ I2, I2 = i2_u I m 7 (I m 7 + 1) → P (-3 : Int32) I2)) ∧ ((¬ I (m + 1) (200 + 14 * n1 + 0) = x2) → ∃ n3, (x2 = nI n3 ∧ n3 < 5) ∧ ((((I (m + 1) ((10 + 10 * n3) + 3) = 0) → rs_i mt_X11_hasRoom [pv_r m, pv_i x2] B I (fun v5 I4 => (((¬ v5 = 0) → rs_v mt_X11_movesTo [pv_r m, pv_i x1, pv_i x2] B I4 (fun I6 => rs_v mt_X11_writes [pv_r m, pv_i (7 : Int32), pv_i x1, pv_i (-1 : Int32), pv_i (0 : Int32)] B I6 (fun I7 => rs_v mt_X11_closes [pv_r m] B I7 (fun I8 => P (0 : Int32) I8)))) ∧ ((v5 = 0) → (I4 m 8 = 0) ∧ (∀ I9, I9 = i2_u I4 m 7 (I4 m 7 + 1) → P (-4 : Int32) I9))))) ∧ ((¬ I (m + 1) ((10 + 10 * n3) + 3) = 0) → (I m 8 = 0) ∧ (∀ I10, I10 = i2_u I m 7 (I m 7 + 1) → P (-3 : Int32) I10))))))) ∧ ((¬ (I (m + 1) (200 + 14 * n1 + 6) ≤ 2)) → (I m 8 = 0) ∧ (∀ I11, I11 = i2_u I m 7 (I m 7 + 1) → P (-3 : Int32) I11))))) ∧ ((¬ (0 ≤ x2 ∧ x2 ≤ 4)) → (I m 8 = 0) ∧ (∀ I12, I12 = i2_u I m 7 (I m 7 + 1) → P (-2 : Int32) I12)))) ∧ ((¬ (0 ≤ x1 ∧ x1 ≤ I (m + 1) 1 - 1)) → (I m 8 = 0) ∧ (∀ I13, I13 = i2_u I m 7 (I m 7 + 1) → P (-2 : Int32) I13)))) : rw_i mt_X11_move 0 [some (pv_r m), some (pv_i x1), some (pv_i x2)] [] B I P := by
  refine go_aload_n dX11_move_0 rfl ?_
  refine go_iload_n dX11_move_1 rfl ?_
  by_cases hc : (0 ≤ x1 ∧ x1 ≤ I (m + 1) 1 - 1)
  · replace H := H.1 hc
    refine go_V (av := [pv_i x1]) (st := []) (ci := 11) ok_X11_isTask ⟨by decide, by decide⟩ ml_X11_161 rfl (by decide) (fun v hv => by simp only [List.mem_cons, List.not_mem_nil, or_false] at hv; rcases hv with rfl <;> first | exact pv_1i | exact pv_1r) (Nat.le_of_ble_eq_true rfl) (fun _ h => h) (by decide) rfl RK.1 dX11_move_2 (rx_isTask_t RK hc) (fun r M' hq _ => ?_)
    obtain ⟨_, rfl, _, rfl, rfl, rfl⟩ := hq
    show go_W mt_X11_move fr_R 5 [some (pv_r m), some (pv_i x1), some (pv_i x2)] [pv_i (1 : Int32)] (mm_si B I) (qi_ (fun x M' => ∃ I', M' = mm_si B I' ∧ P x I'))
    refine go_if_eq (tgt := 16) dX11_move_5 (by decide) (fun hc => absurd hc (by decide)) (fun _ => ?_)
    refine go_aload_n dX11_move_8 rfl ?_
    refine go_iload_n dX11_move_9 rfl ?_
    by_cases hc : (0 ≤ x2 ∧ x2 ≤ 4)
    · replace H := H.1 hc
      refine go_V (av := [pv_i x2]) (st := []) (ci := 11) ok_X11_isLane ⟨by decide, by decide⟩ ml_X11_152 rfl (by decide) (fun v hv => by simp only [List.mem_cons, List.not_mem_nil, or_false] at hv; rcases hv with rfl <;> first | exact pv_1i | exact pv_1r) (Nat.le_of_ble_eq_true rfl) (fun _ h => h) (by decide) rfl RK.1 dX11_move_10 (rx_isLane_t RK hc) (fun r M' hq _ => ?_)
      obtain ⟨_, rfl, _, rfl, rfl, rfl⟩ := hq
      show go_W mt_X11_move fr_R 13 [some (pv_r m), some (pv_i x1), some (pv_i x2)] [pv_i (1 : Int32)] (mm_si B I) (qi_ (fun x M' => ∃ I', M' = mm_si B I' ∧ P x I'))
      refine go_if_ne (tgt := 23) dX11_move_13 (by decide) (fun _ => ?_) (fun hc => absurd hc (by decide))
      refine go_aload_n dX11_move_23 rfl ?_
      refine go_iload_n dX11_move_24 rfl ?_
      obtain ⟨n1, ⟨hn1, hn1b⟩, H⟩ := H
      by_cases hc : (I (m + 1) (200 + 14 * n1 + 6) ≤ 2)
      · replace H := H.1 hc
        refine go_V (av := [pv_i x1]) (st := []) (ci := 11) ok_X11_isAtRest ⟨by decide, by decide⟩ ml_X11_230 rfl (by decide) (fun v hv => by simp only [List.mem_cons, List.not_mem_nil, or_false] at hv; rcases hv with rfl <;> first | exact pv_1i | exact pv_1r) (Nat.le_of_ble_eq_true rfl) (fun _ h => h) (by decide) rfl RK.1 dX11_move_25 (rx_isAtRest_t RK hn1 hn1b hc) (fun r M' hq _ => ?_)
        obtain ⟨_, rfl, _, rfl, rfl, rfl⟩ := hq
        show go_W mt_X11_move fr_R 28 [some (pv_r m), some (pv_i x1), some (pv_i x2)] [pv_i (1 : Int32)] (mm_si B I) (qi_ (fun x M' => ∃ I', M' = mm_si B I' ∧ P x I'))
        refine go_if_eq (tgt := 55) dX11_move_28 (by decide) (fun hc => absurd hc (by decide)) (fun _ => ?_)
        refine go_aload_n dX11_move_31 rfl ?_
        refine go_iload_n dX11_move_32 rfl ?_
        refine go_iconst (v := (0 : Int32)) rfl dX11_move_33 ?_
        refine go_V (av := [pv_i x1, pv_i (0 : Int32)]) (st := []) (ci := 11) ok_X11_of ⟨by decide, by decide⟩ ml_X11_94 rfl (by decide) (fun v hv => by simp only [List.mem_cons, List.not_mem_nil, or_false] at hv; rcases hv with rfl | rfl <;> first | exact pv_1i | exact pv_1r) (Nat.le_of_ble_eq_true rfl) (fun _ h => h) (by decide) rfl RK.1 dX11_move_34 (rx_of RK hn1 rfl (by omega) (by decide)) (fun r M' hq _ => ?_)
        obtain ⟨_, rfl, _, rfl, rfl, rfl⟩ := hq
        show go_W mt_X11_move fr_R 37 [some (pv_r m), some (pv_i x1), some (pv_i x2)] [pv_i (I (m + 1) (200 + 14 * n1 + 0))] (mm_si B I) (qi_ (fun x M' => ∃ I', M' = mm_si B I' ∧ P x I'))
        refine go_iload_n dX11_move_37 rfl ?_
        refine go_icmp_eq (tgt := 55) dX11_move_38 (by decide) (fun hc => ?_) (fun hc => ?_)
        · replace H := H.1 hc
          refine go_aload_n dX11_move_55 rfl ?_
          refine go_bipush (v := (-3 : Int32)) rfl dX11_move_56 ?_
          obtain ⟨h8, H⟩ := H
          refine go_V (av := [pv_i (-3 : Int32)]) (st := []) (ci := 11) ok_X11_refuses ⟨by decide, by decide⟩ ml_X11_199 rfl (by decide) (fun v hv => by simp only [List.mem_cons, List.not_mem_nil, or_false] at hv; rcases hv with rfl <;> first | exact pv_1i | exact pv_1r) (Nat.le_of_ble_eq_true rfl) (fun _ h => h) (by decide) rfl RK.1 dX11_move_58 (rx_refuses RK h8) (fun r M' hq _ => ?_)
          obtain ⟨_, rfl, _, rfl, rfl, rfl⟩ := hq
          show go_W mt_X11_move fr_R 61 [some (pv_r m), some (pv_i x1), some (pv_i x2)] [pv_i (-3 : Int32)] (mm_si B (i2_u I m 7 (I m 7 + 1))) (qi_ (fun x M' => ∃ I', M' = mm_si B I' ∧ P x I'))
          obtain ⟨I2, hI2⟩ : ∃ I', I' = i2_u I m 7 (I m 7 + 1) := ⟨_, rfl⟩
          rw [← hI2]
          replace H := H I2 hI2
          exact go_iret rfl rfl dX11_move_61 ⟨_, rfl, _, rfl, H⟩
        · replace H := H.2 hc
          refine go_aload_n dX11_move_41 rfl ?_
          refine go_getRe (k := 0) ⟨by decide, rfl, by decide, Or.inr ⟨_, rfl⟩⟩ RK.1 (rf_r1 RK) fl_X11_7 dX11_move_42 ?_
          refine go_iload_n dX11_move_45 rfl ?_
          obtain ⟨n3, ⟨hn3, hn3b⟩, H⟩ := H
          refine go_St (av := [pv_i x2]) (st := [pv_r (m + 1)]) ok_X11_at ⟨by decide, by decide⟩ ml_X11_80 rfl (by decide) (fun v hv => by simp only [List.mem_cons, List.not_mem_nil, or_false] at hv; rcases hv with rfl <;> first | exact pv_1i | exact pv_1r) (Nat.le_of_ble_eq_true rfl) (fun _ h => h) dX11_move_46 (rx_at RK hn3) (fun r M' hq _ => ?_)
          obtain ⟨_, rfl, _, rfl, rfl, rfl⟩ := hq
          show go_W mt_X11_move fr_R 49 [some (pv_r m), some (pv_i x1), some (pv_i x2)] [pv_i (nI (10 + 10 * n3)), pv_r (m + 1)] (mm_si B I) (qi_ (fun x M' => ∃ I', M' = mm_si B I' ∧ P x I'))
          refine go_iconst (v := (3 : Int32)) rfl dX11_move_49 ?_
          refine go_iadd dX11_move_50 ?_
          refine go_ialdN (j := ((10 + 10 * n3) + 3)) ⟨by decide, by decide, by decide⟩ (rf_k1 RK) (nI_ae rfl rfl) (by omega) dX11_move_51 ?_
          refine go_if_eq (tgt := 62) dX11_move_52 (by decide) (fun hc => ?_) (fun hc => ?_)
          · replace H := H.1 hc
            refine go_aload_n dX11_move_62 rfl ?_
            refine go_iload_n dX11_move_63 rfl ?_
            refine go_V (av := [pv_i x2]) (st := []) (ci := 11) ok_X11_hasRoom ⟨by decide, by decide⟩ ml_X11_164 rfl (by decide) (fun v hv => by simp only [List.mem_cons, List.not_mem_nil, or_false] at hv; rcases hv with rfl <;> first | exact pv_1i | exact pv_1r) (Nat.le_of_ble_eq_true rfl) (fun _ h => h) (by decide) rfl RK.1 dX11_move_64 H (fun r M' hq _ => ?_)
            obtain ⟨v5, rfl, I4, rfl, H⟩ := hq
            show go_W mt_X11_move fr_R 67 [some (pv_r m), some (pv_i x1), some (pv_i x2)] [pv_i v5] (mm_si B I4) (qi_ (fun x M' => ∃ I', M' = mm_si B I' ∧ P x I'))
            refine go_if_ne (tgt := 77) dX11_move_67 (by decide) (fun hc => ?_) (fun hc => ?_)
            · replace H := H.1 hc
              refine go_aload_n dX11_move_77 rfl ?_
              refine go_iload_n dX11_move_78 rfl ?_
              refine go_iload_n dX11_move_79 rfl ?_
              refine go_V (av := [pv_i x1, pv_i x2]) (st := []) (ci := 11) ok_X11_movesTo ⟨by decide, by decide⟩ ml_X11_233 rfl (by decide) (fun v hv => by simp only [List.mem_cons, List.not_mem_nil, or_false] at hv; rcases hv with rfl | rfl <;> first | exact pv_1i | exact pv_1r) (Nat.le_of_ble_eq_true rfl) (fun _ h => h) (by decide) rfl RK.1 dX11_move_80 H (fun r M' hq _ => ?_)
              obtain ⟨rfl, I6, rfl, H⟩ := hq
              show go_W mt_X11_move fr_R 83 [some (pv_r m), some (pv_i x1), some (pv_i x2)] [] (mm_si B I6) (qi_ (fun x M' => ∃ I', M' = mm_si B I' ∧ P x I'))
              refine go_aload_n dX11_move_83 rfl ?_
              refine go_bipush (v := (7 : Int32)) rfl dX11_move_84 ?_
              refine go_iload_n dX11_move_86 rfl ?_
              refine go_iconst (v := (-1 : Int32)) rfl dX11_move_87 ?_
              refine go_iconst (v := (0 : Int32)) rfl dX11_move_88 ?_
              refine go_V (av := [pv_i (7 : Int32), pv_i x1, pv_i (-1 : Int32), pv_i (0 : Int32)]) (st := []) (ci := 11) ok_X11_writes ⟨by decide, by decide⟩ ml_X11_125 rfl (by decide) (fun v hv => by simp only [List.mem_cons, List.not_mem_nil, or_false] at hv; rcases hv with rfl | rfl | rfl | rfl <;> first | exact pv_1i | exact pv_1r) (Nat.le_of_ble_eq_true rfl) (fun _ h => h) (by decide) rfl RK.1 dX11_move_89 H (fun r M' hq _ => ?_)
              obtain ⟨rfl, I7, rfl, H⟩ := hq
              show go_W mt_X11_move fr_R 92 [some (pv_r m), some (pv_i x1), some (pv_i x2)] [] (mm_si B I7) (qi_ (fun x M' => ∃ I', M' = mm_si B I' ∧ P x I'))
              refine go_aload_n dX11_move_92 rfl ?_
              refine go_V (av := []) (st := []) (ci := 11) ok_X11_closes ⟨by decide, by decide⟩ ml_X11_143 rfl (by decide) (fun v hv => absurd hv List.not_mem_nil) (Nat.le_of_ble_eq_true rfl) (fun _ h => h) (by decide) rfl RK.1 dX11_move_93 H (fun r M' hq _ => ?_)
              obtain ⟨rfl, I8, rfl, H⟩ := hq
              show go_W mt_X11_move fr_R 96 [some (pv_r m), some (pv_i x1), some (pv_i x2)] [] (mm_si B I8) (qi_ (fun x M' => ∃ I', M' = mm_si B I' ∧ P x I'))
              refine go_iconst (v := (0 : Int32)) rfl dX11_move_96 ?_
              exact go_iret rfl rfl dX11_move_97 ⟨_, rfl, _, rfl, H⟩
            · replace H := H.2 hc
              refine go_aload_n dX11_move_70 rfl ?_
              refine go_bipush (v := (-4 : Int32)) rfl dX11_move_71 ?_
              obtain ⟨h8, H⟩ := H
              refine go_V (av := [pv_i (-4 : Int32)]) (st := []) (ci := 11) ok_X11_refuses ⟨by decide, by decide⟩ ml_X11_199 rfl (by decide) (fun v hv => by simp only [List.mem_cons, List.not_mem_nil, or_false] at hv; rcases hv with rfl <;> first | exact pv_1i | exact pv_1r) (Nat.le_of_ble_eq_true rfl) (fun _ h => h) (by decide) rfl RK.1 dX11_move_73 (rx_refuses RK h8) (fun r M' hq _ => ?_)
              obtain ⟨_, rfl, _, rfl, rfl, rfl⟩ := hq
              show go_W mt_X11_move fr_R 76 [some (pv_r m), some (pv_i x1), some (pv_i x2)] [pv_i (-4 : Int32)] (mm_si B (i2_u I4 m 7 (I4 m 7 + 1))) (qi_ (fun x M' => ∃ I', M' = mm_si B I' ∧ P x I'))
              obtain ⟨I9, hI9⟩ : ∃ I', I' = i2_u I4 m 7 (I4 m 7 + 1) := ⟨_, rfl⟩
              rw [← hI9]
              replace H := H I9 hI9
              exact go_iret rfl rfl dX11_move_76 ⟨_, rfl, _, rfl, H⟩
          · replace H := H.2 hc
            refine go_aload_n dX11_move_55 rfl ?_
            refine go_bipush (v := (-3 : Int32)) rfl dX11_move_56 ?_
            obtain ⟨h8, H⟩ := H
            refine go_V (av := [pv_i (-3 : Int32)]) (st := []) (ci := 11) ok_X11_refuses ⟨by decide, by decide⟩ ml_X11_199 rfl (by decide) (fun v hv => by simp only [List.mem_cons, List.not_mem_nil, or_false] at hv; rcases hv with rfl <;> first | exact pv_1i | exact pv_1r) (Nat.le_of_ble_eq_true rfl) (fun _ h => h) (by decide) rfl RK.1 dX11_move_58 (rx_refuses RK h8) (fun r M' hq _ => ?_)
            obtain ⟨_, rfl, _, rfl, rfl, rfl⟩ := hq
            show go_W mt_X11_move fr_R 61 [some (pv_r m), some (pv_i x1), some (pv_i x2)] [pv_i (-3 : Int32)] (mm_si B (i2_u I m 7 (I m 7 + 1))) (qi_ (fun x M' => ∃ I', M' = mm_si B I' ∧ P x I'))
            obtain ⟨I10, hI10⟩ : ∃ I', I' = i2_u I m 7 (I m 7 + 1) := ⟨_, rfl⟩
            rw [← hI10]
            replace H := H I10 hI10
            exact go_iret rfl rfl dX11_move_61 ⟨_, rfl, _, rfl, H⟩
      · replace H := H.2 hc
        refine go_V (av := [pv_i x1]) (st := []) (ci := 11) ok_X11_isAtRest ⟨by decide, by decide⟩ ml_X11_230 rfl (by decide) (fun v hv => by simp only [List.mem_cons, List.not_mem_nil, or_false] at hv; rcases hv with rfl <;> first | exact pv_1i | exact pv_1r) (Nat.le_of_ble_eq_true rfl) (fun _ h => h) (by decide) rfl RK.1 dX11_move_25 (rx_isAtRest_f RK hn1 hn1b hc) (fun r M' hq _ => ?_)
        obtain ⟨_, rfl, _, rfl, rfl, rfl⟩ := hq
        show go_W mt_X11_move fr_R 28 [some (pv_r m), some (pv_i x1), some (pv_i x2)] [pv_i (0 : Int32)] (mm_si B I) (qi_ (fun x M' => ∃ I', M' = mm_si B I' ∧ P x I'))
        refine go_if_eq (tgt := 55) dX11_move_28 (by decide) (fun _ => ?_) (fun hc => absurd hc (by decide))
        refine go_aload_n dX11_move_55 rfl ?_
        refine go_bipush (v := (-3 : Int32)) rfl dX11_move_56 ?_
        obtain ⟨h8, H⟩ := H
        refine go_V (av := [pv_i (-3 : Int32)]) (st := []) (ci := 11) ok_X11_refuses ⟨by decide, by decide⟩ ml_X11_199 rfl (by decide) (fun v hv => by simp only [List.mem_cons, List.not_mem_nil, or_false] at hv; rcases hv with rfl <;> first | exact pv_1i | exact pv_1r) (Nat.le_of_ble_eq_true rfl) (fun _ h => h) (by decide) rfl RK.1 dX11_move_58 (rx_refuses RK h8) (fun r M' hq _ => ?_)
        obtain ⟨_, rfl, _, rfl, rfl, rfl⟩ := hq
        show go_W mt_X11_move fr_R 61 [some (pv_r m), some (pv_i x1), some (pv_i x2)] [pv_i (-3 : Int32)] (mm_si B (i2_u I m 7 (I m 7 + 1))) (qi_ (fun x M' => ∃ I', M' = mm_si B I' ∧ P x I'))
        obtain ⟨I11, hI11⟩ : ∃ I', I' = i2_u I m 7 (I m 7 + 1) := ⟨_, rfl⟩
        rw [← hI11]
        replace H := H I11 hI11
        exact go_iret rfl rfl dX11_move_61 ⟨_, rfl, _, rfl, H⟩
    · replace H := H.2 hc
      refine go_V (av := [pv_i x2]) (st := []) (ci := 11) ok_X11_isLane ⟨by decide, by decide⟩ ml_X11_152 rfl (by decide) (fun v hv => by simp only [List.mem_cons, List.not_mem_nil, or_false] at hv; rcases hv with rfl <;> first | exact pv_1i | exact pv_1r) (Nat.le_of_ble_eq_true rfl) (fun _ h => h) (by decide) rfl RK.1 dX11_move_10 (rx_isLane_f RK hc) (fun r M' hq _ => ?_)
      obtain ⟨_, rfl, _, rfl, rfl, rfl⟩ := hq
      show go_W mt_X11_move fr_R 13 [some (pv_r m), some (pv_i x1), some (pv_i x2)] [pv_i (0 : Int32)] (mm_si B I) (qi_ (fun x M' => ∃ I', M' = mm_si B I' ∧ P x I'))
      refine go_if_ne (tgt := 23) dX11_move_13 (by decide) (fun hc => absurd hc (by decide)) (fun _ => ?_)
      refine go_aload_n dX11_move_16 rfl ?_
      refine go_bipush (v := (-2 : Int32)) rfl dX11_move_17 ?_
      obtain ⟨h8, H⟩ := H
      refine go_V (av := [pv_i (-2 : Int32)]) (st := []) (ci := 11) ok_X11_refuses ⟨by decide, by decide⟩ ml_X11_199 rfl (by decide) (fun v hv => by simp only [List.mem_cons, List.not_mem_nil, or_false] at hv; rcases hv with rfl <;> first | exact pv_1i | exact pv_1r) (Nat.le_of_ble_eq_true rfl) (fun _ h => h) (by decide) rfl RK.1 dX11_move_19 (rx_refuses RK h8) (fun r M' hq _ => ?_)
      obtain ⟨_, rfl, _, rfl, rfl, rfl⟩ := hq
      show go_W mt_X11_move fr_R 22 [some (pv_r m), some (pv_i x1), some (pv_i x2)] [pv_i (-2 : Int32)] (mm_si B (i2_u I m 7 (I m 7 + 1))) (qi_ (fun x M' => ∃ I', M' = mm_si B I' ∧ P x I'))
      obtain ⟨I12, hI12⟩ : ∃ I', I' = i2_u I m 7 (I m 7 + 1) := ⟨_, rfl⟩
      rw [← hI12]
      replace H := H I12 hI12
      exact go_iret rfl rfl dX11_move_22 ⟨_, rfl, _, rfl, H⟩
  · replace H := H.2 hc
    refine go_V (av := [pv_i x1]) (st := []) (ci := 11) ok_X11_isTask ⟨by decide, by decide⟩ ml_X11_161 rfl (by decide) (fun v hv => by simp only [List.mem_cons, List.not_mem_nil, or_false] at hv; rcases hv with rfl <;> first | exact pv_1i | exact pv_1r) (Nat.le_of_ble_eq_true rfl) (fun _ h => h) (by decide) rfl RK.1 dX11_move_2 (rx_isTask_f RK hc) (fun r M' hq _ => ?_)
    obtain ⟨_, rfl, _, rfl, rfl, rfl⟩ := hq
    show go_W mt_X11_move fr_R 5 [some (pv_r m), some (pv_i x1), some (pv_i x2)] [pv_i (0 : Int32)] (mm_si B I) (qi_ (fun x M' => ∃ I', M' = mm_si B I' ∧ P x I'))
    refine go_if_eq (tgt := 16) dX11_move_5 (by decide) (fun _ => ?_) (fun hc => absurd hc (by decide))
    refine go_aload_n dX11_move_16 rfl ?_
    refine go_bipush (v := (-2 : Int32)) rfl dX11_move_17 ?_
    obtain ⟨h8, H⟩ := H
    refine go_V (av := [pv_i (-2 : Int32)]) (st := []) (ci := 11) ok_X11_refuses ⟨by decide, by decide⟩ ml_X11_199 rfl (by decide) (fun v hv => by simp only [List.mem_cons, List.not_mem_nil, or_false] at hv; rcases hv with rfl <;> first | exact pv_1i | exact pv_1r) (Nat.le_of_ble_eq_true rfl) (fun _ h => h) (by decide) rfl RK.1 dX11_move_19 (rx_refuses RK h8) (fun r M' hq _ => ?_)
    obtain ⟨_, rfl, _, rfl, rfl, rfl⟩ := hq
    show go_W mt_X11_move fr_R 22 [some (pv_r m), some (pv_i x1), some (pv_i x2)] [pv_i (-2 : Int32)] (mm_si B (i2_u I m 7 (I m 7 + 1))) (qi_ (fun x M' => ∃ I', M' = mm_si B I' ∧ P x I'))
    obtain ⟨I13, hI13⟩ : ∃ I', I' = i2_u I m 7 (I m 7 + 1) := ⟨_, rfl⟩
    rw [← hI13]
    replace H := H I13 hI13
    exact go_iret rfl rfl dX11_move_22 ⟨_, rfl, _, rfl, H⟩
